/-! WHAT IS TOLD -/
theorem isP {σ : St} {P : Nat} (p0 : σ.1 4 0 = nI P) (hP : P ≤ 8) (p : Int32) : (∃ k, k < P ∧ p = nI k ∧ fX8_isPerson p σ = 1) ∨ ((∀ k, k < P → p ≠ nI k) ∧ fX8_isPerson p σ = 0) := by
  have e1 : fX8_isPerson p σ = if p < 0 then (0 : Int32) else if nI P ≤ p then (0 : Int32) else (1 : Int32) := by unfold fX8_isPerson; rw [p0]
  rw [e1]
  exact upTo_c p hP
theorem isG {σ : St} {G : Nat} (g0 : σ.1 4 6 = nI G) (hG : G ≤ 8) (p : Int32) : (∃ k, k < G ∧ p = nI k ∧ fX8_isGift p σ = 1) ∨ ((∀ k, k < G → p ≠ nI k) ∧ fX8_isGift p σ = 0) := by
  have e1 : fX8_isGift p σ = if p < 0 then (0 : Int32) else if nI G ≤ p then (0 : Int32) else (1 : Int32) := by unfold fX8_isGift; rw [g0]
  rw [e1]
  exact upTo_c p hG
theorem isP1 {σ : St} {P k : Nat} (p0 : σ.1 4 0 = nI P) (hP : P ≤ 8) (hk : k < P) : fX8_isPerson (nI k) σ = 1 := (isP p0 hP (nI k)).elim (fun ⟨_, _, _, e⟩ => e) (fun h => absurd rfl (h.1 k hk))
theorem isG1 {σ : St} {G k : Nat} (g0 : σ.1 4 6 = nI G) (hG : G ≤ 8) (hk : k < G) : fX8_isGift (nI k) σ = 1 := (isG g0 hG (nI k)).elim (fun ⟨_, _, _, e⟩ => e) (fun h => absurd rfl (h.1 k hk))
theorem isP0 {σ : St} {P : Nat} (p0 : σ.1 4 0 = nI P) (hP : P ≤ 8) : fX8_isPerson (nI P) σ = 0 := (isP p0 hP (nI P)).elim (fun ⟨k, h, e, _⟩ => absurd ((nI_inj (a := P) (b := k) (by omega) (by omega)).mp e) (by omega)) (fun h => h.2)
theorem isG0 {σ : St} {G : Nat} (g0 : σ.1 4 6 = nI G) (hG : G ≤ 8) : fX8_isGift (nI G) σ = 0 := (isG g0 hG (nI G)).elim (fun ⟨k, h, e, _⟩ => absurd ((nI_inj (a := G) (b := k) (by omega) (by omega)).mp e) (by omega)) (fun h => h.2)
theorem two1 {σ : St} {P j k : Nat} (p0 : σ.1 4 0 = nI P) (hP : P ≤ 8) (hj : j < P) (hk : k < P) (h : j ≠ k) : fX8_areTwo (nI j) (nI k) σ = 1 := by
  unfold fX8_areTwo
  rw [isP1 p0 hP hj, isP1 p0 hP hk, if_neg (by decide), if_neg (by decide), if_neg (fun q => h ((nI_inj (by omega) (by omega)).mp q))]
theorem q_owes {σ : St} {P j k : Nat} (p0 : σ.1 4 0 = nI P) (hP : P ≤ 8) (hj : j < P) (hk : k < P) (h : j ≠ k) : fX8_owes (nI j) (nI k) σ = some (σ.1 9 (8 * j + k)) := by
  unfold fX8_owes
  rw [two1 p0 hP hj hk h, if_neg (by decide), pairN, grd_t (inbN (show 8 * j + k < 64 by omega) (by decide)), tcl (by omega)]
theorem wi03 (j : Nat) (hj : j ≤ 3) : fX8_within (nI j) (0 : Int32) (3 : Int32) = 1 := by
  rcases (show j = 0 ∨ j = 1 ∨ j = 2 ∨ j = 3 by omega) with rfl | rfl | rfl | rfl <;> rfl
theorem q_about {σ : St} {P k : Nat} (p0 : σ.1 4 0 = nI P) (hP : P ≤ 8) (hk : k < P) : fX8_about (nI k) (0 : Int32) σ = some (σ.1 5 k) ∧ fX8_about (nI k) (1 : Int32) σ = Option.bind (fX7_heldBy 4 (nI k) σ) (fun q => some q) ∧ fX8_about (nI k) (2 : Int32) σ = some (σ.1 6 k) ∧ fX8_about (nI k) (3 : Int32) σ = some (σ.1 7 k) := by
  unfold fX8_about
  rw [isP1 p0 hP hk]
  simp (disch := omega) only [grd_t (inbN (show k < 8 by omega) (by decide)), tcl]
  exact ⟨rfl, rfl, rfl, rfl⟩
theorem restL {B : Nat} {σ : St} {P G : Nat} (h : WL 4 60 62 63 B σ σ P G) {c : Nat} (hc : c < P) (c4 c5 : Int32) : ∀ (d i n m : Nat) (a : Int32), i + d = P → d < n → d < m → ∃ r, fX7_balance_L4 4 (nI c) σ n a (nI i) = some r ∧ fL_stands_L23 60 27 63 64 62 64 c4 c5 (nI c) σ m a (nI i) = some (.inr r) := by
  obtain ⟨⟨hP, hG⟩, ⟨p0, p1⟩, ⟨g0, g1⟩, hwh, hwk, hwf, hwl, hwd, hwg, v1, v2, v4⟩ := id h
  intro d
  induction d with
  | zero =>
    intro i n m a hi hn hm
    obtain ⟨n, rfl, -⟩ := su hn
    obtain ⟨m, rfl, -⟩ := su hm
    have e : i = P := by omega
    subst e
    rw [fX7_balance_L4, fL_stands_L23, grd_t (show inb (0 : Int32) 27 = true from by decide), show (0 : Int32).toNatClampNeg = 0 from rfl, p0, p1, if_pos (nI_le (a := i) (b := i) (by omega) (by omega)), if_pos (nI_le (a := i) (b := i) (by omega) (by omega))]
    exact ⟨a, rfl, rfl⟩
  | succ d ih =>
    intro i n m a hi hn hm
    obtain ⟨n, rfl, hn⟩ := su hn
    obtain ⟨m, rfl, hm⟩ := su hm
    rw [fX7_balance_L4, fL_stands_L23, grd_t (show inb (0 : Int32) 27 = true from by decide), show (0 : Int32).toNatClampNeg = 0 from rfl, p0, p1, if_neg (nI_ge (a := i) (b := P) (by omega) (by omega)), if_neg (nI_ge (a := i) (b := P) (by omega) (by omega)), pairN, pairN, grd_t (inbN (show 8 * i + c < 64 by omega) (by decide)), grd_t (inbN (show 8 * c + i < 64 by omega) (by decide)), tcl (by omega), tcl (by omega)]
    by_cases e : c = i
    · subst e
      rw [if_pos rfl, Int32.sub_self, Int32.add_zero]
      simp only [bnd, nI_1]
      exact ih (c + 1) n m a (by omega) (by omega) (by omega)
    · rw [if_neg (fun q => e ((nI_inj (by omega) (by omega)).mp q)), q_owes p0 hP hc (show i < P by omega) e, ix8, ix8]
      simp only [Option.bind_some]
      rw [grd_t (inbN (show 8 * c + i < 64 by omega) (by decide)), grd_t (inbN (show 8 * i + c < 64 by omega) (by decide)), grd_t (inbN (show 8 * c + i < 64 by omega) (by decide)), tcl (by omega), tcl (by omega), if_pos (hwd (8 * c + i) (by omega))]
      simp only [bnd, nI_1]
      rw [show σ.1 (4 + 5) (8 * i + c) = σ.1 62 (8 * i + c) from hwd _ (by omega), show σ.1 (4 + 5) (8 * c + i) = σ.1 62 (8 * c + i) from hwd _ (by omega)]
      exact ih (i + 1) n m _ (by omega) (by omega) (by omega)
theorem peopleS {B : Nat} {σ : St} {P G : Nat} (h : WL 4 60 62 63 B σ σ P G) (c5 : Int32) : ∀ (d i n m : Nat) (a : Int32), i + d = P → d < n → d < m → ∃ r, fX7_allFeasts_L4 4 σ n a (nI i) = some r ∧ fL_stands_L9 60 27 63 64 62 64 c5 σ m a (nI i) = some (.inr r) := by
  obtain ⟨⟨hP, hG⟩, ⟨p0, p1⟩, ⟨g0, g1⟩, hwh, hwk, hwf, hwl, hwd, hwg, v1, v2, v4⟩ := id h
  intro d
  induction d with
  | zero =>
    intro i n m a hi hn hm
    obtain ⟨n, rfl, -⟩ := su hn
    obtain ⟨m, rfl, -⟩ := su hm
    have e : i = P := by omega
    subst e
    rw [fX7_allFeasts_L4, fL_stands_L9, grd_t (show inb (0 : Int32) 27 = true from by decide), show (0 : Int32).toNatClampNeg = 0 from rfl, p0, p1, if_pos (nI_le (a := i) (b := i) (by omega) (by omega)), if_pos (nI_le (a := i) (b := i) (by omega) (by omega))]
    exact ⟨a, rfl, rfl⟩
  | succ d ih =>
    intro i n m a hi hn hm
    obtain ⟨n, rfl, hn⟩ := su hn
    obtain ⟨m, rfl, hm⟩ := su hm
    rw [fX7_allFeasts_L4, fL_stands_L9, grd_t (show inb (0 : Int32) 27 = true from by decide), show (0 : Int32).toNatClampNeg = 0 from rfl, p0, p1, if_neg (nI_ge (a := i) (b := P) (by omega) (by omega)), if_neg (nI_ge (a := i) (b := P) (by omega) (by omega))]
    obtain ⟨r, b1, b2⟩ := restL h (show i < P by omega) a c5 P 0 fu fu (nI 0) (by omega) (fu_gt (by omega)) (fu_gt (by omega))
    obtain ⟨t, ht, k1, k2⟩ := held h (nI i)
    obtain ⟨a0, a1, a2, a3⟩ := q_about p0 hP (show i < P by omega)
    have b3 : fX8_rest (nI i) σ = some r := by
      unfold fX8_rest fX7_balance
      rw [isP1 p0 hP (show i < P by omega), if_neg (by decide), show (0 : Int32) = nI 0 from rfl, b1]
      rfl
    rw [show fL_stands_L23 60 27 63 64 62 64 a c5 (nI i) σ fu (0 : Int32) (0 : Int32) = some (.inr r) from b2, a0, a1, a2, a3, b3, k1, k2]
    simp only [Option.bind_some, Sum.elim_inr, if_true]
    rw [n1p, n9p, n17p, grd_t (inbN (show 1 + i < 27 by omega) (by decide)), grd_t (inbN (show 9 + i < 27 by omega) (by decide)), grd_t (inbN (show 17 + i < 27 by omega) (by decide)), grd_t (inbN (show 17 + i < 27 by omega) (by decide)), grd_t (inbN (show i < 8 by omega) (by decide)), tcl (by omega), tcl (by omega), tcl (by omega), tcl (by omega), if_pos (hwh i (by omega)), if_pos (hwk i (by omega)), if_pos (hwf i (by omega))]
    simp only [bnd, nI_1]
    rw [show σ.1 (4 + 3) i = σ.1 60 (17 + i) from hwf i (by omega)]
    exact ih (i + 1) n m _ (by omega) (by omega) (by omega)
theorem wi08 (j : Nat) (hj : j ≤ 8) : fX8_within (nI j) (0 : Int32) (8 : Int32) = 1 := by
  rcases (show j = 0 ∨ j = 1 ∨ j = 2 ∨ j = 3 ∨ j = 4 ∨ j = 5 ∨ j = 6 ∨ j = 7 ∨ j = 8 by omega) with rfl | rfl | rfl | rfl | rfl | rfl | rfl | rfl | rfl <;> rfl
theorem q_told {σ : St} {G k : Nat} (g0 : σ.1 4 6 = nI G) (hG : G ≤ 8) (hk : k < G) : (∀ j, j < 6 → fX8_told (nI k) (nI j) σ = some (σ.1 (4 + 7 + k) j)) ∧ fX8_told (nI k) (6 : Int32) σ = some (fX3_worth (4 + 7 + k) σ) ∧ fX8_told (nI k) (7 : Int32) σ = some (σ.1 (4 + 7 + k) 6) ∧ fX8_told (nI k) (8 : Int32) σ = some (σ.1 (4 + 7 + k) 7) := by
  refine ⟨fun j hj => ?_, ?_, ?_, ?_⟩
  · unfold fX8_told
    rw [isG1 g0 hG hk, grd_t (inbN (show k < 8 by omega) (by decide)), tcl (by omega)]
    rcases (show j = 0 ∨ j = 1 ∨ j = 2 ∨ j = 3 ∨ j = 4 ∨ j = 5 by omega) with rfl | rfl | rfl | rfl | rfl | rfl <;> rfl
  · unfold fX8_told
    rw [isG1 g0 hG hk, grd_t (inbN (show k < 8 by omega) (by decide)), tcl (by omega)]; rfl
  · unfold fX8_told
    rw [isG1 g0 hG hk, grd_t (inbN (show k < 8 by omega) (by decide)), tcl (by omega)]; rfl
  · unfold fX8_told
    rw [isG1 g0 hG hk, grd_t (inbN (show k < 8 by omega) (by decide)), tcl (by omega)]; rfl
theorem toldL {B : Nat} {σ : St} {P G : Nat} (h : WL 4 60 62 63 B σ σ P G) {k : Nat} (hk : k < G) (c4 c5 : Int32) : ∀ (d i n : Nat), i + d = 6 → d < n → fL_stands_L216 60 27 63 64 c4 c5 (nI k) (nI (8 * k)) σ n (nI i) = some (.inr ()) := by
  have hG := h.1.2
  intro d
  induction d with
  | zero =>
    intro i n hi hn
    obtain ⟨n, rfl, -⟩ := su hn
    have e : i = 6 := by omega
    subst e
    rw [fL_stands_L216, if_pos (show (6 : Int32) ≤ nI 6 by decide)]
  | succ d ih =>
    intro i n hi hn
    obtain ⟨n, rfl, hn⟩ := su hn
    have hp : pm i = i := by unfold pm; rw [if_neg (by omega), if_neg (by omega)]
    have e := h.2.2.2.2.2.2.2.2.1 k (by omega) i (by omega)
    rw [hp] at e
    rw [fL_stands_L216, if_neg (show ¬ (6 : Int32) ≤ nI i from nI_ge (a := i) (b := 6) (by omega) (by decide)), (q_told h.2.2.1.1 hG hk).1 i (by omega)]
    simp only [Option.bind_some]
    rw [nI_add, grd_t (inbN (show 8 * k + i < 64 by omega) (by decide)), tcl (by omega), if_pos e, nI_1]
    exact ih (i + 1) n (by omega) (by omega)
theorem giftsS {B : Nat} {σ : St} {P G : Nat} (h : WL 4 60 62 63 B σ σ P G) (hB : B ≤ 2 ^ 29) (c4 : Int32) : ∀ (d i n m : Nat) (a : Int32), i + d = G → d < n → d < m → ∃ r, fX7_living_L4 4 σ n a (nI i) = some r ∧ fL_stands_L197 60 27 63 64 c4 σ m a (nI i) = some (.inr r) := by
  obtain ⟨⟨hP, hG⟩, ⟨p0, p1⟩, ⟨g0, g1⟩, hwh, hwk, hwf, hwl, hwd, hwg, v1, v2, v4⟩ := id h
  intro d
  induction d with
  | zero =>
    intro i n m a hi hn hm
    obtain ⟨n, rfl, -⟩ := su hn
    obtain ⟨m, rfl, -⟩ := su hm
    have e : i = G := by omega
    subst e
    rw [fX7_living_L4, fL_stands_L197, grd_t (show inb (25 : Int32) 27 = true from by decide), show (25 : Int32).toNatClampNeg = 25 from rfl, g0, g1, if_pos (nI_le (a := i) (b := i) (by omega) (by omega)), if_pos (nI_le (a := i) (b := i) (by omega) (by omega))]
    exact ⟨a, rfl, rfl⟩
  | succ d ih =>
    intro i n m a hi hn hm
    obtain ⟨n, rfl, hn⟩ := su hn
    obtain ⟨m, rfl, hm⟩ := su hm
    obtain ⟨x0, x1, x2, x3, x4, x5, x6, x7⟩ := h.x (show i < 8 by omega)
    obtain ⟨-, q6, q7, q8⟩ := q_told g0 hG (show i < G by omega)
    rw [fX7_living_L4, fL_stands_L197, grd_t (show inb (25 : Int32) 27 = true from by decide), show (25 : Int32).toNatClampNeg = 25 from rfl, g0, g1, if_neg (nI_ge (a := i) (b := G) (by omega) (by omega)), if_neg (nI_ge (a := i) (b := G) (by omega) (by omega)), ix80,
      show fL_stands_L216 60 27 63 64 c4 a (nI i) (nI (8 * i)) σ fu (0 : Int32) = some (.inr ()) from toldL h (show i < G by omega) c4 a 6 0 fu (by omega) (fu_gt (by omega)), q6, q7, q8, worthL h (show i < G by omega) (by omega)]
    simp only [Option.bind_some, Sum.elim_inr, if_true]
    rw [nk6, nk7, grd_t (inbN (show 8 * i + 6 < 64 by omega) (by decide)), grd_t (inbN (show 8 * i + 7 < 64 by omega) (by decide)), grd_t (inbN (show 8 * i + 7 < 64 by omega) (by decide)), grd_t (inbN (show i < 8 by omega) (by decide)), tcl (by omega), tcl (by omega), tcl (by omega), if_pos x6, if_pos x7, xlivesL h (show i < 8 by omega)]
    simp only [bnd, nI_1]
    by_cases z : σ.1 63 (8 * i + 7) = 0
    · simp only [z, if_true, n10, if_false]
      exact ih (i + 1) n m _ (by omega) (by omega) (by omega)
    · simp only [z, if_false, if_true]
      rw [Int32.add_zero]
      exact ih (i + 1) n m _ (by omega) (by omega) (by omega)
/-- all that stands is told alike -/
theorem standsL {B : Nat} {σ : St} {P G : Nat} (h : WL 4 60 62 63 B σ σ P G) (hB : B ≤ 2 ^ 29) (hy : σ.1 4 8 = σ.1 60 26) : fL_stands 60 27 63 64 62 64 σ = some 1 := by
  obtain ⟨⟨hP, hG⟩, ⟨p0, p1⟩, ⟨g0, g1⟩, -⟩ := id h
  obtain ⟨f, f1, f2⟩ := peopleS h (0 : Int32) P 0 fu fu (nI 0) (by omega) (fu_gt (by omega)) (fu_gt (by omega))
  obtain ⟨l, l1, l2⟩ := giftsS h hB f G 0 fu fu (nI 0) (by omega) (fu_gt (by omega)) (fu_gt (by omega))
  have c0 : fX8_count (0 : Int32) σ = some (nI P) := by rw [← p0]; rfl
  have c1 : fX8_count (1 : Int32) σ = some (nI G) := by rw [← g0]; rfl
  have c2 : fX8_count (2 : Int32) σ = some l := by
    have e : fX8_count (2 : Int32) σ = Option.bind (fX7_living 4 σ) (fun q5 => some q5) := rfl
    rw [e]; unfold fX7_living
    rw [show (0 : Int32) = nI 0 from rfl, l1]; rfl
  have c3 : fX8_count (3 : Int32) σ = some (σ.1 60 26) := by rw [← hy]; rfl
  have c4 : fX8_count (4 : Int32) σ = some f := by
    have e : fX8_count (4 : Int32) σ = Option.bind (fX7_allFeasts 4 σ) (fun q8 => some q8) := rfl
    rw [e]; unfold fX7_allFeasts
    rw [show (0 : Int32) = nI 0 from rfl, f1]; rfl
  unfold fL_stands
  rw [c0, c1, c2, c3, c4, show fL_stands_L9 60 27 63 64 62 64 (0 : Int32) σ fu (0 : Int32) (0 : Int32) = some (.inr f) from f2]
  simp only [Option.bind_some, Sum.elim_inr]
  rw [show fL_stands_L197 60 27 63 64 f σ fu (0 : Int32) (0 : Int32) = some (.inr l) from l2]
  simp only [Option.bind_some, Sum.elim_inr, if_true]
  rw [grd_t (show inb (0 : Int32) 27 = true from by decide), grd_t (show inb (25 : Int32) 27 = true from by decide), grd_t (show inb (26 : Int32) 27 = true from by decide), show (0 : Int32).toNatClampNeg = 0 from rfl, show (25 : Int32).toNatClampNeg = 25 from rfl, show (26 : Int32).toNatClampNeg = 26 from rfl, p1, g1, if_pos rfl, if_pos rfl, if_pos rfl]
