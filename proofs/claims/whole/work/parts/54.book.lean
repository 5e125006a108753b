theorem live2L {w : Nat} {σ σ' : St} {P G : Nat} (h : WR w σ σ' P G) : ∀ (d i n m : Nat) (a : Int32), i + d = G → d < n → d < m → ∃ r, fX7_living_L4 w σ n a (nI i) = some r ∧ fX9_livesMany_L4 σ' m a (nI i) = some r := by
  obtain ⟨⟨hP, hG⟩, ⟨p0, p1⟩, ⟨g0, g1⟩, -⟩ := id h
  intro d
  induction d with
  | zero =>
    intro i n m a hi hn hm
    obtain ⟨n, rfl, -⟩ := su hn
    obtain ⟨m, rfl, -⟩ := su hm
    have e : i = G := by omega
    subst e
    rw [fX7_living_L4, fX9_livesMany_L4, g0, g1, if_pos (nI_le (a := i) (b := i) (by omega) (by omega)), if_pos (nI_le (a := i) (b := i) (by omega) (by omega))]
    exact ⟨a, rfl, rfl⟩
  | succ d ih =>
    intro i n m a hi hn hm
    obtain ⟨n, rfl, hn⟩ := su hn
    obtain ⟨m, rfl, hm⟩ := su hm
    rw [fX7_living_L4, fX9_livesMany_L4, g0, g1, if_neg (nI_ge (a := i) (b := G) (by omega) (by omega)), if_neg (nI_ge (a := i) (b := G) (by omega) (by omega)), grd_t (inbN (show i < 8 by omega) (by decide)), tcl (by omega), xlives h (show i < 8 by omega), mlives (by omega)]
    simp only [Option.bind_some, bnd, nI_1]
    by_cases z : σ'.1 65 (8 * i + 6) = 0
    · simp only [z, if_true, n10, if_false]
      exact ih (i + 1) n m _ (by omega) (by omega) (by omega)
    · simp only [z, if_false, if_true]
      rw [show a + (0 : Int32) = a from by simp]
      exact ih (i + 1) n m _ (by omega) (by omega) (by omega)
theorem live2 {w : Nat} {σ σ' : St} {P G : Nat} (h : WR w σ σ' P G) : ∃ r, fX7_living w σ = some r ∧ fX9_livesMany σ' = some r := by
  obtain ⟨r, a, b⟩ := live2L h G 0 fu fu (nI 0) (by omega) (fu_gt (by have := h.1.2; omega)) (fu_gt (by have := h.1.2; omega))
  unfold fX7_living fX9_livesMany
  rw [show (0 : Int32) = nI 0 from rfl, a, b]
  exact ⟨r, rfl, rfl⟩
theorem feastsL {w : Nat} {σ : St} {P : Nat} (hP : P ≤ 8) (p0 : σ.1 w 0 = nI P) : ∀ (d i n : Nat), i + d = P → d < n → fX7_allFeasts_L4 w σ n (sumI (σ.1 (w + 3)) i) (nI i) = some (sumI (σ.1 (w + 3)) P) := by
  intro d
  induction d with
  | zero =>
    intro i n hi hn
    obtain ⟨n, rfl, -⟩ := su hn
    have e : i = P := by omega
    subst e
    rw [fX7_allFeasts_L4, p0, if_pos (nI_le (a := i) (b := i) (by omega) (by omega))]
  | succ d ih =>
    intro i n hi hn
    obtain ⟨n, rfl, hn⟩ := su hn
    rw [fX7_allFeasts_L4, p0, if_neg (nI_ge (a := i) (b := P) (by omega) (by omega)), grd_t (inbN (show i < 8 by omega) (by decide)), tcl (by omega)]
    simp only [bnd, nI_1]
    exact ih (i + 1) n (by omega) (by omega)
theorem feasts2 {w : Nat} {σ σ' : St} {P G : Nat} (h : WR w σ σ' P G) : fX7_allFeasts w σ = some (σ'.1 58 18) := by
  obtain ⟨⟨hP, hG⟩, ⟨p0, p1⟩, ⟨g0, g1⟩, hy, hwh, hwk, hwf, hwl, hwd, hwg, v1, v2, v3, v4, v5, v6⟩ := id h
  unfold fX7_allFeasts
  have e := feastsL (w := w) (σ := σ) hP p0 P 0 fu (by omega) (fu_gt (by omega))
  rw [show (0 : Int32) = nI 0 from rfl]
  rw [show sumI (σ.1 (w + 3)) 0 = nI 0 from rfl] at e
  rw [e, v5, sumI_cong (f := σ.1 (w + 3)) (g := σ'.1 64) (fun i hi => hwf i (by omega))]
  rfl
/-- count -/
theorem count2 {σ σ' : St} {P G : Nat} (hR : RR σ σ' P G) (p : Int32) : ∃ r, fX8_count p σ = some r ∧ fX9_countOf p σ' = some r := by
  obtain ⟨h1, ⟨S, hS, s0, s1, hp⟩, h3, h4, h5, h6, h7, h8⟩ := id hR
  obtain ⟨⟨hP, hG⟩, ⟨p0, p1⟩, ⟨g0, g1⟩, -⟩ := id h3
  obtain ⟨r, l1, l2⟩ := live2 h3
  unfold fX8_count fX9_countOf
  rw [l1, l2, feasts2 h3, p0, p1, g0, g1, h8, s0, s1, h7]
  rcases within_c p (a := 0) (b := 6) (by decide) (by decide) with ⟨y, -, hy9, rfl, z⟩ | ⟨hn, z⟩
  · replace z : fX8_within (nI y) (0 : Int32) (6 : Int32) = 1 := z
    simp only [z, n10, if_false]
    rcases (show y = 0 ∨ y = 1 ∨ y = 2 ∨ y = 3 ∨ y = 4 ∨ y = 5 ∨ y = 6 by omega) with rfl | rfl | rfl | rfl | rfl | rfl | rfl
    all_goals exact ⟨_, rfl, rfl⟩
  · replace z : fX8_within p (0 : Int32) (6 : Int32) = 0 := z
    simp only [z, if_true]
    rw [if_neg (show ¬ p = (0 : Int32) from hn 0 (by omega) (by omega)), if_neg (show ¬ p = (1 : Int32) from hn 1 (by omega) (by omega)), if_neg (show ¬ p = (2 : Int32) from hn 2 (by omega) (by omega)), if_neg (show ¬ p = (3 : Int32) from hn 3 (by omega) (by omega)), if_neg (show ¬ p = (4 : Int32) from hn 4 (by omega) (by omega)), if_neg (show ¬ p = (5 : Int32) from hn 5 (by omega) (by omega)), if_neg (show ¬ p = (6 : Int32) from hn 6 (by omega) (by omega))]
    exact ⟨_, rfl, rfl⟩
theorem s_count (p : Int32) {σ σ' : St} (h : Rel σ σ') : ∃ r, fX8_count p σ = some r ∧ fX9_count p σ' = some r := by
  obtain ⟨P, G, hR⟩ := h
  obtain ⟨r, e1, e2⟩ := count2 hR p
  unfold fX9_count
  rw [e2]
  exact ⟨r, e1, rfl⟩
theorem holesX : ∀ (d i n : Nat) (σ : St), i + d = 8 → d < n → ∃ τ, fX0_begin_L12 n (nI i) σ = some τ ∧ ∀ a b, τ.1 a b = if a = 57 ∧ i ≤ b ∧ b < 8 then -1 else σ.1 a b := by
  intro d
  induction d with
  | zero =>
    intro i n σ hi hn
    obtain ⟨n, rfl, -⟩ := su hn
    have e : i = 8 := by omega
    subst e
    rw [fX0_begin_L12, if_pos (show (7 : Int32) < nI 8 by decide)]
    exact ⟨σ, rfl, fun a b => by rw [if_neg (by omega)]⟩
  | succ d ih =>
    intro i n σ hi hn
    obtain ⟨n, rfl, hn⟩ := su hn
    rw [fX0_begin_L12, if_neg (show ¬ (7 : Int32) < nI i from nI_nlt (a := 7) (b := i) (by omega) (by decide)), grd_t (inbN (show i < 8 by omega) (by decide)), tcl (by omega)]
    simp only [bnd, nI_1]
    obtain ⟨τ, e1, e2⟩ := ih (i + 1) n (setI σ 57 i (-1)) (by omega) (by omega)
    refine ⟨τ, e1, fun a b => ?_⟩
    rw [e2 a b, setI_1]
    by_cases q : a = 57 ∧ b = i
    · obtain ⟨rfl, rfl⟩ := q
      rw [if_neg (by omega), if_pos ⟨rfl, rfl⟩, if_pos (by omega)]
    · rw [if_neg q]
      by_cases t : a = 57 ∧ i + 1 ≤ b ∧ b < 8
      · rw [if_pos t, if_pos (by omega)]
      · rw [if_neg t, if_neg (by omega)]
theorem holesM : ∀ (d i n : Nat) (σ : St), i + d = 8 → d < n → ∃ τ, fX9_open_L38 n (nI i) σ = some τ ∧ ∀ a b, τ.1 a b = if a = 76 ∧ i ≤ b ∧ b < 8 then -1 else σ.1 a b := by
  intro d
  induction d with
  | zero =>
    intro i n σ hi hn
    obtain ⟨n, rfl, -⟩ := su hn
    have e : i = 8 := by omega
    subst e
    rw [fX9_open_L38, if_pos (show (8 : Int32) ≤ nI 8 by decide)]
    exact ⟨σ, rfl, fun a b => by rw [if_neg (by omega)]⟩
  | succ d ih =>
    intro i n σ hi hn
    obtain ⟨n, rfl, hn⟩ := su hn
    rw [fX9_open_L38, if_neg (show ¬ (8 : Int32) ≤ nI i from nI_ge (a := i) (b := 8) (by omega) (by decide)), grd_t (inbN (show i < 8 by omega) (by decide)), tcl (by omega)]
    simp only [bnd, nI_1]
    obtain ⟨τ, e1, e2⟩ := ih (i + 1) n (setI σ 76 i (-1)) (by omega) (by omega)
    refine ⟨τ, e1, fun a b => ?_⟩
    rw [e2 a b, setI_1]
    by_cases q : a = 76 ∧ b = i
    · obtain ⟨rfl, rfl⟩ := q
      rw [if_neg (by omega), if_pos ⟨rfl, rfl⟩, if_pos (by omega)]
    · rw [if_neg q]
      by_cases t : a = 76 ∧ i + 1 ≤ b ∧ b < 8
      · rw [if_pos t, if_pos (by omega)]
      · rw [if_neg t, if_neg (by omega)]
/-- the relation, when only the BOOK changed -/
theorem RR.book {σ σ' τ τ' : St} {P G : Nat} (h : RR σ σ' P G) (hb : BR τ τ' P) (hx : ∀ a b, a < 56 → τ.1 a b = σ.1 a b) (hm : ∀ a b, 58 ≤ a → a ≠ 76 → (a = 58 → b < 33 ∨ 34 < b) → τ'.1 a b = σ'.1 a b) : RR τ τ' P G := by
  have ex : ∀ a, a < 56 → τ.1 a = σ.1 a := fun a ha => funext fun b => hx a b ha
  have em : ∀ a, 58 < a → a ≠ 76 → τ'.1 a = σ'.1 a := fun a ha h76 => funext fun b => hm a b (by omega) h76 (by omega)
  have es : ∀ k, k < 33 ∨ 34 < k → τ'.1 58 k = σ'.1 58 k := fun k hk => hm 58 k (by omega) (by omega) (fun _ => hk)
  obtain ⟨h1, h2, h3, h4, h5, h6, h7⟩ := h
  refine ⟨h1.cong (ex 3 (by omega)) (fun k _ _ => es k (by omega)), h2.cong (by rw [ex 1 (by omega)]) (ex 2 (by omega)) (es 1 (by omega)) (em 59 (by omega) (by omega)), h3.cong (fun a _ _ => ex a (by omega)) (es _ (by omega)) (es _ (by omega)) (es _ (by omega)) (es _ (by omega)) (fun a _ _ => em a (by omega) (by omega)), fun i a b => ?_, h5.cong (by rw [ex 0 (by omega)]) (fun a _ _ => ex a (by omega)) (ex 5 (by omega)) (fun k _ _ => es k (by omega)) (fun a _ _ => em a (by omega) (by omega)), hb, ?_⟩
  · rw [ex 5 (by omega)]; exact h4 i a b
  · rw [ex 0 (by omega), es 6 (by omega), ex 4 (by omega), es 19 (by omega)]; exact h7
/-- open -/
theorem s_open (p q : Int32) {σ σ' : St} (h : Rel σ σ') : ∃ r τ τ', fX8_open p q σ = some (r, τ) ∧ fX9_open p q σ' = some (r, τ') ∧ Rel τ τ' := by
  obtain ⟨P, G, hR⟩ := h
  obtain ⟨h1, h2, h3, h4, h5, h6, h7⟩ := id hR
  obtain ⟨⟨hP, hG⟩, ⟨p0, p1⟩, -⟩ := id h3
  unfold fX8_open fX9_open fX0_begin
  rcases isP2 p0 p1 hP p with ⟨k, hk, rfl, a, b⟩ | ⟨-, a, b⟩
  · rw [show (1 : Int64) = (1 : Int32).toInt64 from rfl, show (7 : Int64) = (7 : Int32).toInt64 from rfl, wi2]
    rcases within_c q (a := 1) (b := 7) (by decide) (by decide) with ⟨y, hy1, hy7, rfl, e⟩ | ⟨-, e⟩
    · replace e : fX8_within (nI y) (1 : Int32) (7 : Int32) = 1 := e
      simp only [a, b, e, n10, if_false, bnd]
      obtain ⟨τ, e1, e2⟩ := holesX 8 0 fu (setI (setI σ 56 1 (nI k)) 56 2 (nI y)) (by omega) (fu_gt (by omega))
      obtain ⟨τ', f1, f2⟩ := holesM 8 0 fu (setI (setI σ' 58 33 (nI k)) 58 34 (nI y)) (by omega) (fu_gt (by omega))
      rw [show (0 : Int32) = nI 0 from rfl, e1, f1]
      simp only [Option.bind_some]
      refine ⟨nI P, τ, τ', ?_, ?_, P, G, ?_⟩
      · rw [e2 4 0, if_neg (by omega), setI_oo (by omega), setI_oo (by omega), p0]
      · rw [f2 58 12, if_neg (by omega), setI_oo (by omega), setI_oo (by omega), p1]
      · refine hR.book ?_ (fun a b ha => by rw [e2 a b, if_neg (by omega), setI_oo (by omega), setI_oo (by omega)]) (fun a b ha h76 hb => by rw [f2 a b, if_neg (by omega), setI_oo (by omega), setI_oo (by omega)])
        unfold BR
        rw [e2 56 1, e2 56 2, f2 58 33, f2 58 34, if_neg (by omega), if_neg (by omega), if_neg (by omega), if_neg (by omega)]
        simp (disch := omega) only [setI_s, setI_oo]
        exact Or.inr ⟨k, y, hk, hy1, hy7, rfl, rfl, rfl, rfl, fun i hi => by rw [e2 57 i, f2 76 i, if_pos (by omega), if_pos (by omega)], fun i hi => Or.inl (by rw [f2 76 i, if_pos (by omega)])⟩
    · replace e : fX8_within q (1 : Int32) (7 : Int32) = 0 := e
      simp only [a, b, e, n10, if_false, if_true]
      exact ⟨_, _, _, rfl, rfl, P, G, hR⟩
  · simp only [a, b, if_true]
    exact ⟨_, _, _, rfl, rfl, P, G, hR⟩
