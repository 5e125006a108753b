/-! DIGEST: what the class has mixed so far lies with the reference in a field -/
def HR (h : Int64) (σ σ' : St) (P G : Nat) : Prop := RR σ σ' P G ∧ σ'.2 58 45 = h
theorem sayM (x : Int64) (σ : St) : fX9_say x σ = some (setL σ 58 45 (fX8_mixed (σ.2 58 45) x)) := by
  unfold fX9_say fX8_mixed
  rw [bnd_eq]
theorem HR.say {h : Int64} {σ σ' : St} {P G : Nat} (a : HR h σ σ' P G) (x : Int64) : fX9_say x σ' = some (setL σ' 58 45 (fX8_mixed h x)) ∧ HR (fX8_mixed h x) σ (setL σ' 58 45 (fX8_mixed h x)) P G := by
  refine ⟨by rw [sayM, a.2], a.1.cong (fun _ _ _ => rfl) (fun _ _ _ => rfl), ?_⟩
  rw [setL_2, if_pos ⟨rfl, rfl⟩]
theorem obind2 {α : Type} {x : Option α} {z : α} (h : Option.bind x (fun q => some q) = some z) : x = some z := by
  obtain ⟨a, h1, h2⟩ := obind h
  rw [h1, Option.some.inj h2]
theorem digLaw {P G : Nat} {σ : St} : ∀ (d i n m : Nat) (h : Int64) (σ' : St), i + d = 4 → d < n → d < m → HR h σ σ' P G → ∃ h' τ', fX8_digest_L6 σ n h (nI i) = some h' ∧ fX9_digest_L9 m (nI i) σ' = some τ' ∧ HR h' σ τ' P G := by
  intro d
  induction d with
  | zero =>
    intro i n m h σ' hi hn hm a
    obtain ⟨n, rfl, -⟩ := su hn
    obtain ⟨m, rfl, -⟩ := su hm
    have ei : i = 4 := by omega
    subst ei
    rw [fX8_digest_L6, fX9_digest_L9, if_pos (show (4 : Int32) ≤ nI 4 by decide), if_pos (show (4 : Int32) ≤ nI 4 by decide)]
    exact ⟨h, σ', rfl, rfl, a⟩
  | succ d ih =>
    intro i n m h σ' hi hn hm a
    obtain ⟨n, rfl, hn⟩ := su hn
    obtain ⟨m, rfl, hm⟩ := su hm
    have e : fX9_tellLaw (nI i) σ' = fX8_lawTold (nI i) σ := (lawTold2 a.1.1 (nI i)).symm
    obtain ⟨s1, s2⟩ := a.say (fX8_lawTold (nI i) σ).toInt64
    rw [fX8_digest_L6, fX9_digest_L9, if_neg (show ¬ (4 : Int32) ≤ nI i from nI_ge (a := i) (b := 4) (by omega) (by decide)), if_neg (show ¬ (4 : Int32) ≤ nI i from nI_ge (a := i) (b := 4) (by omega) (by decide)), bnd_eq, e, s1, obs, nI_1]
    exact ih (i + 1) n m _ _ (by omega) (by omega) (by omega) s2
theorem digAbout {P G k : Nat} {σ : St} (hk : k < P) : ∀ (d i n m : Nat) (h : Int64) (σ' : St), i + d = 4 → d < n → d < m → HR h σ σ' P G → ∃ h' τ', fX8_withPerson_L6 (nI k) σ n h (nI i) = some h' ∧ fX9_digest_L42 (nI k) m (nI i) σ' = some τ' ∧ HR h' σ τ' P G := by
  intro d
  induction d with
  | zero =>
    intro i n m h σ' hi hn hm a
    obtain ⟨n, rfl, -⟩ := su hn
    obtain ⟨m, rfl, -⟩ := su hm
    have ei : i = 4 := by omega
    subst ei
    rw [fX8_withPerson_L6, fX9_digest_L42, if_pos (show (4 : Int32) ≤ nI 4 by decide), if_pos (show (4 : Int32) ≤ nI 4 by decide)]
    exact ⟨h, σ', rfl, rfl, a⟩
  | succ d ih =>
    intro i n m h σ' hi hn hm a
    obtain ⟨n, rfl, hn⟩ := su hn
    obtain ⟨m, rfl, hm⟩ := su hm
    have h3 := a.1.2.2.1
    obtain ⟨⟨hP, hG⟩, ⟨p0, p1⟩, -⟩ := id h3
    obtain ⟨r, e1, e2⟩ := about2 h3 (nI k) (nI i)
    have e3 : fX9_tellPerson (nI k) (nI i) σ' = some r := by
      unfold fX9_about at e2
      rcases isP2 p0 p1 hP (nI k) with ⟨j, hj, ej, -, b⟩ | ⟨nj, -, -⟩
      · rw [b, if_neg (show ¬ (1 : Int32) = 0 by decide)] at e2
        exact obind2 e2
      · exact absurd rfl (nj k hk)
    obtain ⟨s1, s2⟩ := a.say r.toInt64
    rw [fX8_withPerson_L6, fX9_digest_L42, if_neg (show ¬ (4 : Int32) ≤ nI i from nI_ge (a := i) (b := 4) (by omega) (by decide)), if_neg (show ¬ (4 : Int32) ≤ nI i from nI_ge (a := i) (b := 4) (by omega) (by decide)), e1, obs, bnd_eq, e3, obs, s1, obs, nI_1]
    exact ih (i + 1) n m _ _ (by omega) (by omega) (by omega) s2
theorem digPeople {P G : Nat} {σ : St} : ∀ (d i n m : Nat) (h : Int64) (σ' : St), i + d = P → d < n → d < m → HR h σ σ' P G → ∃ h' τ', fX8_digest_L30 σ n h (nI i) = some h' ∧ fX9_digest_L32 m (nI i) σ' = some τ' ∧ HR h' σ τ' P G := by
  intro d
  induction d with
  | zero =>
    intro i n m h σ' hi hn hm a
    obtain ⟨n, rfl, -⟩ := su hn
    obtain ⟨m, rfl, -⟩ := su hm
    obtain ⟨⟨hP, hG⟩, ⟨p0, p1⟩, -⟩ := id a.1.2.2.1
    have ei : i = P := by omega
    subst ei
    rw [fX8_digest_L30, fX9_digest_L32, p0, p1, if_pos (nI_le (a := i) (b := i) (by omega) (by omega)), if_pos (nI_le (a := i) (b := i) (by omega) (by omega))]
    exact ⟨h, σ', rfl, rfl, a⟩
  | succ d ih =>
    intro i n m h σ' hi hn hm a
    obtain ⟨n, rfl, hn⟩ := su hn
    obtain ⟨m, rfl, hm⟩ := su hm
    obtain ⟨⟨hP, hG⟩, ⟨p0, p1⟩, -⟩ := id a.1.2.2.1
    have hiP : i < P := by omega
    obtain ⟨h1, σ1, c1, c2, c3⟩ := digAbout hiP 4 0 fu fu h σ' (by omega) (fu_gt (by omega)) (fu_gt (by omega)) a
    rw [nI_0] at c1 c2
    obtain ⟨r, r1, r2⟩ := rest2 c3.1.2.2.1 hiP
    have e1 : fX8_rest (nI i) σ = some r := by
      unfold fX8_rest
      rcases isP2 p0 p1 hP (nI i) with ⟨j, hj, ej, b, -⟩ | ⟨nj, -, -⟩
      · rw [b, if_neg (show ¬ (1 : Int32) = 0 by decide), r1, obs]
      · exact absurd rfl (nj i hiP)
    obtain ⟨s1, s2⟩ := c3.say r.toInt64
    rw [fX8_digest_L30, fX9_digest_L32, p0, p1, if_neg (nI_ge (a := i) (b := P) hiP (by omega)), if_neg (nI_ge (a := i) (b := P) hiP (by omega))]
    unfold fX8_withPerson
    rw [c1, obs, e1, obs, obs, c2, obs, r2, obs, s1, obs, nI_1]
    exact ih (i + 1) n m _ _ (by omega) (by omega) (by omega) s2
theorem digTold {P G k : Nat} {σ : St} (hk : k < G) : ∀ (d i n m : Nat) (h : Int64) (σ' : St), i + d = 9 → d < n → d < m → HR h σ σ' P G → ∃ h' τ', fX8_withGift_L6 (nI k) σ n h (nI i) = some h' ∧ fX9_sayGift_L2 (nI k) m (nI i) σ' = some τ' ∧ HR h' σ τ' P G := by
  intro d
  induction d with
  | zero =>
    intro i n m h σ' hi hn hm a
    obtain ⟨n, rfl, -⟩ := su hn
    obtain ⟨m, rfl, -⟩ := su hm
    have ei : i = 9 := by omega
    subst ei
    rw [fX8_withGift_L6, fX9_sayGift_L2, if_pos (show (9 : Int32) ≤ nI 9 by decide), if_pos (show (9 : Int32) ≤ nI 9 by decide)]
    exact ⟨h, σ', rfl, rfl, a⟩
  | succ d ih =>
    intro i n m h σ' hi hn hm a
    obtain ⟨n, rfl, hn⟩ := su hn
    obtain ⟨m, rfl, hm⟩ := su hm
    have h3 := a.1.2.2.1
    obtain ⟨⟨hP, hG⟩, ⟨p0, p1⟩, ⟨g0, g1⟩, -⟩ := id h3
    obtain ⟨r, e1, e2⟩ := tell2 h3 (show k < 8 by omega) (show i ≤ 8 by omega)
    have e3 : fX8_told (nI k) (nI i) σ = some r := by
      rcases isG2 g0 g1 hG (nI k) with ⟨j, hj, ej, b, -⟩ | ⟨nj, -, -⟩
      · exact e2 b
      · exact absurd rfl (nj k hk)
    obtain ⟨s1, s2⟩ := a.say r.toInt64
    rw [fX8_withGift_L6, fX9_sayGift_L2, if_neg (show ¬ (9 : Int32) ≤ nI i from nI_ge (a := i) (b := 9) (by omega) (by decide)), if_neg (show ¬ (9 : Int32) ≤ nI i from nI_ge (a := i) (b := 9) (by omega) (by decide)), e3, obs, bnd_eq, e1, obs, s1, obs, nI_1]
    exact ih (i + 1) n m _ _ (by omega) (by omega) (by omega) s2
theorem digGift {P G k : Nat} {h : Int64} {σ σ' : St} (hk : k < G) (a : HR h σ σ' P G) : ∃ h' τ τ', fX8_withGift h (nI k) σ = some (h', τ) ∧ fX9_sayGift (nI k) σ' = some τ' ∧ HR h' τ τ' P G := by
  obtain ⟨⟨hP, hG⟩, ⟨p0, p1⟩, ⟨g0, g1⟩, -⟩ := id a.1.2.2.1
  obtain ⟨h1, σ1, c1, c2, c3⟩ := digTold hk 9 0 fu fu h σ' (by omega) (fu_gt (by omega)) (fu_gt (by omega)) a
  rw [nI_0] at c1 c2
  unfold fX8_withGift fX9_sayGift
  rw [c1, obs, c2, obs, grd_t (inbN (show k < 8 by omega) (by decide)), tcl (by omega), xlives c3.1.2.2.1 (show k < 8 by omega), mlives (by omega), obs]
  by_cases z : σ1.1 65 (8 * k + 6) = 0
  · rw [if_pos z, if_neg (show ¬ (1 : Int32) = 0 by decide), if_neg (show ¬ (1 : Int32) = 0 by decide)]
    obtain ⟨b, -, b1, b2⟩ := who2 c3.1.1 c3.1.2.2.1 hk
    have e1 : fX8_may (nI k) σ = some (nI b) := by
      unfold fX8_may
      rcases isG2 g0 g1 hG (nI k) with ⟨j, hj, ej, q, -⟩ | ⟨nj, -, -⟩
      · rw [q, if_neg (show ¬ (1 : Int32) = 0 by decide), grd_t (inbN (show k < 8 by omega) (by decide)), tcl (by omega), xlives c3.1.2.2.1 (show k < 8 by omega), if_pos z, if_neg (show ¬ (1 : Int32) = 0 by decide), b1, obs]
      · exact absurd rfl (nj k hk)
    obtain ⟨s1, s2⟩ := c3.say (nI b).toInt64
    obtain ⟨r, τ, τ', f1, f2, f3⟩ := soon2 s2.1 hk z
    have hR : RR τ τ' P G := s2.1.fr (frX8_soonest (nI k) σ (r, τ) f1) (frX9_soonestOf (nI k) _ (r, τ') f2) (fun _ _ => List.not_mem_nil) (fun _ _ => List.not_mem_nil)
    have hH : HR (fX8_mixed h1 (nI b).toInt64) τ τ' P G := ⟨hR, by rw [f3]; exact s2.2⟩
    obtain ⟨t1, t2⟩ := hH.say r.toInt64
    rw [e1, obs, bnd_eq, f1, obs, b2, obs, s1, obs, f2, obs, t1, obs]
    exact ⟨_, _, _, rfl, rfl, t2⟩
  · rw [if_neg z, if_pos rfl, if_pos rfl]
    exact ⟨_, _, _, rfl, rfl, c3⟩
theorem digGifts {P G : Nat} : ∀ (d i n m : Nat) (h : Int64) (σ σ' : St), i + d = G → d < n → d < m → HR h σ σ' P G → ∃ h' τ τ', fX8_digest_L56 n h (nI i) σ = some (h', τ) ∧ fX9_digest_L82 m (nI i) σ' = some τ' ∧ HR h' τ τ' P G := by
  intro d
  induction d with
  | zero =>
    intro i n m h σ σ' hi hn hm a
    obtain ⟨n, rfl, -⟩ := su hn
    obtain ⟨m, rfl, -⟩ := su hm
    obtain ⟨⟨hP, hG⟩, -, ⟨g0, g1⟩, -⟩ := id a.1.2.2.1
    have ei : i = G := by omega
    subst ei
    rw [fX8_digest_L56, fX9_digest_L82, g0, g1, if_pos (nI_le (a := i) (b := i) (by omega) (by omega)), if_pos (nI_le (a := i) (b := i) (by omega) (by omega))]
    exact ⟨h, σ, σ', rfl, rfl, a⟩
  | succ d ih =>
    intro i n m h σ σ' hi hn hm a
    obtain ⟨n, rfl, hn⟩ := su hn
    obtain ⟨m, rfl, hm⟩ := su hm
    obtain ⟨⟨hP, hG⟩, -, ⟨g0, g1⟩, -⟩ := id a.1.2.2.1
    have hiG : i < G := by omega
    obtain ⟨h1, σ1, σ2, c1, c2, c3⟩ := digGift hiG a
    rw [fX8_digest_L56, fX9_digest_L82, g0, g1, if_neg (nI_ge (a := i) (b := G) hiG (by omega)), if_neg (nI_ge (a := i) (b := G) hiG (by omega)), c1, obs, c2, obs, nI_1]
    exact ih (i + 1) n m _ _ _ (by omega) (by omega) (by omega) c3
theorem digRound {P G k : Nat} {h : Int64} {σ σ' : St} (hk : k < 2) (a : HR h σ σ' P G) : ∃ r τ τ', fX8_round (nI k) σ = some (r, τ) ∧ fX9_tellRound (nI k) σ' = some (r, τ') ∧ HR h τ τ' P G := by
  obtain ⟨r, τ, τ', e1, e2, e3⟩ := round2 a.1 (Or.inl hk)
  refine ⟨r, τ, τ', e1, e2, a.1.fr (frX8_round (nI k) σ (r, τ) e1) (frX9_tellRound (nI k) σ' (r, τ') e2) (fun a ha => ?_) (fun a ha => ?_), by rw [e3]; exact a.2⟩
  · simp only [List.mem_cons, List.not_mem_nil, or_false]
    omega
  · simp only [List.mem_cons, List.not_mem_nil, or_false]
    omega
theorem digFilled {P G : Nat} {h : Int64} {σ σ' : St} (a : HR h σ σ' P G) : ∃ h' τ τ', (if (fX0_isOpen σ) = 0 then some (h, σ) else (Option.bind (fX8_filled σ) fun q33 => (bnd (fX8_mixed h q33.1.toInt64) fun x34 => some (x34, q33.2)))) = some (h', τ) ∧ (if (σ'.1 58 33) = (-1 : Int32) then some σ' else (Option.bind (fX9_filledOf σ') fun q40 => (Option.bind (fX9_say q40.1.toInt64 q40.2) fun q41 => some q41))) = some τ' ∧ HR h' τ τ' P G := by
  rcases fset a.1 with ⟨x, y⟩ | ⟨t, N, wr, Kn, c, x, m⟩
  · unfold fX0_isOpen
    rw [x, y, if_pos (show (0 : Int32) ≤ 0 by decide), if_pos rfl, if_pos rfl]
    exact ⟨_, _, _, rfl, rfl, a⟩
  · obtain ⟨hP, ht, ⟨hN1, hN7⟩, hK, hw⟩ := id c
    obtain ⟨τ, x1, x2⟩ := fillX c x
    obtain ⟨τ', m1, m2, m3⟩ := fillM c m
    have hH : HR h τ τ' P G := ⟨a.1.cong (fun _ _ _ => by rw [x2]) (fun _ _ _ => by rw [m2]), by rw [m3]; exact a.2⟩
    obtain ⟨s1, s2⟩ := hH.say (nI (mass P (fsq t P (BB Kn) wr N))).toInt64
    have eo : fX0_isOpen σ = 1 := by
      unfold fX0_isOpen
      rw [x.2.2.1, if_neg (nI_nle (n := N) (by omega) (by omega))]
    have ef : fX8_filled σ = some (nI (mass P (fsq t P (BB Kn) wr N)), τ) := by
      unfold fX8_filled
      rw [eo, if_neg (show ¬ (1 : Int32) = 0 by decide), x1, obs]
    rw [eo, if_neg (show ¬ (1 : Int32) = 0 by decide), ef, obs, bnd_eq, m.2.1, if_neg (nI_ne_m1 (by omega)), m1, obs, s1, obs]
    exact ⟨_, _, _, rfl, rfl, s2⟩
theorem digLetters {P G S : Nat} {σ : St} (hS : S ≤ 16) (e0 : σ.1 1 1 = nI S) : ∀ (d i n m : Nat) (h : Int64) (σ' : St), i + d = S → d < n → d < m → HR h σ σ' P G → ∃ h' τ', fX8_digest_L134 σ n h (nI i) = some h' ∧ fX9_digest_L149 m (nI i) σ' = some τ' ∧ HR h' σ τ' P G := by
  intro d
  induction d with
  | zero =>
    intro i n m h σ' hi hn hm a
    obtain ⟨n, rfl, -⟩ := su hn
    obtain ⟨m, rfl, -⟩ := su hm
    obtain ⟨S', hS', s0, s1, hp⟩ := a.1.2.1
    have ei : i = S := by omega
    subst ei
    rw [fX8_digest_L134, fX9_digest_L149, s1, ← s0, e0, if_pos (nI_le (a := i) (b := i) (by omega) (by omega)), if_pos (nI_le (a := i) (b := i) (by omega) (by omega))]
    exact ⟨h, σ', rfl, rfl, a⟩
  | succ d ih =>
    intro i n m h σ' hi hn hm a
    obtain ⟨n, rfl, hn⟩ := su hn
    obtain ⟨m, rfl, hm⟩ := su hm
    obtain ⟨S', hS', s0, s1, hp⟩ := a.1.2.1
    have hi16 : i < 16 := by omega
    have ec : σ.1 2 i = σ'.1 59 i := hp i hi16
    obtain ⟨t1, t2⟩ := a.say (σ.1 2 i).toInt64
    rw [fX8_digest_L134, fX9_digest_L149, s1, ← s0, e0, if_neg (nI_ge (a := i) (b := S) (by omega) (by omega)), if_neg (nI_ge (a := i) (b := S) (by omega) (by omega)), if_neg (show ¬ (16 : Int32) ≤ nI i from nI_ge (a := i) (b := 16) (by omega) (by decide)), grd_t (inbN hi16 (by decide)), tcl (by omega), bnd_eq, grd_t (inbN hi16 (by decide)), ← ec, t1, obs, nI_1]
    exact ih (i + 1) n m _ _ (by omega) (by omega) (by omega) t2
theorem digCounts {P G : Nat} {σ : St} : ∀ (d i n m : Nat) (h : Int64) (σ' : St), i + d = 7 → d < n → d < m → HR h σ σ' P G → ∃ h' τ', fX8_digest_L174 σ n h (nI i) = some h' ∧ fX9_digest_L176 m (nI i) σ' = some τ' ∧ HR h' σ τ' P G := by
  intro d
  induction d with
  | zero =>
    intro i n m h σ' hi hn hm a
    obtain ⟨n, rfl, -⟩ := su hn
    obtain ⟨m, rfl, -⟩ := su hm
    have ei : i = 7 := by omega
    subst ei
    rw [fX8_digest_L174, fX9_digest_L176, if_pos (show (7 : Int32) ≤ nI 7 by decide), if_pos (show (7 : Int32) ≤ nI 7 by decide)]
    exact ⟨h, σ', rfl, rfl, a⟩
  | succ d ih =>
    intro i n m h σ' hi hn hm a
    obtain ⟨n, rfl, hn⟩ := su hn
    obtain ⟨m, rfl, hm⟩ := su hm
    obtain ⟨r, e1, e2⟩ := count2 a.1 (nI i)
    obtain ⟨s1, s2⟩ := a.say r.toInt64
    rw [fX8_digest_L174, fX9_digest_L176, if_neg (show ¬ (7 : Int32) ≤ nI i from nI_ge (a := i) (b := 7) (by omega) (by decide)), if_neg (show ¬ (7 : Int32) ≤ nI i from nI_ge (a := i) (b := 7) (by omega) (by decide)), e1, obs, bnd_eq, e2, obs, s1, obs, nI_1]
    exact ih (i + 1) n m _ _ (by omega) (by omega) (by omega) s2
/-- digest -/
theorem s_digest {σ σ' : St} (h : Rel σ σ') : ∃ r τ τ', fX8_digest σ = some (r, τ) ∧ fX9_digest σ' = some (r, τ') ∧ Rel τ τ' := by
  obtain ⟨P, G, hR⟩ := h
  obtain ⟨⟨hP, hG⟩, -⟩ := id hR.2.2.1
  have a0 : HR 607 σ (setL σ' 58 45 607) P G := ⟨hR.cong (fun _ _ _ => rfl) (fun _ _ _ => rfl), by rw [setL_2, if_pos ⟨rfl, rfl⟩]⟩
  obtain ⟨h1, σ1, c1, d1, a1⟩ := digLaw 4 0 fu fu 607 _ (by omega) (fu_gt (by omega)) (fu_gt (by omega)) a0
  obtain ⟨h2, σ2, c2, d2, a2⟩ := digPeople P 0 fu fu h1 σ1 (by omega) (fu_gt (by omega)) (fu_gt (by omega)) a1
  obtain ⟨h3, τ3, σ3, c3, d3, a3⟩ := digGifts G 0 fu fu h2 σ σ2 (by omega) (fu_gt (by omega)) (fu_gt (by omega)) a2
  obtain ⟨r4, c4, d4⟩ := traps2 a3.1.2.2.1
  obtain ⟨d4', a4⟩ := a3.say r4.toInt64
  obtain ⟨r5, τ5, σ5, c5, d5, a5⟩ := digRound (k := 0) (by decide) a4
  obtain ⟨d5', a5'⟩ := a5.say r5.toInt64
  obtain ⟨r6, τ6, σ6, c6, d6, a6⟩ := digRound (k := 1) (by decide) a5'
  obtain ⟨d6', a6'⟩ := a6.say r6.toInt64
  obtain ⟨h7, τ7, σ7, c7, d7, a7⟩ := digFilled a6'
  obtain ⟨S, hS, s0, s1, hp⟩ := a7.1.2.1
  obtain ⟨h8, σ8, c8, d8, a8⟩ := digLetters hS s0 S 0 fu fu h7 σ7 (by omega) (fu_gt (by omega)) (fu_gt (by omega)) a7
  obtain ⟨h9, σ9, c9, d9, a9⟩ := digCounts 7 0 fu fu h8 σ8 (by omega) (fu_gt (by omega)) (fu_gt (by omega)) a8
  rw [nI_0] at c1 d1 c2 d2 c3 d3 c5 d5 c8 d8 c9 d9
  rw [show nI 1 = (1 : Int32) from rfl] at c6 d6
  unfold fX8_digest fX9_digest
  rw [c1, obs, c2, obs, c3, obs, c4, obs, bnd_eq, c5, obs, bnd_eq, c6, obs, bnd_eq, c7, obs, c8, obs, c9, obs]
  rw [bnd_eq, d1, obs, d2, obs, d3, obs, d4, obs, d4', obs, d5, obs, d5', obs, d6, obs, d6', obs, d7, obs, d8, obs, d9, obs, a9.2]
  exact ⟨_, _, _, rfl, rfl, P, G, a9.1⟩
