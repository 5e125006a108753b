/-- write -/
theorem s_write (p q : Int32) {σ σ' : St} (h : Rel σ σ') : ∃ r τ τ', fX8_write p q σ = some (r, τ) ∧ fX9_write p q σ' = some (r, τ') ∧ Rel τ τ' := by
  obtain ⟨P, G, hR⟩ := h
  obtain ⟨h1, h2, h3, h4, h5, h6, h7⟩ := id hR
  obtain ⟨⟨hP, hG⟩, ⟨p0, p1⟩, -⟩ := id h3
  unfold fX8_write fX9_write fX0_isOpen fX0_hasYear fX9_isYear
  rcases h6 with ⟨b1, b2⟩ | ⟨H, N, hH, hN1, hN7, b1, b2, b3, b4, b5, b6⟩
  · rw [b1, b2]
    exact ⟨_, _, _, rfl, rfl, P, G, hR⟩
  · rw [b2, b3, b4]
    have n1 : ¬ (nI N ≤ (0 : Int32)) := by
      rw [show (0 : Int32) = nI 0 from rfl]
      exact nI_ge (a := 0) (b := N) (by omega) (by omega)
    have n2 : ¬ (nI H = (-1 : Int32)) := by
      rcases (show H = 0 ∨ H = 1 ∨ H = 2 ∨ H = 3 ∨ H = 4 ∨ H = 5 ∨ H = 6 ∨ H = 7 by omega) with rfl | rfl | rfl | rfl | rfl | rfl | rfl | rfl
      all_goals decide
    rw [if_neg n1, if_neg n2, show (1 : Int64) = (1 : Int32).toInt64 from rfl, wi2]
    simp only [n10, if_false]
    rcases within_c p (a := 1) (b := N) (by omega) (by omega) with ⟨y, hy1, hy7, rfl, e⟩ | ⟨-, e⟩
    · replace e : fX8_within (nI y) (1 : Int32) (nI N) = 1 := e
      simp only [e, n10, if_false, grd_t (inbN (show y < 8 by omega) (by decide)), tcl (show y < 2 ^ 31 by omega), bnd]
      have hv : ∀ v : Int32, (v = -1 ∨ isN v P) → RR (setI σ 57 y v) (setI σ' 76 y v) P G := by
        intro v hv
        refine hR.book ?_ (fun a b ha => by rw [setI_oo (by omega)]) (fun a b ha h76 hb => by rw [setI_oo (by omega)])
        unfold BR
        simp (disch := omega) only [setI_oo]
        refine Or.inr ⟨H, N, hH, hN1, hN7, b1, b2, b3, b4, fun i hi => ?_, fun i hi => ?_⟩
        · by_cases t : i = y
          · subst t; rw [setI_s, setI_s]
          · rw [setI_oo (by omega), setI_oo (by omega)]; exact b5 i hi
        · by_cases t : i = y
          · subst t; rw [setI_s]; exact hv
          · rw [setI_oo (by omega)]; exact b6 i hi
      rw [b5 y (by omega)]
      by_cases t : q = -1
      · rw [if_pos t, if_pos t]
        exact ⟨_, _, _, rfl, rfl, P, G, hv q (Or.inl t)⟩
      · rw [if_neg t, if_neg t]
        rcases isP2 p0 p1 hP q with ⟨k, hk, rfl, a, b⟩ | ⟨-, a, b⟩
        · simp only [a, b, n10, if_false]
          exact ⟨_, _, _, rfl, rfl, P, G, hv _ (Or.inr ⟨k, hk, rfl⟩)⟩
        · simp only [a, b, if_true]
          exact ⟨_, _, _, rfl, rfl, P, G, hR⟩
    · replace e : fX8_within p (1 : Int32) (nI N) = 0 := e
      simp only [e, if_true]
      exact ⟨_, _, _, rfl, rfl, P, G, hR⟩
/-- how many of the first bits are set -/
def pcs (b : Nat) : Nat → Nat
  | 0 => 0
  | n + 1 => pcs b n + (if b.testBit n = true then 1 else 0)
theorem bc_pcs : ∀ b, b < 256 → fJ6_bitCount_0f7a4 (nI b) = nI (pcs b 8) := by decide +kernel
theorem pcs_le (b : Nat) : ∀ n, pcs b n ≤ n
  | 0 => Nat.le_refl 0
  | n + 1 => by
    have := pcs_le b n
    rw [pcs]
    split <;> omega
theorem onesL (σ : St) (b : Nat) (hb : b < 256) : ∀ (d i n : Nat), i + d = 8 → d < n → fX9_ones_L4 (nI b) σ n (nI (pcs b i)) (nI i) = some (nI (pcs b 8)) := by
  intro d
  induction d with
  | zero =>
    intro i n hi hn
    obtain ⟨n, rfl, -⟩ := su hn
    have e : i = 8 := by omega
    subst e
    rw [fX9_ones_L4, if_pos (show (8 : Int32) ≤ nI 8 by decide)]
  | succ d ih =>
    intro i n hi hn
    obtain ⟨n, rfl, hn⟩ := su hn
    rw [fX9_ones_L4, if_neg (show ¬ (8 : Int32) ≤ nI i from nI_ge (a := i) (b := 8) (by omega) (by decide)), bt_shr b hb i (by omega)]
    simp only [bnd, nI_1]
    have e : nI (pcs b i) + (if b.testBit i = true then (1 : Int32) else (0 : Int32)) = nI (pcs b (i + 1)) := by
      rw [pcs]
      by_cases t : b.testBit i = true
      · rw [if_pos t, if_pos t, nI_1]
      · rw [if_neg t, if_neg t]; simp
    rw [e]
    exact ih (i + 1) n (by omega) (by omega)
theorem ones2 (σ : St) {b : Nat} (hb : b < 256) : fX9_ones (nI b) σ = some (nI (pcs b 8)) := by
  have e := onesL σ b hb 8 0 fu (by omega) (fu_gt (by omega))
  unfold fX9_ones
  rw [show (0 : Int32) = nI 0 from rfl]
  rw [show pcs b 0 = 0 from rfl] at e
  rw [e]
  rfl
theorem nI_eq1 {k : Nat} (h : k < 2 ^ 31) : (nI k = (1 : Int32)) ↔ k = 1 := by
  constructor
  · intro e
    have := congrArg Int32.toInt e
    rw [nI_toInt h, show (1 : Int32).toInt = 1 from rfl] at this
    omega
  · rintro rfl; rfl
theorem bitN (k : Nat) (hk : k < 8) : fX8_bit (nI k) = (1 : Int32) <<< (nI k &&& 31) := by
  rcases (show k = 0 ∨ k = 1 ∨ k = 2 ∨ k = 3 ∨ k = 4 ∨ k = 5 ∨ k = 6 ∨ k = 7 by omega) with rfl | rfl | rfl | rfl | rfl | rfl | rfl | rfl
  all_goals decide
theorem trapsL {σ σ' : St} {P G : Nat} (h : WR 4 σ σ' P G) : ∀ (d i n m : Nat) (a : Int32), i + d = P → d < n → d < m → ∃ r, fX8_traps_L4 σ n a (nI i) = some r ∧ fX9_trapsOf_L4 σ' m a (nI i) = some r := by
  obtain ⟨⟨hP, hG⟩, ⟨p0, p1⟩, ⟨g0, g1⟩, hy, hwh, hwk, hwf, hwl, hwd, hwg, v1, v2, v3, v4, v5, v6⟩ := id h
  intro d
  induction d with
  | zero =>
    intro i n m a hi hn hm
    obtain ⟨n, rfl, -⟩ := su hn
    obtain ⟨m, rfl, -⟩ := su hm
    have e : i = P := by omega
    subst e
    rw [fX8_traps_L4, fX9_trapsOf_L4, p0, p1, if_pos (nI_le (a := i) (b := i) (by omega) (by omega)), if_pos (nI_le (a := i) (b := i) (by omega) (by omega))]
    exact ⟨a, rfl, rfl⟩
  | succ d ih =>
    intro i n m a hi hn hm
    obtain ⟨n, rfl, hn⟩ := su hn
    obtain ⟨m, rfl, hm⟩ := su hm
    obtain ⟨b, hb, eb⟩ := v1 i (by omega)
    have hb8 := p2_256 hP hb
    have hpc := pcs_le b 8
    rw [fX8_traps_L4, fX9_trapsOf_L4, p0, p1, if_neg (nI_ge (a := i) (b := P) (by omega) (by omega)), if_neg (nI_ge (a := i) (b := P) (by omega) (by omega)), grd_t (inbN (show i < 8 by omega) (by decide)), grd_t (inbN (show i < 8 by omega) (by decide)), tcl (by omega), hwk i (by omega), eb, bc_pcs b hb8, ones2 σ' hb8]
    simp only [Option.bind_some, bnd, nI_1]
    by_cases t : nI (pcs b 8) = (1 : Int32)
    · rw [if_pos t, if_pos t, bitN i (by omega)]
      exact ih (i + 1) n m _ (by omega) (by omega) (by omega)
    · rw [if_neg t, if_neg t, show a ||| (0 : Int32) = a from by simp]
      exact ih (i + 1) n m _ (by omega) (by omega) (by omega)
theorem traps2 {σ σ' : St} {P G : Nat} (h : WR 4 σ σ' P G) : ∃ r, fX8_traps σ = some r ∧ fX9_trapsOf σ' = some r := by
  obtain ⟨r, a, b⟩ := trapsL h P 0 fu fu (nI 0) (by omega) (fu_gt (by have := h.1.1; omega)) (fu_gt (by have := h.1.1; omega))
  unfold fX8_traps fX9_trapsOf
  rw [show (0 : Int32) = nI 0 from rfl, a, b]
  exact ⟨r, rfl, rfl⟩
/-- traps -/
theorem s_traps {σ σ' : St} (h : Rel σ σ') : ∃ r, fX8_traps σ = some r ∧ fX9_traps σ' = some r := by
  obtain ⟨P, G, hR⟩ := h
  obtain ⟨r, a, b⟩ := traps2 hR.2.2.1
  unfold fX9_traps
  rw [b]
  exact ⟨r, a, rfl⟩
