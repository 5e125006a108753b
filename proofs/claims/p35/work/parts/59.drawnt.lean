/-! WHAT WOULD BE -/
theorem copyC (c10 c11 c16 : Int32) : ∀ (d i n : Nat) (σ : St), i + d = 64 → d < n → ∃ τ, fL_law_L647 c10 c11 c16 n (nI i) σ = some τ ∧ τ.2 = σ.2 ∧ (∀ a b, ¬ (a = 65 ∧ i ≤ b ∧ b < 64) → ¬ (a = 66 ∧ i ≤ b ∧ b < 64) → τ.1 a b = σ.1 a b) ∧ (∀ b, i ≤ b → b < 64 → τ.1 65 b = σ.1 63 b ∧ τ.1 66 b = σ.1 62 b) := by
  intro d
  induction d with
  | zero =>
    intro i n σ hi hn
    obtain ⟨n, rfl, -⟩ := su hn
    have e : i = 64 := by omega
    subst e
    rw [fL_law_L647, if_pos (show (64 : Int32) ≤ nI 64 by decide)]
    exact ⟨σ, rfl, rfl, fun _ _ _ _ => rfl, fun b h1 h2 => by omega⟩
  | succ d ih =>
    intro i n σ hi hn
    obtain ⟨n, rfl, hn⟩ := su hn
    rw [fL_law_L647, if_neg (show ¬ (64 : Int32) ≤ nI i from nI_ge (a := i) (b := 64) (by omega) (by decide))]
    simp (disch := omega) only [grd_t (inbN (show i < 64 by omega) (by decide)), tcl, bnd, nI_1, setI_oo]
    obtain ⟨τ, e1, e2, e3, e4⟩ := ih (i + 1) n (setI (setI σ 65 i (σ.1 63 i)) 66 i (σ.1 62 i)) (by omega) (by omega)
    refine ⟨τ, e1, e2, fun a b h1 h2 => ?_, fun b h1 h2 => ?_⟩
    · rw [e3 a b (by omega) (by omega), setI_oo (by omega), setI_oo (by omega)]
    · by_cases z : b = i
      · subst z
        rw [e3 65 b (by omega) (by omega), e3 66 b (by omega) (by omega)]
        simp (disch := omega) only [setI_s, setI_oo]
        exact ⟨trivial, trivial⟩
      · obtain ⟨f1, f2⟩ := e4 b (by omega) h2
        rw [f1, f2]
        simp (disch := omega) only [setI_oo]
        exact ⟨trivial, trivial⟩
theorem copyP (c10 c11 c16 : Int32) : ∀ (d i n : Nat) (σ : St), i + d = 27 → d < n → ∃ τ, fL_law_L683 c10 c11 c16 n (nI i) σ = some τ ∧ τ.2 = σ.2 ∧ (∀ a b, ¬ (a = 67 ∧ i ≤ b ∧ b < 27) → τ.1 a b = σ.1 a b) ∧ (∀ b, i ≤ b → b < 27 → τ.1 67 b = σ.1 60 b) := by
  intro d
  induction d with
  | zero =>
    intro i n σ hi hn
    obtain ⟨n, rfl, -⟩ := su hn
    have e : i = 27 := by omega
    subst e
    rw [fL_law_L683, if_pos (show (27 : Int32) ≤ nI 27 by decide)]
    exact ⟨σ, rfl, rfl, fun _ _ _ => rfl, fun b h1 h2 => by omega⟩
  | succ d ih =>
    intro i n σ hi hn
    obtain ⟨n, rfl, hn⟩ := su hn
    rw [fL_law_L683, if_neg (show ¬ (27 : Int32) ≤ nI i from nI_ge (a := i) (b := 27) (by omega) (by decide))]
    simp (disch := omega) only [grd_t (inbN (show i < 27 by omega) (by decide)), tcl, bnd, nI_1]
    obtain ⟨τ, e1, e2, e3, e4⟩ := ih (i + 1) n (setI σ 67 i (σ.1 60 i)) (by omega) (by omega)
    refine ⟨τ, e1, e2, fun a b h1 => ?_, fun b h1 h2 => ?_⟩
    · rw [e3 a b (by omega), setI_oo (by omega)]
    · by_cases z : b = i
      · subst z
        rw [e3 67 b (by omega), setI_s]
      · rw [e4 b (by omega) h2, setI_oo (by omega)]
theorem seedN (y : Int32) : ∃ s, s < 2 ^ 31 ∧ y &&& (2147483647 : Int32) = nI s := by
  refine ⟨y.toBitVec.toNat % 2 ^ 31, Nat.mod_lt _ (by decide), ?_⟩
  apply Int32.toBitVec_inj.mp
  apply BitVec.eq_of_toNat_eq
  rw [Int32.toBitVec_and, BitVec.toNat_and]
  show (y.toBitVec.toNat &&& (2 ^ 31 - 1)) = (y.toBitVec.toNat % 2 ^ 31) % 2 ^ 32
  rw [Nat.and_two_pow_sub_one_eq_mod]
  have := Nat.mod_lt y.toBitVec.toNat (show 2 ^ 31 > 0 by decide)
  omega
theorem WL.copied {B P G : Nat} {σ S τ σ' : St} (h : WL 4 60 62 63 B σ σ P G) (hS : ∀ a b, a < 34 → S.1 a b = σ.1 a b) (c : Cop 34 4 S τ) (h67 : ∀ b, b < 27 → σ'.1 67 b = σ.1 60 b) (h66 : ∀ b, b < 64 → σ'.1 66 b = σ.1 62 b) (h65 : ∀ b, b < 64 → σ'.1 65 b = σ.1 63 b) (h61 : ∀ b, σ'.1 61 b = σ.1 61 b) : WL 34 67 66 65 B τ σ' P G := by
  obtain ⟨⟨hP, hG⟩, ⟨p0, p1⟩, ⟨g0, g1⟩, hwh, hwk, hwf, hwl, hwd, hwg, v1, v2, v3⟩ := h
  obtain ⟨-, ⟨c0, c6, c8⟩, c13, c45, cg⟩ := c
  refine ⟨⟨hP, hG⟩, ⟨by rw [c0, hS _ _ (by omega)]; exact p0, by rw [h67 _ (by omega)]; exact p1⟩, ⟨by rw [c6, hS _ _ (by omega)]; exact g0, by rw [h67 _ (by omega)]; exact g1⟩, fun i hi => ?_, fun i hi => ?_, fun i hi => ?_, fun i hi => ?_, fun i hi => ?_, fun g hg k hk => ?_, fun i hi => ?_, fun i hi => ?_, fun g hg => ?_⟩
  · rw [c13 1 i (by omega) (by omega) hi, hS _ _ (by omega), h67 _ (by omega)]; exact hwh i hi
  · rw [c13 2 i (by omega) (by omega) hi, hS _ _ (by omega), h67 _ (by omega)]; exact hwk i hi
  · rw [c13 3 i (by omega) (by omega) hi, hS _ _ (by omega), h67 _ (by omega)]; exact hwf i hi
  · rw [c45 4 i (by omega) (by omega) hi, hS _ _ (by omega), h61]; exact hwl i hi
  · rw [c45 5 i (by omega) (by omega) hi, hS _ _ (by omega), h66 _ hi]; exact hwd i hi
  · have := pm_lt hk
    rw [show 34 + 7 + g = 34 + (7 + g) by omega, cg (7 + g) k (by omega) (by omega) hk, hS _ _ (by omega), h65 _ (by omega), show 4 + (7 + g) = 4 + 7 + g by omega]; exact hwg g hg k hk
  · rw [h67 _ (by omega)]; exact v1 i hi
  · rw [h67 _ (by omega)]; exact v2 i hi
  · unfold GVl
    rw [h65 _ (by omega), h65 _ (by omega), h65 _ (by omega), h65 _ (by omega), h65 _ (by omega), h65 _ (by omega)]
    exact v3 g hg
theorem copyG_2 {g g1 : Nat} {σ τ : St} (h : fX3_copyFrom g g1 σ = some τ) : τ.2 = σ.2 := by
  unfold fX3_copyFrom at h
  simp only [bnd] at h
  rw [← Option.some.inj h]
  rfl
theorem copyWL_2 {w w1 : Nat} : ∀ (d i n : Nat) (σ τ : St), i + d = 8 → d < n → fX7_copyFrom_L93 w w1 n (nI i) σ = some τ → τ.2 = σ.2 := by
  intro d
  induction d with
  | zero =>
    intro i n σ τ hi hn h
    obtain ⟨n, rfl, -⟩ := su hn
    have e : i = 8 := by omega
    subst e
    rw [fX7_copyFrom_L93, if_pos (show (8 : Int32) ≤ nI 8 by decide)] at h
    rw [← Option.some.inj h]
  | succ d ih =>
    intro i n σ τ hi hn h
    obtain ⟨n, rfl, hn⟩ := su hn
    rw [fX7_copyFrom_L93, if_neg (show ¬ (8 : Int32) ≤ nI i from nI_ge (a := i) (b := 8) (by omega) (by decide)), grd_t (inbN (show i < 8 by omega) (by decide)), grd_t (inbN (show i < 8 by omega) (by decide))] at h
    obtain ⟨q, h1, h2⟩ := obind h
    rw [nI_1] at h2
    rw [ih (i + 1) n q τ (by omega) (by omega) h2, copyG_2 h1]
theorem copyW_2 {w w1 : Nat} {σ τ : St} (h : fX7_copyFrom w w1 σ = some τ) : τ.2 = σ.2 := by
  unfold fX7_copyFrom at h
  simp only [bnd] at h
  obtain ⟨q, h1, h2⟩ := obind h
  have e := copyWL_2 8 0 fu _ q (by omega) (fu_gt (by omega)) h1
  rw [← Option.some.inj h2]
  exact e
