/-! THE WALKS -/
theorem setL_2 {σ : St} {i k a b : Nat} {v : Int64} : (setL σ i k v).2 a b = if a = i ∧ b = k then v else σ.2 a b := rfl
theorem setL_oo {σ : St} {i k a b : Nat} {v : Int64} (h : ¬ (a = i ∧ b = k)) : (setL σ i k v).2 a b = σ.2 a b := by rw [setL_2, if_neg h]
theorem clearX {a0 n0 : Nat} (h0 : n0 < 1000) : ∀ (d i n : Nat) (σ : St), i + d = n0 → d < n → ∃ τ, fX6_clear_L2 a0 n0 n (nI i) σ = some τ ∧ τ.1 = σ.1 ∧ ∀ a b, τ.2 a b = if a = a0 ∧ i ≤ b ∧ b < n0 then 0 else σ.2 a b := by
  intro d
  induction d with
  | zero =>
    intro i n σ hi hn
    obtain ⟨n, rfl, -⟩ := su hn
    have e : i = n0 := by omega
    subst e
    rw [fX6_clear_L2, if_pos (show Int32.ofNat i ≤ nI i from nI_le (a := i) (b := i) (by omega) (by omega))]
    exact ⟨σ, rfl, rfl, fun a b => by rw [if_neg (by omega)]⟩
  | succ d ih =>
    intro i n σ hi hn
    obtain ⟨n, rfl, hn⟩ := su hn
    rw [fX6_clear_L2, if_neg (show ¬ Int32.ofNat n0 ≤ nI i from nI_ge (a := i) (b := n0) (by omega) (by omega)), grd_t (inbN (show i < n0 by omega) (by omega)), tcl (by omega)]
    simp only [bnd, nI_1]
    obtain ⟨τ, e1, e2, e3⟩ := ih (i + 1) n (setL σ a0 i 0) (by omega) (by omega)
    refine ⟨τ, e1, e2, fun a b => ?_⟩
    rw [e3 a b, setL_2]
    by_cases q : a = a0 ∧ b = i
    · obtain ⟨rfl, rfl⟩ := q
      rw [if_neg (by omega), if_pos ⟨rfl, rfl⟩, if_pos (by omega)]
    · rw [if_neg q]
      by_cases t : a = a0 ∧ i + 1 ≤ b ∧ b < n0
      · rw [if_pos t, if_pos (by omega)]
      · rw [if_neg t, if_neg (by omega)]
theorem clear2 {a0 n0 : Nat} (h0 : n0 < 1000) (σ : St) : ∃ τ, fX6_clear a0 n0 σ = some τ ∧ τ.1 = σ.1 ∧ ∀ a b, τ.2 a b = if a = a0 ∧ b < n0 then 0 else σ.2 a b := by
  obtain ⟨τ, e1, e2, e3⟩ := clearX (a0 := a0) h0 n0 0 fu σ (by omega) (fu_gt (by omega))
  unfold fX6_clear
  rw [show (0 : Int32) = nI 0 from rfl, e1]
  refine ⟨τ, rfl, e2, fun a b => ?_⟩
  rw [e3 a b]
  by_cases t : a = a0 ∧ b < n0
  · rw [if_pos t, if_pos (by omega)]
  · rw [if_neg t, if_neg (by omega)]
theorem clearM (c1 c2 : Int32) : ∀ (d i n : Nat) (σ : St), i + d = 72 → d < n → ∃ τ, fX9_goAll_L2 c1 c2 n (nI i) σ = some τ ∧ τ.1 = σ.1 ∧ ∀ a b, τ.2 a b = if a = 68 ∧ i ≤ b ∧ b < 72 then 0 else σ.2 a b := by
  intro d
  induction d with
  | zero =>
    intro i n σ hi hn
    obtain ⟨n, rfl, -⟩ := su hn
    have e : i = 72 := by omega
    subst e
    rw [fX9_goAll_L2, if_pos (show (72 : Int32) ≤ nI 72 by decide)]
    exact ⟨σ, rfl, rfl, fun a b => by rw [if_neg (by omega)]⟩
  | succ d ih =>
    intro i n σ hi hn
    obtain ⟨n, rfl, hn⟩ := su hn
    rw [fX9_goAll_L2, if_neg (show ¬ (72 : Int32) ≤ nI i from nI_ge (a := i) (b := 72) (by omega) (by decide)), grd_t (inbN (show i < 72 by omega) (by decide)), tcl (by omega)]
    simp only [bnd, nI_1]
    obtain ⟨τ, e1, e2, e3⟩ := ih (i + 1) n (setL σ 68 i 0) (by omega) (by omega)
    refine ⟨τ, e1, e2, fun a b => ?_⟩
    rw [e3 a b, setL_2]
    by_cases q : a = 68 ∧ b = i
    · obtain ⟨rfl, rfl⟩ := q
      rw [if_neg (by omega), if_pos ⟨rfl, rfl⟩, if_pos (by omega)]
    · rw [if_neg q]
      by_cases t : a = 68 ∧ i + 1 ≤ b ∧ b < 72
      · rw [if_pos t, if_pos (by omega)]
      · rw [if_neg t, if_neg (by omega)]
theorem moveM (c3 : Int64) : ∀ (d i n : Nat) (σ : St), i + d = 72 → d < n → ∃ τ, fX9_goAll_L226 c3 n (nI i) σ = some τ ∧ τ.1 = σ.1 ∧ ∀ a b, τ.2 a b = if a = 67 ∧ i ≤ b ∧ b < 72 then σ.2 68 b else σ.2 a b := by
  intro d
  induction d with
  | zero =>
    intro i n σ hi hn
    obtain ⟨n, rfl, -⟩ := su hn
    have e : i = 72 := by omega
    subst e
    rw [fX9_goAll_L226, if_pos (show (72 : Int32) ≤ nI 72 by decide)]
    exact ⟨σ, rfl, rfl, fun a b => by rw [if_neg (by omega)]⟩
  | succ d ih =>
    intro i n σ hi hn
    obtain ⟨n, rfl, hn⟩ := su hn
    rw [fX9_goAll_L226, if_neg (show ¬ (72 : Int32) ≤ nI i from nI_ge (a := i) (b := 72) (by omega) (by decide)), grd_t (inbN (show i < 72 by omega) (by decide)), tcl (by omega)]
    simp only [grd_t (inbN (show i < 72 by omega) (by decide)), bnd, nI_1]
    obtain ⟨τ, e1, e2, e3⟩ := ih (i + 1) n (setL σ 67 i (σ.2 68 i)) (by omega) (by omega)
    refine ⟨τ, e1, e2, fun a b => ?_⟩
    rw [e3 a b, setL_oo (show ¬ (68 = 67 ∧ b = i) by omega), setL_2]
    by_cases q : a = 67 ∧ b = i
    · obtain ⟨rfl, rfl⟩ := q
      rw [if_neg (by omega), if_pos ⟨rfl, rfl⟩, if_pos (by omega)]
    · rw [if_neg q]
      by_cases t : a = 67 ∧ i + 1 ≤ b ∧ b < 72
      · rw [if_pos t, if_pos (by omega)]
      · rw [if_neg t, if_neg (by omega)]
