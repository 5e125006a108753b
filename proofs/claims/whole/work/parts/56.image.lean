theorem cpyI_1 {σ : St} {i j n a b : Nat} : (cpyI σ i j n).1 a b = if a = j ∧ b < n then σ.1 i b else σ.1 a b := rfl
theorem cpyI_oo {σ : St} {i j n a b : Nat} (h : ¬ (a = j ∧ b < n)) : (cpyI σ i j n).1 a b = σ.1 a b := by rw [cpyI_1, if_neg h]
theorem cpyI_s {σ : St} {i j n b : Nat} (h : b < n) : (cpyI σ i j n).1 j b = σ.1 i b := by rw [cpyI_1, if_pos ⟨rfl, h⟩]
theorem copyML {a0 n0 a1 n1 N : Nat} (h0 : N ≤ n0) (h1 : N ≤ n1) (hn0 : n0 < 100) (hn1 : n1 < 100) (ha : a0 ≠ a1) : ∀ (d i n : Nat) (σ : St), i + d = N → d < n → ∃ τ, fX9_copy_L2 a0 n0 a1 n1 (nI N) n (nI i) σ = some τ ∧ ∀ a b, τ.1 a b = if a = a1 ∧ i ≤ b ∧ b < N then σ.1 a0 b else σ.1 a b := by
  intro d
  induction d with
  | zero =>
    intro i n σ hi hn
    obtain ⟨n, rfl, -⟩ := su hn
    have e : i = N := by omega
    subst e
    rw [fX9_copy_L2, if_pos (nI_le (a := i) (b := i) (by omega) (by omega))]
    exact ⟨σ, rfl, fun a b => by rw [if_neg (by omega)]⟩
  | succ d ih =>
    intro i n σ hi hn
    obtain ⟨n, rfl, hn⟩ := su hn
    rw [fX9_copy_L2, if_neg (nI_ge (a := i) (b := N) (by omega) (by omega)), grd_t (inbN (show i < n0 by omega) (by omega)), grd_t (inbN (show i < n1 by omega) (by omega)), tcl (by omega)]
    simp only [bnd, nI_1]
    obtain ⟨τ, e1, e2⟩ := ih (i + 1) n (setI σ a1 i (σ.1 a0 i)) (by omega) (by omega)
    refine ⟨τ, e1, fun a b => ?_⟩
    rw [e2 a b, setI_oo (show ¬ (a0 = a1 ∧ b = i) by omega), setI_1]
    by_cases q : a = a1 ∧ b = i
    · obtain ⟨rfl, rfl⟩ := q
      rw [if_neg (by omega), if_pos ⟨rfl, rfl⟩, if_pos (by omega)]
    · rw [if_neg q]
      by_cases t : a = a1 ∧ i + 1 ≤ b ∧ b < N
      · rw [if_pos t, if_pos (by omega)]
      · rw [if_neg t, if_neg (by omega)]
theorem copyM {a0 n0 a1 n1 N : Nat} (h0 : N ≤ n0) (h1 : N ≤ n1) (hn0 : n0 < 100) (hn1 : n1 < 100) (ha : a0 ≠ a1) (σ : St) : ∃ τ, fX9_copy a0 n0 a1 n1 (nI N) σ = some τ ∧ ∀ a b, τ.1 a b = if a = a1 ∧ b < N then σ.1 a0 b else σ.1 a b := by
  obtain ⟨τ, e1, e2⟩ := copyML h0 h1 hn0 hn1 ha N 0 fu σ (by omega) (fu_gt (by omega))
  unfold fX9_copy
  rw [show (0 : Int32) = nI 0 from rfl, e1]
  refine ⟨τ, rfl, fun a b => ?_⟩
  rw [e2 a b]
  by_cases t : a = a1 ∧ b < N
  · rw [if_pos t, if_pos (by omega)]
  · rw [if_neg t, if_neg (by omega)]
theorem copyG {g g1 : Nat} (h : g ≠ g1) (σ : St) : ∃ τ, fX3_copyFrom g g1 σ = some τ ∧ ∀ a b, τ.1 a b = if a = g ∧ b < 8 then σ.1 g1 b else σ.1 a b := by
  unfold fX3_copyFrom
  simp only [bnd]
  refine ⟨_, rfl, fun a b => ?_⟩
  by_cases t : a = g ∧ b < 8
  · obtain ⟨rfl, hb⟩ := t
    rw [if_pos ⟨rfl, hb⟩]
    rcases (show b = 0 ∨ b = 1 ∨ b = 2 ∨ b = 3 ∨ b = 4 ∨ b = 5 ∨ b = 6 ∨ b = 7 by omega) with rfl | rfl | rfl | rfl | rfl | rfl | rfl | rfl
    all_goals simp (disch := omega) only [setI_oo, setI_s]
  · rw [if_neg t]
    simp (disch := omega) only [setI_oo]
theorem copyWL {w w1 : Nat} (h : w + 15 ≤ w1 ∨ w1 + 15 ≤ w) : ∀ (d i n : Nat) (σ : St), i + d = 8 → d < n → ∃ τ, fX7_copyFrom_L93 w w1 n (nI i) σ = some τ ∧ ∀ a b, τ.1 a b = if w + 7 + i ≤ a ∧ a < w + 15 ∧ b < 8 then σ.1 (w1 + (a - w)) b else σ.1 a b := by
  intro d
  induction d with
  | zero =>
    intro i n σ hi hn
    obtain ⟨n, rfl, -⟩ := su hn
    have e : i = 8 := by omega
    subst e
    rw [fX7_copyFrom_L93, if_pos (show (8 : Int32) ≤ nI 8 by decide)]
    exact ⟨σ, rfl, fun a b => by rw [if_neg (by omega)]⟩
  | succ d ih =>
    intro i n σ hi hn
    obtain ⟨n, rfl, hn⟩ := su hn
    rw [fX7_copyFrom_L93, if_neg (show ¬ (8 : Int32) ≤ nI i from nI_ge (a := i) (b := 8) (by omega) (by decide)), grd_t (inbN (show i < 8 by omega) (by decide)), grd_t (inbN (show i < 8 by omega) (by decide)), tcl (by omega)]
    obtain ⟨σ1, f1, f2⟩ := copyG (g := w + 7 + i) (g1 := w1 + 7 + i) (by omega) σ
    rw [f1]
    simp only [Option.bind_some, nI_1]
    obtain ⟨τ, e1, e2⟩ := ih (i + 1) n σ1 (by omega) (by omega)
    refine ⟨τ, e1, fun a b => ?_⟩
    rw [e2 a b]
    by_cases q : a = w + 7 + i ∧ b < 8
    · obtain ⟨rfl, hb⟩ := q
      rw [if_neg (by omega), f2, if_pos ⟨rfl, hb⟩, if_pos (by omega), show w1 + (w + 7 + i - w) = w1 + 7 + i by omega]
    · by_cases t : w + 7 + (i + 1) ≤ a ∧ a < w + 15 ∧ b < 8
      · rw [if_pos t, if_pos (by omega), f2, if_neg (by omega)]
      · rw [if_neg t, if_neg (by omega), f2, if_neg q]
/-- one WORLD copied into another -/
def Cop (w w1 : Nat) (σ τ : St) : Prop := (∀ a b, a < w ∨ w + 15 ≤ a → τ.1 a b = σ.1 a b) ∧ (τ.1 w 0 = σ.1 w1 0 ∧ τ.1 w 6 = σ.1 w1 6 ∧ τ.1 w 8 = σ.1 w1 8) ∧ (∀ j b, 1 ≤ j → j ≤ 3 → b < 8 → τ.1 (w + j) b = σ.1 (w1 + j) b) ∧ (∀ j b, 4 ≤ j → j ≤ 5 → b < 64 → τ.1 (w + j) b = σ.1 (w1 + j) b) ∧ (∀ j b, 7 ≤ j → j < 15 → b < 8 → τ.1 (w + j) b = σ.1 (w1 + j) b)
theorem copyW {w w1 : Nat} (h : w + 15 ≤ w1 ∨ w1 + 15 ≤ w) (σ : St) : ∃ τ, fX7_copyFrom w w1 σ = some τ ∧ Cop w w1 σ τ := by
  unfold fX7_copyFrom
  simp only [bnd, show (8 : Int32).toNatClampNeg = 8 from rfl, show (64 : Int32).toNatClampNeg = 64 from rfl]
  rw [show (0 : Int32) = nI 0 from rfl]
  generalize hσ7 : setI (cpyI (cpyI (cpyI (cpyI (cpyI (setI σ w 0 (σ.1 w1 0)) (w1 + 1) (w + 1) 8) (w1 + 2) (w + 2) 8) (w1 + 3) (w + 3) 8) (w1 + 4) (w + 4) 64) (w1 + 5) (w + 5) 64) w 6 _ = σ7
  obtain ⟨τ, e1, e2⟩ := copyWL h 8 0 fu σ7 (by omega) (fu_gt (by omega))
  rw [e1]
  refine ⟨_, rfl, ?_, ⟨?_, ?_, ?_⟩, ?_, ?_, ?_⟩
  · intro a b ha
    rw [setI_oo (by omega), e2, if_neg (by omega), ← hσ7]
    simp (disch := omega) only [setI_oo, cpyI_oo]
  · rw [setI_oo (by omega), e2, if_neg (by omega), ← hσ7]
    simp (disch := omega) only [setI_oo, cpyI_oo, setI_s]
  · rw [setI_oo (by omega), e2, if_neg (by omega), ← hσ7]
    simp (disch := omega) only [setI_oo, cpyI_oo, setI_s]
  · rw [setI_s, e2, if_neg (by omega), ← hσ7]
    simp (disch := omega) only [setI_oo, cpyI_oo]
  · intro j b h1 h3 hb
    rw [setI_oo (by omega), e2, if_neg (by omega), ← hσ7]
    rcases (show j = 1 ∨ j = 2 ∨ j = 3 by omega) with rfl | rfl | rfl
    all_goals simp (disch := omega) only [setI_oo, cpyI_oo, cpyI_s]
  · intro j b h1 h3 hb
    rw [setI_oo (by omega), e2, if_neg (by omega), ← hσ7]
    rcases (show j = 4 ∨ j = 5 by omega) with rfl | rfl
    all_goals simp (disch := omega) only [setI_oo, cpyI_oo, cpyI_s]
  · intro j b h1 h3 hb
    rw [setI_oo (by omega), e2, if_pos (by omega), ← hσ7, show w1 + (w + j - w) = w1 + j by omega]
    simp (disch := omega) only [setI_oo, cpyI_oo]
