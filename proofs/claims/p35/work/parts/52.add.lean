/-! CALLS THAT ADD: their answers and what they change -/
theorem x_person1 {σ : St} {i k : Nat} (p0 : σ.1 4 0 = nI i) (hi : i < 8) (hk : k < 4) : fX8_person (nI k) σ = some (nI i, setI (setI σ 5 i (nI k)) 4 0 (nI (i + 1))) := by
  rw [x_person p0 (show k ≤ 3 by omega), if_pos hi]
theorem x_know {σ : St} {P j k bj bk : Nat} (p0 : σ.1 4 0 = nI P) (hP : P ≤ 8) (hj : j < P) (hk : k < P) (hjk : j ≠ k) (xj : σ.1 6 j = nI bj) (xk : σ.1 6 k = nI bk) (hbj : bj < 256) (hbk : bk < 256) (t : bj.testBit k = false) : fX8_know (nI j) (nI k) (1 : Int32) σ = some (0, setI (setI σ 6 j (nI (bj ||| 2 ^ k))) 6 k (nI (bk ||| 2 ^ j))) := by
  unfold fX8_know fX7_knows fX7_setKnown
  rw [two1 p0 hP hj hk hjk]
  simp (disch := omega) only [n10, if_false, grd_t (inbN (show j < 8 by omega) (by decide)), grd_t (inbN (show k < 8 by omega) (by decide)), tcl, Nat.reduceAdd, xj, bnd]
  rw [if_pos ((bt_and bj hbj k (by omega)).mpr t)]
  simp only [Option.bind_some, if_true]
  rw [bt_or bj hbj k (by omega), setI_oo (show ¬ (6 = 6 ∧ k = j) from fun q => hjk q.2.symm), xk, bt_or bk hbk j (by omega)]
theorem x_like {σ : St} {P j k v : Nat} (p0 : σ.1 4 0 = nI P) (hP : P ≤ 8) (hj : j < P) (hk : k < P) (hjk : j ≠ k) (hv : v < 10) : fX8_like (nI j) (nI k) (nI v) σ = some (σ.1 8 (8 * j + k), setI σ 8 (8 * j + k) (nI v)) := by
  unfold fX8_like
  have e : fX8_within (nI v) (0 : Int32) (9 : Int32) = 1 := by
    rcases (show v = 0 ∨ v = 1 ∨ v = 2 ∨ v = 3 ∨ v = 4 ∨ v = 5 ∨ v = 6 ∨ v = 7 ∨ v = 8 ∨ v = 9 by omega) with rfl | rfl | rfl | rfl | rfl | rfl | rfl | rfl | rfl | rfl <;> rfl
  rw [two1 p0 hP hj hk hjk, e, if_neg (by decide), if_neg (by decide), pairN]
  simp (disch := omega) only [bnd, Nat.reduceAdd, grd_t (inbN (show 8 * j + k < 64 by omega) (by decide)), tcl]
theorem x_gift {σ : St} {P G κ p : Nat} (p0 : σ.1 4 0 = nI P) (g0 : σ.1 4 6 = nI G) (hP : P ≤ 8) (hG : G < 8) (hκ : κ < 5) (hp : p < P) : ∃ τ, fX8_gift (nI κ) (nI p) σ = some (nI G, τ) ∧ τ.2 = σ.2 ∧ (∀ a b, ¬ (a = 4 ∧ b = 6) → ¬ (a = 11 + G ∧ b < 8) → τ.1 a b = σ.1 a b) ∧ τ.1 4 6 = nI (G + 1) ∧ τ.1 (11 + G) 0 = nI κ ∧ τ.1 (11 + G) 1 = nI p ∧ τ.1 (11 + G) 2 = nI p ∧ τ.1 (11 + G) 3 = -1 ∧ τ.1 (11 + G) 4 = 0 ∧ τ.1 (11 + G) 5 = 0 ∧ τ.1 (11 + G) 6 = 0 ∧ τ.1 (11 + G) 7 = 0 := by
  unfold fX8_gift fX7_addGift fX3_begin
  have e : fX8_within (nI κ) (0 : Int32) (4 : Int32) = 1 := by
    rcases (show κ = 0 ∨ κ = 1 ∨ κ = 2 ∨ κ = 3 ∨ κ = 4 by omega) with rfl | rfl | rfl | rfl | rfl <;> rfl
  rw [e, isP1 p0 hP hp, if_neg (by decide), if_neg (by decide), g0, if_pos (show nI G < (8 : Int32) from nI_lt (a := G) (b := 8) hG (by decide)), grd_t (inbN hG (by decide)), tcl (by omega)]
  simp (disch := omega) only [Option.bind_some, bnd, setI_s, setI_oo, g0, nk1, nI_p1, Nat.reduceAdd]
  refine ⟨_, rfl, rfl, fun a b h1 h2 => ?_, ?_, ?_, ?_, ?_, ?_, ?_, ?_, ?_, ?_⟩
  · simp (disch := omega) only [setI_oo]
  all_goals simp (disch := omega) only [setI_s, setI_oo]
