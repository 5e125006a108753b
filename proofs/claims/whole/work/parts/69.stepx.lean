theorem clr_bit : ∀ b, b < 256 → ∀ t, t < 8 → ∀ j, j < 8 → (b &&& (255 - 2 ^ t)).testBit j = (b.testBit j && decide (j ≠ t)) := by decide +kernel
theorem clr_256 {b t : Nat} (hb : b < 256) : b &&& (255 - 2 ^ t) < 256 := Nat.lt_of_le_of_lt Nat.and_le_left hb
theorem vN_add (a b : Nat) : vN a + vN b = vN (a + b) := by unfold vN; rw [Int64.ofNat_add]
theorem vN_mul (a b : Nat) : vN a * vN b = vN (a * b) := by unfold vN; rw [Int64.ofNat_mul]
/-- what one way weighs -/
def wq (c b : Nat) : Nat := if c = 0 then 1 else 420 / pcs b 8
theorem stepX {w1 : Nat} {c2 fr : Int32} {c t f h b w P : Nat} (hf : isFr fr f) (ht : t < 8) (hP : P ≤ 8) (hh : h < P) (hb : b < 256) (hw : w < 2 ^ 62) (hc : c < 2) (n : Nat) (v5 : Int64) (σ : St) (h0 : σ.1 w1 0 = nI P) (hm : fX7_mayHave w1 fr (nI h) c2 σ = some (nI b)) (h51 : σ.2 51 (8 * f + h) = vN w) : ∃ τ, fX6_goOn_L25 w1 c2 (nI t) (nI c) fr (n + 1) v5 (nI h) σ = fX6_goOn_L25 w1 c2 (nI t) (nI c) fr n (v5 + (if b.testBit t = true then vN (wq c b * w) else 0)) (nI (h + 1)) τ ∧ τ.1 = σ.1 ∧ ∀ a k, τ.2 a k = if a = 52 ∧ 8 * (h + 1) ≤ k ∧ k < 8 * (h + 1) + 8 ∧ b.testBit (k - 8 * (h + 1)) = true ∧ k - 8 * (h + 1) ≠ t then σ.2 a k + vN (wq c b * w) else σ.2 a k := by
  have hf9 := isFr_lt hf
  rw [fX6_goOn_L25, h0, if_neg (nI_ge (a := h) (b := P) (by omega) (by omega)), spotF hf, grd_t (inbN (show 8 * f + h < 72 by omega) (by decide)), tcl (by omega), h51, hm]
  simp only [bnd, nI_1]
  by_cases z : w = 0
  · subst z
    rw [if_pos (lcmp_eq.mpr (show vN 0 = 0 from rfl))]
    simp only [obs, if_true]
    refine ⟨σ, ?_, rfl, fun a k => ?_⟩
    · rw [Nat.mul_zero, show vN 0 = (0 : Int64) from rfl]
      split <;> rw [Int64.add_zero]
    · rw [Nat.mul_zero, show vN 0 = (0 : Int64) from rfl]
      split
      · rw [Int64.add_zero]
      · rfl
  · rw [if_neg (fun q => z ((vN_0 hw).mp (lcmp_eq.mp q)))]
    simp only [obs]
    by_cases y : b = 0
    · subst y
      rw [if_pos (show nI 0 = (0 : Int32) from rfl)]
      refine ⟨σ, ?_, rfl, fun a k => ?_⟩
      · rw [if_neg (by simp), Int64.add_zero]
      · rw [if_neg (by simp)]
    · rw [if_neg (show ¬ nI b = (0 : Int32) from fun q => y ((nI_inj (b := 0) (by omega) (by decide)).mp q))]
      have hp8 := pcs_le b 8
      have hp0 := pcs_0 b hb y
      have e : (if nI c = 0 then some (vN w) else (grd (decide (¬ (fJ6_bitCount_0f7a4 (nI b)).toInt64 = 0)) (some (vN w * ((420 : Int64) / (fJ6_bitCount_0f7a4 (nI b)).toInt64))))) = some (vN (wq c b * w)) := by
        unfold wq
        by_cases x : c = 0
        · subst x
          rw [if_pos (show nI 0 = (0 : Int32) from rfl), if_pos rfl, Nat.one_mul]
        · rw [if_neg (show ¬ nI c = (0 : Int32) from fun q => x ((nI_inj (b := 0) (by omega) (by decide)).mp q)), if_neg x, bc_pcs b hb, vN_of (by omega), grd_t (show decide (¬ vN (pcs b 8) = 0) = true from decide_eq_true (fun q => hp0 ((vN_0 (by omega)).mp q))), show (420 : Int64) = vN 420 from rfl, vN_div (by decide) (by omega), vN_mul, Nat.mul_comm]
      rw [e]
      simp only [obs]
      obtain ⟨τ, e1, e2, e3⟩ := spreadX (vN (wq c b * w)) (h := h) (by omega) (clr_256 (t := t) hb) 8 0 fu σ (by omega) (fu_gt (by omega))
      rw [bt_clr b hb t ht]
      unfold fX6_spread
      rw [show (0 : Int32) = nI 0 from rfl, e1]
      simp only [obs]
      refine ⟨τ, ?_, e2, fun a k => ?_⟩
      · by_cases x : b.testBit t = true
        · rw [if_pos x, if_neg (fun q => by rw [(bt_and b hb t ht).mp q] at x; cases x)]
        · rw [if_neg x, if_pos (show nI b &&& fX8_bit (nI t) = nI 0 from (bt_and b hb t ht).mpr (by simpa using x)), Int64.add_zero]
      · rw [e3 a k]
        by_cases x : a = 52 ∧ 8 * (h + 1) ≤ k ∧ k < 8 * (h + 1) + 8
        · have cb := clr_bit b hb t ht (k - 8 * (h + 1)) (by omega)
          by_cases u : b.testBit (k - 8 * (h + 1)) = true ∧ k - 8 * (h + 1) ≠ t
          · rw [if_pos ⟨x.1, by omega, x.2.2, by rw [cb, u.1]; simpa using u.2⟩, if_pos ⟨x.1, x.2.1, x.2.2, u⟩]
          · rw [if_neg (fun v => u (by have := v.2.2.2; rw [cb] at this; simpa using this)), if_neg (fun v => u v.2.2.2)]
        · rw [if_neg (fun v => x ⟨v.1, by omega, v.2.2.1⟩), if_neg (fun v => x ⟨v.1, v.2.1, v.2.2.1⟩)]
