/-! THE SCRIPT'S NUMBERS -/
theorem vI_div31 {a b : Nat} (ha : a < 2 ^ 31) (hb : b < 2 ^ 31) : nI a / nI b = nI (a / b) := by
  apply Int32.toInt_inj.mp
  have hl : a / b < 2 ^ 31 := Nat.lt_of_le_of_lt (Nat.div_le_self a b) ha
  rw [Int32.toInt_div, nI_toInt (by omega), nI_toInt (by omega), nI_toInt (by omega), ← Int.ofNat_tdiv]
  generalize a / b = q at hl ⊢
  rw [Int.bmod_eq_of_le (by omega) (by omega)]
theorem vI_mod31 {a b : Nat} (ha : a < 2 ^ 31) (hb : b < 2 ^ 31) : nI a - nI a / nI b * nI b = nI (a % b) := by
  rw [vI_div31 ha hb]
  have h2 := Nat.div_add_mod a b
  have h3 : b * (a / b) = a / b * b := Nat.mul_comm _ _
  have e : nI (a / b) * nI b = nI (a / b * b) := by unfold nI; rw [Int32.ofNat_mul]
  rw [e]
  have e2 : nI a = nI (a % b) + nI (a / b * b) := by
    unfold nI; rw [← Int32.ofNat_add]; congr 1; omega
  rw [e2, Int32.add_sub_cancel]
theorem ushr1 (x : Int32) : ∃ m, m < 2 ^ 31 ∧ ushrI x (1 : Int32) = nI m := by
  refine ⟨(x.toUInt32 >>> 1).toNat, ?_, ?_⟩
  · rw [UInt32.toNat_shiftRight]
    have h := x.toUInt32.toNat_lt
    show x.toUInt32.toNat >>> 1 < 2 ^ 31
    rw [Nat.shiftRight_eq_div_pow]
    omega
  · unfold ushrI
    rw [show (1 : Int32).toUInt32 &&& Int32.toUInt32 31 = 1 from by decide]
    generalize x.toUInt32 >>> 1 = v
    apply Int32.toBitVec_inj.mp
    apply BitVec.eq_of_toNat_eq
    show v.toNat = v.toNat % 2 ^ 32
    rw [Nat.mod_eq_of_lt v.toNat_lt]
/-- at(x, n) is below n -/
theorem at_c (x : Int32) {n : Nat} (h0 : 0 < n) (hn : n < 2 ^ 31) : ∃ j, j < n ∧ fL_at x (nI n) = some (nI j) := by
  obtain ⟨m, hm, e⟩ := ushr1 x
  refine ⟨m % n, Nat.mod_lt _ h0, ?_⟩
  have e2 : decide (¬ nI n = 0) = true := decide_eq_true (fun q => by have := (nI_inj (a := n) (b := 0) hn (by decide)).mp q; omega)
  unfold fL_at
  rw [grd_t e2, e, vI_mod31 hm hn]
/-- the script stands in the rows 68 and 69 -/
def Scr (σ : St) : Prop := ∃ L, L ≤ 260 ∧ σ.1 69 0 = nI L
theorem cell_c {σ : St} (h : Scr σ) {k : Nat} (hk : k < 2 ^ 30) : ∃ v, fL_cell (nI k) σ = some v := by
  obtain ⟨L, hL, e⟩ := h
  unfold fL_cell
  rw [e]
  by_cases z : nI L ≤ nI k
  · rw [if_pos z]; exact ⟨_, rfl⟩
  · rw [if_neg z, nI_clamp (by omega), grd_t (inbN (show k < L from by
      rw [nI_leI (by omega) (by omega)] at z; omega) (by omega))]
    exact ⟨_, rfl⟩
theorem m4 {a : Nat} (ha : a < 2 ^ 30) : nI a - nI a / (4 : Int32) * (4 : Int32) = nI (a % 4) := vI_mod (b := 4) ha (by decide)
theorem m3 {a : Nat} (ha : a < 2 ^ 30) : nI a - nI a / (3 : Int32) * (3 : Int32) = nI (a % 3) := vI_mod (b := 3) ha (by decide)
