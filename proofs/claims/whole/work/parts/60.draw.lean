/-! THE DRAWS -/
def vN (n : Nat) : Int64 := Int64.ofNat n
theorem vN_toInt {n : Nat} (h : n < 2 ^ 63) : (vN n).toInt = n := Int64.toInt_ofNat_of_lt h
theorem vN_of {s : Nat} (h : s < 2 ^ 31) : (nI s).toInt64 = vN s := by
  apply Int64.toInt_inj.mp
  rw [Int32.toInt_toInt64, nI_toInt h, vN_toInt (by omega)]
theorem vN_32 {s : Nat} (h : s < 2 ^ 31) : (vN s).toInt32 = nI s := by
  apply Int32.toInt_inj.mp
  rw [Int64.toInt_toInt32, nI_toInt h, vN_toInt (by omega)]
  rw [Int.bmod_eq_of_le (by omega) (by omega)]
theorem vN_div {a b : Nat} (ha : a < 2 ^ 62) (hb : b < 2 ^ 62) : vN a / vN b = vN (a / b) := by
  apply Int64.toInt_inj.mp
  have hl : a / b < 2 ^ 62 := Nat.lt_of_le_of_lt (Nat.div_le_self a b) ha
  rw [Int64.toInt_div, vN_toInt (by omega), vN_toInt (by omega), vN_toInt (by omega), ← Int.ofNat_tdiv]
  generalize a / b = q at hl ⊢
  rw [Int.bmod_eq_of_le (by omega) (by omega)]
theorem vI_div {a b : Nat} (ha : a < 2 ^ 30) (hb : b < 2 ^ 30) : nI a / nI b = nI (a / b) := by
  apply Int32.toInt_inj.mp
  have hl : a / b < 2 ^ 30 := Nat.lt_of_le_of_lt (Nat.div_le_self a b) ha
  rw [Int32.toInt_div, nI_toInt (by omega), nI_toInt (by omega), nI_toInt (by omega), ← Int.ofNat_tdiv]
  generalize a / b = q at hl ⊢
  rw [Int.bmod_eq_of_le (by omega) (by omega)]
theorem vN_mod {a b : Nat} (ha : a < 2 ^ 62) (hb : b < 2 ^ 62) : vN a - vN a / vN b * vN b = vN (a % b) := by
  rw [vN_div ha hb]
  have h1 := Nat.div_mul_le_self a b
  have h2 := Nat.div_add_mod a b
  have h3 : b * (a / b) = a / b * b := Nat.mul_comm _ _
  have e : vN (a / b) * vN b = vN (a / b * b) := by unfold vN; rw [Int64.ofNat_mul]
  rw [e]
  have e2 : vN a = vN (a % b) + vN (a / b * b) := by
    unfold vN; rw [← Int64.ofNat_add]; congr 1; omega
  rw [e2, Int64.add_sub_cancel]
theorem vI_mod {a b : Nat} (ha : a < 2 ^ 30) (hb : b < 2 ^ 30) : nI a - nI a / nI b * nI b = nI (a % b) := by
  rw [vI_div ha hb]
  have h2 := Nat.div_add_mod a b
  have h3 : b * (a / b) = a / b * b := Nat.mul_comm _ _
  have e : nI (a / b) * nI b = nI (a / b * b) := by unfold nI; rw [Int32.ofNat_mul]
  rw [e]
  have e2 : nI a = nI (a % b) + nI (a / b * b) := by
    unfold nI; rw [← Int32.ofNat_add]; congr 1; omega
  rw [e2, Int32.add_sub_cancel]
def vxS (s : Nat) : Nat := (1103515245 * s + 12345) % 2 ^ 31
theorem vx_lt (s : Nat) : vxS s < 2 ^ 31 := Nat.mod_lt _ (by decide)
theorem vxL (s : Nat) : ((1103515245 : Int64) * vN s + 12345) &&& 2147483647 = vN (vxS s) := by
  have e : (1103515245 : Int64) * vN s + 12345 = vN (1103515245 * s + 12345) := by
    unfold vN; rw [Int64.ofNat_add, Int64.ofNat_mul]; rfl
  rw [e]
  apply Int64.toBitVec_inj.mp
  apply BitVec.eq_of_toNat_eq
  rw [Int64.toBitVec_and, BitVec.toNat_and]
  show ((1103515245 * s + 12345) % 2 ^ 64 &&& (2 ^ 31 - 1)) = vxS s % 2 ^ 64
  rw [Nat.and_two_pow_sub_one_eq_mod, Nat.mod_mod_of_dvd _ (by decide), Nat.mod_eq_of_lt (b := 2 ^ 64) (Nat.lt_of_lt_of_le (vx_lt s) (by decide))]
  rfl
theorem pcs_0 : ∀ b, b < 256 → b ≠ 0 → pcs b 8 ≠ 0 := by decide +kernel
theorem dec_1 (a : Int32) : a + (-1 : Int32) = a - 1 := by
  rw [Int32.sub_eq_add_neg]
/-- the bit that is the t-th of those set -/
theorem pickL (σ σ' : St) {b : Nat} (hb : b < 256) : ∀ (d i n m t : Nat), i + d = 8 → t + pcs b i < pcs b 8 → d < n → d < m → ∃ c, c < 8 ∧ b.testBit c = true ∧ fX2_oneOf_L47 (nI b) σ n (nI t) (nI i) = some (.inl (nI c, σ)) ∧ fX9_byDraw_L11 (nI b) σ' m (nI t) (nI i) = some (nI c) := by
  intro d
  induction d with
  | zero =>
    intro i n m t hi ht hn hm
    have e : i = 8 := by omega
    subst e
    omega
  | succ d ih =>
    intro i n m t hi ht hn hm
    obtain ⟨n, rfl, hn⟩ := su hn
    obtain ⟨m, rfl, hm⟩ := su hm
    have hp8 := pcs_le b 8
    rw [fX2_oneOf_L47, fX9_byDraw_L11, if_neg (show ¬ (8 : Int32) ≤ nI i from nI_ge (a := i) (b := 8) (by omega) (by decide)), bt_shr b hb i (by omega)]
    by_cases z : b.testBit i = true
    · have e1 : pcs b (i + 1) = pcs b i + 1 := by rw [pcs, if_pos z]
      rw [if_neg (fun q => by rw [(bt_and b hb i (by omega)).mp q] at z; cases z), if_pos z, if_neg (show ¬ (1 : Int32) = 0 by decide)]
      by_cases y : t = 0
      · subst y
        rw [if_pos (show nI 0 = (0 : Int32) from rfl), if_pos (show nI 0 ≤ (0 : Int32) by decide)]
        exact ⟨i, by omega, z, rfl, rfl⟩
      · obtain ⟨u, rfl⟩ : ∃ u, t = u + 1 := ⟨t - 1, by omega⟩
        rw [if_neg (fun q => by have := (nI_inj (a := u + 1) (b := 0) (by omega) (by decide)).mp q; omega), if_neg (show ¬ nI (u + 1) ≤ (0 : Int32) from nI_ge (a := 0) (b := u + 1) (by omega) (by omega))]
        simp only [bnd, nI_1]
        rw [dec_1, nI_p1]
        exact ih (i + 1) n m u (by omega) (by omega) (by omega) (by omega)
    · have e1 : pcs b (i + 1) = pcs b i := by rw [pcs, if_neg z]; rfl
      rw [if_pos ((bt_and b hb i (by omega)).mpr (by simpa using z)), if_neg z, if_pos rfl]
      simp only [bnd, nI_1]
      rw [show nI t - (0 : Int32) = nI t from by simp]
      exact ih (i + 1) n m t (by omega) (by omega) (by omega) (by omega)
theorem setL_s {σ : St} {i k : Nat} {v : Int64} : (setL σ i k v).2 i k = v := by
  unfold setL
  simp
theorem draw2 {σ σ' : St} {b s : Nat} (hb : b < 256) (hb0 : b ≠ 0) (hs : s < 2 ^ 31) (h0 : σ.2 49 0 = vN s) (h1 : σ'.1 58 22 = nI s) : ∃ c, c < 8 ∧ b.testBit c = true ∧ fX2_oneOf (nI b) σ = some (nI c, setL σ 49 0 (vN (vxS s))) ∧ fX9_byDraw (nI b) σ' = some (nI c, setI σ' 58 22 (nI (vxS s))) := by
  have hp8 := pcs_le b 8
  have hp0 := pcs_0 b hb hb0
  have hx := vx_lt s
  have hm : vxS s / 65536 % pcs b 8 < pcs b 8 := Nat.mod_lt _ (by omega)
  have hd : vxS s / 65536 < 2 ^ 30 := Nat.lt_of_le_of_lt (Nat.div_le_div_right (Nat.le_of_lt hx)) (by decide)
  obtain ⟨c, hc, hbc, f1, f2⟩ := pickL (setL σ 49 0 (vN (vxS s))) (setI σ' 58 22 (nI (vxS s))) hb 8 0 fu fu (vxS s / 65536 % pcs b 8) (by omega) (by rw [show pcs b 0 = 0 from rfl]; omega) (fu_gt (by omega)) (fu_gt (by omega))
  refine ⟨c, hc, hbc, ?_, ?_⟩
  · unfold fX2_oneOf
    rw [bc_pcs b hb, h0, vxL]
    simp only [bnd]
    rw [if_neg (show ¬ nI (pcs b 8) = (0 : Int32) from fun q => hp0 ((nI_inj (b := 0) (by omega) (by decide)).mp q))]
    have e1 : (setL σ 49 0 (vN (vxS s))).2 49 0 = vN (vxS s) := setL_s
    have e2 : decide (¬ (nI (pcs b 8)).toInt64 = 0) = true := by
      rw [vN_of (by omega)]
      refine decide_eq_true (fun q => hp0 ?_)
      have := congrArg Int64.toInt q
      rw [vN_toInt (by omega), show (0 : Int64).toInt = 0 from rfl] at this
      omega
    rw [grd_t e2, e1, vN_of (by omega), show (65536 : Int64) = vN 65536 from rfl, vN_div (by omega) (by omega), vN_mod (by omega) (by omega), vN_32 (by omega), show (0 : Int32) = nI 0 from rfl, f1]
    rfl
  · unfold fX9_byDraw fX9_draw
    rw [ones2 σ' hb]
    simp only [Option.bind_some, bnd]
    rw [h1, vN_of hs, vxL, vN_32 (by omega), setI_s]
    have e2 : decide (¬ nI (pcs b 8) = 0) = true := decide_eq_true (fun q => hp0 ((nI_inj (b := 0) (by omega) (by decide)).mp q))
    have e3 : nI (vxS s) / (65536 : Int32) = nI (vxS s / 65536) := by
      apply Int32.toInt_inj.mp
      rw [Int32.toInt_div, nI_toInt (by omega), nI_toInt (by omega), show (65536 : Int32).toInt = ((65536 : Nat) : Int) from rfl, ← Int.ofNat_tdiv]
      generalize vxS s / 65536 = q at hd ⊢
      rw [Int.bmod_eq_of_le (by omega) (by omega)]
    rw [grd_t e2, e3, vI_mod (by omega) (by omega)]
    simp only [Option.bind_some]
    rw [show (0 : Int32) = nI 0 from rfl, f2]
    rfl
