/-! THE DRAWS, by the law -/
theorem vxL2 {s : Nat} (hs : s < 2 ^ 31) : (vN s * (1103515245 : Int64) + 12345) - (vN s * (1103515245 : Int64) + 12345) / (2147483648 : Int64) * (2147483648 : Int64) = vN (vxS s) := by
  have e : vN s * (1103515245 : Int64) + 12345 = vN (s * 1103515245 + 12345) := by
    unfold vN; rw [Int64.ofNat_add, Int64.ofNat_mul]; rfl
  rw [e, show (2147483648 : Int64) = vN (2 ^ 31) from rfl, vN_mod (by omega) (by decide)]
  unfold vxS
  rw [Nat.mul_comm]
theorem pcsP {P b : Nat} (hP : P ≤ 8) (hb : b < 2 ^ P) : ∀ n, P ≤ n → pcs b n = pcs b P := by
  intro n
  induction n with
  | zero => intro h; rw [show P = 0 by omega]
  | succ n ih =>
    intro h
    by_cases e : P = n + 1
    · rw [e]
    · rw [pcs, if_neg (by rw [Nat.testBit_lt_two_pow (Nat.lt_of_lt_of_le hb (Nat.pow_le_pow_right (by decide) (by omega)))]; decide), ih (by omega)]
      simp
theorem countL {pc gc : Nat} (oc : Nat) (c6 c7 c8 c10 c12 : Int32) {σ : St} {P b : Nat} (hP : P ≤ 8) (hb : b < 256) (p1 : σ.1 pc 0 = nI P) : ∀ (d i n : Nat), i + d = P → d < n → fL_year_L214 pc 27 58 4 gc 64 61 64 oc 64 64 1 c6 c7 c8 c10 (nI b) c12 σ n (nI (pcs b i)) (nI i) = some (nI (pcs b P)) := by
  intro d
  induction d with
  | zero =>
    intro i n hi hn
    obtain ⟨n, rfl, -⟩ := su hn
    have e : i = P := by omega
    subst e
    rw [fL_year_L214, grd_t (show inb (0 : Int32) 27 = true from by decide), show (0 : Int32).toNatClampNeg = 0 from rfl, p1, if_pos (nI_le (a := i) (b := i) (by omega) (by omega))]
  | succ d ih =>
    intro i n hi hn
    obtain ⟨n, rfl, hn⟩ := su hn
    rw [fL_year_L214, grd_t (show inb (0 : Int32) 27 = true from by decide), show (0 : Int32).toNatClampNeg = 0 from rfl, p1, if_neg (nI_ge (a := i) (b := P) (by omega) (by omega)), bt_shr b hb i (by omega)]
    simp only [bnd, nI_1]
    rw [← ih (i + 1) n (by omega) (by omega)]
    congr 1
    by_cases t : b.testBit i = true
    · rw [if_pos t, show pcs b (i + 1) = pcs b i + 1 by rw [pcs, if_pos t], ← nk1]
    · rw [if_neg t, show pcs b (i + 1) = pcs b i by rw [pcs, if_neg t]; rfl]
      simp
/-- the bit that is the t-th of those set -/
theorem pickL {pc gc : Nat} (oc : Nat) (c6 c7 c8 c10 : Int32) (σ : St) {σ' : St} {P b : Nat} (hP : P ≤ 8) (hb : b < 2 ^ P) (p1 : σ'.1 pc 0 = nI P) : ∀ (d i n m t : Nat), i + d = P → t + pcs b i < pcs b P → d < n → d + 1 < m → ∃ c, c < P ∧ b.testBit c = true ∧ fX2_oneOf_L47 (nI b) σ n (nI t) (nI i) = some (.inl (nI c, σ)) ∧ fL_year_L258 pc 27 58 4 gc 64 61 64 oc 64 64 1 c6 c7 c8 c10 (nI b) σ' m (-1) (nI t) (nI i) = some (nI c) := by
  have hb8 := p2_256 hP hb
  intro d
  induction d with
  | zero =>
    intro i n m t hi ht hn hm
    have e : i = P := by omega
    subst e
    omega
  | succ d ih =>
    intro i n m t hi ht hn hm
    obtain ⟨n, rfl, hn⟩ := su hn
    obtain ⟨m, rfl, hm⟩ := su hm
    have hp8 := pcs_le b P
    rw [fX2_oneOf_L47, fL_year_L258, grd_t (show inb (0 : Int32) 27 = true from by decide), show (0 : Int32).toNatClampNeg = 0 from rfl, p1, if_neg (show ¬ (8 : Int32) ≤ nI i from nI_ge (a := i) (b := 8) (by omega) (by decide)), if_neg (nI_ge (a := i) (b := P) (by omega) (by omega)), if_neg (show ¬ (0 : Int32) ≤ -1 by decide), bt_shr b hb8 i (by omega)]
    by_cases z : b.testBit i = true
    · have e1 : pcs b (i + 1) = pcs b i + 1 := by rw [pcs, if_pos z]
      rw [if_neg (fun q => by rw [(bt_and b hb8 i (by omega)).mp q] at z; cases z), if_pos z, if_pos (show (1 : Int32) = 1 from rfl)]
      by_cases y : t = 0
      · subst y
        rw [if_pos (show nI 0 = (0 : Int32) from rfl), if_pos (show nI 0 = (0 : Int32) from rfl)]
        obtain ⟨m2, rfl, -⟩ := su (show d < m by omega)
        refine ⟨i, by omega, z, rfl, ?_⟩
        rw [fL_year_L258, grd_t (show inb (0 : Int32) 27 = true from by decide), show (0 : Int32).toNatClampNeg = 0 from rfl, p1, if_pos (show (0 : Int32) ≤ nI i from nI_le (a := 0) (b := i) (by omega) (by omega))]
        simp
      · obtain ⟨u, rfl⟩ : ∃ u, t = u + 1 := ⟨t - 1, by omega⟩
        have hne : ¬ nI (u + 1) = (0 : Int32) := fun q => by have := (nI_inj (a := u + 1) (b := 0) (by omega) (by decide)).mp q; omega
        rw [if_neg hne, if_neg hne]
        simp only [nI_1]
        rw [dec_1, nI_p1]
        exact ih (i + 1) n m u (by omega) (by omega) (by omega) (by omega)
    · have e1 : pcs b (i + 1) = pcs b i := by rw [pcs, if_neg z]; rfl
      rw [if_pos ((bt_and b hb8 i (by omega)).mpr (by simpa using z)), if_neg z, if_neg (show ¬ (0 : Int32) = 1 by decide)]
      simp only [nI_1]
      exact ih (i + 1) n m t (by omega) (by omega) (by omega) (by omega)
theorem vN_cmp {s : Nat} (hs : s < 2 ^ 31) : (0 : Int32) ≤ lg_cmp (vN s) (0 : Int64) := by
  rw [← Int32.not_lt, lcmp_lt, Int64.lt_iff_toInt_lt, vN_toInt (by omega), show (0 : Int64).toInt = 0 from rfl]
  omega
/-- a draw by the class and by the law -/
theorem draw2 {pc gc : Nat} (oc : Nat) (c6 c7 c8 c10 : Int32) {σ σ' : St} {P b s : Nat} (hP : P ≤ 8) (hb : b < 2 ^ P) (hb0 : b ≠ 0) (hs : s < 2 ^ 31) (p1 : σ'.1 pc 0 = nI P) (h0 : σ.2 49 0 = vN s) (h1 : σ'.2 64 0 = vN s) : ∃ c, c < P ∧ b.testBit c = true ∧ fX2_oneOf (nI b) σ = some (nI c, setL σ 49 0 (vN (vxS s))) ∧
    (if 0 ≤ (lg_cmp (σ'.2 64 (0 : Int32).toNatClampNeg) (0 : Int64)) then (grd (inb (0 : Int32) 1) (grd (inb (0 : Int32) 1) (bnd (setL σ' 64 (0 : Int32).toNatClampNeg ((((σ'.2 64 (0 : Int32).toNatClampNeg) * (1103515245 : Int64)) + (12345 : Int64)) - (((σ'.2 64 (0 : Int32).toNatClampNeg) * (1103515245 : Int64)) + (12345 : Int64)) / (2147483648 : Int64) * (2147483648 : Int64))) fun σ38 => (Option.bind (fL_year_L214 pc 27 58 4 gc 64 61 64 oc 64 64 1 c6 c7 c8 c10 (nI b) (-1 : Int32) σ38 fu (0 : Int32) (0 : Int32)) fun q42 => (grd (inb (0 : Int32) 1) (grd (decide (¬ q42.toInt64 = 0)) (bnd ((((σ38.2 64 (0 : Int32).toNatClampNeg) / (65536 : Int64)) - ((σ38.2 64 (0 : Int32).toNatClampNeg) / (65536 : Int64)) / q42.toInt64 * q42.toInt64).toInt32) fun x45 => (Option.bind (fL_year_L258 pc 27 58 4 gc 64 61 64 oc 64 64 1 c6 c7 c8 c10 (nI b) σ38 fu (-1 : Int32) x45 (0 : Int32)) fun q51 => some (q51, σ38))))))))) else (Option.bind (fL_habit pc 27 gc 64 61 64 c10 (nI b) σ') fun q56 => some (q56, σ'))) = some (nI c, setL σ' 64 0 (vN (vxS s))) := by
  have hb8 := p2_256 hP hb
  have hp8 := pcs_le b P
  have hpP := pcsP hP hb 8 hP
  have hp0 : pcs b P ≠ 0 := by rw [← hpP]; exact pcs_0 b hb8 hb0
  have hx := vx_lt s
  have hm : vxS s / 65536 % pcs b P < pcs b P := Nat.mod_lt _ (by omega)
  have hd : vxS s / 65536 < 2 ^ 30 := Nat.lt_of_le_of_lt (Nat.div_le_div_right (Nat.le_of_lt hx)) (by decide)
  obtain ⟨c, hc, hbc, f1, f2⟩ := pickL (gc := gc) oc c6 c7 c8 c10 (setL σ 49 0 (vN (vxS s))) (σ' := setL σ' 64 0 (vN (vxS s))) hP hb p1 P 0 fu fu (vxS s / 65536 % pcs b P) (by omega) (by rw [show pcs b 0 = 0 from rfl]; omega) (fu_gt (by omega)) (fu_gt (by omega))
  have e2 : decide (¬ (nI (pcs b P)).toInt64 = 0) = true := by
    rw [vN_of (by omega)]
    refine decide_eq_true (fun q => hp0 ?_)
    have := congrArg Int64.toInt q
    rw [vN_toInt (by omega), show (0 : Int64).toInt = 0 from rfl] at this
    omega
  refine ⟨c, hc, hbc, ?_, ?_⟩
  · unfold fX2_oneOf
    rw [bc_pcs b hb8, hpP, h0, vxL]
    simp only [bnd]
    rw [if_neg (show ¬ nI (pcs b P) = (0 : Int32) from fun q => hp0 ((nI_inj (b := 0) (by omega) (by decide)).mp q))]
    have e1 : (setL σ 49 0 (vN (vxS s))).2 49 0 = vN (vxS s) := setL_s
    rw [grd_t e2, e1, vN_of (by omega), show (65536 : Int64) = vN 65536 from rfl, vN_div (by omega) (by omega), vN_mod (by omega) (by omega), vN_32 (by omega), show (0 : Int32) = nI 0 from rfl, f1]
    rfl
  · rw [show (0 : Int32).toNatClampNeg = 0 from rfl, h1, if_pos (vN_cmp hs), vxL2 hs]
    simp only [bnd, grd_t (show inb (0 : Int32) 1 = true from by decide)]
    have e1 : (setL σ' 64 0 (vN (vxS s))).2 64 0 = vN (vxS s) := setL_s
    have c1 := countL (gc := gc) oc c6 c7 c8 c10 (-1) (σ := setL σ' 64 0 (vN (vxS s))) hP hb8 p1 P 0 fu (by omega) (fu_gt (by omega))
    rw [show nI (pcs b 0) = (0 : Int32) from rfl, show nI 0 = (0 : Int32) from rfl] at c1
    rw [c1]
    simp only [Option.bind_some]
    rw [grd_t e2, e1, vN_of (by omega), show (65536 : Int64) = vN 65536 from rfl, vN_div (by omega) (by omega), vN_mod (by omega) (by omega), vN_32 (by omega), show (0 : Int32) = nI 0 from rfl, f2]
    rfl
