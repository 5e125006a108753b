theorem lcmp_lt {x y : Int64} : lg_cmp x y < 0 ↔ x < y := by
  unfold lg_cmp
  by_cases h : x > y
  · rw [if_pos h]
    exact ⟨fun q => absurd q (by decide), fun q => (Int64.lt_irrefl (Int64.lt_trans q h)).elim⟩
  · rw [if_neg h]
    by_cases e : x = y
    · rw [if_pos e]; subst e
      exact ⟨fun q => absurd q (by decide), fun q => (Int64.lt_irrefl q).elim⟩
    · rw [if_neg e]
      refine ⟨fun _ => ?_, fun _ => by decide⟩
      replace h : ¬ y < x := h
      rw [Int64.lt_iff_toInt_lt] at h ⊢
      have : x.toInt ≠ y.toInt := fun q => e (Int64.toInt_inj.mp q)
      omega
theorem lcmp_gt {x y : Int64} : 0 < lg_cmp x y ↔ y < x := by
  unfold lg_cmp
  by_cases h : x > y
  · rw [if_pos h]
    exact ⟨fun _ => h, fun _ => by decide⟩
  · rw [if_neg h]
    refine ⟨fun q => ?_, fun q => absurd q h⟩
    by_cases e : x = y
    · rw [if_pos e] at q; exact absurd q (by decide)
    · rw [if_neg e] at q; exact absurd q (by decide)
theorem lcmp_eq {x y : Int64} : lg_cmp x y = 0 ↔ x = y := by
  unfold lg_cmp
  by_cases h : x > y
  · rw [if_pos h]
    exact ⟨fun q => absurd q (by decide), fun q => by subst q; exact (Int64.lt_irrefl h).elim⟩
  · rw [if_neg h]
    by_cases e : x = y
    · rw [if_pos e]; exact ⟨fun _ => e, fun _ => rfl⟩
    · rw [if_neg e]; exact ⟨fun q => absurd q (by decide), fun q => absurd q e⟩
theorem lcmp_le {x y : Int64} : lg_cmp x y ≤ 0 ↔ x ≤ y := by
  have h1 := lcmp_gt (x := x) (y := y)
  rw [← Int32.not_lt, h1, Int64.not_lt]
theorem inbN {k n : Nat} (h : k < n) (hn : n < 2 ^ 31) : inb (nI k) n = true := (inb_iff hn).mpr ⟨k, h, rfl⟩
theorem grd_t {α : Type} {b : Bool} {x : Option α} (h : b = true) : grd b x = x := by subst h; rfl
theorem tcl {k : Nat} (h : k < 2 ^ 31) : (nI k).toNatClampNeg = k := nI_clamp h
theorem lit (n : Nat) : (OfNat.ofNat n : Int32) = nI n := rfl
theorem ix8 (a b : Nat) : (8 : Int32) * nI a + nI b = nI (8 * a + b) := by
  rw [show (8 : Int32) = nI 8 from rfl, pk_mul, nI_add]
theorem ix8k (a b : Nat) : (8 : Int32) * nI a + (OfNat.ofNat b : Int32) = nI (8 * a + b) := ix8 a b
theorem ix80 (a : Nat) : (8 : Int32) * nI a = nI (8 * a) := by rw [show (8 : Int32) = nI 8 from rfl, pk_mul]
theorem pairN (a b : Nat) : fX8_pair (nI a) (nI b) = nI (8 * a + b) := by
  unfold fX8_pair
  rw [show (8 : Int32) = nI 8 from rfl, pk_mul, nI_add, Nat.mul_comm]
theorem within_c (p : Int32) {a b : Nat} (hb : b < 2 ^ 31) (ha : a ≤ b) : (∃ k, a ≤ k ∧ k ≤ b ∧ p = nI k ∧ fX8_within p (nI a) (nI b) = 1) ∨ ((∀ k, a ≤ k → k ≤ b → p ≠ nI k) ∧ fX8_within p (nI a) (nI b) = 0) := by
  unfold fX8_within
  by_cases h1 : p < nI a
  · right
    rw [if_pos h1]
    refine ⟨fun k h2 h3 e => ?_, rfl⟩
    subst e
    rw [nI_ltI (by omega) (by omega)] at h1
    omega
  · rw [if_neg h1]
    by_cases h2 : nI b < p
    · right
      rw [if_pos h2]
      refine ⟨fun k h3 h4 e => ?_, rfl⟩
      subst e
      rw [nI_ltI (by omega) (by omega)] at h2
      omega
    · left
      rw [if_neg h2]
      have h3 : ¬ p < 0 := by
        intro q
        apply h1
        rw [Int32.lt_iff_toInt_lt] at q ⊢
        rw [nI_toInt (by omega)]
        have : (0 : Int32).toInt = 0 := rfl
        omega
      obtain ⟨k, hk, rfl⟩ := nI_of h3
      rw [nI_ltI (by omega) (by omega)] at h1 h2
      exact ⟨k, by omega, by omega, rfl, rfl⟩
def Cells (f g : Nat → Int32) (n : Nat) : Prop := ∀ i, i < n → f i = g i
def isN (x : Int32) (n : Nat) : Prop := ∃ k, k < n ∧ x = nI k
theorem nI_m1 {P : Nat} (hP : P ≤ 8) : (nI P - (1 : Int32)).toInt = (P : Int) - 1 := by
  have h := pk_sub_toInt (a := P) (b := 1) (by omega) (by decide)
  exact h
theorem upTo (p : Int32) {P : Nat} (hP : P ≤ 8) : fX8_within p (0 : Int32) (nI P - (1 : Int32)) = if p < 0 then (0 : Int32) else if nI P ≤ p then (0 : Int32) else (1 : Int32) := by
  unfold fX8_within
  have e : (nI P - (1 : Int32) < p) = (nI P ≤ p) := by
    rw [Int32.lt_iff_toInt_lt, Int32.le_iff_toInt_le, nI_m1 hP]
    apply propext
    rw [nI_toInt (by omega)]
    omega
  simp only [e]
theorem upTo_c (p : Int32) {P : Nat} (hP : P ≤ 8) : (∃ k, k < P ∧ p = nI k ∧ (if p < 0 then (0 : Int32) else if nI P ≤ p then (0 : Int32) else (1 : Int32)) = 1) ∨ ((∀ k, k < P → p ≠ nI k) ∧ (if p < 0 then (0 : Int32) else if nI P ≤ p then (0 : Int32) else (1 : Int32)) = 0) := by
  by_cases h1 : p < 0
  · right
    rw [if_pos h1]
    exact ⟨fun k hk e => nI_pos (n := k) (by omega) (e ▸ h1), rfl⟩
  · rw [if_neg h1]
    by_cases h2 : nI P ≤ p
    · right
      rw [if_pos h2]
      refine ⟨fun k hk e => ?_, rfl⟩
      subst e
      rw [nI_leI (by omega) (by omega)] at h2
      omega
    · left
      rw [if_neg h2]
      obtain ⟨k, hk, rfl⟩ := nI_of h1
      rw [nI_leI (by omega) (by omega)] at h2
      exact ⟨k, by omega, rfl, rfl⟩
theorem n10 : ((1 : Int32) = 0) = False := by decide
theorem setI_1 {σ : St} {i k a b : Nat} {v : Int32} : (setI σ i k v).1 a b = if a = i ∧ b = k then v else σ.1 a b := rfl
theorem setI_o {σ : St} {i k a : Nat} {v : Int32} (h : a ≠ i) : (setI σ i k v).1 a = σ.1 a := funext fun b => by rw [setI_1, if_neg (fun z => h z.1)]
theorem setI_f {σ : St} {i k : Nat} {v : Int32} : (setI σ i k v).1 i = fun b => if b = k then v else σ.1 i b := funext fun b => by rw [setI_1]; simp
theorem isN.mono {x : Int32} {m n : Nat} (h : isN x m) (hmn : m ≤ n) : isN x n := by obtain ⟨k, a, b⟩ := h; exact ⟨k, by omega, b⟩
theorem setI_s {σ : St} {i k : Nat} {v : Int32} : (setI σ i k v).1 i k = v := by rw [setI_1, if_pos ⟨rfl, rfl⟩]
theorem setI_oo {σ : St} {i k a b : Nat} {v : Int32} (h : ¬ (a = i ∧ b = k)) : (setI σ i k v).1 a b = σ.1 a b := by rw [setI_1, if_neg h]
theorem nI_p1 (P : Nat) : nI (P + 1) - (1 : Int32) = nI P := nI_pred P
theorem x_person {σ : St} {P k : Nat} (p0 : σ.1 4 0 = nI P) (hk : k ≤ 3) : fX8_person (nI k) σ = if P < 8 then some (nI P, setI (setI σ 5 P (nI k)) 4 0 (nI (P + 1))) else fX8_person (nI k) σ := by
  split
  · rename_i hP
    unfold fX8_person fX7_addPerson
    rcases within_c (nI k) (a := 0) (b := 3) (by decide) (by decide) with ⟨-, -, -, -, e⟩ | ⟨e, -⟩
    · replace e : fX8_within (nI k) (0 : Int32) (3 : Int32) = 1 := e
      simp only [e, n10, if_false]
      rw [p0, if_pos (show nI P < (8 : Int32) from (nI_ltI (a := P) (b := 8) (by omega) (by decide)).mpr hP), grd_t (inbN hP (by decide)), tcl (by omega)]
      simp (disch := omega) only [bnd, Option.bind_some, setI_s, setI_oo, p0, nI_1, nI_p1]
    · exact absurd rfl (e k (by omega) (by omega))
  · rfl
theorem bt_and : ∀ b, b < 256 → ∀ k, k < 8 → ((nI b &&& fX8_bit (nI k) = 0) ↔ b.testBit k = false) := by decide +kernel
theorem bt_shr : ∀ b, b < 256 → ∀ k, k < 8 → (nI b >>> (nI k &&& 31)) &&& (1 : Int32) = if b.testBit k = true then (1 : Int32) else (0 : Int32) := by decide +kernel
theorem bt_or : ∀ b, b < 256 → ∀ k, k < 8 → nI b ||| fX8_bit (nI k) = nI (b ||| 2 ^ k) := by decide +kernel
theorem bt_clr : ∀ b, b < 256 → ∀ k, k < 8 → nI b &&& (fX8_bit (nI k) ^^^ (-1 : Int32)) = nI (b &&& (255 - 2 ^ k)) := by decide +kernel
theorem p2_256 {P b : Nat} (hP : P ≤ 8) (h : b < 2 ^ P) : b < 256 := Nat.lt_of_lt_of_le h (Nat.le_trans (Nat.pow_le_pow_right (by decide) hP) (by decide))
theorem or_lt {P b k : Nat} (h : b < 2 ^ P) (hk : k < P) : b ||| 2 ^ k < 2 ^ P := Nat.or_lt_two_pow h (Nat.pow_lt_pow_right (by decide) hk)
theorem clr_lt {P b k : Nat} (h : b < 2 ^ P) : b &&& (255 - 2 ^ k) < 2 ^ P := Nat.lt_of_le_of_lt Nat.and_le_left h
theorem ix8_1 (a : Nat) : (8 : Int32) * nI a + (1 : Int32) = nI (8 * a + 1) := ix8 a 1
theorem ix8_2 (a : Nat) : (8 : Int32) * nI a + (2 : Int32) = nI (8 * a + 2) := ix8 a 2
theorem ix8_3 (a : Nat) : (8 : Int32) * nI a + (3 : Int32) = nI (8 * a + 3) := ix8 a 3
theorem ix8_4 (a : Nat) : (8 : Int32) * nI a + (4 : Int32) = nI (8 * a + 4) := ix8 a 4
theorem ix8_5 (a : Nat) : (8 : Int32) * nI a + (5 : Int32) = nI (8 * a + 5) := ix8 a 5
theorem ix8_6 (a : Nat) : (8 : Int32) * nI a + (6 : Int32) = nI (8 * a + 6) := ix8 a 6
theorem ix8_7 (a : Nat) : (8 : Int32) * nI a + (7 : Int32) = nI (8 * a + 7) := ix8 a 7
theorem fu_gt {d : Nat} (h : d ≤ 4000) : d < fu := Nat.lt_of_le_of_lt h (by decide)
theorem su {n d : Nat} (h : d < n) : ∃ m, n = m + 1 ∧ d ≤ m := ⟨n - 1, by omega, by omega⟩
theorem nk1 (a : Nat) : nI a + (1 : Int32) = nI (a + 1) := nI_add a 1
theorem nk2 (a : Nat) : nI a + (2 : Int32) = nI (a + 2) := nI_add a 2
theorem nk3 (a : Nat) : nI a + (3 : Int32) = nI (a + 3) := nI_add a 3
theorem nk4 (a : Nat) : nI a + (4 : Int32) = nI (a + 4) := nI_add a 4
theorem nk5 (a : Nat) : nI a + (5 : Int32) = nI (a + 5) := nI_add a 5
theorem nk6 (a : Nat) : nI a + (6 : Int32) = nI (a + 6) := nI_add a 6
theorem nk7 (a : Nat) : nI a + (7 : Int32) = nI (a + 7) := nI_add a 7
theorem and_self_of {x b : Int32} (h : x &&& (b ^^^ (-1 : Int32)) = 0) : x &&& b = x := by
  have e : x = (x &&& b) ||| (x &&& (b ^^^ (-1 : Int32))) := by
    apply Int32.toBitVec_inj.mp
    show x.toBitVec = (x.toBitVec &&& b.toBitVec) ||| (x.toBitVec &&& (b.toBitVec ^^^ (-1 : Int32).toBitVec))
    rw [show (-1 : Int32).toBitVec = BitVec.allOnes 32 from rfl]
    ext i hi
    rw [BitVec.getElem_or, BitVec.getElem_and, BitVec.getElem_and, BitVec.getElem_xor, BitVec.getElem_allOnes]
    cases x.toBitVec[i] <;> cases b.toBitVec[i] <;> rfl
  rw [h] at e
  exact (by simpa using e.symm)
/-- what a gift is once it was given: how much more wear, how it is then -/
def wearBy (κ : Nat) : Int32 := if κ = 2 then 0 else if κ = 4 then 2 else 1
def fateBy (κ : Nat) (wr mo : Int32) (p home : Int32) : Int32 := if (κ = 1 ∨ κ = 4) ∧ ¬ wr < mo then 2 else if p = home then 1 else 0
theorem x_move {σ : St} {g : Nat} {p mo : Int32} {κ : Nat} (hκ : κ < 5) (h0 : σ.1 g 0 = nI κ) (h6 : σ.1 g 6 = 0) : ∃ τ, fX3_moveTo g p mo σ = some τ ∧ (∀ a b, a ≠ g → τ.1 a b = σ.1 a b) ∧ τ.1 g 0 = nI κ ∧ τ.1 g 1 = σ.1 g 1 ∧ τ.1 g 2 = p ∧ τ.1 g 3 = σ.1 g 2 ∧ τ.1 g 4 = σ.1 g 4 + wearBy κ ∧ τ.1 g 5 = 0 ∧ τ.1 g 6 = fateBy κ (σ.1 g 4 + wearBy κ) mo p (σ.1 g 1) ∧ τ.1 g 7 = σ.1 g 7 + 1 := by
  unfold fX3_moveTo fX3_isOf
  generalize hh : σ.1 g 1 = hm
  generalize hw : σ.1 g 4 = wr
  have z0 : ∀ z : Int32, z + 0 = z := fun z => by simp
  have zz : ∀ z : Int32, z + 0 = z := fun z => by simp
  rcases (show κ = 0 ∨ κ = 1 ∨ κ = 2 ∨ κ = 3 ∨ κ = 4 by omega) with rfl | rfl | rfl | rfl | rfl
  · simp (disch := omega) only [bnd, Option.bind_some, setI_s, setI_oo, h0, hh, hw, h6, show (nI 0 = (4 : Int32)) = False from by decide, show (nI 0 = (2 : Int32)) = False from by decide, show ((1 : Int32) = nI 0) = False from by decide, n10, if_false, if_true]
    by_cases c2 : p = hm
    · rw [if_pos c2]
      refine ⟨_, rfl, fun a b ha => ?_, ?_, ?_, ?_, ?_, ?_, ?_, ?_, ?_⟩
      all_goals first | (simp (disch := omega) only [setI_o, setI_s, setI_oo, h0, hh, hw, h6, wearBy, if_true, if_false]; done) | (simp (disch := omega) [setI_o, setI_s, setI_oo, h0, hh, hw, h6, wearBy, fateBy, c2]; done)
    · rw [if_neg c2]
      refine ⟨_, rfl, fun a b ha => ?_, ?_, ?_, ?_, ?_, ?_, ?_, ?_, ?_⟩
      all_goals first | (simp (disch := omega) only [setI_o, setI_s, setI_oo, h0, hh, hw, h6, wearBy, if_true, if_false]; done) | (simp (disch := omega) [setI_o, setI_s, setI_oo, h0, hh, hw, h6, wearBy, fateBy, c2]; done)
  · simp (disch := omega) only [bnd, Option.bind_some, setI_s, setI_oo, h0, hh, hw, h6, show (nI 1 = (4 : Int32)) = False from by decide, show (nI 1 = (2 : Int32)) = False from by decide, show ((1 : Int32) = nI 1) = True from by decide, n10, if_false, if_true]
    by_cases c1 : wr + (1 : Int32) < mo
    · rw [if_pos c1]
      by_cases c2 : p = hm
      · rw [if_pos c2]
        refine ⟨_, rfl, fun a b ha => ?_, ?_, ?_, ?_, ?_, ?_, ?_, ?_, ?_⟩
        all_goals first | (simp (disch := omega) only [setI_o, setI_s, setI_oo, h0, hh, hw, h6, wearBy, if_true, if_false]; done) | (simp (disch := omega) [setI_o, setI_s, setI_oo, h0, hh, hw, h6, wearBy, fateBy, c1, c2]; done)
      · rw [if_neg c2]
        refine ⟨_, rfl, fun a b ha => ?_, ?_, ?_, ?_, ?_, ?_, ?_, ?_, ?_⟩
        all_goals first | (simp (disch := omega) only [setI_o, setI_s, setI_oo, h0, hh, hw, h6, wearBy, if_true, if_false]; done) | (simp (disch := omega) [setI_o, setI_s, setI_oo, h0, hh, hw, h6, wearBy, fateBy, c1, c2]; done)
    · rw [if_neg c1]
      refine ⟨_, rfl, fun a b ha => ?_, ?_, ?_, ?_, ?_, ?_, ?_, ?_, ?_⟩
      all_goals first | (simp (disch := omega) only [setI_o, setI_s, setI_oo, h0, hh, hw, h6, wearBy, if_true, if_false]; done) | (simp (disch := omega) [setI_o, setI_s, setI_oo, h0, hh, hw, h6, wearBy, fateBy, c1]; done)
  · simp (disch := omega) only [bnd, Option.bind_some, setI_s, setI_oo, h0, hh, hw, h6, show (nI 2 = (4 : Int32)) = False from by decide, show (nI 2 = (2 : Int32)) = True from by decide, show ((1 : Int32) = nI 2) = False from by decide, n10, if_false, if_true]
    by_cases c2 : p = hm
    · rw [if_pos c2]
      refine ⟨_, rfl, fun a b ha => ?_, ?_, ?_, ?_, ?_, ?_, ?_, ?_, ?_⟩
      all_goals first | (simp (disch := omega) only [setI_o, setI_s, setI_oo, h0, hh, hw, h6, wearBy, if_true, if_false]; done) | (simp (disch := omega) [setI_o, setI_s, setI_oo, h0, hh, hw, h6, wearBy, fateBy, c2]; done)
    · rw [if_neg c2]
      refine ⟨_, rfl, fun a b ha => ?_, ?_, ?_, ?_, ?_, ?_, ?_, ?_, ?_⟩
      all_goals first | (simp (disch := omega) only [setI_o, setI_s, setI_oo, h0, hh, hw, h6, wearBy, if_true, if_false]; done) | (simp (disch := omega) [setI_o, setI_s, setI_oo, h0, hh, hw, h6, wearBy, fateBy, c2]; done)
  · simp (disch := omega) only [bnd, Option.bind_some, setI_s, setI_oo, h0, hh, hw, h6, show (nI 3 = (4 : Int32)) = False from by decide, show (nI 3 = (2 : Int32)) = False from by decide, show ((1 : Int32) = nI 3) = False from by decide, n10, if_false, if_true]
    by_cases c2 : p = hm
    · rw [if_pos c2]
      refine ⟨_, rfl, fun a b ha => ?_, ?_, ?_, ?_, ?_, ?_, ?_, ?_, ?_⟩
      all_goals first | (simp (disch := omega) only [setI_o, setI_s, setI_oo, h0, hh, hw, h6, wearBy, if_true, if_false]; done) | (simp (disch := omega) [setI_o, setI_s, setI_oo, h0, hh, hw, h6, wearBy, fateBy, c2]; done)
    · rw [if_neg c2]
      refine ⟨_, rfl, fun a b ha => ?_, ?_, ?_, ?_, ?_, ?_, ?_, ?_, ?_⟩
      all_goals first | (simp (disch := omega) only [setI_o, setI_s, setI_oo, h0, hh, hw, h6, wearBy, if_true, if_false]; done) | (simp (disch := omega) [setI_o, setI_s, setI_oo, h0, hh, hw, h6, wearBy, fateBy, c2]; done)
  · simp (disch := omega) only [bnd, Option.bind_some, setI_s, setI_oo, h0, hh, hw, h6, show (nI 4 = (4 : Int32)) = True from by decide, show (nI 4 = (2 : Int32)) = False from by decide, show ((1 : Int32) = nI 4) = False from by decide, n10, if_false, if_true]
    by_cases c1 : wr + (2 : Int32) < mo
    · rw [if_pos c1]
      by_cases c2 : p = hm
      · rw [if_pos c2]
        refine ⟨_, rfl, fun a b ha => ?_, ?_, ?_, ?_, ?_, ?_, ?_, ?_, ?_⟩
        all_goals first | (simp (disch := omega) only [setI_o, setI_s, setI_oo, h0, hh, hw, h6, wearBy, if_true, if_false]; done) | (simp (disch := omega) [setI_o, setI_s, setI_oo, h0, hh, hw, h6, wearBy, fateBy, c1, c2]; done)
      · rw [if_neg c2]
        refine ⟨_, rfl, fun a b ha => ?_, ?_, ?_, ?_, ?_, ?_, ?_, ?_, ?_⟩
        all_goals first | (simp (disch := omega) only [setI_o, setI_s, setI_oo, h0, hh, hw, h6, wearBy, if_true, if_false]; done) | (simp (disch := omega) [setI_o, setI_s, setI_oo, h0, hh, hw, h6, wearBy, fateBy, c1, c2]; done)
    · rw [if_neg c1]
      refine ⟨_, rfl, fun a b ha => ?_, ?_, ?_, ?_, ?_, ?_, ?_, ?_, ?_⟩
      all_goals first | (simp (disch := omega) only [setI_o, setI_s, setI_oo, h0, hh, hw, h6, wearBy, if_true, if_false]; done) | (simp (disch := omega) [setI_o, setI_s, setI_oo, h0, hh, hw, h6, wearBy, fateBy, c1]; done)
theorem x_hand {w : Nat} {σ : St} {g p h : Nat} {mo : Int32} {κ : Nat} (hg : g < 8) (hp : p < 8) (hh8 : h < 8) (hκ : κ < 5) (h0 : σ.1 (w + 7 + g) 0 = nI κ) (h6 : σ.1 (w + 7 + g) 6 = 0) (h2 : σ.1 (w + 7 + g) 2 = nI h) :
    ∃ τ, fX7_handOn w (w + 7 + g) (nI p) mo σ = some τ ∧ (∀ a b, a ≠ w + 7 + g → a ≠ w + 5 → a ≠ w + 3 → τ.1 a b = σ.1 a b) ∧
      (∀ i, τ.1 (w + 5) i = if i = 8 * p + h then σ.1 (w + 5) i + fX3_worth (w + 7 + g) σ else σ.1 (w + 5) i) ∧
      (∀ i, τ.1 (w + 3) i = if i = p ∧ fateBy κ (σ.1 (w + 7 + g) 4 + wearBy κ) mo (nI p) (σ.1 (w + 7 + g) 1) = 1 then σ.1 (w + 3) i + 1 else σ.1 (w + 3) i) ∧
      τ.1 (w + 7 + g) 0 = nI κ ∧ τ.1 (w + 7 + g) 1 = σ.1 (w + 7 + g) 1 ∧ τ.1 (w + 7 + g) 2 = nI p ∧ τ.1 (w + 7 + g) 3 = nI h ∧ τ.1 (w + 7 + g) 4 = σ.1 (w + 7 + g) 4 + wearBy κ ∧ τ.1 (w + 7 + g) 5 = 0 ∧ τ.1 (w + 7 + g) 6 = fateBy κ (σ.1 (w + 7 + g) 4 + wearBy κ) mo (nI p) (σ.1 (w + 7 + g) 1) ∧ τ.1 (w + 7 + g) 7 = σ.1 (w + 7 + g) 7 + 1 := by
  unfold fX7_handOn
  rw [h2, pairN, grd_t (inbN (show 8 * p + h < 64 by omega) (by decide)), grd_t (inbN (show 8 * p + h < 64 by omega) (by decide)), tcl (by omega)]
  simp only [bnd]
  generalize hs : setI σ (w + 5) (8 * p + h) (σ.1 (w + 5) (8 * p + h) + fX3_worth (w + 7 + g) σ) = σ3
  have sg : ∀ b, σ3.1 (w + 7 + g) b = σ.1 (w + 7 + g) b := fun b => by rw [← hs, setI_oo (by omega)]
  obtain ⟨τ, e, t0, f0, f1, f2, f3, f4, f5, f6, f7⟩ := x_move (σ := σ3) (p := nI p) (mo := mo) hκ ((sg 0).trans h0) ((sg 6).trans h6)
  rw [sg 1] at f1
  rw [sg 2] at f3
  rw [sg 4] at f4
  rw [sg 4, sg 1] at f6
  rw [sg 7] at f7
  rw [e]
  simp only [Option.bind_some, f6]
  have o5 : ∀ i, σ3.1 (w + 5) i = if i = 8 * p + h then σ.1 (w + 5) i + fX3_worth (w + 7 + g) σ else σ.1 (w + 5) i := fun i => by
    rw [← hs, setI_1]
    by_cases z : i = 8 * p + h
    · subst z; simp
    · simp [z]
  by_cases hF : fateBy κ (σ.1 (w + 7 + g) 4 + wearBy κ) mo (nI p) (σ.1 (w + 7 + g) 1) = 1
  · simp (disch := omega) only [hF, if_true, grd_t (inbN hp (by decide)), tcl]
    refine ⟨_, rfl, fun a b n1 n2 n3 => ?_, fun i => ?_, fun i => ?_, ?_, ?_, ?_, ?_, ?_, ?_, ?_, ?_⟩
    · rw [setI_oo (by omega), t0 a b n1, ← hs, setI_oo (by omega)]
    · rw [setI_oo (by omega), t0 _ _ (by omega), o5]
    · by_cases z : i = p
      · subst z
        rw [setI_s, if_pos ⟨rfl, trivial⟩, t0 _ _ (by omega), ← hs, setI_oo (by omega)]
      · rw [setI_oo (by omega), if_neg (fun q => z q.1), t0 _ _ (by omega), ← hs, setI_oo (by omega)]
    · rw [setI_oo (by omega), f0]
    · rw [setI_oo (by omega), f1]
    · rw [setI_oo (by omega), f2]
    · rw [setI_oo (by omega), f3, h2]
    · rw [setI_oo (by omega), f4]
    · rw [setI_oo (by omega), f5]
    · rw [setI_oo (by omega), f6, hF]
    · rw [setI_oo (by omega), f7]
  · rw [if_neg hF]
    refine ⟨_, rfl, fun a b n1 n2 n3 => ?_, fun i => ?_, fun i => ?_, f0, f1, f2, f3.trans h2, f4, f5, f6, f7⟩
    · rw [t0 a b n1, ← hs, setI_oo (by omega)]
    · rw [t0 _ _ (by omega), o5]
    · rw [if_neg (fun q => hF q.2), t0 _ _ (by omega), ← hs, setI_oo (by omega)]
theorem fate3 (κ : Nat) (a b c d : Int32) : isN (fateBy κ a b c d) 3 := by
  unfold fateBy
  split
  · exact ⟨2, by decide, rfl⟩
  · split
    · exact ⟨1, by decide, rfl⟩
    · exact ⟨0, by decide, rfl⟩
theorem mbit : ∀ b, b < 256 → ∀ k, k < 8 → (((nI b >>> (nI k &&& 31)) &&& (1 : Int32) = 1) ↔ b.testBit k = true) := by decide +kernel
theorem tb_lt {P b k : Nat} (h : b < 2 ^ P) (ht : b.testBit k = true) : k < P := by
  rcases Nat.lt_or_ge k P with q | q
  · exact q
  · rw [Nat.testBit_lt_two_pow (Nat.lt_of_lt_of_le h (Nat.pow_le_pow_right (by decide) q))] at ht
    cases ht
theorem nI_m1ne' {t : Nat} (h : t < 100) : ¬ nI t = (-1 : Int32) := fun z => by
  have := congrArg Int32.toInt z
  rw [nI_toInt (by omega)] at this
  have e : (-1 : Int32).toInt = -1 := rfl
  omega
theorem neg_toInt {a : Nat} (ha : a < 2 ^ 30) : (-nI a).toInt = -(a : Int) := by
  have h := pk_sub_toInt (a := 0) (b := a) (by decide) ha
  rw [show nI 0 - nI a = -nI a from by rw [show nI 0 = (0 : Int32) from rfl]; simp] at h
  rw [h]; omega
theorem neg_le {a b : Nat} (ha : a < 2 ^ 30) (hb : b < 2 ^ 30) : (-nI a ≤ -nI b) ↔ b ≤ a := by
  rw [Int32.le_iff_toInt_le, neg_toInt ha, neg_toInt hb]
  omega
/-- how many of the first bits are set -/
def pcs (b : Nat) : Nat → Nat
  | 0 => 0
  | n + 1 => pcs b n + (if b.testBit n = true then 1 else 0)
theorem bc_pcs : ∀ b, b < 256 → fJ6_bitCount_0f7a4 (nI b) = nI (pcs b 8) := by decide +kernel
theorem pcs_le (b : Nat) : ∀ n, pcs b n ≤ n
  | 0 => Nat.le_refl 0
  | n + 1 => by
    have := pcs_le b n
    rw [pcs]
    split <;> omega
theorem nI_eq1 {k : Nat} (h : k < 2 ^ 31) : (nI k = (1 : Int32)) ↔ k = 1 := by
  constructor
  · intro e
    have := congrArg Int32.toInt e
    rw [nI_toInt h, show (1 : Int32).toInt = 1 from rfl] at this
    omega
  · rintro rfl; rfl
theorem bitN (k : Nat) (hk : k < 8) : fX8_bit (nI k) = (1 : Int32) <<< (nI k &&& 31) := by
  rcases (show k = 0 ∨ k = 1 ∨ k = 2 ∨ k = 3 ∨ k = 4 ∨ k = 5 ∨ k = 6 ∨ k = 7 by omega) with rfl | rfl | rfl | rfl | rfl | rfl | rfl | rfl
  all_goals decide
theorem cpyI_1 {σ : St} {i j n a b : Nat} : (cpyI σ i j n).1 a b = if a = j ∧ b < n then σ.1 i b else σ.1 a b := rfl
theorem cpyI_oo {σ : St} {i j n a b : Nat} (h : ¬ (a = j ∧ b < n)) : (cpyI σ i j n).1 a b = σ.1 a b := by rw [cpyI_1, if_neg h]
theorem cpyI_s {σ : St} {i j n b : Nat} (h : b < n) : (cpyI σ i j n).1 j b = σ.1 i b := by rw [cpyI_1, if_pos ⟨rfl, h⟩]
theorem copyG {g g1 : Nat} (h : g ≠ g1) (σ : St) : ∃ τ, fX3_copyFrom g g1 σ = some τ ∧ ∀ a b, τ.1 a b = if a = g ∧ b < 8 then σ.1 g1 b else σ.1 a b := by
  unfold fX3_copyFrom
  simp only [bnd]
  refine ⟨_, rfl, fun a b => ?_⟩
  by_cases t : a = g ∧ b < 8
  · obtain ⟨rfl, hb⟩ := t
    rw [if_pos ⟨rfl, hb⟩]
    rcases (show b = 0 ∨ b = 1 ∨ b = 2 ∨ b = 3 ∨ b = 4 ∨ b = 5 ∨ b = 6 ∨ b = 7 by omega) with rfl | rfl | rfl | rfl | rfl | rfl | rfl | rfl
    all_goals simp (disch := omega) only [setI_oo, setI_s]
  · rw [if_neg t]
    simp (disch := omega) only [setI_oo]
theorem copyWL {w w1 : Nat} (h : w + 15 ≤ w1 ∨ w1 + 15 ≤ w) : ∀ (d i n : Nat) (σ : St), i + d = 8 → d < n → ∃ τ, fX7_copyFrom_L93 w w1 n (nI i) σ = some τ ∧ ∀ a b, τ.1 a b = if w + 7 + i ≤ a ∧ a < w + 15 ∧ b < 8 then σ.1 (w1 + (a - w)) b else σ.1 a b := by
  intro d
  induction d with
  | zero =>
    intro i n σ hi hn
    obtain ⟨n, rfl, -⟩ := su hn
    have e : i = 8 := by omega
    subst e
    rw [fX7_copyFrom_L93, if_pos (show (8 : Int32) ≤ nI 8 by decide)]
    exact ⟨σ, rfl, fun a b => by rw [if_neg (by omega)]⟩
  | succ d ih =>
    intro i n σ hi hn
    obtain ⟨n, rfl, hn⟩ := su hn
    rw [fX7_copyFrom_L93, if_neg (show ¬ (8 : Int32) ≤ nI i from nI_ge (a := i) (b := 8) (by omega) (by decide)), grd_t (inbN (show i < 8 by omega) (by decide)), grd_t (inbN (show i < 8 by omega) (by decide)), tcl (by omega)]
    obtain ⟨σ1, f1, f2⟩ := copyG (g := w + 7 + i) (g1 := w1 + 7 + i) (by omega) σ
    rw [f1]
    simp only [Option.bind_some, nI_1]
    obtain ⟨τ, e1, e2⟩ := ih (i + 1) n σ1 (by omega) (by omega)
    refine ⟨τ, e1, fun a b => ?_⟩
    rw [e2 a b]
    by_cases q : a = w + 7 + i ∧ b < 8
    · obtain ⟨rfl, hb⟩ := q
      rw [if_neg (by omega), f2, if_pos ⟨rfl, hb⟩, if_pos (by omega), show w1 + (w + 7 + i - w) = w1 + 7 + i by omega]
    · by_cases t : w + 7 + (i + 1) ≤ a ∧ a < w + 15 ∧ b < 8
      · rw [if_pos t, if_pos (by omega), f2, if_neg (by omega)]
      · rw [if_neg t, if_neg (by omega), f2, if_neg q]
/-- one WORLD copied into another -/
def Cop (w w1 : Nat) (σ τ : St) : Prop := (∀ a b, a < w ∨ w + 15 ≤ a → τ.1 a b = σ.1 a b) ∧ (τ.1 w 0 = σ.1 w1 0 ∧ τ.1 w 6 = σ.1 w1 6 ∧ τ.1 w 8 = σ.1 w1 8) ∧ (∀ j b, 1 ≤ j → j ≤ 3 → b < 8 → τ.1 (w + j) b = σ.1 (w1 + j) b) ∧ (∀ j b, 4 ≤ j → j ≤ 5 → b < 64 → τ.1 (w + j) b = σ.1 (w1 + j) b) ∧ (∀ j b, 7 ≤ j → j < 15 → b < 8 → τ.1 (w + j) b = σ.1 (w1 + j) b)
theorem copyW {w w1 : Nat} (h : w + 15 ≤ w1 ∨ w1 + 15 ≤ w) (σ : St) : ∃ τ, fX7_copyFrom w w1 σ = some τ ∧ Cop w w1 σ τ := by
  unfold fX7_copyFrom
  simp only [bnd, show (8 : Int32).toNatClampNeg = 8 from rfl, show (64 : Int32).toNatClampNeg = 64 from rfl]
  rw [show (0 : Int32) = nI 0 from rfl]
  generalize hσ7 : setI (cpyI (cpyI (cpyI (cpyI (cpyI (setI σ w 0 (σ.1 w1 0)) (w1 + 1) (w + 1) 8) (w1 + 2) (w + 2) 8) (w1 + 3) (w + 3) 8) (w1 + 4) (w + 4) 64) (w1 + 5) (w + 5) 64) w 6 _ = σ7
  obtain ⟨τ, e1, e2⟩ := copyWL h 8 0 fu σ7 (by omega) (fu_gt (by omega))
  rw [e1]
  refine ⟨_, rfl, ?_, ⟨?_, ?_, ?_⟩, ?_, ?_, ?_⟩
  · intro a b ha
    rw [setI_oo (by omega), e2, if_neg (by omega), ← hσ7]
    simp (disch := omega) only [setI_oo, cpyI_oo]
  · rw [setI_oo (by omega), e2, if_neg (by omega), ← hσ7]
    simp (disch := omega) only [setI_oo, cpyI_oo, setI_s]
  · rw [setI_oo (by omega), e2, if_neg (by omega), ← hσ7]
    simp (disch := omega) only [setI_oo, cpyI_oo, setI_s]
  · rw [setI_s, e2, if_neg (by omega), ← hσ7]
    simp (disch := omega) only [setI_oo, cpyI_oo]
  · intro j b h1 h3 hb
    rw [setI_oo (by omega), e2, if_neg (by omega), ← hσ7]
    rcases (show j = 1 ∨ j = 2 ∨ j = 3 by omega) with rfl | rfl | rfl
    all_goals simp (disch := omega) only [setI_oo, cpyI_oo, cpyI_s]
  · intro j b h1 h3 hb
    rw [setI_oo (by omega), e2, if_neg (by omega), ← hσ7]
    rcases (show j = 4 ∨ j = 5 by omega) with rfl | rfl
    all_goals simp (disch := omega) only [setI_oo, cpyI_oo, cpyI_s]
  · intro j b h1 h3 hb
    rw [setI_oo (by omega), e2, if_pos (by omega), ← hσ7, show w1 + (w + j - w) = w1 + j by omega]
    simp (disch := omega) only [setI_oo, cpyI_oo]
theorem nI_inj {a b : Nat} (ha : a < 2 ^ 31) (hb : b < 2 ^ 31) : nI a = nI b ↔ a = b := by
  constructor
  · intro e
    have := congrArg Int32.toInt e
    rw [nI_toInt ha, nI_toInt hb] at this
    omega
  · rintro rfl; rfl
theorem nI_ne_m1 {a : Nat} (ha : a < 2 ^ 31) : nI a ≠ (-1 : Int32) := by
  intro e
  have := congrArg Int32.toInt e
  rw [nI_toInt ha, show (-1 : Int32).toInt = -1 from rfl] at this
  omega
theorem byt (x : Int64) : (x &&& (255 : Int64)).toInt32 = nI (x.toUInt64.toNat % 256) := by
  apply Int32.toBitVec_inj.mp
  apply BitVec.eq_of_toNat_eq
  rw [Int64.toBitVec_toInt32, BitVec.signExtend_eq_setWidth_of_le _ (by decide), BitVec.toNat_setWidth, Int64.toBitVec_and, BitVec.toNat_and]
  show (x.toBitVec.toNat &&& (2 ^ 8 - 1)) % 2 ^ 32 = (x.toBitVec.toNat % 256) % 2 ^ 32
  rw [Nat.and_two_pow_sub_one_eq_mod]
theorem ush_c : ∀ s, s < 64 → ((nI s).toInt64.toUInt64 &&& Int64.toUInt64 63).toNat = s := by decide +kernel
theorem ushN (x : Int64) {s : Nat} (h : s < 64) : (ushrL x (nI s)).toUInt64.toNat = x.toUInt64.toNat >>> s := by
  unfold ushrL
  show (x.toUInt64 >>> ((nI s).toInt64.toUInt64 &&& Int64.toUInt64 63)).toNat = _
  rw [UInt64.toNat_shiftRight, ush_c s h, Nat.mod_eq_of_lt h]
/-- the byte of a number -/
def byN (c : Int64) (i : Nat) : Nat := (c.toUInt64.toNat >>> (8 * i)) % 256
theorem byN_lt (c : Int64) (i : Nat) : byN c i < 256 := Nat.mod_lt _ (by decide)
theorem byteN (c : Int64) {i : Nat} (h : i < 8) : fX5_byteOf c (nI i) = nI (byN c i) := by
  unfold fX5_byteOf
  rw [ix80, byt, ushN c (by omega)]
  rfl
theorem nI_z {k : Nat} (h : k < 2 ^ 31) : (nI k = (0 : Int32)) ↔ k = 0 := nI_inj h (b := 0) (by decide)
theorem appX (c : Int64) {S L : Nat} (hL : L ≤ 8) (hS : S + L ≤ 16) : ∀ (d i n : Nat) (σ : St), i + d = L → d < n → σ.1 1 1 = nI (S + i) → ∃ τ, fX5_append_L3 c (nI L) n (nI i) σ = some τ ∧ τ.1 1 1 = nI (S + L) ∧ ∀ a b, ¬ (a = 1 ∧ b = 1) → τ.1 a b = if a = 2 ∧ S + i ≤ b ∧ b < S + L then nI (byN c (b - S)) else σ.1 a b := by
  intro d
  induction d with
  | zero =>
    intro i n σ hi hn hs
    obtain ⟨n, rfl, -⟩ := su hn
    have e : i = L := by omega
    subst e
    rw [fX5_append_L3, if_pos (nI_le (a := i) (b := i) (by omega) (by omega))]
    exact ⟨σ, rfl, hs, fun a b _ => by rw [if_neg (by omega)]⟩
  | succ d ih =>
    intro i n σ hi hn hs
    obtain ⟨n, rfl, hn⟩ := su hn
    rw [fX5_append_L3, if_neg (nI_ge (a := i) (b := L) (by omega) (by omega)), hs, if_neg (show ¬ (16 : Int32) ≤ nI (S + i) from nI_ge (a := S + i) (b := 16) (by omega) (by decide)), grd_t (inbN (show S + i < 16 by omega) (by decide)), tcl (by omega), byteN c (show i < 8 by omega)]
    simp only [bnd, nI_1]
    obtain ⟨τ, e1, e2, e3⟩ := ih (i + 1) n (setI (setI σ 2 (S + i) (nI (byN c i))) 1 1 ((setI σ 2 (S + i) (nI (byN c i))).1 1 1 + 1)) (by omega) (by omega) (by rw [setI_s, setI_oo (by omega), hs, nI_1]; rfl)
    refine ⟨τ, e1, e2, fun a b h => ?_⟩
    rw [e3 a b h, setI_oo h, setI_1]
    by_cases q : a = 2 ∧ b = S + i
    · obtain ⟨rfl, rfl⟩ := q
      rw [if_neg (by omega), if_pos ⟨rfl, rfl⟩, if_pos (by omega), show S + i - S = i by omega]
    · rw [if_neg q]
      by_cases t : a = 2 ∧ S + (i + 1) ≤ b ∧ b < S + L
      · rw [if_pos t, if_pos (by omega)]
      · rw [if_neg t, if_neg (by omega)]
def vN (n : Nat) : Int64 := Int64.ofNat n
theorem vN_toInt {n : Nat} (h : n < 2 ^ 63) : (vN n).toInt = n := Int64.toInt_ofNat_of_lt h
theorem vN_of {s : Nat} (h : s < 2 ^ 31) : (nI s).toInt64 = vN s := by
  apply Int64.toInt_inj.mp
  rw [Int32.toInt_toInt64, nI_toInt h, vN_toInt (by omega)]
theorem vN_32 {s : Nat} (h : s < 2 ^ 31) : (vN s).toInt32 = nI s := by
  apply Int32.toInt_inj.mp
  rw [Int64.toInt_toInt32, nI_toInt h, vN_toInt (by omega)]
  rw [Int.bmod_eq_of_le (by omega) (by omega)]
theorem vN_div {a b : Nat} (ha : a < 2 ^ 62) (hb : b < 2 ^ 62) : vN a / vN b = vN (a / b) := by
  apply Int64.toInt_inj.mp
  have hl : a / b < 2 ^ 62 := Nat.lt_of_le_of_lt (Nat.div_le_self a b) ha
  rw [Int64.toInt_div, vN_toInt (by omega), vN_toInt (by omega), vN_toInt (by omega), ← Int.ofNat_tdiv]
  generalize a / b = q at hl ⊢
  rw [Int.bmod_eq_of_le (by omega) (by omega)]
theorem vI_div {a b : Nat} (ha : a < 2 ^ 30) (hb : b < 2 ^ 30) : nI a / nI b = nI (a / b) := by
  apply Int32.toInt_inj.mp
  have hl : a / b < 2 ^ 30 := Nat.lt_of_le_of_lt (Nat.div_le_self a b) ha
  rw [Int32.toInt_div, nI_toInt (by omega), nI_toInt (by omega), nI_toInt (by omega), ← Int.ofNat_tdiv]
  generalize a / b = q at hl ⊢
  rw [Int.bmod_eq_of_le (by omega) (by omega)]
theorem vN_mod {a b : Nat} (ha : a < 2 ^ 62) (hb : b < 2 ^ 62) : vN a - vN a / vN b * vN b = vN (a % b) := by
  rw [vN_div ha hb]
  have h1 := Nat.div_mul_le_self a b
  have h2 := Nat.div_add_mod a b
  have h3 : b * (a / b) = a / b * b := Nat.mul_comm _ _
  have e : vN (a / b) * vN b = vN (a / b * b) := by unfold vN; rw [Int64.ofNat_mul]
  rw [e]
  have e2 : vN a = vN (a % b) + vN (a / b * b) := by
    unfold vN; rw [← Int64.ofNat_add]; congr 1; omega
  rw [e2, Int64.add_sub_cancel]
theorem vI_mod {a b : Nat} (ha : a < 2 ^ 30) (hb : b < 2 ^ 30) : nI a - nI a / nI b * nI b = nI (a % b) := by
  rw [vI_div ha hb]
  have h2 := Nat.div_add_mod a b
  have h3 : b * (a / b) = a / b * b := Nat.mul_comm _ _
  have e : nI (a / b) * nI b = nI (a / b * b) := by unfold nI; rw [Int32.ofNat_mul]
  rw [e]
  have e2 : nI a = nI (a % b) + nI (a / b * b) := by
    unfold nI; rw [← Int32.ofNat_add]; congr 1; omega
  rw [e2, Int32.add_sub_cancel]
def vxS (s : Nat) : Nat := (1103515245 * s + 12345) % 2 ^ 31
theorem vx_lt (s : Nat) : vxS s < 2 ^ 31 := Nat.mod_lt _ (by decide)
theorem vxL (s : Nat) : ((1103515245 : Int64) * vN s + 12345) &&& 2147483647 = vN (vxS s) := by
  have e : (1103515245 : Int64) * vN s + 12345 = vN (1103515245 * s + 12345) := by
    unfold vN; rw [Int64.ofNat_add, Int64.ofNat_mul]; rfl
  rw [e]
  apply Int64.toBitVec_inj.mp
  apply BitVec.eq_of_toNat_eq
  rw [Int64.toBitVec_and, BitVec.toNat_and]
  show ((1103515245 * s + 12345) % 2 ^ 64 &&& (2 ^ 31 - 1)) = vxS s % 2 ^ 64
  rw [Nat.and_two_pow_sub_one_eq_mod, Nat.mod_mod_of_dvd _ (by decide), Nat.mod_eq_of_lt (b := 2 ^ 64) (Nat.lt_of_lt_of_le (vx_lt s) (by decide))]
  rfl
theorem pcs_0 : ∀ b, b < 256 → b ≠ 0 → pcs b 8 ≠ 0 := by decide +kernel
theorem dec_1 (a : Int32) : a + (-1 : Int32) = a - 1 := by
  rw [Int32.sub_eq_add_neg]
theorem setL_s {σ : St} {i k : Nat} {v : Int64} : (setL σ i k v).2 i k = v := by
  unfold setL
  simp
theorem move_2 {g : Nat} {p m : Int32} {σ τ : St} (hf : fX3_moveTo g p m σ = some τ) : τ.2 = σ.2 := by
  unfold fX3_moveTo at hf
  obtain ⟨σ1, h1, hf⟩ := bnd_elim hf
  obtain ⟨σ2, h2, hf⟩ := bnd_elim hf
  obtain ⟨σ3, h3, hf⟩ := bnd_elim hf
  obtain ⟨σ4, h4, hf⟩ := bnd_elim hf
  have e4 : σ4.2 = σ.2 := by rw [h4, h3, h2, h1]; rfl
  obtain ⟨q6, h6, hf⟩ := obind hf
  have e6 : q6.2 = σ.2 := by
    by_cases c1 : (σ4.1 g 0) = (4 : Int32)
    · rw [if_pos c1] at h6
      obtain ⟨σ5, h5, h6⟩ := bnd_elim h6
      have hq := Option.some.inj h6
      rw [← hq, h5]; exact e4
    · rw [if_neg c1] at h6
      by_cases c2 : (σ4.1 g 0) = (2 : Int32)
      · rw [if_pos c2] at h6
        have hq := Option.some.inj h6
        rw [← hq]; exact e4
      · rw [if_neg c2] at h6
        obtain ⟨σ5, h5, h6⟩ := bnd_elim h6
        have hq := Option.some.inj h6
        rw [← hq, h5]; exact e4
  have last : ∀ {z : Int32}, (if (q6.1 g 2) = (q6.1 g 1) then (bnd (setI q6 g 6 z) fun σ9 => some σ9) else some q6) = some τ → τ.2 = σ.2 := by
    intro z h
    by_cases c : (q6.1 g 2) = (q6.1 g 1)
    · rw [if_pos c] at h
      obtain ⟨σ9, h9, h⟩ := bnd_elim h
      have hq := Option.some.inj h
      rw [← hq, h9]; exact e6
    · rw [if_neg c] at h
      have hq := Option.some.inj h
      rw [← hq]; exact e6
  by_cases c3 : (fX3_isOf g (1 : Int32) q6) = 0
  · rw [if_pos c3] at hf
    exact last hf
  · rw [if_neg c3] at hf
    by_cases c4 : (q6.1 g 4) < m
    · rw [if_pos c4] at hf
      exact last hf
    · rw [if_neg c4] at hf
      obtain ⟨σ9, h9, hf⟩ := bnd_elim hf
      have hq := Option.some.inj hf
      rw [← hq, h9]; exact e6
theorem handOn_2 {w g : Nat} {p m : Int32} {σ τ : St} (hf : fX7_handOn w g p m σ = some τ) : τ.2 = σ.2 := by
  unfold fX7_handOn at hf
  obtain ⟨-, hf⟩ := grd_elim hf
  obtain ⟨-, hf⟩ := grd_elim hf
  obtain ⟨σ3, h3, hf⟩ := bnd_elim hf
  obtain ⟨q4, h4, hf⟩ := obind hf
  have e4 : q4.2 = σ.2 := by rw [move_2 h4, h3]; rfl
  by_cases c : (q4.1 g 6) = (1 : Int32)
  · rw [if_pos c] at hf
    obtain ⟨-, hf⟩ := grd_elim hf
    obtain ⟨-, hf⟩ := grd_elim hf
    obtain ⟨σ8, h8, hf⟩ := bnd_elim hf
    have hq := Option.some.inj hf
    rw [← hq, h8]; exact e4
  · rw [if_neg c] at hf
    have hq := Option.some.inj hf
    rw [← hq]; exact e4
theorem ages_2 (w : Nat) : ∀ (n : Nat) (v : Int32) (σ τ : St), fX7_passYear_n_L12 w n v σ = some τ → τ.2 = σ.2 := by
  intro n
  induction n with
  | zero => intro v σ τ h; rw [fX7_passYear_n_L12] at h; cases h
  | succ n ih =>
    intro v σ τ h
    rw [fX7_passYear_n_L12] at h
    by_cases c : (σ.1 w 6) ≤ v
    · rw [if_pos c] at h
      have hq := Option.some.inj h
      rw [← hq]
    · rw [if_neg c] at h
      obtain ⟨-, h⟩ := grd_elim h
      by_cases c2 : (fX3_lives (w + 7 + v.toNatClampNeg) σ) = 0
      · rw [if_pos c2] at h
        exact ih _ _ _ h
      · rw [if_neg c2] at h
        obtain ⟨-, h⟩ := grd_elim h
        obtain ⟨σ6, h6, h⟩ := bnd_elim h
        rw [ih _ _ _ h, h6]; rfl
theorem ages_s (w : Nat) : ∀ (n : Nat) (v : Int32) (σ : St), fX7_passYear_L12 w n v σ = fX7_passYear_n_L12 w n v σ := by
  intro n
  induction n with
  | zero => intro v σ; rfl
  | succ n ih =>
    intro v σ
    rw [fX7_passYear_L12, fX7_passYear_n_L12]
    simp only [ih]
theorem bit_lt {P b c : Nat} (hb : b < 2 ^ P) (hc : b.testBit c = true) : c < P := by
  refine Nat.lt_of_not_le (fun q => ?_)
  rw [Nat.testBit_lt_two_pow (Nat.lt_of_lt_of_le hb (Nat.pow_le_pow_right (by decide) q))] at hc
  cases hc
theorem obs {α β : Type} (a : α) (f : α → Option β) : Option.bind (some a) f = f a := Eq.trans rfl rfl
theorem bnd_eq {α β : Type} (a : α) (f : α → β) : bnd a f = f a := Eq.trans rfl rfl
/-- the page as an automaton -/
noncomputable def autS (f : Nat → Int32) : Nat → Int32
  | 0 => 0
  | i + 1 => if autS f i = -1 then -1 else fX5_behind (autS f i) (f i)
theorem aut_dead {f : Nat → Int32} {i : Nat} (h : autS f i = -1) : ∀ d, autS f (i + d) = -1
  | 0 => h
  | d + 1 => by rw [← Nat.add_assoc, autS, if_pos (aut_dead h d)]
theorem beh_rng : ∀ s, s ≤ 6 → ∀ c : Int32, fX5_behind (nI s) c = -1 ∨ ∃ t, t ≤ 6 ∧ fX5_behind (nI s) c = nI t := by
  intro s hs c
  have k : ∀ (p : Prop) [Decidable p] (a b : Int32), (a = -1 ∨ ∃ t, t ≤ 6 ∧ a = nI t) → (b = -1 ∨ ∃ t, t ≤ 6 ∧ b = nI t) → ((if p then a else b) = -1 ∨ ∃ t, t ≤ 6 ∧ (if p then a else b) = nI t) := by
    intro p _ a b ha hb
    by_cases q : p
    · rw [if_pos q]; exact ha
    · rw [if_neg q]; exact hb
  have m1 : ((-1 : Int32) = -1 ∨ ∃ t, t ≤ 6 ∧ (-1 : Int32) = nI t) := Or.inl rfl
  have l (n : Nat) (hn : n ≤ 6) : ((OfNat.ofNat n : Int32) = -1 ∨ ∃ t, t ≤ 6 ∧ (OfNat.ofNat n : Int32) = nI t) := Or.inr ⟨n, hn, rfl⟩
  unfold fX5_behind
  repeat' (first | exact m1 | exact l 1 (by decide) | exact l 2 (by decide) | exact l 3 (by decide) | exact l 4 (by decide) | exact l 5 (by decide) | exact l 6 (by decide) | apply k)
theorem nI_m1ne {t : Nat} (h : t ≤ 6) : ¬ nI t = (-1 : Int32) := fun z => by
  have := congrArg Int32.toInt z
  rw [nI_toInt (by omega)] at this
  have e : (-1 : Int32).toInt = -1 := rfl
  omega
theorem isLawL {σ : St} {S : Nat} (hS : S ≤ 16) (s0 : σ.1 1 1 = nI S) : ∀ (d i n : Nat), i + d = S → d < n → fX5_isLaw_L4 σ n (autS (σ.1 2) i) (nI i) = some (autS (σ.1 2) S) := by
  intro d
  induction d with
  | zero =>
    intro i n hi hn
    obtain ⟨n, rfl, -⟩ := su hn
    have e : i = S := by omega
    subst e
    rw [fX5_isLaw_L4, s0, if_pos (nI_le (a := i) (b := i) (by omega) (by omega))]
  | succ d ih =>
    intro i n hi hn
    obtain ⟨n, rfl, hn⟩ := su hn
    rw [fX5_isLaw_L4, s0, if_neg (nI_ge (a := i) (b := S) (by omega) (by omega)), if_neg (show ¬ (16 : Int32) ≤ nI i from nI_ge (a := i) (b := 16) (by omega) (by decide))]
    by_cases z : autS (σ.1 2) i = -1
    · rw [if_pos z, z]
      have := aut_dead z (d + 1)
      rw [show i + (d + 1) = S by omega] at this
      rw [this]
    · rw [if_neg z, grd_t (inbN (show i < 16 by omega) (by decide)), tcl (by omega)]
      simp only [bnd, nI_1]
      rw [show fX5_behind (autS (σ.1 2) i) (σ.1 2 i) = autS (σ.1 2) (i + 1) by rw [autS, if_neg z]]
      exact ih (i + 1) n (by omega) (by omega)
/-- which letter stood ahead, by the place -/
theorem ahead_of {s : Nat} (hs : s ≤ 6) (c : Int32) (h : ¬ fX5_behind (nI s) c = -1) : (c = 107 ↔ fX5_behind (nI s) c = nI 1) ∧ (c = 119 ↔ fX5_behind (nI s) c = nI 5) := by
  by_cases c1 : c = 107
  · subst c1
    rcases (show s = 0 ∨ s = 1 ∨ s = 2 ∨ s = 3 ∨ s = 4 ∨ s = 5 ∨ s = 6 by omega) with rfl | rfl | rfl | rfl | rfl | rfl | rfl <;> revert h <;> decide +kernel
  · by_cases c2 : c = 119
    · subst c2
      rcases (show s = 0 ∨ s = 1 ∨ s = 2 ∨ s = 3 ∨ s = 4 ∨ s = 5 ∨ s = 6 by omega) with rfl | rfl | rfl | rfl | rfl | rfl | rfl <;> revert h <;> decide +kernel
    · by_cases c3 : c = 98
      · subst c3
        rcases (show s = 0 ∨ s = 1 ∨ s = 2 ∨ s = 3 ∨ s = 4 ∨ s = 5 ∨ s = 6 by omega) with rfl | rfl | rfl | rfl | rfl | rfl | rfl <;> revert h <;> decide +kernel
      · by_cases c4 : c = 111
        · subst c4
          rcases (show s = 0 ∨ s = 1 ∨ s = 2 ∨ s = 3 ∨ s = 4 ∨ s = 5 ∨ s = 6 by omega) with rfl | rfl | rfl | rfl | rfl | rfl | rfl <;> revert h <;> decide +kernel
        · have n1 : ¬ fX5_behind (nI s) c = nI 1 ∧ ¬ fX5_behind (nI s) c = nI 5 := by
            revert h
            unfold fX5_behind
            simp only [c1, c2, c3, c4, if_false]
            rcases (show s = 0 ∨ s = 1 ∨ s = 2 ∨ s = 3 ∨ s = 4 ∨ s = 5 ∨ s = 6 by omega) with rfl | rfl | rfl | rfl | rfl | rfl | rfl
            · intro h; exact absurd rfl h
            · intro h
              rcases bX8_within c 49 51 with q | q
              · rw [q] at h; exact absurd rfl h
              · rw [q, if_pos (show nI 1 = (1 : Int32) from rfl), if_neg (show ¬ (1 : Int32) = 0 by decide)]; decide
            · intro h; exact absurd rfl h
            · intro h; exact absurd rfl h
            · intro h; exact absurd rfl h
            · intro h
              rcases bX8_within c 49 57 with q | q
              · rw [q] at h; exact absurd rfl h
              · rw [q, if_neg (show ¬ nI 5 = (1 : Int32) by decide), if_pos (show nI 5 = (5 : Int32) from rfl), if_neg (show ¬ (1 : Int32) = 0 by decide)]; decide
            · intro h; exact absurd rfl h
          exact ⟨⟨fun q => absurd q c1, fun q => absurd q n1.1⟩, ⟨fun q => absurd q c2, fun q => absurd q n1.2⟩⟩
