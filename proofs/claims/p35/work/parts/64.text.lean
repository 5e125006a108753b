/-! THE LAW'S TEXT -/
def Pg (c : Nat) (xs : List Nat) (σ : St) : Prop := ∀ i, i < xs.length → σ.1 c i = nI (xs.getD i 0)
theorem Pg.push {c x : Nat} {xs : List Nat} {σ : St} (h : Pg c xs σ) : Pg c (xs ++ [x]) (setI σ c xs.length (nI x)) := by
  intro i hi
  rw [List.length_append, List.length_singleton] at hi
  by_cases z : i = xs.length
  · subst z
    rw [setI_s]
    simp
  · rw [setI_oo (fun q => z q.2), h i (by omega), List.getD_eq_getElem?_getD, List.getD_eq_getElem?_getD, List.getElem?_append_left (by omega)]
def tA (a k : Nat) : List Nat := if a = 0 then [] else [107, 48 + k]
def tB (b : Nat) : List Nat := if b = 1 then [98] else []
def tO (o : Nat) : List Nat := if o = 1 then [111] else []
def tW (w m : Nat) : List Nat := if w = 0 then [] else [119, 48 + m]
def kpN (a k : Nat) : Nat := if a = 0 then 1 else 1 + k
def msN (w m : Nat) : Nat := if w = 0 then 3 else 1 + m
def txt (a k b o w m : Nat) : List Nat := tA a (kpN a k) ++ tB b ++ tO o ++ tW w (msN w m)
theorem len_tA (a k : Nat) : (tA a k).length ≤ 2 := by unfold tA; split <;> simp
theorem len_tB (b : Nat) : (tB b).length ≤ 1 := by unfold tB; split <;> simp
theorem len_tO (b : Nat) : (tO b).length ≤ 1 := by unfold tO; split <;> simp
theorem len_tW (a k : Nat) : (tW a k).length ≤ 2 := by unfold tW; split <;> simp
theorem lawTextT (x : Int32) (σ : St) : ∃ (a k b o w m : Nat) (τ : St), a < 2 ∧ k < 3 ∧ b < 2 ∧ o < 2 ∧ w < 2 ∧ m < 9 ∧ fL_lawText x 58 4 59 16 σ = some (nI (txt a k b o w m).length, τ) ∧ Pg 59 (txt a k b o w m) τ ∧ τ.1 58 0 = nI (kpN a k) ∧ τ.1 58 1 = nI b ∧ τ.1 58 2 = nI o ∧ τ.1 58 3 = nI (msN w m) ∧ (∀ a b, a ≠ 58 → a ≠ 59 → τ.1 a b = σ.1 a b) := by
  obtain ⟨a, ha, ea⟩ := at_c x (n := 2) (by decide) (by decide)
  obtain ⟨k, hk, ek⟩ := at_c (x >>> ((1 : Int32) &&& 31)) (n := 3) (by decide) (by decide)
  obtain ⟨b, hb, eb⟩ := at_c (x >>> ((4 : Int32) &&& 31)) (n := 2) (by decide) (by decide)
  obtain ⟨o3, ho3, eo⟩ := at_c (x >>> ((5 : Int32) &&& 31)) (n := 3) (by decide) (by decide)
  obtain ⟨w, hw, ew⟩ := at_c (x >>> ((7 : Int32) &&& 31)) (n := 2) (by decide) (by decide)
  obtain ⟨m, hm, em⟩ := at_c (x >>> ((8 : Int32) &&& 31)) (n := 9) (by decide) (by decide)
  obtain ⟨o, ho, eo2⟩ : ∃ o, o < 2 ∧ (if nI o3 = 0 then (1 : Int32) else (0 : Int32)) = nI o := by
    by_cases z : nI o3 = 0
    · rw [if_pos z]; exact ⟨1, by decide, rfl⟩
    · rw [if_neg z]; exact ⟨0, by decide, rfl⟩
  have a0 : ∀ t, t < 2 → (nI t = 0 ↔ t = 0) := fun t ht => by rcases (show t = 0 ∨ t = 1 by omega) with rfl | rfl <;> decide
  have a1 : ∀ t, t < 2 → (nI t = (1 : Int32) ↔ t = 1) := fun t ht => by rcases (show t = 0 ∨ t = 1 by omega) with rfl | rfl <;> decide
  have al : ∀ t, t < 2 → (nI t ≤ 0 ↔ t = 0) := fun t ht => by rcases (show t = 0 ∨ t = 1 by omega) with rfl | rfl <;> decide
  have kA : (if nI a = 0 then some (1 : Int32) else Option.bind (fL_at (x >>> ((1 : Int32) &&& 31)) (3 : Int32)) fun q56 => some ((1 : Int32) + q56)) = some (nI (kpN a k)) := by
    unfold kpN
    by_cases z : a = 0
    · rw [if_pos ((a0 a ha).mpr z), if_pos z]; rfl
    · rw [if_neg (fun q => z ((a0 a ha).mp q)), if_neg z, show fL_at (x >>> ((1 : Int32) &&& 31)) (3 : Int32) = some (nI k) from ek]
      simp only [obs, n1p]
  have kW : (if nI w = 0 then some (3 : Int32) else Option.bind (fL_at (x >>> ((8 : Int32) &&& 31)) (9 : Int32)) fun q52 => some ((1 : Int32) + q52)) = some (nI (msN w m)) := by
    unfold msN
    by_cases z : w = 0
    · rw [if_pos ((a0 w hw).mpr z), if_pos z]; rfl
    · rw [if_neg (fun q => z ((a0 w hw).mp q)), if_neg z, show fL_at (x >>> ((8 : Int32) &&& 31)) (9 : Int32) = some (nI m) from em]
      simp only [obs, n1p]
  have hkp : kpN a k ≤ 3 := by unfold kpN; split <;> omega
  have hms : msN w m ≤ 9 := by unfold msN; split <;> omega
  -- the four numbers
  obtain ⟨σ18, h18⟩ : ∃ σ18, σ18 = setI (setI (setI (setI σ 58 0 (nI (kpN a k))) 58 1 (nI b)) 58 2 (nI o)) 58 3 (nI (msN w m)) := ⟨_, rfl⟩
  have l0 : σ18.1 58 0 = nI (kpN a k) := by rw [h18]; simp (disch := omega) only [setI_s, setI_oo]
  have l1 : σ18.1 58 1 = nI b := by rw [h18]; simp (disch := omega) only [setI_s, setI_oo]
  have l2 : σ18.1 58 2 = nI o := by rw [h18]; simp (disch := omega) only [setI_s, setI_oo]
  have l3 : σ18.1 58 3 = nI (msN w m) := by rw [h18]; simp (disch := omega) only [setI_s, setI_oo]
  have lo : ∀ c d, c ≠ 58 → σ18.1 c d = σ.1 c d := fun c d hc => by rw [h18]; simp (disch := omega) only [setI_oo]
  -- k and its digit
  obtain ⟨σA, sA, pA, fA⟩ : ∃ σA, (if nI a ≤ 0 then some ((0 : Int32), σ18) else (grd (inb (0 : Int32) 16) (bnd (setI σ18 59 (0 : Int32).toNatClampNeg (107 : Int32)) fun σ46 => (grd (inb (0 : Int32) 4) (grd (inb ((0 : Int32) + (1 : Int32)) 16) (bnd (setI σ46 59 ((0 : Int32) + (1 : Int32)).toNatClampNeg ((48 : Int32) + (σ46.1 58 (0 : Int32).toNatClampNeg))) fun σ49 => some ((((0 : Int32) + (1 : Int32)) + (1 : Int32)), σ49))))))) = some (nI (tA a (kpN a k)).length, σA) ∧ Pg 59 (tA a (kpN a k)) σA ∧ (∀ c d, c ≠ 59 → σA.1 c d = σ18.1 c d) := by
    unfold tA
    by_cases z : a = 0
    · rw [if_pos ((al a ha).mpr z), if_pos z]
      exact ⟨σ18, rfl, fun i hi => absurd hi (Nat.not_lt_zero i), fun _ _ _ => rfl⟩
    · rw [if_neg (fun q => z ((al a ha).mp q)), if_neg z, grd_t (by decide)]
      simp only [bnd_eq]
      rw [grd_t (by decide), grd_t (by decide), show ((0 : Int32) + (1 : Int32)).toNatClampNeg = 1 from rfl, show (0 : Int32).toNatClampNeg = 0 from rfl, setI_oo (by omega), l0, show (48 : Int32) = nI 48 from rfl, nI_add]
      refine ⟨_, rfl, fun i hi => ?_, fun c d hc => by simp (disch := omega) only [setI_oo]⟩
      have hi : i < 2 := hi
      rcases (show i = 0 ∨ i = 1 by omega) with rfl | rfl
      · rw [setI_oo (by omega), setI_s]; rfl
      · rw [setI_s]; rfl
  obtain ⟨σB, sB, pB, fB⟩ : ∃ σB, (if (σA.1 58 (1 : Int32).toNatClampNeg) = (1 : Int32) then (grd (inb (nI (tA a (kpN a k)).length) 16) (bnd (setI σA 59 (nI (tA a (kpN a k)).length).toNatClampNeg (98 : Int32)) fun σ42 => some ((nI (tA a (kpN a k)).length + (1 : Int32)), σ42))) else some (nI (tA a (kpN a k)).length, σA)) = some (nI (tA a (kpN a k) ++ tB b).length, σB) ∧ Pg 59 (tA a (kpN a k) ++ tB b) σB ∧ (∀ c d, c ≠ 59 → σB.1 c d = σ18.1 c d) := by
    have hl := len_tA a (kpN a k)
    unfold tB
    rw [show (1 : Int32).toNatClampNeg = 1 from rfl, fA 58 1 (by omega), l1]
    by_cases z : b = 1
    · rw [if_pos ((a1 b hb).mpr z), if_pos z, grd_t (inbN (by omega) (by decide)), tcl (by omega)]
      simp only [bnd_eq]
      rw [nk1, List.length_append]
      exact ⟨_, rfl, pA.push (x := 98), fun c d hc => by rw [setI_oo (by omega)]; exact fA c d hc⟩
    · rw [if_neg (fun q => z ((a1 b hb).mp q)), if_neg z, List.append_nil]
      exact ⟨σA, rfl, pA, fA⟩
  obtain ⟨σO, sO, pO, fO⟩ : ∃ σO, (if (σB.1 58 (2 : Int32).toNatClampNeg) = (1 : Int32) then (grd (inb (nI (tA a (kpN a k) ++ tB b).length) 16) (bnd (setI σB 59 (nI (tA a (kpN a k) ++ tB b).length).toNatClampNeg (111 : Int32)) fun σ38 => some ((nI (tA a (kpN a k) ++ tB b).length + (1 : Int32)), σ38))) else some (nI (tA a (kpN a k) ++ tB b).length, σB)) = some (nI (tA a (kpN a k) ++ tB b ++ tO o).length, σO) ∧ Pg 59 (tA a (kpN a k) ++ tB b ++ tO o) σO ∧ (∀ c d, c ≠ 59 → σO.1 c d = σ18.1 c d) := by
    have hl : (tA a (kpN a k) ++ tB b).length ≤ 3 := by rw [List.length_append]; have := len_tA a (kpN a k); have := len_tB b; omega
    unfold tO
    rw [show (2 : Int32).toNatClampNeg = 2 from rfl, fB 58 2 (by omega), l2]
    by_cases z : o = 1
    · rw [if_pos ((a1 o ho).mpr z), if_pos z, grd_t (inbN (by omega) (by decide)), tcl (by omega)]
      simp only [bnd_eq]
      rw [nk1, List.length_append (bs := [111])]
      exact ⟨_, rfl, pB.push (x := 111), fun c d hc => by rw [setI_oo (by omega)]; exact fB c d hc⟩
    · rw [if_neg (fun q => z ((a1 o ho).mp q)), if_neg z, List.append_nil]
      exact ⟨σB, rfl, pB, fB⟩
  have hlO : (tA a (kpN a k) ++ tB b ++ tO o).length ≤ 4 := by rw [List.length_append, List.length_append]; have := len_tA a (kpN a k); have := len_tB b; have := len_tO o; omega
  obtain ⟨σW, sW, pW, fW⟩ : ∃ σW, (if nI w ≤ 0 then some (nI (tA a (kpN a k) ++ tB b ++ tO o).length, σO) else (grd (inb (nI (tA a (kpN a k) ++ tB b ++ tO o).length) 16) (bnd (setI σO 59 (nI (tA a (kpN a k) ++ tB b ++ tO o).length).toNatClampNeg (119 : Int32)) fun σ31 => (grd (inb (3 : Int32) 4) (grd (inb (nI (tA a (kpN a k) ++ tB b ++ tO o).length + (1 : Int32)) 16) (bnd (setI σ31 59 (nI (tA a (kpN a k) ++ tB b ++ tO o).length + (1 : Int32)).toNatClampNeg ((48 : Int32) + (σ31.1 58 (3 : Int32).toNatClampNeg))) fun σ34 => some (((nI (tA a (kpN a k) ++ tB b ++ tO o).length + (1 : Int32)) + (1 : Int32)), σ34))))))) = some (nI (txt a k b o w m).length, σW) ∧ Pg 59 (txt a k b o w m) σW ∧ (∀ c d, c ≠ 59 → σW.1 c d = σ18.1 c d) := by
    unfold txt
    generalize tA a (kpN a k) ++ tB b ++ tO o = ys at pO hlO ⊢
    unfold tW
    by_cases z : w = 0
    · rw [if_pos ((al w hw).mpr z), if_pos z, List.append_nil]
      exact ⟨σO, rfl, pO, fO⟩
    · rw [if_neg (fun q => z ((al w hw).mp q)), if_neg z, grd_t (inbN (by omega) (by decide)), tcl (by omega), nk1]
      simp only [bnd_eq]
      rw [grd_t (by decide), grd_t (inbN (by omega) (by decide)), tcl (by omega), show (3 : Int32).toNatClampNeg = 3 from rfl, setI_oo (by omega), fO 58 3 (by omega), l3, show (48 : Int32) = nI 48 from rfl, nI_add, nk1]
      have p1 := pO.push (x := 119)
      have p2 := p1.push (x := 48 + msN w m)
      rw [List.length_append, List.length_singleton, List.append_assoc] at p2
      refine ⟨_, ?_, p2, fun c d hc => by rw [setI_oo (by omega), setI_oo (by omega)]; exact fO c d hc⟩
      rw [List.length_append]
      rfl
  refine ⟨a, k, b, o, w, m, σW, ha, hk, hb, ho, hw, hm, ?_, pW, (fW 58 0 (by omega)).trans l0, (fW 58 1 (by omega)).trans l1, (fW 58 2 (by omega)).trans l2, (fW 58 3 (by omega)).trans l3, fun c d h1 h2 => (fW c d h2).trans (lo c d h1)⟩
  simp only [bnd_eq] at sA sB sO sW
  unfold fL_lawText
  rw [show fL_at x (2 : Int32) = some (nI a) from ea]
  simp only [obs]
  rw [kA]
  simp only [obs]
  rw [grd_t (by decide), show fL_at (x >>> ((4 : Int32) &&& 31)) (2 : Int32) = some (nI b) from eb]
  simp only [bnd_eq, obs]
  rw [grd_t (show inb (1 : Int32) 4 = true from by decide), show fL_at (x >>> ((5 : Int32) &&& 31)) (3 : Int32) = some (nI o3) from eo]
  simp only [bnd_eq, obs]
  rw [eo2, grd_t (show inb (2 : Int32) 4 = true from by decide), show fL_at (x >>> ((7 : Int32) &&& 31)) (2 : Int32) = some (nI w) from ew]
  simp only [bnd_eq, obs]
  rw [kW]
  simp only [obs]
  rw [grd_t (show inb (3 : Int32) 4 = true from by decide), show setI (setI (setI (setI σ 58 (0 : Int32).toNatClampNeg (nI (kpN a k))) 58 (1 : Int32).toNatClampNeg (nI b)) 58 (2 : Int32).toNatClampNeg (nI o)) 58 (3 : Int32).toNatClampNeg (nI (msN w m)) = σ18 from h18.symm]
  rw [sA]
  simp only [obs]
  rw [grd_t (show inb (1 : Int32) 4 = true from by decide), sB]
  simp only [obs]
  rw [grd_t (show inb (2 : Int32) 4 = true from by decide), sO]
  simp only [obs]
  exact sW
