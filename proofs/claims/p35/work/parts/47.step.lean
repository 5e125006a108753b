/-! A YEAR, by the law: one gift's turn -/
noncomputable def chL (pc oc gc : Nat) (c6 c7 c8 c10 q : Int32) (σ' : St) : Option (Int32 × St) := (if 0 ≤ (lg_cmp (σ'.2 64 (0 : Int32).toNatClampNeg) (0 : Int64)) then (grd (inb (0 : Int32) 1) (grd (inb (0 : Int32) 1) (bnd (setL σ' 64 (0 : Int32).toNatClampNeg ((((σ'.2 64 (0 : Int32).toNatClampNeg) * (1103515245 : Int64)) + (12345 : Int64)) - (((σ'.2 64 (0 : Int32).toNatClampNeg) * (1103515245 : Int64)) + (12345 : Int64)) / (2147483648 : Int64) * (2147483648 : Int64))) fun σ38 => (Option.bind (fL_year_L214 pc 27 58 4 gc 64 61 64 oc 64 64 1 c6 c7 c8 c10 q (-1 : Int32) σ38 fu (0 : Int32) (0 : Int32)) fun q42 => (grd (inb (0 : Int32) 1) (grd (decide (¬ q42.toInt64 = 0)) (bnd ((((σ38.2 64 (0 : Int32).toNatClampNeg) / (65536 : Int64)) - ((σ38.2 64 (0 : Int32).toNatClampNeg) / (65536 : Int64)) / q42.toInt64 * q42.toInt64).toInt32) fun x45 => (Option.bind (fL_year_L258 pc 27 58 4 gc 64 61 64 oc 64 64 1 c6 c7 c8 c10 q σ38 fu (-1 : Int32) x45 (0 : Int32)) fun q51 => some (q51, σ38))))))))) else (Option.bind (fL_habit pc 27 gc 64 61 64 c10 q σ') fun q56 => some (q56, σ')))
noncomputable def rsL (pc oc gc n : Nat) (a v7 : Int32) (i : Nat) (S : Option (Int32 × St)) (σ' : St) : Option (Int32 × St) :=
  Option.bind (fL_may pc 27 58 4 (σ'.1 gc (8 * i + 2)) (σ'.1 gc (8 * i + 3)) σ') fun q => if q = 0 then S else Option.bind (chL pc oc gc a v7 (nI i) (σ'.1 gc (8 * i + 2)) q σ') fun q31 => Option.bind (fL_give pc 27 58 4 gc 64 oc 64 (nI i) q31.1 q31.2) fun q32 => fL_year_L57 pc 27 58 4 gc 64 61 64 oc 64 64 1 n (a + 1) (v7 ||| ((1 : Int32) <<< (σ'.1 gc (8 * i + 2) &&& 31))) (nI (i + 1)) q32.2
theorem stepL {pc oc gc n G i : Nat} {a v7 : Int32} {σ' : St} (hG : G ≤ 8) (g1 : σ'.1 pc 25 = nI G) (hi : i < G) : fL_year_L57 pc 27 58 4 gc 64 61 64 oc 64 64 1 (n + 1) a v7 (nI i) σ' =
    if 0 < σ'.1 gc (8 * i + 7) then fL_year_L57 pc 27 58 4 gc 64 61 64 oc 64 64 1 n a v7 (nI (i + 1)) σ' else
    if σ'.1 gc (8 * i + 5) < σ'.1 58 0 + (if σ'.1 gc (8 * i) = (3 : Int32) then (1 : Int32) else (0 : Int32)) then fL_year_L57 pc 27 58 4 gc 64 61 64 oc 64 64 1 n a v7 (nI (i + 1)) σ' else
    if σ'.1 58 2 = (1 : Int32) then (if ((v7 >>> (σ'.1 gc (8 * i + 2) &&& 31)) &&& (1 : Int32)) = (1 : Int32) then fL_year_L57 pc 27 58 4 gc 64 61 64 oc 64 64 1 n a v7 (nI (i + 1)) σ' else rsL pc oc gc n a v7 i (fL_year_L57 pc 27 58 4 gc 64 61 64 oc 64 64 1 n a v7 (nI (i + 1)) σ') σ') else rsL pc oc gc n a v7 i (fL_year_L57 pc 27 58 4 gc 64 61 64 oc 64 64 1 n a v7 (nI (i + 1)) σ') σ' := by
  rw [fL_year_L57]
  unfold rsL chL
  simp (disch := omega) only [grd_t (show inb (25 : Int32) 27 = true from by decide), show (25 : Int32).toNatClampNeg = 25 from rfl, g1, if_neg (nI_ge (a := i) (b := G) (by omega) (by omega)), bnd, tcl, ix80, nk2, nk3, nk5, nk7, grd_t (inbN (show 8 * i < 64 by omega) (by decide)), grd_t (inbN (show 8 * i + 2 < 64 by omega) (by decide)), grd_t (inbN (show 8 * i + 3 < 64 by omega) (by decide)), grd_t (inbN (show 8 * i + 5 < 64 by omega) (by decide)), grd_t (inbN (show 8 * i + 7 < 64 by omega) (by decide)), grd_t (show inb (0 : Int32) 4 = true from by decide), grd_t (show inb (2 : Int32) 4 = true from by decide), grd_t (show inb (0 : Int32) 1 = true from by decide), show (0 : Int32).toNatClampNeg = 0 from rfl, show (2 : Int32).toNatClampNeg = 2 from rfl, nI_1]
theorem endL {pc oc gc n G : Nat} {a v7 : Int32} {σ' : St} (hG : G ≤ 8) (g1 : σ'.1 pc 25 = nI G) : fL_year_L57 pc 27 58 4 gc 64 61 64 oc 64 64 1 (n + 1) a v7 (nI G) σ' = some (a, σ') := by
  rw [fL_year_L57, grd_t (show inb (25 : Int32) 27 = true from by decide), show (25 : Int32).toNatClampNeg = 25 from rfl, g1, if_pos (nI_le (a := G) (b := G) (by omega) (by omega))]
theorem ch_habit {pc oc gc : Nat} {c6 c7 c8 c10 q : Int32} {σ' : St} (h : σ'.2 64 0 = -1) : chL pc oc gc c6 c7 c8 c10 q σ' = Option.bind (fL_habit pc 27 gc 64 61 64 c10 q σ') fun q56 => some (q56, σ') := by
  unfold chL
  rw [show (0 : Int32).toNatClampNeg = 0 from rfl, h, if_neg (by decide)]
def due (gc : Nat) (σ' : St) (g : Nat) : Prop := σ'.1 gc (8 * g + 7) = 0 ∧ ¬ σ'.1 gc (8 * g + 5) < σ'.1 58 0 + (if σ'.1 gc (8 * g) = (3 : Int32) then (1 : Int32) else (0 : Int32))
theorem x_due {w pc oc gc B : Nat} {σ σ' : St} {P G : Nat} (h1 : LL σ σ') (h : WL w pc oc gc B σ σ' P G) {g : Nat} (hg : g < 8) [Decidable (due gc σ' g)] : fX3_mustGo (w + 7 + g) (σ.1 3 0) σ = if due gc σ' g then 1 else 0 := by
  obtain ⟨x0, x1, x2, x3, x4, x5, x6, x7⟩ := h.x hg
  unfold fX3_mustGo
  rw [xlivesL h hg, x0, x5, h1.1.1]
  simp only [bnd]
  have ek : (if σ'.1 gc (8 * g) = (3 : Int32) then σ'.1 58 0 + (1 : Int32) else σ'.1 58 0) = σ'.1 58 0 + (if σ'.1 gc (8 * g) = (3 : Int32) then (1 : Int32) else (0 : Int32)) := by
    split
    · rfl
    · simp
  rw [ek]
  by_cases z : σ'.1 gc (8 * g + 7) = 0
  · rw [if_pos z, if_neg (by decide)]
    by_cases y : σ'.1 gc (8 * g + 5) < σ'.1 58 0 + (if σ'.1 gc (8 * g) = (3 : Int32) then (1 : Int32) else (0 : Int32))
    · rw [if_pos y, if_neg (fun t => t.2 y)]
    · rw [if_neg y, if_pos ⟨z, y⟩]
  · rw [if_neg z, if_pos rfl, if_neg (fun t => z t.1)]
def Fl (pc oc gc : Nat) (σ' τ' : St) : Prop := ∀ a b, a ≠ oc → a ≠ gc → ¬ (a = pc ∧ 17 ≤ b ∧ b < 25) → τ'.1 a b = σ'.1 a b
theorem Fl.rf {pc oc gc : Nat} {σ' : St} : Fl pc oc gc σ' σ' := fun _ _ _ _ _ => rfl
theorem Fl.tr {pc oc gc : Nat} {σ' τ' υ' : St} (h : Fl pc oc gc σ' τ') (k : Fl pc oc gc τ' υ') : Fl pc oc gc σ' υ' := fun a b n1 n2 n3 => (k a b n1 n2 n3).trans (h a b n1 n2 n3)
theorem LL.cong {σ σ' τ τ' : St} (h : LL σ σ') (h3 : ∀ b, τ.1 3 b = σ.1 3 b) (h58 : ∀ b, τ'.1 58 b = σ'.1 58 b) : LL τ τ' := by
  unfold LL at h ⊢
  rw [h3, h3, h3, h3, h58, h58, h58, h58]
  exact h
