/-! WHAT IS REFUSED -/
noncomputable def endX (σ : St) : Option Int32 := (if (fX8_lawTold (4 : Int32) σ) = (-102 : Int32) then (Option.bind (fX8_person (4 : Int32) σ) fun q173 => (if q173.1 = (-102 : Int32) then (Option.bind (fX8_know (0 : Int32) (0 : Int32) (1 : Int32) q173.2) fun q175 => (if q175.1 = (-101 : Int32) then (grd (inb (0 : Int32) 27) (Option.bind (fX8_know (0 : Int32) (q175.2.1 60 (0 : Int32).toNatClampNeg) (1 : Int32) q175.2) fun q178 => (if q178.1 = (-101 : Int32) then (Option.bind (fX8_like (1 : Int32) (1 : Int32) (0 : Int32) q178.2) fun q180 => (if q180.1 = (-101 : Int32) then (Option.bind (fX8_like (0 : Int32) (1 : Int32) (10 : Int32) q180.2) fun q182 => (if q182.1 = (-102 : Int32) then (grd (inb (0 : Int32) 27) (Option.bind (fX8_about (q182.2.1 60 (0 : Int32).toNatClampNeg) (0 : Int32) q182.2) fun q185 => (if q185 = (-101 : Int32) then (Option.bind (fX8_about (0 : Int32) (4 : Int32) q182.2) fun q187 => (if q187 = (-102 : Int32) then (Option.bind (fX8_owes (0 : Int32) (0 : Int32) q182.2) fun q189 => (if q189 = (-101 : Int32) then (grd (inb (0 : Int32) 27) (Option.bind (fX8_rest (q182.2.1 60 (0 : Int32).toNatClampNeg) q182.2) fun q192 => (if q192 = (-100001 : Int32) then (Option.bind (fX8_gift (5 : Int32) (0 : Int32) q182.2) fun q194 => (if q194.1 = (-102 : Int32) then (grd (inb (0 : Int32) 27) (Option.bind (fX8_gift (0 : Int32) (q194.2.1 60 (0 : Int32).toNatClampNeg) q194.2) fun q197 => (if q197.1 = (-101 : Int32) then (grd (inb (25 : Int32) 27) (Option.bind (fX8_told (q197.2.1 60 (25 : Int32).toNatClampNeg) (0 : Int32) q197.2) fun q200 => (if q200 = (-101 : Int32) then (Option.bind (fX8_told (0 : Int32) (9 : Int32) q197.2) fun q202 => (if q202 = (-102 : Int32) then (grd (inb (25 : Int32) 27) (Option.bind (fX8_as (q197.2.1 60 (25 : Int32).toNatClampNeg) (0 : Int32) q197.2) fun q205 => (if q205 = (-101 : Int32) then (Option.bind (fX8_as (0 : Int32) (5 : Int32) q197.2) fun q207 => (if q207 = (-102 : Int32) then (Option.bind (fX8_may (-1 : Int32) q197.2) fun q209 => (if q209 = (-101 : Int32) then (grd (inb (0 : Int32) 27) (Option.bind (fX8_give (0 : Int32) (q197.2.1 60 (0 : Int32).toNatClampNeg) q197.2) fun q212 => (if q212.1 = (-101 : Int32) then (grd (inb (25 : Int32) 27) (Option.bind (fX8_give (q212.2.1 60 (25 : Int32).toNatClampNeg) (0 : Int32) q212.2) fun q215 => (if q215.1 = (-101 : Int32) then (Option.bind (fX8_years (0 : Int32) q215.2) fun q217 => (if q217.1 = (-102 : Int32) then (Option.bind (fX8_years (31 : Int32) q217.2) fun q219 => (if q219.1 = (-102 : Int32) then (Option.bind (fX8_drawn (0 : Int32) (0 : Int32) (0 : Int32) q219.2) fun q221 => (if q221.1 = (-102 : Int32) then (Option.bind (fX8_drawn (1 : Int32) (-1 : Int32) (0 : Int32) q221.2) fun q223 => (if q223.1 = (-102 : Int32) then (Option.bind (fX8_drawn (1 : Int32) (0 : Int32) (4 : Int32) q223.2) fun q225 => (if q225.1 = (-102 : Int32) then some (1 : Int32) else some (0 : Int32))) else some (0 : Int32))) else some (0 : Int32))) else some (0 : Int32))) else some (0 : Int32))) else some (0 : Int32)))) else some (0 : Int32)))) else some (0 : Int32))) else some (0 : Int32))) else some (0 : Int32)))) else some (0 : Int32))) else some (0 : Int32)))) else some (0 : Int32)))) else some (0 : Int32))) else some (0 : Int32)))) else some (0 : Int32))) else some (0 : Int32))) else some (0 : Int32)))) else some (0 : Int32))) else some (0 : Int32))) else some (0 : Int32)))) else some (0 : Int32))) else some (0 : Int32))) else some (0 : Int32))
theorem endT {B P G : Nat} {σ : St} (h : Tp B P G σ) : endX σ = some 1 := by
  obtain ⟨hW, hR, h2, hG1⟩ := h
  obtain ⟨⟨hP, hG⟩, ⟨p0, p1⟩, ⟨g0, g1⟩, -⟩ := hW
  have iz : fX8_isPerson (0 : Int32) σ = 1 := isP1 p0 hP (show 0 < P by omega)
  have i1 : fX8_isPerson (1 : Int32) σ = 1 := isP1 p0 hP (show 1 < P by omega)
  have iP : fX8_isPerson (nI P) σ = 0 := isP0 p0 hP
  have jz : fX8_isGift (0 : Int32) σ = 1 := isG1 g0 hG (show 0 < G by omega)
  have jG : fX8_isGift (nI G) σ = 0 := isG0 g0 hG
  have jm : fX8_isGift (-1 : Int32) σ = 0 := rfl
  have a00 : fX8_areTwo (0 : Int32) (0 : Int32) σ = 0 := by unfold fX8_areTwo; rw [iz]; rfl
  have a11 : fX8_areTwo (1 : Int32) (1 : Int32) σ = 0 := by unfold fX8_areTwo; rw [i1]; rfl
  have a01 : fX8_areTwo (0 : Int32) (1 : Int32) σ = 1 := by unfold fX8_areTwo; rw [iz, i1]; rfl
  have a0P : fX8_areTwo (0 : Int32) (nI P) σ = 0 := by unfold fX8_areTwo; rw [iz, iP]; rfl
  have c1 : fX8_lawTold (4 : Int32) σ = -102 := rfl
  have c2 : fX8_person (4 : Int32) σ = some (-102, σ) := rfl
  have c3 : fX8_know (0 : Int32) (0 : Int32) (1 : Int32) σ = some (-101, σ) := by unfold fX8_know; rw [a00, if_pos rfl]
  have c4 : fX8_know (0 : Int32) (nI P) (1 : Int32) σ = some (-101, σ) := by unfold fX8_know; rw [a0P, if_pos rfl]
  have c5 : fX8_like (1 : Int32) (1 : Int32) (0 : Int32) σ = some (-101, σ) := by unfold fX8_like; rw [a11, if_pos rfl]
  have c6 : fX8_like (0 : Int32) (1 : Int32) (10 : Int32) σ = some (-102, σ) := by unfold fX8_like; rw [a01]; rfl
  have c7 : fX8_about (nI P) (0 : Int32) σ = some (-101) := by unfold fX8_about; rw [iP, if_pos rfl]
  have c8 : fX8_about (0 : Int32) (4 : Int32) σ = some (-102) := by unfold fX8_about; rw [iz]; rfl
  have c9 : fX8_owes (0 : Int32) (0 : Int32) σ = some (-101) := by unfold fX8_owes; rw [a00, if_pos rfl]
  have d1 : fX8_rest (nI P) σ = some (-100001) := by unfold fX8_rest; rw [iP, if_pos rfl]
  have d2 : fX8_gift (5 : Int32) (0 : Int32) σ = some (-102, σ) := rfl
  have d3 : fX8_gift (0 : Int32) (nI P) σ = some (-101, σ) := by unfold fX8_gift; rw [iP]; rfl
  have d4 : fX8_told (nI G) (0 : Int32) σ = some (-101) := by unfold fX8_told; rw [jG, if_pos rfl]
  have d5 : fX8_told (0 : Int32) (9 : Int32) σ = some (-102) := by unfold fX8_told; rw [jz]; rfl
  have d6 : fX8_as (nI G) (0 : Int32) σ = some (-101) := by unfold fX8_as; rw [jG, if_pos rfl]
  have d7 : fX8_as (0 : Int32) (5 : Int32) σ = some (-102) := by unfold fX8_as; rw [jz]; rfl
  have d8 : fX8_may (-1 : Int32) σ = some (-101) := by unfold fX8_may; rw [jm, if_pos rfl]
  have d9 : fX8_give (0 : Int32) (nI P) σ = some (-101, σ) := by unfold fX8_give; rw [jz, iP]; rfl
  have e1 : fX8_give (nI G) (0 : Int32) σ = some (-101, σ) := by unfold fX8_give; rw [jG, if_pos rfl]
  have e2 : fX8_years (0 : Int32) σ = some (-102, σ) := rfl
  have e3 : fX8_years (31 : Int32) σ = some (-102, σ) := rfl
  have e4 : fX8_drawn (0 : Int32) (0 : Int32) (0 : Int32) σ = some (-102, σ) := rfl
  have e5 : fX8_drawn (1 : Int32) (-1 : Int32) (0 : Int32) σ = some (-102, σ) := rfl
  have e6 : fX8_drawn (1 : Int32) (0 : Int32) (4 : Int32) σ = some (-102, σ) := rfl
  have n0 : (0 : Int32).toNatClampNeg = 0 := rfl
  have n25 : (25 : Int32).toNatClampNeg = 25 := rfl
  have gz : ∀ x : Option Int32, grd (inb (0 : Int32) 27) x = x := fun x => grd_t (by decide)
  have gt : ∀ x : Option Int32, grd (inb (25 : Int32) 27) x = x := fun x => grd_t (by decide)
  unfold endX
  rw [n0, n25, if_pos c1, c2]
  simp only [obs, if_true]
  rw [c3]
  simp only [obs, if_true]
  first | rw [gz, p1, c4] | rw [gz, c4]
  simp only [obs, if_true]
  rw [c5]
  simp only [obs, if_true]
  rw [c6]
  simp only [obs, if_true]
  first | rw [gz, p1, c7] | rw [gz, c7]
  simp only [obs, if_true]
  rw [c8]
  simp only [obs, if_true]
  rw [c9]
  simp only [obs, if_true]
  first | rw [gz, p1, d1] | rw [gz, d1]
  simp only [obs, if_true]
  rw [d2]
  simp only [obs, if_true]
  first | rw [gz, p1, d3] | rw [gz, d3]
  simp only [obs, if_true]
  first | rw [gt, g1, d4] | rw [gt, d4]
  simp only [obs, if_true]
  rw [d5]
  simp only [obs, if_true]
  first | rw [gt, g1, d6] | rw [gt, d6]
  simp only [obs, if_true]
  rw [d7]
  simp only [obs, if_true]
  rw [d8]
  simp only [obs, if_true]
  first | rw [gz, p1, d9] | rw [gz, d9]
  simp only [obs, if_true]
  first | rw [gt, g1, e1] | rw [gt, e1]
  simp only [obs, if_true]
  rw [e2]
  simp only [obs, if_true]
  rw [e3]
  simp only [obs, if_true]
  rw [e4]
  simp only [obs, if_true]
  rw [e5]
  simp only [obs, if_true]
  rw [e6]
  simp only [obs, if_true]
