section AM
variable {K : Nat → Prop} {B : JX} {e : Nat} {M : MI} {pc : Nat} {loc : List (Nat × Value)} {stk : List Value} {σ : St}
def ML (own : String) (ix : Nat) (y : MethodName) (b : ByteArray) : Prop := Cond.methodLink own ix y ∈ aT ∧ Cond.static y ∈ aT ∧ Cond.initialized "java/lang/Math" ∈ aT ∧ Cond.code y b 2 (some .int) ∈ aT
theorem a_mmax {ix : Nat} {x y : Int32} (hf : ML M.1.cls ix Lib.Math.max.name Lib.Math.max.code) (hw : (stk.map fun v => v.category).sum ≤ 8) (hd : decode M.2.1 pc = .ok (.invokestatic ix, 3)) (kk : J K B (e + 1) M (pc + 3) loc (.int (if x < y then y else x) :: stk) σ) : J K B (e + 1) M pc loc (.int y :: .int x :: stk) σ := by
  intro l D C ad nN S p ev R s m args below meth c A0 H locs ls X hA Y hl
  obtain ⟨hx, hbb, hml, hr, hlk, hown, hts, hK, hf1, hf2, hKn, hB, hSc, hTh⟩ := id X
  obtain ⟨w1, w2, w3, w4⟩ := hf
  refine va_mmax hx hbb (hml.trans hl.1.symm) hown (hts _ w1) (hts _ w2) (hts _ w3) (hts _ w4) (by omega) (by rw [cat_map]; omega) hB.1 hB.2 hd ?_
  exact kk l D C ad nN S p ev R s m args below meth c A0 H locs ls X hA Y hl
theorem a_mmin {ix : Nat} {x y : Int32} (hf : ML M.1.cls ix Lib.Math.min.name Lib.Math.min.code) (hw : (stk.map fun v => v.category).sum ≤ 8) (hd : decode M.2.1 pc = .ok (.invokestatic ix, 3)) (kk : J K B (e + 1) M (pc + 3) loc (.int (if y < x then y else x) :: stk) σ) : J K B (e + 1) M pc loc (.int y :: .int x :: stk) σ := by
  intro l D C ad nN S p ev R s m args below meth c A0 H locs ls X hA Y hl
  obtain ⟨hx, hbb, hml, hr, hlk, hown, hts, hK, hf1, hf2, hKn, hB, hSc, hTh⟩ := id X
  obtain ⟨w1, w2, w3, w4⟩ := hf
  refine va_mmin hx hbb (hml.trans hl.1.symm) hown (hts _ w1) (hts _ w2) (hts _ w3) (hts _ w4) (by omega) (by rw [cat_map]; omega) hB.1 hB.2 hd ?_
  exact kk l D C ad nN S p ev R s m args below meth c A0 H locs ls X hA Y hl
end AM
theorem ml_X3_36 : ML RX3 36 Lib.Math.max.name Lib.Math.max.code := ⟨aT_in 362 (by decide +kernel) rfl, aT_in 363 (by decide +kernel) rfl, aT_in 16 (by decide +kernel) rfl, aT_in 364 (by decide +kernel) rfl⟩
theorem ml_X3_42 : ML RX3 42 Lib.Math.min.name Lib.Math.min.code := ⟨aT_in 365 (by decide +kernel) rfl, aT_in 366 (by decide +kernel) rfl, aT_in 16 (by decide +kernel) rfl, aT_in 367 (by decide +kernel) rfl⟩
