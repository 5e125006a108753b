/-! the law's 32 cases, out of its bytecode by a program (wip/whole/gen/law.py) -/
section LK
variable {l : Launch} {D : va_G} {C : CT} {ad : Nat → Nat} {p : Program} {ev : Env} {s : State} {m : MethodId} {b L : Nat} {xs : Nat → Int32} {below : List Frame} {meth : Method} {c : Code} {σ : St}
theorem l_nz {x : Int32} {lv : List (Nat × Value)} {st : List Value} {pc pc0 : Nat} (X : LC D C p s m b L xs meth c) (hd : decode code pc = .ok (.ifCond .eq 7, 3)) (d1 : decode code (pc + 3) = .ok (.iconst 1, 1)) (d2 : decode code (pc + 4) = .ok (.goto 4, 3)) (d3 : decode code (pc + 7) = .ok (.iconst 0, 1)) (hp : pc + 8 = pc0) (kk : LW l D C ad p ev s m b below meth c pc0 lv (.int (if x = 0 then 0 else 1) :: st) σ) : LW l D C ad p ev s m b below meth c pc lv (.int x :: st) σ := by
  subst hp
  refine l_ifeq (pc + 7) X hd (by omega) (fun z => ?_) (fun z => ?_)
  · rw [if_pos z] at kk
    exact l_iconst 0 X d3 (by decide) kk
  · rw [if_neg z] at kk
    refine l_iconst 1 X d1 (by decide) ?_
    exact l_goto (pc + 8) X d2 (by omega) kk
set_option maxRecDepth 20000 in
set_option maxHeartbeats 1000000 in
/-- letters -/
theorem lc_0 {i0 : Nat} (X : LC D C p s m b L xs meth c) (hi : i0 + 4 ≤ L) (hR : Rel σ σ) (K : ∀ σ' : St, Rel σ' σ' → LW l D C ad p ev s m b below meth c 1070 (lvI ad b (nI i0)) [] σ') : LW l D C ad p ev s m b below meth c 176 (lvI ad b (nI i0)) [] σ := by
  obtain ⟨r, τ, τ', e1, e2, h3⟩ := tA (f8 := fX8_letters (((xs (i0 + 1)).toInt64 <<< ((32 : Int32).toInt64 &&& 63)) ||| ((xs (i0 + 2)).toInt64 &&& 4294967295))) (f9 := fX9_letters (((xs (i0 + 1)).toInt64 <<< ((32 : Int32).toInt64 &&& 63)) ||| ((xs (i0 + 2)).toInt64 &&& 4294967295))) (fun h => s_letters (((xs (i0 + 1)).toInt64 <<< ((32 : Int32).toInt64 &&& 63)) ||| ((xs (i0 + 2)).toInt64 &&& 4294967295)) h) (fun σ q e => ⟨_, frX8_letters (((xs (i0 + 1)).toInt64 <<< ((32 : Int32).toInt64 &&& 63)) ||| ((xs (i0 + 2)).toInt64 &&& 4294967295)) σ q e, by decide⟩) (fun σ q e => ⟨_, frX9_letters (((xs (i0 + 1)).toInt64 <<< ((32 : Int32).toInt64 &&& 63)) ||| ((xs (i0 + 2)).toInt64 &&& 4294967295)) σ q e, by decide⟩) hR
  refine l_aload X dL_law_176 rfl 2 rfl ?_
  refine l_arg (k := 1) (pc0 := 182) X (by omega) rfl dL_law_177 dL_law_178 dL_law_179 dL_law_180 dL_law_181 rfl ?_
  refine l_i2l X dL_law_182 ?_
  refine l_bipush 32 X dL_law_183 (by decide) ?_
  refine l_lshl X dL_law_185 ?_
  refine l_arg (k := 2) (pc0 := 191) X (by omega) rfl dL_law_186 dL_law_187 dL_law_188 dL_law_189 dL_law_190 rfl ?_
  refine l_i2l X dL_law_191 ?_
  refine l_ldc2 (v := 4294967295) X (List.mem_of_getElem? (i := 1168) (by decide +kernel)) dL_law_192 ?_
  refine l_land X dL_law_195 ?_
  refine l_lor X dL_law_196 ?_
  refine l_call (i := 0) (as := [.long (((xs (i0 + 1)).toInt64 <<< ((32 : Int32).toInt64 &&& 63)) ||| ((xs (i0 + 2)).toInt64 &&& 4294967295))]) (v := .int r) (σ1 := τ) (rest := []) (pc0 := 200) X (kX8_letters 0 (((xs (i0 + 1)).toInt64 <<< ((32 : Int32).toInt64 &&& 63)) ||| ((xs (i0 + 2)).toInt64 &&& 4294967295)) σ (r, τ) e1) ob_0 vl_L_15 rfl (by decide) rfl (Nat.le_of_ble_eq_true rfl) dL_law_197 rfl rfl rfl ?_
  refine l_aload X dL_law_200 rfl 1 rfl ?_
  refine l_arg (k := 1) (pc0 := 206) X (by omega) rfl dL_law_201 dL_law_202 dL_law_203 dL_law_204 dL_law_205 rfl ?_
  refine l_i2l X dL_law_206 ?_
  refine l_bipush 32 X dL_law_207 (by decide) ?_
  refine l_lshl X dL_law_209 ?_
  refine l_arg (k := 2) (pc0 := 215) X (by omega) rfl dL_law_210 dL_law_211 dL_law_212 dL_law_213 dL_law_214 rfl ?_
  refine l_i2l X dL_law_215 ?_
  refine l_ldc2 (v := 4294967295) X (List.mem_of_getElem? (i := 1168) (by decide +kernel)) dL_law_216 ?_
  refine l_land X dL_law_219 ?_
  refine l_lor X dL_law_220 ?_
  refine l_call (i := 58) (as := [.long (((xs (i0 + 1)).toInt64 <<< ((32 : Int32).toInt64 &&& 63)) ||| ((xs (i0 + 2)).toInt64 &&& 4294967295))]) (v := .int r) (σ1 := τ') (rest := [.int r]) (pc0 := 224) X (kX9_letters 0 (((xs (i0 + 1)).toInt64 <<< ((32 : Int32).toInt64 &&& 63)) ||| ((xs (i0 + 2)).toInt64 &&& 4294967295)) τ (r, τ') e2) ob_58 vl_L_19 rfl (by decide) rfl (Nat.le_of_ble_eq_true rfl) dL_law_221 rfl rfl rfl ?_
  refine l_same 1070 X dL_law_224 (by decide) ?_
  exact K τ' h3
set_option maxRecDepth 20000 in
set_option maxHeartbeats 1000000 in
/-- blank -/
theorem lc_1 {i0 : Nat} (X : LC D C p s m b L xs meth c) (hi : i0 + 4 ≤ L) (hR : Rel σ σ) (K : ∀ σ' : St, Rel σ' σ' → LW l D C ad p ev s m b below meth c 1070 (lvI ad b (nI i0)) [] σ') : LW l D C ad p ev s m b below meth c 229 (lvI ad b (nI i0)) [] σ := by
  obtain ⟨r, τ, τ', e1, e2, h3⟩ := tA (f8 := fX8_blank) (f9 := fX9_blank) (fun h => s_blank h) (fun σ q e => ⟨_, frX8_blank σ q e, by decide⟩) (fun σ q e => ⟨_, frX9_blank σ q e, by decide⟩) hR
  refine l_aload X dL_law_229 rfl 2 rfl ?_
  refine l_call (i := 0) (as := []) (v := .int r) (σ1 := τ) (rest := []) (pc0 := 233) X (kX8_blank 0 σ (r, τ) e1) ob_0 vl_L_20 rfl (by decide) rfl (Nat.le_of_ble_eq_true rfl) dL_law_230 rfl rfl rfl ?_
  refine l_aload X dL_law_233 rfl 1 rfl ?_
  refine l_call (i := 58) (as := []) (v := .int r) (σ1 := τ') (rest := [.int r]) (pc0 := 237) X (kX9_blank 0 τ (r, τ') e2) ob_58 vl_L_24 rfl (by decide) rfl (Nat.le_of_ble_eq_true rfl) dL_law_234 rfl rfl rfl ?_
  refine l_same 1070 X dL_law_237 (by decide) ?_
  exact K τ' h3
set_option maxRecDepth 20000 in
set_option maxHeartbeats 1000000 in
/-- fault -/
theorem lc_2 {i0 : Nat} (X : LC D C p s m b L xs meth c) (hi : i0 + 4 ≤ L) (hR : Rel σ σ) (K : ∀ σ' : St, Rel σ' σ' → LW l D C ad p ev s m b below meth c 1070 (lvI ad b (nI i0)) [] σ') : LW l D C ad p ev s m b below meth c 242 (lvI ad b (nI i0)) [] σ := by
  obtain ⟨r, τ', e1, e2, h3⟩ := tB (f8 := fX8_fault) (f9 := fX9_fault) (fun h => s_fault h) (fun σ q e => ⟨_, frX9_fault σ q e, by decide⟩) hR
  refine l_aload X dL_law_242 rfl 2 rfl ?_
  refine l_call (i := 0) (as := []) (v := .int r) (σ1 := σ) (rest := []) (pc0 := 246) X (kX8_fault 0 σ r e1) ob_0 vl_L_25 rfl (by decide) rfl (Nat.le_of_ble_eq_true rfl) dL_law_243 rfl rfl rfl ?_
  refine l_aload X dL_law_246 rfl 1 rfl ?_
  refine l_call (i := 58) (as := []) (v := .int r) (σ1 := τ') (rest := [.int r]) (pc0 := 250) X (kX9_fault 0 σ (r, τ') e2) ob_58 vl_L_28 rfl (by decide) rfl (Nat.le_of_ble_eq_true rfl) dL_law_247 rfl rfl rfl ?_
  refine l_same 1070 X dL_law_250 (by decide) ?_
  exact K τ' h3
set_option maxRecDepth 20000 in
set_option maxHeartbeats 1000000 in
/-- law -/
theorem lc_3 {i0 : Nat} (X : LC D C p s m b L xs meth c) (hi : i0 + 4 ≤ L) (hR : Rel σ σ) (K : ∀ σ' : St, Rel σ' σ' → LW l D C ad p ev s m b below meth c 1070 (lvI ad b (nI i0)) [] σ') : LW l D C ad p ev s m b below meth c 255 (lvI ad b (nI i0)) [] σ := by
  obtain ⟨r, τ, τ', e1, e2, h3⟩ := tA (f8 := fX8_law) (f9 := fX9_law) (fun h => s_law h) (fun σ q e => ⟨_, frX8_law σ q e, by decide⟩) (fun σ q e => ⟨_, frX9_law σ q e, by decide⟩) hR
  refine l_aload X dL_law_255 rfl 2 rfl ?_
  refine l_call (i := 0) (as := []) (v := .int r) (σ1 := τ) (rest := []) (pc0 := 259) X (kX8_law 0 σ (r, τ) e1) ob_0 vl_L_29 rfl (by decide) rfl (Nat.le_of_ble_eq_true rfl) dL_law_256 rfl rfl rfl ?_
  refine l_aload X dL_law_259 rfl 1 rfl ?_
  refine l_call (i := 58) (as := []) (v := .int r) (σ1 := τ') (rest := [.int r]) (pc0 := 263) X (kX9_law 0 τ (r, τ') e2) ob_58 vl_L_32 rfl (by decide) rfl (Nat.le_of_ble_eq_true rfl) dL_law_260 rfl rfl rfl ?_
  refine l_same 1070 X dL_law_263 (by decide) ?_
  exact K τ' h3
set_option maxRecDepth 20000 in
set_option maxHeartbeats 1000000 in
/-- lawTold -/
theorem lc_4 {i0 : Nat} (X : LC D C p s m b L xs meth c) (hi : i0 + 4 ≤ L) (hR : Rel σ σ) (K : ∀ σ' : St, Rel σ' σ' → LW l D C ad p ev s m b below meth c 1070 (lvI ad b (nI i0)) [] σ') : LW l D C ad p ev s m b below meth c 268 (lvI ad b (nI i0)) [] σ := by
  obtain ⟨P, G, hRR⟩ := id hR
  have e1 : fX9_lawTold (xs (i0 + 1)) σ = fX8_lawTold (xs (i0 + 1)) σ := (lawTold2 hRR.1 (xs (i0 + 1))).symm
  have k9 := kX9_lawTold 0 (xs (i0 + 1)) σ
  rw [e1] at k9
  refine l_aload X dL_law_268 rfl 2 rfl ?_
  refine l_arg (k := 1) (pc0 := 274) X (by omega) rfl dL_law_269 dL_law_270 dL_law_271 dL_law_272 dL_law_273 rfl ?_
  refine l_call (i := 0) (as := [.int (xs (i0 + 1))]) (v := .int (fX8_lawTold (xs (i0 + 1)) σ)) (σ1 := σ) (rest := []) (pc0 := 277) X (kX8_lawTold 0 (xs (i0 + 1)) σ) ob_0 vl_L_33 rfl (by decide) rfl (Nat.le_of_ble_eq_true rfl) dL_law_274 rfl rfl rfl ?_
  refine l_aload X dL_law_277 rfl 1 rfl ?_
  refine l_arg (k := 1) (pc0 := 283) X (by omega) rfl dL_law_278 dL_law_279 dL_law_280 dL_law_281 dL_law_282 rfl ?_
  refine l_call (i := 58) (as := [.int (xs (i0 + 1))]) (v := .int (fX8_lawTold (xs (i0 + 1)) σ)) (σ1 := σ) (rest := [.int (fX8_lawTold (xs (i0 + 1)) σ)]) (pc0 := 286) X (k9) ob_58 vl_L_37 rfl (by decide) rfl (Nat.le_of_ble_eq_true rfl) dL_law_283 rfl rfl rfl ?_
  refine l_same 1070 X dL_law_286 (by decide) ?_
  exact K σ hR
set_option maxRecDepth 20000 in
set_option maxHeartbeats 1000000 in
/-- person -/
theorem lc_5 {i0 : Nat} (X : LC D C p s m b L xs meth c) (hi : i0 + 4 ≤ L) (hR : Rel σ σ) (K : ∀ σ' : St, Rel σ' σ' → LW l D C ad p ev s m b below meth c 1070 (lvI ad b (nI i0)) [] σ') : LW l D C ad p ev s m b below meth c 291 (lvI ad b (nI i0)) [] σ := by
  obtain ⟨r, τ, τ', e1, e2, h3⟩ := tA (f8 := fX8_person (xs (i0 + 1))) (f9 := fX9_person (xs (i0 + 1))) (fun h => s_person (xs (i0 + 1)) h) (fun σ q e => ⟨_, frX8_person (xs (i0 + 1)) σ q e, by decide⟩) (fun σ q e => ⟨_, frX9_person (xs (i0 + 1)) σ q e, by decide⟩) hR
  refine l_aload X dL_law_291 rfl 2 rfl ?_
  refine l_arg (k := 1) (pc0 := 297) X (by omega) rfl dL_law_292 dL_law_293 dL_law_294 dL_law_295 dL_law_296 rfl ?_
  refine l_call (i := 0) (as := [.int (xs (i0 + 1))]) (v := .int r) (σ1 := τ) (rest := []) (pc0 := 300) X (kX8_person 0 (xs (i0 + 1)) σ (r, τ) e1) ob_0 vl_L_38 rfl (by decide) rfl (Nat.le_of_ble_eq_true rfl) dL_law_297 rfl rfl rfl ?_
  refine l_aload X dL_law_300 rfl 1 rfl ?_
  refine l_arg (k := 1) (pc0 := 306) X (by omega) rfl dL_law_301 dL_law_302 dL_law_303 dL_law_304 dL_law_305 rfl ?_
  refine l_call (i := 58) (as := [.int (xs (i0 + 1))]) (v := .int r) (σ1 := τ') (rest := [.int r]) (pc0 := 309) X (kX9_person 0 (xs (i0 + 1)) τ (r, τ') e2) ob_58 vl_L_41 rfl (by decide) rfl (Nat.le_of_ble_eq_true rfl) dL_law_306 rfl rfl rfl ?_
  refine l_same 1070 X dL_law_309 (by decide) ?_
  exact K τ' h3
set_option maxRecDepth 20000 in
set_option maxHeartbeats 1000000 in
/-- know -/
theorem lc_6 {i0 : Nat} (X : LC D C p s m b L xs meth c) (hi : i0 + 4 ≤ L) (hR : Rel σ σ) (K : ∀ σ' : St, Rel σ' σ' → LW l D C ad p ev s m b below meth c 1070 (lvI ad b (nI i0)) [] σ') : LW l D C ad p ev s m b below meth c 314 (lvI ad b (nI i0)) [] σ := by
  obtain ⟨r, τ, τ', e1, e2, h3⟩ := tA (f8 := fX8_know (xs (i0 + 1)) (xs (i0 + 2)) (if (xs (i0 + 3)) = 0 then 0 else 1)) (f9 := fX9_know (xs (i0 + 1)) (xs (i0 + 2)) (if (xs (i0 + 3)) = 0 then 0 else 1)) (fun h => s_know (xs (i0 + 1)) (xs (i0 + 2)) (if (xs (i0 + 3)) = 0 then 0 else 1) h) (fun σ q e => ⟨_, frX8_know (xs (i0 + 1)) (xs (i0 + 2)) (if (xs (i0 + 3)) = 0 then 0 else 1) σ q e, by decide⟩) (fun σ q e => ⟨_, frX9_know (xs (i0 + 1)) (xs (i0 + 2)) (if (xs (i0 + 3)) = 0 then 0 else 1) σ q e, by decide⟩) hR
  refine l_aload X dL_law_314 rfl 2 rfl ?_
  refine l_arg (k := 1) (pc0 := 320) X (by omega) rfl dL_law_315 dL_law_316 dL_law_317 dL_law_318 dL_law_319 rfl ?_
  refine l_arg (k := 2) (pc0 := 325) X (by omega) rfl dL_law_320 dL_law_321 dL_law_322 dL_law_323 dL_law_324 rfl ?_
  refine l_arg (k := 3) (pc0 := 330) X (by omega) rfl dL_law_325 dL_law_326 dL_law_327 dL_law_328 dL_law_329 rfl ?_
  refine l_nz (pc0 := 338) X dL_law_330 dL_law_333 dL_law_334 dL_law_337 rfl ?_
  refine l_call (i := 0) (as := [.int (xs (i0 + 1)), .int (xs (i0 + 2)), .int (if (xs (i0 + 3)) = 0 then 0 else 1)]) (v := .int r) (σ1 := τ) (rest := []) (pc0 := 341) X (kX8_know 0 (xs (i0 + 1)) (xs (i0 + 2)) (if (xs (i0 + 3)) = 0 then 0 else 1) σ (r, τ) e1) ob_0 vl_L_42 rfl (by decide) rfl (Nat.le_of_ble_eq_true rfl) dL_law_338 rfl rfl rfl ?_
  refine l_aload X dL_law_341 rfl 1 rfl ?_
  refine l_arg (k := 1) (pc0 := 347) X (by omega) rfl dL_law_342 dL_law_343 dL_law_344 dL_law_345 dL_law_346 rfl ?_
  refine l_arg (k := 2) (pc0 := 352) X (by omega) rfl dL_law_347 dL_law_348 dL_law_349 dL_law_350 dL_law_351 rfl ?_
  refine l_arg (k := 3) (pc0 := 357) X (by omega) rfl dL_law_352 dL_law_353 dL_law_354 dL_law_355 dL_law_356 rfl ?_
  refine l_nz (pc0 := 365) X dL_law_357 dL_law_360 dL_law_361 dL_law_364 rfl ?_
  refine l_call (i := 58) (as := [.int (xs (i0 + 1)), .int (xs (i0 + 2)), .int (if (xs (i0 + 3)) = 0 then 0 else 1)]) (v := .int r) (σ1 := τ') (rest := [.int r]) (pc0 := 368) X (kX9_know 0 (xs (i0 + 1)) (xs (i0 + 2)) (if (xs (i0 + 3)) = 0 then 0 else 1) τ (r, τ') e2) ob_58 vl_L_46 rfl (by decide) rfl (Nat.le_of_ble_eq_true rfl) dL_law_365 rfl rfl rfl ?_
  refine l_same 1070 X dL_law_368 (by decide) ?_
  exact K τ' h3
set_option maxRecDepth 20000 in
set_option maxHeartbeats 1000000 in
/-- like -/
theorem lc_7 {i0 : Nat} (X : LC D C p s m b L xs meth c) (hi : i0 + 4 ≤ L) (hR : Rel σ σ) (K : ∀ σ' : St, Rel σ' σ' → LW l D C ad p ev s m b below meth c 1070 (lvI ad b (nI i0)) [] σ') : LW l D C ad p ev s m b below meth c 373 (lvI ad b (nI i0)) [] σ := by
  obtain ⟨r, τ, τ', e1, e2, h3⟩ := tA (f8 := fX8_like (xs (i0 + 1)) (xs (i0 + 2)) (xs (i0 + 3))) (f9 := fX9_like (xs (i0 + 1)) (xs (i0 + 2)) (xs (i0 + 3))) (fun h => s_like (xs (i0 + 1)) (xs (i0 + 2)) (xs (i0 + 3)) h) (fun σ q e => ⟨_, frX8_like (xs (i0 + 1)) (xs (i0 + 2)) (xs (i0 + 3)) σ q e, by decide⟩) (fun σ q e => ⟨_, frX9_like (xs (i0 + 1)) (xs (i0 + 2)) (xs (i0 + 3)) σ q e, by decide⟩) hR
  refine l_aload X dL_law_373 rfl 2 rfl ?_
  refine l_arg (k := 1) (pc0 := 379) X (by omega) rfl dL_law_374 dL_law_375 dL_law_376 dL_law_377 dL_law_378 rfl ?_
  refine l_arg (k := 2) (pc0 := 384) X (by omega) rfl dL_law_379 dL_law_380 dL_law_381 dL_law_382 dL_law_383 rfl ?_
  refine l_arg (k := 3) (pc0 := 389) X (by omega) rfl dL_law_384 dL_law_385 dL_law_386 dL_law_387 dL_law_388 rfl ?_
  refine l_call (i := 0) (as := [.int (xs (i0 + 1)), .int (xs (i0 + 2)), .int (xs (i0 + 3))]) (v := .int r) (σ1 := τ) (rest := []) (pc0 := 392) X (kX8_like 0 (xs (i0 + 1)) (xs (i0 + 2)) (xs (i0 + 3)) σ (r, τ) e1) ob_0 vl_L_47 rfl (by decide) rfl (Nat.le_of_ble_eq_true rfl) dL_law_389 rfl rfl rfl ?_
  refine l_aload X dL_law_392 rfl 1 rfl ?_
  refine l_arg (k := 1) (pc0 := 398) X (by omega) rfl dL_law_393 dL_law_394 dL_law_395 dL_law_396 dL_law_397 rfl ?_
  refine l_arg (k := 2) (pc0 := 403) X (by omega) rfl dL_law_398 dL_law_399 dL_law_400 dL_law_401 dL_law_402 rfl ?_
  refine l_arg (k := 3) (pc0 := 408) X (by omega) rfl dL_law_403 dL_law_404 dL_law_405 dL_law_406 dL_law_407 rfl ?_
  refine l_call (i := 58) (as := [.int (xs (i0 + 1)), .int (xs (i0 + 2)), .int (xs (i0 + 3))]) (v := .int r) (σ1 := τ') (rest := [.int r]) (pc0 := 411) X (kX9_like 0 (xs (i0 + 1)) (xs (i0 + 2)) (xs (i0 + 3)) τ (r, τ') e2) ob_58 vl_L_51 rfl (by decide) rfl (Nat.le_of_ble_eq_true rfl) dL_law_408 rfl rfl rfl ?_
  refine l_same 1070 X dL_law_411 (by decide) ?_
  exact K τ' h3
set_option maxRecDepth 20000 in
set_option maxHeartbeats 1000000 in
/-- about -/
theorem lc_8 {i0 : Nat} (X : LC D C p s m b L xs meth c) (hi : i0 + 4 ≤ L) (hR : Rel σ σ) (K : ∀ σ' : St, Rel σ' σ' → LW l D C ad p ev s m b below meth c 1070 (lvI ad b (nI i0)) [] σ') : LW l D C ad p ev s m b below meth c 416 (lvI ad b (nI i0)) [] σ := by
  obtain ⟨r, e1, e2⟩ := s_about (xs (i0 + 1)) (xs (i0 + 2)) hR
  refine l_aload X dL_law_416 rfl 2 rfl ?_
  refine l_arg (k := 1) (pc0 := 422) X (by omega) rfl dL_law_417 dL_law_418 dL_law_419 dL_law_420 dL_law_421 rfl ?_
  refine l_arg (k := 2) (pc0 := 427) X (by omega) rfl dL_law_422 dL_law_423 dL_law_424 dL_law_425 dL_law_426 rfl ?_
  refine l_call (i := 0) (as := [.int (xs (i0 + 1)), .int (xs (i0 + 2))]) (v := .int r) (σ1 := σ) (rest := []) (pc0 := 430) X (kX8_about 0 (xs (i0 + 1)) (xs (i0 + 2)) σ r e1) ob_0 vl_L_52 rfl (by decide) rfl (Nat.le_of_ble_eq_true rfl) dL_law_427 rfl rfl rfl ?_
  refine l_aload X dL_law_430 rfl 1 rfl ?_
  refine l_arg (k := 1) (pc0 := 436) X (by omega) rfl dL_law_431 dL_law_432 dL_law_433 dL_law_434 dL_law_435 rfl ?_
  refine l_arg (k := 2) (pc0 := 441) X (by omega) rfl dL_law_436 dL_law_437 dL_law_438 dL_law_439 dL_law_440 rfl ?_
  refine l_call (i := 58) (as := [.int (xs (i0 + 1)), .int (xs (i0 + 2))]) (v := .int r) (σ1 := σ) (rest := [.int r]) (pc0 := 444) X (kX9_about 0 (xs (i0 + 1)) (xs (i0 + 2)) σ r e2) ob_58 vl_L_56 rfl (by decide) rfl (Nat.le_of_ble_eq_true rfl) dL_law_441 rfl rfl rfl ?_
  refine l_same 1070 X dL_law_444 (by decide) ?_
  exact K σ hR
set_option maxRecDepth 20000 in
set_option maxHeartbeats 1000000 in
/-- owes -/
theorem lc_9 {i0 : Nat} (X : LC D C p s m b L xs meth c) (hi : i0 + 4 ≤ L) (hR : Rel σ σ) (K : ∀ σ' : St, Rel σ' σ' → LW l D C ad p ev s m b below meth c 1070 (lvI ad b (nI i0)) [] σ') : LW l D C ad p ev s m b below meth c 449 (lvI ad b (nI i0)) [] σ := by
  obtain ⟨r, e1, e2⟩ := s_owes (xs (i0 + 1)) (xs (i0 + 2)) hR
  refine l_aload X dL_law_449 rfl 2 rfl ?_
  refine l_arg (k := 1) (pc0 := 455) X (by omega) rfl dL_law_450 dL_law_451 dL_law_452 dL_law_453 dL_law_454 rfl ?_
  refine l_arg (k := 2) (pc0 := 460) X (by omega) rfl dL_law_455 dL_law_456 dL_law_457 dL_law_458 dL_law_459 rfl ?_
  refine l_call (i := 0) (as := [.int (xs (i0 + 1)), .int (xs (i0 + 2))]) (v := .int r) (σ1 := σ) (rest := []) (pc0 := 463) X (kX8_owes 0 (xs (i0 + 1)) (xs (i0 + 2)) σ r e1) ob_0 vl_L_57 rfl (by decide) rfl (Nat.le_of_ble_eq_true rfl) dL_law_460 rfl rfl rfl ?_
  refine l_aload X dL_law_463 rfl 1 rfl ?_
  refine l_arg (k := 1) (pc0 := 469) X (by omega) rfl dL_law_464 dL_law_465 dL_law_466 dL_law_467 dL_law_468 rfl ?_
  refine l_arg (k := 2) (pc0 := 474) X (by omega) rfl dL_law_469 dL_law_470 dL_law_471 dL_law_472 dL_law_473 rfl ?_
  refine l_call (i := 58) (as := [.int (xs (i0 + 1)), .int (xs (i0 + 2))]) (v := .int r) (σ1 := σ) (rest := [.int r]) (pc0 := 477) X (kX9_owes 0 (xs (i0 + 1)) (xs (i0 + 2)) σ r e2) ob_58 vl_L_60 rfl (by decide) rfl (Nat.le_of_ble_eq_true rfl) dL_law_474 rfl rfl rfl ?_
  refine l_same 1070 X dL_law_477 (by decide) ?_
  exact K σ hR
set_option maxRecDepth 20000 in
set_option maxHeartbeats 1000000 in
/-- rest -/
theorem lc_10 {i0 : Nat} (X : LC D C p s m b L xs meth c) (hi : i0 + 4 ≤ L) (hR : Rel σ σ) (K : ∀ σ' : St, Rel σ' σ' → LW l D C ad p ev s m b below meth c 1070 (lvI ad b (nI i0)) [] σ') : LW l D C ad p ev s m b below meth c 482 (lvI ad b (nI i0)) [] σ := by
  obtain ⟨r, e1, e2⟩ := s_rest (xs (i0 + 1)) hR
  refine l_aload X dL_law_482 rfl 2 rfl ?_
  refine l_arg (k := 1) (pc0 := 488) X (by omega) rfl dL_law_483 dL_law_484 dL_law_485 dL_law_486 dL_law_487 rfl ?_
  refine l_call (i := 0) (as := [.int (xs (i0 + 1))]) (v := .int r) (σ1 := σ) (rest := []) (pc0 := 491) X (kX8_rest 0 (xs (i0 + 1)) σ r e1) ob_0 vl_L_61 rfl (by decide) rfl (Nat.le_of_ble_eq_true rfl) dL_law_488 rfl rfl rfl ?_
  refine l_aload X dL_law_491 rfl 1 rfl ?_
  refine l_arg (k := 1) (pc0 := 497) X (by omega) rfl dL_law_492 dL_law_493 dL_law_494 dL_law_495 dL_law_496 rfl ?_
  refine l_call (i := 58) (as := [.int (xs (i0 + 1))]) (v := .int r) (σ1 := σ) (rest := [.int r]) (pc0 := 500) X (kX9_rest 0 (xs (i0 + 1)) σ r e2) ob_58 vl_L_64 rfl (by decide) rfl (Nat.le_of_ble_eq_true rfl) dL_law_497 rfl rfl rfl ?_
  refine l_same 1070 X dL_law_500 (by decide) ?_
  exact K σ hR
set_option maxRecDepth 20000 in
set_option maxHeartbeats 1000000 in
/-- gift -/
theorem lc_11 {i0 : Nat} (X : LC D C p s m b L xs meth c) (hi : i0 + 4 ≤ L) (hR : Rel σ σ) (K : ∀ σ' : St, Rel σ' σ' → LW l D C ad p ev s m b below meth c 1070 (lvI ad b (nI i0)) [] σ') : LW l D C ad p ev s m b below meth c 505 (lvI ad b (nI i0)) [] σ := by
  obtain ⟨r, τ, τ', e1, e2, h3⟩ := tA (f8 := fX8_gift (xs (i0 + 1)) (xs (i0 + 2))) (f9 := fX9_gift (xs (i0 + 1)) (xs (i0 + 2))) (fun h => s_gift (xs (i0 + 1)) (xs (i0 + 2)) h) (fun σ q e => ⟨_, frX8_gift (xs (i0 + 1)) (xs (i0 + 2)) σ q e, by decide⟩) (fun σ q e => ⟨_, frX9_gift (xs (i0 + 1)) (xs (i0 + 2)) σ q e, by decide⟩) hR
  refine l_aload X dL_law_505 rfl 2 rfl ?_
  refine l_arg (k := 1) (pc0 := 511) X (by omega) rfl dL_law_506 dL_law_507 dL_law_508 dL_law_509 dL_law_510 rfl ?_
  refine l_arg (k := 2) (pc0 := 516) X (by omega) rfl dL_law_511 dL_law_512 dL_law_513 dL_law_514 dL_law_515 rfl ?_
  refine l_call (i := 0) (as := [.int (xs (i0 + 1)), .int (xs (i0 + 2))]) (v := .int r) (σ1 := τ) (rest := []) (pc0 := 519) X (kX8_gift 0 (xs (i0 + 1)) (xs (i0 + 2)) σ (r, τ) e1) ob_0 vl_L_65 rfl (by decide) rfl (Nat.le_of_ble_eq_true rfl) dL_law_516 rfl rfl rfl ?_
  refine l_aload X dL_law_519 rfl 1 rfl ?_
  refine l_arg (k := 1) (pc0 := 525) X (by omega) rfl dL_law_520 dL_law_521 dL_law_522 dL_law_523 dL_law_524 rfl ?_
  refine l_arg (k := 2) (pc0 := 530) X (by omega) rfl dL_law_525 dL_law_526 dL_law_527 dL_law_528 dL_law_529 rfl ?_
  refine l_call (i := 58) (as := [.int (xs (i0 + 1)), .int (xs (i0 + 2))]) (v := .int r) (σ1 := τ') (rest := [.int r]) (pc0 := 533) X (kX9_gift 0 (xs (i0 + 1)) (xs (i0 + 2)) τ (r, τ') e2) ob_58 vl_L_68 rfl (by decide) rfl (Nat.le_of_ble_eq_true rfl) dL_law_530 rfl rfl rfl ?_
  refine l_same 1070 X dL_law_533 (by decide) ?_
  exact K τ' h3
set_option maxRecDepth 20000 in
set_option maxHeartbeats 1000000 in
/-- told -/
theorem lc_12 {i0 : Nat} (X : LC D C p s m b L xs meth c) (hi : i0 + 4 ≤ L) (hR : Rel σ σ) (K : ∀ σ' : St, Rel σ' σ' → LW l D C ad p ev s m b below meth c 1070 (lvI ad b (nI i0)) [] σ') : LW l D C ad p ev s m b below meth c 538 (lvI ad b (nI i0)) [] σ := by
  obtain ⟨r, e1, e2⟩ := s_told (xs (i0 + 1)) (xs (i0 + 2)) hR
  refine l_aload X dL_law_538 rfl 2 rfl ?_
  refine l_arg (k := 1) (pc0 := 544) X (by omega) rfl dL_law_539 dL_law_540 dL_law_541 dL_law_542 dL_law_543 rfl ?_
  refine l_arg (k := 2) (pc0 := 549) X (by omega) rfl dL_law_544 dL_law_545 dL_law_546 dL_law_547 dL_law_548 rfl ?_
  refine l_call (i := 0) (as := [.int (xs (i0 + 1)), .int (xs (i0 + 2))]) (v := .int r) (σ1 := σ) (rest := []) (pc0 := 552) X (kX8_told 0 (xs (i0 + 1)) (xs (i0 + 2)) σ r e1) ob_0 vl_L_69 rfl (by decide) rfl (Nat.le_of_ble_eq_true rfl) dL_law_549 rfl rfl rfl ?_
  refine l_aload X dL_law_552 rfl 1 rfl ?_
  refine l_arg (k := 1) (pc0 := 558) X (by omega) rfl dL_law_553 dL_law_554 dL_law_555 dL_law_556 dL_law_557 rfl ?_
  refine l_arg (k := 2) (pc0 := 563) X (by omega) rfl dL_law_558 dL_law_559 dL_law_560 dL_law_561 dL_law_562 rfl ?_
  refine l_call (i := 58) (as := [.int (xs (i0 + 1)), .int (xs (i0 + 2))]) (v := .int r) (σ1 := σ) (rest := [.int r]) (pc0 := 566) X (kX9_told 0 (xs (i0 + 1)) (xs (i0 + 2)) σ r e2) ob_58 vl_L_72 rfl (by decide) rfl (Nat.le_of_ble_eq_true rfl) dL_law_563 rfl rfl rfl ?_
  refine l_same 1070 X dL_law_566 (by decide) ?_
  exact K σ hR
set_option maxRecDepth 20000 in
set_option maxHeartbeats 1000000 in
/-- as -/
theorem lc_13 {i0 : Nat} (X : LC D C p s m b L xs meth c) (hi : i0 + 4 ≤ L) (hR : Rel σ σ) (K : ∀ σ' : St, Rel σ' σ' → LW l D C ad p ev s m b below meth c 1070 (lvI ad b (nI i0)) [] σ') : LW l D C ad p ev s m b below meth c 571 (lvI ad b (nI i0)) [] σ := by
  obtain ⟨r, e1, e2⟩ := s_as (xs (i0 + 1)) (xs (i0 + 2)) hR
  refine l_aload X dL_law_571 rfl 2 rfl ?_
  refine l_arg (k := 1) (pc0 := 577) X (by omega) rfl dL_law_572 dL_law_573 dL_law_574 dL_law_575 dL_law_576 rfl ?_
  refine l_arg (k := 2) (pc0 := 582) X (by omega) rfl dL_law_577 dL_law_578 dL_law_579 dL_law_580 dL_law_581 rfl ?_
  refine l_call (i := 0) (as := [.int (xs (i0 + 1)), .int (xs (i0 + 2))]) (v := .int r) (σ1 := σ) (rest := []) (pc0 := 585) X (kX8_as 0 (xs (i0 + 1)) (xs (i0 + 2)) σ r e1) ob_0 vl_L_73 rfl (by decide) rfl (Nat.le_of_ble_eq_true rfl) dL_law_582 rfl rfl rfl ?_
  refine l_aload X dL_law_585 rfl 1 rfl ?_
  refine l_arg (k := 1) (pc0 := 591) X (by omega) rfl dL_law_586 dL_law_587 dL_law_588 dL_law_589 dL_law_590 rfl ?_
  refine l_arg (k := 2) (pc0 := 596) X (by omega) rfl dL_law_591 dL_law_592 dL_law_593 dL_law_594 dL_law_595 rfl ?_
  refine l_call (i := 58) (as := [.int (xs (i0 + 1)), .int (xs (i0 + 2))]) (v := .int r) (σ1 := σ) (rest := [.int r]) (pc0 := 599) X (kX9_as 0 (xs (i0 + 1)) (xs (i0 + 2)) σ r e2) ob_58 vl_L_76 rfl (by decide) rfl (Nat.le_of_ble_eq_true rfl) dL_law_596 rfl rfl rfl ?_
  refine l_same 1070 X dL_law_599 (by decide) ?_
  exact K σ hR
set_option maxRecDepth 20000 in
set_option maxHeartbeats 1000000 in
/-- may -/
theorem lc_14 {i0 : Nat} (X : LC D C p s m b L xs meth c) (hi : i0 + 4 ≤ L) (hR : Rel σ σ) (K : ∀ σ' : St, Rel σ' σ' → LW l D C ad p ev s m b below meth c 1070 (lvI ad b (nI i0)) [] σ') : LW l D C ad p ev s m b below meth c 604 (lvI ad b (nI i0)) [] σ := by
  obtain ⟨r, e1, e2⟩ := s_may (xs (i0 + 1)) hR
  refine l_aload X dL_law_604 rfl 2 rfl ?_
  refine l_arg (k := 1) (pc0 := 610) X (by omega) rfl dL_law_605 dL_law_606 dL_law_607 dL_law_608 dL_law_609 rfl ?_
  refine l_call (i := 0) (as := [.int (xs (i0 + 1))]) (v := .int r) (σ1 := σ) (rest := []) (pc0 := 613) X (kX8_may 0 (xs (i0 + 1)) σ r e1) ob_0 vl_L_77 rfl (by decide) rfl (Nat.le_of_ble_eq_true rfl) dL_law_610 rfl rfl rfl ?_
  refine l_aload X dL_law_613 rfl 1 rfl ?_
  refine l_arg (k := 1) (pc0 := 619) X (by omega) rfl dL_law_614 dL_law_615 dL_law_616 dL_law_617 dL_law_618 rfl ?_
  refine l_call (i := 58) (as := [.int (xs (i0 + 1))]) (v := .int r) (σ1 := σ) (rest := [.int r]) (pc0 := 622) X (kX9_may 0 (xs (i0 + 1)) σ r e2) ob_58 vl_L_80 rfl (by decide) rfl (Nat.le_of_ble_eq_true rfl) dL_law_619 rfl rfl rfl ?_
  refine l_same 1070 X dL_law_622 (by decide) ?_
  exact K σ hR
set_option maxRecDepth 20000 in
set_option maxHeartbeats 1000000 in
/-- give -/
theorem lc_15 {i0 : Nat} (X : LC D C p s m b L xs meth c) (hi : i0 + 4 ≤ L) (hR : Rel σ σ) (K : ∀ σ' : St, Rel σ' σ' → LW l D C ad p ev s m b below meth c 1070 (lvI ad b (nI i0)) [] σ') : LW l D C ad p ev s m b below meth c 627 (lvI ad b (nI i0)) [] σ := by
  obtain ⟨r, τ, τ', e1, e2, h3⟩ := tA (f8 := fX8_give (xs (i0 + 1)) (xs (i0 + 2))) (f9 := fX9_give (xs (i0 + 1)) (xs (i0 + 2))) (fun h => s_give (xs (i0 + 1)) (xs (i0 + 2)) h) (fun σ q e => ⟨_, frX8_give (xs (i0 + 1)) (xs (i0 + 2)) σ q e, by decide⟩) (fun σ q e => ⟨_, frX9_give (xs (i0 + 1)) (xs (i0 + 2)) σ q e, by decide⟩) hR
  refine l_aload X dL_law_627 rfl 2 rfl ?_
  refine l_arg (k := 1) (pc0 := 633) X (by omega) rfl dL_law_628 dL_law_629 dL_law_630 dL_law_631 dL_law_632 rfl ?_
  refine l_arg (k := 2) (pc0 := 638) X (by omega) rfl dL_law_633 dL_law_634 dL_law_635 dL_law_636 dL_law_637 rfl ?_
  refine l_call (i := 0) (as := [.int (xs (i0 + 1)), .int (xs (i0 + 2))]) (v := .int r) (σ1 := τ) (rest := []) (pc0 := 641) X (kX8_give 0 (xs (i0 + 1)) (xs (i0 + 2)) σ (r, τ) e1) ob_0 vl_L_81 rfl (by decide) rfl (Nat.le_of_ble_eq_true rfl) dL_law_638 rfl rfl rfl ?_
  refine l_aload X dL_law_641 rfl 1 rfl ?_
  refine l_arg (k := 1) (pc0 := 647) X (by omega) rfl dL_law_642 dL_law_643 dL_law_644 dL_law_645 dL_law_646 rfl ?_
  refine l_arg (k := 2) (pc0 := 652) X (by omega) rfl dL_law_647 dL_law_648 dL_law_649 dL_law_650 dL_law_651 rfl ?_
  refine l_call (i := 58) (as := [.int (xs (i0 + 1)), .int (xs (i0 + 2))]) (v := .int r) (σ1 := τ') (rest := [.int r]) (pc0 := 655) X (kX9_give 0 (xs (i0 + 1)) (xs (i0 + 2)) τ (r, τ') e2) ob_58 vl_L_84 rfl (by decide) rfl (Nat.le_of_ble_eq_true rfl) dL_law_652 rfl rfl rfl ?_
  refine l_same 1070 X dL_law_655 (by decide) ?_
  exact K τ' h3
set_option maxRecDepth 20000 in
set_option maxHeartbeats 1000000 in
/-- years -/
theorem lc_16 {i0 : Nat} (X : LC D C p s m b L xs meth c) (hi : i0 + 4 ≤ L) (hR : Rel σ σ) (K : ∀ σ' : St, Rel σ' σ' → LW l D C ad p ev s m b below meth c 1070 (lvI ad b (nI i0)) [] σ') : LW l D C ad p ev s m b below meth c 660 (lvI ad b (nI i0)) [] σ := by
  obtain ⟨r, τ, τ', e1, e2, h3⟩ := tA (f8 := fX8_years (xs (i0 + 1))) (f9 := fX9_years (xs (i0 + 1))) (fun h => s_years (xs (i0 + 1)) h) (fun σ q e => ⟨_, frX8_years (xs (i0 + 1)) σ q e, by decide⟩) (fun σ q e => ⟨_, frX9_years (xs (i0 + 1)) σ q e, by decide⟩) hR
  refine l_aload X dL_law_660 rfl 2 rfl ?_
  refine l_arg (k := 1) (pc0 := 666) X (by omega) rfl dL_law_661 dL_law_662 dL_law_663 dL_law_664 dL_law_665 rfl ?_
  refine l_call (i := 0) (as := [.int (xs (i0 + 1))]) (v := .int r) (σ1 := τ) (rest := []) (pc0 := 669) X (kX8_years 0 (xs (i0 + 1)) σ (r, τ) e1) ob_0 vl_L_85 rfl (by decide) rfl (Nat.le_of_ble_eq_true rfl) dL_law_666 rfl rfl rfl ?_
  refine l_aload X dL_law_669 rfl 1 rfl ?_
  refine l_arg (k := 1) (pc0 := 675) X (by omega) rfl dL_law_670 dL_law_671 dL_law_672 dL_law_673 dL_law_674 rfl ?_
  refine l_call (i := 58) (as := [.int (xs (i0 + 1))]) (v := .int r) (σ1 := τ') (rest := [.int r]) (pc0 := 678) X (kX9_years 0 (xs (i0 + 1)) τ (r, τ') e2) ob_58 vl_L_88 rfl (by decide) rfl (Nat.le_of_ble_eq_true rfl) dL_law_675 rfl rfl rfl ?_
  refine l_same 1070 X dL_law_678 (by decide) ?_
  exact K τ' h3
set_option maxRecDepth 20000 in
set_option maxHeartbeats 1000000 in
/-- ways -/
theorem lc_17 {i0 : Nat} (X : LC D C p s m b L xs meth c) (hi : i0 + 4 ≤ L) (hR : Rel σ σ) (K : ∀ σ' : St, Rel σ' σ' → LW l D C ad p ev s m b below meth c 1070 (lvI ad b (nI i0)) [] σ') : LW l D C ad p ev s m b below meth c 683 (lvI ad b (nI i0)) [] σ := by
  obtain ⟨r, τ, τ', e1, e2, h3⟩ := tA (f8 := fX8_ways (xs (i0 + 1)) (xs (i0 + 2))) (f9 := fX9_ways (xs (i0 + 1)) (xs (i0 + 2))) (fun h => s_ways (xs (i0 + 1)) (xs (i0 + 2)) h) (fun σ q e => ⟨_, frX8_ways (xs (i0 + 1)) (xs (i0 + 2)) σ q e, by decide⟩) (fun σ q e => ⟨_, frX9_ways (xs (i0 + 1)) (xs (i0 + 2)) σ q e, by decide⟩) hR
  refine l_aload X dL_law_683 rfl 2 rfl ?_
  refine l_arg (k := 1) (pc0 := 689) X (by omega) rfl dL_law_684 dL_law_685 dL_law_686 dL_law_687 dL_law_688 rfl ?_
  refine l_arg (k := 2) (pc0 := 694) X (by omega) rfl dL_law_689 dL_law_690 dL_law_691 dL_law_692 dL_law_693 rfl ?_
  refine l_call (i := 0) (as := [.int (xs (i0 + 1)), .int (xs (i0 + 2))]) (v := .int r) (σ1 := τ) (rest := []) (pc0 := 697) X (kX8_ways 0 (xs (i0 + 1)) (xs (i0 + 2)) σ (r, τ) e1) ob_0 vl_L_89 rfl (by decide) rfl (Nat.le_of_ble_eq_true rfl) dL_law_694 rfl rfl rfl ?_
  refine l_aload X dL_law_697 rfl 1 rfl ?_
  refine l_arg (k := 1) (pc0 := 703) X (by omega) rfl dL_law_698 dL_law_699 dL_law_700 dL_law_701 dL_law_702 rfl ?_
  refine l_arg (k := 2) (pc0 := 708) X (by omega) rfl dL_law_703 dL_law_704 dL_law_705 dL_law_706 dL_law_707 rfl ?_
  refine l_call (i := 58) (as := [.int (xs (i0 + 1)), .int (xs (i0 + 2))]) (v := .int r) (σ1 := τ') (rest := [.int r]) (pc0 := 711) X (kX9_ways 0 (xs (i0 + 1)) (xs (i0 + 2)) τ (r, τ') e2) ob_58 vl_L_92 rfl (by decide) rfl (Nat.le_of_ble_eq_true rfl) dL_law_708 rfl rfl rfl ?_
  refine l_same 1070 X dL_law_711 (by decide) ?_
  exact K τ' h3
set_option maxRecDepth 20000 in
set_option maxHeartbeats 1000000 in
/-- soonest -/
theorem lc_18 {i0 : Nat} (X : LC D C p s m b L xs meth c) (hi : i0 + 4 ≤ L) (hR : Rel σ σ) (K : ∀ σ' : St, Rel σ' σ' → LW l D C ad p ev s m b below meth c 1070 (lvI ad b (nI i0)) [] σ') : LW l D C ad p ev s m b below meth c 716 (lvI ad b (nI i0)) [] σ := by
  obtain ⟨r, τ, τ', e1, e2, h3⟩ := tA (f8 := fX8_soonest (xs (i0 + 1))) (f9 := fX9_soonest (xs (i0 + 1))) (fun h => s_soonest (xs (i0 + 1)) h) (fun σ q e => ⟨_, frX8_soonest (xs (i0 + 1)) σ q e, by decide⟩) (fun σ q e => ⟨_, frX9_soonest (xs (i0 + 1)) σ q e, by decide⟩) hR
  refine l_aload X dL_law_716 rfl 2 rfl ?_
  refine l_arg (k := 1) (pc0 := 722) X (by omega) rfl dL_law_717 dL_law_718 dL_law_719 dL_law_720 dL_law_721 rfl ?_
  refine l_call (i := 0) (as := [.int (xs (i0 + 1))]) (v := .int r) (σ1 := τ) (rest := []) (pc0 := 725) X (kX8_soonest 0 (xs (i0 + 1)) σ (r, τ) e1) ob_0 vl_L_93 rfl (by decide) rfl (Nat.le_of_ble_eq_true rfl) dL_law_722 rfl rfl rfl ?_
  refine l_aload X dL_law_725 rfl 1 rfl ?_
  refine l_arg (k := 1) (pc0 := 731) X (by omega) rfl dL_law_726 dL_law_727 dL_law_728 dL_law_729 dL_law_730 rfl ?_
  refine l_call (i := 58) (as := [.int (xs (i0 + 1))]) (v := .int r) (σ1 := τ') (rest := [.int r]) (pc0 := 734) X (kX9_soonest 0 (xs (i0 + 1)) τ (r, τ') e2) ob_58 vl_L_96 rfl (by decide) rfl (Nat.le_of_ble_eq_true rfl) dL_law_731 rfl rfl rfl ?_
  refine l_same 1070 X dL_law_734 (by decide) ?_
  exact K τ' h3
set_option maxRecDepth 20000 in
set_option maxHeartbeats 1000000 in
/-- likely -/
theorem lc_19 {i0 : Nat} (X : LC D C p s m b L xs meth c) (hi : i0 + 4 ≤ L) (hR : Rel σ σ) (K : ∀ σ' : St, Rel σ' σ' → LW l D C ad p ev s m b below meth c 1070 (lvI ad b (nI i0)) [] σ') : LW l D C ad p ev s m b below meth c 739 (lvI ad b (nI i0)) [] σ := by
  obtain ⟨r, τ, τ', e1, e2, h3⟩ := tA (f8 := fX8_likely (xs (i0 + 1)) (xs (i0 + 2)) (xs (i0 + 3))) (f9 := fX9_likely (xs (i0 + 1)) (xs (i0 + 2)) (xs (i0 + 3))) (fun h => s_likely (xs (i0 + 1)) (xs (i0 + 2)) (xs (i0 + 3)) h) (fun σ q e => ⟨_, frX8_likely (xs (i0 + 1)) (xs (i0 + 2)) (xs (i0 + 3)) σ q e, by decide⟩) (fun σ q e => ⟨_, frX9_likely (xs (i0 + 1)) (xs (i0 + 2)) (xs (i0 + 3)) σ q e, by decide⟩) hR
  refine l_aload X dL_law_739 rfl 2 rfl ?_
  refine l_arg (k := 1) (pc0 := 745) X (by omega) rfl dL_law_740 dL_law_741 dL_law_742 dL_law_743 dL_law_744 rfl ?_
  refine l_arg (k := 2) (pc0 := 750) X (by omega) rfl dL_law_745 dL_law_746 dL_law_747 dL_law_748 dL_law_749 rfl ?_
  refine l_arg (k := 3) (pc0 := 755) X (by omega) rfl dL_law_750 dL_law_751 dL_law_752 dL_law_753 dL_law_754 rfl ?_
  refine l_call (i := 0) (as := [.int (xs (i0 + 1)), .int (xs (i0 + 2)), .int (xs (i0 + 3))]) (v := .long r) (σ1 := τ) (rest := []) (pc0 := 758) X (kX8_likely 0 (xs (i0 + 1)) (xs (i0 + 2)) (xs (i0 + 3)) σ (r, τ) e1) ob_0 vl_L_97 rfl (by decide) rfl (Nat.le_of_ble_eq_true rfl) dL_law_755 rfl rfl rfl ?_
  refine l_aload X dL_law_758 rfl 1 rfl ?_
  refine l_arg (k := 1) (pc0 := 764) X (by omega) rfl dL_law_759 dL_law_760 dL_law_761 dL_law_762 dL_law_763 rfl ?_
  refine l_arg (k := 2) (pc0 := 769) X (by omega) rfl dL_law_764 dL_law_765 dL_law_766 dL_law_767 dL_law_768 rfl ?_
  refine l_arg (k := 3) (pc0 := 774) X (by omega) rfl dL_law_769 dL_law_770 dL_law_771 dL_law_772 dL_law_773 rfl ?_
  refine l_call (i := 58) (as := [.int (xs (i0 + 1)), .int (xs (i0 + 2)), .int (xs (i0 + 3))]) (v := .long r) (σ1 := τ') (rest := [.long r]) (pc0 := 777) X (kX9_likely 0 (xs (i0 + 1)) (xs (i0 + 2)) (xs (i0 + 3)) τ (r, τ') e2) ob_58 vl_L_101 rfl (by decide) rfl (Nat.le_of_ble_eq_true rfl) dL_law_774 rfl rfl rfl ?_
  refine l_sameL 1070 X dL_law_777 dL_law_778 (by decide) ?_
  exact K τ' h3
set_option maxRecDepth 20000 in
set_option maxHeartbeats 1000000 in
/-- traps -/
theorem lc_20 {i0 : Nat} (X : LC D C p s m b L xs meth c) (hi : i0 + 4 ≤ L) (hR : Rel σ σ) (K : ∀ σ' : St, Rel σ' σ' → LW l D C ad p ev s m b below meth c 1070 (lvI ad b (nI i0)) [] σ') : LW l D C ad p ev s m b below meth c 783 (lvI ad b (nI i0)) [] σ := by
  obtain ⟨r, e1, e2⟩ := s_traps hR
  refine l_aload X dL_law_783 rfl 2 rfl ?_
  refine l_call (i := 0) (as := []) (v := .int r) (σ1 := σ) (rest := []) (pc0 := 787) X (kX8_traps 0 σ r e1) ob_0 vl_L_102 rfl (by decide) rfl (Nat.le_of_ble_eq_true rfl) dL_law_784 rfl rfl rfl ?_
  refine l_aload X dL_law_787 rfl 1 rfl ?_
  refine l_call (i := 58) (as := []) (v := .int r) (σ1 := σ) (rest := [.int r]) (pc0 := 791) X (kX9_traps 0 σ r e2) ob_58 vl_L_105 rfl (by decide) rfl (Nat.le_of_ble_eq_true rfl) dL_law_788 rfl rfl rfl ?_
  refine l_same 1070 X dL_law_791 (by decide) ?_
  exact K σ hR
set_option maxRecDepth 20000 in
set_option maxHeartbeats 1000000 in
/-- round -/
theorem lc_21 {i0 : Nat} (X : LC D C p s m b L xs meth c) (hi : i0 + 4 ≤ L) (hR : Rel σ σ) (K : ∀ σ' : St, Rel σ' σ' → LW l D C ad p ev s m b below meth c 1070 (lvI ad b (nI i0)) [] σ') : LW l D C ad p ev s m b below meth c 796 (lvI ad b (nI i0)) [] σ := by
  obtain ⟨r, τ, τ', e1, e2, h3⟩ := tA (f8 := fX8_round (xs (i0 + 1))) (f9 := fX9_round (xs (i0 + 1))) (fun h => s_round (xs (i0 + 1)) h) (fun σ q e => ⟨_, frX8_round (xs (i0 + 1)) σ q e, by decide⟩) (fun σ q e => ⟨_, frX9_round (xs (i0 + 1)) σ q e, by decide⟩) hR
  refine l_aload X dL_law_796 rfl 2 rfl ?_
  refine l_arg (k := 1) (pc0 := 802) X (by omega) rfl dL_law_797 dL_law_798 dL_law_799 dL_law_800 dL_law_801 rfl ?_
  refine l_call (i := 0) (as := [.int (xs (i0 + 1))]) (v := .int r) (σ1 := τ) (rest := []) (pc0 := 805) X (kX8_round 0 (xs (i0 + 1)) σ (r, τ) e1) ob_0 vl_L_106 rfl (by decide) rfl (Nat.le_of_ble_eq_true rfl) dL_law_802 rfl rfl rfl ?_
  refine l_aload X dL_law_805 rfl 1 rfl ?_
  refine l_arg (k := 1) (pc0 := 811) X (by omega) rfl dL_law_806 dL_law_807 dL_law_808 dL_law_809 dL_law_810 rfl ?_
  refine l_call (i := 58) (as := [.int (xs (i0 + 1))]) (v := .int r) (σ1 := τ') (rest := [.int r]) (pc0 := 814) X (kX9_round 0 (xs (i0 + 1)) τ (r, τ') e2) ob_58 vl_L_109 rfl (by decide) rfl (Nat.le_of_ble_eq_true rfl) dL_law_811 rfl rfl rfl ?_
  refine l_same 1070 X dL_law_814 (by decide) ?_
  exact K τ' h3
set_option maxRecDepth 20000 in
set_option maxHeartbeats 1000000 in
/-- stranger -/
theorem lc_22 {i0 : Nat} (X : LC D C p s m b L xs meth c) (hi : i0 + 4 ≤ L) (hR : Rel σ σ) (K : ∀ σ' : St, Rel σ' σ' → LW l D C ad p ev s m b below meth c 1070 (lvI ad b (nI i0)) [] σ') : LW l D C ad p ev s m b below meth c 819 (lvI ad b (nI i0)) [] σ := by
  obtain ⟨r, τ', e1, e2, h3⟩ := tB (f8 := fX8_stranger (xs (i0 + 1)) (xs (i0 + 2)) (xs (i0 + 3))) (f9 := fX9_stranger (xs (i0 + 1)) (xs (i0 + 2)) (xs (i0 + 3))) (fun h => s_stranger (xs (i0 + 1)) (xs (i0 + 2)) (xs (i0 + 3)) h) (fun σ q e => ⟨_, frX9_stranger (xs (i0 + 1)) (xs (i0 + 2)) (xs (i0 + 3)) σ q e, by decide⟩) hR
  refine l_aload X dL_law_819 rfl 2 rfl ?_
  refine l_arg (k := 1) (pc0 := 825) X (by omega) rfl dL_law_820 dL_law_821 dL_law_822 dL_law_823 dL_law_824 rfl ?_
  refine l_arg (k := 2) (pc0 := 830) X (by omega) rfl dL_law_825 dL_law_826 dL_law_827 dL_law_828 dL_law_829 rfl ?_
  refine l_arg (k := 3) (pc0 := 835) X (by omega) rfl dL_law_830 dL_law_831 dL_law_832 dL_law_833 dL_law_834 rfl ?_
  refine l_call (i := 0) (as := [.int (xs (i0 + 1)), .int (xs (i0 + 2)), .int (xs (i0 + 3))]) (v := .int r) (σ1 := σ) (rest := []) (pc0 := 838) X (kX8_stranger 0 (xs (i0 + 1)) (xs (i0 + 2)) (xs (i0 + 3)) σ r e1) ob_0 vl_L_110 rfl (by decide) rfl (Nat.le_of_ble_eq_true rfl) dL_law_835 rfl rfl rfl ?_
  refine l_aload X dL_law_838 rfl 1 rfl ?_
  refine l_arg (k := 1) (pc0 := 844) X (by omega) rfl dL_law_839 dL_law_840 dL_law_841 dL_law_842 dL_law_843 rfl ?_
  refine l_arg (k := 2) (pc0 := 849) X (by omega) rfl dL_law_844 dL_law_845 dL_law_846 dL_law_847 dL_law_848 rfl ?_
  refine l_arg (k := 3) (pc0 := 854) X (by omega) rfl dL_law_849 dL_law_850 dL_law_851 dL_law_852 dL_law_853 rfl ?_
  refine l_call (i := 58) (as := [.int (xs (i0 + 1)), .int (xs (i0 + 2)), .int (xs (i0 + 3))]) (v := .int r) (σ1 := τ') (rest := [.int r]) (pc0 := 857) X (kX9_stranger 0 (xs (i0 + 1)) (xs (i0 + 2)) (xs (i0 + 3)) σ (r, τ') e2) ob_58 vl_L_113 rfl (by decide) rfl (Nat.le_of_ble_eq_true rfl) dL_law_854 rfl rfl rfl ?_
  refine l_same 1070 X dL_law_857 (by decide) ?_
  exact K τ' h3
set_option maxRecDepth 20000 in
set_option maxHeartbeats 1000000 in
/-- drawn -/
theorem lc_23 {i0 : Nat} (X : LC D C p s m b L xs meth c) (hi : i0 + 4 ≤ L) (hR : Rel σ σ) (K : ∀ σ' : St, Rel σ' σ' → LW l D C ad p ev s m b below meth c 1070 (lvI ad b (nI i0)) [] σ') : LW l D C ad p ev s m b below meth c 862 (lvI ad b (nI i0)) [] σ := by
  obtain ⟨r, τ, τ', e1, e2, h3⟩ := tA (f8 := fX8_drawn (xs (i0 + 1)) (xs (i0 + 2)) (xs (i0 + 3))) (f9 := fX9_drawn (xs (i0 + 1)) (xs (i0 + 2)) (xs (i0 + 3))) (fun h => s_drawn (xs (i0 + 1)) (xs (i0 + 2)) (xs (i0 + 3)) h) (fun σ q e => ⟨_, frX8_drawn (xs (i0 + 1)) (xs (i0 + 2)) (xs (i0 + 3)) σ q e, by decide⟩) (fun σ q e => ⟨_, frX9_drawn (xs (i0 + 1)) (xs (i0 + 2)) (xs (i0 + 3)) σ q e, by decide⟩) hR
  refine l_aload X dL_law_862 rfl 2 rfl ?_
  refine l_arg (k := 1) (pc0 := 868) X (by omega) rfl dL_law_863 dL_law_864 dL_law_865 dL_law_866 dL_law_867 rfl ?_
  refine l_arg (k := 2) (pc0 := 873) X (by omega) rfl dL_law_868 dL_law_869 dL_law_870 dL_law_871 dL_law_872 rfl ?_
  refine l_arg (k := 3) (pc0 := 878) X (by omega) rfl dL_law_873 dL_law_874 dL_law_875 dL_law_876 dL_law_877 rfl ?_
  refine l_call (i := 0) (as := [.int (xs (i0 + 1)), .int (xs (i0 + 2)), .int (xs (i0 + 3))]) (v := .int r) (σ1 := τ) (rest := []) (pc0 := 881) X (kX8_drawn 0 (xs (i0 + 1)) (xs (i0 + 2)) (xs (i0 + 3)) σ (r, τ) e1) ob_0 vl_L_114 rfl (by decide) rfl (Nat.le_of_ble_eq_true rfl) dL_law_878 rfl rfl rfl ?_
  refine l_aload X dL_law_881 rfl 1 rfl ?_
  refine l_arg (k := 1) (pc0 := 887) X (by omega) rfl dL_law_882 dL_law_883 dL_law_884 dL_law_885 dL_law_886 rfl ?_
  refine l_arg (k := 2) (pc0 := 892) X (by omega) rfl dL_law_887 dL_law_888 dL_law_889 dL_law_890 dL_law_891 rfl ?_
  refine l_arg (k := 3) (pc0 := 897) X (by omega) rfl dL_law_892 dL_law_893 dL_law_894 dL_law_895 dL_law_896 rfl ?_
  refine l_call (i := 58) (as := [.int (xs (i0 + 1)), .int (xs (i0 + 2)), .int (xs (i0 + 3))]) (v := .int r) (σ1 := τ') (rest := [.int r]) (pc0 := 900) X (kX9_drawn 0 (xs (i0 + 1)) (xs (i0 + 2)) (xs (i0 + 3)) τ (r, τ') e2) ob_58 vl_L_117 rfl (by decide) rfl (Nat.le_of_ble_eq_true rfl) dL_law_897 rfl rfl rfl ?_
  refine l_same 1070 X dL_law_900 (by decide) ?_
  exact K τ' h3
set_option maxRecDepth 20000 in
set_option maxHeartbeats 1000000 in
/-- open -/
theorem lc_24 {i0 : Nat} (X : LC D C p s m b L xs meth c) (hi : i0 + 4 ≤ L) (hR : Rel σ σ) (K : ∀ σ' : St, Rel σ' σ' → LW l D C ad p ev s m b below meth c 1070 (lvI ad b (nI i0)) [] σ') : LW l D C ad p ev s m b below meth c 905 (lvI ad b (nI i0)) [] σ := by
  obtain ⟨r, τ, τ', e1, e2, h3⟩ := tA (f8 := fX8_open (xs (i0 + 1)) (xs (i0 + 2))) (f9 := fX9_open (xs (i0 + 1)) (xs (i0 + 2))) (fun h => s_open (xs (i0 + 1)) (xs (i0 + 2)) h) (fun σ q e => ⟨_, frX8_open (xs (i0 + 1)) (xs (i0 + 2)) σ q e, by decide⟩) (fun σ q e => ⟨_, frX9_open (xs (i0 + 1)) (xs (i0 + 2)) σ q e, by decide⟩) hR
  refine l_aload X dL_law_905 rfl 2 rfl ?_
  refine l_arg (k := 1) (pc0 := 911) X (by omega) rfl dL_law_906 dL_law_907 dL_law_908 dL_law_909 dL_law_910 rfl ?_
  refine l_arg (k := 2) (pc0 := 916) X (by omega) rfl dL_law_911 dL_law_912 dL_law_913 dL_law_914 dL_law_915 rfl ?_
  refine l_call (i := 0) (as := [.int (xs (i0 + 1)), .int (xs (i0 + 2))]) (v := .int r) (σ1 := τ) (rest := []) (pc0 := 919) X (kX8_open 0 (xs (i0 + 1)) (xs (i0 + 2)) σ (r, τ) e1) ob_0 vl_L_118 rfl (by decide) rfl (Nat.le_of_ble_eq_true rfl) dL_law_916 rfl rfl rfl ?_
  refine l_aload X dL_law_919 rfl 1 rfl ?_
  refine l_arg (k := 1) (pc0 := 925) X (by omega) rfl dL_law_920 dL_law_921 dL_law_922 dL_law_923 dL_law_924 rfl ?_
  refine l_arg (k := 2) (pc0 := 930) X (by omega) rfl dL_law_925 dL_law_926 dL_law_927 dL_law_928 dL_law_929 rfl ?_
  refine l_call (i := 58) (as := [.int (xs (i0 + 1)), .int (xs (i0 + 2))]) (v := .int r) (σ1 := τ') (rest := [.int r]) (pc0 := 933) X (kX9_open 0 (xs (i0 + 1)) (xs (i0 + 2)) τ (r, τ') e2) ob_58 vl_L_121 rfl (by decide) rfl (Nat.le_of_ble_eq_true rfl) dL_law_930 rfl rfl rfl ?_
  refine l_same 1070 X dL_law_933 (by decide) ?_
  exact K τ' h3
set_option maxRecDepth 20000 in
set_option maxHeartbeats 1000000 in
/-- write -/
theorem lc_25 {i0 : Nat} (X : LC D C p s m b L xs meth c) (hi : i0 + 4 ≤ L) (hR : Rel σ σ) (K : ∀ σ' : St, Rel σ' σ' → LW l D C ad p ev s m b below meth c 1070 (lvI ad b (nI i0)) [] σ') : LW l D C ad p ev s m b below meth c 938 (lvI ad b (nI i0)) [] σ := by
  obtain ⟨r, τ, τ', e1, e2, h3⟩ := tA (f8 := fX8_write (xs (i0 + 1)) (xs (i0 + 2))) (f9 := fX9_write (xs (i0 + 1)) (xs (i0 + 2))) (fun h => s_write (xs (i0 + 1)) (xs (i0 + 2)) h) (fun σ q e => ⟨_, frX8_write (xs (i0 + 1)) (xs (i0 + 2)) σ q e, by decide⟩) (fun σ q e => ⟨_, frX9_write (xs (i0 + 1)) (xs (i0 + 2)) σ q e, by decide⟩) hR
  refine l_aload X dL_law_938 rfl 2 rfl ?_
  refine l_arg (k := 1) (pc0 := 944) X (by omega) rfl dL_law_939 dL_law_940 dL_law_941 dL_law_942 dL_law_943 rfl ?_
  refine l_arg (k := 2) (pc0 := 949) X (by omega) rfl dL_law_944 dL_law_945 dL_law_946 dL_law_947 dL_law_948 rfl ?_
  refine l_call (i := 0) (as := [.int (xs (i0 + 1)), .int (xs (i0 + 2))]) (v := .int r) (σ1 := τ) (rest := []) (pc0 := 952) X (kX8_write 0 (xs (i0 + 1)) (xs (i0 + 2)) σ (r, τ) e1) ob_0 vl_L_122 rfl (by decide) rfl (Nat.le_of_ble_eq_true rfl) dL_law_949 rfl rfl rfl ?_
  refine l_aload X dL_law_952 rfl 1 rfl ?_
  refine l_arg (k := 1) (pc0 := 958) X (by omega) rfl dL_law_953 dL_law_954 dL_law_955 dL_law_956 dL_law_957 rfl ?_
  refine l_arg (k := 2) (pc0 := 963) X (by omega) rfl dL_law_958 dL_law_959 dL_law_960 dL_law_961 dL_law_962 rfl ?_
  refine l_call (i := 58) (as := [.int (xs (i0 + 1)), .int (xs (i0 + 2))]) (v := .int r) (σ1 := τ') (rest := [.int r]) (pc0 := 966) X (kX9_write 0 (xs (i0 + 1)) (xs (i0 + 2)) τ (r, τ') e2) ob_58 vl_L_125 rfl (by decide) rfl (Nat.le_of_ble_eq_true rfl) dL_law_963 rfl rfl rfl ?_
  refine l_same 1070 X dL_law_966 (by decide) ?_
  exact K τ' h3
set_option maxRecDepth 20000 in
set_option maxHeartbeats 1000000 in
/-- filled -/
theorem lc_26 {i0 : Nat} (X : LC D C p s m b L xs meth c) (hi : i0 + 4 ≤ L) (hR : Rel σ σ) (K : ∀ σ' : St, Rel σ' σ' → LW l D C ad p ev s m b below meth c 1070 (lvI ad b (nI i0)) [] σ') : LW l D C ad p ev s m b below meth c 971 (lvI ad b (nI i0)) [] σ := by
  obtain ⟨r, τ, τ', e1, e2, h3⟩ := tA (f8 := fX8_filled) (f9 := fX9_filled) (fun h => s_filled h) (fun σ q e => ⟨_, frX8_filled σ q e, by decide⟩) (fun σ q e => ⟨_, frX9_filled σ q e, by decide⟩) hR
  refine l_aload X dL_law_971 rfl 2 rfl ?_
  refine l_call (i := 0) (as := []) (v := .int r) (σ1 := τ) (rest := []) (pc0 := 975) X (kX8_filled 0 σ (r, τ) e1) ob_0 vl_L_126 rfl (by decide) rfl (Nat.le_of_ble_eq_true rfl) dL_law_972 rfl rfl rfl ?_
  refine l_aload X dL_law_975 rfl 1 rfl ?_
  refine l_call (i := 58) (as := []) (v := .int r) (σ1 := τ') (rest := [.int r]) (pc0 := 979) X (kX9_filled 0 τ (r, τ') e2) ob_58 vl_L_129 rfl (by decide) rfl (Nat.le_of_ble_eq_true rfl) dL_law_976 rfl rfl rfl ?_
  refine l_same 1070 X dL_law_979 (by decide) ?_
  exact K τ' h3
set_option maxRecDepth 20000 in
set_option maxHeartbeats 1000000 in
/-- sure -/
theorem lc_27 {i0 : Nat} (X : LC D C p s m b L xs meth c) (hi : i0 + 4 ≤ L) (hR : Rel σ σ) (K : ∀ σ' : St, Rel σ' σ' → LW l D C ad p ev s m b below meth c 1070 (lvI ad b (nI i0)) [] σ') : LW l D C ad p ev s m b below meth c 984 (lvI ad b (nI i0)) [] σ := by
  obtain ⟨r, τ, τ', e1, e2, h3⟩ := tA (f8 := fX8_sure (xs (i0 + 1))) (f9 := fX9_sure (xs (i0 + 1))) (fun h => s_sure (xs (i0 + 1)) h) (fun σ q e => ⟨_, frX8_sure (xs (i0 + 1)) σ q e, by decide⟩) (fun σ q e => ⟨_, frX9_sure (xs (i0 + 1)) σ q e, by decide⟩) hR
  refine l_aload X dL_law_984 rfl 2 rfl ?_
  refine l_arg (k := 1) (pc0 := 990) X (by omega) rfl dL_law_985 dL_law_986 dL_law_987 dL_law_988 dL_law_989 rfl ?_
  refine l_call (i := 0) (as := [.int (xs (i0 + 1))]) (v := .int r) (σ1 := τ) (rest := []) (pc0 := 993) X (kX8_sure 0 (xs (i0 + 1)) σ (r, τ) e1) ob_0 vl_L_130 rfl (by decide) rfl (Nat.le_of_ble_eq_true rfl) dL_law_990 rfl rfl rfl ?_
  refine l_aload X dL_law_993 rfl 1 rfl ?_
  refine l_arg (k := 1) (pc0 := 999) X (by omega) rfl dL_law_994 dL_law_995 dL_law_996 dL_law_997 dL_law_998 rfl ?_
  refine l_call (i := 58) (as := [.int (xs (i0 + 1))]) (v := .int r) (σ1 := τ') (rest := [.int r]) (pc0 := 1002) X (kX9_sure 0 (xs (i0 + 1)) τ (r, τ') e2) ob_58 vl_L_133 rfl (by decide) rfl (Nat.le_of_ble_eq_true rfl) dL_law_999 rfl rfl rfl ?_
  refine l_same 1070 X dL_law_1002 (by decide) ?_
  exact K τ' h3
set_option maxRecDepth 20000 in
set_option maxHeartbeats 1000000 in
/-- image -/
theorem lc_28 {i0 : Nat} (X : LC D C p s m b L xs meth c) (hi : i0 + 4 ≤ L) (hR : Rel σ σ) (K : ∀ σ' : St, Rel σ' σ' → LW l D C ad p ev s m b below meth c 1070 (lvI ad b (nI i0)) [] σ') : LW l D C ad p ev s m b below meth c 1007 (lvI ad b (nI i0)) [] σ := by
  obtain ⟨r, τ, τ', e1, e2, h3⟩ := tA (f8 := fX8_image) (f9 := fX9_image) (fun h => s_image h) (fun σ q e => ⟨_, frX8_image σ q e, by decide⟩) (fun σ q e => ⟨_, frX9_image σ q e, by decide⟩) hR
  refine l_aload X dL_law_1007 rfl 2 rfl ?_
  refine l_call (i := 0) (as := []) (v := .int r) (σ1 := τ) (rest := []) (pc0 := 1011) X (kX8_image 0 σ (r, τ) e1) ob_0 vl_L_134 rfl (by decide) rfl (Nat.le_of_ble_eq_true rfl) dL_law_1008 rfl rfl rfl ?_
  refine l_aload X dL_law_1011 rfl 1 rfl ?_
  refine l_call (i := 58) (as := []) (v := .int r) (σ1 := τ') (rest := [.int r]) (pc0 := 1015) X (kX9_image 0 τ (r, τ') e2) ob_58 vl_L_137 rfl (by decide) rfl (Nat.le_of_ble_eq_true rfl) dL_law_1012 rfl rfl rfl ?_
  refine l_same 1070 X dL_law_1015 (by decide) ?_
  exact K τ' h3
set_option maxRecDepth 20000 in
set_option maxHeartbeats 1000000 in
/-- restore -/
theorem lc_29 {i0 : Nat} (X : LC D C p s m b L xs meth c) (hi : i0 + 4 ≤ L) (hR : Rel σ σ) (K : ∀ σ' : St, Rel σ' σ' → LW l D C ad p ev s m b below meth c 1070 (lvI ad b (nI i0)) [] σ') : LW l D C ad p ev s m b below meth c 1020 (lvI ad b (nI i0)) [] σ := by
  obtain ⟨r, τ, τ', e1, e2, h3⟩ := tA (f8 := fX8_restore) (f9 := fX9_restore) (fun h => s_restore h) (fun σ q e => ⟨_, frX8_restore σ q e, by decide⟩) (fun σ q e => ⟨_, frX9_restore σ q e, by decide⟩) hR
  refine l_aload X dL_law_1020 rfl 2 rfl ?_
  refine l_call (i := 0) (as := []) (v := .int r) (σ1 := τ) (rest := []) (pc0 := 1024) X (kX8_restore 0 σ (r, τ) e1) ob_0 vl_L_138 rfl (by decide) rfl (Nat.le_of_ble_eq_true rfl) dL_law_1021 rfl rfl rfl ?_
  refine l_aload X dL_law_1024 rfl 1 rfl ?_
  refine l_call (i := 58) (as := []) (v := .int r) (σ1 := τ') (rest := [.int r]) (pc0 := 1028) X (kX9_restore 0 τ (r, τ') e2) ob_58 vl_L_141 rfl (by decide) rfl (Nat.le_of_ble_eq_true rfl) dL_law_1025 rfl rfl rfl ?_
  refine l_same 1070 X dL_law_1028 (by decide) ?_
  exact K τ' h3
set_option maxRecDepth 20000 in
set_option maxHeartbeats 1000000 in
/-- count -/
theorem lc_30 {i0 : Nat} (X : LC D C p s m b L xs meth c) (hi : i0 + 4 ≤ L) (hR : Rel σ σ) (K : ∀ σ' : St, Rel σ' σ' → LW l D C ad p ev s m b below meth c 1070 (lvI ad b (nI i0)) [] σ') : LW l D C ad p ev s m b below meth c 1033 (lvI ad b (nI i0)) [] σ := by
  obtain ⟨r, e1, e2⟩ := s_count (xs (i0 + 1)) hR
  refine l_aload X dL_law_1033 rfl 2 rfl ?_
  refine l_arg (k := 1) (pc0 := 1039) X (by omega) rfl dL_law_1034 dL_law_1035 dL_law_1036 dL_law_1037 dL_law_1038 rfl ?_
  refine l_call (i := 0) (as := [.int (xs (i0 + 1))]) (v := .int r) (σ1 := σ) (rest := []) (pc0 := 1042) X (kX8_count 0 (xs (i0 + 1)) σ r e1) ob_0 vl_L_142 rfl (by decide) rfl (Nat.le_of_ble_eq_true rfl) dL_law_1039 rfl rfl rfl ?_
  refine l_aload X dL_law_1042 rfl 1 rfl ?_
  refine l_arg (k := 1) (pc0 := 1048) X (by omega) rfl dL_law_1043 dL_law_1044 dL_law_1045 dL_law_1046 dL_law_1047 rfl ?_
  refine l_call (i := 58) (as := [.int (xs (i0 + 1))]) (v := .int r) (σ1 := σ) (rest := [.int r]) (pc0 := 1051) X (kX9_count 0 (xs (i0 + 1)) σ r e2) ob_58 vl_L_145 rfl (by decide) rfl (Nat.le_of_ble_eq_true rfl) dL_law_1048 rfl rfl rfl ?_
  refine l_same 1070 X dL_law_1051 (by decide) ?_
  exact K σ hR
set_option maxRecDepth 20000 in
set_option maxHeartbeats 1000000 in
/-- digest -/
theorem lc_31 {i0 : Nat} (X : LC D C p s m b L xs meth c) (hi : i0 + 4 ≤ L) (hR : Rel σ σ) (K : ∀ σ' : St, Rel σ' σ' → LW l D C ad p ev s m b below meth c 1070 (lvI ad b (nI i0)) [] σ') : LW l D C ad p ev s m b below meth c 1056 (lvI ad b (nI i0)) [] σ := by
  obtain ⟨r, τ, τ', e1, e2, h3⟩ := tA (f8 := fX8_digest) (f9 := fX9_digest) (fun h => s_digest h) (fun σ q e => ⟨_, frX8_digest σ q e, by decide⟩) (fun σ q e => ⟨_, frX9_digest σ q e, by decide⟩) hR
  refine l_aload X dL_law_1056 rfl 2 rfl ?_
  refine l_call (i := 0) (as := []) (v := .long r) (σ1 := τ) (rest := []) (pc0 := 1060) X (kX8_digest 0 σ (r, τ) e1) ob_0 vl_L_146 rfl (by decide) rfl (Nat.le_of_ble_eq_true rfl) dL_law_1057 rfl rfl rfl ?_
  refine l_aload X dL_law_1060 rfl 1 rfl ?_
  refine l_call (i := 58) (as := []) (v := .long r) (σ1 := τ') (rest := [.long r]) (pc0 := 1064) X (kX9_digest 0 τ (r, τ') e2) ob_58 vl_L_150 rfl (by decide) rfl (Nat.le_of_ble_eq_true rfl) dL_law_1061 rfl rfl rfl ?_
  refine l_sameL 1070 X dL_law_1064 dL_law_1065 (by decide) ?_
  exact K τ' h3
end LK
