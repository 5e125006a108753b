theorem nw_L_7 : NWf R_law 7 8 11 [.null, .null, .null, .null, .null, .null, .null, .null, .null, .int 0, .int 0] := ⟨RX8, TX8, tyX8, rfl, lays_X8, tyX8_ok, aT_in 61 (by decide +kernel) rfl, aT_in 62 (by decide +kernel) rfl, aT_in 48 (by decide +kernel) rfl, (fun j hj => by rcases (show j = 0 ∨ j = 1 ∨ j = 2 ∨ j = 3 ∨ j = 4 ∨ j = 5 ∨ j = 6 ∨ j = 7 ∨ j = 8 ∨ j = 9 ∨ j = 10 by omega) with rfl | rfl | rfl | rfl | rfl | rfl | rfl | rfl | rfl | rfl | rfl <;> rfl)⟩
theorem il_L_9 : IL R_law 9 MX8_init := ⟨Or.inl (aT_in 63 (by decide +kernel) rfl), aT_in 64 (by decide +kernel) rfl, aT_in 48 (by decide +kernel) rfl, cw_X8_init, rfl, rfl, ⟨by decide, by decide, by decide +kernel⟩, by decide⟩
theorem nw_L_10 : NWf R_law 10 9 46 [.null, .int 0, .int 0, .int 0, .int 0, .int 0, .int 0, .int 0, .int 0, .int 0, .int 0, .int 0, .int 0, .null, .null, .null, .null, .null, .int 0, .int 0, .int 0, .null, .int 0, .null, .null, .null, .null, .null, .null, .null, .null, .null, .null, .int 0, .int 0, .null, .int 0, .int 0, .int 0, .int 0, .null, .null, .null, .null, .null, .long 0] := ⟨RX9, TX9, tyX9, rfl, lays_X9, tyX9_ok, aT_in 724 (by decide +kernel) rfl, aT_in 725 (by decide +kernel) rfl, aT_in 57 (by decide +kernel) rfl, (fun j hj => by rcases (show j = 0 ∨ j = 1 ∨ j = 2 ∨ j = 3 ∨ j = 4 ∨ j = 5 ∨ j = 6 ∨ j = 7 ∨ j = 8 ∨ j = 9 ∨ j = 10 ∨ j = 11 ∨ j = 12 ∨ j = 13 ∨ j = 14 ∨ j = 15 ∨ j = 16 ∨ j = 17 ∨ j = 18 ∨ j = 19 ∨ j = 20 ∨ j = 21 ∨ j = 22 ∨ j = 23 ∨ j = 24 ∨ j = 25 ∨ j = 26 ∨ j = 27 ∨ j = 28 ∨ j = 29 ∨ j = 30 ∨ j = 31 ∨ j = 32 ∨ j = 33 ∨ j = 34 ∨ j = 35 ∨ j = 36 ∨ j = 37 ∨ j = 38 ∨ j = 39 ∨ j = 40 ∨ j = 41 ∨ j = 42 ∨ j = 43 ∨ j = 44 ∨ j = 45 by omega) with rfl | rfl | rfl | rfl | rfl | rfl | rfl | rfl | rfl | rfl | rfl | rfl | rfl | rfl | rfl | rfl | rfl | rfl | rfl | rfl | rfl | rfl | rfl | rfl | rfl | rfl | rfl | rfl | rfl | rfl | rfl | rfl | rfl | rfl | rfl | rfl | rfl | rfl | rfl | rfl | rfl | rfl | rfl | rfl | rfl | rfl <;> rfl)⟩
theorem il_L_12 : IL R_law 12 MX9_init := ⟨Or.inl (aT_in 726 (by decide +kernel) rfl), aT_in 727 (by decide +kernel) rfl, aT_in 57 (by decide +kernel) rfl, cw_X9_init, rfl, rfl, ⟨by decide, by decide, by decide +kernel⟩, by decide⟩
theorem m31 (v : Int32) : ∃ j : Nat, j < 32 ∧ v &&& 31 = nI j := by
  refine ⟨v.toBitVec.toNat % 32, Nat.mod_lt _ (by decide), ?_⟩
  apply Int32.toBitVec_inj.mp
  apply BitVec.eq_of_toNat_eq
  rw [Int32.toBitVec_and, BitVec.toNat_and]
  show (v.toBitVec.toNat &&& (2 ^ 5 - 1)) = (v.toBitVec.toNat % 32) % 2 ^ 32
  rw [Nat.and_two_pow_sub_one_eq_mod]
  omega
theorem l_room {L i0 : Nat} (hL : L ≤ 2048) (hi : i0 ≤ 4000) (h : ¬ nI L - 4 < nI i0) : i0 + 4 ≤ L := by
  by_cases z : 4 ≤ L
  · obtain ⟨k, rfl⟩ : ∃ k, L = k + 4 := ⟨L - 4, by omega⟩
    have e : nI (k + 4) - 4 = nI k := by
      rw [← nI_add]
      exact Int32.add_sub_cancel (nI k) (nI 4)
    rw [e] at h
    by_cases y : k < i0
    · exact absurd (nI_lt y (by omega)) h
    · omega
  · exfalso
    apply h
    rw [Int32.lt_iff_toInt_lt, nI_toInt (by omega)]
    have e : (nI L - 4).toInt = (L : Int) - 4 := by
      rcases (show L = 0 ∨ L = 1 ∨ L = 2 ∨ L = 3 by omega) with rfl | rfl | rfl | rfl <;> decide
    omega
section LZ
variable {l : Launch} {D : va_G} {C : CT} {ad : Nat → Nat} {p : Program} {ev : Env} {s : State} {m : MethodId} {b L : Nat} {xs : Nat → Int32} {below : List Frame} {meth : Method} {c : Code}
set_option maxRecDepth 20000 in
set_option maxHeartbeats 4000000 in
theorem law_loop (X : LC D C p s m b L xs meth c) : ∀ (d i0 : Nat) (σ : St), i0 ≤ 4000 → L < i0 + 4 * (d + 1) → Rel σ σ → LW l D C ad p ev s m b below meth c 18 (lvI ad b (nI i0)) [] σ := by
  have hL := X.2.2
  intro d
  induction d with
  | zero =>
    intro i0 σ h0 hd hR
    refine l_iload X dL_law_18 rfl 0 rfl ?_
    refine l_aload X dL_law_19 rfl 3 rfl ?_
    refine l_len X dL_law_20 ?_
    refine l_iconst 4 X dL_law_21 (by decide) ?_
    refine l_isub X dL_law_22 ?_
    refine l_gt 1076 X dL_law_23 (by decide) (fun _ => ?_) (fun h => ?_)
    · refine l_iconst 1 X dL_law_1076 (by decide) ?_
      exact l_end X dL_law_1077
    · have := l_room hL h0 h
      omega
  | succ d ih =>
    intro i0 σ h0 hd hR
    refine l_iload X dL_law_18 rfl 0 rfl ?_
    refine l_aload X dL_law_19 rfl 3 rfl ?_
    refine l_len X dL_law_20 ?_
    refine l_iconst 4 X dL_law_21 (by decide) ?_
    refine l_isub X dL_law_22 ?_
    refine l_gt 1076 X dL_law_23 (by decide) (fun _ => ?_) (fun h => ?_)
    · refine l_iconst 1 X dL_law_1076 (by decide) ?_
      exact l_end X dL_law_1077
    · have hi := l_room hL h0 h
      have K : ∀ σ' : St, Rel σ' σ' → LW l D C ad p ev s m b below meth c 1070 (lvI ad b (nI i0)) [] σ' := fun σ' hR' => by
        refine l_iinc (nI (i0 + 4)) X dL_law_1070 0 rfl (nI_add i0 4) (by decide) rfl ?_
        refine l_goto 18 X dL_law_1073 (by decide) ?_
        exact ih (i0 + 4) σ' (by omega) (by omega) hR'
      refine l_aload X dL_law_26 rfl 3 rfl ?_
      refine l_iload X dL_law_27 rfl 0 rfl ?_
      refine l_get X (show i0 < L by omega) dL_law_28 ?_
      refine l_bipush 31 X dL_law_29 (by decide) ?_
      refine l_iand X dL_law_31 ?_
      obtain ⟨j, hj, ej⟩ := m31 (xs i0)
      rw [ej]
      match j, hj with
      | 0, _ => exact l_tab 176 X dL_law_32 (by decide) (by decide) rfl (by decide) (lc_0 X hi hR K)
      | 1, _ => exact l_tab 229 X dL_law_32 (by decide) (by decide) rfl (by decide) (lc_1 X hi hR K)
      | 2, _ => exact l_tab 242 X dL_law_32 (by decide) (by decide) rfl (by decide) (lc_2 X hi hR K)
      | 3, _ => exact l_tab 255 X dL_law_32 (by decide) (by decide) rfl (by decide) (lc_3 X hi hR K)
      | 4, _ => exact l_tab 268 X dL_law_32 (by decide) (by decide) rfl (by decide) (lc_4 X hi hR K)
      | 5, _ => exact l_tab 291 X dL_law_32 (by decide) (by decide) rfl (by decide) (lc_5 X hi hR K)
      | 6, _ => exact l_tab 314 X dL_law_32 (by decide) (by decide) rfl (by decide) (lc_6 X hi hR K)
      | 7, _ => exact l_tab 373 X dL_law_32 (by decide) (by decide) rfl (by decide) (lc_7 X hi hR K)
      | 8, _ => exact l_tab 416 X dL_law_32 (by decide) (by decide) rfl (by decide) (lc_8 X hi hR K)
      | 9, _ => exact l_tab 449 X dL_law_32 (by decide) (by decide) rfl (by decide) (lc_9 X hi hR K)
      | 10, _ => exact l_tab 482 X dL_law_32 (by decide) (by decide) rfl (by decide) (lc_10 X hi hR K)
      | 11, _ => exact l_tab 505 X dL_law_32 (by decide) (by decide) rfl (by decide) (lc_11 X hi hR K)
      | 12, _ => exact l_tab 538 X dL_law_32 (by decide) (by decide) rfl (by decide) (lc_12 X hi hR K)
      | 13, _ => exact l_tab 571 X dL_law_32 (by decide) (by decide) rfl (by decide) (lc_13 X hi hR K)
      | 14, _ => exact l_tab 604 X dL_law_32 (by decide) (by decide) rfl (by decide) (lc_14 X hi hR K)
      | 15, _ => exact l_tab 627 X dL_law_32 (by decide) (by decide) rfl (by decide) (lc_15 X hi hR K)
      | 16, _ => exact l_tab 660 X dL_law_32 (by decide) (by decide) rfl (by decide) (lc_16 X hi hR K)
      | 17, _ => exact l_tab 683 X dL_law_32 (by decide) (by decide) rfl (by decide) (lc_17 X hi hR K)
      | 18, _ => exact l_tab 716 X dL_law_32 (by decide) (by decide) rfl (by decide) (lc_18 X hi hR K)
      | 19, _ => exact l_tab 739 X dL_law_32 (by decide) (by decide) rfl (by decide) (lc_19 X hi hR K)
      | 20, _ => exact l_tab 783 X dL_law_32 (by decide) (by decide) rfl (by decide) (lc_20 X hi hR K)
      | 21, _ => exact l_tab 796 X dL_law_32 (by decide) (by decide) rfl (by decide) (lc_21 X hi hR K)
      | 22, _ => exact l_tab 819 X dL_law_32 (by decide) (by decide) rfl (by decide) (lc_22 X hi hR K)
      | 23, _ => exact l_tab 862 X dL_law_32 (by decide) (by decide) rfl (by decide) (lc_23 X hi hR K)
      | 24, _ => exact l_tab 905 X dL_law_32 (by decide) (by decide) rfl (by decide) (lc_24 X hi hR K)
      | 25, _ => exact l_tab 938 X dL_law_32 (by decide) (by decide) rfl (by decide) (lc_25 X hi hR K)
      | 26, _ => exact l_tab 971 X dL_law_32 (by decide) (by decide) rfl (by decide) (lc_26 X hi hR K)
      | 27, _ => exact l_tab 984 X dL_law_32 (by decide) (by decide) rfl (by decide) (lc_27 X hi hR K)
      | 28, _ => exact l_tab 1007 X dL_law_32 (by decide) (by decide) rfl (by decide) (lc_28 X hi hR K)
      | 29, _ => exact l_tab 1020 X dL_law_32 (by decide) (by decide) rfl (by decide) (lc_29 X hi hR K)
      | 30, _ => exact l_tab 1033 X dL_law_32 (by decide) (by decide) rfl (by decide) (lc_30 X hi hR K)
      | 31, _ => exact l_tab 1056 X dL_law_32 (by decide) (by decide) rfl (by decide) (lc_31 X hi hR K)
      | j + 32, hj => exact absurd hj (by omega)
end LZ
/-- a constructor's call out of the law -/
theorem w_make {l : Launch} {D : va_G} {C : CT} {p : Program} {ev : Env} {R : Room} {s : State} {m : MethodId} {args : Array Value} {below : List Frame} {meth : Method} {c : Code} {A0 : Nat → Prop} {H : Heap} {locs : List Loc} {ls : Array Slot} {cells slots nL pc : Nat} {cc : ByteArray} {own : String} {Q : State → Prop} {stk : List Value} {ws : va_W} {e' mc' ms' ix q : Nat} {wc : va_W → Prop} {x : va_E} {M' : MI}
    (hx : p.tables.exec = Jvm.exec) (hb : c.code = cc) (hml : c.maxLocals = nL) (hown : s.vm.findClass own = some m.cls) (hts : ∀ w ∈ aT, w.before args s = true) (hK : nK D C s) (hA : ∀ q, s.heap.size ≤ q → A0 q) (Y : NH D A0 s (ws ++ [(q, x)]) H locs) (hls : ls.size = nL)
    (hs : NSp C e' mc' ms' wc M' q [(q, x)]) (hL : IL own ix M') (he : e' + 1 ≤ R.frames ∧ 34 * (e' + 1) ≤ R.locals) (h1 : cells + mc' ≤ R.cells) (h2 : slots + ms' ≤ R.slots) (hw : (stk.map fun v => v.category).sum ≤ 8) (hd : decode cc pc = .ok (.invokespecial ix, 3))
    (kk : ∀ (wn : va_W) (H1 : Heap) (locs1 : List Loc), wc wn → NH D A0 s (ws ++ wn) H1 locs1 → W p l ev R s m args below meth c H1 locs1 (cells + mc') (slots + ms') Q (F0 m (pc + 3) ls stk)) : W p l ev R s m args below meth c H locs cells slots Q (F0 m pc ls (.ref q :: stk)) := by
  obtain ⟨hlink, g2, g3, g4, g5, g6, g7, g8⟩ := hL
  have hat : (ws ++ [(q, x)])[ws.length]? = some (q, x) := by simp
  have one : ∀ (k : Nat) (y : Nat × va_E), [(q, x)][k]? = some y → k = 0 ∧ y = (q, x) := fun k y hy => by
    have hz : k < 1 := (List.getElem?_eq_some_iff.mp hy).1
    have hz2 : k = 0 := by omega
    subst hz2
    exact ⟨rfl, (Option.some.inj hy).symm⟩
  have hPc : va_P D vwCl [(q, x)] H := fun k y hy => by
    rw [(one k y hy).2]
    exact Y.1 ws.length _ hat
  have hDc : va_D (fun _ => True) [(q, x)] := ⟨fun i j y z hy hz _ => by rw [(one i y hy).1, (one j z hz).1], fun _ _ _ => trivial⟩
  have hFc : ∀ z, va_A [(q, x)] H.size z → A0 z := by
    intro z hz
    rcases hz with ⟨k, w, hw2⟩ | hz
    · have := (one k _ hw2).2
      have hzq : z = q := congrArg Prod.fst this
      rw [hzq]
      exact Y.2.1.2 ws.length _ hat
    · exact hA z (Nat.le_trans Y.2.2.1 hz)
  have hW : 2 * (F0 m pc ls (.ref q :: stk)).monitorRoom + (stk.map fun v => v.category).sum ≤ 8 := lv_room hw
  have hpre : PreS s H (va_Pc [.ref q] (fun U => U.heap.size = H.size ∧ va_P D vwCl [(q, x)] U.heap ∧ nK D C U ∧ va_D (fun _ => True) [(q, x)])) (.ref q :: []) :=
    ⟨n_blind, fun U hU hWm => ⟨rfl, by rw [hU], by rw [hU]; exact hPc, hK.warm hWm, hDc⟩⟩
  have hroom : e' + 1 ≤ R.frames ∧ 8 + (M'.2.2.1 + 11) + 34 * e' ≤ R.locals := ⟨he.1, by have := he.2; omega⟩
  have hmw : mWs M' = Cond.code M'.1 M'.2.1 M'.2.2.1 none :: aT := by unfold mWs; rw [g6]
  have hrun : va_Run p l ev R s m args below meth c H locs cells slots mc' ms' (F0 m pc ls (.ref q :: stk)) stk (nQ D C (va_A [(q, x)] H.size) wc (Value.ref q :: []).toArray) (va_A [(q, x)] H.size) := by
    rcases hlink with w | ⟨host, w⟩
    · exact va_runI ⟨hx, hb, hml, hown, hts⟩ (hs l D H.size) ⟨callB_of (ws' := aT) 0 hts (mWs_good g4) hmw rfl rfl (hts _ g3) (hts _ w) g7 hroom, g5, hts _ g2⟩ hpre rfl rfl hls rfl hW hd ⟨h1, h2⟩
    · exact va_runIN ⟨hx, hb, hml, hown, hts⟩ (hs l D H.size) ⟨va_cnB (ws' := aT) 0 hts (mWs_good g4) hmw rfl rfl (hK.1.2 _ w) (hts _ g3) g7 hroom, g5, hts _ g2⟩ hpre rfl rfl hls rfl hW hd ⟨h1, h2⟩
  intro T hT XS
  obtain ⟨v, st₀, t, T', L, h0, X', hLq, e1, e2, ⟨⟨hv, wn, hwn, hP1, hK1, hD1⟩, hz, hk⟩, st⟩ := hrun T hT XS
  rw [h0] at hz hk
  obtain ⟨jP, jD⟩ := n_join Y.1 Y.2.1 hk hFc hP1 hD1
  have hv' : v = none := by injection hv
  subst hv'
  have hS : va_S A0 s.heap T'.heap (locs ++ L) := by
    refine ⟨Nat.le_trans Y.2.2.1 (by rw [e1]; exact hz), fun z a1 a2 => ?_, fun z hz2 => ?_⟩
    · rw [e1, hk z (Nat.lt_of_lt_of_le a1 Y.2.2.1) (fun w => a2 (hFc z w))]
      exact Y.2.2.2.1 z a1 a2
    · rcases List.mem_append.mp hz2 with h | h
      · exact Y.2.2.2.2 z h
      · exact hFc _ (hLq z h)
  obtain ⟨t2, a1, b1⟩ := kk wn T'.heap (locs ++ L) hwn ⟨by rw [e1]; exact jP, jD, hS⟩ T' rfl X'
  exact ⟨t2, st t2 a1, b1⟩
/-- the classes' numbers, the arrays' classes -/
theorem knows0 {s : State} {args : Array Value} (hts : ∀ w ∈ lw_tbl, w.before args s = true) : ∃ (D : va_G) (C : CT), nK D C s := by
  have ht : ∀ w ∈ aT, w.before args s = true := fun w hw2 => hts w (List.mem_filter.mp hw2).1
  obtain ⟨c0, i0, h0⟩ := u_known (C := RX0) (T := TX0) (N := 3) (n := 3) ht lays_X0 (ht _ (aT_in 245 (by decide +kernel) rfl))
  obtain ⟨c1, i1, h1⟩ := u_known (C := RX1) (T := TX1) (N := 2) (n := 2) ht lays_X1 (ht _ (aT_in 231 (by decide +kernel) rfl))
  obtain ⟨c2, i2, h2⟩ := u_known (C := RX2) (T := TX2) (N := 1) (n := 1) ht lays_X2 (ht _ (aT_in 206 (by decide +kernel) rfl))
  obtain ⟨c3, i3, h3⟩ := u_known (C := RX3) (T := TX3) (N := 8) (n := 8) ht lays_X3 (ht _ (aT_in 122 (by decide +kernel) rfl))
  obtain ⟨c4, i4, h4⟩ := u_known (C := RX4) (T := TX4) (N := 4) (n := 4) ht lays_X4 (ht _ (aT_in 88 (by decide +kernel) rfl))
  obtain ⟨c5, i5, h5⟩ := u_known (C := RX5) (T := TX5) (N := 2) (n := 2) ht lays_X5 (ht _ (aT_in 70 (by decide +kernel) rfl))
  obtain ⟨c6, i6, h6⟩ := u_known (C := RX6) (T := TX6) (N := 2) (n := 2) ht lays_X6 (ht _ (aT_in 217 (by decide +kernel) rfl))
  obtain ⟨c7, i7, h7⟩ := u_known (C := RX7) (T := TX7) (N := 9) (n := 9) ht lays_X7 (ht _ (aT_in 115 (by decide +kernel) rfl))
  obtain ⟨c8, i8, h8⟩ := u_known (C := RX8) (T := TX8) (N := 11) (n := 11) ht lays_X8 (ht _ (aT_in 62 (by decide +kernel) rfl))
  obtain ⟨c9, i9, h9⟩ := u_known (C := RX9) (T := TX9) (N := 46) (n := 46) ht lays_X9 (ht _ (aT_in 725 (by decide +kernel) rfl))
  obtain ⟨D, hD⟩ : ∃ D : va_G, ∀ (k : Nat) (q : vw_C), vwCl[k]? = some q → u_Kn s q.1 q.2.1 q.2.2 (D.1 k) (D.2 k) := by
    refine ⟨(fun k => [c0, c1, c2, c3, c4, c5, c6, c7, c8, c9].getD k c0, fun k => [i0, i1, i2, i3, i4, i5, i6, i7, i8, i9].getD k i0), ?_⟩
    intro k q hq
    match k, hq with
    | 0, hq => cases hq; exact h0
    | 1, hq => cases hq; exact h1
    | 2, hq => cases hq; exact h2
    | 3, hq => cases hq; exact h3
    | 4, hq => cases hq; exact h4
    | 5, hq => cases hq; exact h5
    | 6, hq => cases hq; exact h6
    | 7, hq => cases hq; exact h7
    | 8, hq => cases hq; exact h8
    | 9, hq => cases hq; exact h9
    | k + 10, hq => simp [vwCl] at hq
  obtain ⟨cI, kI, compI, a1, a2, a3⟩ := Cond.arrayClass_spec (ht _ arrI)
  obtain ⟨cJ, kJ, compJ, b1, b2, b3⟩ := Cond.arrayClass_spec (ht _ arrJ)
  have ho : (Cond.arrayOver (.object "GivenGoesOn$Gift")).before args s = true := hts _ (List.mem_of_getElem? (i := 121) (by decide +kernel))
  obtain ⟨compG, cG, kG, d1, d2, d3, d4, d5⟩ := Cond.arrayOver_spec ho
  refine ⟨D, (cI, cJ, cG), ⟨⟨hD, fun k q hk => ?_⟩, fun w hw => ?_⟩, va_AO.of ho⟩
  · match k, hk with
    | 0, hk => cases hk; exact ⟨fun n z => ⟨fun k h => (by cases h), kI, a2, compI, a3⟩, a1⟩
    | 1, hk => cases hk; exact ⟨fun n z => ⟨fun k h => (by cases h), kJ, b2, compJ, b3⟩, b1⟩
    | 2, hk => cases hk; exact ⟨fun n z => ⟨fun k h => (by cases h), kG, d3, compG, d4⟩, ⟨kG, compG, d3, d4, d1, d5⟩⟩
    | k + 3, hk => simp [aTys] at hk
  · obtain ⟨own, i, x, host, rfl⟩ := isNest_of (List.mem_filter.mp hw).2
    exact va_Nw.of rfl (hts _ (List.mem_filter.mp hw).1)
-- ===== YOUR PART BEGINS =====
set_option maxRecDepth 100000 in
set_option maxHeartbeats 4000000 in
/-- THE LAW, from its entry -/
theorem whole_start {p : Program} {e : Env} {s : State} {m : MethodId} {below : List Frame} {meth : Method} {c : Code} (l : Launch) (hflags : l.flags = flags0) {b L : Nat} {xs : Nat → Int32} (hL : L ≤ 2048) (C0 : lw_At p s m meth c b L xs) : W p l e room_1 s m #[Value.ref b] below meth c s.heap [] 0 0 (lw_Z below #[Value.ref b] s) (entryFrame m ([Value.ref b] : List Value).toArray 4) := by
  obtain ⟨hx, hb, hr, hml, hown, hts0, hX, hbl, hlocks, hgv⟩ := id C0
  obtain ⟨D, C, hK⟩ := knows0 hts0
  have hts : ∀ w ∈ aT, w.before #[Value.ref b] s = true := fun w hw2 => hts0 w (List.mem_filter.mp hw2).1
  have hA : ∀ q : Nat, s.heap.size ≤ q → (fun q : Nat => s.heap.size ≤ q) q := fun _ h => h
  have hl := lv_entry ([.ref b]) (n := 4) (Nat.le_of_ble_eq_true rfl)
  rw [lg_entry_eq]
  generalize (lg_sl ([.ref b]) ++ List.replicate (4 - (lg_sl ([.ref b])).length) Slot.unset).toArray = ls at hl ⊢
  have hl : lv_has ls 4 [(0, .ref b)] := hl
  obtain ⟨Cn, T, ty, g1, g2, g3, g4, g5, g6, g7⟩ := nw_L_7
  refine va_new (A := fun q : Nat => s.heap.size ≤ q) (ws := []) hx hb hts g2 ty g3 hown (hts _ g4) (hts _ g5) (hts _ g6) hK.1.1 (fun k q h => by simp at h) ⟨fun i j p q h => by simp at h, fun k q h => by simp at h⟩ va_S.rf hA g1 g7 (Nat.le_of_ble_eq_true rfl) (Nat.le_of_ble_eq_true rfl) dL_law_0 (fun q0 H1 k1 k2 k3 => ?_)
  refine lv_dup hx hb dL_law_3 rfl ?_
  refine w_make hx hb hml hown hts hK hA ⟨k1, k2, k3⟩ hl.1 (nX8 C q0) il_L_9 ⟨Nat.le_of_ble_eq_true rfl, Nat.le_of_ble_eq_true rfl⟩ (Nat.le_of_ble_eq_true rfl) (Nat.le_of_ble_eq_true rfl) (Nat.le_of_ble_eq_true rfl) dL_law_4 (fun wn H2 locs2 hwn Y2 => ?_)
  obtain ⟨a, rfl, rfl⟩ := hwn
  refine lv_astore_n (lv' := [(1, .ref (a 0)), (0, .ref b)]) hx hb dL_law_7 rfl hl (by decide) rfl (fun ls hl => ?_)
  obtain ⟨Cn', T', ty', g1', g2', g3', g4', g5', g6', g7'⟩ := nw_L_10
  refine va_new (A := fun q : Nat => s.heap.size ≤ q) hx hb hts g2' ty' g3' hown (hts _ g4') (hts _ g5') (hts _ g6') hK.1.1 Y2.1 Y2.2.1 Y2.2.2 hA g1' g7' (Nat.le_of_ble_eq_true rfl) (Nat.le_of_ble_eq_true rfl) dL_law_8 (fun q1 H3 k1 k2 k3 => ?_)
  refine lv_dup hx hb dL_law_11 rfl ?_
  refine w_make hx hb hml hown hts hK hA ⟨k1, k2, k3⟩ hl.1 (nX9 C q1) il_L_12 ⟨Nat.le_of_ble_eq_true rfl, Nat.le_of_ble_eq_true rfl⟩ (Nat.le_of_ble_eq_true rfl) (Nat.le_of_ble_eq_true rfl) (Nat.le_of_ble_eq_true rfl) dL_law_12 (fun wn H4 locs4 hwn Y4 => ?_)
  obtain ⟨a', rfl, rfl⟩ := hwn
  refine lv_astore_n (lv' := [(2, .ref (a' 0)), (1, .ref (a 0)), (0, .ref b)]) hx hb dL_law_15 rfl hl (by decide) rfl (fun ls hl => ?_)
  refine lv_iconst (v := 0) hx hb dL_law_16 (by decide) ?_
  refine lv_istore_n (lv' := [(3, .int 0), (2, .ref (a' 0)), (1, .ref (a 0)), (0, .ref b)]) hx hb dL_law_17 rfl hl (by decide) rfl (fun ls hl => ?_)
  refine W.widen (k := 600000) (n := 7302250) (Nat.le_of_ble_eq_true rfl) (Nat.le_of_ble_eq_true rfl) ?_
  have Y5 : Hp D C (ad0 a a') (fun q => s.heap.size ≤ q) s sg0 H4 locs4 := ⟨firstP Y4.1, firstD Y4.2.1, Y4.2.2⟩
  exact law_loop (l := l) (ad := ad0 a a') (ev := e) (below := below) ⟨C0, hK.1, hL⟩ 2048 0 sg0 (by omega) (by omega) rel0 H4 locs4 ls Y5 hl
-- ===== YOUR PART ENDS =====
