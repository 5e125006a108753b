theorem nw_L_15 : NWf RL 15 8 11 [.null, .null, .null, .null, .null, .null, .null, .null, .null, .int 0, .int 0] := ⟨RX8, TX8, tyX8, rfl, lays_X8, tyX8_ok, aT_in 19 (by decide +kernel) rfl, aT_in 20 (by decide +kernel) rfl, aT_in 7 (by decide +kernel) rfl, (fun j hj => by rcases (show j = 0 ∨ j = 1 ∨ j = 2 ∨ j = 3 ∨ j = 4 ∨ j = 5 ∨ j = 6 ∨ j = 7 ∨ j = 8 ∨ j = 9 ∨ j = 10 by omega) with rfl | rfl | rfl | rfl | rfl | rfl | rfl | rfl | rfl | rfl | rfl <;> rfl)⟩
theorem il_L_81 : IL RL 81 MX8_init := ⟨Or.inl (aT_in 21 (by decide +kernel) rfl), aT_in 22 (by decide +kernel) rfl, aT_in 7 (by decide +kernel) rfl, cw_X8_init, rfl, rfl, ⟨by decide, by decide, by decide +kernel⟩, by decide⟩
/-- a constructor's call out of the law -/
theorem w_make {l : Launch} {D : va_G} {C : CT} {p : Program} {ev : Env} {R : Room} {s : State} {m : MethodId} {args : Array Value} {below : List Frame} {meth : Method} {c : Code} {A0 : Nat → Prop} {H : Heap} {locs : List Loc} {ls : Array Slot} {cells slots nL pc : Nat} {cc : ByteArray} {own : String} {Q : State → Prop} {stk : List Value} {ws : va_W} {e' mc' ms' ix q : Nat} {wc : va_W → Prop} {x : va_E} {M' : MI}
    (hx : p.tables.exec = Jvm.exec) (hb : c.code = cc) (hml : c.maxLocals = nL) (hown : s.vm.findClass own = some m.cls) (hts : ∀ w ∈ aT, w.before args s = true) (hK : nK D C s) (hA : ∀ q, s.heap.size ≤ q → A0 q) (Y : NH D A0 s (ws ++ [(q, x)]) H locs) (hls : ls.size = nL)
    (hs : NSp C e' mc' ms' wc M' q [(q, x)]) (hL : IL own ix M') (he : e' + 1 ≤ R.frames ∧ 34 * (e' + 1) ≤ R.locals) (h1 : cells + mc' ≤ R.cells) (h2 : slots + ms' ≤ R.slots) (hw : (stk.map fun v => v.category).sum ≤ 8) (hd : decode cc pc = .ok (.invokespecial ix, 3))
    (kk : ∀ (wn : va_W) (H1 : Heap) (locs1 : List Loc), wc wn → NH D A0 s (ws ++ wn) H1 locs1 → W p l ev R s m args below meth c H1 locs1 (cells + mc') (slots + ms') Q (F0 m (pc + 3) ls stk)) : W p l ev R s m args below meth c H locs cells slots Q (F0 m pc ls (.ref q :: stk)) := by
  obtain ⟨hlink, g2, g3, g4, g5, g6, g7, g8⟩ := hL
  have hat : (ws ++ [(q, x)])[ws.length]? = some (q, x) := by simp
  have one : ∀ (k : Nat) (y : Nat × va_E), [(q, x)][k]? = some y → k = 0 ∧ y = (q, x) := fun k y hy => by
    have hz : k < 1 := (List.getElem?_eq_some_iff.mp hy).1
    have hz2 : k = 0 := by omega
    subst hz2
    exact ⟨rfl, (Option.some.inj hy).symm⟩
  have hPc : va_P D vwCl [(q, x)] H := fun k y hy => by
    rw [(one k y hy).2]
    exact Y.1 ws.length _ hat
  have hDc : va_D (fun _ => True) [(q, x)] := ⟨fun i j y z hy hz _ => by rw [(one i y hy).1, (one j z hz).1], fun _ _ _ => trivial⟩
  have hFc : ∀ z, va_A [(q, x)] H.size z → A0 z := by
    intro z hz
    rcases hz with ⟨k, w, hw2⟩ | hz
    · have := (one k _ hw2).2
      have hzq : z = q := congrArg Prod.fst this
      rw [hzq]
      exact Y.2.1.2 ws.length _ hat
    · exact hA z (Nat.le_trans Y.2.2.1 hz)
  have hW : 2 * (F0 m pc ls (.ref q :: stk)).monitorRoom + (stk.map fun v => v.category).sum ≤ 8 := lv_room hw
  have hpre : PreS s H (va_Pc [.ref q] (fun U => U.heap.size = H.size ∧ va_P D vwCl [(q, x)] U.heap ∧ nK D C U ∧ va_D (fun _ => True) [(q, x)])) (.ref q :: []) :=
    ⟨n_blind, fun U hU hWm => ⟨rfl, by rw [hU], by rw [hU]; exact hPc, hK.warm hWm, hDc⟩⟩
  have hroom : e' + 1 ≤ R.frames ∧ 8 + (M'.2.2.1 + 11) + 34 * e' ≤ R.locals := ⟨he.1, by have := he.2; omega⟩
  have hmw : mWs M' = Cond.code M'.1 M'.2.1 M'.2.2.1 none :: aT := by unfold mWs; rw [g6]
  have hrun : va_Run p l ev R s m args below meth c H locs cells slots mc' ms' (F0 m pc ls (.ref q :: stk)) stk (nQ D C (va_A [(q, x)] H.size) wc (Value.ref q :: []).toArray) (va_A [(q, x)] H.size) := by
    rcases hlink with w | ⟨host, w⟩
    · exact va_runI ⟨hx, hb, hml, hown, hts⟩ (hs l D H.size) ⟨callB_of (ws' := aT) 0 hts (mWs_good g4) hmw rfl rfl (hts _ g3) (hts _ w) g7 hroom, g5, hts _ g2⟩ hpre rfl rfl hls rfl hW hd ⟨h1, h2⟩
    · exact va_runIN ⟨hx, hb, hml, hown, hts⟩ (hs l D H.size) ⟨va_cnB (ws' := aT) 0 hts (mWs_good g4) hmw rfl rfl (hK.1.2 _ w) (hts _ g3) g7 hroom, g5, hts _ g2⟩ hpre rfl rfl hls rfl hW hd ⟨h1, h2⟩
  intro T hT XS
  obtain ⟨v, st₀, t, T', L, h0, X', hLq, e1, e2, ⟨⟨hv, wn, hwn, hP1, hK1, hD1⟩, hz, hk⟩, st⟩ := hrun T hT XS
  rw [h0] at hz hk
  obtain ⟨jP, jD⟩ := n_join Y.1 Y.2.1 hk hFc hP1 hD1
  have hv' : v = none := by injection hv
  subst hv'
  have hS : va_S A0 s.heap T'.heap (locs ++ L) := by
    refine ⟨Nat.le_trans Y.2.2.1 (by rw [e1]; exact hz), fun z a1 a2 => ?_, fun z hz2 => ?_⟩
    · rw [e1, hk z (Nat.lt_of_lt_of_le a1 Y.2.2.1) (fun w => a2 (hFc z w))]
      exact Y.2.2.2.1 z a1 a2
    · rcases List.mem_append.mp hz2 with h | h
      · exact Y.2.2.2.2 z h
      · exact hFc _ (hLq z h)
  obtain ⟨t2, a1, b1⟩ := kk wn T'.heap (locs ++ L) hwn ⟨by rw [e1]; exact jP, jD, hS⟩ T' rfl X'
  exact ⟨t2, st t2 a1, b1⟩
/-- the classes' numbers, the arrays' classes -/
theorem knows0 {s : State} {args : Array Value} (hts : ∀ w ∈ lw_tbl, w.before args s = true) : ∃ (D : va_G) (C : CT), nK D C s := by
  have ht : ∀ w ∈ aT, w.before args s = true := fun w hw2 => hts w (List.mem_filter.mp hw2).1
  obtain ⟨c0, i0, h0⟩ := u_known (C := RX0) (T := TX0) (N := 3) (n := 3) ht lays_X0 (ht _ (aT_in 197 (by decide +kernel) rfl))
  obtain ⟨c1, i1, h1⟩ := u_known (C := RX1) (T := TX1) (N := 2) (n := 2) ht lays_X1 (ht _ (aT_in 184 (by decide +kernel) rfl))
  obtain ⟨c2, i2, h2⟩ := u_known (C := RX2) (T := TX2) (N := 1) (n := 1) ht lays_X2 (ht _ (aT_in 159 (by decide +kernel) rfl))
  obtain ⟨c3, i3, h3⟩ := u_known (C := RX3) (T := TX3) (N := 8) (n := 8) ht lays_X3 (ht _ (aT_in 79 (by decide +kernel) rfl))
  obtain ⟨c4, i4, h4⟩ := u_known (C := RX4) (T := TX4) (N := 4) (n := 4) ht lays_X4 (ht _ (aT_in 45 (by decide +kernel) rfl))
  obtain ⟨c5, i5, h5⟩ := u_known (C := RX5) (T := TX5) (N := 2) (n := 2) ht lays_X5 (ht _ (aT_in 28 (by decide +kernel) rfl))
  obtain ⟨c6, i6, h6⟩ := u_known (C := RX6) (T := TX6) (N := 2) (n := 2) ht lays_X6 (ht _ (aT_in 170 (by decide +kernel) rfl))
  obtain ⟨c7, i7, h7⟩ := u_known (C := RX7) (T := TX7) (N := 9) (n := 9) ht lays_X7 (ht _ (aT_in 72 (by decide +kernel) rfl))
  obtain ⟨c8, i8, h8⟩ := u_known (C := RX8) (T := TX8) (N := 11) (n := 11) ht lays_X8 (ht _ (aT_in 20 (by decide +kernel) rfl))
  obtain ⟨D, hD⟩ : ∃ D : va_G, ∀ (k : Nat) (q : vw_C), vwCl[k]? = some q → u_Kn s q.1 q.2.1 q.2.2 (D.1 k) (D.2 k) := by
    refine ⟨(fun k => [c0, c1, c2, c3, c4, c5, c6, c7, c8].getD k c0, fun k => [i0, i1, i2, i3, i4, i5, i6, i7, i8].getD k i0), ?_⟩
    intro k q hq
    match k, hq with
    | 0, hq => cases hq; exact h0
    | 1, hq => cases hq; exact h1
    | 2, hq => cases hq; exact h2
    | 3, hq => cases hq; exact h3
    | 4, hq => cases hq; exact h4
    | 5, hq => cases hq; exact h5
    | 6, hq => cases hq; exact h6
    | 7, hq => cases hq; exact h7
    | 8, hq => cases hq; exact h8
    | k + 9, hq => simp [vwCl] at hq
  obtain ⟨cI, kI, compI, a1, a2, a3⟩ := Cond.arrayClass_spec (ht _ arrI)
  obtain ⟨cJ, kJ, compJ, b1, b2, b3⟩ := Cond.arrayClass_spec (ht _ arrJ)
  have ho : (Cond.arrayOver (.object "GivenGoesOn$Gift")).before args s = true := hts _ (List.mem_of_getElem? (i := 78) (by decide +kernel))
  obtain ⟨compG, cG, kG, d1, d2, d3, d4, d5⟩ := Cond.arrayOver_spec ho
  refine ⟨D, (cI, cJ, cG), ⟨⟨hD, fun k q hk => ?_⟩, fun w hw => ?_⟩, va_AO.of ho⟩
  · match k, hk with
    | 0, hk => cases hk; exact ⟨fun n z => ⟨fun k h => (by cases h), kI, a2, compI, a3⟩, a1⟩
    | 1, hk => cases hk; exact ⟨fun n z => ⟨fun k h => (by cases h), kJ, b2, compJ, b3⟩, b1⟩
    | 2, hk => cases hk; exact ⟨fun n z => ⟨fun k h => (by cases h), kG, d3, compG, d4⟩, ⟨kG, compG, d3, d4, d1, d5⟩⟩
    | k + 3, hk => simp [aTys] at hk
  · obtain ⟨own, i, x, host, rfl⟩ := isNest_of (List.mem_filter.mp hw).2
    exact va_Nw.of rfl (hts _ (List.mem_filter.mp hw).1)
/-- an array of ints made by the law -/
theorem w_newI {l : Launch} {D : va_G} {C : CT} {p : Program} {ev : Env} {R : Room} {s : State} {m : MethodId} {args : Array Value} {below : List Frame} {meth : Method} {c : Code} {A0 : Nat → Prop} {H : Heap} {locs : List Loc} {ls : Array Slot} {cells slots pc : Nat} {cc : ByteArray} {Q : State → Prop} {stk : List Value} {ws : va_W} {n : Int32} (len : Nat)
    (hx : p.tables.exec = Jvm.exec) (hb : c.code = cc) (hts : ∀ w ∈ aT, w.before args s = true) (hK : nK D C s) (hA : ∀ q, s.heap.size ≤ q → A0 q) (Y : NH D A0 s ws H locs) (hn : ¬ n < 0) (hN : n.toNatClampNeg = len) (hbytes : len * 4 ≤ 536870912) (h1 : cells + 1 ≤ R.cells) (h2 : slots + len ≤ R.slots) (hd : decode cc pc = .ok (.newarray .int, 2))
    (kk : ∀ (q : Nat) (H1 : Heap), NH D A0 s (ws ++ [(q, .inl (C.1, (len, .inl fun _ => 0)))]) H1 locs → W p l ev R s m args below meth c H1 locs (cells + 1) (slots + len) Q (F0 m (pc + 2) ls (.ref q :: stk))) : W p l ev R s m args below meth c H locs cells slots Q (F0 m pc ls (.int n :: stk)) := by
  refine va_newa (atype := .int) hx hb (hts _ arrI) rfl hK.1.1 Y.1 Y.2.1 Y.2.2 hA (a0 := (len, .inl fun _ => 0)) (fun cA => rfl) hn hN hbytes h1 h2 hd (fun q cA H1 k1 k2 k3 k4 => ?_)
  have e1 : s.vm.findClass ("[" ++ FieldType.int.toString) = some cA := (k1.2 3 (cA, .int) rfl).2
  have e2 : s.vm.findClass ("[" ++ FieldType.int.toString) = some C.1 := (hK.1.1.2 0 (C.1, .int) rfl).2
  have e3 : cA = C.1 := Option.some.inj (e1.symm.trans e2)
  rw [e3] at k2 k3
  exact kk q H1 ⟨k2, k3, k4⟩
-- ===== YOUR PART BEGINS =====
set_option maxRecDepth 100000 in
set_option maxHeartbeats 4000000 in
/-- THE LAW, from its entry -/
theorem whole_start {p : Program} {e : Env} {s : State} {m : MethodId} {below : List Frame} {meth : Method} {c : Code} (l : Launch) (hflags : l.flags = flags0) {b L : Nat} {xs : Nat → Int32} (hL : L ≤ 260) (C0 : lw_At p s m meth c b L xs) : W p l e room_1 s m #[Value.ref b] below meth c s.heap [] 0 0 (lw_Z below #[Value.ref b] s) (entryFrame m ([Value.ref b] : List Value).toArray 25) := by
  obtain ⟨hx, hb, hr, hml, hown, hts0, hX, hbl, hlocks, hgv⟩ := id C0
  obtain ⟨D, C, hK⟩ := knows0 hts0
  have hts : ∀ w ∈ aT, w.before #[Value.ref b] s = true := fun w hw2 => hts0 w (List.mem_filter.mp hw2).1
  have hA : ∀ q : Nat, s.heap.size ≤ q → (fun q : Nat => s.heap.size ≤ q) q := fun _ h => h
  have hl := lv_entry ([.ref b]) (n := 25) (Nat.le_of_ble_eq_true rfl)
  rw [lg_entry_eq]
  generalize (lg_sl ([.ref b]) ++ List.replicate (25 - (lg_sl ([.ref b])).length) Slot.unset).toArray = ls at hl ⊢
  have hl : lv_has ls 25 [(0, .ref b)] := hl
  obtain ⟨Cn, T, ty, g1, g2, g3, g4, g5, g6, g7⟩ := nw_L_15
  refine va_new (A := fun q : Nat => s.heap.size ≤ q) (ws := []) hx hb hts g2 ty g3 hown (hts _ g4) (hts _ g5) (hts _ g6) hK.1.1 (fun k q h => by simp at h) ⟨fun i j p q h => by simp at h, fun k q h => by simp at h⟩ va_S.rf hA g1 g7 (Nat.le_of_ble_eq_true rfl) (Nat.le_of_ble_eq_true rfl) dL_law_0 (fun q0 H1 k1 k2 k3 => ?_)
  refine lv_dup hx hb dL_law_3 rfl ?_
  refine w_make hx hb hml hown hts hK hA ⟨k1, k2, k3⟩ hl.1 (nX8 C q0) il_L_81 ⟨Nat.le_of_ble_eq_true rfl, Nat.le_of_ble_eq_true rfl⟩ (Nat.le_of_ble_eq_true rfl) (Nat.le_of_ble_eq_true rfl) (Nat.le_of_ble_eq_true rfl) dL_law_4 (fun wn H2 locs2 hwn Y2 => ?_)
  obtain ⟨a, rfl, rfl⟩ := hwn
  refine lv_astore_n (lv' := [(1, .ref (a 0)), (0, .ref b)]) hx hb dL_law_7 rfl hl (by decide) rfl (fun ls hl => ?_)
  refine lv_iconst (v := 4) hx hb dL_law_8 (by decide) ?_
  refine w_newI 4 hx hb hts hK hA Y2 (by decide) (by decide) (by decide) (Nat.le_of_ble_eq_true rfl) (Nat.le_of_ble_eq_true rfl) dL_law_9 (fun q1 H3 Y3 => ?_)
  refine lv_astore_n (lv' := [(2, .ref q1), (1, .ref (a 0)), (0, .ref b)]) hx hb dL_law_11 rfl hl (by decide) rfl (fun ls hl => ?_)
  refine lv_bipush (v := 16) hx hb dL_law_12 (by decide) ?_
  refine w_newI 16 hx hb hts hK hA Y3 (by decide) (by decide) (by decide) (Nat.le_of_ble_eq_true rfl) (Nat.le_of_ble_eq_true rfl) dL_law_14 (fun q2 H4 Y4 => ?_)
  refine lv_astore_n (lv' := [(3, .ref q2), (2, .ref q1), (1, .ref (a 0)), (0, .ref b)]) hx hb dL_law_16 rfl hl (by decide) rfl (fun ls hl => ?_)
  refine lv_bipush (v := 27) hx hb dL_law_17 (by decide) ?_
  refine w_newI 27 hx hb hts hK hA Y4 (by decide) (by decide) (by decide) (Nat.le_of_ble_eq_true rfl) (Nat.le_of_ble_eq_true rfl) dL_law_19 (fun q3 H5 Y5 => ?_)
  refine lv_astore (lv' := [(4, .ref q3), (3, .ref q2), (2, .ref q1), (1, .ref (a 0)), (0, .ref b)]) hx hb dL_law_21 hl (by decide) rfl (fun ls hl => ?_)
  refine lv_bipush (v := 64) hx hb dL_law_23 (by decide) ?_
  refine w_newI 64 hx hb hts hK hA Y5 (by decide) (by decide) (by decide) (Nat.le_of_ble_eq_true rfl) (Nat.le_of_ble_eq_true rfl) dL_law_25 (fun q4 H6 Y6 => ?_)
  refine lv_astore (lv' := [(5, .ref q4), (4, .ref q3), (3, .ref q2), (2, .ref q1), (1, .ref (a 0)), (0, .ref b)]) hx hb dL_law_27 hl (by decide) rfl (fun ls hl => ?_)
  refine lv_bipush (v := 64) hx hb dL_law_29 (by decide) ?_
  refine w_newI 64 hx hb hts hK hA Y6 (by decide) (by decide) (by decide) (Nat.le_of_ble_eq_true rfl) (Nat.le_of_ble_eq_true rfl) dL_law_31 (fun q5 H7 Y7 => ?_)
  refine lv_astore (lv' := [(6, .ref q5), (5, .ref q4), (4, .ref q3), (3, .ref q2), (2, .ref q1), (1, .ref (a 0)), (0, .ref b)]) hx hb dL_law_33 hl (by decide) rfl (fun ls hl => ?_)
  refine lv_bipush (v := 64) hx hb dL_law_35 (by decide) ?_
  refine w_newI 64 hx hb hts hK hA Y7 (by decide) (by decide) (by decide) (Nat.le_of_ble_eq_true rfl) (Nat.le_of_ble_eq_true rfl) dL_law_37 (fun q6 H8 Y8 => ?_)
  refine lv_astore (lv' := [(7, .ref q6), (6, .ref q5), (5, .ref q4), (4, .ref q3), (3, .ref q2), (2, .ref q1), (1, .ref (a 0)), (0, .ref b)]) hx hb dL_law_39 hl (by decide) rfl (fun ls hl => ?_)
  refine W.widen (k := 584999) (n := 5802150) (Nat.le_of_ble_eq_true rfl) (Nat.le_of_ble_eq_true rfl) ?_
  have Y9 : Hp D C (ad0 a [q1, q2, q3, q4, q5, q6] b) 64 (xs, L) (fun q => s.heap.size ≤ q) s (sg0 xs L) H8 locs2 := ⟨firstP Y8.1, firstD Y8.2.1, Y8.2.2, rfl, rfl, hL⟩
  have hl9 : lv_has ls 25 (lm (ad0 a [q1, q2, q3, q4, q5, q6] b) [(0, .ref 68), (1, .ref 0), (2, .ref 58), (3, .ref 59), (4, .ref 60), (5, .ref 61), (6, .ref 62), (7, .ref 63)]) := lv_sub hl [7, 6, 5, 4, 3, 2, 1, 0] rfl
  exact kL_law 2 (sg0 xs L) (lawTrue xs hL) l D C (ad0 a [q1, q2, q3, q4, q5, q6] b) 64 (xs, L) p e room_1 s m #[Value.ref b] below meth c (fun q => s.heap.size ≤ q) H8 locs2 ls ⟨hx, hb, hml, hr, hlocks, hown, hts, hK.1, Nat.le_of_ble_eq_true rfl, Nat.le_of_ble_eq_true rfl, ⟨rfl, Nat.le_of_ble_eq_true rfl⟩, ⟨Nat.sub_le _ _, Nat.sub_le _ _⟩, ⟨hX, hbl, Nat.not_le.mpr hbl⟩, ⟨rfl, ⟨b, rfl⟩, fun _ h => h⟩⟩ hA Y9 hl9
-- ===== YOUR PART ENDS =====
