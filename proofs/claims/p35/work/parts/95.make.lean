/-! MAKING: the constructors, over worlds told by lists -/
def nK (D : va_G) (C : CT) (U : State) : Prop := aK D C U ∧ va_AO "GivenGoesOn$Gift" U
theorem nK.warm {D : va_G} {C : CT} {s U : State} (hW : s.WarmedH U.vm) (h : nK D C s) : nK D C U := ⟨h.1.warm hW, h.2.moved hW.alike⟩
theorem nK.same {D : va_G} {C : CT} {s U : State} (hvm : s.vm = U.vm) (h : nK D C s) : nK D C U := ⟨h.1.same hvm, h.2.moved (by rw [hvm]; exact Vm.Alike.refl _)⟩
def nQ (D : va_G) (C : CT) (A0 : Nat → Prop) (w1 : va_W → Prop) : Array Value → State → Outcome → State → Prop := fun _ st oc t =>
  (oc = .returned none ∧ ∃ ws, w1 ws ∧ va_P D vwCl ws t.heap ∧ nK D C t ∧ va_D A0 ws) ∧ va_F A0 st t
def NX (M : MI) (D : va_G) (C : CT) (p : Program) (s : State) (m : MethodId) (args : Array Value) (meth : Method) (c : Code) : Prop :=
  p.tables.exec = Jvm.exec ∧ c.code = M.2.1 ∧ c.maxLocals = M.2.2.1 ∧ meth.sig.returnType = M.2.2.2 ∧ meth.locks = false ∧ s.vm.findClass M.1.cls = some m.cls ∧ (∀ w ∈ aT, w.before args s = true) ∧ nK D C s ∧ meth.name = "<init>"
def NH (D : va_G) (A0 : Nat → Prop) (s : State) (ws : va_W) (H : Heap) (locs : List Loc) : Prop := va_P D vwCl ws H ∧ va_D A0 ws ∧ va_S A0 s.heap H locs
/-- from here the constructor M comes to its end, and leaves a world w1 -/
def N (C : CT) (e mc ms : Nat) (w1 : va_W → Prop) (M : MI) (pc : Nat) (loc : List (Nat × Value)) (stk : List Value) (ws : va_W) (cells slots : Nat) : Prop :=
  ∀ (l : Launch) (D : va_G) (p : Program) (ev : Env) (s : State) (m : MethodId) (args : Array Value) (below : List Frame) (meth : Method) (c : Code) (A0 : Nat → Prop) (H : Heap) (locs : List Loc) (ls : Array Slot),
    NX M D C p s m args meth c → (∀ q, s.heap.size ≤ q → A0 q) → NH D A0 s ws H locs → lv_has ls M.2.2.1 loc →
    W p l ev ({ frames := e, cells := mc, slots := ms, locals := 34 * e } : Room) s m args below meth c H locs cells slots (MQ below (nQ D C A0 w1) args s mc ms A0) (F0 m pc ls stk)
def NSp (C : CT) (e mc ms : Nat) (w1 : va_W → Prop) (M : MI) (h : Nat) (w0 : va_W) : Prop :=
  ∀ (l : Launch) (D : va_G) (sz : Nat), Met l M.1 (mWs M) ({ frames := e, cells := mc, slots := ms, locals := 34 * e } : Room)
    (va_Pc [.ref h] (fun U => U.heap.size = sz ∧ va_P D vwCl w0 U.heap ∧ nK D C U ∧ va_D (fun _ => True) w0)) (nQ D C (va_A w0 sz) w1) mc ms (va_A w0 sz)
theorem nsp_of {C : CT} {e mc ms h : Nat} {w1 : va_W → Prop} {M : MI} {w0 : va_W} (hy : plainName M.1.cls = true) (hn : M.1.name = "<init>") (h1 : 1 ≤ M.2.2.1) (k : N C e mc ms w1 M 0 [(0, .ref h)] [] w0 0 0) : NSp C e mc ms w1 M h w0 := by
  intro l D sz
  refine Met.ofW (cc := M.2.1) (maxL := M.2.2.1) (ret := M.2.2.2) (ws' := aT) hy rfl ?_
  intro p ev s m args below meth c s₁ B hml hv
  obtain ⟨rfl, hsz, hP, hK, hD0⟩ := hv
  have hts := atoms_spec (ws := mWs M) B.pre
  have hown : s.vm.findClass M.1.cls = some m.cls := findClass_of_methodNamed B.named
  have hin : meth.name = "<init>" := (name_of_methodNamed B.named B.method).1.trans hn
  have hl := lv_entry ([.ref h]) (n := M.2.2.1) h1
  rw [lg_entry_eq]
  generalize (lg_sl ([.ref h]) ++ List.replicate (M.2.2.1 - (lg_sl ([.ref h])).length) Slot.unset).toArray = ls at hl ⊢
  subst hsz
  exact k l D p ev s m _ below meth c (va_A w0 s.heap.size) s.heap [] ls ⟨B.exec, B.bytes, hml, B.returns, B.notSynchronized, hown, fun w hw => hts w (List.mem_cons_of_mem _ hw), hK, hin⟩ (fun q hq => Or.inr hq) ⟨hP, hD0.self, va_S.rf⟩ hl
section NR
variable {C : CT} {e mc ms : Nat} {w1 : va_W → Prop} {M : MI} {pc : Nat} {loc loc' : List (Nat × Value)} {stk : List Value} {ws : va_W} {cells slots : Nat}
theorem n_aload {j : Fin 4} {i x : Nat} (hd : decode M.2.1 pc = .ok (.aload_n j, 1)) (hi : (j : Nat) = i) (q : Nat) (hq : loc[q]? = some (i, .ref x)) (k : N C e mc ms w1 M (pc + 1) loc (.ref x :: stk) ws cells slots) : N C e mc ms w1 M pc loc stk ws cells slots := by
  intro l D p ev s m args below meth c A0 H locs ls X hA Y hl
  exact lv_aload_n X.1 X.2.1 hd hi (lv_at hl q hq) (k l D p ev s m args below meth c A0 H locs ls X hA Y hl)
theorem n_iload {j : Fin 4} {i : Nat} {x : Int32} (hd : decode M.2.1 pc = .ok (.iload_n j, 1)) (hi : (j : Nat) = i) (q : Nat) (hq : loc[q]? = some (i, .int x)) (k : N C e mc ms w1 M (pc + 1) loc (.int x :: stk) ws cells slots) : N C e mc ms w1 M pc loc stk ws cells slots := by
  intro l D p ev s m args below meth c A0 H locs ls X hA Y hl
  exact lv_iload_n X.1 X.2.1 hd hi (lv_at hl q hq) (k l D p ev s m args below meth c A0 H locs ls X hA Y hl)
theorem n_iconst {n : Int} (v : Int32) (hd : decode M.2.1 pc = .ok (.iconst n, 1)) (hv : Int32.ofInt n = v) (k : N C e mc ms w1 M (pc + 1) loc (.int v :: stk) ws cells slots) : N C e mc ms w1 M pc loc stk ws cells slots := by
  intro l D p ev s m args below meth c A0 H locs ls X hA Y hl
  exact lv_iconst X.1 X.2.1 hd hv (k l D p ev s m args below meth c A0 H locs ls X hA Y hl)
theorem n_bipush {n : Int} (v : Int32) (hd : decode M.2.1 pc = .ok (.bipush n, 2)) (hv : (Int8.ofInt n).toInt32 = v) (k : N C e mc ms w1 M (pc + 2) loc (.int v :: stk) ws cells slots) : N C e mc ms w1 M pc loc stk ws cells slots := by
  intro l D p ev s m args below meth c A0 H locs ls X hA Y hl
  exact lv_bipush X.1 X.2.1 hd hv (k l D p ev s m args below meth c A0 H locs ls X hA Y hl)
theorem n_sipush {n : Int} (v : Int32) (hd : decode M.2.1 pc = .ok (.sipush n, 3)) (hv : (Int16.ofInt n).toInt32 = v) (k : N C e mc ms w1 M (pc + 3) loc (.int v :: stk) ws cells slots) : N C e mc ms w1 M pc loc stk ws cells slots := by
  intro l D p ev s m args below meth c A0 H locs ls X hA Y hl
  exact lv_sipush X.1 X.2.1 hd hv (k l D p ev s m args below meth c A0 H locs ls X hA Y hl)
theorem n_dup {v : Value} (hc : v.category = 1) (hd : decode M.2.1 pc = .ok (.dup, 1)) (k : N C e mc ms w1 M (pc + 1) loc (v :: v :: stk) ws cells slots) : N C e mc ms w1 M pc loc (v :: stk) ws cells slots := by
  intro l D p ev s m args below meth c A0 H locs ls X hA Y hl
  exact lv_dup X.1 X.2.1 hd hc (k l D p ev s m args below meth c A0 H locs ls X hA Y hl)
theorem n_istore {j : Fin 4} {i : Nat} {x : Int32} (hd : decode M.2.1 pc = .ok (.istore_n j, 1)) (hi : (j : Nat) = i) (hn : i < M.2.2.1) (hq : st1 i (.int x) loc = loc') (k : N C e mc ms w1 M (pc + 1) loc' stk ws cells slots) : N C e mc ms w1 M pc loc (.int x :: stk) ws cells slots := by
  intro l D p ev s m args below meth c A0 H locs ls X hA Y hl
  exact lv_istore_n X.1 X.2.1 hd hi hl hn hq (fun ls' hl' => k l D p ev s m args below meth c A0 H locs ls' X hA Y hl')
theorem n_iinc {i : Nat} {n : Int} {x : Int32} (v : Int32) (hd : decode M.2.1 pc = .ok (.iinc i n, 3)) (q : Nat) (hq : loc[q]? = some (i, .int x)) (hv : x + Int32.ofInt n = v) (hn : i < M.2.2.1) (hs : st1 i (.int v) loc = loc') (k : N C e mc ms w1 M (pc + 3) loc' stk ws cells slots) : N C e mc ms w1 M pc loc stk ws cells slots := by
  intro l D p ev s m args below meth c A0 H locs ls X hA Y hl
  exact lv_iinc X.1 X.2.1 hd hl hq hv hn hs (fun ls' hl' => k l D p ev s m args below meth c A0 H locs ls' X hA Y hl')
theorem n_goto {off : Int} (tgt : Nat) (hd : decode M.2.1 pc = .ok (.goto off, 3)) (ht : (pc : Int) + off = (tgt : Int)) (k : N C e mc ms w1 M tgt loc stk ws cells slots) : N C e mc ms w1 M pc loc stk ws cells slots := by
  intro l D p ev s m args below meth c A0 H locs ls X hA Y hl
  exact lv_goto X.1 X.2.1 hd ht (k l D p ev s m args below meth c A0 H locs ls X hA Y hl)
theorem n_icmp_ge_t {x y : Int32} {off : Int} (tgt : Nat) (hd : decode M.2.1 pc = .ok (.if_icmp .ge off, 3)) (ht : (pc : Int) + off = (tgt : Int)) (h : y ≤ x) (k : N C e mc ms w1 M tgt loc stk ws cells slots) : N C e mc ms w1 M pc loc (.int y :: .int x :: stk) ws cells slots := by
  intro l D p ev s m args below meth c A0 H locs ls X hA Y hl
  exact lv_icmp_ge X.1 X.2.1 hd ht (fun _ => k l D p ev s m args below meth c A0 H locs ls X hA Y hl) (fun z => by first | exact absurd h z | exact absurd z h)
theorem n_icmp_ge_f {x y : Int32} {off : Int} (tgt : Nat) (hd : decode M.2.1 pc = .ok (.if_icmp .ge off, 3)) (ht : (pc : Int) + off = (tgt : Int)) (h : ¬ y ≤ x) (k : N C e mc ms w1 M (pc + 3) loc stk ws cells slots) : N C e mc ms w1 M pc loc (.int y :: .int x :: stk) ws cells slots := by
  intro l D p ev s m args below meth c A0 H locs ls X hA Y hl
  exact lv_icmp_ge X.1 X.2.1 hd ht (fun z => by first | exact absurd h z | exact absurd z h) (fun _ => k l D p ev s m args below meth c A0 H locs ls X hA Y hl)
theorem n_wid (k n : Nat) (h1 : cells ≤ k) (h2 : slots ≤ n) (kk : N C e mc ms w1 M pc loc stk ws k n) : N C e mc ms w1 M pc loc stk ws cells slots := by
  intro l D p ev s m args below meth c A0 H locs ls X hA Y hl
  exact W.widen h1 h2 (kk l D p ev s m args below meth c A0 H locs ls X hA Y hl)
theorem n_ret (hM : M.2.2.2 = none) (hw : w1 ws) (hd : decode M.2.1 pc = .ok (.return_, 1)) : N C e mc ms w1 M pc loc [] ws mc ms := by
  intro l D p ev s m args below meth c A0 H locs ls X hA Y hl
  obtain ⟨hx, hb, hml, hr, hlk, hown, hts, hK, hin⟩ := id X
  exact W.vret hx hb (by rw [hr, hM]) (fun t ht hW => ⟨⟨rfl, ws, hw, by rw [ht]; exact Y.1, hK.warm hW, Y.2.1⟩, Y.2.2.F ht⟩) Y.2.2.2.2 hd hlk
theorem oiw1 : Cond.instanceMethod Lib.objectInit ∈ aT := aT_in 25 (by decide +kernel) rfl
theorem oiw2 : Cond.code Lib.objectInit ⟨#[0xb1]⟩ 1 none ∈ aT := aT_in 26 (by decide +kernel) rfl
theorem n_obj {ix a : Nat} (h1 : Cond.methodLink M.1.cls ix Lib.objectInit ∈ aT) (he : 1 ≤ e) (hw : (stk.map fun v => v.category).sum ≤ 8) (hd : decode M.2.1 pc = .ok (.invokespecial ix, 3)) (kk : N C e mc ms w1 M (pc + 3) loc stk ws cells slots) : N C e mc ms w1 M pc loc (.ref a :: stk) ws cells slots := by
  intro l D p ev s m args below meth c A0 H locs ls X hA Y hl
  obtain ⟨hx, hb, hml, hr, hlk, hown, hts, hK, hin⟩ := id X
  have hW : 2 * (F0 m pc ls (.ref a :: stk)).monitorRoom + (stk.map fun v => v.category).sum ≤ 8 := lv_room hw
  refine W.objInit hx hb hown (hts _ h1) (hts _ oiw1) (hts _ oiw2) rfl (by rw [hml]; exact hl.1) rfl hd he (by show _ ≤ 34 * e; omega) ?_
  exact kk l D p ev s m args below meth c A0 H locs ls X hA Y hl
/-- a class that may be made here -/
def NWf (own : String) (ix ci n : Nat) (fs : List Value) : Prop := ∃ (Cn : String) (T : u_T) (ty : Nat → FieldType), vwCl[ci]? = some (Cn, T, n) ∧ (∀ w ∈ u_ws Cn T n, w ∈ aT) ∧ (∀ k, k < n → parseFieldDescriptor (T k).2.2.1 = some (ty k)) ∧ Cond.classLink own ix Cn ∈ aT ∧ Cond.instantiable Cn n ∈ aT ∧ Cond.initialized Cn ∈ aT ∧ (∀ j, j < n → defaultValue (ty j) = vp_V fs j)
theorem n_new {ix ci n : Nat} {fs : List Value} (hf : NWf M.1.cls ix ci n fs) (h1 : cells + 1 ≤ mc) (h2 : slots + n ≤ ms) (hd : decode M.2.1 pc = .ok (.new ix, 3)) (kk : ∀ q, N C e mc ms w1 M (pc + 3) loc (.ref q :: stk) (ws ++ [(q, .inr (ci, fs))]) (cells + 1) (slots + n)) : N C e mc ms w1 M pc loc stk ws cells slots := by
  intro l D p ev s m args below meth c A0 H locs ls X hA Y hl
  obtain ⟨hx, hb, hml, hr, hlk, hown, hts, hK, hin⟩ := id X
  obtain ⟨Cn, T, ty, g1, g2, g3, g4, g5, g6, g7⟩ := hf
  exact va_new hx hb hts g2 ty g3 hown (hts _ g4) (hts _ g5) (hts _ g6) hK.1.1 Y.1 Y.2.1 Y.2.2 hA g1 g7 h1 h2 hd (fun q H1 k1 k2 k3 => kk q l D p ev s m args below meth c A0 H1 locs ls X hA ⟨k1, k2, k3⟩ hl)
theorem n_newI {n : Int32} (N' : Nat) (hn : ¬ n < 0) (hN : n.toNatClampNeg = N') (hbytes : N' * 4 ≤ 536870912) (h1 : cells + 1 ≤ mc) (h2 : slots + N' ≤ ms) (hd : decode M.2.1 pc = .ok (.newarray .int, 2)) (kk : ∀ q, N C e mc ms w1 M (pc + 2) loc (.ref q :: stk) (ws ++ [(q, .inl (C.1, (N', .inl fun _ => 0)))]) (cells + 1) (slots + N')) : N C e mc ms w1 M pc loc (.int n :: stk) ws cells slots := by
  intro l D p ev s m args below meth c A0 H locs ls X hA Y hl
  obtain ⟨hx, hb, hml, hr, hlk, hown, hts, hK, hin⟩ := id X
  refine va_newa (atype := .int) hx hb (hts _ arrI) rfl hK.1.1 Y.1 Y.2.1 Y.2.2 hA (a0 := (N', .inl fun _ => 0)) (fun cA => rfl) hn hN hbytes h1 h2 hd (fun q cA H1 k1 k2 k3 k4 => ?_)
  have e1 : s.vm.findClass ("[" ++ FieldType.int.toString) = some cA := (k1.2 3 (cA, .int) rfl).2
  have e2 : s.vm.findClass ("[" ++ FieldType.int.toString) = some C.1 := (hK.1.1.2 0 (C.1, .int) rfl).2
  have e3 : cA = C.1 := Option.some.inj (e1.symm.trans e2)
  rw [e3] at k2 k3
  exact kk q l D p ev s m args below meth c A0 H1 locs ls X hA ⟨k2, k3, k4⟩ hl
theorem n_newL {n : Int32} (N' : Nat) (hn : ¬ n < 0) (hN : n.toNatClampNeg = N') (hbytes : N' * 8 ≤ 536870912) (h1 : cells + 1 ≤ mc) (h2 : slots + N' ≤ ms) (hd : decode M.2.1 pc = .ok (.newarray .long, 2)) (kk : ∀ q, N C e mc ms w1 M (pc + 2) loc (.ref q :: stk) (ws ++ [(q, .inl (C.2.1, (N', .inr (.inl fun _ => 0))))]) (cells + 1) (slots + N')) : N C e mc ms w1 M pc loc (.int n :: stk) ws cells slots := by
  intro l D p ev s m args below meth c A0 H locs ls X hA Y hl
  obtain ⟨hx, hb, hml, hr, hlk, hown, hts, hK, hin⟩ := id X
  refine va_newa (atype := .long) hx hb (hts _ arrJ) rfl hK.1.1 Y.1 Y.2.1 Y.2.2 hA (a0 := (N', .inr (.inl fun _ => 0))) (fun cA => rfl) hn hN hbytes h1 h2 hd (fun q cA H1 k1 k2 k3 k4 => ?_)
  have e1 : s.vm.findClass ("[" ++ FieldType.long.toString) = some cA := (k1.2 3 (cA, .long) rfl).2
  have e2 : s.vm.findClass ("[" ++ FieldType.long.toString) = some C.2.1 := (hK.1.1.2 1 (C.2.1, .long) rfl).2
  have e3 : cA = C.2.1 := Option.some.inj (e1.symm.trans e2)
  rw [e3] at k2 k3
  exact kk q l D p ev s m args below meth c A0 H1 locs ls X hA ⟨k2, k3, k4⟩ hl
theorem n_newG {n : Int32} {ix : Nat} (N' : Nat) (hf : Cond.classLink M.1.cls ix "GivenGoesOn$Gift" ∈ aT) (hn : ¬ n < 0) (hN : n.toNatClampNeg = N') (hbytes : N' * 4 ≤ 536870912) (h1 : cells + 1 ≤ mc) (h2 : slots + N' ≤ ms) (hd : decode M.2.1 pc = .ok (.anewarray ix, 3)) (kk : ∀ q, N C e mc ms w1 M (pc + 3) loc (.ref q :: stk) (ws ++ [(q, .inl (C.2.2, (N', .inr (.inr (.inr (.inr fun _ => none))))))]) (cells + 1) (slots + N')) : N C e mc ms w1 M pc loc (.int n :: stk) ws cells slots := by
  intro l D p ev s m args below meth c A0 H locs ls X hA Y hl
  obtain ⟨hx, hb, hml, hr, hlk, hown, hts, hK, hin⟩ := id X
  refine va_newq hx hb hown (hts _ hf) hK.2 hK.1.1 Y.1 Y.2.1 Y.2.2 hA hn hN hbytes h1 h2 hd (fun q cA H1 k1 k2 k3 k4 => ?_)
  obtain ⟨-, -, -, -, -, e1⟩ := (k1.2 3 (cA, .object "GivenGoesOn$Gift") rfl).2
  obtain ⟨-, -, -, -, -, e2⟩ := (hK.1.1.2 2 (C.2.2, .object "GivenGoesOn$Gift") rfl).2
  have e3 : cA = C.2.2 := Option.some.inj (e1.symm.trans e2)
  rw [e3] at k2 k3
  exact kk q l D p ev s m args below meth c A0 H1 locs ls X hA ⟨k2, k3, k4⟩ hl
/-- a final field that its constructor may write a reference to -/
def FPF (own : String) (ix ci k : Nat) : Prop := ∃ (Cn : String) (T : u_T) (n : Nat) (ty0 : Nat → FieldType) (ty : FieldType), vwCl[ci]? = some (Cn, T, n) ∧ k < n ∧ (T k).1 = Cn ∧ Cn = own ∧ Cond.fieldLink own ix Cn (T k).2.1 (T k).2.2.1 ∈ aT ∧ (∀ w ∈ u_ws Cn T n, w ∈ aT) ∧ (∀ k, k < n → parseFieldDescriptor (T k).2.2.1 = some (ty0 k)) ∧ (∀ a, a < n → ∀ b, b < n → a ≠ b → (T a).2.1 ≠ (T b).2.1) ∧ (T k).2.2.2 = true ∧ parseFieldDescriptor (T k).2.2.1 = some ty ∧ ∀ q : Nat, narrow ty (.ref q) = .ref q ∧ fits ty (.ref q) = true
theorem n_putF {ix ci k h q : Nat} {fs : List Value} (hf : FPF M.1.cls ix ci k) (hk : k < fs.length) (hd : decode M.2.1 pc = .ok (.putfield ix, 3)) (kk : N C e mc ms w1 M (pc + 3) loc stk ((h, .inr (ci, fs.set k (.ref q))) :: ws) cells slots) : N C e mc ms w1 M pc loc (.ref q :: .ref h :: stk) ((h, .inr (ci, fs)) :: ws) cells slots := by
  intro l D p ev s m args below meth c A0 H locs ls X hA Y hl
  obtain ⟨hx, hb, hml, hr, hlk, hown, hts, hK, hin⟩ := id X
  obtain ⟨Cn, T, n, ty0, ty, g1, g2, g3, g4, g5, g6, g7, g8, g9, g10, g11⟩ := hf
  exact va_putF (ty := ty) hx hb hts g6 ty0 g7 g8 hown hK.1.1 Y.1 Y.2.1 Y.2.2 0 rfl g1 k g2 (hts _ g5) (fun x hx => by rw [g3] at hx; exact hx) g9 hin (g3.trans g4) g10 (g11 q).1 (g11 q).2 hk hd (fun H1 locs1 k1 k2 k3 => kk l D p ev s m args below meth c A0 H1 locs1 ls X hA ⟨k1, k2, k3⟩ hl)
theorem n_putI {ix ci k h : Nat} {x : Int32} {fs : List Value} (hf : FP M.1.cls ix ci k) (hs : sty ci k = 0) (hk : k < fs.length) (hd : decode M.2.1 pc = .ok (.putfield ix, 3)) (kk : N C e mc ms w1 M (pc + 3) loc stk ((h, .inr (ci, fs.set k (.int x))) :: ws) cells slots) : N C e mc ms w1 M pc loc (.int x :: .ref h :: stk) ((h, .inr (ci, fs)) :: ws) cells slots := by
  intro l D p ev s m args below meth c A0 H locs ls X hA Y hl
  obtain ⟨hx, hb, hml, hr, hlk, hown, hts, hK, hin⟩ := id X
  obtain ⟨Cn, T, n, ty0, g1, g2, g3, g4, g5, g6, g7, g8, g9⟩ := hf
  rw [hs] at g9
  exact va_put (ty := .int) hx hb hts g5 ty0 g6 g7 hown hK.1.1 Y.1 Y.2.1 Y.2.2 0 rfl g1 k g2 (hts _ g4) (fun x hx => by rw [g3] at hx; exact hx) g8 g9 rfl rfl hk hd (fun H1 locs1 k1 k2 k3 => kk l D p ev s m args below meth c A0 H1 locs1 ls X hA ⟨k1, k2, k3⟩ hl)
theorem n_get {ix ci k h : Nat} {v : Value} {fs : List Value} (hf : FL M.1.cls ix ci k) (hv : fs[k]? = some v) (hd : decode M.2.1 pc = .ok (.getfield ix, 3)) (kk : N C e mc ms w1 M (pc + 3) loc (v :: stk) ((h, .inr (ci, fs)) :: ws) cells slots) : N C e mc ms w1 M pc loc (.ref h :: stk) ((h, .inr (ci, fs)) :: ws) cells slots := by
  intro l D p ev s m args below meth c A0 H locs ls X hA Y hl
  obtain ⟨hx, hb, hml, hr, hlk, hown, hts, hK, hin⟩ := id X
  obtain ⟨Cn, T, n, g1, g2, g3, g4, g5⟩ := hf
  exact va_get (v := v) hx hb hts g5 hown hK.1.1 Y.1 0 rfl g1 k g2 (hts _ g4) (fun x hx => by rw [g3] at hx; exact hx) hv hd (kk l D p ev s m args below meth c A0 H locs ls X hA Y hl)
theorem n_ast {q0 qk n v a : Nat} {vs : List Value} {f : Nat → Option Nat} {i : Int32} (ha : ws[q0]? = some (a, .inl (C.2.2, n, .inr (.inr (.inr (.inr f)))))) (hv : ws[qk]? = some (v, .inr (3, vs))) (hin : inb i n = true) (hd : decode M.2.1 pc = .ok (.aastore, 1)) (kk : N C e mc ms w1 M (pc + 1) loc stk (ws.set q0 (a, .inl (C.2.2, n, .inr (.inr (.inr (.inr (va_up f i.toNatClampNeg (some v)))))))) cells slots) : N C e mc ms w1 M pc loc (.ref v :: .int i :: .ref a :: stk) ws cells slots := by
  intro l D p ev s m args below meth c A0 H locs ls X hA Y hl
  obtain ⟨hx, hb, hml, hr, hlk, hown, hts, hK, hin2⟩ := id X
  exact va_astq (r := (RX3, TX3, 8)) hx hb hK.1.1 Y.1 Y.2.1 Y.2.2 q0 2 qk 3 ha rfl hv rfl (inb_vp hin) hd (fun H1 locs1 k1 k2 k3 => kk l D p ev s m args below meth c A0 H1 locs1 ls X hA ⟨k1, k2, k3⟩ hl)
/-- the words of a constructor's call -/
def IL (own : String) (ix : Nat) (M' : MI) : Prop := (Cond.methodLink own ix M'.1 ∈ aT ∨ ∃ host, Cond.methodLinkNest own ix M'.1 host ∈ aNst) ∧ Cond.instanceMethod M'.1 ∈ aT ∧ Cond.initialized M'.1.cls ∈ aT ∧ Cond.code M'.1 M'.2.1 M'.2.2.1 M'.2.2.2 ∈ aT ∧ M'.1.name = "<init>" ∧ M'.2.2.2 = none ∧
  (M'.1.cls ≠ "java/lang/invoke/MethodHandle" ∧ M'.1.cls ≠ "java/lang/invoke/VarHandle" ∧ (parseMethodDescriptor M'.1.desc).map (fun d => d.parameters.length) = some 0) ∧ M'.2.2.1 ≤ 15
theorem n_blind {D : va_G} {h sz : Nat} {w0 : va_W} : FrameBlind (va_Pc [.ref h] (fun U => U.heap.size = sz ∧ va_P D vwCl w0 U.heap ∧ nK D C U ∧ va_D (fun _ => True) w0)) := by
  intro a U g mk h
  obtain ⟨h1, h2, h3, h4, h5⟩ := h
  exact ⟨h1, h2, h3, nK.same (s := U) (U := U.calling g mk a) rfl h4, h5⟩
/-- behind a call: what was there before is as it was, the callee's world stands beside it -/
theorem n_join {A0 : Nat → Prop} {D : va_G} {wn : va_W} {x : Nat × va_E} {H H1 : Heap} (hP : va_P D vwCl (ws ++ [x]) H) (hD : va_D A0 (ws ++ [x])) (hk : ∀ q : Nat, q < H.size → ¬ va_A [x] H.size q → H1[q]? = H[q]?) (hF : ∀ q, va_A [x] H.size q → A0 q) (hP1 : va_P D vwCl wn H1) (hD1 : va_D (va_A [x] H.size) wn) : va_P D vwCl (ws ++ wn) H1 ∧ va_D A0 (ws ++ wn) := by
  have hx : (ws ++ [x])[ws.length]? = some x := by simp
  have at' : ∀ (k : Nat) (q : Nat × va_E), ws[k]? = some q → (ws ++ [x])[k]? = some q ∧ k < ws.length := fun k q hq => by
    have hl : k < ws.length := (List.getElem?_eq_some_iff.mp hq).1
    exact ⟨by rw [List.getElem?_append_left hl]; exact hq, hl⟩
  have apart : ∀ (k : Nat) (q : Nat × va_E), ws[k]? = some q → q.1 < H.size ∧ ¬ va_A [x] H.size q.1 := by
    intro k q hq
    obtain ⟨h1, h2⟩ := at' k q hq
    have hl := (hP k q h1).lt
    refine ⟨hl, fun h => ?_⟩
    rcases h with ⟨k2, e2, h⟩ | h
    · have hz : k2 < 1 := (List.getElem?_eq_some_iff.mp h).1
      have hz2 : k2 = 0 := by omega
      subst hz2
      have hxe : x = (q.1, e2) := Option.some.inj h
      have := hD.1 k ws.length q x h1 hx (by rw [hxe])
      omega
    · omega
  refine ⟨va_P.app (fun k q hq => ?_) hP1, va_D.app ⟨fun i j y z hy hz hyz => ?_, fun k q hq => hD.2 k q (at' k q hq).1⟩ (hD1.weaken (fun k q _ h => hF q.1 h)) (fun i j y z hy hz hyz => ?_)⟩
  · obtain ⟨g1, g2⟩ := apart k q hq
    exact (hP k q (at' k q hq).1).kept (hk q.1 g1 g2)
  · exact hD.1 i j y z (at' i y hy).1 (at' j z hz).1 hyz
  · exact (apart i y hy).2 (by rw [hyz]; exact hD1.2 j z hz)
theorem n_call {e' mc' ms' ix q : Nat} {wc : va_W → Prop} {x : va_E} {M' : MI} (hs : NSp C e' mc' ms' wc M' q [(q, x)]) (hL : IL M.1.cls ix M') (he : e' + 1 ≤ e) (h1 : cells + mc' ≤ mc) (h2 : slots + ms' ≤ ms) (hw : (stk.map fun v => v.category).sum ≤ 8) (hd : decode M.2.1 pc = .ok (.invokespecial ix, 3)) (kk : ∀ wn, wc wn → N C e mc ms w1 M (pc + 3) loc stk (ws ++ wn) (cells + mc') (slots + ms')) : N C e mc ms w1 M pc loc (.ref q :: stk) (ws ++ [(q, x)]) cells slots := by
  intro l D p ev s m args below meth c A0 H locs ls X hA Y hl
  obtain ⟨hx, hb, hml, hr, hlk, hown, hts, hK, hin⟩ := id X
  obtain ⟨hlink, g2, g3, g4, g5, g6, g7, g8⟩ := hL
  have hat : (ws ++ [(q, x)])[ws.length]? = some (q, x) := by simp
  have one : ∀ (k : Nat) (y : Nat × va_E), [(q, x)][k]? = some y → k = 0 ∧ y = (q, x) := fun k y hy => by
    have hz : k < 1 := (List.getElem?_eq_some_iff.mp hy).1
    have hz2 : k = 0 := by omega
    subst hz2
    exact ⟨rfl, (Option.some.inj hy).symm⟩
  have hPc : va_P D vwCl [(q, x)] H := fun k y hy => by
    rw [(one k y hy).2]
    exact Y.1 ws.length _ hat
  have hDc : va_D (fun _ => True) [(q, x)] := ⟨fun i j y z hy hz _ => by rw [(one i y hy).1, (one j z hz).1], fun _ _ _ => trivial⟩
  have hFc : ∀ z, va_A [(q, x)] H.size z → A0 z := by
    intro z hz
    rcases hz with ⟨k, w, hw2⟩ | hz
    · have := (one k _ hw2).2
      have hzq : z = q := congrArg Prod.fst this
      rw [hzq]
      exact Y.2.1.2 ws.length _ hat
    · exact hA z (Nat.le_trans Y.2.2.1 hz)
  have hW : 2 * (F0 m pc ls (.ref q :: stk)).monitorRoom + (stk.map fun v => v.category).sum ≤ 8 := lv_room hw
  have hpre : PreS s H (va_Pc [.ref q] (fun U => U.heap.size = H.size ∧ va_P D vwCl [(q, x)] U.heap ∧ nK D C U ∧ va_D (fun _ => True) [(q, x)])) (.ref q :: []) :=
    ⟨n_blind, fun U hU hWm => ⟨rfl, by rw [hU], by rw [hU]; exact hPc, hK.warm hWm, hDc⟩⟩
  have hroom : e' + 1 ≤ e ∧ 8 + (M'.2.2.1 + 11) + 34 * e' ≤ 34 * e := ⟨he, by omega⟩
  have hmw : mWs M' = Cond.code M'.1 M'.2.1 M'.2.2.1 none :: aT := by unfold mWs; rw [g6]
  have hrun : va_Run p l ev ({ frames := e, cells := mc, slots := ms, locals := 34 * e } : Room) s m args below meth c H locs cells slots mc' ms' (F0 m pc ls (.ref q :: stk)) stk (nQ D C (va_A [(q, x)] H.size) wc (Value.ref q :: []).toArray) (va_A [(q, x)] H.size) := by
    rcases hlink with w | ⟨host, w⟩
    · exact va_runI ⟨hx, hb, hml, hown, hts⟩ (hs l D H.size) ⟨callB_of (ws' := aT) 0 hts (mWs_good g4) hmw rfl rfl (hts _ g3) (hts _ w) g7 hroom, g5, hts _ g2⟩ hpre rfl rfl hl.1 rfl hW hd ⟨h1, h2⟩
    · exact va_runIN ⟨hx, hb, hml, hown, hts⟩ (hs l D H.size) ⟨va_cnB (ws' := aT) 0 hts (mWs_good g4) hmw rfl rfl (hK.1.2 _ w) (hts _ g3) g7 hroom, g5, hts _ g2⟩ hpre rfl rfl hl.1 rfl hW hd ⟨h1, h2⟩
  intro T hT XS
  obtain ⟨v, st₀, t, T', L, h0, X', hLq, e1, e2, ⟨⟨hv, wn, hwn, hP1, hK1, hD1⟩, hz, hk⟩, st⟩ := hrun T hT XS
  rw [h0] at hz hk
  obtain ⟨jP, jD⟩ := n_join Y.1 Y.2.1 hk hFc hP1 hD1
  have hv' : v = none := by injection hv
  subst hv'
  have hS : va_S A0 s.heap T'.heap (locs ++ L) := by
    refine ⟨Nat.le_trans Y.2.2.1 (by rw [e1]; exact hz), fun z a1 a2 => ?_, fun z hz2 => ?_⟩
    · rw [e1, hk z (Nat.lt_of_lt_of_le a1 Y.2.2.1) (fun w => a2 (hFc z w))]
      exact Y.2.2.2.1 z a1 a2
    · rcases List.mem_append.mp hz2 with h | h
      · exact Y.2.2.2.2 z h
      · exact hFc _ (hLq z h)
  obtain ⟨t2, a1, b1⟩ := kk wn hwn l D p ev s m args below meth c A0 T'.heap (locs ++ L) ls X hA ⟨by rw [e1]; exact jP, jD, hS⟩ hl T' rfl X'
  exact ⟨t2, st t2 a1, b1⟩
end NR
