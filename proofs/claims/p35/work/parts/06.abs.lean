/-! THE STATE of both programs once all is made: every cell by a number of its own (below NN); references never change, so they stand in tables. -/
def NN : Nat := 68
def kdL : List Nat := [1, 1, 2, 1, 1, 2, 2, 2, 2, 2, 4, 1, 1, 1, 1, 1, 1, 1, 1, 1, 2, 2, 2, 2, 2, 4, 1, 1, 1, 1, 1, 1, 1, 1, 1, 2, 2, 2, 2, 2, 4, 1, 1, 1, 1, 1, 1, 1, 1, 1, 1, 3, 3, 1, 2, 2, 1, 2, 2, 2, 2, 2, 2, 2, 3, 2, 2, 2]
def clL : List Nat := [8, 5, 0, 4, 7, 0, 0, 0, 0, 0, 0, 3, 3, 3, 3, 3, 3, 3, 3, 7, 0, 0, 0, 0, 0, 0, 3, 3, 3, 3, 3, 3, 3, 3, 7, 0, 0, 0, 0, 0, 0, 3, 3, 3, 3, 3, 3, 3, 3, 2, 6, 0, 0, 1, 0, 0, 0, 0, 0, 0, 0, 0, 0, 0, 0, 0, 0, 0]
def nsL : List Nat := [11, 2, 16, 4, 9, 8, 8, 8, 64, 64, 8, 8, 8, 8, 8, 8, 8, 8, 8, 9, 8, 8, 8, 64, 64, 8, 8, 8, 8, 8, 8, 8, 8, 8, 9, 8, 8, 8, 64, 64, 8, 8, 8, 8, 8, 8, 8, 8, 8, 1, 2, 72, 72, 2, 256, 8, 3, 8, 4, 16, 27, 64, 64, 64, 1, 64, 64, 27]
def styL : List (List Nat) := [[2, 0, 0], [2, 2], [1], [0, 0, 0, 0, 0, 0, 0, 0], [0, 3, 3, 0], [2, 0], [2, 2], [0, 2, 2, 2, 2, 2, 0, 2, 0], [2, 2, 2, 2, 2, 2, 2, 2, 2, 0, 3]]
def rfL : List (List Nat) := [[1, 3, 4, 19, 34, 49, 50, 53, 56, 0, 0], [2, 0], [], [0, 0, 0, 0], [0, 5, 6, 7, 8, 9, 0, 10, 0], [], [], [], [], [], [11, 12, 13, 14, 15, 16, 17, 18], [0, 0, 0, 0, 0, 0, 0, 0], [0, 0, 0, 0, 0, 0, 0, 0], [0, 0, 0, 0, 0, 0, 0, 0], [0, 0, 0, 0, 0, 0, 0, 0], [0, 0, 0, 0, 0, 0, 0, 0], [0, 0, 0, 0, 0, 0, 0, 0], [0, 0, 0, 0, 0, 0, 0, 0], [0, 0, 0, 0, 0, 0, 0, 0], [0, 20, 21, 22, 23, 24, 0, 25, 0], [], [], [], [], [], [26, 27, 28, 29, 30, 31, 32, 33], [0, 0, 0, 0, 0, 0, 0, 0], [0, 0, 0, 0, 0, 0, 0, 0], [0, 0, 0, 0, 0, 0, 0, 0], [0, 0, 0, 0, 0, 0, 0, 0], [0, 0, 0, 0, 0, 0, 0, 0], [0, 0, 0, 0, 0, 0, 0, 0], [0, 0, 0, 0, 0, 0, 0, 0], [0, 0, 0, 0, 0, 0, 0, 0], [0, 35, 36, 37, 38, 39, 0, 40, 0], [], [], [], [], [], [41, 42, 43, 44, 45, 46, 47, 48], [0, 0, 0, 0, 0, 0, 0, 0], [0, 0, 0, 0, 0, 0, 0, 0], [0, 0, 0, 0, 0, 0, 0, 0], [0, 0, 0, 0, 0, 0, 0, 0], [0, 0, 0, 0, 0, 0, 0, 0], [0, 0, 0, 0, 0, 0, 0, 0], [0, 0, 0, 0, 0, 0, 0, 0], [0, 0, 0, 0, 0, 0, 0, 0], [0], [51, 52], [], [], [54, 55], [], [], [57, 0, 0], [], [], [], [], [], [], [], [], [], [], []]
def kd (i : Nat) : Nat := kdL.getD i 0
def cl (i : Nat) : Nat := clL.getD i 0
def nsl (i : Nat) : Nat := nsL.getD i 0
def sty (c k : Nat) : Nat := (styL.getD c []).getD k 0
def rfv (i k : Nat) : Nat := (rfL.getD i []).getD k 0
abbrev St : Type := (Nat → Nat → Int32) × (Nat → Nat → Int64)
def setI (σ : St) (i k : Nat) (v : Int32) : St := (fun a b => if a = i ∧ b = k then v else σ.1 a b, σ.2)
def setL (σ : St) (i k : Nat) (v : Int64) : St := (σ.1, fun a b => if a = i ∧ b = k then v else σ.2 a b)
/-- the first n of array i copied to array j -/
def cpyI (σ : St) (i j n : Nat) : St := (fun a b => if a = j ∧ b < n then σ.1 i b else σ.1 a b, σ.2)
def cpyL (σ : St) (i j n : Nat) : St := (σ.1, fun a b => if a = j ∧ b < n then σ.2 i b else σ.2 a b)
def inb (j : Int32) (n : Nat) : Bool := decide (¬ (j < 0 ∨ n ≤ j.toNatClampNeg))
theorem inb_vp {j : Int32} {n : Nat} (h : inb j n = true) : vp_in j n := show ¬ (j < 0 ∨ n ≤ j.toNatClampNeg) from of_decide_eq_true h
/-- a field of an object: its value, references by their numbers -/
def av (σ : St) (i k : Nat) : Value := if sty (cl i) k = 1 then .long (σ.2 i k) else if sty (cl i) k = 2 then .ref (rfv i k) else .int (σ.1 i k)
/-- a value with references by their addresses -/
def rv (ad : Nat → Nat) : Value → Value
  | .ref a => .ref (ad a)
  | v => v
theorem rv_cat (ad : Nat → Nat) (v : Value) : (rv ad v).category = v.category := by cases v <;> rfl
abbrev CT : Type := ClassId × ClassId × ClassId
def cellE (ad : Nat → Nat) (C : CT) (σ : St) (i : Nat) : va_E :=
  if kd i = 1 then .inr (cl i, (List.range (nsl i)).map fun k => rv ad (av σ i k))
  else if kd i = 2 then .inl (C.1, (nsl i, .inl (σ.1 i)))
  else if kd i = 3 then .inl (C.2.1, (nsl i, .inr (.inl (σ.2 i))))
  else .inl (C.2.2, (nsl i, .inr (.inr (.inr (.inr fun j => some (ad (rfv i j)))))))
/-- the first nN cells -/
def wsE (ad : Nat → Nat) (C : CT) (nN : Nat) (σ : St) : va_W := (List.range nN).map fun i => (ad i, cellE ad C σ i)
/-- the law's script: its numbers, its length; in a state it stands in the rows 68 and 69 -/
abbrev Sx : Type := (Nat → Int32) × Nat
def sc (σ : St) (S : Sx) : Prop := σ.1 68 = S.1 ∧ σ.1 69 0 = Int32.ofNat S.2 ∧ S.2 ≤ 260
def aTys (C : CT) : List (ClassId × FieldType) := [(C.1, .int), (C.2.1, .long), (C.2.2, .object "GivenGoesOn$Gift")]
/-- the words that every method of ours may use -/
def aT : List Cond := lw_tbl.filter goodWord
def isNest : Cond → Bool
  | .methodLinkNest .. => true
  | _ => false
def aNst : List Cond := lw_tbl.filter isNest
def aK (D : va_G) (C : CT) (U : State) : Prop := va_K D vwCl (aTys C) U ∧ ∀ w ∈ aNst, va_Nw w U
theorem isNest_of {w : Cond} (h : isNest w = true) : ∃ own i x host, w = .methodLinkNest own i x host := by
  cases w <;> first | exact ⟨_, _, _, _, rfl⟩ | (simp [isNest] at h)
theorem aK.warm {D : va_G} {C : CT} {s U : State} (hW : s.WarmedH U.vm) (h : aK D C s) : aK D C U := by
  refine ⟨va_K.moved hW.alike h.1, fun w hw => ?_⟩
  obtain ⟨own, i, x, host, rfl⟩ := isNest_of (List.mem_filter.mp hw).2
  exact va_Nw.warmM hW (h.2 _ hw)
theorem aK.same {D : va_G} {C : CT} {s U : State} (hvm : s.vm = U.vm) (h : aK D C s) : aK D C U := by
  refine ⟨va_K.moved (by rw [hvm]; exact Vm.Alike.refl _) h.1, fun w hw => ?_⟩
  obtain ⟨own, i, x, host, rfl⟩ := isNest_of (List.mem_filter.mp hw).2
  exact va_Nw.same rfl hvm (h.2 _ hw)
abbrev MI : Type := MethodName × ByteArray × Nat × Option FieldType
def mWs (M : MI) : List Cond := .code M.1 M.2.1 M.2.2.1 M.2.2.2 :: aT
def aB (D : va_G) (C : CT) (ad : Nat → Nat) (nN : Nat) (S : Sx) (A0 : Nat → Prop) (τ : St) (U : State) : Prop := va_P D vwCl (wsE ad C nN τ) U.heap ∧ aK D C U ∧ va_D A0 (wsE ad C nN τ) ∧ sc τ S
def aQ (D : va_G) (C : CT) (ad : Nat → Nat) (nN : Nat) (S : Sx) (A0 : Nat → Prop) (r : Option Value) (τ : St) : Array Value → State → Outcome → State → Prop := fun _ st oc t =>
  (oc = .returned (r.map (rv ad)) ∧ aB D C ad nN S A0 τ t) ∧ va_F A0 st t
/-- what a walk is held to: the cells and slots that it has used, what its frame must be, where it must come to -/
abbrev JX : Type := (Nat × Nat) × (Room → Array Value → State → (Nat → Prop) → Prop) × (va_G → CT → (Nat → Nat) → Nat → Sx → List Frame → Array Value → State → (Nat → Prop) → State → Prop)
/-- where a frame of the method M stands: the machine, its code, the words, the room for e calls one in another -/
def Cx (K : Nat → Prop) (B : JX) (M : MI) (e : Nat) (D : va_G) (C : CT) (ad : Nat → Nat) (nN : Nat) (S : Sx) (p : Program) (R : Room) (s : State) (m : MethodId) (args : Array Value) (meth : Method) (c : Code) (A0 : Nat → Prop) : Prop :=
  p.tables.exec = Jvm.exec ∧ c.code = M.2.1 ∧ c.maxLocals = M.2.2.1 ∧ meth.sig.returnType = M.2.2.2 ∧ meth.locks = false ∧ s.vm.findClass M.1.cls = some m.cls ∧ (∀ w ∈ aT, w.before args s = true) ∧ aK D C s ∧ e ≤ R.frames ∧ 36 * e ≤ R.locals ∧ (K nN ∧ nN ≤ 68) ∧ (B.1.1 ≤ R.cells ∧ B.1.2 ≤ R.slots) ∧ (va_X (ad 68) S.2 S.1 s s.heap ∧ ad 68 < s.heap.size ∧ ¬ A0 (ad 68)) ∧ B.2.1 R args s A0
def Hp (D : va_G) (C : CT) (ad : Nat → Nat) (nN : Nat) (S : Sx) (A0 : Nat → Prop) (s : State) (σ : St) (H : Heap) (locs : List Loc) : Prop :=
  va_P D vwCl (wsE ad C nN σ) H ∧ va_D A0 (wsE ad C nN σ) ∧ va_S A0 s.heap H locs ∧ sc σ S
def lm (ad : Nat → Nat) (loc : List (Nat × Value)) : List (Nat × Value) := loc.map fun q => (q.1, rv ad q.2)
/-- THE JUDGEMENT: from here the walk comes where it must -/
def J (K : Nat → Prop) (B : JX) (e : Nat) (M : MI) (pc : Nat) (loc : List (Nat × Value)) (stk : List Value) (σ : St) : Prop :=
  ∀ (l : Launch) (D : va_G) (C : CT) (ad : Nat → Nat) (nN : Nat) (S : Sx) (p : Program) (ev : Env) (R : Room) (s : State) (m : MethodId) (args : Array Value) (below : List Frame) (meth : Method) (c : Code) (A0 : Nat → Prop) (H : Heap) (locs : List Loc) (ls : Array Slot),
    Cx K B M e D C ad nN S p R s m args meth c A0 → (∀ q, s.heap.size ≤ q → A0 q) → Hp D C ad nN S A0 s σ H locs → lv_has ls M.2.2.1 (lm ad loc) →
    W p l ev R s m args below meth c H locs B.1.1 B.1.2 (B.2.2 D C ad nN S below args s A0) (F0 m pc ls (stk.map (rv ad)))
/-- a method's walk: to its end, with the answer r and the state τ -/
abbrev BA (r : Option Value) (τ : St) : JX := ((0, 0), fun _ _ _ _ => True, fun D C ad nN S below args s A0 => MQ below (aQ D C ad nN S A0 r τ) args s 0 0 A0)
abbrev K58 : Nat → Prop := fun n => 58 ≤ n
abbrev AL (K : Nat → Prop) (e : Nat) (M : MI) (pc : Nat) (loc : List (Nat × Value)) (stk : List Value) (σ : St) (r : Option Value) (τ : St) : Prop := J K (BA r τ) e M pc loc stk σ
abbrev A (e : Nat) (M : MI) (pc : Nat) (loc : List (Nat × Value)) (stk : List Value) (σ : St) (r : Option Value) (τ : St) : Prop := J K58 (BA r τ) e M pc loc stk σ
/-- THE CONTRACT of a method: called with these arguments in the state σ it answers r and leaves τ -/
def SpK (K : Nat → Prop) (e : Nat) (M : MI) (as : List Value) (σ : St) (r : Option Value) (τ : St) : Prop :=
  ∀ (l : Launch) (D : va_G) (C : CT) (ad : Nat → Nat) (nN : Nat) (S : Sx) (sz : Nat), K nN → nN ≤ 68 → Met l M.1 (mWs M) ({ frames := e, cells := 0, slots := 0, locals := 36 * e } : Room)
    (va_Pc (as.map (rv ad)) (fun U => U.heap.size = sz ∧ va_P D vwCl (wsE ad C nN σ) U.heap ∧ aK D C U ∧ va_D (fun _ => True) (wsE ad C nN σ) ∧ (va_X (ad 68) S.2 S.1 U U.heap ∧ ad 68 < sz ∧ ¬ va_A (wsE ad C nN σ) sz (ad 68)) ∧ sc σ S)) (aQ D C ad nN S (va_A (wsE ad C nN σ) sz) r τ) 0 0 (va_A (wsE ad C nN σ) sz)
abbrev Sp (e : Nat) (M : MI) (as : List Value) (σ : St) (r : Option Value) (τ : St) : Prop := SpK K58 e M as σ r τ
theorem SpK.mono {K K' : Nat → Prop} {e : Nat} {M : MI} {as : List Value} {σ : St} {r : Option Value} {τ : St} (h : SpK K e M as σ r τ) (hk : ∀ n, K' n → K n) : SpK K' e M as σ r τ := fun l D C ad nN S sz h1 h2 => h l D C ad nN S sz (hk _ h1) h2
theorem wsE_at (ad : Nat → Nat) (C : CT) (σ : St) {i nN : Nat} (hi : i < nN) : (wsE ad C nN σ)[i]? = some (ad i, cellE ad C σ i) := by
  simp [wsE, List.getElem?_map, List.getElem?_range hi]
theorem wsE_set (ad : Nat → Nat) (C : CT) (σ σ' : St) {i nN : Nat} (hi : i < nN) {e : va_E} (he : e = cellE ad C σ' i) (ho : ∀ j, j ≠ i → cellE ad C σ' j = cellE ad C σ j) : (wsE ad C nN σ).set i (ad i, e) = wsE ad C nN σ' := by
  apply List.ext_getElem?
  intro j
  by_cases hj : j = i
  · subst hj
    rw [List.getElem?_set_self (by simp [wsE]; exact hi), wsE_at ad C σ' hi, he]
  · rw [List.getElem?_set_ne (Ne.symm hj)]
    by_cases hl : j < nN
    · rw [wsE_at ad C σ hl, wsE_at ad C σ' hl, ho j hj]
    · simp [wsE, List.getElem?_map, List.getElem?_eq_none (by simp; omega : (List.range nN).length ≤ j)]
theorem sc_setI {σ : St} {S : Sx} {i k : Nat} {v : Int32} (h : sc σ S) (hi : i < 68) : sc (setI σ i k v) S := by
  obtain ⟨h1, h2, h3⟩ := h
  refine ⟨?_, ?_, h3⟩
  · rw [← h1]; funext b; simp only [setI]; rw [if_neg (fun q => by omega)]
  · rw [← h2]; simp only [setI]; rw [if_neg (fun q => by omega)]
theorem sc_setL {σ : St} {S : Sx} {i k : Nat} {v : Int64} (h : sc σ S) : sc (setL σ i k v) S := h
theorem sc_cpyI {σ : St} {S : Sx} {i j n : Nat} (h : sc σ S) (hi : j < 68) : sc (cpyI σ i j n) S := by
  obtain ⟨h1, h2, h3⟩ := h
  refine ⟨?_, ?_, h3⟩
  · rw [← h1]; funext b; simp only [cpyI]; rw [if_neg (fun q => by omega)]
  · rw [← h2]; simp only [cpyI]; rw [if_neg (fun q => by omega)]
theorem sc_cpyL {σ : St} {S : Sx} {i j n : Nat} (h : sc σ S) : sc (cpyL σ i j n) S := h
theorem cellE_1 (ad : Nat → Nat) (C : CT) (σ : St) {i : Nat} (h : kd i = 1) : cellE ad C σ i = .inr (cl i, (List.range (nsl i)).map fun k => rv ad (av σ i k)) := by simp [cellE, h]
theorem cellE_2 (ad : Nat → Nat) (C : CT) (σ : St) {i : Nat} (h : kd i = 2) : cellE ad C σ i = .inl (C.1, (nsl i, .inl (σ.1 i))) := by simp [cellE, h]
theorem cellE_3 (ad : Nat → Nat) (C : CT) (σ : St) {i : Nat} (h : kd i = 3) : cellE ad C σ i = .inl (C.2.1, (nsl i, .inr (.inl (σ.2 i)))) := by simp [cellE, h]
theorem cellE_4 (ad : Nat → Nat) (C : CT) (σ : St) {i : Nat} (h : kd i = 4) : cellE ad C σ i = .inl (C.2.2, (nsl i, .inr (.inr (.inr (.inr fun j => some (ad (rfv i j))))))) := by simp [cellE, h]
theorem cellE_setI_ne (ad : Nat → Nat) (C : CT) (σ : St) {i j k : Nat} {v : Int32} (h : j ≠ i) : cellE ad C (setI σ i k v) j = cellE ad C σ j := by
  have e1 : (setI σ i k v).1 j = σ.1 j := by funext b; simp [setI, h]
  have e2 : ∀ b, av (setI σ i k v) j b = av σ j b := fun b => by simp only [av, e1]; rfl
  simp only [cellE, e1, e2]
  rfl
theorem cellE_setL_ne (ad : Nat → Nat) (C : CT) (σ : St) {i j k : Nat} {v : Int64} (h : j ≠ i) : cellE ad C (setL σ i k v) j = cellE ad C σ j := by
  have e1 : (setL σ i k v).2 j = σ.2 j := by funext b; simp [setL, h]
  have e2 : ∀ b, av (setL σ i k v) j b = av σ j b := fun b => by simp only [av, e1]; rfl
  simp only [cellE, e1, e2]
  rfl
theorem cellE_cpyI_ne (ad : Nat → Nat) (C : CT) (σ : St) {i j n a : Nat} (h : a ≠ j) : cellE ad C (cpyI σ i j n) a = cellE ad C σ a := by
  have e1 : (cpyI σ i j n).1 a = σ.1 a := by funext b; simp [cpyI, h]
  have e2 : ∀ b, av (cpyI σ i j n) a b = av σ a b := fun b => by simp only [av, e1]; rfl
  simp only [cellE, e1, e2]
  rfl
theorem cellE_cpyL_ne (ad : Nat → Nat) (C : CT) (σ : St) {i j n a : Nat} (h : a ≠ j) : cellE ad C (cpyL σ i j n) a = cellE ad C σ a := by
  have e1 : (cpyL σ i j n).2 a = σ.2 a := by funext b; simp [cpyL, h]
  have e2 : ∀ b, av (cpyL σ i j n) a b = av σ a b := fun b => by simp only [av, e1]; rfl
  simp only [cellE, e1, e2]
  rfl
theorem lm_at {ad : Nat → Nat} {loc : List (Nat × Value)} {k i : Nat} {v : Value} (h : loc[k]? = some (i, v)) : (lm ad loc)[k]? = some (i, rv ad v) := by
  simp [lm, List.getElem?_map, h]
theorem lm_pick {ad : Nat → Nat} {loc loc' : List (Nat × Value)} {ks : List Nat} (h : lv_pick loc ks = loc') : lv_pick (lm ad loc) ks = lm ad loc' := by
  subst h
  simp only [lv_pick, lm, List.map_filterMap, List.getElem?_map]
def st1 (i : Nat) (v : Value) (loc : List (Nat × Value)) : List (Nat × Value) := (i, v) :: loc.filter (fun q => !(q.1 == i) && !(q.1 + 1 == i && q.2.category == 2))
def st2 (i : Nat) (v : Value) (loc : List (Nat × Value)) : List (Nat × Value) := (i, v) :: loc.filter (fun q => !(q.1 == i) && (!(q.1 == i + 1) && !(q.1 + 1 == i && q.2.category == 2)))
theorem lm_st1 {ad : Nat → Nat} {loc loc' : List (Nat × Value)} {i : Nat} {v : Value} (h : st1 i v loc = loc') : (i, rv ad v) :: (lm ad loc).filter (fun q => !(q.1 == i) && !(q.1 + 1 == i && q.2.category == 2)) = lm ad loc' := by
  subst h
  simp only [st1, lm, List.map_cons, List.filter_map]
  congr 2
  apply List.filter_congr
  intro q _
  simp [rv_cat]
theorem lm_st2 {ad : Nat → Nat} {loc loc' : List (Nat × Value)} {i : Nat} {v : Value} (h : st2 i v loc = loc') : (i, rv ad v) :: (lm ad loc).filter (fun q => !(q.1 == i) && (!(q.1 == i + 1) && !(q.1 + 1 == i && q.2.category == 2))) = lm ad loc' := by
  subst h
  simp only [st2, lm, List.map_cons, List.filter_map]
  congr 2
  apply List.filter_congr
  intro q _
  simp [rv_cat]

section AR
variable {K : Nat → Prop} {B : JX} {e : Nat} {M : MI} {pc : Nat} {loc loc' : List (Nat × Value)} {stk : List Value} {σ τ : St} {r : Option Value}
theorem a_iconst {n : Int} (v : Int32) (hd : decode M.2.1 pc = .ok (.iconst n, 1)) (hv : Int32.ofInt n = v) (k : J K B e M (pc + 1) loc (.int v :: stk) σ) : J K B e M pc loc (stk) σ := by
  intro l D C ad nN S p ev R s m args below meth c A0 H locs ls X hA Y hl
  obtain ⟨hx, hb, hml, hr, hlk, hown, hts, hK, hf, hlo, hKn, hB, hSc, hTh⟩ := id X
  exact lv_iconst hx hb hd hv (k l D C ad nN S p ev R s m args below meth c A0 H locs ls X hA Y hl)
theorem a_bipush {n : Int} (v : Int32) (hd : decode M.2.1 pc = .ok (.bipush n, 2)) (hv : (Int8.ofInt n).toInt32 = v) (k : J K B e M (pc + 2) loc (.int v :: stk) σ) : J K B e M pc loc (stk) σ := by
  intro l D C ad nN S p ev R s m args below meth c A0 H locs ls X hA Y hl
  obtain ⟨hx, hb, hml, hr, hlk, hown, hts, hK, hf, hlo, hKn, hB, hSc, hTh⟩ := id X
  exact lv_bipush hx hb hd hv (k l D C ad nN S p ev R s m args below meth c A0 H locs ls X hA Y hl)
theorem a_sipush {n : Int} (v : Int32) (hd : decode M.2.1 pc = .ok (.sipush n, 3)) (hv : (Int16.ofInt n).toInt32 = v) (k : J K B e M (pc + 3) loc (.int v :: stk) σ) : J K B e M pc loc (stk) σ := by
  intro l D C ad nN S p ev R s m args below meth c A0 H locs ls X hA Y hl
  obtain ⟨hx, hb, hml, hr, hlk, hown, hts, hK, hf, hlo, hKn, hB, hSc, hTh⟩ := id X
  exact lv_sipush hx hb hd hv (k l D C ad nN S p ev R s m args below meth c A0 H locs ls X hA Y hl)
theorem a_lconst {n : Fin 2} (v : Int64) (hd : decode M.2.1 pc = .ok (.lconst n, 1)) (hv : Int64.ofNat (n : Nat) = v) (k : J K B e M (pc + 1) loc (.long v :: stk) σ) : J K B e M pc loc (stk) σ := by
  intro l D C ad nN S p ev R s m args below meth c A0 H locs ls X hA Y hl
  obtain ⟨hx, hb, hml, hr, hlk, hown, hts, hK, hf, hlo, hKn, hB, hSc, hTh⟩ := id X
  exact lv_lconst hx hb hd hv (k l D C ad nN S p ev R s m args below meth c A0 H locs ls X hA Y hl)
theorem a_null (hd : decode M.2.1 pc = .ok (.aconst_null, 1)) (k : J K B e M (pc + 1) loc (.null :: stk) σ) : J K B e M pc loc (stk) σ := by
  intro l D C ad nN S p ev R s m args below meth c A0 H locs ls X hA Y hl
  obtain ⟨hx, hb, hml, hr, hlk, hown, hts, hK, hf, hlo, hKn, hB, hSc, hTh⟩ := id X
  exact lv_null hx hb hd (k l D C ad nN S p ev R s m args below meth c A0 H locs ls X hA Y hl)
theorem a_ldc {own : String} {ix : Nat} {v : Int32} (ho : own = M.1.cls) (hc : Cond.constant own ix v ∈ aT) (hd : decode M.2.1 pc = .ok (.ldc ix, 2)) (k : J K B e M (pc + 2) loc (.int v :: stk) σ) : J K B e M pc loc (stk) σ := by
  intro l D C ad nN S p ev R s m args below meth c A0 H locs ls X hA Y hl
  obtain ⟨hx, hb, hml, hr, hlk, hown, hts, hK, hf, hlo, hKn, hB, hSc, hTh⟩ := id X
  subst ho
  exact lv_ldc hx hb hown (hts _ hc) hd (k l D C ad nN S p ev R s m args below meth c A0 H locs ls X hA Y hl)
theorem a_ldcw {own : String} {ix : Nat} {v : Int32} (ho : own = M.1.cls) (hc : Cond.constant own ix v ∈ aT) (hd : decode M.2.1 pc = .ok (.ldc_w ix, 3)) (k : J K B e M (pc + 3) loc (.int v :: stk) σ) : J K B e M pc loc (stk) σ := by
  intro l D C ad nN S p ev R s m args below meth c A0 H locs ls X hA Y hl
  obtain ⟨hx, hb, hml, hr, hlk, hown, hts, hK, hf, hlo, hKn, hB, hSc, hTh⟩ := id X
  subst ho
  exact lv_ldcw hx hb hown (hts _ hc) hd (k l D C ad nN S p ev R s m args below meth c A0 H locs ls X hA Y hl)
theorem a_ldc2 {own : String} {ix : Nat} {v : Int64} (ho : own = M.1.cls) (hc : Cond.constantLong own ix v ∈ aT) (hd : decode M.2.1 pc = .ok (.ldc2_w ix, 3)) (k : J K B e M (pc + 3) loc (.long v :: stk) σ) : J K B e M pc loc (stk) σ := by
  intro l D C ad nN S p ev R s m args below meth c A0 H locs ls X hA Y hl
  obtain ⟨hx, hb, hml, hr, hlk, hown, hts, hK, hf, hlo, hKn, hB, hSc, hTh⟩ := id X
  subst ho
  exact lv_ldc2 hx hb hown (hts _ hc) hd (k l D C ad nN S p ev R s m args below meth c A0 H locs ls X hA Y hl)
theorem a_iload_n {j : Fin 4} {i : Nat} {x : Int32} (hd : decode M.2.1 pc = .ok (.iload_n j, 1)) (hi : (j : Nat) = i) (q : Nat) (hq : loc[q]? = some (i, .int x)) (k : J K B e M (pc + 1) loc (.int x :: stk) σ) : J K B e M pc loc (stk) σ := by
  intro l D C ad nN S p ev R s m args below meth c A0 H locs ls X hA Y hl
  obtain ⟨hx, hb, hml, hr, hlk, hown, hts, hK, hf, hlo, hKn, hB, hSc, hTh⟩ := id X
  exact lv_iload_n hx hb hd hi (lv_at hl q (lm_at hq)) (k l D C ad nN S p ev R s m args below meth c A0 H locs ls X hA Y hl)
theorem a_iload {i : Nat} {x : Int32} (hd : decode M.2.1 pc = .ok (.iload i, 2)) (q : Nat) (hq : loc[q]? = some (i, .int x)) (k : J K B e M (pc + 2) loc (.int x :: stk) σ) : J K B e M pc loc (stk) σ := by
  intro l D C ad nN S p ev R s m args below meth c A0 H locs ls X hA Y hl
  obtain ⟨hx, hb, hml, hr, hlk, hown, hts, hK, hf, hlo, hKn, hB, hSc, hTh⟩ := id X
  exact lv_iload hx hb hd (lv_at hl q (lm_at hq)) (k l D C ad nN S p ev R s m args below meth c A0 H locs ls X hA Y hl)
theorem a_lload_n {j : Fin 4} {i : Nat} {x : Int64} (hd : decode M.2.1 pc = .ok (.lload_n j, 1)) (hi : (j : Nat) = i) (q : Nat) (hq : loc[q]? = some (i, .long x)) (k : J K B e M (pc + 1) loc (.long x :: stk) σ) : J K B e M pc loc (stk) σ := by
  intro l D C ad nN S p ev R s m args below meth c A0 H locs ls X hA Y hl
  obtain ⟨hx, hb, hml, hr, hlk, hown, hts, hK, hf, hlo, hKn, hB, hSc, hTh⟩ := id X
  exact lv_lload_n hx hb hd hi (lv_at hl q (lm_at hq)) (k l D C ad nN S p ev R s m args below meth c A0 H locs ls X hA Y hl)
theorem a_lload {i : Nat} {x : Int64} (hd : decode M.2.1 pc = .ok (.lload i, 2)) (q : Nat) (hq : loc[q]? = some (i, .long x)) (k : J K B e M (pc + 2) loc (.long x :: stk) σ) : J K B e M pc loc (stk) σ := by
  intro l D C ad nN S p ev R s m args below meth c A0 H locs ls X hA Y hl
  obtain ⟨hx, hb, hml, hr, hlk, hown, hts, hK, hf, hlo, hKn, hB, hSc, hTh⟩ := id X
  exact lv_lload hx hb hd (lv_at hl q (lm_at hq)) (k l D C ad nN S p ev R s m args below meth c A0 H locs ls X hA Y hl)
theorem a_aload_n {j : Fin 4} {i : Nat} {x : Nat} (hd : decode M.2.1 pc = .ok (.aload_n j, 1)) (hi : (j : Nat) = i) (q : Nat) (hq : loc[q]? = some (i, .ref x)) (k : J K B e M (pc + 1) loc (.ref x :: stk) σ) : J K B e M pc loc (stk) σ := by
  intro l D C ad nN S p ev R s m args below meth c A0 H locs ls X hA Y hl
  obtain ⟨hx, hb, hml, hr, hlk, hown, hts, hK, hf, hlo, hKn, hB, hSc, hTh⟩ := id X
  exact lv_aload_n hx hb hd hi (lv_at hl q (lm_at hq)) (k l D C ad nN S p ev R s m args below meth c A0 H locs ls X hA Y hl)
theorem a_aload {i : Nat} {x : Nat} (hd : decode M.2.1 pc = .ok (.aload i, 2)) (q : Nat) (hq : loc[q]? = some (i, .ref x)) (k : J K B e M (pc + 2) loc (.ref x :: stk) σ) : J K B e M pc loc (stk) σ := by
  intro l D C ad nN S p ev R s m args below meth c A0 H locs ls X hA Y hl
  obtain ⟨hx, hb, hml, hr, hlk, hown, hts, hK, hf, hlo, hKn, hB, hSc, hTh⟩ := id X
  exact lv_aload hx hb hd (lv_at hl q (lm_at hq)) (k l D C ad nN S p ev R s m args below meth c A0 H locs ls X hA Y hl)
theorem a_aload_nN {j : Fin 4} {i : Nat} (hd : decode M.2.1 pc = .ok (.aload_n j, 1)) (hi : (j : Nat) = i) (q : Nat) (hq : loc[q]? = some (i, .null)) (k : J K B e M (pc + 1) loc (.null :: stk) σ) : J K B e M pc loc (stk) σ := by
  intro l D C ad nN S p ev R s m args below meth c A0 H locs ls X hA Y hl
  obtain ⟨hx, hb, hml, hr, hlk, hown, hts, hK, hf, hlo, hKn, hB, hSc, hTh⟩ := id X
  exact lv_aload_nN hx hb hd hi (lv_at hl q (lm_at hq)) (k l D C ad nN S p ev R s m args below meth c A0 H locs ls X hA Y hl)
theorem a_aloadN {i : Nat} (hd : decode M.2.1 pc = .ok (.aload i, 2)) (q : Nat) (hq : loc[q]? = some (i, .null)) (k : J K B e M (pc + 2) loc (.null :: stk) σ) : J K B e M pc loc (stk) σ := by
  intro l D C ad nN S p ev R s m args below meth c A0 H locs ls X hA Y hl
  obtain ⟨hx, hb, hml, hr, hlk, hown, hts, hK, hf, hlo, hKn, hB, hSc, hTh⟩ := id X
  exact lv_aloadN hx hb hd (lv_at hl q (lm_at hq)) (k l D C ad nN S p ev R s m args below meth c A0 H locs ls X hA Y hl)
theorem a_istore_n {j : Fin 4} {i : Nat} {x : Int32} (hd : decode M.2.1 pc = .ok (.istore_n j, 1)) (hi : (j : Nat) = i) (hn : i < M.2.2.1) (hq : st1 i (.int x) loc = loc') (k : J K B e M (pc + 1) loc' (stk) σ) : J K B e M pc loc (.int x :: stk) σ := by
  intro l D C ad nN S p ev R s m args below meth c A0 H locs ls X hA Y hl
  obtain ⟨hx, hb, hml, hr, hlk, hown, hts, hK, hf, hlo, hKn, hB, hSc, hTh⟩ := id X
  exact lv_istore_n hx hb hd hi hl hn (lm_st1 hq) (fun ls' hl' => k l D C ad nN S p ev R s m args below meth c A0 H locs ls' X hA Y hl')
theorem a_istore {i : Nat} {x : Int32} (hd : decode M.2.1 pc = .ok (.istore i, 2)) (hn : i < M.2.2.1) (hq : st1 i (.int x) loc = loc') (k : J K B e M (pc + 2) loc' (stk) σ) : J K B e M pc loc (.int x :: stk) σ := by
  intro l D C ad nN S p ev R s m args below meth c A0 H locs ls X hA Y hl
  obtain ⟨hx, hb, hml, hr, hlk, hown, hts, hK, hf, hlo, hKn, hB, hSc, hTh⟩ := id X
  exact lv_istore hx hb hd hl hn (lm_st1 hq) (fun ls' hl' => k l D C ad nN S p ev R s m args below meth c A0 H locs ls' X hA Y hl')
theorem a_lstore_n {j : Fin 4} {i : Nat} {x : Int64} (hd : decode M.2.1 pc = .ok (.lstore_n j, 1)) (hi : (j : Nat) = i) (hn : i + 1 < M.2.2.1) (hq : st2 i (.long x) loc = loc') (k : J K B e M (pc + 1) loc' (stk) σ) : J K B e M pc loc (.long x :: stk) σ := by
  intro l D C ad nN S p ev R s m args below meth c A0 H locs ls X hA Y hl
  obtain ⟨hx, hb, hml, hr, hlk, hown, hts, hK, hf, hlo, hKn, hB, hSc, hTh⟩ := id X
  exact lv_lstore_n hx hb hd hi hl hn (lm_st2 hq) (fun ls' hl' => k l D C ad nN S p ev R s m args below meth c A0 H locs ls' X hA Y hl')
theorem a_lstore {i : Nat} {x : Int64} (hd : decode M.2.1 pc = .ok (.lstore i, 2)) (hn : i + 1 < M.2.2.1) (hq : st2 i (.long x) loc = loc') (k : J K B e M (pc + 2) loc' (stk) σ) : J K B e M pc loc (.long x :: stk) σ := by
  intro l D C ad nN S p ev R s m args below meth c A0 H locs ls X hA Y hl
  obtain ⟨hx, hb, hml, hr, hlk, hown, hts, hK, hf, hlo, hKn, hB, hSc, hTh⟩ := id X
  exact lv_lstore hx hb hd hl hn (lm_st2 hq) (fun ls' hl' => k l D C ad nN S p ev R s m args below meth c A0 H locs ls' X hA Y hl')
theorem a_astore_n {j : Fin 4} {i : Nat} {x : Nat} (hd : decode M.2.1 pc = .ok (.astore_n j, 1)) (hi : (j : Nat) = i) (hn : i < M.2.2.1) (hq : st1 i (.ref x) loc = loc') (k : J K B e M (pc + 1) loc' (stk) σ) : J K B e M pc loc (.ref x :: stk) σ := by
  intro l D C ad nN S p ev R s m args below meth c A0 H locs ls X hA Y hl
  obtain ⟨hx, hb, hml, hr, hlk, hown, hts, hK, hf, hlo, hKn, hB, hSc, hTh⟩ := id X
  exact lv_astore_n hx hb hd hi hl hn (lm_st1 hq) (fun ls' hl' => k l D C ad nN S p ev R s m args below meth c A0 H locs ls' X hA Y hl')
theorem a_astore {i : Nat} {x : Nat} (hd : decode M.2.1 pc = .ok (.astore i, 2)) (hn : i < M.2.2.1) (hq : st1 i (.ref x) loc = loc') (k : J K B e M (pc + 2) loc' (stk) σ) : J K B e M pc loc (.ref x :: stk) σ := by
  intro l D C ad nN S p ev R s m args below meth c A0 H locs ls X hA Y hl
  obtain ⟨hx, hb, hml, hr, hlk, hown, hts, hK, hf, hlo, hKn, hB, hSc, hTh⟩ := id X
  exact lv_astore hx hb hd hl hn (lm_st1 hq) (fun ls' hl' => k l D C ad nN S p ev R s m args below meth c A0 H locs ls' X hA Y hl')
theorem a_iinc {i : Nat} {n : Int} {x : Int32} (v : Int32) (hd : decode M.2.1 pc = .ok (.iinc i n, 3)) (q : Nat) (hq : loc[q]? = some (i, .int x)) (hv : x + Int32.ofInt n = v) (hn : i < M.2.2.1) (hs : st1 i (.int v) loc = loc') (k : J K B e M (pc + 3) loc' (stk) σ) : J K B e M pc loc (stk) σ := by
  intro l D C ad nN S p ev R s m args below meth c A0 H locs ls X hA Y hl
  obtain ⟨hx, hb, hml, hr, hlk, hown, hts, hK, hf, hlo, hKn, hB, hSc, hTh⟩ := id X
  exact lv_iinc hx hb hd hl (lm_at hq) hv hn (lm_st1 hs) (fun ls' hl' => k l D C ad nN S p ev R s m args below meth c A0 H locs ls' X hA Y hl')
theorem a_locs (ks : List Nat) (hs : lv_pick loc ks = loc') (k : J K B e M (pc) loc' (stk) σ) : J K B e M pc loc (stk) σ := by
  intro l D C ad nN S p ev R s m args below meth c A0 H locs ls X hA Y hl
  obtain ⟨hx, hb, hml, hr, hlk, hown, hts, hK, hf, hlo, hKn, hB, hSc, hTh⟩ := id X
  exact k l D C ad nN S p ev R s m args below meth c A0 H locs ls X hA Y (lv_sub hl ks (lm_pick hs))
theorem a_iadd {x y : Int32} (hd : decode M.2.1 pc = .ok (.iadd, 1)) (k : J K B e M (pc + 1) loc (.int (x + y) :: stk) σ) : J K B e M pc loc (.int y :: .int x :: stk) σ := by
  intro l D C ad nN S p ev R s m args below meth c A0 H locs ls X hA Y hl
  obtain ⟨hx, hb, hml, hr, hlk, hown, hts, hK, hf, hlo, hKn, hB, hSc, hTh⟩ := id X
  exact lv_iadd hx hb hd (k l D C ad nN S p ev R s m args below meth c A0 H locs ls X hA Y hl)
theorem a_isub {x y : Int32} (hd : decode M.2.1 pc = .ok (.isub, 1)) (k : J K B e M (pc + 1) loc (.int (x - y) :: stk) σ) : J K B e M pc loc (.int y :: .int x :: stk) σ := by
  intro l D C ad nN S p ev R s m args below meth c A0 H locs ls X hA Y hl
  obtain ⟨hx, hb, hml, hr, hlk, hown, hts, hK, hf, hlo, hKn, hB, hSc, hTh⟩ := id X
  exact lv_isub hx hb hd (k l D C ad nN S p ev R s m args below meth c A0 H locs ls X hA Y hl)
theorem a_imul {x y : Int32} (hd : decode M.2.1 pc = .ok (.imul, 1)) (k : J K B e M (pc + 1) loc (.int (x * y) :: stk) σ) : J K B e M pc loc (.int y :: .int x :: stk) σ := by
  intro l D C ad nN S p ev R s m args below meth c A0 H locs ls X hA Y hl
  obtain ⟨hx, hb, hml, hr, hlk, hown, hts, hK, hf, hlo, hKn, hB, hSc, hTh⟩ := id X
  exact lv_imul hx hb hd (k l D C ad nN S p ev R s m args below meth c A0 H locs ls X hA Y hl)
theorem a_iand {x y : Int32} (hd : decode M.2.1 pc = .ok (.iand, 1)) (k : J K B e M (pc + 1) loc (.int (x &&& y) :: stk) σ) : J K B e M pc loc (.int y :: .int x :: stk) σ := by
  intro l D C ad nN S p ev R s m args below meth c A0 H locs ls X hA Y hl
  obtain ⟨hx, hb, hml, hr, hlk, hown, hts, hK, hf, hlo, hKn, hB, hSc, hTh⟩ := id X
  exact lv_iand hx hb hd (k l D C ad nN S p ev R s m args below meth c A0 H locs ls X hA Y hl)
theorem a_ior {x y : Int32} (hd : decode M.2.1 pc = .ok (.ior, 1)) (k : J K B e M (pc + 1) loc (.int (x ||| y) :: stk) σ) : J K B e M pc loc (.int y :: .int x :: stk) σ := by
  intro l D C ad nN S p ev R s m args below meth c A0 H locs ls X hA Y hl
  obtain ⟨hx, hb, hml, hr, hlk, hown, hts, hK, hf, hlo, hKn, hB, hSc, hTh⟩ := id X
  exact lv_ior hx hb hd (k l D C ad nN S p ev R s m args below meth c A0 H locs ls X hA Y hl)
theorem a_ixor {x y : Int32} (hd : decode M.2.1 pc = .ok (.ixor, 1)) (k : J K B e M (pc + 1) loc (.int (x ^^^ y) :: stk) σ) : J K B e M pc loc (.int y :: .int x :: stk) σ := by
  intro l D C ad nN S p ev R s m args below meth c A0 H locs ls X hA Y hl
  obtain ⟨hx, hb, hml, hr, hlk, hown, hts, hK, hf, hlo, hKn, hB, hSc, hTh⟩ := id X
  exact lv_ixor hx hb hd (k l D C ad nN S p ev R s m args below meth c A0 H locs ls X hA Y hl)
theorem a_ishl {x y : Int32} (hd : decode M.2.1 pc = .ok (.ishl, 1)) (k : J K B e M (pc + 1) loc (.int (x <<< (y &&& 31)) :: stk) σ) : J K B e M pc loc (.int y :: .int x :: stk) σ := by
  intro l D C ad nN S p ev R s m args below meth c A0 H locs ls X hA Y hl
  obtain ⟨hx, hb, hml, hr, hlk, hown, hts, hK, hf, hlo, hKn, hB, hSc, hTh⟩ := id X
  exact lv_ishl hx hb hd (k l D C ad nN S p ev R s m args below meth c A0 H locs ls X hA Y hl)
theorem a_ishr {x y : Int32} (hd : decode M.2.1 pc = .ok (.ishr, 1)) (k : J K B e M (pc + 1) loc (.int (x >>> (y &&& 31)) :: stk) σ) : J K B e M pc loc (.int y :: .int x :: stk) σ := by
  intro l D C ad nN S p ev R s m args below meth c A0 H locs ls X hA Y hl
  obtain ⟨hx, hb, hml, hr, hlk, hown, hts, hK, hf, hlo, hKn, hB, hSc, hTh⟩ := id X
  exact lv_ishr hx hb hd (k l D C ad nN S p ev R s m args below meth c A0 H locs ls X hA Y hl)
theorem a_idiv {x y : Int32} (hy : ¬ y = 0) (hd : decode M.2.1 pc = .ok (.idiv, 1)) (k : J K B e M (pc + 1) loc (.int (x / y) :: stk) σ) : J K B e M pc loc (.int y :: .int x :: stk) σ := by
  intro l D C ad nN S p ev R s m args below meth c A0 H locs ls X hA Y hl
  obtain ⟨hx, hb, hml, hr, hlk, hown, hts, hK, hf, hlo, hKn, hB, hSc, hTh⟩ := id X
  exact lv_idiv hx hb hd hy (k l D C ad nN S p ev R s m args below meth c A0 H locs ls X hA Y hl)
theorem a_irem {x y : Int32} (hy : ¬ y = 0) (hd : decode M.2.1 pc = .ok (.irem, 1)) (k : J K B e M (pc + 1) loc (.int (x - x / y * y) :: stk) σ) : J K B e M pc loc (.int y :: .int x :: stk) σ := by
  intro l D C ad nN S p ev R s m args below meth c A0 H locs ls X hA Y hl
  obtain ⟨hx, hb, hml, hr, hlk, hown, hts, hK, hf, hlo, hKn, hB, hSc, hTh⟩ := id X
  exact lv_irem hx hb hd hy (k l D C ad nN S p ev R s m args below meth c A0 H locs ls X hA Y hl)
theorem a_ineg {x : Int32} (hd : decode M.2.1 pc = .ok (.ineg, 1)) (k : J K B e M (pc + 1) loc (.int (-x) :: stk) σ) : J K B e M pc loc (.int x :: stk) σ := by
  intro l D C ad nN S p ev R s m args below meth c A0 H locs ls X hA Y hl
  obtain ⟨hx, hb, hml, hr, hlk, hown, hts, hK, hf, hlo, hKn, hB, hSc, hTh⟩ := id X
  exact lv_ineg hx hb hd (k l D C ad nN S p ev R s m args below meth c A0 H locs ls X hA Y hl)
theorem a_ladd {x y : Int64} (hd : decode M.2.1 pc = .ok (.ladd, 1)) (k : J K B e M (pc + 1) loc (.long (x + y) :: stk) σ) : J K B e M pc loc (.long y :: .long x :: stk) σ := by
  intro l D C ad nN S p ev R s m args below meth c A0 H locs ls X hA Y hl
  obtain ⟨hx, hb, hml, hr, hlk, hown, hts, hK, hf, hlo, hKn, hB, hSc, hTh⟩ := id X
  exact lv_ladd hx hb hd (k l D C ad nN S p ev R s m args below meth c A0 H locs ls X hA Y hl)
theorem a_lsub {x y : Int64} (hd : decode M.2.1 pc = .ok (.lsub, 1)) (k : J K B e M (pc + 1) loc (.long (x - y) :: stk) σ) : J K B e M pc loc (.long y :: .long x :: stk) σ := by
  intro l D C ad nN S p ev R s m args below meth c A0 H locs ls X hA Y hl
  obtain ⟨hx, hb, hml, hr, hlk, hown, hts, hK, hf, hlo, hKn, hB, hSc, hTh⟩ := id X
  exact lv_lsub hx hb hd (k l D C ad nN S p ev R s m args below meth c A0 H locs ls X hA Y hl)
theorem a_lmul {x y : Int64} (hd : decode M.2.1 pc = .ok (.lmul, 1)) (k : J K B e M (pc + 1) loc (.long (x * y) :: stk) σ) : J K B e M pc loc (.long y :: .long x :: stk) σ := by
  intro l D C ad nN S p ev R s m args below meth c A0 H locs ls X hA Y hl
  obtain ⟨hx, hb, hml, hr, hlk, hown, hts, hK, hf, hlo, hKn, hB, hSc, hTh⟩ := id X
  exact lv_lmul hx hb hd (k l D C ad nN S p ev R s m args below meth c A0 H locs ls X hA Y hl)
theorem a_land {x y : Int64} (hd : decode M.2.1 pc = .ok (.land, 1)) (k : J K B e M (pc + 1) loc (.long (x &&& y) :: stk) σ) : J K B e M pc loc (.long y :: .long x :: stk) σ := by
  intro l D C ad nN S p ev R s m args below meth c A0 H locs ls X hA Y hl
  obtain ⟨hx, hb, hml, hr, hlk, hown, hts, hK, hf, hlo, hKn, hB, hSc, hTh⟩ := id X
  exact lv_land hx hb hd (k l D C ad nN S p ev R s m args below meth c A0 H locs ls X hA Y hl)
theorem a_lor {x y : Int64} (hd : decode M.2.1 pc = .ok (.lor, 1)) (k : J K B e M (pc + 1) loc (.long (x ||| y) :: stk) σ) : J K B e M pc loc (.long y :: .long x :: stk) σ := by
  intro l D C ad nN S p ev R s m args below meth c A0 H locs ls X hA Y hl
  obtain ⟨hx, hb, hml, hr, hlk, hown, hts, hK, hf, hlo, hKn, hB, hSc, hTh⟩ := id X
  exact lv_lor hx hb hd (k l D C ad nN S p ev R s m args below meth c A0 H locs ls X hA Y hl)
theorem a_ldiv {x y : Int64} (hy : ¬ y = 0) (hd : decode M.2.1 pc = .ok (.ldiv, 1)) (k : J K B e M (pc + 1) loc (.long (x / y) :: stk) σ) : J K B e M pc loc (.long y :: .long x :: stk) σ := by
  intro l D C ad nN S p ev R s m args below meth c A0 H locs ls X hA Y hl
  obtain ⟨hx, hb, hml, hr, hlk, hown, hts, hK, hf, hlo, hKn, hB, hSc, hTh⟩ := id X
  exact lv_ldiv hx hb hd hy (k l D C ad nN S p ev R s m args below meth c A0 H locs ls X hA Y hl)
theorem a_lrem {x y : Int64} (hy : ¬ y = 0) (hd : decode M.2.1 pc = .ok (.lrem, 1)) (k : J K B e M (pc + 1) loc (.long (x - x / y * y) :: stk) σ) : J K B e M pc loc (.long y :: .long x :: stk) σ := by
  intro l D C ad nN S p ev R s m args below meth c A0 H locs ls X hA Y hl
  obtain ⟨hx, hb, hml, hr, hlk, hown, hts, hK, hf, hlo, hKn, hB, hSc, hTh⟩ := id X
  exact lv_lrem hx hb hd hy (k l D C ad nN S p ev R s m args below meth c A0 H locs ls X hA Y hl)
theorem a_i2l {x : Int32} (hd : decode M.2.1 pc = .ok (.i2l, 1)) (k : J K B e M (pc + 1) loc (.long x.toInt64 :: stk) σ) : J K B e M pc loc (.int x :: stk) σ := by
  intro l D C ad nN S p ev R s m args below meth c A0 H locs ls X hA Y hl
  obtain ⟨hx, hb, hml, hr, hlk, hown, hts, hK, hf, hlo, hKn, hB, hSc, hTh⟩ := id X
  exact lv_i2l hx hb hd rfl (k l D C ad nN S p ev R s m args below meth c A0 H locs ls X hA Y hl)
theorem a_l2i {x : Int64} (hd : decode M.2.1 pc = .ok (.l2i, 1)) (k : J K B e M (pc + 1) loc (.int x.toInt32 :: stk) σ) : J K B e M pc loc (.long x :: stk) σ := by
  intro l D C ad nN S p ev R s m args below meth c A0 H locs ls X hA Y hl
  obtain ⟨hx, hb, hml, hr, hlk, hown, hts, hK, hf, hlo, hKn, hB, hSc, hTh⟩ := id X
  exact lv_l2i hx hb hd rfl (k l D C ad nN S p ev R s m args below meth c A0 H locs ls X hA Y hl)
def ushrI (x y : Int32) : Int32 := (x.toUInt32 >>> (y.toUInt32 &&& Int32.toUInt32 31)).toInt32
def ushrL (x : Int64) (y : Int32) : Int64 := (x.toUInt64 >>> (y.toInt64.toUInt64 &&& Int64.toUInt64 63)).toInt64
theorem a_iushr {x y : Int32} (hd : decode M.2.1 pc = .ok (.iushr, 1)) (k : J K B e M (pc + 1) loc (.int (ushrI x y) :: stk) σ) : J K B e M pc loc (.int y :: .int x :: stk) σ := by
  intro l D C ad nN S p ev R s m args below meth c A0 H locs ls X hA Y hl
  obtain ⟨hx, hb, hml, hr, hlk, hown, hts, hK, hf, hlo, hKn, hB, hSc, hTh⟩ := id X
  exact lv_iushr hx hb hd rfl (k l D C ad nN S p ev R s m args below meth c A0 H locs ls X hA Y hl)
theorem a_lushr {x : Int64} {y : Int32} (hd : decode M.2.1 pc = .ok (.lushr, 1)) (k : J K B e M (pc + 1) loc (.long (ushrL x y) :: stk) σ) : J K B e M pc loc (.int y :: .long x :: stk) σ := by
  intro l D C ad nN S p ev R s m args below meth c A0 H locs ls X hA Y hl
  obtain ⟨hx, hb, hml, hr, hlk, hown, hts, hK, hf, hlo, hKn, hB, hSc, hTh⟩ := id X
  exact lv_lushr hx hb hd rfl (k l D C ad nN S p ev R s m args below meth c A0 H locs ls X hA Y hl)
theorem a_lshl {x : Int64} {y : Int32} (hd : decode M.2.1 pc = .ok (.lshl, 1)) (k : J K B e M (pc + 1) loc (.long (x <<< (y.toInt64 &&& 63)) :: stk) σ) : J K B e M pc loc (.int y :: .long x :: stk) σ := by
  intro l D C ad nN S p ev R s m args below meth c A0 H locs ls X hA Y hl
  obtain ⟨hx, hb, hml, hr, hlk, hown, hts, hK, hf, hlo, hKn, hB, hSc, hTh⟩ := id X
  exact lv_lshl hx hb hd rfl (k l D C ad nN S p ev R s m args below meth c A0 H locs ls X hA Y hl)
theorem a_lcmp {x y : Int64} (hd : decode M.2.1 pc = .ok (.lcmp, 1)) (k : J K B e M (pc + 1) loc (.int (lg_cmp x y) :: stk) σ) : J K B e M pc loc (.long y :: .long x :: stk) σ := by
  intro l D C ad nN S p ev R s m args below meth c A0 H locs ls X hA Y hl
  obtain ⟨hx, hb, hml, hr, hlk, hown, hts, hK, hf, hlo, hKn, hB, hSc, hTh⟩ := id X
  exact W.lcmp hx hb hd (k l D C ad nN S p ev R s m args below meth c A0 H locs ls X hA Y hl)
theorem a_dup {v : Value} (hc : v.category = 1) (hd : decode M.2.1 pc = .ok (.dup, 1)) (k : J K B e M (pc + 1) loc (v :: v :: stk) σ) : J K B e M pc loc (v :: stk) σ := by
  intro l D C ad nN S p ev R s m args below meth c A0 H locs ls X hA Y hl
  obtain ⟨hx, hb, hml, hr, hlk, hown, hts, hK, hf, hlo, hKn, hB, hSc, hTh⟩ := id X
  exact lv_dup hx hb hd (by rw [rv_cat]; exact hc) (k l D C ad nN S p ev R s m args below meth c A0 H locs ls X hA Y hl)
theorem a_pop {v : Value} (hc : v.category = 1) (hd : decode M.2.1 pc = .ok (.pop, 1)) (k : J K B e M (pc + 1) loc (stk) σ) : J K B e M pc loc (v :: stk) σ := by
  intro l D C ad nN S p ev R s m args below meth c A0 H locs ls X hA Y hl
  obtain ⟨hx, hb, hml, hr, hlk, hown, hts, hK, hf, hlo, hKn, hB, hSc, hTh⟩ := id X
  exact lv_pop hx hb hd (by rw [rv_cat]; exact hc) (k l D C ad nN S p ev R s m args below meth c A0 H locs ls X hA Y hl)
theorem a_dup_x1 {v w : Value} (hc : v.category = 1) (hw : w.category = 1) (hd : decode M.2.1 pc = .ok (.dup_x1, 1)) (k : J K B e M (pc + 1) loc (v :: w :: v :: stk) σ) : J K B e M pc loc (v :: w :: stk) σ := by
  intro l D C ad nN S p ev R s m args below meth c A0 H locs ls X hA Y hl
  obtain ⟨hx, hb, hml, hr, hlk, hown, hts, hK, hf, hlo, hKn, hB, hSc, hTh⟩ := id X
  exact lv_dup_x1 hx hb hd (by rw [rv_cat]; exact hc) (by rw [rv_cat]; exact hw) (k l D C ad nN S p ev R s m args below meth c A0 H locs ls X hA Y hl)
theorem a_dup2 {v w : Value} (hc : v.category = 1) (hw : w.category = 1) (hd : decode M.2.1 pc = .ok (.dup2, 1)) (k : J K B e M (pc + 1) loc (v :: w :: v :: w :: stk) σ) : J K B e M pc loc (v :: w :: stk) σ := by
  intro l D C ad nN S p ev R s m args below meth c A0 H locs ls X hA Y hl
  obtain ⟨hx, hb, hml, hr, hlk, hown, hts, hK, hf, hlo, hKn, hB, hSc, hTh⟩ := id X
  exact lv_dup2_11 hx hb hd (by rw [rv_cat]; exact hc) (by rw [rv_cat]; exact hw) (k l D C ad nN S p ev R s m args below meth c A0 H locs ls X hA Y hl)
theorem a_pop2 {v : Value} (hc : v.category = 2) (hd : decode M.2.1 pc = .ok (.pop2, 1)) (k : J K B e M (pc + 1) loc (stk) σ) : J K B e M pc loc (v :: stk) σ := by
  intro l D C ad nN S p ev R s m args below meth c A0 H locs ls X hA Y hl
  obtain ⟨hx, hb, hml, hr, hlk, hown, hts, hK, hf, hlo, hKn, hB, hSc, hTh⟩ := id X
  exact lv_pop2_2 hx hb hd (by rw [rv_cat]; exact hc) (k l D C ad nN S p ev R s m args below meth c A0 H locs ls X hA Y hl)
theorem a_if_eq_t {x : Int32} {off : Int} (tgt : Nat) (hd : decode M.2.1 pc = .ok (.ifCond .eq off, 3)) (ht : (pc : Int) + off = (tgt : Int)) (h : x = 0) (k : J K B e M (tgt) loc (stk) σ) : J K B e M pc loc (.int x :: stk) σ := by
  intro l D C ad nN S p ev R s m args below meth c A0 H locs ls X hA Y hl
  obtain ⟨hx, hb, hml, hr, hlk, hown, hts, hK, hf, hlo, hKn, hB, hSc, hTh⟩ := id X
  exact lv_if_eq hx hb hd ht (fun _ => k l D C ad nN S p ev R s m args below meth c A0 H locs ls X hA Y hl) (fun z => by first | exact absurd h z | exact absurd z h)
theorem a_if_eq_f {x : Int32} {off : Int} (tgt : Nat) (hd : decode M.2.1 pc = .ok (.ifCond .eq off, 3)) (ht : (pc : Int) + off = (tgt : Int)) (h : ¬ x = 0) (k : J K B e M (pc + 3) loc (stk) σ) : J K B e M pc loc (.int x :: stk) σ := by
  intro l D C ad nN S p ev R s m args below meth c A0 H locs ls X hA Y hl
  obtain ⟨hx, hb, hml, hr, hlk, hown, hts, hK, hf, hlo, hKn, hB, hSc, hTh⟩ := id X
  exact lv_if_eq hx hb hd ht (fun z => by first | exact absurd h z | exact absurd z h) (fun _ => k l D C ad nN S p ev R s m args below meth c A0 H locs ls X hA Y hl)
theorem a_icmp_eq_t {x y : Int32} {off : Int} (tgt : Nat) (hd : decode M.2.1 pc = .ok (.if_icmp .eq off, 3)) (ht : (pc : Int) + off = (tgt : Int)) (h : x = y) (k : J K B e M (tgt) loc (stk) σ) : J K B e M pc loc (.int y :: .int x :: stk) σ := by
  intro l D C ad nN S p ev R s m args below meth c A0 H locs ls X hA Y hl
  obtain ⟨hx, hb, hml, hr, hlk, hown, hts, hK, hf, hlo, hKn, hB, hSc, hTh⟩ := id X
  exact lv_icmp_eq hx hb hd ht (fun _ => k l D C ad nN S p ev R s m args below meth c A0 H locs ls X hA Y hl) (fun z => by first | exact absurd h z | exact absurd z h)
theorem a_icmp_eq_f {x y : Int32} {off : Int} (tgt : Nat) (hd : decode M.2.1 pc = .ok (.if_icmp .eq off, 3)) (ht : (pc : Int) + off = (tgt : Int)) (h : ¬ x = y) (k : J K B e M (pc + 3) loc (stk) σ) : J K B e M pc loc (.int y :: .int x :: stk) σ := by
  intro l D C ad nN S p ev R s m args below meth c A0 H locs ls X hA Y hl
  obtain ⟨hx, hb, hml, hr, hlk, hown, hts, hK, hf, hlo, hKn, hB, hSc, hTh⟩ := id X
  exact lv_icmp_eq hx hb hd ht (fun z => by first | exact absurd h z | exact absurd z h) (fun _ => k l D C ad nN S p ev R s m args below meth c A0 H locs ls X hA Y hl)
theorem a_if_ne_t {x : Int32} {off : Int} (tgt : Nat) (hd : decode M.2.1 pc = .ok (.ifCond .ne off, 3)) (ht : (pc : Int) + off = (tgt : Int)) (h : ¬ x = 0) (k : J K B e M (tgt) loc (stk) σ) : J K B e M pc loc (.int x :: stk) σ := by
  intro l D C ad nN S p ev R s m args below meth c A0 H locs ls X hA Y hl
  obtain ⟨hx, hb, hml, hr, hlk, hown, hts, hK, hf, hlo, hKn, hB, hSc, hTh⟩ := id X
  exact lv_if_ne hx hb hd ht (fun _ => k l D C ad nN S p ev R s m args below meth c A0 H locs ls X hA Y hl) (fun z => by first | exact absurd h z | exact absurd z h)
theorem a_if_ne_f {x : Int32} {off : Int} (tgt : Nat) (hd : decode M.2.1 pc = .ok (.ifCond .ne off, 3)) (ht : (pc : Int) + off = (tgt : Int)) (h : x = 0) (k : J K B e M (pc + 3) loc (stk) σ) : J K B e M pc loc (.int x :: stk) σ := by
  intro l D C ad nN S p ev R s m args below meth c A0 H locs ls X hA Y hl
  obtain ⟨hx, hb, hml, hr, hlk, hown, hts, hK, hf, hlo, hKn, hB, hSc, hTh⟩ := id X
  exact lv_if_ne hx hb hd ht (fun z => by first | exact absurd h z | exact absurd z h) (fun _ => k l D C ad nN S p ev R s m args below meth c A0 H locs ls X hA Y hl)
theorem a_icmp_ne_t {x y : Int32} {off : Int} (tgt : Nat) (hd : decode M.2.1 pc = .ok (.if_icmp .ne off, 3)) (ht : (pc : Int) + off = (tgt : Int)) (h : ¬ x = y) (k : J K B e M (tgt) loc (stk) σ) : J K B e M pc loc (.int y :: .int x :: stk) σ := by
  intro l D C ad nN S p ev R s m args below meth c A0 H locs ls X hA Y hl
  obtain ⟨hx, hb, hml, hr, hlk, hown, hts, hK, hf, hlo, hKn, hB, hSc, hTh⟩ := id X
  exact lv_icmp_ne hx hb hd ht (fun _ => k l D C ad nN S p ev R s m args below meth c A0 H locs ls X hA Y hl) (fun z => by first | exact absurd h z | exact absurd z h)
theorem a_icmp_ne_f {x y : Int32} {off : Int} (tgt : Nat) (hd : decode M.2.1 pc = .ok (.if_icmp .ne off, 3)) (ht : (pc : Int) + off = (tgt : Int)) (h : x = y) (k : J K B e M (pc + 3) loc (stk) σ) : J K B e M pc loc (.int y :: .int x :: stk) σ := by
  intro l D C ad nN S p ev R s m args below meth c A0 H locs ls X hA Y hl
  obtain ⟨hx, hb, hml, hr, hlk, hown, hts, hK, hf, hlo, hKn, hB, hSc, hTh⟩ := id X
  exact lv_icmp_ne hx hb hd ht (fun z => by first | exact absurd h z | exact absurd z h) (fun _ => k l D C ad nN S p ev R s m args below meth c A0 H locs ls X hA Y hl)
theorem a_if_lt_t {x : Int32} {off : Int} (tgt : Nat) (hd : decode M.2.1 pc = .ok (.ifCond .lt off, 3)) (ht : (pc : Int) + off = (tgt : Int)) (h : x < 0) (k : J K B e M (tgt) loc (stk) σ) : J K B e M pc loc (.int x :: stk) σ := by
  intro l D C ad nN S p ev R s m args below meth c A0 H locs ls X hA Y hl
  obtain ⟨hx, hb, hml, hr, hlk, hown, hts, hK, hf, hlo, hKn, hB, hSc, hTh⟩ := id X
  exact lv_if_lt hx hb hd ht (fun _ => k l D C ad nN S p ev R s m args below meth c A0 H locs ls X hA Y hl) (fun z => by first | exact absurd h z | exact absurd z h)
theorem a_if_lt_f {x : Int32} {off : Int} (tgt : Nat) (hd : decode M.2.1 pc = .ok (.ifCond .lt off, 3)) (ht : (pc : Int) + off = (tgt : Int)) (h : ¬ x < 0) (k : J K B e M (pc + 3) loc (stk) σ) : J K B e M pc loc (.int x :: stk) σ := by
  intro l D C ad nN S p ev R s m args below meth c A0 H locs ls X hA Y hl
  obtain ⟨hx, hb, hml, hr, hlk, hown, hts, hK, hf, hlo, hKn, hB, hSc, hTh⟩ := id X
  exact lv_if_lt hx hb hd ht (fun z => by first | exact absurd h z | exact absurd z h) (fun _ => k l D C ad nN S p ev R s m args below meth c A0 H locs ls X hA Y hl)
theorem a_icmp_lt_t {x y : Int32} {off : Int} (tgt : Nat) (hd : decode M.2.1 pc = .ok (.if_icmp .lt off, 3)) (ht : (pc : Int) + off = (tgt : Int)) (h : x < y) (k : J K B e M (tgt) loc (stk) σ) : J K B e M pc loc (.int y :: .int x :: stk) σ := by
  intro l D C ad nN S p ev R s m args below meth c A0 H locs ls X hA Y hl
  obtain ⟨hx, hb, hml, hr, hlk, hown, hts, hK, hf, hlo, hKn, hB, hSc, hTh⟩ := id X
  exact lv_icmp_lt hx hb hd ht (fun _ => k l D C ad nN S p ev R s m args below meth c A0 H locs ls X hA Y hl) (fun z => by first | exact absurd h z | exact absurd z h)
theorem a_icmp_lt_f {x y : Int32} {off : Int} (tgt : Nat) (hd : decode M.2.1 pc = .ok (.if_icmp .lt off, 3)) (ht : (pc : Int) + off = (tgt : Int)) (h : ¬ x < y) (k : J K B e M (pc + 3) loc (stk) σ) : J K B e M pc loc (.int y :: .int x :: stk) σ := by
  intro l D C ad nN S p ev R s m args below meth c A0 H locs ls X hA Y hl
  obtain ⟨hx, hb, hml, hr, hlk, hown, hts, hK, hf, hlo, hKn, hB, hSc, hTh⟩ := id X
  exact lv_icmp_lt hx hb hd ht (fun z => by first | exact absurd h z | exact absurd z h) (fun _ => k l D C ad nN S p ev R s m args below meth c A0 H locs ls X hA Y hl)
theorem a_if_ge_t {x : Int32} {off : Int} (tgt : Nat) (hd : decode M.2.1 pc = .ok (.ifCond .ge off, 3)) (ht : (pc : Int) + off = (tgt : Int)) (h : 0 ≤ x) (k : J K B e M (tgt) loc (stk) σ) : J K B e M pc loc (.int x :: stk) σ := by
  intro l D C ad nN S p ev R s m args below meth c A0 H locs ls X hA Y hl
  obtain ⟨hx, hb, hml, hr, hlk, hown, hts, hK, hf, hlo, hKn, hB, hSc, hTh⟩ := id X
  exact lv_if_ge hx hb hd ht (fun _ => k l D C ad nN S p ev R s m args below meth c A0 H locs ls X hA Y hl) (fun z => by first | exact absurd h z | exact absurd z h)
theorem a_if_ge_f {x : Int32} {off : Int} (tgt : Nat) (hd : decode M.2.1 pc = .ok (.ifCond .ge off, 3)) (ht : (pc : Int) + off = (tgt : Int)) (h : ¬ 0 ≤ x) (k : J K B e M (pc + 3) loc (stk) σ) : J K B e M pc loc (.int x :: stk) σ := by
  intro l D C ad nN S p ev R s m args below meth c A0 H locs ls X hA Y hl
  obtain ⟨hx, hb, hml, hr, hlk, hown, hts, hK, hf, hlo, hKn, hB, hSc, hTh⟩ := id X
  exact lv_if_ge hx hb hd ht (fun z => by first | exact absurd h z | exact absurd z h) (fun _ => k l D C ad nN S p ev R s m args below meth c A0 H locs ls X hA Y hl)
theorem a_icmp_ge_t {x y : Int32} {off : Int} (tgt : Nat) (hd : decode M.2.1 pc = .ok (.if_icmp .ge off, 3)) (ht : (pc : Int) + off = (tgt : Int)) (h : y ≤ x) (k : J K B e M (tgt) loc (stk) σ) : J K B e M pc loc (.int y :: .int x :: stk) σ := by
  intro l D C ad nN S p ev R s m args below meth c A0 H locs ls X hA Y hl
  obtain ⟨hx, hb, hml, hr, hlk, hown, hts, hK, hf, hlo, hKn, hB, hSc, hTh⟩ := id X
  exact lv_icmp_ge hx hb hd ht (fun _ => k l D C ad nN S p ev R s m args below meth c A0 H locs ls X hA Y hl) (fun z => by first | exact absurd h z | exact absurd z h)
theorem a_icmp_ge_f {x y : Int32} {off : Int} (tgt : Nat) (hd : decode M.2.1 pc = .ok (.if_icmp .ge off, 3)) (ht : (pc : Int) + off = (tgt : Int)) (h : ¬ y ≤ x) (k : J K B e M (pc + 3) loc (stk) σ) : J K B e M pc loc (.int y :: .int x :: stk) σ := by
  intro l D C ad nN S p ev R s m args below meth c A0 H locs ls X hA Y hl
  obtain ⟨hx, hb, hml, hr, hlk, hown, hts, hK, hf, hlo, hKn, hB, hSc, hTh⟩ := id X
  exact lv_icmp_ge hx hb hd ht (fun z => by first | exact absurd h z | exact absurd z h) (fun _ => k l D C ad nN S p ev R s m args below meth c A0 H locs ls X hA Y hl)
theorem a_if_gt_t {x : Int32} {off : Int} (tgt : Nat) (hd : decode M.2.1 pc = .ok (.ifCond .gt off, 3)) (ht : (pc : Int) + off = (tgt : Int)) (h : 0 < x) (k : J K B e M (tgt) loc (stk) σ) : J K B e M pc loc (.int x :: stk) σ := by
  intro l D C ad nN S p ev R s m args below meth c A0 H locs ls X hA Y hl
  obtain ⟨hx, hb, hml, hr, hlk, hown, hts, hK, hf, hlo, hKn, hB, hSc, hTh⟩ := id X
  exact lv_if_gt hx hb hd ht (fun _ => k l D C ad nN S p ev R s m args below meth c A0 H locs ls X hA Y hl) (fun z => by first | exact absurd h z | exact absurd z h)
theorem a_if_gt_f {x : Int32} {off : Int} (tgt : Nat) (hd : decode M.2.1 pc = .ok (.ifCond .gt off, 3)) (ht : (pc : Int) + off = (tgt : Int)) (h : ¬ 0 < x) (k : J K B e M (pc + 3) loc (stk) σ) : J K B e M pc loc (.int x :: stk) σ := by
  intro l D C ad nN S p ev R s m args below meth c A0 H locs ls X hA Y hl
  obtain ⟨hx, hb, hml, hr, hlk, hown, hts, hK, hf, hlo, hKn, hB, hSc, hTh⟩ := id X
  exact lv_if_gt hx hb hd ht (fun z => by first | exact absurd h z | exact absurd z h) (fun _ => k l D C ad nN S p ev R s m args below meth c A0 H locs ls X hA Y hl)
theorem a_icmp_gt_t {x y : Int32} {off : Int} (tgt : Nat) (hd : decode M.2.1 pc = .ok (.if_icmp .gt off, 3)) (ht : (pc : Int) + off = (tgt : Int)) (h : y < x) (k : J K B e M (tgt) loc (stk) σ) : J K B e M pc loc (.int y :: .int x :: stk) σ := by
  intro l D C ad nN S p ev R s m args below meth c A0 H locs ls X hA Y hl
  obtain ⟨hx, hb, hml, hr, hlk, hown, hts, hK, hf, hlo, hKn, hB, hSc, hTh⟩ := id X
  exact lv_icmp_gt hx hb hd ht (fun _ => k l D C ad nN S p ev R s m args below meth c A0 H locs ls X hA Y hl) (fun z => by first | exact absurd h z | exact absurd z h)
theorem a_icmp_gt_f {x y : Int32} {off : Int} (tgt : Nat) (hd : decode M.2.1 pc = .ok (.if_icmp .gt off, 3)) (ht : (pc : Int) + off = (tgt : Int)) (h : ¬ y < x) (k : J K B e M (pc + 3) loc (stk) σ) : J K B e M pc loc (.int y :: .int x :: stk) σ := by
  intro l D C ad nN S p ev R s m args below meth c A0 H locs ls X hA Y hl
  obtain ⟨hx, hb, hml, hr, hlk, hown, hts, hK, hf, hlo, hKn, hB, hSc, hTh⟩ := id X
  exact lv_icmp_gt hx hb hd ht (fun z => by first | exact absurd h z | exact absurd z h) (fun _ => k l D C ad nN S p ev R s m args below meth c A0 H locs ls X hA Y hl)
theorem a_if_le_t {x : Int32} {off : Int} (tgt : Nat) (hd : decode M.2.1 pc = .ok (.ifCond .le off, 3)) (ht : (pc : Int) + off = (tgt : Int)) (h : x ≤ 0) (k : J K B e M (tgt) loc (stk) σ) : J K B e M pc loc (.int x :: stk) σ := by
  intro l D C ad nN S p ev R s m args below meth c A0 H locs ls X hA Y hl
  obtain ⟨hx, hb, hml, hr, hlk, hown, hts, hK, hf, hlo, hKn, hB, hSc, hTh⟩ := id X
  exact lv_if_le hx hb hd ht (fun _ => k l D C ad nN S p ev R s m args below meth c A0 H locs ls X hA Y hl) (fun z => by first | exact absurd h z | exact absurd z h)
theorem a_if_le_f {x : Int32} {off : Int} (tgt : Nat) (hd : decode M.2.1 pc = .ok (.ifCond .le off, 3)) (ht : (pc : Int) + off = (tgt : Int)) (h : ¬ x ≤ 0) (k : J K B e M (pc + 3) loc (stk) σ) : J K B e M pc loc (.int x :: stk) σ := by
  intro l D C ad nN S p ev R s m args below meth c A0 H locs ls X hA Y hl
  obtain ⟨hx, hb, hml, hr, hlk, hown, hts, hK, hf, hlo, hKn, hB, hSc, hTh⟩ := id X
  exact lv_if_le hx hb hd ht (fun z => by first | exact absurd h z | exact absurd z h) (fun _ => k l D C ad nN S p ev R s m args below meth c A0 H locs ls X hA Y hl)
theorem a_icmp_le_t {x y : Int32} {off : Int} (tgt : Nat) (hd : decode M.2.1 pc = .ok (.if_icmp .le off, 3)) (ht : (pc : Int) + off = (tgt : Int)) (h : x ≤ y) (k : J K B e M (tgt) loc (stk) σ) : J K B e M pc loc (.int y :: .int x :: stk) σ := by
  intro l D C ad nN S p ev R s m args below meth c A0 H locs ls X hA Y hl
  obtain ⟨hx, hb, hml, hr, hlk, hown, hts, hK, hf, hlo, hKn, hB, hSc, hTh⟩ := id X
  exact lv_icmp_le hx hb hd ht (fun _ => k l D C ad nN S p ev R s m args below meth c A0 H locs ls X hA Y hl) (fun z => by first | exact absurd h z | exact absurd z h)
theorem a_icmp_le_f {x y : Int32} {off : Int} (tgt : Nat) (hd : decode M.2.1 pc = .ok (.if_icmp .le off, 3)) (ht : (pc : Int) + off = (tgt : Int)) (h : ¬ x ≤ y) (k : J K B e M (pc + 3) loc (stk) σ) : J K B e M pc loc (.int y :: .int x :: stk) σ := by
  intro l D C ad nN S p ev R s m args below meth c A0 H locs ls X hA Y hl
  obtain ⟨hx, hb, hml, hr, hlk, hown, hts, hK, hf, hlo, hKn, hB, hSc, hTh⟩ := id X
  exact lv_icmp_le hx hb hd ht (fun z => by first | exact absurd h z | exact absurd z h) (fun _ => k l D C ad nN S p ev R s m args below meth c A0 H locs ls X hA Y hl)
theorem a_goto {off : Int} (tgt : Nat) (hd : decode M.2.1 pc = .ok (.goto off, 3)) (ht : (pc : Int) + off = (tgt : Int)) (k : J K B e M (tgt) loc (stk) σ) : J K B e M pc loc (stk) σ := by
  intro l D C ad nN S p ev R s m args below meth c A0 H locs ls X hA Y hl
  obtain ⟨hx, hb, hml, hr, hlk, hown, hts, hK, hf, hlo, hKn, hB, hSc, hTh⟩ := id X
  exact lv_goto hx hb hd ht (k l D C ad nN S p ev R s m args below meth c A0 H locs ls X hA Y hl)
theorem a_ifnull_r {x : Nat} {off : Int} (hd : decode M.2.1 pc = .ok (.ifnull off, 3)) (k : J K B e M (pc + 3) loc (stk) σ) : J K B e M pc loc (.ref x :: stk) σ := by
  intro l D C ad nN S p ev R s m args below meth c A0 H locs ls X hA Y hl
  obtain ⟨hx, hb, hml, hr, hlk, hown, hts, hK, hf, hlo, hKn, hB, hSc, hTh⟩ := id X
  exact lv_ifnull hx hb hd (k l D C ad nN S p ev R s m args below meth c A0 H locs ls X hA Y hl)
theorem a_ifnonnull_r {x : Nat} {off : Int} (tgt : Nat) (hd : decode M.2.1 pc = .ok (.ifnonnull off, 3)) (ht : (pc : Int) + off = (tgt : Int)) (k : J K B e M (tgt) loc (stk) σ) : J K B e M pc loc (.ref x :: stk) σ := by
  intro l D C ad nN S p ev R s m args below meth c A0 H locs ls X hA Y hl
  obtain ⟨hx, hb, hml, hr, hlk, hown, hts, hK, hf, hlo, hKn, hB, hSc, hTh⟩ := id X
  exact lv_ifnonnull hx hb hd ht (k l D C ad nN S p ev R s m args below meth c A0 H locs ls X hA Y hl)
theorem a_ifnull_n {off : Int} (tgt : Nat) (hd : decode M.2.1 pc = .ok (.ifnull off, 3)) (ht : (pc : Int) + off = (tgt : Int)) (k : J K B e M (tgt) loc (stk) σ) : J K B e M pc loc (.null :: stk) σ := by
  intro l D C ad nN S p ev R s m args below meth c A0 H locs ls X hA Y hl
  obtain ⟨hx, hb, hml, hr, hlk, hown, hts, hK, hf, hlo, hKn, hB, hSc, hTh⟩ := id X
  exact lv_ifnullN hx hb hd ht (k l D C ad nN S p ev R s m args below meth c A0 H locs ls X hA Y hl)
theorem a_ifnonnull_n {off : Int} (hd : decode M.2.1 pc = .ok (.ifnonnull off, 3)) (k : J K B e M (pc + 3) loc (stk) σ) : J K B e M pc loc (.null :: stk) σ := by
  intro l D C ad nN S p ev R s m args below meth c A0 H locs ls X hA Y hl
  obtain ⟨hx, hb, hml, hr, hlk, hown, hts, hK, hf, hlo, hKn, hB, hSc, hTh⟩ := id X
  exact lv_ifnonnullN hx hb hd (k l D C ad nN S p ev R s m args below meth c A0 H locs ls X hA Y hl)
theorem a_tabOut {x : Int32} {dflt lo hi : Int} {offs : Array Int} {len : Nat} (tgt : Nat) (hd : decode M.2.1 pc = .ok (.tableswitch dflt lo hi offs, len)) (h : x.toInt < lo ∨ hi < x.toInt) (ht : (pc : Int) + dflt = (tgt : Int)) (k : J K B e M (tgt) loc (stk) σ) : J K B e M pc loc (.int x :: stk) σ := by
  intro l D C ad nN S p ev R s m args below meth c A0 H locs ls X hA Y hl
  obtain ⟨hx, hb, hml, hr, hlk, hown, hts, hK, hf, hlo, hKn, hB, hSc, hTh⟩ := id X
  exact lv_tableOut hx hb hd h ht (k l D C ad nN S p ev R s m args below meth c A0 H locs ls X hA Y hl)
theorem a_tabIn {x : Int32} {dflt lo hi off : Int} {offs : Array Int} {len : Nat} (v : Int32) (tgt : Nat) (hd : decode M.2.1 pc = .ok (.tableswitch dflt lo hi offs, len)) (h : x = v) (h1 : ¬ v.toInt < lo) (h2 : ¬ hi < v.toInt) (ho : offs[(v.toInt - lo).toNat]? = some off) (ht : (pc : Int) + off = (tgt : Int)) (k : J K B e M (tgt) loc (stk) σ) : J K B e M pc loc (.int x :: stk) σ := by
  intro l D C ad nN S p ev R s m args below meth c A0 H locs ls X hA Y hl
  obtain ⟨hx, hb, hml, hr, hlk, hown, hts, hK, hf, hlo, hKn, hB, hSc, hTh⟩ := id X
  subst h
  exact lv_tableIn hx hb hd h1 h2 ho ht (k l D C ad nN S p ev R s m args below meth c A0 H locs ls X hA Y hl)
theorem a_top {v w : Value} (h : v = w) (k : J K B e M (pc) loc (w :: stk) σ) : J K B e M pc loc (v :: stk) σ := by
  intro l D C ad nN S p ev R s m args below meth c A0 H locs ls X hA Y hl
  obtain ⟨hx, hb, hml, hr, hlk, hown, hts, hK, hf, hlo, hKn, hB, hSc, hTh⟩ := id X
  subst h
  exact k l D C ad nN S p ev R s m args below meth c A0 H locs ls X hA Y hl
theorem a_iret {v : Int32} (hM : M.2.2.2 = some .int) (hd : decode M.2.1 pc = .ok (.ireturn, 1)) : AL K e M pc loc [.int v] τ (some (.int v)) τ := by
  intro l D C ad nN S p ev R s m args below meth c A0 H locs ls X hA Y hl
  obtain ⟨hx, hb, hml, hr, hlk, hown, hts, hK, hf, hlo, hKn, hB, hSc, hTh⟩ := id X
  exact W.iret hx hb (by rw [hr, hM]) (fun t ht hW => ⟨⟨rfl, by rw [ht]; exact Y.1, aK.warm hW hK, Y.2.1, Y.2.2.2⟩, Y.2.2.1.F ht⟩) Y.2.2.1.2.2 hd hlk
theorem a_zret {v : Int32} (hM : M.2.2.2 = some .boolean) (hv : v = 0 ∨ v = 1) (hd : decode M.2.1 pc = .ok (.ireturn, 1)) : AL K e M pc loc [.int v] τ (some (.int v)) τ := by
  intro l D C ad nN S p ev R s m args below meth c A0 H locs ls X hA Y hl
  obtain ⟨hx, hb, hml, hr, hlk, hown, hts, hK, hf, hlo, hKn, hB, hSc, hTh⟩ := id X
  exact W.zret hx hb (by rw [hr, hM]) (by rcases hv with rfl | rfl <;> rfl) (fun t ht hW => ⟨⟨rfl, by rw [ht]; exact Y.1, aK.warm hW hK, Y.2.1, Y.2.2.2⟩, Y.2.2.1.F ht⟩) Y.2.2.1.2.2 hd hlk
theorem a_lret {v : Int64} (hM : M.2.2.2 = some .long) (hd : decode M.2.1 pc = .ok (.lreturn, 1)) : AL K e M pc loc [.long v] τ (some (.long v)) τ := by
  intro l D C ad nN S p ev R s m args below meth c A0 H locs ls X hA Y hl
  obtain ⟨hx, hb, hml, hr, hlk, hown, hts, hK, hf, hlo, hKn, hB, hSc, hTh⟩ := id X
  exact W.lret hx hb (by rw [hr, hM]) (fun t ht hW => ⟨⟨rfl, by rw [ht]; exact Y.1, aK.warm hW hK, Y.2.1, Y.2.2.2⟩, Y.2.2.1.F ht⟩) Y.2.2.1.2.2 hd (hlocks := hlk)
theorem a_vret (hM : M.2.2.2 = none) (hd : decode M.2.1 pc = .ok (.return_, 1)) : AL K e M pc loc [] τ none τ := by
  intro l D C ad nN S p ev R s m args below meth c A0 H locs ls X hA Y hl
  obtain ⟨hx, hb, hml, hr, hlk, hown, hts, hK, hf, hlo, hKn, hB, hSc, hTh⟩ := id X
  exact W.vret hx hb (by rw [hr, hM]) (fun t ht hW => ⟨⟨rfl, by rw [ht]; exact Y.1, aK.warm hW hK, Y.2.1, Y.2.2.2⟩, Y.2.2.1.F ht⟩) Y.2.2.1.2.2 hd hlk
end AR
