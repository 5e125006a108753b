/-! THE LAW'S FRAME: its end, its arrays -/
/-- the law's walk with k cells still free to be made -/
abbrev BLk (k : Nat) : JX := ((600000 - k, 7302250 - 100 * k), fun R args s A0 => R = room_1 ∧ (∃ b, args = #[Value.ref b]) ∧ (∀ q, A0 q → s.heap.size ≤ q), fun _ _ _ _ _ below args s _ => lw_Z below args s)
abbrev LJ (m k : Nat) (e : Nat) (pc : Nat) (loc : List (Nat × Value)) (stk : List Value) (σ : St) : Prop := J (eqK m) (BLk k) e ML_law pc loc stk σ
theorem hkL {k : Nat} (h : 58 ≤ k) : ∀ n, eqK k n → 58 ≤ n := fun n e => by rw [e]; exact h
def zerI (σ : St) (m : Nat) : St := (fun a b => if a = m then 0 else σ.1 a b, σ.2)
def zerL (σ : St) (m : Nat) : St := (σ.1, fun a b => if a = m then 0 else σ.2 a b)
def refne (m : Nat) : Value → Bool
  | .ref a => !(a == m)
  | _ => true
theorem refne_rv {m q : Nat} {ad : Nat → Nat} {v : Value} (h : refne m v = true) : rv (fun i => if i = m then q else ad i) v = rv ad v := by
  cases v with
  | ref a =>
    have : a ≠ m := by simpa [refne] using h
    simp [rv, this]
  | _ => rfl
theorem rfL58 : (rfL.all fun l => l.all fun x => decide (x < 58)) = true := by decide +kernel
theorem rfv58 (i k : Nat) : rfv i k < 58 := by
  unfold rfv
  rw [List.getD_eq_getElem?_getD, List.getD_eq_getElem?_getD]
  cases h : rfL[i]? with
  | none => simp
  | some l =>
    have h1 := List.all_eq_true.mp rfL58 l (List.mem_of_getElem? h)
    show (l[k]?).getD 0 < 58
    cases h2 : l[k]? with
    | none => simp
    | some x => exact of_decide_eq_true (List.all_eq_true.mp h1 x (List.mem_of_getElem? h2))
theorem cell_ad {ad : Nat → Nat} {C : CT} {σ τ : St} {m q i : Nat} (hm : 58 ≤ m) (h1 : τ.1 i = σ.1 i) (h2 : τ.2 i = σ.2 i) : cellE (fun i => if i = m then q else ad i) C τ i = cellE ad C σ i := by
  have e1 : ∀ k, rv (fun i => if i = m then q else ad i) (av τ i k) = rv ad (av σ i k) := fun k => by
    simp only [av, h1, h2]
    split
    · rfl
    · split
      · have := rfv58 i k
        simp only [rv]
        rw [if_neg (by omega)]
      · rfl
  have e2 : ∀ j, (if rfv i j = m then q else ad (rfv i j)) = ad (rfv i j) := fun j => by
    have := rfv58 i j
    rw [if_neg (by omega)]
  simp only [cellE, e1, e2, h1, h2]
theorem ws_new {ad : Nat → Nat} {C : CT} {σ τ : St} {m q : Nat} {x : va_E} (hm : 58 ≤ m) (h1 : ∀ i, i < m → τ.1 i = σ.1 i ∧ τ.2 i = σ.2 i) (hx : x = cellE (fun i => if i = m then q else ad i) C τ m) : wsE ad C m σ ++ [(q, x)] = wsE (fun i => if i = m then q else ad i) C (m + 1) τ := by
  unfold wsE
  rw [List.range_succ, List.map_append, hx]
  congr 1
  · apply List.map_congr_left
    intro i hi
    have hi := List.mem_range.mp hi
    exact Prod.ext (show ad i = if i = m then q else ad i by rw [if_neg (by omega)]) (cell_ad hm (h1 i hi).1 (h1 i hi).2).symm
  · simp
theorem loc_new {ad : Nat → Nat} {m q : Nat} {loc : List (Nat × Value)} {stk : List Value} (h : ((loc.map Prod.snd ++ stk).all (refne m)) = true) : lm (fun i => if i = m then q else ad i) loc = lm ad loc ∧ stk.map (rv (fun i => if i = m then q else ad i)) = stk.map (rv ad) := by
  have h1 := List.all_eq_true.mp h
  refine ⟨?_, ?_⟩
  · unfold lm
    apply List.map_congr_left
    intro p hp
    rw [refne_rv (h1 p.2 (List.mem_append.mpr (Or.inl (List.mem_map.mpr ⟨p, hp, rfl⟩))))]
  · apply List.map_congr_left
    intro v hv
    rw [refne_rv (h1 v (List.mem_append.mpr (Or.inr hv)))]
theorem sc_zerI {σ : St} {S : Sx} {m : Nat} (h : sc σ S) (hi : m < 68) : sc (zerI σ m) S := by
  obtain ⟨h1, h2, h3⟩ := h
  refine ⟨?_, ?_, h3⟩
  · rw [← h1]; funext b; simp only [zerI]; rw [if_neg (by omega)]
  · rw [← h2]; simp only [zerI]; rw [if_neg (by omega)]
theorem arrI : Cond.arrayClass .int ∈ aT := aT_in 43 (by decide +kernel) rfl
theorem arrJ : Cond.arrayClass .long ∈ aT := aT_in 182 (by decide +kernel) rfl
section LR
variable {e pc m k : Nat} {loc : List (Nat × Value)} {stk : List Value} {σ : St}
theorem BLk.room {R : Room} {args : Array Value} {s : State} {A0 : Nat → Prop} (hTh : (BLk k).2.1 R args s A0) (h : k < 60000) : (BLk (k + 1)).1.1 + 1 = (BLk k).1.1 ∧ (BLk (k + 1)).1.1 + 1 ≤ R.cells ∧ ∀ n, n ≤ 100 → (BLk (k + 1)).1.2 + n ≤ (BLk k).1.2 ∧ (BLk (k + 1)).1.2 + n ≤ R.slots := by
  obtain ⟨rfl, -⟩ := hTh
  have r1 : room_1.cells = 600000 := rfl
  have r2 : room_1.slots = 7302250 := rfl
  rw [r1, r2]
  show (600000 - (k + 1) + 1 = 600000 - k ∧ 600000 - (k + 1) + 1 ≤ 600000 ∧ ∀ n, n ≤ 100 → 7302250 - 100 * (k + 1) + n ≤ 7302250 - 100 * k ∧ 7302250 - 100 * (k + 1) + n ≤ 7302250)
  refine ⟨by omega, by omega, fun n hn => ⟨by omega, by omega⟩⟩
theorem a_newI {n : Int32} (len : Nat) (hm : 58 ≤ m ∧ m < 68) (hkd : kd m = 2) (hns : nsl m = len) (hn : ¬ n < 0 ∧ n.toNatClampNeg = len ∧ len ≤ 100) (hloc : ((loc.map Prod.snd ++ stk).all (refne m)) = true) (hkb : k < 60000) (hd : decode ML_law.2.1 pc = .ok (.newarray .int, 2)) (kk : LJ (m + 1) k e (pc + 2) loc (.ref m :: stk) (zerI σ m)) : LJ m (k + 1) e pc loc (.int n :: stk) σ := by
  intro l D C ad nN S p ev R s m' args below meth c A0 H locs ls X hA Y hl
  obtain ⟨hx, hb, hml, hr, hlk, hown, hts, hK, hf, hlo, ⟨hKn, hN68⟩, hB, hSc, hTh⟩ := id X
  have hKn : nN = m := hKn
  subst hKn
  obtain ⟨r1, r2, r3⟩ := BLk.room (k := k) hTh hkb
  obtain ⟨h100, h101⟩ := r3 len hn.2.2
  refine va_newa (atype := .int) hx hb (hts _ arrI) rfl hK.1 Y.1 Y.2.1 Y.2.2.1 hA (a0 := (len, .inl fun _ => 0)) (fun cA => rfl) hn.1 hn.2.1 (by show len * 4 ≤ _; omega) r2 h101 hd (fun q cA H1 k1 k2 k3 k4 => ?_)
  have e1 : s.vm.findClass ("[" ++ FieldType.int.toString) = some cA := (k1.2 3 (cA, .int) rfl).2
  have e2 : s.vm.findClass ("[" ++ FieldType.int.toString) = some C.1 := (hK.1.2 0 (C.1, .int) rfl).2
  have e3 : cA = C.1 := Option.some.inj (e1.symm.trans e2)
  rw [e3, ws_new (ad := ad) (σ := σ) (τ := zerI σ nN) hm.1 (fun i hi => ⟨funext fun b => by simp only [zerI]; rw [if_neg (by omega)], rfl⟩) (by
    rw [cellE_2 _ _ _ hkd, hns, ← (show (fun _ => 0) = (zerI σ nN).1 nN from funext fun b => by simp [zerI])])] at k2 k3
  obtain ⟨l1, l2⟩ := loc_new (ad := ad) (q := q) hloc
  have hSc' : va_X ((fun i => if i = nN then q else ad i) 68) S.2 S.1 s s.heap ∧ ((fun i => if i = nN then q else ad i) 68) < s.heap.size ∧ ¬ A0 ((fun i => if i = nN then q else ad i) 68) := by
    have e5 : (if 68 = nN then q else ad 68) = ad 68 := if_neg (by omega)
    show va_X (if 68 = nN then q else ad 68) S.2 S.1 s s.heap ∧ (if 68 = nN then q else ad 68) < s.heap.size ∧ ¬ A0 (if 68 = nN then q else ad 68)
    rw [e5]
    exact hSc
  have k5 := kk l D C (fun i => if i = nN then q else ad i) (nN + 1) S p ev R s m' args below meth c A0 H1 locs ls ⟨hx, hb, hml, hr, hlk, hown, hts, hK, hf, hlo, ⟨rfl, by omega⟩, ⟨by rw [← r1]; exact r2, by obtain ⟨q1, -⟩ := hTh; subst q1; exact Nat.sub_le _ _⟩, hSc', hTh⟩ hA ⟨k2, k3, k4, sc_zerI Y.2.2.2 hm.2⟩ (by rw [l1]; exact hl)
  rw [List.map_cons, l2] at k5
  have e4 : rv (fun i => if i = nN then q else ad i) (.ref nN) = .ref q := by simp [rv]
  rw [e4] at k5
  exact W.widen (Nat.le_of_eq r1) h100 k5
theorem a_newL {n : Int32} (len : Nat) (hm : 58 ≤ m ∧ m < 68) (hkd : kd m = 3) (hns : nsl m = len) (hn : ¬ n < 0 ∧ n.toNatClampNeg = len ∧ len ≤ 100) (hloc : ((loc.map Prod.snd ++ stk).all (refne m)) = true) (hkb : k < 60000) (hd : decode ML_law.2.1 pc = .ok (.newarray .long, 2)) (kk : LJ (m + 1) k e (pc + 2) loc (.ref m :: stk) (zerL σ m)) : LJ m (k + 1) e pc loc (.int n :: stk) σ := by
  intro l D C ad nN S p ev R s m' args below meth c A0 H locs ls X hA Y hl
  obtain ⟨hx, hb, hml, hr, hlk, hown, hts, hK, hf, hlo, ⟨hKn, hN68⟩, hB, hSc, hTh⟩ := id X
  have hKn : nN = m := hKn
  subst hKn
  obtain ⟨r1, r2, r3⟩ := BLk.room (k := k) hTh hkb
  obtain ⟨h100, h101⟩ := r3 len hn.2.2
  refine va_newa (atype := .long) hx hb (hts _ arrJ) rfl hK.1 Y.1 Y.2.1 Y.2.2.1 hA (a0 := (len, .inr (.inl fun _ => 0))) (fun cA => rfl) hn.1 hn.2.1 (by show len * 8 ≤ _; omega) r2 h101 hd (fun q cA H1 k1 k2 k3 k4 => ?_)
  have e1 : s.vm.findClass ("[" ++ FieldType.long.toString) = some cA := (k1.2 3 (cA, .long) rfl).2
  have e2 : s.vm.findClass ("[" ++ FieldType.long.toString) = some C.2.1 := (hK.1.2 1 (C.2.1, .long) rfl).2
  have e3 : cA = C.2.1 := Option.some.inj (e1.symm.trans e2)
  rw [e3, ws_new (ad := ad) (σ := σ) (τ := zerL σ nN) hm.1 (fun i hi => ⟨rfl, funext fun b => by simp only [zerL]; rw [if_neg (by omega)]⟩) (by
    rw [cellE_3 _ _ _ hkd, hns, ← (show (fun _ => 0) = (zerL σ nN).2 nN from funext fun b => by simp [zerL])])] at k2 k3
  obtain ⟨l1, l2⟩ := loc_new (ad := ad) (q := q) hloc
  have hSc' : va_X ((fun i => if i = nN then q else ad i) 68) S.2 S.1 s s.heap ∧ ((fun i => if i = nN then q else ad i) 68) < s.heap.size ∧ ¬ A0 ((fun i => if i = nN then q else ad i) 68) := by
    have e5 : (if 68 = nN then q else ad 68) = ad 68 := if_neg (by omega)
    show va_X (if 68 = nN then q else ad 68) S.2 S.1 s s.heap ∧ (if 68 = nN then q else ad 68) < s.heap.size ∧ ¬ A0 (if 68 = nN then q else ad 68)
    rw [e5]
    exact hSc
  have k5 := kk l D C (fun i => if i = nN then q else ad i) (nN + 1) S p ev R s m' args below meth c A0 H1 locs ls ⟨hx, hb, hml, hr, hlk, hown, hts, hK, hf, hlo, ⟨rfl, by omega⟩, ⟨by rw [← r1]; exact r2, by obtain ⟨q1, -⟩ := hTh; subst q1; exact Nat.sub_le _ _⟩, hSc', hTh⟩ hA ⟨k2, k3, k4, Y.2.2.2⟩ (by rw [l1]; exact hl)
  rw [List.map_cons, l2] at k5
  have e4 : rv (fun i => if i = nN then q else ad i) (.ref nN) = .ref q := by simp [rv]
  rw [e4] at k5
  exact W.widen (Nat.le_of_eq r1) h100 k5
theorem ws_take {ad : Nat → Nat} {C : CT} {m n i : Nat} {x : Nat × va_E} (hmn : m ≤ n) (h : (wsE ad C m σ)[i]? = some x) : (wsE ad C n σ)[i]? = some x := by
  have hi : i < m := by
    have := (List.getElem?_eq_some_iff.mp h).1
    simpa [wsE] using this
  rw [wsE_at ad C σ hi] at h
  rw [wsE_at ad C σ (Nat.lt_of_lt_of_le hi hmn)]
  exact h
/-- the last cells are let go -/
theorem a_drop {n : Nat} (m : Nat) (hm : m ≤ n) (kk : LJ m k e pc loc stk σ) : LJ n k e pc loc stk σ := by
  intro l D C ad nN S p ev R s m' args below meth c A0 H locs ls X hA Y hl
  obtain ⟨hx, hb, hml, hr, hlk, hown, hts, hK, hf, hlo, ⟨hKn, hN68⟩, hB, hSc, hTh⟩ := id X
  have hKn : nN = n := hKn
  subst hKn
  exact kk l D C ad m S p ev R s m' args below meth c A0 H locs ls ⟨hx, hb, hml, hr, hlk, hown, hts, hK, hf, hlo, ⟨rfl, Nat.le_trans hm hN68⟩, hB, hSc, hTh⟩ hA ⟨fun i x hx => Y.1 i x (ws_take hm hx), ⟨fun i j x y h1 h2 => Y.2.1.1 i j x y (ws_take hm h1) (ws_take hm h2), fun i x h => Y.2.1.2 i x (ws_take hm h)⟩, Y.2.2.1, Y.2.2.2⟩ hl
theorem a_wid {k' : Nat} (k : Nat) (h : k ≤ k') (kk : LJ m k e pc loc stk σ) : LJ m k' e pc loc stk σ := by
  intro l D C ad nN S p ev R s m' args below meth c A0 H locs ls X hA Y hl
  obtain ⟨hx, hb, hml, hr, hlk, hown, hts, hK, hf, hlo, hKn, hB, hSc, hTh⟩ := id X
  refine W.widen (k := 600000 - k) (n := 7302250 - 100 * k) (by show 600000 - k' ≤ _; omega) (by show 7302250 - 100 * k' ≤ _; omega) (kk l D C ad nN S p ev R s m' args below meth c A0 H locs ls ⟨hx, hb, hml, hr, hlk, hown, hts, hK, hf, hlo, hKn, ?_, hSc, hTh⟩ hA Y hl)
  obtain ⟨q1, -⟩ := hTh
  subst q1
  exact ⟨Nat.sub_le _ _, Nat.sub_le _ _⟩
/-- the law's end -/
theorem a_lend {v : Int32} (hv : v = 1) (hd : decode ML_law.2.1 pc = .ok (.ireturn, 1)) : LJ m k e pc loc [.int v] σ := by
  intro l D C ad nN S p ev R s m' args below meth c A0 H locs ls X hA Y hl
  obtain ⟨hx, hb, hml, hr, hlk, hown, hts, hK, hf, hlo, hKn, hB, hSc, hTh⟩ := id X
  obtain ⟨rfl, ⟨b, rfl⟩, hA2⟩ := hTh
  subst hv
  exact W.widen (k := 600000) (n := 7302250) (Nat.sub_le _ _) (Nat.sub_le _ _) (va_forget (fun q hq => hA2 _ (Y.2.2.1.2.2 q hq)) (lw_ret hx hb hr hlk hd))
end LR
