section AH
variable {K : Nat → Prop} {B : JX} {e : Nat} {M : MI} {pc : Nat} {loc loc' : List (Nat × Value)} {stk : List Value} {σ τ : St} {r : Option Value}
/-- a field link of class own at the place ix: slot k of the class of number ci -/
def FL (own : String) (ix ci k : Nat) : Prop := ∃ (C : String) (T : u_T) (N : Nat), vwCl[ci]? = some (C, T, N) ∧ k < N ∧ (T k).1 = C ∧ Cond.fieldLink own ix C (T k).2.1 (T k).2.2.1 ∈ aT ∧ (∀ w ∈ u_ws C T N, w ∈ aT)
/-- the same, of a field that may be written -/
def tyOf : Nat → FieldType
  | 1 => .long
  | 3 => .boolean
  | _ => .int
def FP (own : String) (ix ci k : Nat) : Prop := ∃ (C : String) (T : u_T) (N : Nat) (ty0 : Nat → FieldType), vwCl[ci]? = some (C, T, N) ∧ k < N ∧ (T k).1 = C ∧ Cond.fieldLink own ix C (T k).2.1 (T k).2.2.1 ∈ aT ∧ (∀ w ∈ u_ws C T N, w ∈ aT) ∧
  (∀ k, k < N → parseFieldDescriptor (T k).2.2.1 = some (ty0 k)) ∧ (∀ a, a < N → ∀ b, b < N → a ≠ b → (T a).2.1 ≠ (T b).2.1) ∧ (T k).2.2.2 = false ∧ parseFieldDescriptor (T k).2.2.1 = some (tyOf (sty ci k))
/-- cell i is an object of the class of number ci, of n slots; an array of n places of ints, longs, GIFTS -/
def OB (K : Nat → Prop) (i ci n : Nat) : Prop := (∀ m, K m → i < m) ∧ kd i = 1 ∧ cl i = ci ∧ nsl i = n
def IA (K : Nat → Prop) (i n : Nat) : Prop := (∀ m, K m → i < m) ∧ kd i = 2 ∧ nsl i = n
def LA (K : Nat → Prop) (i n : Nat) : Prop := (∀ m, K m → i < m) ∧ kd i = 3 ∧ nsl i = n
def GA (K : Nat → Prop) (i n : Nat) : Prop := (∀ m, K m → i < m) ∧ kd i = 4 ∧ nsl i = n
theorem a_get {i k ix n ci : Nat} (v : Value) (ho : OB K i ci n) (hkn : k < n) (hf : FL M.1.cls ix ci k) (hv : av σ i k = v) (hd : decode M.2.1 pc = .ok (.getfield ix, 3)) (kk : J K B e M (pc + 3) loc (v :: stk) σ) : J K B e M pc loc (.ref i :: stk) σ := by
  intro l D C ad nN S p ev R s m args below meth c A0 H locs ls X hA Y hl
  obtain ⟨hx, hb, hml, hr, hlk, hown, hts, hK, -, -, hKn, hB, hSc, hTh⟩ := id X
  obtain ⟨Cn, T, N, h1, h2, h3, h4, h5⟩ := hf
  obtain ⟨hi, hk, rfl, rfl⟩ := ho
  refine va_get (v := rv ad v) hx hb hts h5 hown hK.1 Y.1 i (wsE_at ad C σ (hi _ hKn.1) |>.trans (by rw [cellE_1 ad C σ hk])) h1 k h2 (hts _ h4) (fun x hx => by rw [h3] at hx; exact hx) ?_ hd ?_
  · rw [List.getElem?_map, List.getElem?_range hkn, ← hv]; rfl
  · exact kk l D C ad nN S p ev R s m args below meth c A0 H locs ls X hA Y hl
theorem fits_int (x : Int32) : fits .int (.int x) = true := rfl
theorem av_setI_self {i k : Nat} {x : Int32} (h : sty (cl i) k = 0 ∨ sty (cl i) k = 3) : av (setI σ i k x) i k = .int x := by
  rcases h with h | h <;> simp [av, h, setI]
theorem av_setI_ne {i k j : Nat} {x : Int32} (h : j ≠ k) : av (setI σ i k x) i j = av σ i j := by
  have e1 : (setI σ i k x).1 i j = σ.1 i j := by simp [setI, h]
  simp only [av, e1]; rfl
theorem av_setL_self {i k : Nat} {x : Int64} (h : sty (cl i) k = 1) : av (setL σ i k x) i k = .long x := by
  simp [av, h, setL]
theorem av_setL_ne {i k j : Nat} {x : Int64} (h : j ≠ k) : av (setL σ i k x) i j = av σ i j := by
  have e1 : (setL σ i k x).2 i j = σ.2 i j := by simp [setL, h]
  simp only [av, e1]; rfl
theorem range_set {n k : Nat} {ad : Nat → Nat} {f g : Nat → Value} {v : Value} (hk : k < n) (h1 : v = rv ad (g k)) (h2 : ∀ j, j ≠ k → g j = f j) : ((List.range n).map fun j => rv ad (f j)).set k v = (List.range n).map fun j => rv ad (g j) := by
  apply List.ext_getElem?
  intro j
  by_cases hj : j = k
  · subst hj
    rw [List.getElem?_set_self (by simpa using hk), List.getElem?_map, List.getElem?_range hk, h1]
    rfl
  · rw [List.getElem?_set_ne (Ne.symm hj), List.getElem?_map, List.getElem?_map]
    by_cases hl : j < n
    · rw [List.getElem?_range hl]
      simp [h2 j hj]
    · simp [List.getElem?_eq_none (by simp; omega : (List.range n).length ≤ j)]
theorem a_putI {i k ix n ci : Nat} {x : Int32} (ho : OB K i ci n) (hkn : k < n) (hf : FP M.1.cls ix ci k) (hs : sty ci k = 0 ∨ (sty ci k = 3 ∧ (x = 0 ∨ x = 1))) (hd : decode M.2.1 pc = .ok (.putfield ix, 3)) (kk : J K B e M (pc + 3) loc stk (setI σ i k x)) : J K B e M pc loc (.int x :: .ref i :: stk) σ := by
  intro l D C ad nN S p ev R s m args below meth c A0 H locs ls X hA Y hl
  obtain ⟨hx, hb, hml, hr, hlk, hown, hts, hK, -, -, hKn, hB, hSc, hTh⟩ := id X
  obtain ⟨Cn, T, N, ty0, h1, h2, h3, h4, h5, h6, h7, h8, h9⟩ := hf
  obtain ⟨hi, hk, rfl, rfl⟩ := ho
  have hs2 : sty (cl i) k = 0 ∨ sty (cl i) k = 3 := by rcases hs with h | h; exact Or.inl h; exact Or.inr h.1
  have hnar : narrow (tyOf (sty (cl i) k)) (.int x) = .int x ∧ fits (tyOf (sty (cl i) k)) (.int x) = true := by
    rcases hs with h | ⟨h, rfl | rfl⟩ <;> rw [h] <;> exact ⟨rfl, rfl⟩
  refine va_put (ty := tyOf (sty (cl i) k)) hx hb hts h5 ty0 h6 h7 hown hK.1 Y.1 Y.2.1 Y.2.2.1 i (wsE_at ad C σ (hi _ hKn.1) |>.trans (by rw [cellE_1 ad C σ hk])) h1 k h2 (hts _ h4) (fun x hx => by rw [h3] at hx; exact hx) h8 h9 hnar.1 hnar.2 (by simpa using hkn) hd (fun H1 locs1 q1 q2 q3 => ?_)
  have e1 := wsE_set (nN := nN) ad C σ (setI σ i k x) (hi _ hKn.1) (e := .inr (cl i, ((List.range (nsl i)).map fun j => rv ad (av σ i j)).set k (rv ad (.int x)))) (by
    rw [cellE_1 ad C _ hk, range_set hkn (g := av (setI σ i k x) i) (by rw [av_setI_self hs2]) (fun j hj => av_setI_ne hj)]) (fun j hj => cellE_setI_ne ad C σ hj)
  rw [e1] at q1 q2
  exact kk l D C ad nN S p ev R s m args below meth c A0 H1 locs1 ls X hA ⟨q1, q2, q3, sc_setI Y.2.2.2 (Nat.lt_of_lt_of_le (hi _ hKn.1) hKn.2)⟩ hl
theorem a_putL {i k ix n ci : Nat} {x : Int64} (ho : OB K i ci n) (hkn : k < n) (hf : FP M.1.cls ix ci k) (hs : sty ci k = 1) (hd : decode M.2.1 pc = .ok (.putfield ix, 3)) (kk : J K B e M (pc + 3) loc stk (setL σ i k x)) : J K B e M pc loc (.long x :: .ref i :: stk) σ := by
  intro l D C ad nN S p ev R s m args below meth c A0 H locs ls X hA Y hl
  obtain ⟨hx, hb, hml, hr, hlk, hown, hts, hK, -, -, hKn, hB, hSc, hTh⟩ := id X
  obtain ⟨Cn, T, N, ty0, h1, h2, h3, h4, h5, h6, h7, h8, h9⟩ := hf
  obtain ⟨hi, hk, rfl, rfl⟩ := ho
  rw [hs] at h9
  refine va_put (ty := .long) hx hb hts h5 ty0 h6 h7 hown hK.1 Y.1 Y.2.1 Y.2.2.1 i (wsE_at ad C σ (hi _ hKn.1) |>.trans (by rw [cellE_1 ad C σ hk])) h1 k h2 (hts _ h4) (fun x hx => by rw [h3] at hx; exact hx) h8 h9 rfl rfl (by simpa using hkn) hd (fun H1 locs1 q1 q2 q3 => ?_)
  have e1 := wsE_set (nN := nN) ad C σ (setL σ i k x) (hi _ hKn.1) (e := .inr (cl i, ((List.range (nsl i)).map fun j => rv ad (av σ i j)).set k (rv ad (.long x)))) (by
    rw [cellE_1 ad C _ hk, range_set hkn (g := av (setL σ i k x) i) (by rw [av_setL_self hs]) (fun j hj => av_setL_ne hj)]) (fun j hj => cellE_setL_ne ad C σ hj)
  rw [e1] at q1 q2
  exact kk l D C ad nN S p ev R s m args below meth c A0 H1 locs1 ls X hA ⟨q1, q2, q3, sc_setL Y.2.2.2⟩ hl
theorem a_iald {i n : Nat} {j : Int32} (ho : IA K i n) (hb : inb j n = true) (hd : decode M.2.1 pc = .ok (.iaload, 1)) (kk : J K B e M (pc + 1) loc (.int (σ.1 i j.toNatClampNeg) :: stk) σ) : J K B e M pc loc (.int j :: .ref i :: stk) σ := by
  intro l D C ad nN S p ev R s m args below meth c A0 H locs ls X hA Y hl
  obtain ⟨hx, hbb, hml, hr, hlk, hown, hts, hK, -, -, hKn, hB, hSc, hTh⟩ := id X
  obtain ⟨hi, hk, rfl⟩ := ho
  exact va_iald hx hbb hK.1 Y.1 i 0 (wsE_at ad C σ (hi _ hKn.1) |>.trans (by rw [cellE_2 ad C σ hk])) rfl (inb_vp hb) hd (kk l D C ad nN S p ev R s m args below meth c A0 H locs ls X hA Y hl)
theorem a_lald {i n : Nat} {j : Int32} (ho : LA K i n) (hb : inb j n = true) (hd : decode M.2.1 pc = .ok (.laload, 1)) (kk : J K B e M (pc + 1) loc (.long (σ.2 i j.toNatClampNeg) :: stk) σ) : J K B e M pc loc (.int j :: .ref i :: stk) σ := by
  intro l D C ad nN S p ev R s m args below meth c A0 H locs ls X hA Y hl
  obtain ⟨hx, hbb, hml, hr, hlk, hown, hts, hK, -, -, hKn, hB, hSc, hTh⟩ := id X
  obtain ⟨hi, hk, rfl⟩ := ho
  exact va_lald hx hbb hK.1 Y.1 i 1 (wsE_at ad C σ (hi _ hKn.1) |>.trans (by rw [cellE_3 ad C σ hk])) rfl (inb_vp hb) hd (kk l D C ad nN S p ev R s m args below meth c A0 H locs ls X hA Y hl)
theorem a_aald {i n : Nat} {j : Int32} (v : Nat) (ho : GA K i n) (hb : inb j n = true) (hv : rfv i j.toNatClampNeg = v) (hd : decode M.2.1 pc = .ok (.aaload, 1)) (kk : J K B e M (pc + 1) loc (.ref v :: stk) σ) : J K B e M pc loc (.int j :: .ref i :: stk) σ := by
  intro l D C ad nN S p ev R s m args below meth c A0 H locs ls X hA Y hl
  obtain ⟨hx, hbb, hml, hr, hlk, hown, hts, hK, -, -, hKn, hB, hSc, hTh⟩ := id X
  obtain ⟨hi, hk, rfl⟩ := ho; subst hv
  exact va_aldq (f := fun j => some (ad (rfv i j))) hx hbb hK.1 Y.1 i 2 (wsE_at ad C σ (hi _ hKn.1) |>.trans (by rw [cellE_4 ad C σ hk])) rfl (inb_vp hb) hd (kk l D C ad nN S p ev R s m args below meth c A0 H locs ls X hA Y hl)
theorem a_iast {i n : Nat} {j x : Int32} (ho : IA K i n) (hb : inb j n = true) (hd : decode M.2.1 pc = .ok (.iastore, 1)) (kk : J K B e M (pc + 1) loc stk (setI σ i j.toNatClampNeg x)) : J K B e M pc loc (.int x :: .int j :: .ref i :: stk) σ := by
  intro l D C ad nN S p ev R s m args below meth c A0 H locs ls X hA Y hl
  obtain ⟨hx, hbb, hml, hr, hlk, hown, hts, hK, -, -, hKn, hB, hSc, hTh⟩ := id X
  obtain ⟨hi, hk, rfl⟩ := ho
  refine va_iast hx hbb hK.1 Y.1 Y.2.1 Y.2.2.1 i 0 (wsE_at ad C σ (hi _ hKn.1) |>.trans (by rw [cellE_2 ad C σ hk])) rfl (inb_vp hb) hd (fun H1 locs1 q1 q2 q3 => ?_)
  have e1 := wsE_set (nN := nN) ad C σ (setI σ i j.toNatClampNeg x) (hi _ hKn.1) (e := .inl (C.1, (nsl i, .inl (upd (σ.1 i) j.toNatClampNeg x)))) (by
    rw [cellE_2 ad C _ hk]
    congr 4
    funext b
    simp [setI, upd]) (fun j hj => cellE_setI_ne ad C σ hj)
  rw [e1] at q1 q2
  exact kk l D C ad nN S p ev R s m args below meth c A0 H1 locs1 ls X hA ⟨q1, q2, q3, sc_setI Y.2.2.2 (Nat.lt_of_lt_of_le (hi _ hKn.1) hKn.2)⟩ hl
theorem a_last {i n : Nat} {j : Int32} {x : Int64} (ho : LA K i n) (hb : inb j n = true) (hd : decode M.2.1 pc = .ok (.lastore, 1)) (kk : J K B e M (pc + 1) loc stk (setL σ i j.toNatClampNeg x)) : J K B e M pc loc (.long x :: .int j :: .ref i :: stk) σ := by
  intro l D C ad nN S p ev R s m args below meth c A0 H locs ls X hA Y hl
  obtain ⟨hx, hbb, hml, hr, hlk, hown, hts, hK, -, -, hKn, hB, hSc, hTh⟩ := id X
  obtain ⟨hi, hk, rfl⟩ := ho
  refine va_last hx hbb hK.1 Y.1 Y.2.1 Y.2.2.1 i 1 (wsE_at ad C σ (hi _ hKn.1) |>.trans (by rw [cellE_3 ad C σ hk])) rfl (inb_vp hb) hd (fun H1 locs1 q1 q2 q3 => ?_)
  have e1 := wsE_set (nN := nN) ad C σ (setL σ i j.toNatClampNeg x) (hi _ hKn.1) (e := .inl (C.2.1, (nsl i, .inr (.inl (vp_updL (σ.2 i) j.toNatClampNeg x))))) (by
    rw [cellE_3 ad C _ hk]
    congr 5
    funext b
    simp [setL, vp_updL]) (fun j hj => cellE_setL_ne ad C σ hj)
  rw [e1] at q1 q2
  exact kk l D C ad nN S p ev R s m args below meth c A0 H1 locs1 ls X hA ⟨q1, q2, q3, sc_setL Y.2.2.2⟩ hl
theorem a_alen {i n : Nat} {v : Int32} (ho : IA K i n ∨ LA K i n) (hv : Int32.ofNat n = v) (hd : decode M.2.1 pc = .ok (.arraylength, 1)) (kk : J K B e M (pc + 1) loc (.int v :: stk) σ) : J K B e M pc loc (.ref i :: stk) σ := by
  intro l D C ad nN S p ev R s m args below meth c A0 H locs ls X hA Y hl
  obtain ⟨hx, hbb, hml, hr, hlk, hown, hts, hK, -, -, hKn, hB, hSc, hTh⟩ := id X
  rcases ho with ⟨hi, hk, rfl⟩ | ⟨hi, hk, rfl⟩
  · exact va_alen hx hbb hK.1 Y.1 i 0 (wsE_at ad C σ (hi _ hKn.1) |>.trans (by rw [cellE_2 ad C σ hk])) rfl hv hd (kk l D C ad nN S p ev R s m args below meth c A0 H locs ls X hA Y hl)
  · exact va_alen hx hbb hK.1 Y.1 i 1 (wsE_at ad C σ (hi _ hKn.1) |>.trans (by rw [cellE_3 ad C σ hk])) rfl hv hd (kk l D C ad nN S p ev R s m args below meth c A0 H locs ls X hA Y hl)
/-- System.arraycopy from both starts -/
def CPL (own : String) (ix : Nat) : Prop := Cond.methodLink own ix arraycopyName ∈ aT ∧ Cond.native arraycopyName ∈ aT ∧ Cond.static arraycopyName ∈ aT ∧ Cond.initialized "java/lang/System" ∈ aT
theorem a_cpyI {i j ix n0 n1 : Nat} {n : Int32} (hoi : IA K i n0) (hoj : IA K j n1) (hf : CPL M.1.cls ix) (h3 : ¬ n < 0) (h4 : n.toNatClampNeg ≤ n0) (h5 : n.toNatClampNeg ≤ n1) (hw : (stk.map fun v => v.category).sum ≤ 8) (hd : decode M.2.1 pc = .ok (.invokestatic ix, 3)) (kk : J K B (e + 1) M (pc + 3) loc stk (cpyI σ i j n.toNatClampNeg)) : J K B (e + 1) M pc loc (.int n :: .int 0 :: .ref j :: .int 0 :: .ref i :: stk) σ := by
  intro l D C ad nN S p ev R s m args below meth c A0 H locs ls X hA Y hl
  obtain ⟨hx, hbb, hml, hr, hlk, hown, hts, hK, hf1, hf2, hKn, hB, hSc, hTh⟩ := id X
  obtain ⟨w1, w2, w3, w4⟩ := hf
  obtain ⟨hi, hki, rfl⟩ := hoi
  obtain ⟨hj, hkj, rfl⟩ := hoj
  have hw2 : ((stk.map (rv ad)).map fun v => v.category).sum ≤ 8 := by
    have e1 : ((stk.map (rv ad)).map fun v => v.category) = stk.map fun v => v.category := by simp [Function.comp_def, rv_cat]
    rw [e1]; exact hw
  refine va_copyi hx hbb (hml.trans hl.1.symm) hown (hts _ w1) (hts _ w2) (hts _ w3) (hts _ w4) hK.1 Y.1 Y.2.1 Y.2.2.1 i j 0 0 (wsE_at ad C σ (hi _ hKn.1) |>.trans (by rw [cellE_2 ad C σ hki])) (wsE_at ad C σ (hj _ hKn.1) |>.trans (by rw [cellE_2 ad C σ hkj])) rfl rfl rfl (by decide) (by decide) h3 (by simpa using h4) (by simpa using h5) (fun _ _ => rfl) (by omega) (Nat.le_trans (Nat.add_le_add_right hw2 _) (Nat.le_trans (show 8 + (nativeFrameWords "java/lang/System" "arraycopy" 5 + 11) ≤ 36 from by decide +kernel) (by omega))) hd (fun H1 locs1 q1 q2 q3 => ?_)
  have e1 := wsE_set (nN := nN) ad C σ (cpyI σ i j n.toNatClampNeg) (hj _ hKn.1) (e := .inl (C.1, (nsl j, .inl (va_cpy (σ.1 i) (σ.1 j) (0 : Int32).toNatClampNeg (0 : Int32).toNatClampNeg n.toNatClampNeg)))) (by
    rw [cellE_2 ad C _ hkj]
    congr 4
    funext b
    simp [cpyI, va_cpy]) (fun a ha => cellE_cpyI_ne ad C σ ha)
  rw [e1] at q1 q2
  exact kk l D C ad nN S p ev R s m args below meth c A0 H1 locs1 ls X hA ⟨q1, q2, q3, sc_cpyI Y.2.2.2 (Nat.lt_of_lt_of_le (hj _ hKn.1) hKn.2)⟩ hl
theorem a_cpyL {i j ix n0 n1 : Nat} {n : Int32} (hoi : LA K i n0) (hoj : LA K j n1) (hf : CPL M.1.cls ix) (h3 : ¬ n < 0) (h4 : n.toNatClampNeg ≤ n0) (h5 : n.toNatClampNeg ≤ n1) (hw : (stk.map fun v => v.category).sum ≤ 8) (hd : decode M.2.1 pc = .ok (.invokestatic ix, 3)) (kk : J K B (e + 1) M (pc + 3) loc stk (cpyL σ i j n.toNatClampNeg)) : J K B (e + 1) M pc loc (.int n :: .int 0 :: .ref j :: .int 0 :: .ref i :: stk) σ := by
  intro l D C ad nN S p ev R s m args below meth c A0 H locs ls X hA Y hl
  obtain ⟨hx, hbb, hml, hr, hlk, hown, hts, hK, hf1, hf2, hKn, hB, hSc, hTh⟩ := id X
  obtain ⟨w1, w2, w3, w4⟩ := hf
  obtain ⟨hi, hki, rfl⟩ := hoi
  obtain ⟨hj, hkj, rfl⟩ := hoj
  have hw2 : ((stk.map (rv ad)).map fun v => v.category).sum ≤ 8 := by
    have e1 : ((stk.map (rv ad)).map fun v => v.category) = stk.map fun v => v.category := by simp [Function.comp_def, rv_cat]
    rw [e1]; exact hw
  refine va_copyl hx hbb (hml.trans hl.1.symm) hown (hts _ w1) (hts _ w2) (hts _ w3) (hts _ w4) hK.1 Y.1 Y.2.1 Y.2.2.1 i j 1 1 (wsE_at ad C σ (hi _ hKn.1) |>.trans (by rw [cellE_3 ad C σ hki])) (wsE_at ad C σ (hj _ hKn.1) |>.trans (by rw [cellE_3 ad C σ hkj])) rfl rfl rfl (by decide) (by decide) h3 (by simpa using h4) (by simpa using h5) (fun _ _ => rfl) (by omega) (Nat.le_trans (Nat.add_le_add_right hw2 _) (Nat.le_trans (show 8 + (nativeFrameWords "java/lang/System" "arraycopy" 5 + 11) ≤ 36 from by decide +kernel) (by omega))) hd (fun H1 locs1 q1 q2 q3 => ?_)
  have e1 := wsE_set (nN := nN) ad C σ (cpyL σ i j n.toNatClampNeg) (hj _ hKn.1) (e := .inl (C.2.1, (nsl j, .inr (.inl (va_cpy (σ.2 i) (σ.2 j) (0 : Int32).toNatClampNeg (0 : Int32).toNatClampNeg n.toNatClampNeg))))) (by
    rw [cellE_3 ad C _ hkj]
    congr 5
    funext b
    simp [cpyL, va_cpy]) (fun a ha => cellE_cpyL_ne ad C σ ha)
  rw [e1] at q1 q2
  exact kk l D C ad nN S p ev R s m args below meth c A0 H1 locs1 ls X hA ⟨q1, q2, q3, sc_cpyL Y.2.2.2⟩ hl
/-- calls: the words of a site -/
def VL (own : String) (ix ci : Nat) (M' : MI) (n : Nat) : Prop := (∃ (T : u_T) (N : Nat), vwCl[ci]? = some (M'.1.cls, T, N)) ∧ (Cond.methodLink own ix M'.1 ∈ aT ∨ ∃ host, Cond.methodLinkNest own ix M'.1 host ∈ aNst) ∧ Cond.instanceMethod M'.1 ∈ aT ∧ Cond.selects M'.1.cls M'.1 M'.1 ∈ aT ∧ Cond.initialized M'.1.cls ∈ aT ∧ Cond.code M'.1 M'.2.1 M'.2.2.1 M'.2.2.2 ∈ aT ∧
  (M'.1.cls ≠ "java/lang/invoke/MethodHandle" ∧ M'.1.cls ≠ "java/lang/invoke/VarHandle" ∧ (parseMethodDescriptor M'.1.desc).map (fun d => d.parameters.length) = some n) ∧ M'.2.2.1 ≤ 17
def SL (own : String) (ix : Nat) (M' : MI) (n : Nat) : Prop := (Cond.methodLink own ix M'.1 ∈ aT ∨ ∃ host, Cond.methodLinkNest own ix M'.1 host ∈ aNst) ∧ Cond.static M'.1 ∈ aT ∧ Cond.initialized M'.1.cls ∈ aT ∧ Cond.code M'.1 M'.2.1 M'.2.2.1 M'.2.2.2 ∈ aT ∧
  (M'.1.cls ≠ "java/lang/invoke/MethodHandle" ∧ M'.1.cls ≠ "java/lang/invoke/VarHandle" ∧ (parseMethodDescriptor M'.1.desc).map (fun d => d.parameters.length) = some n) ∧ M'.2.2.1 ≤ 17
theorem aT_good {w : Cond} (h : w ∈ aT) : w ∈ aT ∧ ((w.onTables && w.keeps) = true ∨ ∃ ty, w = .arrayClass ty) := ⟨h, good_of_word (List.mem_filter.mp h).2⟩
theorem mWs_good {M' : MI} (h : Cond.code M'.1 M'.2.1 M'.2.2.1 M'.2.2.2 ∈ aT) : GoodIn aT (mWs M') := fun w hw => by
  rcases List.mem_cons.mp hw with rfl | hw
  · exact aT_good h
  · exact aT_good hw
theorem rv_map_length (ad : Nat → Nat) (as : List Value) : (as.map (rv ad)).length = as.length := List.length_map ..
theorem cat_map (ad : Nat → Nat) (as : List Value) : ((as.map (rv ad)).map fun v => v.category) = as.map fun v => v.category := by simp [Function.comp_def, rv_cat]
/-- behind a call -/
theorem a_back {l : Launch} {D : va_G} {C : CT} {ad : Nat → Nat} {nN : Nat} {S : Sx} {p : Program} {ev : Env} {R : Room} {s : State} {m : MethodId} {args : Array Value} {below : List Frame} {meth : Method} {c : Code} {A0 : Nat → Prop} {H : Heap} {locs : List Loc} {ls : Array Slot} {st0 : List Value} {a : Array Value} {q : Option Value} {σ1 : St} {Q : State → Prop} {mc ms : Nat}
    (hr : va_Run p l ev R s m args below meth c H locs mc ms 0 0 (F0 m pc ls st0) (stk.map (rv ad)) (aQ D C ad nN S (va_A (wsE ad C nN σ) H.size) q σ1 a) (va_A (wsE ad C nN σ) H.size)) (hA : ∀ q, s.heap.size ≤ q → A0 q) (Y : Hp D C ad nN S A0 s σ H locs)
    (kk : ∀ (H1 : Heap) (locs1 : List Loc), Hp D C ad nN S A0 s σ1 H1 locs1 → W p l ev R s m args below meth c H1 locs1 mc ms Q (F0 m (pc + 3) ls (((q.toList ++ stk)).map (rv ad)))) : W p l ev R s m args below meth c H locs mc ms Q (F0 m pc ls st0) := by
  intro T hT X
  obtain ⟨v, st₀, t, T', L, h0, X', hL, e1, e2, ⟨⟨hv, hB⟩, hz, hk⟩, st⟩ := hr T hT X
  rw [h0] at hz hk
  have hfree : ∀ z, va_A (wsE ad C nN σ) H.size z → A0 z := by
    intro z hz2
    rcases hz2 with ⟨k, w, hw⟩ | hw
    · exact Y.2.1.2 k _ hw
    · exact hA z (Nat.le_trans Y.2.2.1.1 hw)
  have hv' : v.toList ++ stk.map (rv ad) = ((q.toList ++ stk)).map (rv ad) := by
    have : v = q.map (rv ad) := by injection hv
    subst this
    cases q <;> simp
  have hS : va_S A0 s.heap T'.heap (locs ++ L) := by
    refine ⟨Nat.le_trans Y.2.2.1.1 (by rw [e1]; exact hz), fun z h1 h2 => ?_, fun z hz2 => ?_⟩
    · rw [e1, hk z (Nat.lt_of_lt_of_le h1 Y.2.2.1.1) (fun w => h2 (hfree z w))]
      exact Y.2.2.1.2.1 z h1 h2
    · rcases List.mem_append.mp hz2 with h | h
      · exact Y.2.2.1.2.2 z h
      · exact hfree _ (hL z h)
  have hP : va_P D vwCl (wsE ad C nN σ1) T'.heap := by rw [e1]; exact hB.1
  have hD : va_D A0 (wsE ad C nN σ1) := hB.2.2.1.weaken (fun k w _ h => hfree _ h)
  obtain ⟨t2, a1, b1⟩ := kk T'.heap (locs ++ L) ⟨hP, hD, hS, hB.2.2.2⟩ T' rfl X'
  rw [← hv'] at a1
  exact ⟨t2, st t2 a1, b1⟩
abbrev aPre (D : va_G) (C : CT) (ad : Nat → Nat) (nN : Nat) (S : Sx) (σ : St) (sz : Nat) : State → Prop := fun U => U.heap.size = sz ∧ va_P D vwCl (wsE ad C nN σ) U.heap ∧ aK D C U ∧ va_D (fun _ => True) (wsE ad C nN σ) ∧ (va_X (ad 68) S.2 S.1 U U.heap ∧ ad 68 < sz ∧ ¬ va_A (wsE ad C nN σ) sz (ad 68)) ∧ sc σ S
theorem a_blind {D : va_G} {C : CT} {ad : Nat → Nat} {nN : Nat} {S : Sx} {as : List Value} {sz : Nat} : FrameBlind (va_Pc (as.map (rv ad)) (aPre D C ad nN S σ sz)) := by
  intro a U g mk h
  obtain ⟨h1, h2, h3, h4, h5, ⟨h6, h7⟩, h8⟩ := h
  exact ⟨h1, h2, h3, aK.same (s := U) (U := U.calling g mk a) rfl h4, h5, ⟨va_X.moved (by exact Vm.Alike.refl _) h6, h7⟩, h8⟩
theorem a_preS {D : va_G} {C : CT} {ad : Nat → Nat} {nN : Nat} {S : Sx} {as : List Value} {s : State} {H : Heap} {A0 : Nat → Prop} {locs : List Loc} (Y : Hp D C ad nN S A0 s σ H locs) (hK : aK D C s) (hA : ∀ q, s.heap.size ≤ q → A0 q) (hSc : va_X (ad 68) S.2 S.1 s s.heap ∧ ad 68 < s.heap.size ∧ ¬ A0 (ad 68)) : PreS s H (va_Pc (as.map (rv ad)) (aPre D C ad nN S σ H.size)) (as.map (rv ad)) := by
  refine ⟨a_blind, fun U hU hW => ⟨rfl, by rw [hU], by rw [hU]; exact Y.1, aK.warm hW hK, Y.2.1.weaken (fun _ _ _ _ => trivial), ⟨?_, Nat.lt_of_lt_of_le hSc.2.1 Y.2.2.1.1, ?_⟩, Y.2.2.2⟩⟩
  · rw [hU]
    exact va_X.moved hW.alike (hSc.1.kept (Y.2.2.1.2.1 _ hSc.2.1 hSc.2.2))
  · rintro (⟨k, w, hw⟩ | hw)
    · exact hSc.2.2 (Y.2.1.2 k _ hw)
    · exact absurd (Nat.lt_of_lt_of_le hSc.2.1 Y.2.2.1.1) (Nat.not_lt.mpr hw)
theorem a_callS {ix n : Nat} {as : List Value} {M' : MI} {q : Option Value} {σ1 : St} (hs : SpK K e M' as σ q σ1) (hL : SL M.1.cls ix M' n) (hn : as.length = n) (hw : (stk.map fun v => v.category).sum ≤ 8) (hd : decode M.2.1 pc = .ok (.invokestatic ix, 3)) (kk : J K B (e + 1) M (pc + 3) loc (q.toList ++ stk) σ1) : J K B (e + 1) M pc loc (as.reverse ++ stk) σ := by
  intro l D C ad nN S p ev R s m args below meth c A0 H locs ls X hA Y hl
  obtain ⟨hx, hbb, hml, hr, hlk, hown, hts, hK, hf1, hf2, hKn, hB, hSc, hTh⟩ := id X
  obtain ⟨hlink, w2, w3, w4, hdsc, h15⟩ := hL
  have hst : (F0 m pc ls ((as.reverse ++ stk).map (rv ad))).stack = (as.map (rv ad)).reverse ++ stk.map (rv ad) := by simp
  have hW : 2 * (F0 m pc ls ((as.reverse ++ stk).map (rv ad))).monitorRoom + ((stk.map (rv ad)).map fun v => v.category).sum ≤ 8 := by
    rw [cat_map]; exact lv_room hw
  have hroom : e + 1 ≤ R.frames ∧ 8 + (M'.2.2.1 + 11) + 36 * e ≤ R.locals := ⟨hf1, by omega⟩
  have hroomc : B.1.1 + 0 ≤ R.cells ∧ B.1.2 + 0 ≤ R.slots := hB
  have hrun : va_Run p l ev R s m args below meth c H locs B.1.1 B.1.2 0 0 (F0 m pc ls ((as.reverse ++ stk).map (rv ad))) (stk.map (rv ad)) (aQ D C ad nN S (va_A (wsE ad C nN σ) H.size) q σ1 (as.map (rv ad)).toArray) (va_A (wsE ad C nN σ) H.size) := by
    rcases hlink with w1 | ⟨host, w1⟩
    · exact va_runS ⟨hx, hbb, hml, hown, hts⟩ (hs l D C ad nN S H.size hKn.1 hKn.2) ⟨callB_of (ws' := aT) n hts (mWs_good w4) rfl rfl rfl (hts _ w3) (hts _ w1) hdsc hroom, hts _ w2⟩ (a_preS Y hK hA hSc) rfl (by simpa using hn) hl.1 hst hW hd hroomc
    · exact va_runSN ⟨hx, hbb, hml, hown, hts⟩ (hs l D C ad nN S H.size hKn.1 hKn.2) ⟨va_cnB (ws' := aT) n hts (mWs_good w4) rfl rfl rfl (hK.2 _ w1) (hts _ w3) hdsc hroom, hts _ w2, trivial⟩ (a_preS Y hK hA hSc) rfl (by simpa using hn) hl.1 hst hW hd hroomc
  exact a_back hrun hA Y (fun H1 locs1 Y1 => kk l D C ad nN S p ev R s m args below meth c A0 H1 locs1 ls X hA Y1 hl)
theorem a_callV {ix n i ci ni : Nat} {as : List Value} {M' : MI} {q : Option Value} {σ1 : St} (hs : SpK K e M' (.ref i :: as) σ q σ1) (ho : OB K i ci ni) (hL : VL M.1.cls ix ci M' n) (hn : as.length = n) (hw : (stk.map fun v => v.category).sum ≤ 8) (hd : decode M.2.1 pc = .ok (.invokevirtual ix, 3)) (kk : J K B (e + 1) M (pc + 3) loc (q.toList ++ stk) σ1) : J K B (e + 1) M pc loc (as.reverse ++ .ref i :: stk) σ := by
  intro l D C ad nN S p ev R s m args below meth c A0 H locs ls X hA Y hl
  obtain ⟨hx, hbb, hml, hr, hlk, hown, hts, hK, hf1, hf2, hKn, hB, hSc, hTh⟩ := id X
  obtain ⟨⟨T, N, hcl⟩, hlink, w2, w5, w3, w4, hdsc, h15⟩ := hL
  obtain ⟨hi, hk, rfl, rfl⟩ := ho
  have hst : (F0 m pc ls ((as.reverse ++ .ref i :: stk).map (rv ad))).stack = (as.map (rv ad)).reverse ++ .ref (ad i) :: stk.map (rv ad) := by simp [rv]
  have hW : 2 * (F0 m pc ls ((as.reverse ++ .ref i :: stk).map (rv ad))).monitorRoom + ((stk.map (rv ad)).map fun v => v.category).sum ≤ 8 := by
    rw [cat_map]; exact lv_room hw
  have hroom : e + 1 ≤ R.frames ∧ 8 + (M'.2.2.1 + 11) + 36 * e ≤ R.locals := ⟨hf1, by omega⟩
  have hroomc : B.1.1 + 0 ≤ R.cells ∧ B.1.2 + 0 ≤ R.slots := hB
  have hpre : PreV s H M'.1.cls (ad i) (va_Pc ((.ref i :: as).map (rv ad)) (aPre D C ad nN S σ H.size)) (as.map (rv ad)) :=
    ⟨a_blind, va_recv hK.1 Y.1 hcl (wsE_at ad C σ (hi _ hKn.1) |>.trans (by rw [cellE_1 ad C σ hk])), fun U hU hW => (a_preS (as := .ref i :: as) Y hK hA hSc).2 U hU hW⟩
  have hrun : va_Run p l ev R s m args below meth c H locs B.1.1 B.1.2 0 0 (F0 m pc ls ((as.reverse ++ .ref i :: stk).map (rv ad))) (stk.map (rv ad)) (aQ D C ad nN S (va_A (wsE ad C nN σ) H.size) q σ1 (.ref (ad i) :: as.map (rv ad)).toArray) (va_A (wsE ad C nN σ) H.size) := by
    rcases hlink with w1 | ⟨host, w1⟩
    · exact va_runV ⟨hx, hbb, hml, hown, hts⟩ (hs l D C ad nN S H.size hKn.1 hKn.2) ⟨callB_of (ws' := aT) n hts (mWs_good w4) rfl rfl rfl (hts _ w3) (hts _ w1) hdsc hroom, hts _ w2, hts _ w5⟩ hpre rfl (by simpa using hn) hl.1 hst hW hd hroomc
    · exact va_runVN ⟨hx, hbb, hml, hown, hts⟩ (hs l D C ad nN S H.size hKn.1 hKn.2) ⟨va_cnB (ws' := aT) n hts (mWs_good w4) rfl rfl rfl (hK.2 _ w1) (hts _ w3) hdsc hroom, hts _ w2, hts _ w5⟩ hpre rfl (by simpa using hn) hl.1 hst hW hd hroomc
  exact a_back hrun hA Y (fun H1 locs1 Y1 => kk l D C ad nN S p ev R s m args below meth c A0 H1 locs1 ls X hA Y1 hl)
/-- the script: a number of it, its length -/
theorem a_sld {j : Int32} (hb : inb j (σ.1 69 0).toNatClampNeg = true) (hd : decode M.2.1 pc = .ok (.iaload, 1)) (kk : J K B e M (pc + 1) loc (.int (σ.1 68 j.toNatClampNeg) :: stk) σ) : J K B e M pc loc (.int j :: .ref 68 :: stk) σ := by
  intro l D C ad nN S p ev R s m args below meth c A0 H locs ls X hA Y hl
  obtain ⟨hx, hbb, hml, hr, hlk, hown, hts, hK, hf1, hf2, hKn, hB, hSc, hTh⟩ := id X
  obtain ⟨s1, s2, s3⟩ := Y.2.2.2
  have e1 : (σ.1 69 0).toNatClampNeg = S.2 := by rw [s2]; exact nI_clamp (by omega)
  rw [e1] at hb
  refine va_sld hx hbb hSc.1 hSc.2.1 hSc.2.2 Y.2.2.1 (inb_vp hb) hd ?_
  rw [← s1]
  exact kk l D C ad nN S p ev R s m args below meth c A0 H locs ls X hA Y hl
theorem a_slen (hd : decode M.2.1 pc = .ok (.arraylength, 1)) (kk : J K B e M (pc + 1) loc (.int (σ.1 69 0) :: stk) σ) : J K B e M pc loc (.ref 68 :: stk) σ := by
  intro l D C ad nN S p ev R s m args below meth c A0 H locs ls X hA Y hl
  obtain ⟨hx, hbb, hml, hr, hlk, hown, hts, hK, hf1, hf2, hKn, hB, hSc, hTh⟩ := id X
  obtain ⟨s1, s2, s3⟩ := Y.2.2.2
  refine va_slen hx hbb hSc.1 hSc.2.1 hSc.2.2 Y.2.2.1 hd ?_
  have k1 := kk l D C ad nN S p ev R s m args below meth c A0 H locs ls X hA Y hl
  rw [s2] at k1
  exact k1
theorem lv_args_lm (ad : Nat → Nat) : ∀ (as : List Value) (k : Nat), lv_args k (as.map (rv ad)) = lm ad (lv_args k as)
  | [], _ => rfl
  | v :: as, k => by
    show (k, rv ad v) :: lv_args (if (rv ad v).category = 2 then k + 2 else k + 1) (as.map (rv ad)) = (k, rv ad v) :: lm ad (lv_args (if v.category = 2 then k + 2 else k + 1) as)
    rw [rv_cat, lv_args_lm ad as]
theorem lg_len (ad : Nat → Nat) : ∀ as : List Value, (lg_sl (as.map (rv ad))).length = (lg_sl as).length
  | [] => rfl
  | v :: as => by
    have h := lg_len ad as
    simp only [lg_sl, List.map_cons, List.flatMap_cons, List.length_append, rv_cat] at h ⊢
    rw [h]
    split <;> rfl
/-- a method's contract out of the walk of its body -/
theorem sp_of {as : List Value} (hy : plainName M.1.cls = true) (hlen : (lg_sl as).length ≤ M.2.2.1) (hq : lv_args 0 as = loc) (h : AL K e M 0 loc [] σ r τ) : SpK K e M as σ r τ := by
  intro l D C ad nN S sz hKn hN68
  refine Met.ofW (cc := M.2.1) (maxL := M.2.2.1) (ret := M.2.2.2) (ws' := aT) hy rfl ?_
  intro p ev s m args below meth c s₁ B hml hv
  obtain ⟨rfl, hsz, hP, hK, hD0, hSc, hsc⟩ := hv
  have hts := atoms_spec (ws := mWs M) B.pre
  have hown : s.vm.findClass M.1.cls = some m.cls := findClass_of_methodNamed B.named
  have hl := lv_entry (as.map (rv ad)) (n := M.2.2.1) (by rw [lg_len]; exact hlen)
  rw [lg_entry_eq]
  generalize (lg_sl (as.map (rv ad)) ++ List.replicate (M.2.2.1 - (lg_sl (as.map (rv ad))).length) Slot.unset).toArray = ls at hl ⊢
  rw [lv_args_lm, hq] at hl
  subst hsz
  exact h l D C ad nN S p ev _ s m _ below meth c (va_A (wsE ad C nN σ) s.heap.size) s.heap [] ls ⟨B.exec, B.bytes, hml, B.returns, B.notSynchronized, hown, fun w hw => hts w (List.mem_cons_of_mem _ hw), hK, Nat.le_refl _, Nat.le_refl _, ⟨hKn, hN68⟩, ⟨Nat.zero_le _, Nat.zero_le _⟩, hSc, trivial⟩ (fun q hq => Or.inr hq) ⟨hP, hD0.self, va_S.rf, hsc⟩ hl
end AH
