/-! THE LAW: both programs in one state -/
theorem Rel.cg {σ σ' τ τ' : St} (h : Rel σ σ') (hx : ∀ a b, a < 58 → τ.1 a b = σ.1 a b) (hm : ∀ a b, 58 ≤ a → τ'.1 a b = σ'.1 a b) : Rel τ τ' := by
  obtain ⟨P, G, hR⟩ := h
  exact ⟨P, G, hR.cong hx hm⟩
theorem fr_lo {ks : List Nat} {σ τ : St} (h : Fr ks σ τ) (hk : ks.all (fun x => decide (x < 58)) = true) : ∀ a b, 58 ≤ a → τ.1 a b = σ.1 a b := fun a b ha => h a b (fun hm => by
  have h1 := of_decide_eq_true (List.all_eq_true.mp hk _ hm)
  unfold key at h1
  split at h1 <;> omega)
theorem fr_hi {ks : List Nat} {σ τ : St} (h : Fr ks σ τ) (hk : ks.all (fun x => decide (58 ≤ x)) = true) : ∀ a b, a < 58 → τ.1 a b = σ.1 a b := fun a b ha => h a b (fun hm => by
  have h1 := of_decide_eq_true (List.all_eq_true.mp hk _ hm)
  unfold key at h1
  split at h1 <;> omega)
theorem tA {α : Type} {f8 f9 : St → Option (α × St)} (s : ∀ {σ σ' : St}, Rel σ σ' → ∃ r τ τ', f8 σ = some (r, τ) ∧ f9 σ' = some (r, τ') ∧ Rel τ τ') (k8 : ∀ (σ : St) (q : α × St), f8 σ = some q → ∃ ks, Fr ks σ q.2 ∧ ks.all (fun x => decide (x < 58)) = true) (k9 : ∀ (σ : St) (q : α × St), f9 σ = some q → ∃ ks, Fr ks σ q.2 ∧ ks.all (fun x => decide (58 ≤ x)) = true) {σ : St} (h : Rel σ σ) : ∃ r τ τ', f8 σ = some (r, τ) ∧ f9 τ = some (r, τ') ∧ Rel τ' τ' := by
  obtain ⟨r, τ, τ0, e1, -, -⟩ := s h
  obtain ⟨ks, f, c⟩ := k8 σ _ e1
  obtain ⟨r', τ', τ'', e3, e4, h3⟩ := s (h.cg (τ := σ) (τ' := τ) (fun _ _ _ => rfl) (fr_lo f c))
  rw [e1] at e3
  cases Option.some.inj e3
  obtain ⟨ks2, f2, c2⟩ := k9 τ _ e4
  exact ⟨r, τ, τ'', e1, e4, h3.cg (fr_hi f2 c2) (fun _ _ _ => rfl)⟩
theorem tB {α : Type} {f8 : St → Option α} {f9 : St → Option (α × St)} (s : ∀ {σ σ' : St}, Rel σ σ' → ∃ r τ', f8 σ = some r ∧ f9 σ' = some (r, τ') ∧ Rel σ τ') (k9 : ∀ (σ : St) (q : α × St), f9 σ = some q → ∃ ks, Fr ks σ q.2 ∧ ks.all (fun x => decide (58 ≤ x)) = true) {σ : St} (h : Rel σ σ) : ∃ r τ', f8 σ = some r ∧ f9 σ = some (r, τ') ∧ Rel τ' τ' := by
  obtain ⟨r, τ', e1, e2, h3⟩ := s h
  obtain ⟨ks2, f2, c2⟩ := k9 σ _ e2
  exact ⟨r, τ', e1, e2, h3.cg (fr_hi f2 c2) (fun _ _ _ => rfl)⟩
/-- what holds throughout the law -/
def LC (D : va_G) (C : CT) (p : Program) (s : State) (m : MethodId) (b L : Nat) (xs : Nat → Int32) (meth : Method) (c : Code) : Prop := lw_At p s m meth c b L xs ∧ aK D C s ∧ L ≤ 2048
def lvI (ad : Nat → Nat) (b : Nat) (i : Int32) : List (Nat × Value) := [(3, .int i), (2, .ref (ad 58)), (1, .ref (ad 0)), (0, .ref b)]
/-- from here the law comes to its end with true -/
def LW (l : Launch) (D : va_G) (C : CT) (ad : Nat → Nat) (p : Program) (ev : Env) (s : State) (m : MethodId) (b : Nat) (below : List Frame) (meth : Method) (c : Code) (pc : Nat) (lv : List (Nat × Value)) (st : List Value) (σ : St) : Prop :=
  ∀ (H : Heap) (locs : List Loc) (ls : Array Slot), Hp D C ad (fun q => s.heap.size ≤ q) s σ H locs → lv_has ls 4 lv → W p l ev room_1 s m #[Value.ref b] below meth c H locs 600000 7302250 (lw_Z below #[Value.ref b] s) (F0 m pc ls st)
section LR
variable {l : Launch} {D : va_G} {C : CT} {ad : Nat → Nat} {p : Program} {ev : Env} {s : State} {m : MethodId} {b L : Nat} {xs : Nat → Int32} {below : List Frame} {meth : Method} {c : Code} {pc : Nat} {lv : List (Nat × Value)} {st : List Value} {σ : St}
theorem l_aload {j : Fin 4} {i x : Nat} (X : LC D C p s m b L xs meth c) (hd : decode code pc = .ok (.aload_n j, 1)) (hi : (j : Nat) = i) (q : Nat) (hq : lv[q]? = some (i, .ref x)) (k : LW l D C ad p ev s m b below meth c (pc + 1) lv (.ref x :: st) σ) : LW l D C ad p ev s m b below meth c pc lv st σ := by
  intro H locs ls Y hl
  exact lv_aload_n X.1.1 X.1.2.1 hd hi (lv_at hl q hq) (k H locs ls Y hl)
theorem l_iload {j : Fin 4} {i : Nat} {x : Int32} (X : LC D C p s m b L xs meth c) (hd : decode code pc = .ok (.iload_n j, 1)) (hi : (j : Nat) = i) (q : Nat) (hq : lv[q]? = some (i, .int x)) (k : LW l D C ad p ev s m b below meth c (pc + 1) lv (.int x :: st) σ) : LW l D C ad p ev s m b below meth c pc lv st σ := by
  intro H locs ls Y hl
  exact lv_iload_n X.1.1 X.1.2.1 hd hi (lv_at hl q hq) (k H locs ls Y hl)
theorem l_iconst {n : Int} (v : Int32) (X : LC D C p s m b L xs meth c) (hd : decode code pc = .ok (.iconst n, 1)) (hv : Int32.ofInt n = v) (k : LW l D C ad p ev s m b below meth c (pc + 1) lv (.int v :: st) σ) : LW l D C ad p ev s m b below meth c pc lv st σ := by
  intro H locs ls Y hl
  exact lv_iconst X.1.1 X.1.2.1 hd hv (k H locs ls Y hl)
theorem l_bipush {n : Int} (v : Int32) (X : LC D C p s m b L xs meth c) (hd : decode code pc = .ok (.bipush n, 2)) (hv : (Int8.ofInt n).toInt32 = v) (k : LW l D C ad p ev s m b below meth c (pc + 2) lv (.int v :: st) σ) : LW l D C ad p ev s m b below meth c pc lv st σ := by
  intro H locs ls Y hl
  exact lv_bipush X.1.1 X.1.2.1 hd hv (k H locs ls Y hl)
theorem l_iadd {x y : Int32} (X : LC D C p s m b L xs meth c) (hd : decode code pc = .ok (.iadd, 1)) (k : LW l D C ad p ev s m b below meth c (pc + 1) lv (.int (x + y) :: st) σ) : LW l D C ad p ev s m b below meth c pc lv (.int y :: .int x :: st) σ := by
  intro H locs ls Y hl
  exact lv_iadd X.1.1 X.1.2.1 hd (k H locs ls Y hl)
theorem l_isub {x y : Int32} (X : LC D C p s m b L xs meth c) (hd : decode code pc = .ok (.isub, 1)) (k : LW l D C ad p ev s m b below meth c (pc + 1) lv (.int (x - y) :: st) σ) : LW l D C ad p ev s m b below meth c pc lv (.int y :: .int x :: st) σ := by
  intro H locs ls Y hl
  exact lv_isub X.1.1 X.1.2.1 hd (k H locs ls Y hl)
theorem l_iand {x y : Int32} (X : LC D C p s m b L xs meth c) (hd : decode code pc = .ok (.iand, 1)) (k : LW l D C ad p ev s m b below meth c (pc + 1) lv (.int (x &&& y) :: st) σ) : LW l D C ad p ev s m b below meth c pc lv (.int y :: .int x :: st) σ := by
  intro H locs ls Y hl
  exact lv_iand X.1.1 X.1.2.1 hd (k H locs ls Y hl)
theorem l_i2l {x : Int32} (X : LC D C p s m b L xs meth c) (hd : decode code pc = .ok (.i2l, 1)) (k : LW l D C ad p ev s m b below meth c (pc + 1) lv (.long x.toInt64 :: st) σ) : LW l D C ad p ev s m b below meth c pc lv (.int x :: st) σ := by
  intro H locs ls Y hl
  exact lv_i2l X.1.1 X.1.2.1 hd rfl (k H locs ls Y hl)
theorem l_lshl {x : Int64} {y : Int32} (X : LC D C p s m b L xs meth c) (hd : decode code pc = .ok (.lshl, 1)) (k : LW l D C ad p ev s m b below meth c (pc + 1) lv (.long (x <<< (y.toInt64 &&& 63)) :: st) σ) : LW l D C ad p ev s m b below meth c pc lv (.int y :: .long x :: st) σ := by
  intro H locs ls Y hl
  exact lv_lshl X.1.1 X.1.2.1 hd rfl (k H locs ls Y hl)
theorem l_land {x y : Int64} (X : LC D C p s m b L xs meth c) (hd : decode code pc = .ok (.land, 1)) (k : LW l D C ad p ev s m b below meth c (pc + 1) lv (.long (x &&& y) :: st) σ) : LW l D C ad p ev s m b below meth c pc lv (.long y :: .long x :: st) σ := by
  intro H locs ls Y hl
  exact lv_land X.1.1 X.1.2.1 hd (k H locs ls Y hl)
theorem l_lor {x y : Int64} (X : LC D C p s m b L xs meth c) (hd : decode code pc = .ok (.lor, 1)) (k : LW l D C ad p ev s m b below meth c (pc + 1) lv (.long (x ||| y) :: st) σ) : LW l D C ad p ev s m b below meth c pc lv (.long y :: .long x :: st) σ := by
  intro H locs ls Y hl
  exact lv_lor X.1.1 X.1.2.1 hd (k H locs ls Y hl)
theorem l_ldc2 {ix : Nat} {v : Int64} (X : LC D C p s m b L xs meth c) (hw : Cond.constantLong R_law ix v ∈ lw_tbl) (hd : decode code pc = .ok (.ldc2_w ix, 3)) (k : LW l D C ad p ev s m b below meth c (pc + 3) lv (.long v :: st) σ) : LW l D C ad p ev s m b below meth c pc lv st σ := by
  intro H locs ls Y hl
  exact lv_ldc2 X.1.1 X.1.2.1 X.1.2.2.2.2.1 (X.1.2.2.2.2.2.1 _ hw) hd (k H locs ls Y hl)
theorem l_goto {off : Int} (tgt : Nat) (X : LC D C p s m b L xs meth c) (hd : decode code pc = .ok (.goto off, 3)) (ht : (pc : Int) + off = (tgt : Int)) (k : LW l D C ad p ev s m b below meth c tgt lv st σ) : LW l D C ad p ev s m b below meth c pc lv st σ := by
  intro H locs ls Y hl
  exact lv_goto X.1.1 X.1.2.1 hd ht (k H locs ls Y hl)
theorem l_ifeq {x : Int32} {off : Int} (tgt : Nat) (X : LC D C p s m b L xs meth c) (hd : decode code pc = .ok (.ifCond .eq off, 3)) (ht : (pc : Int) + off = (tgt : Int)) (kt : x = 0 → LW l D C ad p ev s m b below meth c tgt lv st σ) (kf : ¬ x = 0 → LW l D C ad p ev s m b below meth c (pc + 3) lv st σ) : LW l D C ad p ev s m b below meth c pc lv (.int x :: st) σ := by
  intro H locs ls Y hl
  exact lv_if_eq X.1.1 X.1.2.1 hd ht (fun z => kt z H locs ls Y hl) (fun z => kf z H locs ls Y hl)
theorem l_same {x : Int32} {off : Int} (tgt : Nat) (X : LC D C p s m b L xs meth c) (hd : decode code pc = .ok (.if_icmp .eq off, 3)) (ht : (pc : Int) + off = (tgt : Int)) (k : LW l D C ad p ev s m b below meth c tgt lv st σ) : LW l D C ad p ev s m b below meth c pc lv (.int x :: .int x :: st) σ := by
  intro H locs ls Y hl
  exact lv_icmp_eq X.1.1 X.1.2.1 hd ht (fun _ => k H locs ls Y hl) (fun z => absurd rfl z)
theorem l_sameL {x : Int64} {off : Int} (tgt : Nat) (X : LC D C p s m b L xs meth c) (hd : decode code pc = .ok (.lcmp, 1)) (hd2 : decode code (pc + 1) = .ok (.ifCond .eq off, 3)) (ht : ((pc + 1 : Nat) : Int) + off = (tgt : Int)) (k : LW l D C ad p ev s m b below meth c tgt lv st σ) : LW l D C ad p ev s m b below meth c pc lv (.long x :: .long x :: st) σ := by
  intro H locs ls Y hl
  refine W.lcmp X.1.1 X.1.2.1 hd ?_
  exact lv_if_eq X.1.1 X.1.2.1 hd2 ht (fun _ => k H locs ls Y hl) (fun z => absurd (lcmp_eq.mpr rfl) z)
theorem l_gt {x y : Int32} {off : Int} (tgt : Nat) (X : LC D C p s m b L xs meth c) (hd : decode code pc = .ok (.if_icmp .gt off, 3)) (ht : (pc : Int) + off = (tgt : Int)) (kt : y < x → LW l D C ad p ev s m b below meth c tgt lv st σ) (kf : ¬ y < x → LW l D C ad p ev s m b below meth c (pc + 3) lv st σ) : LW l D C ad p ev s m b below meth c pc lv (.int y :: .int x :: st) σ := by
  intro H locs ls Y hl
  exact lv_icmp_gt X.1.1 X.1.2.1 hd ht (fun z => kt z H locs ls Y hl) (fun z => kf z H locs ls Y hl)
theorem l_tab {x : Int32} {dflt lo hi off : Int} {offs : Array Int} {len : Nat} (tgt : Nat) (X : LC D C p s m b L xs meth c) (hd : decode code pc = .ok (.tableswitch dflt lo hi offs, len)) (h1 : ¬ x.toInt < lo) (h2 : ¬ hi < x.toInt) (ho : offs[(x.toInt - lo).toNat]? = some off) (ht : (pc : Int) + off = (tgt : Int)) (k : LW l D C ad p ev s m b below meth c tgt lv st σ) : LW l D C ad p ev s m b below meth c pc lv (.int x :: st) σ := by
  intro H locs ls Y hl
  exact lv_tableIn X.1.1 X.1.2.1 hd h1 h2 ho ht (k H locs ls Y hl)
theorem l_iinc {i : Nat} {n : Int} {x : Int32} {lv' : List (Nat × Value)} (v : Int32) (X : LC D C p s m b L xs meth c) (hd : decode code pc = .ok (.iinc i n, 3)) (q : Nat) (hq : lv[q]? = some (i, .int x)) (hv : x + Int32.ofInt n = v) (hn : i < 4) (hs : st1 i (.int v) lv = lv') (k : LW l D C ad p ev s m b below meth c (pc + 3) lv' st σ) : LW l D C ad p ev s m b below meth c pc lv st σ := by
  intro H locs ls Y hl
  exact lv_iinc X.1.1 X.1.2.1 hd hl hq hv hn hs (fun ls' hl' => k H locs ls' Y hl')
theorem l_out (X : LC D C p s m b L xs meth c) : ¬ (fun q => s.heap.size ≤ q) b := Nat.not_le.mpr X.1.2.2.2.2.2.2.2.1
theorem l_len (X : LC D C p s m b L xs meth c) (hd : decode code pc = .ok (.arraylength, 1)) (k : LW l D C ad p ev s m b below meth c (pc + 1) lv (.int (nI L) :: st) σ) : LW l D C ad p ev s m b below meth c pc lv (.ref b :: st) σ := by
  intro H locs ls Y hl
  exact va_slen X.1.1 X.1.2.1 X.1.2.2.2.2.2.2.1 X.1.2.2.2.2.2.2.2.1 (l_out X) Y.2.2 hd (k H locs ls Y hl)
theorem l_get {k : Nat} (X : LC D C p s m b L xs meth c) (hk : k < L) (hd : decode code pc = .ok (.iaload, 1)) (kk : LW l D C ad p ev s m b below meth c (pc + 1) lv (.int (xs k) :: st) σ) : LW l D C ad p ev s m b below meth c pc lv (.int (nI k) :: .ref b :: st) σ := by
  intro H locs ls Y hl
  have hL := X.2.2
  refine va_sld X.1.1 X.1.2.1 X.1.2.2.2.2.2.2.1 X.1.2.2.2.2.2.2.2.1 (l_out X) Y.2.2 (nI_in hk (by omega)) hd ?_
  rw [nI_clamp (by omega)]
  exact kk H locs ls Y hl
/-- the law's own end -/
theorem l_end (X : LC D C p s m b L xs meth c) (hd : decode code pc = .ok (.ireturn, 1)) : LW l D C ad p ev s m b below meth c pc lv [.int 1] σ := by
  intro H locs ls Y hl
  exact va_forget (fun q hq => Y.2.2.2.2 q hq) (lw_ret X.1.1 X.1.2.1 X.1.2.2.1 X.1.2.2.2.2.2.2.2.2.1 hd)
/-- a number of the script -/
theorem l_arg {i0 k pc0 : Nat} {n : Int} (X : LC D C p s m b L xs meth c) (hk : i0 + k < L) (hn : Int32.ofInt n = nI k) (d0 : decode code pc = .ok (.aload_n 0, 1)) (d1 : decode code (pc + 1) = .ok (.iload_n 3, 1)) (d2 : decode code (pc + 2) = .ok (.iconst n, 1)) (d3 : decode code (pc + 3) = .ok (.iadd, 1)) (d4 : decode code (pc + 4) = .ok (.iaload, 1)) (hp : pc + 5 = pc0) (kk : LW l D C ad p ev s m b below meth c pc0 (lvI ad b (nI i0)) (.int (xs (i0 + k)) :: st) σ) : LW l D C ad p ev s m b below meth c pc (lvI ad b (nI i0)) st σ := by
  subst hp
  refine l_aload X d0 rfl 3 rfl ?_
  refine l_iload X d1 rfl 0 rfl ?_
  refine l_iconst (nI k) X d2 hn ?_
  refine l_iadd X d3 ?_
  rw [nI_add]
  exact l_get X hk d4 kk
/-- a call of one of both objects -/
theorem l_call {e ix n i ci ni pc0 : Nat} {as rest : List Value} {M' : MI} {v : Value} {σ1 : St} (X : LC D C p s m b L xs meth c) (hs : Sp e M' (.ref i :: as) σ (some v) σ1) (ho : OB i ci ni) (hL : VL R_law ix ci M' n) (hn : as.length = n) (he : e ≤ 8) (hv : rv ad v = v) (hw : (rest.map fun v => v.category).sum ≤ 8) (hd : decode code pc = .ok (.invokevirtual ix, 3)) (has : as.map (rv ad) = as) (hst : st = as.reverse ++ .ref (ad i) :: rest) (hp : pc + 3 = pc0) (kk : LW l D C ad p ev s m b below meth c pc0 lv (v :: rest) σ1) : LW l D C ad p ev s m b below meth c pc lv st σ := by
  subst hp
  intro H locs ls Y hl
  obtain ⟨⟨hx, hbb, hr, hml, hown, hts0, hX, hbl, hlk, hgv⟩, hK, hL2⟩ := id X
  have hts : ∀ w ∈ aT, w.before #[Value.ref b] s = true := fun w hw2 => hts0 w (List.mem_filter.mp hw2).1
  obtain ⟨⟨T, N', hcl⟩, hlink, w2, w5, w3, w4, hdsc, h15⟩ := hL
  obtain ⟨hi, hk, rfl, rfl⟩ := ho
  have hst2 : (F0 m pc ls st).stack = as.reverse ++ .ref (ad i) :: rest := hst
  have hW : 2 * (F0 m pc ls st).monitorRoom + (rest.map fun v => v.category).sum ≤ 8 := lv_room hw
  have hroom : e + 1 ≤ room_1.frames ∧ 8 + (M'.2.2.1 + 11) + 34 * e ≤ room_1.locals := ⟨by show e + 1 ≤ 9; omega, by show _ ≤ 320; omega⟩
  have hpre : PreV s H M'.1.cls (ad i) (va_Pc ((.ref i :: as).map (rv ad)) (fun U => U.heap.size = H.size ∧ va_P D vwCl (wsE ad C σ) U.heap ∧ aK D C U ∧ va_D (fun _ => True) (wsE ad C σ))) as := by
    refine ⟨a_blind, va_recv hK.1 Y.1 hcl (wsE_at ad C σ hi |>.trans (by rw [cellE_1 ad C σ hk])), fun U hU hWm => ?_⟩
    have h1 := (a_preS (as := .ref i :: as) Y hK).2 U hU hWm
    rw [List.map_cons, has] at h1
    rw [List.map_cons, has]
    exact h1
  have hroomc : (600000 : Nat) + 0 ≤ room_1.cells ∧ 7302250 + 0 ≤ room_1.slots := ⟨Nat.le_of_ble_eq_true rfl, Nat.le_of_ble_eq_true rfl⟩
  have hrun : va_Run p l ev room_1 s m #[Value.ref b] below meth c H locs 600000 7302250 0 0 (F0 m pc ls st) rest (aQ D C ad (va_A (wsE ad C σ) H.size) (some v) σ1 (.ref (ad i) :: as).toArray) (va_A (wsE ad C σ) H.size) := by
    rcases hlink with w1 | ⟨host, w1⟩
    · exact va_runV ⟨hx, hbb, hml, hown, hts⟩ (hs l D C ad H.size) ⟨callB_of (ws' := aT) n hts (mWs_good w4) rfl rfl rfl (hts _ w3) (hts _ w1) hdsc hroom, hts _ w2, hts _ w5⟩ hpre rfl hn hl.1 hst2 hW hd hroomc
    · exact va_runVN ⟨hx, hbb, hml, hown, hts⟩ (hs l D C ad H.size) ⟨va_cnB (ws' := aT) n hts (mWs_good w4) rfl rfl rfl (hK.2 _ w1) (hts _ w3) hdsc hroom, hts _ w2, hts _ w5⟩ hpre rfl hn hl.1 hst2 hW hd hroomc
  intro T' hT' XS
  obtain ⟨v', st₀, t, T'', L', h0, X', hLq, e1, e2, ⟨⟨hv', hB⟩, hz, hk2⟩, stp⟩ := hrun T' hT' XS
  rw [h0] at hz hk2
  have hA : ∀ q, s.heap.size ≤ q → (fun q => s.heap.size ≤ q) q := fun _ h => h
  have hfree : ∀ z, va_A (wsE ad C σ) H.size z → s.heap.size ≤ z := by
    intro z hz2
    rcases hz2 with ⟨k, w, hw2⟩ | hw2
    · exact Y.2.1.2 k _ hw2
    · exact Nat.le_trans Y.2.2.1 hw2
  have hve : v' = some v := by
    have h1 : v' = (some v).map (rv ad) := by injection hv'
    rw [h1, Option.map_some, hv]
  subst hve
  have hS : va_S (fun q => s.heap.size ≤ q) s.heap T''.heap (locs ++ L') := by
    refine ⟨Nat.le_trans Y.2.2.1 (by rw [e1]; exact hz), fun z a1 a2 => ?_, fun z hz2 => ?_⟩
    · rw [e1, hk2 z (Nat.lt_of_lt_of_le a1 Y.2.2.1) (fun w => a2 (hfree z w))]
      exact Y.2.2.2.1 z a1 a2
    · rcases List.mem_append.mp hz2 with h | h
      · exact Y.2.2.2.2 z h
      · exact hfree _ (hLq z h)
  have hP : va_P D vwCl (wsE ad C σ1) T''.heap := by rw [e1]; exact hB.1
  have hD : va_D (fun q => s.heap.size ≤ q) (wsE ad C σ1) := hB.2.2.weaken (fun k w _ h => hfree _ h)
  obtain ⟨t2, a1, b1⟩ := kk T''.heap (locs ++ L') ls ⟨hP, hD, hS⟩ hl T'' rfl X'
  exact ⟨t2, stp t2 a1, b1⟩
end LR
