/-- the seed is the same in both -/
def SDl (σ σ' : St) : Prop := ∃ s, s < 2 ^ 31 ∧ σ.2 49 0 = vN s ∧ σ'.2 64 0 = vN s
theorem yearNL {w pc oc gc : Nat} (hw : isW w) (hdc : Dc pc oc gc) : ∀ (d i n m gb : Nat) (a : Int32) (B : Nat) (σ σ' : St) (P G : Nat), i + d = G → WL w pc oc gc B σ σ' P G → LL σ σ' → B + 2 * d ≤ 2 ^ 29 → σ'.2 64 0 = -1 → gb < 2 ^ P → d < n → d < m →
    ∃ r τ τ', fX7_passYear_n_L61 w n a (nI gb) (nI i) σ = some (r, τ) ∧ fL_year_L57 pc 27 58 4 gc 64 61 64 oc 64 64 1 m a (nI gb) (nI i) σ' = some (r, τ') ∧ WL w pc oc gc (B + 2 * d) τ τ' P G ∧ LL τ τ' ∧ Fl pc oc gc σ' τ' ∧ τ'.2 = σ'.2 := by
  intro d
  induction d with
  | zero =>
    intro i n m gb a B σ σ' P G hi hW hL hB hS hgb hn hm
    obtain ⟨⟨hP, hG⟩, ⟨p0, p1⟩, ⟨g0, g1⟩, -⟩ := id hW
    obtain ⟨n, rfl, -⟩ := su hn
    obtain ⟨m, rfl, -⟩ := su hm
    have e : i = G := by omega
    subst e
    rw [fX7_passYear_n_L61, endL hG g1, g0, if_pos (nI_le (a := i) (b := i) (by omega) (by omega))]
    exact ⟨a, σ, σ', rfl, rfl, hW, hL, Fl.rf, rfl⟩
  | succ d ih =>
    intro i n m gb a B σ σ' P G hi hW hL hB hS hgb hn hm
    obtain ⟨⟨hP, hG⟩, ⟨p0, p1⟩, ⟨g0, g1⟩, hwh, hwk, hwf, hwl, hwd, hwg, v1, v2, v4⟩ := id hW
    obtain ⟨n, rfl, hn⟩ := su hn
    obtain ⟨m, rfl, hm⟩ := su hm
    obtain ⟨-, -, ⟨k, hk, ek⟩, g4, -, ⟨f, hf, ef⟩⟩ := v4 i (by omega)
    obtain ⟨x0, x1, x2, x3, x4, x5, x6, x7⟩ := hW.x (show i < 8 by omega)
    have xk : σ.1 (w + 7 + i) 2 = nI k := x2.trans ek
    have skip : ∃ r τ τ', fX7_passYear_n_L61 w n a (nI gb) (nI (i + 1)) σ = some (r, τ) ∧ fL_year_L57 pc 27 58 4 gc 64 61 64 oc 64 64 1 m a (nI gb) (nI (i + 1)) σ' = some (r, τ') ∧ WL w pc oc gc (B + 2 * (d + 1)) τ τ' P G ∧ LL τ τ' ∧ Fl pc oc gc σ' τ' ∧ τ'.2 = σ'.2 := by
      obtain ⟨r, τ, τ', q1, q2, q3, q4⟩ := ih (i + 1) n m gb a B σ σ' P G (by omega) hW hL (by omega) hS hgb (by omega) (by omega)
      exact ⟨r, τ, τ', q1, q2, q3.mono (by omega), q4⟩
    rw [fX7_passYear_n_L61, stepL hG g1 (show i < G by omega), g0, if_neg (nI_ge (a := i) (b := G) (by omega) (by omega))]
    haveI : Decidable (due gc σ' i) := Classical.propDecidable _
    simp (disch := omega) only [bnd, grd_t (inbN (show i < 8 by omega) (by decide)), tcl, xk, x3, nI_1]
    rw [x_due hL hW (show i < 8 by omega)]
    by_cases hd : due gc σ' i
    · rw [if_pos hd, if_neg (by decide), if_neg (show ¬ 0 < σ'.1 gc (8 * i + 7) by rw [hd.1]; decide), if_neg hd.2, ek]
      obtain ⟨b, hb, e1, e2⟩ := mayL hW hL (show k < 8 by omega) g4
      unfold rsL
      rw [e1, ek, e2]
      simp only [obs]
      have hgb8 := p2_256 hP hgb
      by_cases hb0 : b = 0
      · subst hb0
        simp only [show (nI 0 : Int32) = 0 from rfl, if_true]
        have e4 : ∀ z : Option (Int32 × St), (if σ.1 3 2 = 0 then z else if nI gb &&& fX8_bit (nI k) = 0 then z else z) = z := fun z => by
          split
          · rfl
          · split <;> rfl
        have e5 : ∀ z : Option (Int32 × St), (if σ'.1 58 2 = (1 : Int32) then (if ((nI gb >>> (nI k &&& 31)) &&& (1 : Int32)) = (1 : Int32) then z else z) else z) = z := fun z => by
          split
          · split <;> rfl
          · rfl
        rw [e4, e5]
        exact skip
      · have hbn : ¬ nI b = (0 : Int32) := fun z => hb0 ((nI_eq (a := b) (b := 0) (by have := p2_256 hP hb; omega) (by decide)).mp z)
        obtain ⟨c, hc, hbc, f1, f2⟩ := chooseH hW hk hb hb0
        simp only [hbn, if_false]
        rw [f1, ch_habit hS, f2]
        simp only [obs, nI_m1ne' (show c < 100 by omega), if_false]
        obtain ⟨r, τ, τ', q1, q2, q3, -, q5, q6⟩ := handL hdc hW (show i < G by omega) hc (mo := σ.1 3 3) hL.1.2.2.2 hd.1 (by omega)
        have frx := frX7_handOn w _ _ _ _ hw (obGn hw (by omega)) τ q1
        have hL2 : LL τ τ' := hL.cong (fun b => frx 3 b (by rw [key_ne (by decide)]; unfold isW at hw; simp; omega)) (fun b => q6 58 b hdc.1.2.2.2.2.1.symm hdc.1.2.2.2.2.2.symm (fun q => hdc.1.2.2.2.1 q.1.symm))
        have hS2 : τ'.2 64 0 = -1 := by rw [q5]; exact hS
        obtain ⟨r2, τ2, τ2', s1, s2, s3, s4, s5, s6⟩ := ih (i + 1) n m (gb ||| 2 ^ k) (a + 1) (B + 2) τ τ' P G (by omega) q3 hL2 (by omega) hS2 (or_lt hgb hk) (by omega) (by omega)
        have next : ∃ r τ0 τ0', fX7_passYear_n_L61 w n (a + 1) (nI (gb ||| 2 ^ k)) (nI (i + 1)) τ = some (r, τ0) ∧ fL_year_L57 pc 27 58 4 gc 64 61 64 oc 64 64 1 m (a + 1) (nI (gb ||| 2 ^ k)) (nI (i + 1)) τ' = some (r, τ0') ∧ WL w pc oc gc (B + 2 * (d + 1)) τ0 τ0' P G ∧ LL τ0 τ0' ∧ Fl pc oc gc σ' τ0' ∧ τ0'.2 = σ'.2 := ⟨r2, τ2, τ2', s1, s2, s3.mono (by omega), s4, Fl.tr q6 s5, s6.trans q5⟩
        rw [q1, q2]
        simp only [obs]
        rw [← bitN k (by omega), bt_or gb hgb8 k (by omega)]
        by_cases o1 : σ.1 3 2 = 0
        · rw [if_pos o1, if_neg (show ¬ σ'.1 58 2 = (1 : Int32) from fun z => by rw [← hL.1.2.2.1, o1] at z; exact absurd z (by decide))]
          exact next
        · rw [if_neg o1, if_pos (show σ'.1 58 2 = (1 : Int32) from hL.1.2.2.1.symm.trans (hL.2.2.resolve_left o1))]
          by_cases t : gb.testBit k = true
          · rw [if_neg (fun q => by rw [(bt_and gb hgb8 k (by omega)).mp q] at t; cases t), if_pos ((mbit gb hgb8 k (by omega)).mpr t)]
            exact skip
          · rw [if_pos ((bt_and gb hgb8 k (by omega)).mpr (by simpa using t)), if_neg (fun q => t ((mbit gb hgb8 k (by omega)).mp q))]
            exact next
    · rw [if_neg hd, if_pos rfl]
      by_cases z : σ'.1 gc (8 * i + 7) = 0
      · rw [if_neg (show ¬ 0 < σ'.1 gc (8 * i + 7) by rw [z]; decide), if_pos (Decidable.of_not_not (fun y => hd ⟨z, y⟩))]
        exact skip
      · rw [if_pos (show 0 < σ'.1 gc (8 * i + 7) by
          rw [ef] at z ⊢
          have : f ≠ 0 := fun y => z (by rw [y]; rfl)
          rcases (show f = 1 ∨ f = 2 by omega) with rfl | rfl <;> decide)]
        exact skip
/-- the longs but the seed are left alone -/
def D2 (σ τ : St) : Prop := ∀ b, τ.2 64 b = σ.2 64 b
theorem yearDL {w pc oc gc : Nat} (hw : isW w) (hdc : Dc pc oc gc) : ∀ (d i n m gb : Nat) (a : Int32) (B : Nat) (σ σ' : St) (P G : Nat), i + d = G → WL w pc oc gc B σ σ' P G → LL σ σ' → B + 2 * d ≤ 2 ^ 29 → SDl σ σ' → gb < 2 ^ P → d < n → d < m →
    ∃ r τ τ', fX7_passYear_L61 w n a (nI gb) (nI i) σ = some (r, τ) ∧ fL_year_L57 pc 27 58 4 gc 64 61 64 oc 64 64 1 m a (nI gb) (nI i) σ' = some (r, τ') ∧ WL w pc oc gc (B + 2 * d) τ τ' P G ∧ LL τ τ' ∧ Fl pc oc gc σ' τ' ∧ SDl τ τ' ∧ D2 σ τ := by
  intro d
  induction d with
  | zero =>
    intro i n m gb a B σ σ' P G hi hW hL hB hS hgb hn hm
    obtain ⟨⟨hP, hG⟩, ⟨p0, p1⟩, ⟨g0, g1⟩, -⟩ := id hW
    obtain ⟨n, rfl, -⟩ := su hn
    obtain ⟨m, rfl, -⟩ := su hm
    have e : i = G := by omega
    subst e
    rw [fX7_passYear_L61, endL hG g1, g0, if_pos (nI_le (a := i) (b := i) (by omega) (by omega))]
    exact ⟨a, σ, σ', rfl, rfl, hW, hL, Fl.rf, hS, fun _ => rfl⟩
  | succ d ih =>
    intro i n m gb a B σ σ' P G hi hW hL hB hS hgb hn hm
    obtain ⟨⟨hP, hG⟩, ⟨p0, p1⟩, ⟨g0, g1⟩, hwh, hwk, hwf, hwl, hwd, hwg, v1, v2, v4⟩ := id hW
    obtain ⟨n, rfl, hn⟩ := su hn
    obtain ⟨m, rfl, hm⟩ := su hm
    obtain ⟨-, -, ⟨k, hk, ek⟩, g4, -, ⟨f, hf, ef⟩⟩ := v4 i (by omega)
    obtain ⟨x0, x1, x2, x3, x4, x5, x6, x7⟩ := hW.x (show i < 8 by omega)
    have xk : σ.1 (w + 7 + i) 2 = nI k := x2.trans ek
    have skip : ∃ r τ τ', fX7_passYear_L61 w n a (nI gb) (nI (i + 1)) σ = some (r, τ) ∧ fL_year_L57 pc 27 58 4 gc 64 61 64 oc 64 64 1 m a (nI gb) (nI (i + 1)) σ' = some (r, τ') ∧ WL w pc oc gc (B + 2 * (d + 1)) τ τ' P G ∧ LL τ τ' ∧ Fl pc oc gc σ' τ' ∧ SDl τ τ' ∧ D2 σ τ := by
      obtain ⟨r, τ, τ', q1, q2, q3, q4⟩ := ih (i + 1) n m gb a B σ σ' P G (by omega) hW hL (by omega) hS hgb (by omega) (by omega)
      exact ⟨r, τ, τ', q1, q2, q3.mono (by omega), q4⟩
    rw [fX7_passYear_L61, stepL hG g1 (show i < G by omega), g0, if_neg (nI_ge (a := i) (b := G) (by omega) (by omega))]
    haveI : Decidable (due gc σ' i) := Classical.propDecidable _
    simp (disch := omega) only [bnd, grd_t (inbN (show i < 8 by omega) (by decide)), tcl, xk, x3, nI_1]
    rw [x_due hL hW (show i < 8 by omega)]
    by_cases hd : due gc σ' i
    · rw [if_pos hd, if_neg (by decide), if_neg (show ¬ 0 < σ'.1 gc (8 * i + 7) by rw [hd.1]; decide), if_neg hd.2, ek]
      obtain ⟨b, hb, e1, e2⟩ := mayL hW hL (show k < 8 by omega) g4
      unfold rsL
      rw [e1, ek, e2]
      simp only [obs]
      have hgb8 := p2_256 hP hgb
      by_cases hb0 : b = 0
      · subst hb0
        simp only [show (nI 0 : Int32) = 0 from rfl, if_true]
        have e4 : ∀ z : Option (Int32 × St), (if σ.1 3 2 = 0 then z else if nI gb &&& fX8_bit (nI k) = 0 then z else z) = z := fun z => by
          split
          · rfl
          · split <;> rfl
        have e5 : ∀ z : Option (Int32 × St), (if σ'.1 58 2 = (1 : Int32) then (if ((nI gb >>> (nI k &&& 31)) &&& (1 : Int32)) = (1 : Int32) then z else z) else z) = z := fun z => by
          split
          · split <;> rfl
          · rfl
        rw [e4, e5]
        exact skip
      · have hbn : ¬ nI b = (0 : Int32) := fun z => hb0 ((nI_eq (a := b) (b := 0) (by have := p2_256 hP hb; omega) (by decide)).mp z)
        obtain ⟨s, hs, t0, t1⟩ := hS
        obtain ⟨c, hc, hbc, f1, f2⟩ := draw2 (gc := gc) oc a (nI gb) (nI i) (nI k) hP hb hb0 hs p1 t0 t1
        have f3 : chL pc oc gc a (nI gb) (nI i) (nI k) (nI b) σ' = some (nI c, setL σ' 64 0 (vN (vxS s))) := f2
        simp only [hbn, if_false]
        rw [f1, f3]
        simp only [obs, nI_m1ne' (show c < 100 by omega), if_false]
        have hW1 : WL w pc oc gc B (setL σ 49 0 (vN (vxS s))) (setL σ' 64 0 (vN (vxS s))) P G := hW
        have hL1 : LL (setL σ 49 0 (vN (vxS s))) (setL σ' 64 0 (vN (vxS s))) := hL
        obtain ⟨r, τ, τ', q1, q2, q3, -, q5, q6⟩ := handL hdc hW1 (show i < G by omega) hc (mo := σ.1 3 3) hL.1.2.2.2 hd.1 (by omega)
        have frx := frX7_handOn w _ _ _ _ hw (obGn hw (by omega)) τ q1
        have hL2 : LL τ τ' := hL1.cong (fun b => frx 3 b (by rw [key_ne (by decide)]; unfold isW at hw; simp; omega)) (fun b => q6 58 b hdc.1.2.2.2.2.1.symm hdc.1.2.2.2.2.2.symm (fun q => hdc.1.2.2.2.1 q.1.symm))
        have hS2 : SDl τ τ' := ⟨vxS s, vx_lt s, by rw [handOn_2 q1, setL_s], by rw [q5, setL_s]⟩
        obtain ⟨r2, τ2, τ2', s1, s2, s3, s4, s5, s6⟩ := ih (i + 1) n m (gb ||| 2 ^ k) (a + 1) (B + 2) τ τ' P G (by omega) q3 hL2 (by omega) hS2 (or_lt hgb hk) (by omega) (by omega)
        have next : ∃ r τ0 τ0', fX7_passYear_L61 w n (a + 1) (nI (gb ||| 2 ^ k)) (nI (i + 1)) τ = some (r, τ0) ∧ fL_year_L57 pc 27 58 4 gc 64 61 64 oc 64 64 1 m (a + 1) (nI (gb ||| 2 ^ k)) (nI (i + 1)) τ' = some (r, τ0') ∧ WL w pc oc gc (B + 2 * (d + 1)) τ0 τ0' P G ∧ LL τ0 τ0' ∧ Fl pc oc gc σ' τ0' ∧ SDl τ0 τ0' ∧ D2 σ τ0 := ⟨r2, τ2, τ2', s1, s2, s3.mono (by omega), s4, Fl.tr q6 s5, s6.1, fun b => (s6.2 b).trans (by rw [handOn_2 q1]; show (setL σ 49 0 (vN (vxS s))).2 64 b = σ.2 64 b; simp [setL])⟩
        rw [show (setL σ 49 0 (vN (vxS s))).1 3 3 = σ.1 3 3 from rfl, q1, q2]
        simp only [obs]
        rw [← bitN k (by omega), bt_or gb hgb8 k (by omega)]
        by_cases o1 : σ.1 3 2 = 0
        · rw [if_pos o1, if_neg (show ¬ σ'.1 58 2 = (1 : Int32) from fun z => by rw [← hL.1.2.2.1, o1] at z; exact absurd z (by decide))]
          exact next
        · rw [if_neg o1, if_pos (show σ'.1 58 2 = (1 : Int32) from hL.1.2.2.1.symm.trans (hL.2.2.resolve_left o1))]
          by_cases t : gb.testBit k = true
          · rw [if_neg (fun q => by rw [(bt_and gb hgb8 k (by omega)).mp q] at t; cases t), if_pos ((mbit gb hgb8 k (by omega)).mpr t)]
            exact skip
          · rw [if_pos ((bt_and gb hgb8 k (by omega)).mpr (by simpa using t)), if_neg (fun q => t ((mbit gb hgb8 k (by omega)).mp q))]
            exact next
    · rw [if_neg hd, if_pos rfl]
      by_cases z : σ'.1 gc (8 * i + 7) = 0
      · rw [if_neg (show ¬ 0 < σ'.1 gc (8 * i + 7) by rw [z]; decide), if_pos (Decidable.of_not_not (fun y => hd ⟨z, y⟩))]
        exact skip
      · rw [if_pos (show 0 < σ'.1 gc (8 * i + 7) by
          rw [ef] at z ⊢
          have : f ≠ 0 := fun y => z (by rw [y]; rfl)
          rcases (show f = 1 ∨ f = 2 by omega) with rfl | rfl <;> decide)]
        exact skip
