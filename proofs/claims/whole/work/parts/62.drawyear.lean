/-- the seed is the same in both -/
def SD (σ σ' : St) : Prop := ∃ s, s < 2 ^ 31 ∧ σ.2 49 0 = vN s ∧ σ'.1 58 22 = nI s
theorem yearDL {w : Nat} (hw : isW w) : ∀ (d i n m gb : Nat) (a : Int32) (σ σ' : St) (P G : Nat), i + d = G → WR w σ σ' P G → LR σ σ' → SD σ σ' → gb < 2 ^ P → Gave σ' gb → d < n → d < m →
    ∃ r τ τ', fX7_passYear_L61 w n a (nI gb) (nI i) σ = some (r, τ) ∧ fX9_year_L60 (1 : Int32) m a (nI i) σ' = some (r, τ') ∧ WR w τ τ' P G ∧ LR τ τ' ∧ SD τ τ' := by
  intro d
  induction d with
  | zero =>
    intro i n m gb a σ σ' P G hi hW hL hS hgb hga hn hm
    obtain ⟨⟨hP, hG⟩, ⟨p0, p1⟩, ⟨g0, g1⟩, -⟩ := id hW
    obtain ⟨n, rfl, -⟩ := su hn
    obtain ⟨m, rfl, -⟩ := su hm
    have e : i = G := by omega
    subst e
    rw [fX7_passYear_L61, fX9_year_L60, g0, g1, if_pos (nI_le (a := i) (b := i) (by omega) (by omega)), if_pos (nI_le (a := i) (b := i) (by omega) (by omega))]
    exact ⟨a, σ, σ', rfl, rfl, hW, hL, hS⟩
  | succ d ih =>
    intro i n m gb a σ σ' P G hi hW hL hS hgb hga hn hm
    obtain ⟨⟨hP, hG⟩, ⟨p0, p1⟩, ⟨g0, g1⟩, hy, hwh, hwk, hwf, hwl, hwd, hwg, v1, v2, v3, v4, v5, v6⟩ := id hW
    obtain ⟨n, rfl, hn⟩ := su hn
    obtain ⟨m, rfl, hm⟩ := su hm
    obtain ⟨-, -, ⟨k, hk, ek⟩, -, -⟩ := v4 i (by omega)
    have xk : σ.1 (w + 7 + i) 2 = nI k := (hwg i (by omega) 2 (by decide)).trans ek
    have skip : ∃ r τ τ', fX7_passYear_L61 w n a (nI gb) (nI (i + 1)) σ = some (r, τ) ∧ fX9_year_L60 (1 : Int32) m a (nI (i + 1)) σ' = some (r, τ') ∧ WR w τ τ' P G ∧ LR τ τ' ∧ SD τ τ' := ih (i + 1) n m gb a σ σ' P G (by omega) hW hL hS hgb hga (by omega) (by omega)
    rw [fX7_passYear_L61, fX9_year_L60, g0, g1, if_neg (nI_ge (a := i) (b := G) (by omega) (by omega)), if_neg (nI_ge (a := i) (b := G) (by omega) (by omega))]
    haveI : Decidable (due σ' i) := Classical.propDecidable _
    have hdue := fun C => m_due (σ' := σ') (show i < 8 by omega) C
    simp (disch := omega) only [bnd, grd_t (inbN (show i < 8 by omega) (by decide)), grd_t (inbN (show k < 8 by omega) (by decide)), tcl, ix80, nk2, nk5, grd_t (inbN (show 8 * i + 2 < 64 by omega) (by decide)), grd_t (inbN (show 8 * i + 5 < 64 by omega) (by decide)), grd_t (inbN (show 8 * i < 64 by omega) (by decide)), xk, ek, nI_1] at hdue ⊢
    rw [x_due hL hW (show i < 8 by omega), hdue]
    by_cases hd : due σ' i
    · rw [if_pos hd, if_neg (by decide)]
      simp only [n10, if_false]
      obtain ⟨b, hb, e1, e2⟩ := whoW hL hW (show i < G by omega) hk ek
      rw [e1, e2]
      simp only [Option.bind_some]
      have hgb8 := p2_256 hP hgb
      by_cases hb0 : b = 0
      · subst hb0
        simp only [show (nI 0 : Int32) = 0 from rfl, if_true]
        have e4 : ∀ z : Option (Int32 × St), (if σ.1 3 2 = 0 then z else if nI gb &&& fX8_bit (nI k) = 0 then z else z) = z := fun z => by
          split
          · rfl
          · split <;> rfl
        rw [e4]
        exact skip
      · have hbn : ¬ nI b = (0 : Int32) := fun z => hb0 ((nI_eq (a := b) (b := 0) (by have := p2_256 hP hb; omega) (by decide)).mp z)
        obtain ⟨s, hs, s0, s1⟩ := hS
        obtain ⟨c, -, hbc, f1, f2⟩ := draw2 (p2_256 hP hb) hb0 hs s0 s1
        have hc : c < P := bit_lt hb hbc
        have hL1 : LR (setL σ 49 0 (vN (vxS s))) (setI σ' 58 22 (nI (vxS s))) := hL.cong rfl (fun k _ _ => by rw [setI_oo (by omega)])
        have hW1 : WR w (setL σ 49 0 (vN (vxS s))) (setI σ' 58 22 (nI (vxS s))) P G := hW.cong (fun a _ _ => rfl) (by rw [setI_oo (by omega)]) (by rw [setI_oo (by omega)]) (by rw [setI_oo (by omega)]) (by rw [setI_oo (by omega)]) (fun a _ _ => by rw [setI_o (by omega)])
        simp only [hbn, if_false]
        rw [f1, f2]
        simp only [Option.bind_some, nI_m1ne' (show c < 100 by omega), n10, if_false, if_true]
        obtain ⟨r, τ, τ', q1, q2, q3, q4, -⟩ := hand2 hW1 (show i < G by omega) hc (mo := σ.1 3 3) hL1.2.2.2.1 (by rw [setI_oo (by omega)]; exact hd.1)
        have frx := frX7_handOn w _ _ _ _ hw (obGn hw (by omega)) τ q1
        have frm := frX9_goOn _ _ _ (r, τ') q2
        have hL2 : LR τ (setI τ' 66 k 1) := (hL1.fr frx frm (by unfold isW at hw; simp; omega) (by decide)).cong rfl (fun k _ _ => by rw [setI_oo (by omega)])
        have hW2 : WR w τ (setI τ' 66 k 1) P G := q3.cong (fun a _ _ => rfl) (by rw [setI_oo (by omega)]) (by rw [setI_oo (by omega)]) (by rw [setI_oo (by omega)]) (by rw [setI_oo (by omega)]) (fun a _ _ => by rw [setI_o (by omega)])
        have hS2 : SD τ (setI τ' 66 k 1) := ⟨vxS s, vx_lt s, by rw [handOn_2 q1, setL_s], by rw [setI_oo (by omega), show τ'.1 58 22 = _ from frm 58 22 (by rw [key_58]; decide), setI_s]⟩
        have hga2 : Gave (setI τ' 66 k 1) (gb ||| 2 ^ k) := by
          intro j hj
          rw [Nat.testBit_or, Nat.testBit_two_pow]
          by_cases z : j = k
          · subst z; rw [setI_s]; simp
          · rw [setI_oo (by omega), show τ'.1 66 j = _ from frm 66 j (by rw [key_ne (by decide)]; decide), setI_oo (by omega), hga j hj]
            have : decide (k = j) = false := by simpa using fun q => z q.symm
            rw [this, Bool.or_false]
        have next := ih (i + 1) n m (gb ||| 2 ^ k) (a + 1) τ (setI τ' 66 k 1) P G (by omega) hW2 hL2 hS2 (or_lt hgb hk) hga2 (by omega) (by omega)
        rw [show (setL σ 49 0 (vN (vxS s))).1 3 3 = σ.1 3 3 from rfl, q1, q2]
        simp only [Option.bind_some]
        rw [bt_or gb hgb8 k (by omega)]
        by_cases o1 : σ.1 3 2 = 0
        · rw [if_pos o1, if_pos (hL.2.2.1 ▸ o1)]
          exact next
        · rw [if_neg o1, if_neg (fun z => o1 (hL.2.2.1.trans z)), hga k (by omega)]
          by_cases t : gb.testBit k = true
          · rw [if_neg (fun q => by rw [(bt_and gb hgb8 k (by omega)).mp q] at t; cases t), if_pos t, if_neg (show ¬ (1 : Int32) = 0 by decide)]
            exact skip
          · rw [if_pos ((bt_and gb hgb8 k (by omega)).mpr (by simpa using t)), if_neg t, if_pos rfl]
            exact next
    · rw [if_neg hd, if_pos rfl]
      simp only [if_true, Option.bind_some]
      exact skip
theorem yearD2 {w : Nat} (hw : isW w) {σ σ' : St} {P G : Nat} (hW : WR w σ σ' P G) (hL : LR σ σ') (hS : SD σ σ') : ∃ r τ τ', fX7_passYear w σ = some (r, τ) ∧ fX9_year (1 : Int32) σ' = some (r, τ') ∧ WR w τ τ' P G ∧ LR τ τ' ∧ SD τ τ' ∧ τ'.1 58 19 = σ'.1 58 19 + 1 := by
  have hw' : w = 4 ∨ w = 19 ∨ w = 34 := hw
  have hW1 : WR w (setI σ w 8 (σ.1 w 8 + 1)) σ' P G := by
    obtain ⟨a1, a2, a3, a4, a5, a6, a7, a8, a9, a10, a11⟩ := id hW
    unfold WR
    simp (disch := omega) only [setI_o, setI_s, setI_oo]
    exact ⟨a1, a2, a3, Or.inr trivial, a5, a6, a7, a8, a9, fun g hg k hk => by simp (disch := omega) only [setI_o]; exact a10 g hg k hk, a11⟩
  have hL1 : LR (setI σ w 8 (σ.1 w 8 + 1)) σ' := hL.cong (by rw [setI_o (by omega)]) (fun _ _ _ => rfl)
  obtain ⟨σ1, σ1', e1, e2, e3, e4, e5, e6⟩ := age2 hW1 1
  have hL2 : LR σ1 σ1' := hL1.cong (funext fun b => (e5 b).resolve_right (by omega)) (fun k _ _ => e6 k)
  have hS1 : SD σ1 σ1' := by
    obtain ⟨s, hs, s0, s1⟩ := hS
    exact ⟨s, hs, by rw [ages_2 w _ _ _ _ e1]; exact s0, (e6 22).trans s1⟩
  obtain ⟨r, τ, τ', f1, f2, f3, f4, f5⟩ := yearDL hw G 0 fu fu 0 0 σ1 σ1' P G (by omega) e3 hL2 hS1 (Nat.two_pow_pos P) (fun j hj => by rw [e4 j hj]; simp) (fu_gt (by have := hW.1.2; omega)) (fu_gt (by have := hW.1.2; omega))
  have frm2 := frX9_year_L60 1 (r, τ') fu 0 (nI 0) σ1' f2
  refine ⟨r, τ, setI τ' 58 19 (τ'.1 58 19 + 1), ?_, ?_, ?_, ?_, ?_, ?_⟩
  · unfold fX7_passYear
    simp only [bnd]
    rw [ages_s, e1]
    simp only [Option.bind_some]
    rw [show (0 : Int32) = nI 0 from rfl] at f1 ⊢
    rw [f1]; rfl
  · unfold fX9_year
    rw [e2]
    simp only [Option.bind_some]
    rw [show (0 : Int32) = nI 0 from rfl] at f2 ⊢
    rw [f2]; rfl
  · obtain ⟨a1, a2, a3, a4, a5, a6, a7, a8, a9, a10, a11⟩ := id f3
    unfold WR
    simp (disch := omega) only [setI_o, setI_s, setI_oo]
    exact ⟨a1, a2, a3, Or.inr trivial, a5, a6, a7, a8, a9, a10, a11⟩
  · exact f4.cong rfl (fun k _ _ => by rw [setI_oo (by omega)])
  · obtain ⟨s, hs, s0, s1⟩ := f5
    exact ⟨s, hs, s0, by rw [setI_oo (by omega)]; exact s1⟩
  · rw [setI_s, frm2 58 19 (by rw [key_58]; decide), e6 19]
theorem drawnL {P G Y : Nat} (hY : Y ≤ 30) (c3 c4 c5 : Int32) : ∀ (d i n m : Nat) (a : Int32) (σ σ' : St), i + d = Y → WR 34 σ σ' P G → LR σ σ' → SD σ σ' → d < n → d < m → ∃ r τ τ', fX8_drawn_L55 (nI Y) c3 n a (nI i) σ = some (r, τ) ∧ fX9_drawn_L87 (nI Y) c4 c5 m a (nI i) σ' = some (r, τ') ∧ WR 34 τ τ' P G ∧ LR τ τ' ∧ SD τ τ' ∧ τ'.1 58 19 + nI i = σ'.1 58 19 + nI Y := by
  intro d
  induction d with
  | zero =>
    intro i n m a σ σ' hi hW hL hS hn hm
    obtain ⟨n, rfl, -⟩ := su hn
    obtain ⟨m, rfl, -⟩ := su hm
    have e : i = Y := by omega
    subst e
    rw [fX8_drawn_L55, fX9_drawn_L87, if_pos (nI_le (a := i) (b := i) (by omega) (by omega)), if_pos (nI_le (a := i) (b := i) (by omega) (by omega))]
    exact ⟨a, σ, σ', rfl, rfl, hW, hL, hS, rfl⟩
  | succ d ih =>
    intro i n m a σ σ' hi hW hL hS hn hm
    obtain ⟨n, rfl, hn⟩ := su hn
    obtain ⟨m, rfl, hm⟩ := su hm
    rw [fX8_drawn_L55, fX9_drawn_L87, if_neg (nI_ge (a := i) (b := Y) (by omega) (by omega)), if_neg (nI_ge (a := i) (b := Y) (by omega) (by omega))]
    obtain ⟨r, τ, τ', e1, e2, e3, e4, e5, e6⟩ := yearD2 isW_34 hW hL hS
    rw [e1, e2]
    simp only [Option.bind_some, nI_1]
    obtain ⟨r2, τ2, τ2', f1, f2, f3, f4, f5, f6⟩ := ih (i + 1) n m (a + r) τ τ' (by omega) e3 e4 e5 (by omega) (by omega)
    refine ⟨r2, τ2, τ2', f1, f2, f3, f4, f5, ?_⟩
    rw [e6, ← nI_1] at f6
    have g : τ2'.1 58 19 + nI i + 1 = σ'.1 58 19 + nI Y + 1 := by
      rw [Int32.add_assoc, f6]
      ac_rfl
    exact (Int32.add_left_inj 1).mp g
