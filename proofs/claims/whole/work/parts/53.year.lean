/-- who may have gift g, in any WORLD -/
theorem whoW {w : Nat} {σ σ' : St} {P G : Nat} (h1 : LR σ σ') (h : WR w σ σ' P G) {g : Nat} (hg : g < G) {k : Nat} (hk : k < P) (ek : σ'.1 65 (8 * g + 2) = nI k) : ∃ b, b < 2 ^ P ∧ fX7_mayHave w (σ.1 (w + 7 + g) 3) (nI k) (σ.1 3 1) σ = some (nI b) ∧ fX9_mayOf (nI g) σ' = some (nI b) := by
  obtain ⟨⟨hP, hG⟩, -, -, -, -, -, -, -, -, hwg, v1, v2, v3, v4, v5⟩ := id h
  obtain ⟨-, -, -, g4, -⟩ := v4 g hg
  obtain ⟨b, hb, e1, e2⟩ := may2 h (show k < 8 by omega) h1.bk.1 h1.bk.2 (fr := σ'.1 65 (8 * g + 3)) g4
  refine ⟨b, hb, ?_, ?_⟩
  · rw [show σ.1 (w + 7 + g) 3 = σ'.1 65 (8 * g + 3) from hwg g (by omega) 3 (by decide), e1]
  · unfold fX9_mayOf
    simp (disch := omega) only [ix80, nk2, nk3, grd_t (inbN (show 8 * g + 2 < 64 by omega) (by decide)), grd_t (inbN (show 8 * g + 3 < 64 by omega) (by decide)), tcl, ek]
    rw [e2]
    rfl
/-- whether gift g must go -/
def due (σ' : St) (g : Nat) : Prop := σ'.1 65 (8 * g + 6) = 0 ∧ ¬ σ'.1 65 (8 * g + 5) < σ'.1 58 2 + (if σ'.1 65 (8 * g) = (3 : Int32) then (1 : Int32) else (0 : Int32))
theorem x_due {w : Nat} {σ σ' : St} {P G : Nat} (h1 : LR σ σ') (h : WR w σ σ' P G) {g : Nat} (hg : g < 8) [Decidable (due σ' g)] : fX3_mustGo (w + 7 + g) (σ.1 3 0) σ = if due σ' g then 1 else 0 := by
  have hwg := h.2.2.2.2.2.2.2.2.2.1 g hg
  unfold fX3_mustGo
  rw [xlives h hg, show σ.1 (w + 7 + g) 0 = σ'.1 65 (8 * g) from hwg 0 (by decide), show σ.1 (w + 7 + g) 5 = σ'.1 65 (8 * g + 5) from hwg 5 (by decide), h1.1]
  simp only [bnd]
  have ek : (if σ'.1 65 (8 * g) = (3 : Int32) then σ'.1 58 2 + (1 : Int32) else σ'.1 58 2) = σ'.1 58 2 + (if σ'.1 65 (8 * g) = (3 : Int32) then (1 : Int32) else (0 : Int32)) := by
    split
    · rfl
    · simp
  rw [ek]
  by_cases z : σ'.1 65 (8 * g + 6) = 0
  · rw [if_pos z, if_neg (by decide)]
    by_cases y : σ'.1 65 (8 * g + 5) < σ'.1 58 2 + (if σ'.1 65 (8 * g) = (3 : Int32) then (1 : Int32) else (0 : Int32))
    · rw [if_pos y, if_neg (fun t => t.2 y)]
    · rw [if_neg y, if_pos ⟨z, y⟩]
  · rw [if_neg z, if_pos rfl, if_neg (fun t => z t.1)]
theorem m_due {σ' : St} {g : Nat} (hg : g < 8) [Decidable (due σ' g)] (C : Int32 → Option (Int32 × St)) : (Option.bind (fX9_lives (nI g) σ') fun q17 => (Option.bind (if q17 = 0 then some (0 : Int32) else (grd (inb (((8 : Int32) * nI g) + (5 : Int32)) 64) (grd (inb ((8 : Int32) * nI g) 64) (bnd (if (σ'.1 65 ((8 : Int32) * nI g).toNatClampNeg) = (3 : Int32) then (1 : Int32) else (0 : Int32)) fun x52 => (if (σ'.1 65 (((8 : Int32) * nI g) + (5 : Int32)).toNatClampNeg) < ((σ'.1 58 2) + x52) then some (0 : Int32) else some (1 : Int32)))))) C)) = C (if due σ' g then 1 else 0) := by
  rw [mlives hg]
  simp (disch := omega) only [Option.bind_some, ix80, nk5, grd_t (inbN (show 8 * g + 5 < 64 by omega) (by decide)), grd_t (inbN (show 8 * g < 64 by omega) (by decide)), tcl, bnd]
  by_cases z : σ'.1 65 (8 * g + 6) = 0
  · rw [if_pos z, if_neg (by decide)]
    by_cases y : σ'.1 65 (8 * g + 5) < σ'.1 58 2 + (if σ'.1 65 (8 * g) = (3 : Int32) then (1 : Int32) else (0 : Int32))
    · rw [if_pos y, if_neg (fun t => t.2 y)]; rfl
    · rw [if_neg y, if_pos ⟨z, y⟩]; rfl
  · rw [if_neg z, if_pos rfl, if_neg (fun t => z t.1)]; rfl
theorem LR.fr {σ σ' τ τ' : St} {kx km : List Nat} (h : LR σ σ') (hx : Fr kx σ τ) (hm : Fr km σ' τ') (cx : 3 ∉ kx) (cm : 102 ∉ km ∧ 103 ∉ km ∧ 104 ∉ km ∧ 105 ∉ km) : LR τ τ' := by
  refine h.cong (funext fun b => hx 3 b (by rw [key_ne (by decide)]; exact cx)) (fun k h2 h5 => hm 58 k (by
    rw [key_58]
    rcases (show k = 2 ∨ k = 3 ∨ k = 4 ∨ k = 5 by omega) with rfl | rfl | rfl | rfl
    · exact cm.1
    · exact cm.2.1
    · exact cm.2.2.1
    · exact cm.2.2.2))
/-- who has given in this YEAR -/
def Gave (σ' : St) (gb : Nat) : Prop := ∀ j, j < 8 → σ'.1 66 j = if gb.testBit j = true then 1 else 0
theorem yearL {w : Nat} (hw : isW w) : ∀ (d i n m gb : Nat) (a : Int32) (σ σ' : St) (P G : Nat), i + d = G → WR w σ σ' P G → LR σ σ' → gb < 2 ^ P → Gave σ' gb → d < n → d < m →
    ∃ r τ τ', fX7_passYear_n_L61 w n a (nI gb) (nI i) σ = some (r, τ) ∧ fX9_year_L60 (0 : Int32) m a (nI i) σ' = some (r, τ') ∧ WR w τ τ' P G ∧ LR τ τ' := by
  intro d
  induction d with
  | zero =>
    intro i n m gb a σ σ' P G hi hW hL hgb hga hn hm
    obtain ⟨⟨hP, hG⟩, ⟨p0, p1⟩, ⟨g0, g1⟩, -⟩ := id hW
    obtain ⟨n, rfl, -⟩ := su hn
    obtain ⟨m, rfl, -⟩ := su hm
    have e : i = G := by omega
    subst e
    rw [fX7_passYear_n_L61, fX9_year_L60, g0, g1, if_pos (nI_le (a := i) (b := i) (by omega) (by omega)), if_pos (nI_le (a := i) (b := i) (by omega) (by omega))]
    exact ⟨a, σ, σ', rfl, rfl, hW, hL⟩
  | succ d ih =>
    intro i n m gb a σ σ' P G hi hW hL hgb hga hn hm
    obtain ⟨⟨hP, hG⟩, ⟨p0, p1⟩, ⟨g0, g1⟩, hy, hwh, hwk, hwf, hwl, hwd, hwg, v1, v2, v3, v4, v5, v6⟩ := id hW
    obtain ⟨n, rfl, hn⟩ := su hn
    obtain ⟨m, rfl, hm⟩ := su hm
    obtain ⟨-, -, ⟨k, hk, ek⟩, -, -⟩ := v4 i (by omega)
    have xk : σ.1 (w + 7 + i) 2 = nI k := (hwg i (by omega) 2 (by decide)).trans ek
    have skip : ∃ r τ τ', fX7_passYear_n_L61 w n a (nI gb) (nI (i + 1)) σ = some (r, τ) ∧ fX9_year_L60 (0 : Int32) m a (nI (i + 1)) σ' = some (r, τ') ∧ WR w τ τ' P G ∧ LR τ τ' := ih (i + 1) n m gb a σ σ' P G (by omega) hW hL hgb hga (by omega) (by omega)
    rw [fX7_passYear_n_L61, fX9_year_L60, g0, g1, if_neg (nI_ge (a := i) (b := G) (by omega) (by omega)), if_neg (nI_ge (a := i) (b := G) (by omega) (by omega))]
    haveI : Decidable (due σ' i) := Classical.propDecidable _
    have hdue := fun C => m_due (σ' := σ') (show i < 8 by omega) C
    simp (disch := omega) only [bnd, grd_t (inbN (show i < 8 by omega) (by decide)), grd_t (inbN (show k < 8 by omega) (by decide)), tcl, ix80, nk2, nk5, grd_t (inbN (show 8 * i + 2 < 64 by omega) (by decide)), grd_t (inbN (show 8 * i + 5 < 64 by omega) (by decide)), grd_t (inbN (show 8 * i < 64 by omega) (by decide)), xk, ek, nI_1] at hdue ⊢
    rw [x_due hL hW (show i < 8 by omega), hdue]
    by_cases hd : due σ' i
    · rw [if_pos hd, if_neg (by decide)]
      simp only [n10, if_false]
      obtain ⟨b, hb, e1, e2⟩ := whoW hL hW (show i < G by omega) hk ek
      rw [e1, e2]
      simp only [Option.bind_some]
      have hgb8 := p2_256 hP hgb
      by_cases hb0 : b = 0
      · subst hb0
        simp only [show (nI 0 : Int32) = 0 from rfl, if_true]
        have e4 : ∀ z : Option (Int32 × St), (if σ.1 3 2 = 0 then z else if nI gb &&& fX8_bit (nI k) = 0 then z else z) = z := fun z => by
          split
          · rfl
          · split <;> rfl
        rw [e4]
        exact skip
      · have hbn : ¬ nI b = (0 : Int32) := fun z => hb0 ((nI_eq (a := b) (b := 0) (by have := p2_256 hP hb; omega) (by decide)).mp z)
        obtain ⟨c, hc, hbc, f1, f2⟩ := choose2 hW hk hb hb0
        simp only [hbn, if_false]
        rw [f1, f2]
        simp only [Option.bind_some, nI_m1ne' (show c < 100 by omega), if_false, if_true]
        obtain ⟨r, τ, τ', q1, q2, q3, q4, -⟩ := hand2 hW (show i < G by omega) hc (mo := σ.1 3 3) hL.2.2.2.1 hd.1
        have frx := frX7_handOn w _ _ _ σ hw (obGn hw (by omega)) τ q1
        have frm := frX9_goOn _ _ σ' (r, τ') q2
        have hL2 : LR τ (setI τ' 66 k 1) := (hL.fr frx frm (by unfold isW at hw; simp; omega) (by decide)).cong rfl (fun k _ _ => by rw [setI_oo (by omega)])
        have hW2 : WR w τ (setI τ' 66 k 1) P G := q3.cong (fun a _ _ => rfl) (by rw [setI_oo (by omega)]) (by rw [setI_oo (by omega)]) (by rw [setI_oo (by omega)]) (by rw [setI_oo (by omega)]) (fun a _ _ => by rw [setI_o (by omega)])
        have hga2 : Gave (setI τ' 66 k 1) (gb ||| 2 ^ k) := by
          intro j hj
          rw [Nat.testBit_or, Nat.testBit_two_pow]
          by_cases z : j = k
          · subst z; rw [setI_s]; simp
          · rw [setI_oo (by omega), show τ'.1 66 j = σ'.1 66 j from frm 66 j (by rw [key_ne (by decide)]; decide), hga j hj]
            have : decide (k = j) = false := by simpa using fun q => z q.symm
            rw [this, Bool.or_false]
        have next := ih (i + 1) n m (gb ||| 2 ^ k) (a + 1) τ (setI τ' 66 k 1) P G (by omega) hW2 hL2 (or_lt hgb hk) hga2 (by omega) (by omega)
        rw [q1, q2]
        simp only [Option.bind_some]
        rw [bt_or gb hgb8 k (by omega)]
        by_cases o1 : σ.1 3 2 = 0
        · rw [if_pos o1, if_pos (hL.2.2.1 ▸ o1)]
          exact next
        · rw [if_neg o1, if_neg (fun z => o1 (hL.2.2.1.trans z)), hga k (by omega)]
          by_cases t : gb.testBit k = true
          · rw [if_neg (fun q => by rw [(bt_and gb hgb8 k (by omega)).mp q] at t; cases t), if_pos t, if_neg (show ¬ (1 : Int32) = 0 by decide)]
            exact skip
          · rw [if_pos ((bt_and gb hgb8 k (by omega)).mpr (by simpa using t)), if_neg t, if_pos rfl]
            exact next
    · rw [if_neg hd, if_pos rfl]
      simp only [if_true, Option.bind_some]
      exact skip
theorem year2 {w : Nat} (hw : isW w) {σ σ' : St} {P G : Nat} (hW : WR w σ σ' P G) (hL : LR σ σ') : ∃ r τ τ', fX7_passYear_n w σ = some (r, τ) ∧ fX9_year (0 : Int32) σ' = some (r, τ') ∧ WR w τ τ' P G ∧ LR τ τ' ∧ τ.1 w 8 = σ.1 w 8 + 1 ∧ τ'.1 58 19 = σ'.1 58 19 + 1 := by
  have hw' : w = 4 ∨ w = 19 ∨ w = 34 := hw
  have hW1 : WR w (setI σ w 8 (σ.1 w 8 + 1)) σ' P G := by
    obtain ⟨a1, a2, a3, a4, a5, a6, a7, a8, a9, a10, a11⟩ := id hW
    unfold WR
    simp (disch := omega) only [setI_o, setI_s, setI_oo]
    exact ⟨a1, a2, a3, Or.inr trivial, a5, a6, a7, a8, a9, fun g hg k hk => by simp (disch := omega) only [setI_o]; exact a10 g hg k hk, a11⟩
  have hL1 : LR (setI σ w 8 (σ.1 w 8 + 1)) σ' := hL.cong (by rw [setI_o (by omega)]) (fun _ _ _ => rfl)
  obtain ⟨σ1, σ1', e1, e2, e3, e4, e5, e6⟩ := age2 hW1 0
  have hL2 : LR σ1 σ1' := hL1.cong (funext fun b => (e5 b).resolve_right (by omega)) (fun k _ _ => e6 k)
  have frx1 := frX7_passYear_n_L12 w hw σ1 fu (0 : Int32) (setI σ w 8 (σ.1 w 8 + 1)) e1
  obtain ⟨r, τ, τ', f1, f2, f3, f4⟩ := yearL hw G 0 fu fu 0 0 σ1 σ1' P G (by omega) e3 hL2 (Nat.two_pow_pos P) (fun j hj => by rw [e4 j hj]; simp) (fu_gt (by have := hW.1.2; omega)) (fu_gt (by have := hW.1.2; omega))
  have frx2 := frX7_passYear_n_L61 w hw (r, τ) fu 0 (nI 0) (nI 0) σ1 f1
  have frm2 := frX9_year_L60 0 (r, τ') fu 0 (nI 0) σ1' f2
  refine ⟨r, τ, setI τ' 58 19 (τ'.1 58 19 + 1), ?_, ?_, ?_, ?_, ?_, ?_⟩
  · unfold fX7_passYear_n
    simp only [bnd]
    rw [e1]
    simp only [Option.bind_some]
    rw [show (0 : Int32) = nI 0 from rfl] at f1 ⊢
    rw [f1]; rfl
  · unfold fX9_year
    rw [e2]
    simp only [Option.bind_some]
    rw [show (0 : Int32) = nI 0 from rfl] at f2 ⊢
    rw [f2]; rfl
  · obtain ⟨a1, a2, a3, a4, a5, a6, a7, a8, a9, a10, a11⟩ := id f3
    unfold WR
    simp (disch := omega) only [setI_o, setI_s, setI_oo]
    exact ⟨a1, a2, a3, Or.inr trivial, a5, a6, a7, a8, a9, a10, a11⟩
  · exact f4.cong rfl (fun k _ _ => by rw [setI_oo (by omega)])
  · rw [frx2 w 8 (by rw [key_ne (by omega)]; simp [gk]), frx1 w 8 (by rw [key_ne (by omega)]; simp [gk]), setI_s]
  · rw [setI_s, frm2 58 19 (by rw [key_58]; decide), e6 19]
theorem yearRR {σ σ' : St} {P G : Nat} (hR : RR σ σ' P G) : ∃ r τ τ', fX7_passYear_n 4 σ = some (r, τ) ∧ fX9_year (0 : Int32) σ' = some (r, τ') ∧ RR τ τ' P G := by
  obtain ⟨h1, h2, h3, h4, h5, h6, h7⟩ := id hR
  obtain ⟨r, τ, τ', e1, e2, e3, e4, e5, e6⟩ := year2 isW_4 h3 h1
  exact ⟨r, τ, τ', e1, e2, hR.world e3 (frX7_passYear_n 4 σ isW_4 (r, τ) e1) (frX9_year 0 σ' (r, τ') e2) (fun a ha => by simp [gk]; omega) (by rw [e5, e6, h7.2]) (fun a ha => by simp; omega)⟩
theorem yearsL {P G Y : Nat} (hY : Y ≤ 30) : ∀ (d i n m : Nat) (a : Int32) (σ σ' : St), i + d = Y → RR σ σ' P G → d < n → d < m → ∃ r τ τ', fX8_years_L17 (nI Y) n a (nI i) σ = some (r, τ) ∧ fX9_years_L19 (nI Y) m a (nI i) σ' = some (r, τ') ∧ RR τ τ' P G := by
  intro d
  induction d with
  | zero =>
    intro i n m a σ σ' hi hR hn hm
    obtain ⟨n, rfl, -⟩ := su hn
    obtain ⟨m, rfl, -⟩ := su hm
    have e : i = Y := by omega
    subst e
    rw [fX8_years_L17, fX9_years_L19, if_pos (nI_le (a := i) (b := i) (by omega) (by omega)), if_pos (nI_le (a := i) (b := i) (by omega) (by omega))]
    exact ⟨a, σ, σ', rfl, rfl, hR⟩
  | succ d ih =>
    intro i n m a σ σ' hi hR hn hm
    obtain ⟨n, rfl, hn⟩ := su hn
    obtain ⟨m, rfl, hm⟩ := su hm
    rw [fX8_years_L17, fX9_years_L19, if_neg (nI_ge (a := i) (b := Y) (by omega) (by omega)), if_neg (nI_ge (a := i) (b := Y) (by omega) (by omega))]
    obtain ⟨r, τ, τ', e1, e2, e3⟩ := yearRR hR
    rw [e1, e2]
    simp only [Option.bind_some, nI_1]
    exact ih (i + 1) n m _ τ τ' (by omega) e3 (by omega) (by omega)
/-- years -/
theorem s_years (p : Int32) {σ σ' : St} (h : Rel σ σ') : ∃ r τ τ', fX8_years p σ = some (r, τ) ∧ fX9_years p σ' = some (r, τ') ∧ Rel τ τ' := by
  obtain ⟨P, G, hR⟩ := h
  unfold fX8_years fX9_years
  rw [show (1 : Int64) = (1 : Int32).toInt64 from rfl, show (30 : Int64) = (30 : Int32).toInt64 from rfl, wi2]
  rcases within_c p (a := 1) (b := 30) (by decide) (by decide) with ⟨y, h1, h2, rfl, e⟩ | ⟨-, e⟩
  · replace e : fX8_within (nI y) (1 : Int32) (30 : Int32) = 1 := e
    simp only [e, n10, if_false]
    obtain ⟨r, τ, τ', e1, e2, e3⟩ := yearsL h2 y 0 fu fu (nI 0) σ σ' (by omega) hR (fu_gt (by omega)) (fu_gt (by omega))
    rw [show (0 : Int32) = nI 0 from rfl, e1, e2]
    exact ⟨r, τ, τ', rfl, rfl, P, G, e3⟩
  · replace e : fX8_within p (1 : Int32) (30 : Int32) = 0 := e
    simp only [e, if_true]
    exact ⟨_, _, _, rfl, rfl, P, G, hR⟩
