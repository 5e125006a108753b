theorem yearN2 {w pc oc gc B : Nat} (hw : isW w) (hdc : Dc pc oc gc) {σ σ' : St} {P G : Nat} (hW : WL w pc oc gc B σ σ' P G) (hL : LL σ σ') (hB : B + 16 ≤ 2 ^ 29) (hS : σ'.2 64 0 = -1) : ∃ r τ τ', fX7_passYear_n w σ = some (r, τ) ∧ fL_year pc 27 58 4 gc 64 61 64 oc 64 64 1 σ' = some (r, τ') ∧ WL w pc oc gc (B + 16) τ τ' P G ∧ LL τ τ' ∧ Fl pc oc gc σ' τ' ∧ τ'.2 = σ'.2 ∧ τ.1 w 8 = σ.1 w 8 + 1 := by
  have hw' : w = 4 ∨ w = 19 ∨ w = 34 := hw
  have hG := hW.1.2
  have hW1 : WL w pc oc gc B (setI σ w 8 (σ.1 w 8 + 1)) σ' P G := by
    obtain ⟨a1, a2, a3, a4, a5, a6, a7, a8, a9, a10⟩ := id hW
    unfold WL
    simp (disch := omega) only [setI_o, setI_oo]
    exact ⟨a1, a2, a3, a4, a5, a6, a7, a8, a9, a10⟩
  have hL1 : LL (setI σ w 8 (σ.1 w 8 + 1)) σ' := hL.cong (fun b => by rw [setI_o (by omega)]) (fun _ => rfl)
  obtain ⟨σ1, σ1', e1, e2, e3, e5, e6, e7⟩ := age2 hdc hW1 (0 : Int32) (0 : Int32)
  have hL2 : LL σ1 σ1' := hL1.cong (fun b => e5 3 b (by omega)) (fun b => e7 58 b hdc.1.2.2.2.2.2.symm)
  have hS1 : σ1'.2 64 0 = -1 := by rw [e6]; exact hS
  obtain ⟨r, τ, τ', f1, f2, f3, f4, f5, f6⟩ := yearNL hw hdc G 0 fu fu 0 (nI 0) B σ1 σ1' P G (by omega) e3 hL2 (by omega) hS1 (Nat.two_pow_pos P) (fu_gt (by omega)) (fu_gt (by omega))
  have frx2 := frX7_passYear_n_L61 w hw (r, τ) fu (nI 0) (nI 0) (nI 0) σ1 f1
  refine ⟨r, τ, τ', ?_, ?_, f3.mono (by omega), f4, Fl.tr (fun a b _ n2 _ => e7 a b n2) f5, f6.trans e6, ?_⟩
  · unfold fX7_passYear_n
    simp only [bnd]
    rw [e1]
    simp only [Option.bind_some]
    rw [show (0 : Int32) = nI 0 from rfl, f1]; rfl
  · unfold fL_year
    rw [e2]
    simp only [Option.bind_some]
    rw [show (0 : Int32) = nI 0 from rfl, f2]; rfl
  · rw [frx2 w 8 (by rw [key_ne (by omega)]; simp [gk]), e5 w 8 (by omega), setI_s]
theorem yearD2 {w pc oc gc B : Nat} (hw : isW w) (hdc : Dc pc oc gc) {σ σ' : St} {P G : Nat} (hW : WL w pc oc gc B σ σ' P G) (hL : LL σ σ') (hB : B + 16 ≤ 2 ^ 29) (hS : SDl σ σ') : ∃ r τ τ', fX7_passYear w σ = some (r, τ) ∧ fL_year pc 27 58 4 gc 64 61 64 oc 64 64 1 σ' = some (r, τ') ∧ WL w pc oc gc (B + 16) τ τ' P G ∧ LL τ τ' ∧ Fl pc oc gc σ' τ' ∧ (SDl τ τ' ∧ D2 σ τ) ∧ τ.1 w 8 = σ.1 w 8 + 1 := by
  have hw' : w = 4 ∨ w = 19 ∨ w = 34 := hw
  have hG := hW.1.2
  have hW1 : WL w pc oc gc B (setI σ w 8 (σ.1 w 8 + 1)) σ' P G := by
    obtain ⟨a1, a2, a3, a4, a5, a6, a7, a8, a9, a10⟩ := id hW
    unfold WL
    simp (disch := omega) only [setI_o, setI_oo]
    exact ⟨a1, a2, a3, a4, a5, a6, a7, a8, a9, a10⟩
  have hL1 : LL (setI σ w 8 (σ.1 w 8 + 1)) σ' := hL.cong (fun b => by rw [setI_o (by omega)]) (fun _ => rfl)
  obtain ⟨σ1, σ1', e1, e2, e3, e5, e6, e7⟩ := age2 hdc hW1 (0 : Int32) (0 : Int32)
  have hL2 : LL σ1 σ1' := hL1.cong (fun b => e5 3 b (by omega)) (fun b => e7 58 b hdc.1.2.2.2.2.2.symm)
  have hS1 : SDl σ1 σ1' := by
    obtain ⟨s, hs, s0, s1⟩ := hS
    exact ⟨s, hs, by rw [ages_2 w _ _ _ _ e1]; exact s0, by rw [e6]; exact s1⟩
  obtain ⟨r, τ, τ', f1, f2, f3, f4, f5, f6⟩ := yearDL hw hdc G 0 fu fu 0 (nI 0) B σ1 σ1' P G (by omega) e3 hL2 (by omega) hS1 (Nat.two_pow_pos P) (fu_gt (by omega)) (fu_gt (by omega))
  have frx2 := frX7_passYear_L61 w hw (r, τ) fu (nI 0) (nI 0) (nI 0) σ1 f1
  refine ⟨r, τ, τ', ?_, ?_, f3.mono (by omega), f4, Fl.tr (fun a b _ n2 _ => e7 a b n2) f5, ⟨f6.1, fun b => (f6.2 b).trans (by rw [ages_2 w _ _ _ _ e1]; rfl)⟩, ?_⟩
  · unfold fX7_passYear
    simp only [bnd]
    rw [ages_s, e1]
    simp only [Option.bind_some]
    rw [show (0 : Int32) = nI 0 from rfl, f1]; rfl
  · unfold fL_year
    rw [e2]
    simp only [Option.bind_some]
    rw [show (0 : Int32) = nI 0 from rfl, f2]; rfl
  · rw [frx2 w 8 (by rw [key_ne (by omega)]; simp [gk]), e5 w 8 (by omega), setI_s]
theorem yearsL {P G Y : Nat} (hY : Y ≤ 30) (c10 : Int32) : ∀ (d i n m : Nat) (a : Int32) (B : Nat) (σ σ' : St), i + d = Y → WL 4 60 62 63 B σ σ' P G → LL σ σ' → B + 16 * d ≤ 2 ^ 29 → σ'.2 64 0 = -1 → d < n → d < m → ∃ r τ τ', fX8_years_L17 (nI Y) n a (nI i) σ = some (r, τ) ∧ fL_law_L539 c10 (nI Y) m a (nI i) σ' = some (r, τ') ∧ WL 4 60 62 63 (B + 16 * d) τ τ' P G ∧ LL τ τ' ∧ Fl 60 62 63 σ' τ' ∧ τ.1 4 8 = σ.1 4 8 + nI d := by
  intro d
  induction d with
  | zero =>
    intro i n m a B σ σ' hi hW hL hB hS hn hm
    obtain ⟨n, rfl, -⟩ := su hn
    obtain ⟨m, rfl, -⟩ := su hm
    have e : i = Y := by omega
    subst e
    rw [fX8_years_L17, fL_law_L539, if_pos (nI_le (a := i) (b := i) (by omega) (by omega)), if_pos (nI_le (a := i) (b := i) (by omega) (by omega))]
    exact ⟨a, σ, σ', rfl, rfl, hW, hL, Fl.rf, by rw [show nI 0 = (0 : Int32) from rfl]; simp⟩
  | succ d ih =>
    intro i n m a B σ σ' hi hW hL hB hS hn hm
    obtain ⟨n, rfl, hn⟩ := su hn
    obtain ⟨m, rfl, hm⟩ := su hm
    rw [fX8_years_L17, fL_law_L539, if_neg (nI_ge (a := i) (b := Y) (by omega) (by omega)), if_neg (nI_ge (a := i) (b := Y) (by omega) (by omega))]
    obtain ⟨r, τ, τ', e1, e2, e3, e4, e5, e6, e7⟩ := yearN2 isW_4 (show Dc 60 62 63 by unfold Dc; decide) hW hL (by omega) hS
    rw [e1, e2]
    simp only [Option.bind_some, nI_1]
    obtain ⟨r2, τ2, τ2', f1, f2, f3, f4, f5, f6⟩ := ih (i + 1) n m (a + r) (B + 16) τ τ' (by omega) e3 e4 (by omega) (by rw [e6]; exact hS) (by omega) (by omega)
    exact ⟨r2, τ2, τ2', f1, f2, f3.mono (by omega), f4, e5.tr f5, by rw [f6, e7, Int32.add_assoc, ← nI_1, Int32.add_comm (1 : Int32)]⟩
theorem drawnL {P G Y : Nat} (hY : Y ≤ 30) (c3 c10 c20 : Int32) : ∀ (d i n m : Nat) (a : Int32) (B : Nat) (σ σ' : St), i + d = Y → WL 34 67 66 65 B σ σ' P G → LL σ σ' → B + 16 * d ≤ 2 ^ 29 → SDl σ σ' → d < n → d < m → ∃ r τ τ', fX8_drawn_L55 (nI Y) c3 n a (nI i) σ = some (r, τ) ∧ fL_law_L731 c10 (nI Y) c20 m a (nI i) σ' = some (r, τ') ∧ WL 34 67 66 65 (B + 16 * d) τ τ' P G ∧ LL τ τ' ∧ Fl 67 66 65 σ' τ' ∧ SDl τ τ' ∧ D2 σ τ := by
  intro d
  induction d with
  | zero =>
    intro i n m a B σ σ' hi hW hL hB hS hn hm
    obtain ⟨n, rfl, -⟩ := su hn
    obtain ⟨m, rfl, -⟩ := su hm
    have e : i = Y := by omega
    subst e
    rw [fX8_drawn_L55, fL_law_L731, if_pos (nI_le (a := i) (b := i) (by omega) (by omega)), if_pos (nI_le (a := i) (b := i) (by omega) (by omega))]
    exact ⟨a, σ, σ', rfl, rfl, hW, hL, Fl.rf, hS, fun _ => rfl⟩
  | succ d ih =>
    intro i n m a B σ σ' hi hW hL hB hS hn hm
    obtain ⟨n, rfl, hn⟩ := su hn
    obtain ⟨m, rfl, hm⟩ := su hm
    rw [fX8_drawn_L55, fL_law_L731, if_neg (nI_ge (a := i) (b := Y) (by omega) (by omega)), if_neg (nI_ge (a := i) (b := Y) (by omega) (by omega))]
    obtain ⟨r, τ, τ', e1, e2, e3, e4, e5, e6, e7⟩ := yearD2 isW_34 (show Dc 67 66 65 by unfold Dc; decide) hW hL (by omega) hS
    rw [e1, e2]
    simp only [Option.bind_some, nI_1]
    obtain ⟨r2, τ2, τ2', f1, f2, f3, f4, f5, f6⟩ := ih (i + 1) n m (a + r) (B + 16) τ τ' (by omega) e3 e4 (by omega) e6.1 (by omega) (by omega)
    exact ⟨r2, τ2, τ2', f1, f2, f3.mono (by omega), f4, e5.tr f5, f6.1, fun b => (f6.2 b).trans (e6.2 b)⟩
