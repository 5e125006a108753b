theorem WL.cg2 {w pc oc gc B : Nat} {σ σ' τ τ' : St} {P G : Nat} (h : WL w pc oc gc B σ σ' P G) (hx : ∀ a b, w ≤ a → a < w + 15 → τ.1 a b = σ.1 a b) (h1 : ∀ b, b < 26 → τ'.1 pc b = σ'.1 pc b) (h2 : ∀ b, b < 64 → τ'.1 oc b = σ'.1 oc b) (h3 : ∀ b, b < 64 → τ'.1 gc b = σ'.1 gc b) (h4 : ∀ b, τ'.1 61 b = σ'.1 61 b) : WL w pc oc gc B τ τ' P G := by
  obtain ⟨⟨hP, hG⟩, a2, a3, a4, a5, a6, a7, a8, a9, v1, v2, v3⟩ := h
  refine ⟨⟨hP, hG⟩, ?_, ?_, fun i hi => ?_, fun i hi => ?_, fun i hi => ?_, fun i hi => ?_, fun i hi => ?_, fun g hg k hk => ?_, fun i hi => ?_, fun i hi => ?_, fun g hg => ?_⟩
  · rw [hx _ _ (by omega) (by omega), h1 _ (by omega)]; exact a2
  · rw [hx _ _ (by omega) (by omega), h1 _ (by omega)]; exact a3
  · rw [hx _ _ (by omega) (by omega), h1 _ (by omega)]; exact a4 i hi
  · rw [hx _ _ (by omega) (by omega), h1 _ (by omega)]; exact a5 i hi
  · rw [hx _ _ (by omega) (by omega), h1 _ (by omega)]; exact a6 i hi
  · rw [hx _ _ (by omega) (by omega), h4]; exact a7 i hi
  · rw [hx _ _ (by omega) (by omega), h2 _ hi]; exact a8 i hi
  · have := pm_lt hk
    rw [hx _ _ (by omega) (by omega), h3 _ (by omega)]; exact a9 g hg k hk
  · rw [h1 _ (by omega)]; exact v1 i hi
  · rw [h1 _ (by omega)]; exact v2 i hi
  · unfold GVl
    rw [h3 _ (by omega), h3 _ (by omega), h3 _ (by omega), h3 _ (by omega), h3 _ (by omega), h3 _ (by omega)]
    exact v3 g hg
theorem wi30 (y : Nat) (h1 : 1 ≤ y) (h2 : y ≤ 30) : fX8_within (nI y) (1 : Int32) (30 : Int32) = 1 := by
  rcases within_c (nI y) (a := 1) (b := 30) (by decide) (by decide) with ⟨-, -, -, -, e⟩ | ⟨e, -⟩
  · exact e
  · exact absurd rfl (e y h1 h2)
/-- years gone, by the law and then by the class -/
theorem yearsT {B P G Y : Nat} {σ : St} (h : Tp B P G σ) (hB : B + 16 * Y ≤ 2 ^ 29) (h1 : 1 ≤ Y) (hY : Y ≤ 30) (c10 : Int32) : ∃ r σ1 τ, fL_law_L539 c10 (nI Y) fu (0 : Int32) (0 : Int32) (setL σ 64 0 (-1)) = some (r, σ1) ∧ fX8_years (nI Y) (setI σ1 60 26 (σ1.1 60 26 + nI Y)) = some (r, τ) ∧ Tp (B + 16 * Y) P G τ := by
  obtain ⟨hW, hR, h2, hG1⟩ := h
  obtain ⟨r0, τ0, σ1, -, e2, -, -, e5, -⟩ := yearsL hY c10 Y 0 fu fu (nI 0) B σ (setL σ 64 0 (-1)) (by omega) hW hR.1 hB setL_s (fu_gt (by omega)) (fu_gt (by omega))
  have hx : ∀ a b, a < 58 → (setI σ1 60 26 (σ1.1 60 26 + nI Y)).1 a b = σ.1 a b := fun a b ha => by
    rw [setI_oo (by omega)]
    exact e5 a b (by omega) (by omega) (by omega)
  obtain ⟨r, τ, σ2, f1, f2, f3, f4, f5, f6⟩ := yearsL hY c10 Y 0 fu fu (nI 0) B (setI σ1 60 26 (σ1.1 60 26 + nI Y)) (setL σ 64 0 (-1)) (by omega) (hW.cg (fun a b _ _ => hx a b (by omega)) (fun _ => rfl) (fun _ => rfl) (fun _ => rfl) (fun _ => rfl)) (hR.1.cong (fun b => hx 3 b (by omega)) (fun _ => rfl)) hB setL_s (fu_gt (by omega)) (fu_gt (by omega))
  have e0 : (r0, σ1) = (r, σ2) := Option.some.inj (e2.symm.trans f2)
  have er : r0 = r := congrArg Prod.fst e0
  have es : σ1 = σ2 := congrArg Prod.snd e0
  subst es er
  have g1 : fX8_years (nI Y) (setI σ1 60 26 (σ1.1 60 26 + nI Y)) = some (r0, τ) := by
    unfold fX8_years
    rw [wi30 Y h1 hY, if_neg (by decide), show (0 : Int32) = nI 0 from rfl, f1]
    rfl
  have fr := fl_gt (frX8_years _ _ (r0, τ) g1) (by decide)
  have k : ∀ a b, 58 ≤ a → ¬ (a = 60 ∧ b = 26) → τ.1 a b = σ1.1 a b := fun a b ha hb => by
    rw [fr a b ha, setI_oo (by omega)]
  have frx := frX8_years _ _ (r0, τ) g1
  refine ⟨r0, σ1, τ, by rw [show (0 : Int32) = nI 0 from rfl]; exact f2, g1, f3.cg2 (fun _ _ _ _ => rfl) (fun b hb => k 60 b (by omega) (by omega)) (fun b _ => k 62 b (by omega) (by omega)) (fun b _ => k 63 b (by omega) (by omega)) (fun b => k 61 b (by omega) (by omega)), ⟨f4.cong (fun _ => rfl) (fun b => k 58 b (by omega) (by omega)), ?_, ?_⟩, h2, hG1⟩
  · rw [f6, hx 4 8 (by omega), fr 60 26 (by omega), setI_s, e5 60 26 (by decide) (by decide) (by omega), hR.2.1]
    rfl
  · obtain ⟨L, hL, eL⟩ := hR.2.2
    exact ⟨L, hL, by rw [k 69 0 (by omega) (by omega), e5 69 0 (by decide) (by decide) (by omega)]; exact eL⟩
