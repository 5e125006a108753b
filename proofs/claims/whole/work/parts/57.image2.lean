theorem imageM (σ : St) : ∃ τ, fX9_image σ = some (σ.1 58 20, τ) ∧ (∀ a b, ¬ (77 ≤ a ∧ a ≤ 81) → ¬ (a = 58 ∧ 36 ≤ b ∧ b ≤ 39) → τ.1 a b = σ.1 a b) ∧ (τ.1 58 36 = σ.1 58 20 ∧ τ.1 58 37 = σ.1 58 12 ∧ τ.1 58 38 = σ.1 58 18 ∧ τ.1 58 39 = σ.1 58 19) ∧ (∀ b, b < 64 → τ.1 77 b = σ.1 65 b ∧ τ.1 78 b = σ.1 63 b ∧ τ.1 79 b = σ.1 62 b) ∧ (∀ b, b < 8 → τ.1 80 b = σ.1 61 b ∧ τ.1 81 b = σ.1 64 b) := by
  obtain ⟨σ1, e1, f1⟩ := copyM (a0 := 65) (n0 := 64) (a1 := 77) (n1 := 64) (N := 64) (by omega) (by omega) (by omega) (by omega) (by omega) σ
  obtain ⟨σ2, e2, f2⟩ := copyM (a0 := 63) (n0 := 64) (a1 := 78) (n1 := 64) (N := 64) (by omega) (by omega) (by omega) (by omega) (by omega) σ1
  obtain ⟨σ3, e3, f3⟩ := copyM (a0 := 62) (n0 := 64) (a1 := 79) (n1 := 64) (N := 64) (by omega) (by omega) (by omega) (by omega) (by omega) σ2
  obtain ⟨σ4, e4, f4⟩ := copyM (a0 := 61) (n0 := 8) (a1 := 80) (n1 := 8) (N := 8) (by omega) (by omega) (by omega) (by omega) (by omega) σ3
  obtain ⟨σ5, e5, f5⟩ := copyM (a0 := 64) (n0 := 8) (a1 := 81) (n1 := 8) (N := 8) (by omega) (by omega) (by omega) (by omega) (by omega) σ4
  have o : ∀ a b, ¬ (77 ≤ a ∧ a ≤ 81) → σ5.1 a b = σ.1 a b := fun a b h => by
    rw [f5, if_neg (by omega), f4, if_neg (by omega), f3, if_neg (by omega), f2, if_neg (by omega), f1, if_neg (by omega)]
  unfold fX9_image
  rw [show (64 : Int32) = nI 64 from rfl, show (8 : Int32) = nI 8 from rfl, e1]
  simp only [Option.bind_some]
  rw [e2]
  simp only [Option.bind_some]
  rw [e3]
  simp only [Option.bind_some]
  rw [e4]
  simp only [Option.bind_some]
  rw [e5]
  simp only [Option.bind_some, bnd]
  refine ⟨_, by rw [setI_oo (show ¬ (58 = 58 ∧ 20 = 39) by omega), setI_oo (show ¬ (58 = 58 ∧ 20 = 38) by omega), setI_oo (show ¬ (58 = 58 ∧ 20 = 37) by omega), setI_oo (show ¬ (58 = 58 ∧ 20 = 36) by omega), o 58 20 (by omega)], fun a b h1 h2 => ?_, ⟨?_, ?_, ?_, ?_⟩, fun b hb => ⟨?_, ?_, ?_⟩, fun b hb => ⟨?_, ?_⟩⟩
  · simp (disch := omega) only [setI_oo]
    exact o a b h1
  · simp (disch := omega) only [setI_oo, setI_s]
    try exact o _ _ (by omega)
  · simp (disch := omega) only [setI_oo, setI_s]
    exact o _ _ (by omega)
  · simp (disch := omega) only [setI_oo, setI_s]
    exact o _ _ (by omega)
  · simp (disch := omega) only [setI_oo, setI_s]
    exact o _ _ (by omega)
  · simp (disch := omega) only [setI_oo]
    rw [f5, if_neg (by omega), f4, if_neg (by omega), f3, if_neg (by omega), f2, if_neg (by omega), f1, if_pos (by omega)]
  · simp (disch := omega) only [setI_oo]
    rw [f5, if_neg (by omega), f4, if_neg (by omega), f3, if_neg (by omega), f2, if_pos (by omega), f1, if_neg (by omega)]
  · simp (disch := omega) only [setI_oo]
    rw [f5, if_neg (by omega), f4, if_neg (by omega), f3, if_pos (by omega), f2, if_neg (by omega), f1, if_neg (by omega)]
  · simp (disch := omega) only [setI_oo]
    rw [f5, if_neg (by omega), f4, if_pos (by omega), f3, if_neg (by omega), f2, if_neg (by omega), f1, if_neg (by omega)]
  · simp (disch := omega) only [setI_oo]
    rw [f5, if_pos (by omega), f4, if_neg (by omega), f3, if_neg (by omega), f2, if_neg (by omega), f1, if_neg (by omega)]
/-- what VM speaks of may be changed to what is the same -/
theorem VM.cong {P G : Nat} {fm fm' : Int32} {mh mk mf ml mr mh' mk' mf' ml' mr' : Nat → Int32} (h : VM P G fm mh mk mf ml mr) (hP : P ≤ 8) (hG : G ≤ 8) (e : fm' = fm) (e1 : Cells mh' mh 8) (e2 : Cells mk' mk 8) (e3 : Cells mf' mf 8) (e4 : Cells ml' ml 64) (e5 : Cells mr' mr 64) : VM P G fm' mh' mk' mf' ml' mr' := by
  obtain ⟨v1, v2, v3, v4, v5, v6⟩ := h
  refine ⟨fun i hi => by rw [e2 i hi]; exact v1 i hi, fun i hi => by rw [e1 i hi]; exact v2 i hi, fun i hi => by rw [e4 i hi]; exact v3 i hi, fun g hg => ?_, ?_, fun i h1 h2 => by rw [e3 i h2]; exact v6 i h1 h2⟩
  · have q := v4 g hg
    unfold GV at q ⊢
    rw [e5 (8 * g) (by omega), e5 (8 * g + 1) (by omega), e5 (8 * g + 2) (by omega), e5 (8 * g + 3) (by omega), e5 (8 * g + 6) (by omega)]
    exact q
  · rw [e, v5]
    exact sumI_cong (fun i hi => (e3 i (by omega)).symm)
/-- image -/
theorem s_image {σ σ' : St} (h : Rel σ σ') : ∃ r τ τ', fX8_image σ = some (r, τ) ∧ fX9_image σ' = some (r, τ') ∧ Rel τ τ' := by
  obtain ⟨P, G, hR⟩ := h
  obtain ⟨h1, h2, h3, h4, h5, h6, h7, h8⟩ := id hR
  obtain ⟨⟨hP, hG⟩, ⟨p0, p1⟩, ⟨g0, g1⟩, hy, hwh, hwk, hwf, hwl, hwd, hwg, hv⟩ := id h3
  obtain ⟨τ, e, co, ⟨c0, c6, c8⟩, c1, c4, c7⟩ := copyW (w := 19) (w1 := 4) (by omega) σ
  obtain ⟨τ', f, mo, ⟨m36, m37, m38, m39⟩, m77, m80⟩ := imageM σ'
  unfold fX8_image
  rw [e, f]
  simp only [Option.bind_some, bnd]
  refine ⟨σ'.1 58 20, setI τ 0 10 1, τ', ?_, rfl, P, G, ?_⟩
  · rw [setI_oo (by omega), co 4 6 (by omega), g0, g1]
  · have ex : ∀ a, 1 ≤ a → a < 19 ∨ 34 ≤ a → (setI τ 0 10 1).1 a = σ.1 a := fun a h1 ha => funext fun b => by rw [setI_oo (by omega), co a b (by omega)]
    have em : ∀ a, 58 < a → ¬ (77 ≤ a ∧ a ≤ 81) → τ'.1 a = σ'.1 a := fun a h1 ha => funext fun b => mo a b ha (by omega)
    have es : ∀ k, k < 36 ∨ 39 < k → τ'.1 58 k = σ'.1 58 k := fun k hk => mo 58 k (by omega) (by omega)
    refine ⟨h1.cong (ex 3 (by omega) (by omega)) (fun k _ _ => es k (by omega)), h2.cong (by rw [ex 1 (by omega) (by omega)]) (ex 2 (by omega) (by omega)) (es 1 (by omega)) (em 59 (by omega) (by omega)), h3.cong (fun a _ _ => ex a (by omega) (by omega)) (es _ (by omega)) (es _ (by omega)) (es _ (by omega)) (es _ (by omega)) (fun a _ _ => em a (by omega) (by omega)), fun i a b => ?_, ?_, h6.cong (fun a _ _ => ex a (by omega) (by omega)) (es _ (by omega)) (es _ (by omega)) (em 76 (by omega) (by omega)), ?_⟩
    · rw [ex 5 (by omega) (by omega)]; exact h4 i a b
    · unfold IR
      have ez : ∀ a, 19 ≤ a → a ≤ 33 → (setI τ 0 10 1).1 a = τ.1 a := fun a _ _ => setI_o (by omega)
      rw [setI_s, ex 5 (by omega) (by omega), ez 19 (by omega) (by omega), ez 20 (by omega) (by omega), ez 21 (by omega) (by omega), ez 22 (by omega) (by omega), ez 23 (by omega) (by omega), ez 24 (by omega) (by omega), m36, m37, m38, m39, c0, c6, c8]
      refine Or.inr ⟨rfl, P, G, ⟨Nat.le_refl P, h8⟩, fun i hi => ⟨fun _ => c1 1 i (by omega) (by omega) hi, fun q => by rw [c1 1 i (by omega) (by omega) hi]; exact h4 i q hi⟩, ⟨⟨hP, hG⟩, ⟨p0, p1⟩, ⟨g0, g1⟩, Or.inl h8, fun i hi => rfl, fun i hi => ?_, fun i hi => ?_, fun i hi => ?_, fun i hi => ?_, fun g hg k hk => ?_, ?_⟩⟩
      · rw [c1 2 i (by omega) (by omega) hi, (m80 i hi).1]; exact hwk i hi
      · rw [c1 3 i (by omega) (by omega) hi, (m80 i hi).2]; exact hwf i hi
      · rw [c4 4 i (by omega) (by omega) hi, (m77 i hi).2.2]; exact hwl i hi
      · rw [c4 5 i (by omega) (by omega) hi, (m77 i hi).2.1]; exact hwd i hi
      · show (setI τ 0 10 1).1 (26 + g) k = τ'.1 77 (8 * g + k)
        rw [setI_oo (by omega), show 26 + g = 19 + (7 + g) by omega, c7 (7 + g) k (by omega) (by omega) hk, (m77 (8 * g + k) (by omega)).1, show 4 + (7 + g) = 4 + 7 + g by omega]
        exact hwg g hg k hk
      · refine hv.cong hP hG rfl (fun i hi => ?_) (fun i hi => (m80 i hi).1) (fun i hi => (m80 i hi).2) (fun i hi => (m77 i hi).2.2) (fun i hi => (m77 i hi).1)
        rw [c1 1 i (by omega) (by omega) hi]; exact hwh i hi
    · rw [setI_oo (by omega), co 0 9 (by omega), es 6 (by omega), ex 4 (by omega) (by omega), es 19 (by omega)]; exact ⟨h7, h8⟩
