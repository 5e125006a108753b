theorem restM (σ : St) (h1 : σ.1 58 36 ≠ -1) (h2 : σ.1 58 37 = σ.1 58 12) : ∃ τ, fX9_restore σ = some (σ.1 58 36, τ) ∧ (∀ a b, ¬ (61 ≤ a ∧ a ≤ 65) → ¬ (a = 58 ∧ 18 ≤ b ∧ b ≤ 20) → τ.1 a b = σ.1 a b) ∧ (τ.1 58 20 = σ.1 58 36 ∧ τ.1 58 18 = σ.1 58 38 ∧ τ.1 58 19 = σ.1 58 39) ∧ (∀ b, b < 64 → τ.1 65 b = σ.1 77 b ∧ τ.1 63 b = σ.1 78 b ∧ τ.1 62 b = σ.1 79 b) ∧ (∀ b, b < 8 → τ.1 61 b = σ.1 80 b ∧ τ.1 64 b = σ.1 81 b) := by
  obtain ⟨σ1, e1, f1⟩ := copyM (a0 := 77) (n0 := 64) (a1 := 65) (n1 := 64) (N := 64) (by omega) (by omega) (by omega) (by omega) (by omega) σ
  obtain ⟨σ2, e2, f2⟩ := copyM (a0 := 78) (n0 := 64) (a1 := 63) (n1 := 64) (N := 64) (by omega) (by omega) (by omega) (by omega) (by omega) σ1
  obtain ⟨σ3, e3, f3⟩ := copyM (a0 := 79) (n0 := 64) (a1 := 62) (n1 := 64) (N := 64) (by omega) (by omega) (by omega) (by omega) (by omega) σ2
  obtain ⟨σ4, e4, f4⟩ := copyM (a0 := 80) (n0 := 8) (a1 := 61) (n1 := 8) (N := 8) (by omega) (by omega) (by omega) (by omega) (by omega) σ3
  obtain ⟨σ5, e5, f5⟩ := copyM (a0 := 81) (n0 := 8) (a1 := 64) (n1 := 8) (N := 8) (by omega) (by omega) (by omega) (by omega) (by omega) σ4
  have o : ∀ a b, ¬ (61 ≤ a ∧ a ≤ 65) → σ5.1 a b = σ.1 a b := fun a b h => by
    rw [f5, if_neg (by omega), f4, if_neg (by omega), f3, if_neg (by omega), f2, if_neg (by omega), f1, if_neg (by omega)]
  unfold fX9_restore
  rw [if_neg h1, if_pos h2, show (64 : Int32) = nI 64 from rfl, show (8 : Int32) = nI 8 from rfl, e1]
  simp only [Option.bind_some]
  rw [e2]
  simp only [Option.bind_some]
  rw [e3]
  simp only [Option.bind_some]
  rw [e4]
  simp only [Option.bind_some]
  rw [e5]
  simp only [Option.bind_some, bnd]
  refine ⟨_, by rw [setI_oo (show ¬ (58 = 58 ∧ 20 = 19) by omega), setI_oo (show ¬ (58 = 58 ∧ 20 = 18) by omega), setI_s, o 58 36 (by omega)], fun a b h1 h2 => ?_, ⟨?_, ?_, ?_⟩, fun b hb => ⟨?_, ?_, ?_⟩, fun b hb => ⟨?_, ?_⟩⟩
  · simp (disch := omega) only [setI_oo]
    exact o a b h1
  · simp (disch := omega) only [setI_oo, setI_s]
    try exact o _ _ (by omega)
  · simp (disch := omega) only [setI_oo, setI_s]
    try exact o _ _ (by omega)
  · simp (disch := omega) only [setI_oo, setI_s]
    try exact o _ _ (by omega)
  · simp (disch := omega) only [setI_oo]
    rw [f5, if_neg (by omega), f4, if_neg (by omega), f3, if_neg (by omega), f2, if_neg (by omega), f1, if_pos (by omega)]
  · simp (disch := omega) only [setI_oo]
    rw [f5, if_neg (by omega), f4, if_neg (by omega), f3, if_neg (by omega), f2, if_pos (by omega), f1, if_neg (by omega)]
  · simp (disch := omega) only [setI_oo]
    rw [f5, if_neg (by omega), f4, if_neg (by omega), f3, if_pos (by omega), f2, if_neg (by omega), f1, if_neg (by omega)]
  · simp (disch := omega) only [setI_oo]
    rw [f5, if_neg (by omega), f4, if_pos (by omega), f3, if_neg (by omega), f2, if_neg (by omega), f1, if_neg (by omega)]
  · simp (disch := omega) only [setI_oo]
    rw [f5, if_pos (by omega), f4, if_neg (by omega), f3, if_neg (by omega), f2, if_neg (by omega), f1, if_neg (by omega)]
theorem nI_inj {a b : Nat} (ha : a < 2 ^ 31) (hb : b < 2 ^ 31) : nI a = nI b ↔ a = b := by
  constructor
  · intro e
    have := congrArg Int32.toInt e
    rw [nI_toInt ha, nI_toInt hb] at this
    omega
  · rintro rfl; rfl
theorem nI_ne_m1 {a : Nat} (ha : a < 2 ^ 31) : nI a ≠ (-1 : Int32) := by
  intro e
  have := congrArg Int32.toInt e
  rw [nI_toInt ha, show (-1 : Int32).toInt = -1 from rfl] at this
  omega
/-- restore -/
theorem s_restore {σ σ' : St} (h : Rel σ σ') : ∃ r τ τ', fX8_restore σ = some (r, τ) ∧ fX9_restore σ' = some (r, τ') ∧ Rel τ τ' := by
  obtain ⟨P, G, hR⟩ := h
  obtain ⟨h1, h2, h3, h4, h5, h6, h7, h8⟩ := id hR
  obtain ⟨⟨hP, hG⟩, ⟨p0, p1⟩, -⟩ := id h3
  rcases id h5 with ⟨i1, i2⟩ | ⟨i1, P1, G1, ⟨hP1, hyy⟩, hh, ⟨⟨hQ, hG1⟩, ⟨q0, q1⟩, ⟨k0, k1⟩, hy, hwh, hwk, hwf, hwl, hwd, hwg, hv⟩⟩
  · unfold fX8_restore fX9_restore
    rw [i1, i2]
    exact ⟨_, _, _, rfl, rfl, P, G, hR⟩
  · by_cases hPP : P1 = P
    · subst hPP
      obtain ⟨τ', f, mo, ⟨m20, m18, m19⟩, m65, m61⟩ := restM σ' (by rw [k1]; exact nI_ne_m1 (by omega)) (by rw [q1, p1])
      obtain ⟨τ, e, co, ⟨c0, c6, c8⟩, c1, c4, c7⟩ := copyW (w := 4) (w1 := 19) (by omega) σ
      rw [f]
      unfold fX8_restore
      rw [i1, q0, p0, if_neg (by decide), if_pos rfl, e]
      simp only [Option.bind_some]
      refine ⟨σ'.1 58 36, τ, τ', by rw [c6, k0, k1], rfl, P1, G1, ?_⟩
      have ex : ∀ a, a < 4 ∨ 19 ≤ a → τ.1 a = σ.1 a := fun a ha => funext fun b => co a b (by omega)
      have em : ∀ a, 58 < a → ¬ (61 ≤ a ∧ a ≤ 65) → τ'.1 a = σ'.1 a := fun a h1 ha => funext fun b => mo a b ha (by omega)
      have es : ∀ k, k < 18 ∨ 20 < k → τ'.1 58 k = σ'.1 58 k := fun k hk => mo 58 k (by omega) (by omega)
      have hb5 : ∀ i, i < 8 → τ.1 5 i = σ.1 20 i := fun i hi => c1 1 i (by omega) (by omega) hi
      have hmh : ∀ i, i < 8 → σ.1 20 i = σ'.1 60 i := fun i hi => by
        rw [← h3.2.2.2.2.1 i hi]
        by_cases t : i < P1
        · exact (hh i hi).1 t
        · rw [(hh i hi).2 (by omega)]; exact (h4 i (by omega) hi).symm
      refine ⟨h1.cong (ex 3 (by omega)) (fun k _ _ => es k (by omega)), h2.cong (by rw [ex 1 (by omega)]) (ex 2 (by omega)) (es 1 (by omega)) (em 59 (by omega) (by omega)), ?_, fun i a b => ?_, ?_, h6.cong (fun a _ _ => ex a (by omega)) (es _ (by omega)) (es _ (by omega)) (em 76 (by omega) (by omega)), ?_⟩
      · unfold WR
        rw [c0, c6, c8, es 12 (by omega), m20, m18, m19, em 60 (by omega) (by omega)]
        refine ⟨⟨hQ, hG1⟩, ⟨q0, p1⟩, ⟨k0, k1⟩, Or.inl hyy, fun i hi => ?_, fun i hi => ?_, fun i hi => ?_, fun i hi => ?_, fun i hi => ?_, fun g hg k hk => ?_, ?_⟩
        · rw [hb5 i hi]; exact hmh i hi
        · rw [c1 2 i (by omega) (by omega) hi, (m61 i hi).1]; exact hwk i hi
        · rw [c1 3 i (by omega) (by omega) hi, (m61 i hi).2]; exact hwf i hi
        · rw [c4 4 i (by omega) (by omega) hi, (m65 i hi).2.2]; exact hwl i hi
        · rw [c4 5 i (by omega) (by omega) hi, (m65 i hi).2.1]; exact hwd i hi
        · show τ.1 (4 + 7 + g) k = τ'.1 65 (8 * g + k)
          rw [show 4 + 7 + g = 4 + (7 + g) by omega, c7 (7 + g) k (by omega) (by omega) hk, (m65 (8 * g + k) (by omega)).1, show 19 + (7 + g) = 26 + g by omega]
          exact hwg g hg k hk
        · exact hv.cong hQ hG1 rfl (fun i hi => (hmh i hi).symm) (fun i hi => (m61 i hi).1) (fun i hi => (m61 i hi).2) (fun i hi => (m65 i hi).2.2) (fun i hi => (m65 i hi).1)
      · rw [hb5 i b]; exact (hh i b).2 a
      · unfold IR at h5 ⊢
        rw [ex 0 (by omega), ex 19 (by omega), ex 20 (by omega), ex 21 (by omega), ex 22 (by omega), ex 23 (by omega), ex 24 (by omega), es 36 (by omega), es 37 (by omega), es 38 (by omega), es 39 (by omega), em 77 (by omega) (by omega), em 78 (by omega) (by omega), em 79 (by omega) (by omega), em 80 (by omega) (by omega), em 81 (by omega) (by omega)]
        refine Or.inr ⟨i1, P1, G1, ⟨hP1, hyy⟩, fun i hi => ⟨fun _ => (hb5 i hi).symm, (hh i hi).2⟩, ⟨⟨hQ, hG1⟩, ⟨q0, q1⟩, ⟨k0, k1⟩, hy, hwh, hwk, hwf, hwl, hwd, fun g hg k hk => ?_, hv⟩⟩
        show τ.1 (26 + g) k = σ'.1 77 (8 * g + k)
        rw [ex (26 + g) (by omega)]; exact hwg g hg k hk
      · rw [ex 0 (by omega), c8, m19, es 6 (by omega)]; exact ⟨h7, hyy⟩
    · unfold fX8_restore fX9_restore
      rw [i1, q0, p0, k1, q1, p1, if_neg (by decide), if_neg (fun z => hPP ((nI_inj (by omega) (by omega)).mp z)), if_neg (nI_ne_m1 (by omega)), if_neg (fun z => hPP ((nI_inj (by omega) (by omega)).mp z))]
      exact ⟨_, _, _, rfl, rfl, P, G, hR⟩
