def Dc (pc oc gc : Nat) : Prop := (pc ≠ oc ∧ pc ≠ gc ∧ oc ≠ gc ∧ pc ≠ 58 ∧ oc ≠ 58 ∧ gc ≠ 58) ∧ (pc ≠ 61 ∧ oc ≠ 61 ∧ gc ≠ 61)
theorem wear_b {a κ B : Nat} (ha : a < B) : isN (nI a + wearBy κ) (B + 2) := by
  unfold wearBy
  split
  · exact ⟨a, by omega, by simp⟩
  · split
    · exact ⟨a + 2, by omega, nk2 a⟩
    · exact ⟨a + 1, by omega, nk1 a⟩
/-- a gift handed on by the class and by the law -/
theorem handL {w pc oc gc B : Nat} (hdc : Dc pc oc gc) {σ σ' : St} {P G : Nat} (h : WL w pc oc gc B σ σ' P G) {g p : Nat} (hg : g < G) (hp : p < P) {mo : Int32} (hmo : mo = σ'.1 58 3) (hl : σ'.1 gc (8 * g + 7) = 0) (hB : B ≤ 2 ^ 29) :
    ∃ r τ τ', fX7_handOn w (w + 7 + g) (nI p) mo σ = some τ ∧ fL_give pc 27 58 4 gc 64 oc 64 (nI g) (nI p) σ' = some (r, τ') ∧ WL w pc oc gc (B + 2) τ τ' P G ∧ τ.1 (w + 7 + g) 6 = r ∧ τ'.2 = σ'.2 ∧ (∀ a b, a ≠ oc → a ≠ gc → ¬ (a = pc ∧ 17 ≤ b ∧ b < 25) → τ'.1 a b = σ'.1 a b) := by
  obtain ⟨⟨hP, hG⟩, ⟨p0, p1⟩, ⟨g0, g1⟩, hwh, hwk, hwf, hwl, hwd, hwg, v1, v2, v4⟩ := id h
  have hw8 := worthL h hg (by omega)
  obtain ⟨⟨κ, hκ, eκ⟩, ⟨hm, hhm, em⟩, ⟨hh, hhh, eh⟩, hfr, ⟨wa, hwa, ewa⟩, -⟩ := v4 g hg
  obtain ⟨x0, x1, x2, x3, x4, x5, x6, x7⟩ := h.x (show g < 8 by omega)
  obtain ⟨τ, e1, t0, t5, t3, f0, f1, f2, f3, f4, f5, f6, f7⟩ := x_hand (w := w) (σ := σ) (g := g) (p := p) (mo := mo) (by omega) (by omega) (show hh < 8 by omega) hκ (x0.trans eκ) (x6.trans hl) (x2.trans eh)
  obtain ⟨τ', e2, u2, u0, uo, up, ug, q0, q1, q2, q3, q4, q5, q6, q7⟩ := l_give hdc.1 (σ := σ') (g := g) (p := p) (by omega) (by omega) (show hh < 8 by omega) hκ eκ hl eh hw8
  obtain ⟨⟨d1, d2, d3, d4, d5, d6⟩, d7, d8, d9⟩ := hdc
  have eF : fateBy κ (σ.1 (w + 7 + g) 4 + wearBy κ) mo (nI p) (σ.1 (w + 7 + g) 1) = fateBy κ (σ'.1 gc (8 * g + 4) + wearBy κ) (σ'.1 58 3) (nI p) (σ'.1 gc (8 * g + 1)) := by rw [x4, x1, hmo]
  have hpc : ∀ b, b < 17 ∨ 25 ≤ b → τ'.1 pc b = σ'.1 pc b := fun b hb => u0 pc b d1 d2 (fun q => by omega)
  refine ⟨_, τ, τ', e1, e2, ⟨⟨hP, hG⟩, ⟨?_, ?_⟩, ⟨?_, ?_⟩, ?_, ?_, ?_, ?_, ?_, ?_, ?_, ?_, ?_⟩, f6.trans eF, u2, fun a b n1 n2 n3 => u0 a b n1 n2 (fun q => n3 ⟨q.1, by omega, by omega⟩)⟩
  · rw [t0 w 0 (by omega) (by omega) (by omega)]; exact p0
  · rw [hpc 0 (by omega)]; exact p1
  · rw [t0 w 6 (by omega) (by omega) (by omega)]; exact g0
  · rw [hpc 25 (by omega)]; exact g1
  · intro i hi
    rw [t0 (w + 1) i (by omega) (by omega) (by omega), hpc _ (by omega)]; exact hwh i hi
  · intro i hi
    rw [t0 (w + 2) i (by omega) (by omega) (by omega), hpc _ (by omega)]; exact hwk i hi
  · intro i hi
    rw [t3 i, eF]
    by_cases z : i = p
    · subst z
      rw [up, hwf i hi]
      simp only [true_and]
    · rw [if_neg (fun q => z q.1), u0 pc (17 + i) d1 d2 (fun q => by omega)]
      exact hwf i hi
  · intro i hi
    rw [t0 (w + 4) i (by omega) (by omega) (by omega), u0 61 i (by omega) (by omega) (fun q => by omega)]; exact hwl i hi
  · intro i hi
    rw [t5 i, uo i, hwd i hi]
  · intro g' hg' k hk
    by_cases z : g' = g
    · subst z
      rcases (show k = 0 ∨ k = 1 ∨ k = 2 ∨ k = 3 ∨ k = 4 ∨ k = 5 ∨ k = 6 ∨ k = 7 by omega) with rfl | rfl | rfl | rfl | rfl | rfl | rfl | rfl
      · rw [f0]; exact q0.symm
      · rw [f1, x1]; exact q1.symm
      · rw [f2]; exact q2.symm
      · rw [f3]; exact q3.symm
      · rw [f4, x4]; exact q4.symm
      · rw [f5]; exact q5.symm
      · rw [f6, eF]; exact q7.symm
      · rw [f7, x7]; exact q6.symm
    · have hpm := pm_lt hk
      rw [t0 (w + 7 + g') k (by omega) (by omega) (by omega), ug _ (by omega)]
      exact hwg g' hg' k hk
  · intro i hi
    rw [hpc _ (by omega)]; exact v1 i hi
  · intro i hi
    rw [hpc _ (by omega)]; exact v2 i hi
  · intro g' hg'
    by_cases z : g' = g
    · subst z
      exact ⟨⟨κ, hκ, q0⟩, ⟨hm, hhm, q1.trans em⟩, ⟨p, hp, q2⟩, Or.inr ⟨hh, hhh, q3⟩, by rw [q4, ewa]; exact wear_b hwa, by rw [q7]; exact fate3 _ _ _ _ _⟩
    · unfold GVl
      rw [ug _ (by omega), ug _ (by omega), ug _ (by omega), ug _ (by omega), ug _ (by omega), ug _ (by omega)]
      exact (v4 g' hg').mono (by omega)
