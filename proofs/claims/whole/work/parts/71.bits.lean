/-- from whom, by the number of the state -/
def frF (f : Nat) : Int32 := if f = 0 then -1 else nI (f - 1)
theorem frF_is {f P : Nat} (hf : f ≤ P) (hP : P ≤ 8) : isFr (frF f) f ∧ (frF f = -1 ∨ isN (frF f) P) := by
  unfold frF
  by_cases z : f = 0
  · rw [if_pos z]; exact ⟨Or.inl ⟨rfl, z⟩, Or.inl rfl⟩
  · rw [if_neg z]; exact ⟨Or.inr ⟨f - 1, by omega, rfl, by omega⟩, Or.inr ⟨f - 1, by omega, rfl⟩⟩
theorem WR.of1 {w : Nat} {σ σ' τ τ' : St} {P G : Nat} (h : WR w σ σ' P G) (e : τ.1 = σ.1) (e' : τ'.1 = σ'.1) : WR w τ τ' P G := by
  unfold WR at h ⊢
  rw [e, e']
  exact h
theorem bits2 {w : Nat} {σ σ' : St} {P G : Nat} (h : WR w σ σ' P G) {bk : Int32} (hb : bk = 0 ∨ bk = 1) (hb2 : bk = σ'.1 58 3) : ∃ B : Nat → Nat → Nat, ∀ f h, f ≤ P → h < P → B f h < 2 ^ P ∧ (∀ τ : St, τ.1 = σ.1 → fX7_mayHave w (frF f) (nI h) bk τ = some (nI (B f h))) ∧ (∀ τ' : St, τ'.1 = σ'.1 → fX9_mayHave (nI h) (frF f) τ' = some (nI (B f h))) := by
  have hP := h.1.1
  have key : ∀ f k, ∃ b, f ≤ P → k < P → b < 2 ^ P ∧ (∀ τ : St, τ.1 = σ.1 → fX7_mayHave w (frF f) (nI k) bk τ = some (nI b)) ∧ (∀ τ' : St, τ'.1 = σ'.1 → fX9_mayHave (nI k) (frF f) τ' = some (nI b)) := by
    intro f k
    by_cases z : f ≤ P ∧ k < P
    · obtain ⟨hf, hk⟩ := z
      have hfr := (frF_is hf hP).2
      obtain ⟨b, hb1, x, m⟩ := may2 h (show k < 8 by omega) hb hb2 hfr
      refine ⟨b, fun _ _ => ⟨hb1, fun τ e => ?_, fun τ' e => ?_⟩⟩
      · obtain ⟨b2, -, x2, m2⟩ := may2 (h.of1 (τ := τ) (τ' := σ') e rfl) (show k < 8 by omega) hb hb2 hfr
        rw [m] at m2
        rw [x2, ← Option.some.inj m2]
      · obtain ⟨b2, -, x2, m2⟩ := may2 (h.of1 (τ := σ) (τ' := τ') rfl e) (show k < 8 by omega) hb (by rw [e]; exact hb2) hfr
        rw [x] at x2
        rw [m2, ← Option.some.inj x2]
    · exact ⟨0, fun hf hk => absurd ⟨hf, hk⟩ z⟩
  exact ⟨fun f k => Classical.choose (key f k), fun f k => Classical.choose_spec (key f k)⟩
