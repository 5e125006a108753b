theorem move_2 {g : Nat} {p m : Int32} {σ τ : St} (hf : fX3_moveTo g p m σ = some τ) : τ.2 = σ.2 := by
  unfold fX3_moveTo at hf
  obtain ⟨σ1, h1, hf⟩ := bnd_elim hf
  obtain ⟨σ2, h2, hf⟩ := bnd_elim hf
  obtain ⟨σ3, h3, hf⟩ := bnd_elim hf
  obtain ⟨σ4, h4, hf⟩ := bnd_elim hf
  have e4 : σ4.2 = σ.2 := by rw [h4, h3, h2, h1]; rfl
  obtain ⟨q6, h6, hf⟩ := obind hf
  have e6 : q6.2 = σ.2 := by
    by_cases c1 : (σ4.1 g 0) = (4 : Int32)
    · rw [if_pos c1] at h6
      obtain ⟨σ5, h5, h6⟩ := bnd_elim h6
      have hq := Option.some.inj h6
      rw [← hq, h5]; exact e4
    · rw [if_neg c1] at h6
      by_cases c2 : (σ4.1 g 0) = (2 : Int32)
      · rw [if_pos c2] at h6
        have hq := Option.some.inj h6
        rw [← hq]; exact e4
      · rw [if_neg c2] at h6
        obtain ⟨σ5, h5, h6⟩ := bnd_elim h6
        have hq := Option.some.inj h6
        rw [← hq, h5]; exact e4
  have last : ∀ {z : Int32}, (if (q6.1 g 2) = (q6.1 g 1) then (bnd (setI q6 g 6 z) fun σ9 => some σ9) else some q6) = some τ → τ.2 = σ.2 := by
    intro z h
    by_cases c : (q6.1 g 2) = (q6.1 g 1)
    · rw [if_pos c] at h
      obtain ⟨σ9, h9, h⟩ := bnd_elim h
      have hq := Option.some.inj h
      rw [← hq, h9]; exact e6
    · rw [if_neg c] at h
      have hq := Option.some.inj h
      rw [← hq]; exact e6
  by_cases c3 : (fX3_isOf g (1 : Int32) q6) = 0
  · rw [if_pos c3] at hf
    exact last hf
  · rw [if_neg c3] at hf
    by_cases c4 : (q6.1 g 4) < m
    · rw [if_pos c4] at hf
      exact last hf
    · rw [if_neg c4] at hf
      obtain ⟨σ9, h9, hf⟩ := bnd_elim hf
      have hq := Option.some.inj hf
      rw [← hq, h9]; exact e6
theorem handOn_2 {w g : Nat} {p m : Int32} {σ τ : St} (hf : fX7_handOn w g p m σ = some τ) : τ.2 = σ.2 := by
  unfold fX7_handOn at hf
  obtain ⟨-, hf⟩ := grd_elim hf
  obtain ⟨-, hf⟩ := grd_elim hf
  obtain ⟨σ3, h3, hf⟩ := bnd_elim hf
  obtain ⟨q4, h4, hf⟩ := obind hf
  have e4 : q4.2 = σ.2 := by rw [move_2 h4, h3]; rfl
  by_cases c : (q4.1 g 6) = (1 : Int32)
  · rw [if_pos c] at hf
    obtain ⟨-, hf⟩ := grd_elim hf
    obtain ⟨-, hf⟩ := grd_elim hf
    obtain ⟨σ8, h8, hf⟩ := bnd_elim hf
    have hq := Option.some.inj hf
    rw [← hq, h8]; exact e4
  · rw [if_neg c] at hf
    have hq := Option.some.inj hf
    rw [← hq]; exact e4
theorem ages_2 (w : Nat) : ∀ (n : Nat) (v : Int32) (σ τ : St), fX7_passYear_n_L12 w n v σ = some τ → τ.2 = σ.2 := by
  intro n
  induction n with
  | zero => intro v σ τ h; rw [fX7_passYear_n_L12] at h; cases h
  | succ n ih =>
    intro v σ τ h
    rw [fX7_passYear_n_L12] at h
    by_cases c : (σ.1 w 6) ≤ v
    · rw [if_pos c] at h
      have hq := Option.some.inj h
      rw [← hq]
    · rw [if_neg c] at h
      obtain ⟨-, h⟩ := grd_elim h
      by_cases c2 : (fX3_lives (w + 7 + v.toNatClampNeg) σ) = 0
      · rw [if_pos c2] at h
        exact ih _ _ _ h
      · rw [if_neg c2] at h
        obtain ⟨-, h⟩ := grd_elim h
        obtain ⟨σ6, h6, h⟩ := bnd_elim h
        rw [ih _ _ _ h, h6]; rfl
theorem ages_s (w : Nat) : ∀ (n : Nat) (v : Int32) (σ : St), fX7_passYear_L12 w n v σ = fX7_passYear_n_L12 w n v σ := by
  intro n
  induction n with
  | zero => intro v σ; rfl
  | succ n ih =>
    intro v σ
    rw [fX7_passYear_L12, fX7_passYear_n_L12]
    simp only [ih]
theorem bit_lt {P b c : Nat} (hb : b < 2 ^ P) (hc : b.testBit c = true) : c < P := by
  refine Nat.lt_of_not_le (fun q => ?_)
  rw [Nat.testBit_lt_two_pow (Nat.lt_of_lt_of_le hb (Nat.pow_le_pow_right (by decide) q))] at hc
  cases hc
