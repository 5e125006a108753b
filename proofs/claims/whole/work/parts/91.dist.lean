/-! STRANGER: how many hands -/
theorem or_nI (a b : Nat) : nI a ||| nI b = nI (a ||| b) := by
  apply Int32.toBitVec_inj.mp
  show BitVec.ofNat 32 a ||| BitVec.ofNat 32 b = BitVec.ofNat 32 (a ||| b)
  rw [BitVec.ofNat_or]
/-- one comes from a to b in n hands or fewer -/
def rch (P : Nat) (Kn : Nat → Nat) : Nat → Nat → Nat → Prop
  | 0, a, b => a = b
  | n + 1, a, b => rch P Kn n a b ∨ ∃ z, z < P ∧ (Kn a).testBit z = true ∧ rch P Kn n z b
theorem rch_more {P : Nat} {Kn : Nat → Nat} {a b m : Nat} : ∀ {n : Nat}, m ≤ n → rch P Kn m a b → rch P Kn n a b
  | 0, h, r => by rw [Nat.le_zero.mp h] at r; exact r
  | n + 1, h, r => by
    by_cases e : m = n + 1
    · rw [← e]; exact r
    · exact Or.inl (rch_more (n := n) (by omega) r)
/-- by the last hand -/
theorem rch_last {P : Nat} {Kn : Nat → Nat} : ∀ {n a b : Nat}, a < P → b < P → (rch P Kn (n + 1) a b ↔ rch P Kn n a b ∨ ∃ z, z < P ∧ rch P Kn n a z ∧ (Kn z).testBit b = true)
  | 0, a, b, ha, hb => by
    constructor
    · rintro (h | ⟨z, hz, hk, h⟩)
      · exact Or.inl h
      · have h : z = b := h
        exact Or.inr ⟨a, ha, rfl, by rw [← h]; exact hk⟩
    · rintro (h | ⟨z, hz, h, hk⟩)
      · exact Or.inl h
      · have h : a = z := h
        rw [← h] at hk
        exact Or.inr ⟨b, hb, hk, rfl⟩
  | n + 1, a, b, ha, hb => by
    constructor
    · rintro (h | ⟨z, hz, hk, h⟩)
      · exact Or.inl h
      · rcases (rch_last hz hb).mp h with h | ⟨y, hy, h, hk2⟩
        · exact Or.inl (Or.inr ⟨z, hz, hk, h⟩)
        · exact Or.inr ⟨y, hy, Or.inr ⟨z, hz, hk, h⟩, hk2⟩
    · rintro (h | ⟨z, hz, h, hk⟩)
      · exact Or.inl h
      · rcases h with h | ⟨y, hy, hk2, h⟩
        · exact Or.inl ((rch_last ha hb).mpr (Or.inr ⟨z, hz, h, hk⟩))
        · exact Or.inr ⟨y, hy, hk2, (rch_last hy hb).mpr (Or.inr ⟨z, hz, h, hk⟩)⟩
/-- whom anybody of S below i knows -/
def anyS (Kn : Nat → Nat) (S : Nat) : Nat → Nat
  | 0 => 0
  | i + 1 => if S.testBit i = true then anyS Kn S i ||| Kn i else anyS Kn S i
def ball (P : Nat) (Kn : Nat → Nat) (a : Nat) : Nat → Nat
  | 0 => 2 ^ a
  | n + 1 => ball P Kn a n ||| anyS Kn (ball P Kn a n) P
theorem any_bit {Kn : Nat → Nat} {S v : Nat} : ∀ {i : Nat}, (anyS Kn S i).testBit v = true ↔ ∃ z, z < i ∧ S.testBit z = true ∧ (Kn z).testBit v = true
  | 0 => by
    constructor
    · intro h
      simp [anyS] at h
    · rintro ⟨z, hz, -⟩
      omega
  | i + 1 => by
    rw [anyS]
    by_cases y : S.testBit i = true
    · rw [if_pos y, Nat.testBit_or, Bool.or_eq_true, any_bit (i := i)]
      constructor
      · rintro (⟨z, hz, h⟩ | h)
        · exact ⟨z, by omega, h⟩
        · exact ⟨i, by omega, y, h⟩
      · rintro ⟨z, hz, h1, h2⟩
        by_cases e : z = i
        · rw [e] at h2; exact Or.inr h2
        · exact Or.inl ⟨z, by omega, h1, h2⟩
    · rw [if_neg y, any_bit (i := i)]
      constructor
      · rintro ⟨z, hz, h⟩
        exact ⟨z, by omega, h⟩
      · rintro ⟨z, hz, h1, h2⟩
        have e : z ≠ i := fun e => y (by rw [← e]; exact h1)
        exact ⟨z, by omega, h1, h2⟩
theorem any_lt {P : Nat} {Kn : Nat → Nat} {S : Nat} (hK : ∀ h, h < 8 → Kn h < 2 ^ P) : ∀ {i : Nat}, i ≤ 8 → anyS Kn S i < 2 ^ P
  | 0, _ => Nat.pos_of_ne_zero (by simp)
  | i + 1, h => by
    rw [anyS]
    split
    · exact Nat.or_lt_two_pow (any_lt hK (by omega)) (hK i (by omega))
    · exact any_lt hK (by omega)
theorem ball_lt {P : Nat} {Kn : Nat → Nat} {a : Nat} (hP : P ≤ 8) (hK : ∀ h, h < 8 → Kn h < 2 ^ P) (ha : a < P) : ∀ n, ball P Kn a n < 2 ^ P
  | 0 => Nat.pow_lt_pow_right (by decide) ha
  | n + 1 => Nat.or_lt_two_pow (ball_lt hP hK ha n) (any_lt hK hP)
theorem ball_bit {P : Nat} {Kn : Nat → Nat} {a : Nat} (ha : a < P) : ∀ {n b : Nat}, b < P → ((ball P Kn a n).testBit b = true ↔ rch P Kn n a b)
  | 0, b, hb => by
    rw [ball, Nat.testBit_two_pow, rch]
    exact decide_eq_true_iff
  | n + 1, b, hb => by
    rw [ball, Nat.testBit_or, Bool.or_eq_true, any_bit, ball_bit ha hb, rch_last ha hb]
    constructor
    · rintro (h | ⟨z, hz, h1, h2⟩)
      · exact Or.inl h
      · exact Or.inr ⟨z, hz, (ball_bit ha hz).mp h1, h2⟩
    · rintro (h | ⟨z, hz, h1, h2⟩)
      · exact Or.inl h
      · exact Or.inr ⟨z, hz, (ball_bit ha hz).mpr h1, h2⟩
theorem pcs_sub {S T : Nat} : ∀ n, (∀ i, i < n → S.testBit i = true → T.testBit i = true) → pcs S n ≤ pcs T n
  | 0, _ => Nat.le_refl 0
  | n + 1, h => by
    rw [pcs, pcs]
    have h1 := pcs_sub n (fun i hi => h i (by omega))
    by_cases y : S.testBit n = true
    · rw [if_pos y, if_pos (h n (by omega) y)]; omega
    · rw [if_neg y]; omega
theorem pcs_sub_lt {S T k : Nat} (h1 : T.testBit k = true) (h2 : ¬ S.testBit k = true) : ∀ n, k < n → (∀ i, i < n → S.testBit i = true → T.testBit i = true) → pcs S n < pcs T n
  | 0, h, _ => by omega
  | n + 1, hk, h => by
    rw [pcs, pcs]
    by_cases e : k = n
    · have h3 := pcs_sub (S := S) (T := T) n (fun i hi => h i (by omega))
      rw [e] at h1 h2
      rw [if_pos h1, if_neg h2]; omega
    · have h3 := pcs_sub_lt h1 h2 n (by omega) (fun i hi => h i (by omega))
      by_cases y : S.testBit n = true
      · rw [if_pos y, if_pos (h n (by omega) y)]; omega
      · rw [if_neg y]; omega
theorem pcs_pow : ∀ a, a < 8 → pcs (2 ^ a) 8 = 1 := by decide +kernel
theorem ball_stop {P : Nat} {Kn : Nat → Nat} {a : Nat} (hP : P ≤ 8) (hK : ∀ h, h < 8 → Kn h < 2 ^ P) (ha : a < P) : ∃ n, n ≤ 7 ∧ ball P Kn a (n + 1) = ball P Kn a n := by
  apply Classical.byContradiction
  intro q
  have grow : ∀ n, n ≤ 8 → n + 1 ≤ pcs (ball P Kn a n) 8 := by
    intro n
    induction n with
    | zero =>
      intro _
      rw [ball, pcs_pow a (by omega)]
      exact Nat.le_refl _
    | succ n ih =>
      intro hn
      have h1 := ih (by omega)
      have h2 : ball P Kn a (n + 1) ≠ ball P Kn a n := fun e => q ⟨n, by omega, e⟩
      have h3 : ∃ k, k < 8 ∧ (ball P Kn a (n + 1)).testBit k = true ∧ ¬ (ball P Kn a n).testBit k = true := by
        apply Classical.byContradiction
        intro w
        apply h2
        apply Nat.eq_of_testBit_eq
        intro k
        cases h : (ball P Kn a n).testBit k with
        | true => rw [ball, Nat.testBit_or, h]; rfl
        | false =>
          cases h' : (ball P Kn a (n + 1)).testBit k with
          | false => rfl
          | true =>
            have hk := tb_lt (ball_lt hP hK ha (n + 1)) h'
            exact absurd ⟨k, by omega, h', by rw [h]; decide⟩ w
      obtain ⟨k, hk, k1, k2⟩ := h3
      have h4 := pcs_sub_lt k1 k2 8 hk (fun i _ hi => by rw [ball, Nat.testBit_or, hi]; rfl)
      omega
  have h1 := grow 8 (Nat.le_refl 8)
  have h2 := pcs_le (ball P Kn a 8) 8
  omega
theorem ball_st {P : Nat} {Kn : Nat → Nat} {a n : Nat} (e : ball P Kn a (n + 1) = ball P Kn a n) : ∀ d, ball P Kn a (n + d) = ball P Kn a n
  | 0 => rfl
  | d + 1 => by
    rw [← Nat.add_assoc, ball, ball_st e d]
    rw [ball] at e
    exact e
/-- seven hands are as good as any -/
theorem rch7 {P : Nat} {Kn : Nat → Nat} {a b d : Nat} (hP : P ≤ 8) (hK : ∀ h, h < 8 → Kn h < 2 ^ P) (ha : a < P) (hb : b < P) (h : rch P Kn d a b) : rch P Kn 7 a b := by
  by_cases z : d ≤ 7
  · exact rch_more z h
  · obtain ⟨n, hn, e⟩ := ball_stop hP hK ha
    have h1 := (ball_bit ha hb).mpr h
    have h2 := ball_st e (d - n)
    rw [show n + (d - n) = d by omega] at h2
    rw [h2] at h1
    exact rch_more hn ((ball_bit ha hb).mp h1)
/-- just so many hands -/
def Dst (P : Nat) (Kn : Nat → Nat) (a b n : Nat) : Prop := rch P Kn n a b ∧ ∀ m, m < n → ¬ rch P Kn m a b
theorem Dst.eq {P : Nat} {Kn : Nat → Nat} {a b m n : Nat} (h : Dst P Kn a b m) (h2 : Dst P Kn a b n) : m = n := by
  rcases Nat.lt_trichotomy m n with z | z | z
  · exact absurd h.1 (h2.2 m z)
  · exact z
  · exact absurd h2.1 (h.2 n z)
