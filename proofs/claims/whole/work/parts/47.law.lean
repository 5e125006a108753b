/-- blank -/
theorem s_blank {σ σ' : St} (h : Rel σ σ') : ∃ r τ τ', fX8_blank σ = some (r, τ) ∧ fX9_blank σ' = some (r, τ') ∧ Rel τ τ' := by
  obtain ⟨P, G, hR⟩ := h
  obtain ⟨h1, ⟨S, hS, s0, s1, hp⟩, h3, h4, h5, h6, h7⟩ := id hR
  refine ⟨nI S, setI σ 1 1 0, setI σ' 58 1 0, by unfold fX8_blank; simp only [bnd, s0], by unfold fX9_blank; simp only [bnd, s1], P, G, ?_⟩
  unfold RR LR PR WR IR BR
  simp (disch := omega) only [setI_o, setI_s, setI_oo, Nat.reduceAdd]
  exact ⟨h1, ⟨0, by omega, rfl, rfl, hp⟩, h3.gifts (fun g hg => by simp (disch := omega) only [setI_o]), h4, by
    rcases h5 with q | ⟨q1, P1, G1, q2, q3, q4⟩
    · exact Or.inl q
    · exact Or.inr ⟨q1, P1, G1, q2, q3, q4.gifts (fun g hg => by simp (disch := omega) only [setI_o])⟩, h6, h7⟩
/-- lawTold -/
theorem lawTold2 {σ σ' : St} (h1 : LR σ σ') (p : Int32) : fX8_lawTold p σ = fX9_lawTold p σ' := by
  obtain ⟨a, b, c, d, e, f⟩ := h1
  unfold fX8_lawTold fX9_lawTold fX9_tellLaw
  have bb : ∀ z : Int32, z = 0 ∨ z = 1 → (if z = 0 then (0 : Int32) else (1 : Int32)) = z := by
    rintro z (rfl | rfl) <;> rfl
  rw [bb _ e, bb _ f, a, b, c, d]
  rcases within_c p (a := 0) (b := 3) (by decide) (by decide) with ⟨y, -, hy9, rfl, z⟩ | ⟨hn, z⟩
  · replace z : fX8_within (nI y) (0 : Int32) (3 : Int32) = 1 := z
    simp only [z, n10, if_false]
    rcases (show y = 0 ∨ y = 1 ∨ y = 2 ∨ y = 3 by omega) with rfl | rfl | rfl | rfl <;> rfl
  · replace z : fX8_within p (0 : Int32) (3 : Int32) = 0 := z
    simp only [z, if_true]
    rw [if_neg (show ¬ p = (0 : Int32) from hn 0 (by omega) (by omega)), if_neg (show ¬ p = (1 : Int32) from hn 1 (by omega) (by omega)), if_neg (show ¬ p = (2 : Int32) from hn 2 (by omega) (by omega)), if_neg (show ¬ p = (3 : Int32) from hn 3 (by omega) (by omega))]
/-- the page as an automaton -/
noncomputable def autS (f : Nat → Int32) : Nat → Int32
  | 0 => 0
  | i + 1 => if autS f i = -1 then -1 else fX5_behind (autS f i) (f i)
theorem aut_dead {f : Nat → Int32} {i : Nat} (h : autS f i = -1) : ∀ d, autS f (i + d) = -1
  | 0 => h
  | d + 1 => by rw [← Nat.add_assoc, autS, if_pos (aut_dead h d)]
theorem beh_rng : ∀ s, s ≤ 6 → ∀ c : Int32, fX5_behind (nI s) c = -1 ∨ ∃ t, t ≤ 6 ∧ fX5_behind (nI s) c = nI t := by
  intro s hs c
  have k : ∀ (p : Prop) [Decidable p] (a b : Int32), (a = -1 ∨ ∃ t, t ≤ 6 ∧ a = nI t) → (b = -1 ∨ ∃ t, t ≤ 6 ∧ b = nI t) → ((if p then a else b) = -1 ∨ ∃ t, t ≤ 6 ∧ (if p then a else b) = nI t) := by
    intro p _ a b ha hb
    by_cases q : p
    · rw [if_pos q]; exact ha
    · rw [if_neg q]; exact hb
  have m1 : ((-1 : Int32) = -1 ∨ ∃ t, t ≤ 6 ∧ (-1 : Int32) = nI t) := Or.inl rfl
  have l (n : Nat) (hn : n ≤ 6) : ((OfNat.ofNat n : Int32) = -1 ∨ ∃ t, t ≤ 6 ∧ (OfNat.ofNat n : Int32) = nI t) := Or.inr ⟨n, hn, rfl⟩
  unfold fX5_behind
  repeat' (first | exact m1 | exact l 1 (by decide) | exact l 2 (by decide) | exact l 3 (by decide) | exact l 4 (by decide) | exact l 5 (by decide) | exact l 6 (by decide) | apply k)
theorem go2 {σ : St} {s : Nat} (hs : s ≤ 6) (h7 : σ.1 58 7 = nI s) (c : Int32) : ∃ τ, fX9_go c σ = some (if fX5_behind (nI s) c = -1 then (0 : Int32) else (1 : Int32), τ) ∧ (¬ fX5_behind (nI s) c = -1 → τ.1 58 7 = fX5_behind (nI s) c ∧ τ.1 58 8 = (if s = 1 then c - 48 else σ.1 58 8) ∧ τ.1 58 9 = (if s ≠ 1 ∧ s ≠ 5 ∧ c = 98 then 1 else σ.1 58 9) ∧ τ.1 58 10 = (if s ≠ 1 ∧ s ≠ 5 ∧ c = 111 then 1 else σ.1 58 10) ∧ τ.1 58 11 = (if s = 5 then c - 48 else σ.1 58 11)) := by
  unfold fX9_go fX5_behind
  rw [h7, show (49 : Int64) = (49 : Int32).toInt64 from rfl, show (51 : Int64) = (51 : Int32).toInt64 from rfl, show (57 : Int64) = (57 : Int32).toInt64 from rfl, wi2, wi2]
  rcases (show s = 0 ∨ s = 1 ∨ s = 2 ∨ s = 3 ∨ s = 4 ∨ s = 5 ∨ s = 6 by omega) with rfl | rfl | rfl | rfl | rfl | rfl | rfl
  · rw [show nI 0 = (0 : Int32) from rfl] at h7 ⊢
    by_cases c1 : c = 107
    · subst c1
      simp (disch := omega) [bnd, setI_s, setI_oo, h7]
    · by_cases c2 : c = 98
      · subst c2
        simp (disch := omega) [bnd, setI_s, setI_oo, h7]
      · by_cases c3 : c = 111
        · subst c3
          simp (disch := omega) [bnd, setI_s, setI_oo, h7]
        · by_cases c4 : c = 119
          · subst c4
            simp (disch := omega) [bnd, setI_s, setI_oo, h7]
          · simp (disch := omega) [bnd, setI_s, setI_oo, h7, c1, c2, c3, c4]
  · rw [show nI 1 = (1 : Int32) from rfl] at h7 ⊢
    rcases bX8_within c 49 51 with w | w
    · simp (disch := omega) only [w, bnd, if_true]
      skip
      first | exact ⟨_, rfl, fun z => absurd trivial z⟩ | exact ⟨_, rfl, fun z => absurd rfl z⟩
    · simp (disch := omega) only [w, bnd, n10, if_true, if_false]
      skip
      refine ⟨_, rfl, fun _ => ?_⟩
      simp (disch := omega) [setI_s, setI_oo]
  · rw [show nI 2 = (2 : Int32) from rfl] at h7 ⊢
    by_cases c1 : c = 107
    · subst c1
      simp (disch := omega) [bnd, setI_s, setI_oo, h7]
    · by_cases c2 : c = 98
      · subst c2
        simp (disch := omega) [bnd, setI_s, setI_oo, h7]
      · by_cases c3 : c = 111
        · subst c3
          simp (disch := omega) [bnd, setI_s, setI_oo, h7]
        · by_cases c4 : c = 119
          · subst c4
            simp (disch := omega) [bnd, setI_s, setI_oo, h7]
          · simp (disch := omega) [bnd, setI_s, setI_oo, h7, c1, c2, c3, c4]
  · rw [show nI 3 = (3 : Int32) from rfl] at h7 ⊢
    by_cases c1 : c = 107
    · subst c1
      simp (disch := omega) [bnd, setI_s, setI_oo, h7]
    · by_cases c2 : c = 98
      · subst c2
        simp (disch := omega) [bnd, setI_s, setI_oo, h7]
      · by_cases c3 : c = 111
        · subst c3
          simp (disch := omega) [bnd, setI_s, setI_oo, h7]
        · by_cases c4 : c = 119
          · subst c4
            simp (disch := omega) [bnd, setI_s, setI_oo, h7]
          · simp (disch := omega) [bnd, setI_s, setI_oo, h7, c1, c2, c3, c4]
  · rw [show nI 4 = (4 : Int32) from rfl] at h7 ⊢
    by_cases c1 : c = 107
    · subst c1
      simp (disch := omega) [bnd, setI_s, setI_oo, h7]
    · by_cases c2 : c = 98
      · subst c2
        simp (disch := omega) [bnd, setI_s, setI_oo, h7]
      · by_cases c3 : c = 111
        · subst c3
          simp (disch := omega) [bnd, setI_s, setI_oo, h7]
        · by_cases c4 : c = 119
          · subst c4
            simp (disch := omega) [bnd, setI_s, setI_oo, h7]
          · simp (disch := omega) [bnd, setI_s, setI_oo, h7, c1, c2, c3, c4]
  · rw [show nI 5 = (5 : Int32) from rfl] at h7 ⊢
    rcases bX8_within c 49 57 with w | w
    · simp (disch := omega) only [w, bnd, if_true]
      rw [if_neg (show ¬ (5 : Int32) = 1 by decide), if_neg (show ¬ (5 : Int32) = 1 by decide)]
      first | exact ⟨_, rfl, fun z => absurd trivial z⟩ | exact ⟨_, rfl, fun z => absurd rfl z⟩
    · simp (disch := omega) only [w, bnd, n10, if_true, if_false]
      rw [if_neg (show ¬ (5 : Int32) = 1 by decide), if_neg (show ¬ (5 : Int32) = 1 by decide)]
      refine ⟨_, rfl, fun _ => ?_⟩
      simp (disch := omega) [setI_s, setI_oo]
  · rw [show nI 6 = (6 : Int32) from rfl] at h7 ⊢
    by_cases c1 : c = 107
    · subst c1
      simp (disch := omega) [bnd, setI_s, setI_oo, h7]
    · by_cases c2 : c = 98
      · subst c2
        simp (disch := omega) [bnd, setI_s, setI_oo, h7]
      · by_cases c3 : c = 111
        · subst c3
          simp (disch := omega) [bnd, setI_s, setI_oo, h7]
        · by_cases c4 : c = 119
          · subst c4
            simp (disch := omega) [bnd, setI_s, setI_oo, h7]
          · simp (disch := omega) [bnd, setI_s, setI_oo, h7, c1, c2, c3, c4]
