theorem zeroL {G : Nat} (hG : G < 8) (c1 c2 : Int32) : ∀ (d i n : Nat) (σ : St), i + d = 8 → d < n → σ.1 58 20 = nI G → ∃ τ, fX9_gift_L40 c1 c2 n (nI i) σ = some τ ∧ (∀ a b, a ≠ 65 → τ.1 a b = σ.1 a b) ∧ (∀ j, τ.1 65 j = if 8 * G + i ≤ j ∧ j < 8 * G + 8 then 0 else σ.1 65 j) := by
  intro d
  induction d with
  | zero =>
    intro i n σ hi hn h20
    obtain ⟨n, rfl, -⟩ := su hn
    have e : i = 8 := by omega
    subst e
    rw [fX9_gift_L40, if_pos (show (8 : Int32) ≤ nI 8 by decide)]
    exact ⟨σ, rfl, fun _ _ _ => rfl, fun j => by rw [if_neg (by omega)]⟩
  | succ d ih =>
    intro i n σ hi hn h20
    obtain ⟨n, rfl, hn⟩ := su hn
    rw [fX9_gift_L40, if_neg (show ¬ (8 : Int32) ≤ nI i from nI_ge (a := i) (b := 8) (by omega) (by decide)), h20]
    simp (disch := omega) only [ix80, nI_add, grd_t (inbN (show 8 * G + i < 64 by omega) (by decide)), tcl, bnd, nI_1]
    obtain ⟨τ, e1, e2, e3⟩ := ih (i + 1) n (setI σ 65 (8 * G + i) 0) (by omega) (by omega) (by rw [setI_oo (by omega)]; exact h20)
    refine ⟨τ, e1, fun a b ha => by rw [e2 a b ha, setI_oo (by omega)], fun j => ?_⟩
    rw [e3 j]
    by_cases q : j = 8 * G + i
    · subst q
      rw [if_neg (by omega), if_pos (by omega), setI_s]
    · rw [setI_oo (by omega)]
      by_cases q2 : 8 * G + (i + 1) ≤ j ∧ j < 8 * G + 8
      · rw [if_pos q2, if_pos (by omega)]
      · rw [if_neg q2, if_neg (by omega)]
/-- gift -/
theorem s_gift (p q : Int32) {σ σ' : St} (h : Rel σ σ') : ∃ r τ τ', fX8_gift p q σ = some (r, τ) ∧ fX9_gift p q σ' = some (r, τ') ∧ Rel τ τ' := by
  obtain ⟨P, G, hR⟩ := h
  obtain ⟨h1, h2, h3, h4, h5, h6, h7⟩ := id hR
  obtain ⟨⟨hP, hG⟩, ⟨p0, p1⟩, ⟨g0, g1⟩, hy, hwh, hwk, hwf, hwl, hwd, hwg, v1, v2, v3, v4, v5, v6⟩ := id h3
  unfold fX8_gift fX9_gift
  rw [show (4 : Int64) = (4 : Int32).toInt64 from rfl, wiL]
  rcases within_c p (a := 0) (b := 4) (by decide) (by decide) with ⟨k, -, hk, rfl, e⟩ | ⟨-, e⟩
  · replace e : fX8_within (nI k) (0 : Int32) (4 : Int32) = 1 := e
    simp only [e, n10, if_false]
    rcases isP2 p0 p1 hP q with ⟨j, hj, rfl, a, b⟩ | ⟨-, a, b⟩
    · simp only [a, b, n10, if_false, g0, g1]
      by_cases h8 : G < 8
      · obtain ⟨τ0, z1, z2, z3⟩ := zeroL h8 (nI k) (nI j) 8 0 fu σ' (by omega) (fu_gt (by omega)) g1
        rw [if_pos (show nI G < (8 : Int32) from nI_lt (a := G) (b := 8) h8 (by decide)), if_neg (show ¬ nI G = (8 : Int32) from fun z => by have := (nI_eq (a := G) (b := 8) (by omega) (by decide)).mp z; omega), show (0 : Int32) = nI 0 from rfl, z1]
        unfold fX7_addGift fX3_begin
        have zg : τ0.1 58 20 = nI G := (z2 58 20 (by decide)).trans g1
        simp (disch := omega) only [Option.bind_some, bnd, g0, grd_t (inbN h8 (by decide)), tcl, setI_s, setI_oo, zg, ix80, nk1, nk2, nk3, nI_add, grd_t (inbN (show 8 * G < 64 by omega) (by decide)), grd_t (inbN (show 8 * G + 1 < 64 by omega) (by decide)), grd_t (inbN (show 8 * G + 2 < 64 by omega) (by decide)), grd_t (inbN (show 8 * G + 3 < 64 by omega) (by decide)), nI_p1]
        refine ⟨_, _, _, rfl, rfl, P, G + 1, ?_⟩
        have em : ∀ a, a ≠ 65 → τ0.1 a = σ'.1 a := fun a ha => funext fun b => z2 a b ha
        refine ⟨?_, ?_, ?_, ?_, ?_, ?_, ?_⟩
        · exact h1.cong (by simp (disch := omega) only [setI_o]) (fun k _ _ => by simp (disch := omega) only [setI_oo]; exact z2 58 k (by decide))
        · exact h2.cong (by simp (disch := omega) only [setI_oo]) (by simp (disch := omega) only [setI_o]) (by simp (disch := omega) only [setI_oo]; exact z2 58 1 (by decide)) (by simp (disch := omega) only [setI_o]; exact em 59 (by decide))
        · unfold WR
          simp (disch := omega) only [setI_o, setI_s, setI_oo, Nat.reduceAdd]
          rw [em 60 (by decide), em 61 (by decide), em 62 (by decide), em 63 (by decide), em 64 (by decide), em 58 (by decide)]
          refine ⟨⟨hP, by omega⟩, ⟨p0, p1⟩, ⟨rfl, rfl⟩, hy, hwh, hwk, hwf, hwl, hwd, ?_, v1, v2, v3, ?_, v5, v6⟩
          · intro g hg8 y hy8
            by_cases z : g = G
            · subst z
              rcases (show y = 0 ∨ y = 1 ∨ y = 2 ∨ y = 3 ∨ y = 4 ∨ y = 5 ∨ y = 6 ∨ y = 7 by omega) with rfl | rfl | rfl | rfl | rfl | rfl | rfl | rfl
              all_goals simp (disch := omega) only [setI_s, setI_oo, Nat.add_zero, Nat.reduceAdd]
              all_goals first | rfl | (rw [z3, if_pos (by omega)])
            · simp (disch := omega) only [setI_o, setI_oo]
              rw [z3, if_neg (by omega)]
              exact hwg g hg8 y hy8
          · intro g hg8
            unfold GV
            by_cases z : g = G
            · subst z
              simp (disch := omega) only [setI_s, setI_oo]
              exact ⟨⟨k, by omega, rfl⟩, ⟨j, hj, rfl⟩, ⟨j, hj, rfl⟩, Or.inl trivial, by rw [z3, if_pos (by omega)]; exact ⟨0, by decide, rfl⟩⟩
            · simp (disch := omega) only [setI_oo]
              rw [z3, z3, z3, z3, z3, if_neg (by omega), if_neg (by omega), if_neg (by omega), if_neg (by omega), if_neg (by omega)]
              exact v4 g (by omega)
        · intro i a b
          simp (disch := omega) only [setI_o]
          exact h4 i a b
        · exact h5.cong (by simp (disch := omega) only [setI_oo]) (fun a _ _ => by simp (disch := omega) only [setI_o]) (by simp (disch := omega) only [setI_o]) (fun k _ _ => by simp (disch := omega) only [setI_oo]; exact z2 58 k (by decide)) (fun a _ _ => by simp (disch := omega) only [setI_o]; exact em a (by omega))
        · exact h6.cong (fun a _ _ => by simp (disch := omega) only [setI_o]) (by simp (disch := omega) only [setI_oo]; exact z2 58 33 (by decide)) (by simp (disch := omega) only [setI_oo]; exact z2 58 34 (by decide)) (by simp (disch := omega) only [setI_o]; exact em 76 (by omega))
        · simp (disch := omega) only [setI_oo]
          rw [z2 58 6 (by decide), z2 58 19 (by decide)]; exact h7
      · have e8 : G = 8 := by omega
        subst e8
        exact ⟨-104, σ, σ', rfl, rfl, P, 8, hR⟩
    · simp only [a, b, if_true]
      exact ⟨_, _, _, rfl, rfl, P, G, hR⟩
  · replace e : fX8_within p (0 : Int32) (4 : Int32) = 0 := e
    simp only [e, if_true]
    exact ⟨_, _, _, rfl, rfl, P, G, hR⟩
