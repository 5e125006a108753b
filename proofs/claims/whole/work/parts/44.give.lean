/-- the law's part of the relation in one of its uses -/
theorem LR.bk {σ σ' : St} (h : LR σ σ') : (σ.1 3 1 = 0 ∨ σ.1 3 1 = 1) ∧ σ.1 3 1 = σ'.1 58 3 := ⟨h.2.2.2.2.1, h.2.1⟩
theorem who2 {σ σ' : St} {P G : Nat} (h1 : LR σ σ') (h : WR 4 σ σ' P G) {g : Nat} (hg : g < G) : ∃ b, b < 2 ^ P ∧ fX8_whoMayHave (nI g) σ = some (nI b) ∧ fX9_mayOf (nI g) σ' = some (nI b) := by
  obtain ⟨⟨hP, hG⟩, -, -, -, -, -, -, -, -, hwg, v1, v2, v3, v4, v5⟩ := id h
  obtain ⟨g1, g2, ⟨k, hk, ek⟩, g4, g5⟩ := v4 g hg
  obtain ⟨b, hb, e1, e2⟩ := may2 h (show k < 8 by omega) h1.bk.1 h1.bk.2 (fr := σ'.1 65 (8 * g + 3)) g4
  refine ⟨b, hb, ?_, ?_⟩
  · unfold fX8_whoMayHave
    rw [grd_t (inbN (show g < 8 by omega) (by decide)), tcl (by omega), show σ.1 (4 + 7 + g) 3 = σ'.1 65 (8 * g + 3) from hwg g (by omega) 3 (by decide), show σ.1 (4 + 7 + g) 2 = nI k from (hwg g (by omega) 2 (by decide)).trans ek, e1]
    rfl
  · unfold fX9_mayOf
    simp (disch := omega) only [ix80, nk2, nk3, grd_t (inbN (show 8 * g + 2 < 64 by omega) (by decide)), grd_t (inbN (show 8 * g + 3 < 64 by omega) (by decide)), tcl, ek]
    rw [e2]
    rfl
/-- may -/
theorem s_may (p : Int32) {σ σ' : St} (h : Rel σ σ') : ∃ r, fX8_may p σ = some r ∧ fX9_may p σ' = some r := by
  obtain ⟨P, G, h1, h2, h3, h4, h5, h6, h7⟩ := h
  obtain ⟨⟨hP, hG⟩, ⟨p0, p1⟩, ⟨g0, g1⟩, -⟩ := id h3
  unfold fX8_may fX9_may
  rcases isG2 g0 g1 hG p with ⟨k, hk, rfl, a, b⟩ | ⟨-, a, b⟩
  · simp only [a, b, n10, if_false]
    obtain ⟨m, -, e1, e2⟩ := who2 h1 h3 hk
    rw [grd_t (inbN (show k < 8 by omega) (by decide)), tcl (by omega), xlives h3 (show k < 8 by omega), mlives (by omega), e1, e2]
    simp only [Option.bind_some]
    by_cases z : σ'.1 65 (8 * k + 6) = 0
    · simp only [z, if_true, n10, if_false]; exact ⟨_, rfl, rfl⟩
    · simp only [z, if_false, if_true]; exact ⟨_, rfl, rfl⟩
  · simp only [a, b, if_true]
    exact ⟨_, rfl, rfl⟩
/-- what a gift is once it was given: how much more wear, how it is then -/
def wearBy (κ : Nat) : Int32 := if κ = 2 then 0 else if κ = 4 then 2 else 1
def fateBy (κ : Nat) (wr mo : Int32) (p home : Int32) : Int32 := if (κ = 1 ∨ κ = 4) ∧ ¬ wr < mo then 2 else if p = home then 1 else 0
theorem x_move {σ : St} {g : Nat} {p mo : Int32} {κ : Nat} (hκ : κ < 5) (h0 : σ.1 g 0 = nI κ) (h6 : σ.1 g 6 = 0) : ∃ τ, fX3_moveTo g p mo σ = some τ ∧ (∀ a b, a ≠ g → τ.1 a b = σ.1 a b) ∧ τ.1 g 0 = nI κ ∧ τ.1 g 1 = σ.1 g 1 ∧ τ.1 g 2 = p ∧ τ.1 g 3 = σ.1 g 2 ∧ τ.1 g 4 = σ.1 g 4 + wearBy κ ∧ τ.1 g 5 = 0 ∧ τ.1 g 6 = fateBy κ (σ.1 g 4 + wearBy κ) mo p (σ.1 g 1) ∧ τ.1 g 7 = σ.1 g 7 + 1 := by
  unfold fX3_moveTo fX3_isOf
  generalize hh : σ.1 g 1 = hm
  generalize hw : σ.1 g 4 = wr
  have z0 : ∀ z : Int32, z + 0 = z := fun z => by simp
  have zz : ∀ z : Int32, z + 0 = z := fun z => by simp
  rcases (show κ = 0 ∨ κ = 1 ∨ κ = 2 ∨ κ = 3 ∨ κ = 4 by omega) with rfl | rfl | rfl | rfl | rfl
  · simp (disch := omega) only [bnd, Option.bind_some, setI_s, setI_oo, h0, hh, hw, h6, show (nI 0 = (4 : Int32)) = False from by decide, show (nI 0 = (2 : Int32)) = False from by decide, show ((1 : Int32) = nI 0) = False from by decide, n10, if_false, if_true]
    by_cases c2 : p = hm
    · rw [if_pos c2]
      refine ⟨_, rfl, fun a b ha => ?_, ?_, ?_, ?_, ?_, ?_, ?_, ?_, ?_⟩
      all_goals first | (simp (disch := omega) only [setI_o, setI_s, setI_oo, h0, hh, hw, h6, wearBy, if_true, if_false]; done) | (simp (disch := omega) [setI_o, setI_s, setI_oo, h0, hh, hw, h6, wearBy, fateBy, c2]; done)
    · rw [if_neg c2]
      refine ⟨_, rfl, fun a b ha => ?_, ?_, ?_, ?_, ?_, ?_, ?_, ?_, ?_⟩
      all_goals first | (simp (disch := omega) only [setI_o, setI_s, setI_oo, h0, hh, hw, h6, wearBy, if_true, if_false]; done) | (simp (disch := omega) [setI_o, setI_s, setI_oo, h0, hh, hw, h6, wearBy, fateBy, c2]; done)
  · simp (disch := omega) only [bnd, Option.bind_some, setI_s, setI_oo, h0, hh, hw, h6, show (nI 1 = (4 : Int32)) = False from by decide, show (nI 1 = (2 : Int32)) = False from by decide, show ((1 : Int32) = nI 1) = True from by decide, n10, if_false, if_true]
    by_cases c1 : wr + (1 : Int32) < mo
    · rw [if_pos c1]
      by_cases c2 : p = hm
      · rw [if_pos c2]
        refine ⟨_, rfl, fun a b ha => ?_, ?_, ?_, ?_, ?_, ?_, ?_, ?_, ?_⟩
        all_goals first | (simp (disch := omega) only [setI_o, setI_s, setI_oo, h0, hh, hw, h6, wearBy, if_true, if_false]; done) | (simp (disch := omega) [setI_o, setI_s, setI_oo, h0, hh, hw, h6, wearBy, fateBy, c1, c2]; done)
      · rw [if_neg c2]
        refine ⟨_, rfl, fun a b ha => ?_, ?_, ?_, ?_, ?_, ?_, ?_, ?_, ?_⟩
        all_goals first | (simp (disch := omega) only [setI_o, setI_s, setI_oo, h0, hh, hw, h6, wearBy, if_true, if_false]; done) | (simp (disch := omega) [setI_o, setI_s, setI_oo, h0, hh, hw, h6, wearBy, fateBy, c1, c2]; done)
    · rw [if_neg c1]
      refine ⟨_, rfl, fun a b ha => ?_, ?_, ?_, ?_, ?_, ?_, ?_, ?_, ?_⟩
      all_goals first | (simp (disch := omega) only [setI_o, setI_s, setI_oo, h0, hh, hw, h6, wearBy, if_true, if_false]; done) | (simp (disch := omega) [setI_o, setI_s, setI_oo, h0, hh, hw, h6, wearBy, fateBy, c1]; done)
  · simp (disch := omega) only [bnd, Option.bind_some, setI_s, setI_oo, h0, hh, hw, h6, show (nI 2 = (4 : Int32)) = False from by decide, show (nI 2 = (2 : Int32)) = True from by decide, show ((1 : Int32) = nI 2) = False from by decide, n10, if_false, if_true]
    by_cases c2 : p = hm
    · rw [if_pos c2]
      refine ⟨_, rfl, fun a b ha => ?_, ?_, ?_, ?_, ?_, ?_, ?_, ?_, ?_⟩
      all_goals first | (simp (disch := omega) only [setI_o, setI_s, setI_oo, h0, hh, hw, h6, wearBy, if_true, if_false]; done) | (simp (disch := omega) [setI_o, setI_s, setI_oo, h0, hh, hw, h6, wearBy, fateBy, c2]; done)
    · rw [if_neg c2]
      refine ⟨_, rfl, fun a b ha => ?_, ?_, ?_, ?_, ?_, ?_, ?_, ?_, ?_⟩
      all_goals first | (simp (disch := omega) only [setI_o, setI_s, setI_oo, h0, hh, hw, h6, wearBy, if_true, if_false]; done) | (simp (disch := omega) [setI_o, setI_s, setI_oo, h0, hh, hw, h6, wearBy, fateBy, c2]; done)
  · simp (disch := omega) only [bnd, Option.bind_some, setI_s, setI_oo, h0, hh, hw, h6, show (nI 3 = (4 : Int32)) = False from by decide, show (nI 3 = (2 : Int32)) = False from by decide, show ((1 : Int32) = nI 3) = False from by decide, n10, if_false, if_true]
    by_cases c2 : p = hm
    · rw [if_pos c2]
      refine ⟨_, rfl, fun a b ha => ?_, ?_, ?_, ?_, ?_, ?_, ?_, ?_, ?_⟩
      all_goals first | (simp (disch := omega) only [setI_o, setI_s, setI_oo, h0, hh, hw, h6, wearBy, if_true, if_false]; done) | (simp (disch := omega) [setI_o, setI_s, setI_oo, h0, hh, hw, h6, wearBy, fateBy, c2]; done)
    · rw [if_neg c2]
      refine ⟨_, rfl, fun a b ha => ?_, ?_, ?_, ?_, ?_, ?_, ?_, ?_, ?_⟩
      all_goals first | (simp (disch := omega) only [setI_o, setI_s, setI_oo, h0, hh, hw, h6, wearBy, if_true, if_false]; done) | (simp (disch := omega) [setI_o, setI_s, setI_oo, h0, hh, hw, h6, wearBy, fateBy, c2]; done)
  · simp (disch := omega) only [bnd, Option.bind_some, setI_s, setI_oo, h0, hh, hw, h6, show (nI 4 = (4 : Int32)) = True from by decide, show (nI 4 = (2 : Int32)) = False from by decide, show ((1 : Int32) = nI 4) = False from by decide, n10, if_false, if_true]
    by_cases c1 : wr + (2 : Int32) < mo
    · rw [if_pos c1]
      by_cases c2 : p = hm
      · rw [if_pos c2]
        refine ⟨_, rfl, fun a b ha => ?_, ?_, ?_, ?_, ?_, ?_, ?_, ?_, ?_⟩
        all_goals first | (simp (disch := omega) only [setI_o, setI_s, setI_oo, h0, hh, hw, h6, wearBy, if_true, if_false]; done) | (simp (disch := omega) [setI_o, setI_s, setI_oo, h0, hh, hw, h6, wearBy, fateBy, c1, c2]; done)
      · rw [if_neg c2]
        refine ⟨_, rfl, fun a b ha => ?_, ?_, ?_, ?_, ?_, ?_, ?_, ?_, ?_⟩
        all_goals first | (simp (disch := omega) only [setI_o, setI_s, setI_oo, h0, hh, hw, h6, wearBy, if_true, if_false]; done) | (simp (disch := omega) [setI_o, setI_s, setI_oo, h0, hh, hw, h6, wearBy, fateBy, c1, c2]; done)
    · rw [if_neg c1]
      refine ⟨_, rfl, fun a b ha => ?_, ?_, ?_, ?_, ?_, ?_, ?_, ?_, ?_⟩
      all_goals first | (simp (disch := omega) only [setI_o, setI_s, setI_oo, h0, hh, hw, h6, wearBy, if_true, if_false]; done) | (simp (disch := omega) [setI_o, setI_s, setI_oo, h0, hh, hw, h6, wearBy, fateBy, c1]; done)
