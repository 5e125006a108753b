theorem nk1 (a : Nat) : nI a + (1 : Int32) = nI (a + 1) := nI_add a 1
theorem nk2 (a : Nat) : nI a + (2 : Int32) = nI (a + 2) := nI_add a 2
theorem nk3 (a : Nat) : nI a + (3 : Int32) = nI (a + 3) := nI_add a 3
theorem nk4 (a : Nat) : nI a + (4 : Int32) = nI (a + 4) := nI_add a 4
theorem nk5 (a : Nat) : nI a + (5 : Int32) = nI (a + 5) := nI_add a 5
theorem nk6 (a : Nat) : nI a + (6 : Int32) = nI (a + 6) := nI_add a 6
theorem nk7 (a : Nat) : nI a + (7 : Int32) = nI (a + 7) := nI_add a 7
theorem worth2 {w : Nat} {σ σ' : St} {P G : Nat} (h : WR w σ σ' P G) {g : Nat} (hg : g < 8) : fX9_worthOf (nI g) σ' = some (fX3_worth (w + 7 + g) σ) := by
  have hwg := h.2.2.2.2.2.2.2.2.2.1 g hg
  unfold fX9_worthOf fX3_worth
  simp (disch := omega) only [ix80, nk4, nk7, grd_t (inbN (show 8 * g + 4 < 64 by omega) (by decide)), grd_t (inbN (show 8 * g + 7 < 64 by omega) (by decide)), grd_t (inbN (show 8 * g < 64 by omega) (by decide)), tcl, bnd]
  rw [show σ.1 (w + 7 + g) 4 = σ'.1 65 (8 * g + 4) from hwg 4 (by decide), show σ.1 (w + 7 + g) 0 = σ'.1 65 (8 * g) from hwg 0 (by decide), show σ.1 (w + 7 + g) 7 = σ'.1 65 (8 * g + 7) from hwg 7 (by decide)]
  generalize σ'.1 65 (8 * g + 4) = a
  generalize σ'.1 65 (8 * g + 7) = c
  generalize σ'.1 65 (8 * g) = k
  have e1 : (if (1 : Int32) ≤ 10 - a then 10 - a else 1) = if (1 : Int32) < 10 - a then 10 - a else 1 := by
    generalize (10 : Int32) - a = z
    by_cases h1 : (1 : Int32) < z
    · rw [if_pos h1, if_pos (Int32.le_of_lt h1)]
    · rw [if_neg h1]
      by_cases h2 : (1 : Int32) ≤ z
      · rw [if_pos h2]
        exact Int32.le_antisymm (Int32.not_lt.mp h1) h2
      · rw [if_neg h2]
  have e2 : (if c ≤ (9 : Int32) then some c else some (9 : Int32)) = some (if (9 : Int32) < c then (9 : Int32) else c) := by
    by_cases h1 : (9 : Int32) < c
    · rw [if_pos h1, if_neg (Int32.not_le.mpr h1)]
    · rw [if_neg h1, if_pos (Int32.not_lt.mp h1)]
  rw [e1, e2]
  simp only [Option.bind_some]
  by_cases h3 : k = (2 : Int32)
  · simp only [h3, if_true]
  · simp only [h3, if_false]
    rw [show ∀ z : Int32, z + (0 : Int32) = z from fun z => by simp]
/-- told -/
theorem tell2 {σ σ' : St} {P G : Nat} (h : WR 4 σ σ' P G) {g : Nat} (hg : g < 8) {y : Nat} (hy : y ≤ 8) : ∃ r, fX9_tellGift (nI g) (nI y) σ' = some r ∧ (fX8_isGift (nI g) σ = 1 → fX8_told (nI g) (nI y) σ = some r) := by
  have hwg := h.2.2.2.2.2.2.2.2.2.1 g hg
  unfold fX8_told fX9_tellGift
  have hw := worth2 h hg
  have e : fX8_within (nI y) (0 : Int32) (8 : Int32) = 1 := by
    rcases within_c (nI y) (a := 0) (b := 8) (by decide) (by decide) with ⟨-, -, -, -, e⟩ | ⟨e, -⟩
    · exact e
    · exact absurd rfl (e y (by omega) (by omega))
  rw [show (8 : Int64) = (8 : Int32).toInt64 from rfl, wiL]
  simp (disch := omega) only [e, n10, if_false, grd_t (inbN hg (by decide)), tcl, hw, Option.bind_some, bnd]
  rcases (show y = 0 ∨ y = 1 ∨ y = 2 ∨ y = 3 ∨ y = 4 ∨ y = 5 ∨ y = 6 ∨ y = 7 ∨ y = 8 by omega) with rfl | rfl | rfl | rfl | rfl | rfl | rfl | rfl | rfl
  · refine ⟨σ'.1 65 (8 * g + 0), ?_, fun z => ?_⟩
    · rw [if_neg (show ¬ nI 0 = (6 : Int32) from by decide), show (if nI 0 ≤ (6 : Int32) then nI 0 else nI 0 - (1 : Int32)) = nI 0 from by decide, ix8, grd_t (inbN (show 8 * g + 0 < 64 by omega) (by decide)), tcl (by omega)]
    · simp only [z, n10, if_false]
      rw [show σ'.1 65 (8 * g + 0) = σ.1 (4 + 7 + g) 0 from (hwg 0 (by decide)).symm]
      rfl
  · refine ⟨σ'.1 65 (8 * g + 1), ?_, fun z => ?_⟩
    · rw [if_neg (show ¬ nI 1 = (6 : Int32) from by decide), show (if nI 1 ≤ (6 : Int32) then nI 1 else nI 1 - (1 : Int32)) = nI 1 from by decide, ix8, grd_t (inbN (show 8 * g + 1 < 64 by omega) (by decide)), tcl (by omega)]
    · simp only [z, n10, if_false]
      rw [show σ'.1 65 (8 * g + 1) = σ.1 (4 + 7 + g) 1 from (hwg 1 (by decide)).symm]
      rfl
  · refine ⟨σ'.1 65 (8 * g + 2), ?_, fun z => ?_⟩
    · rw [if_neg (show ¬ nI 2 = (6 : Int32) from by decide), show (if nI 2 ≤ (6 : Int32) then nI 2 else nI 2 - (1 : Int32)) = nI 2 from by decide, ix8, grd_t (inbN (show 8 * g + 2 < 64 by omega) (by decide)), tcl (by omega)]
    · simp only [z, n10, if_false]
      rw [show σ'.1 65 (8 * g + 2) = σ.1 (4 + 7 + g) 2 from (hwg 2 (by decide)).symm]
      rfl
  · refine ⟨σ'.1 65 (8 * g + 3), ?_, fun z => ?_⟩
    · rw [if_neg (show ¬ nI 3 = (6 : Int32) from by decide), show (if nI 3 ≤ (6 : Int32) then nI 3 else nI 3 - (1 : Int32)) = nI 3 from by decide, ix8, grd_t (inbN (show 8 * g + 3 < 64 by omega) (by decide)), tcl (by omega)]
    · simp only [z, n10, if_false]
      rw [show σ'.1 65 (8 * g + 3) = σ.1 (4 + 7 + g) 3 from (hwg 3 (by decide)).symm]
      rfl
  · refine ⟨σ'.1 65 (8 * g + 4), ?_, fun z => ?_⟩
    · rw [if_neg (show ¬ nI 4 = (6 : Int32) from by decide), show (if nI 4 ≤ (6 : Int32) then nI 4 else nI 4 - (1 : Int32)) = nI 4 from by decide, ix8, grd_t (inbN (show 8 * g + 4 < 64 by omega) (by decide)), tcl (by omega)]
    · simp only [z, n10, if_false]
      rw [show σ'.1 65 (8 * g + 4) = σ.1 (4 + 7 + g) 4 from (hwg 4 (by decide)).symm]
      rfl
  · refine ⟨σ'.1 65 (8 * g + 5), ?_, fun z => ?_⟩
    · rw [if_neg (show ¬ nI 5 = (6 : Int32) from by decide), show (if nI 5 ≤ (6 : Int32) then nI 5 else nI 5 - (1 : Int32)) = nI 5 from by decide, ix8, grd_t (inbN (show 8 * g + 5 < 64 by omega) (by decide)), tcl (by omega)]
    · simp only [z, n10, if_false]
      rw [show σ'.1 65 (8 * g + 5) = σ.1 (4 + 7 + g) 5 from (hwg 5 (by decide)).symm]
      rfl
  · refine ⟨fX3_worth (4 + 7 + g) σ, by rw [if_pos (show nI 6 = (6 : Int32) from rfl)], fun z => ?_⟩
    simp only [z, n10, if_false]
    rfl
  · refine ⟨σ'.1 65 (8 * g + 6), ?_, fun z => ?_⟩
    · rw [if_neg (show ¬ nI 7 = (6 : Int32) from by decide), show (if nI 7 ≤ (6 : Int32) then nI 7 else nI 7 - (1 : Int32)) = nI 6 from by decide, ix8, grd_t (inbN (show 8 * g + 6 < 64 by omega) (by decide)), tcl (by omega)]
    · simp only [z, n10, if_false]
      rw [show σ'.1 65 (8 * g + 6) = σ.1 (4 + 7 + g) 6 from (hwg 6 (by decide)).symm]
      rfl
  · refine ⟨σ'.1 65 (8 * g + 7), ?_, fun z => ?_⟩
    · rw [if_neg (show ¬ nI 8 = (6 : Int32) from by decide), show (if nI 8 ≤ (6 : Int32) then nI 8 else nI 8 - (1 : Int32)) = nI 7 from by decide, ix8, grd_t (inbN (show 8 * g + 7 < 64 by omega) (by decide)), tcl (by omega)]
    · simp only [z, n10, if_false]
      rw [show σ'.1 65 (8 * g + 7) = σ.1 (4 + 7 + g) 7 from (hwg 7 (by decide)).symm]
      rfl
theorem s_told (p v : Int32) {σ σ' : St} (h : Rel σ σ') : ∃ r, fX8_told p v σ = some r ∧ fX9_told p v σ' = some r := by
  obtain ⟨P, G, h1, h2, h3, h4, h5, h6, h7⟩ := h
  obtain ⟨⟨hP, hG⟩, ⟨p0, p1⟩, ⟨g0, g1⟩, -⟩ := id h3
  rcases isG2 g0 g1 hG p with ⟨k, hk, rfl, a, b⟩ | ⟨-, a, b⟩
  · rcases within_c v (a := 0) (b := 8) (by decide) (by decide) with ⟨y, -, hy9, rfl, e⟩ | ⟨hn, e⟩
    · obtain ⟨r, e1, e2⟩ := tell2 h3 (show k < 8 by omega) hy9
      refine ⟨r, e2 a, ?_⟩
      unfold fX9_told
      simp only [b, n10, if_false]
      rw [e1]; rfl
    · replace e : fX8_within v (0 : Int32) (8 : Int32) = 0 := e
      unfold fX8_told fX9_told fX9_tellGift
      rw [show (8 : Int64) = (8 : Int32).toInt64 from rfl, wiL]
      simp only [a, b, e, n10, if_false, if_true]
      rw [if_neg (show ¬ v = (6 : Int32) from hn 6 (by omega) (by omega))]
      exact ⟨_, rfl, rfl⟩
  · unfold fX8_told fX9_told
    simp only [a, b, if_true]
    exact ⟨_, rfl, rfl⟩
/-- as -/
theorem s_as (p v : Int32) {σ σ' : St} (h : Rel σ σ') : ∃ r, fX8_as p v σ = some r ∧ fX9_as p v σ' = some r := by
  obtain ⟨P, G, h1, h2, h3, h4, h5, h6, h7⟩ := h
  obtain ⟨⟨hP, hG⟩, ⟨p0, p1⟩, ⟨g0, g1⟩, hy, hwh, hwk, hwf, hwl, hwd, hwg, hv⟩ := id h3
  unfold fX8_as fX9_as fX3_isOf
  rcases isG2 g0 g1 hG p with ⟨k, hk, rfl, a, b⟩ | ⟨-, a, b⟩
  · simp only [a, b, n10, if_false]
    rw [show (4 : Int64) = (4 : Int32).toInt64 from rfl, wiL]
    by_cases e : fX8_within v (0 : Int32) (4 : Int32) = 0
    · rw [if_pos e, if_pos e]; exact ⟨_, rfl, rfl⟩
    · rw [if_neg e, if_neg e]
      simp (disch := omega) only [grd_t (inbN (show k < 8 by omega) (by decide)), tcl, ix80, grd_t (inbN (show 8 * k < 64 by omega) (by decide)), bnd]
      rw [show σ.1 (4 + 7 + k) 0 = σ'.1 65 (8 * k) from hwg k (by omega) 0 (by decide)]
      generalize (if v = 0 then (1 : Int32) else if v = σ'.1 65 (8 * k) then (1 : Int32) else if v = (1 : Int32) then if σ'.1 65 (8 * k) = (4 : Int32) then (1 : Int32) else (0 : Int32) else (0 : Int32)) = t
      by_cases z : t = 0
      · rw [if_pos z]; exact ⟨_, rfl, rfl⟩
      · rw [if_neg z]; exact ⟨_, rfl, rfl⟩
  · simp only [a, b, if_true]
    exact ⟨_, rfl, rfl⟩
theorem and_self_of {x b : Int32} (h : x &&& (b ^^^ (-1 : Int32)) = 0) : x &&& b = x := by
  have e : x = (x &&& b) ||| (x &&& (b ^^^ (-1 : Int32))) := by
    apply Int32.toBitVec_inj.mp
    show x.toBitVec = (x.toBitVec &&& b.toBitVec) ||| (x.toBitVec &&& (b.toBitVec ^^^ (-1 : Int32).toBitVec))
    rw [show (-1 : Int32).toBitVec = BitVec.allOnes 32 from rfl]
    ext i hi
    rw [BitVec.getElem_or, BitVec.getElem_and, BitVec.getElem_and, BitVec.getElem_xor, BitVec.getElem_allOnes]
    cases x.toBitVec[i] <;> cases b.toBitVec[i] <;> rfl
  rw [h] at e
  exact (by simpa using e.symm)
/-- who MAY HAVE a gift: of holder k, who has it from fr -/
theorem may2 {w : Nat} {σ σ' : St} {P G : Nat} (h : WR w σ σ' P G) {k : Nat} (hk : k < 8) {fr bk : Int32} (hb : bk = 0 ∨ bk = 1) (hb2 : bk = σ'.1 58 3) (hfr : fr = -1 ∨ isN fr P) : ∃ b, b < 2 ^ P ∧ fX7_mayHave w fr (nI k) bk σ = some (nI b) ∧ fX9_mayHave (nI k) fr σ' = some (nI b) := by
  obtain ⟨⟨hP, hG⟩, ⟨p0, p1⟩, ⟨g0, g1⟩, hy, hwh, hwk, hwf, hwl, hwd, hwg, v1, v2⟩ := id h
  obtain ⟨bb, hbb, eb⟩ := v1 k hk
  have xb : σ.1 (w + 2) k = nI bb := (hwk k hk).trans eb
  unfold fX7_mayHave fX9_mayHave
  simp (disch := omega) only [grd_t (inbN hk (by decide)), tcl, xb, eb, bnd, ← hb2]
  have key : ∃ o, o < 2 ^ P ∧ nI bb &&& (fX8_bit fr ^^^ (-1 : Int32)) = nI o ∧ (if fr = (-1 : Int32) then some (nI bb) else some (nI bb &&& (((1 : Int32) <<< (fr &&& 31)) ^^^ (-1 : Int32)))) = some (nI o) := by
    rcases hfr with rfl | ⟨f, hf, rfl⟩
    · refine ⟨bb, hbb, ?_, by rw [if_pos rfl]⟩
      rw [show fX8_bit (-1) ^^^ (-1 : Int32) = -1 from by decide]
      simp
    · have hne : ¬ nI f = (-1 : Int32) := fun z => by
        have := congrArg Int32.toInt z
        rw [nI_toInt (by omega)] at this
        have e : (-1 : Int32).toInt = -1 := rfl
        omega
      refine ⟨_, clr_lt hbb, bt_clr bb (p2_256 hP hbb) f (by omega), ?_⟩
      rw [if_neg hne, show ((1 : Int32) <<< (nI f &&& 31)) = fX8_bit (nI f) from by unfold fX8_bit; rw [if_neg hne], bt_clr bb (p2_256 hP hbb) f (by omega)]
  obtain ⟨o, ho, e1, e2⟩ := key
  rw [e1, e2]
  simp only [Option.bind_some]
  by_cases z : nI o = 0
  · rw [if_pos z, if_pos z]
    rcases hb with rfl | rfl
    · rw [if_pos rfl, if_neg (by decide)]
      exact ⟨o, ho, rfl, rfl⟩
    · rw [if_neg (by decide), if_pos rfl]
      rw [z] at e1
      exact ⟨bb, hbb, by rw [and_self_of e1], rfl⟩
  · rw [if_neg z, if_neg z]
    exact ⟨o, ho, rfl, rfl⟩
