/-- the law's hand-on -/
theorem l_give {pc oc gc : Nat} (hd : pc ≠ oc ∧ pc ≠ gc ∧ oc ≠ gc ∧ pc ≠ 58 ∧ oc ≠ 58 ∧ gc ≠ 58) {σ : St} {g p h : Nat} {wt : Int32} {κ : Nat} (hg : g < 8) (hp : p < 8) (hh8 : h < 8) (hκ : κ < 5) (h0 : σ.1 gc (8 * g) = nI κ) (h7 : σ.1 gc (8 * g + 7) = 0) (h2 : σ.1 gc (8 * g + 2) = nI h) (hw : fL_worth gc 64 (nI (8 * g)) σ = some wt) :
    ∃ τ, fL_give pc 27 58 4 gc 64 oc 64 (nI g) (nI p) σ = some (fateBy κ (σ.1 gc (8 * g + 4) + wearBy κ) (σ.1 58 3) (nI p) (σ.1 gc (8 * g + 1)), τ) ∧ τ.2 = σ.2 ∧ (∀ a b, a ≠ oc → a ≠ gc → ¬ (a = pc ∧ b = 17 + p) → τ.1 a b = σ.1 a b) ∧
      (∀ i, τ.1 oc i = if i = 8 * p + h then σ.1 oc i + wt else σ.1 oc i) ∧
      (τ.1 pc (17 + p) = if fateBy κ (σ.1 gc (8 * g + 4) + wearBy κ) (σ.1 58 3) (nI p) (σ.1 gc (8 * g + 1)) = 1 then σ.1 pc (17 + p) + 1 else σ.1 pc (17 + p)) ∧
      (∀ i, ¬ (8 * g ≤ i ∧ i < 8 * g + 8) → τ.1 gc i = σ.1 gc i) ∧
      τ.1 gc (8 * g) = nI κ ∧ τ.1 gc (8 * g + 1) = σ.1 gc (8 * g + 1) ∧ τ.1 gc (8 * g + 2) = nI p ∧ τ.1 gc (8 * g + 3) = nI h ∧ τ.1 gc (8 * g + 4) = σ.1 gc (8 * g + 4) + wearBy κ ∧ τ.1 gc (8 * g + 5) = 0 ∧ τ.1 gc (8 * g + 6) = σ.1 gc (8 * g + 6) + 1 ∧ τ.1 gc (8 * g + 7) = fateBy κ (σ.1 gc (8 * g + 4) + wearBy κ) (σ.1 58 3) (nI p) (σ.1 gc (8 * g + 1)) := by
  obtain ⟨d1, d2, d3, d4, d5, d6⟩ := hd
  unfold fL_give
  simp (disch := omega) only [ix80, nk1, nk2, nk3, nk4, nk5, nk6, nk7, n17p, nI_add, grd_t (inbN (show 8 * g < 64 by omega) (by decide)), grd_t (inbN (show 8 * g + 1 < 64 by omega) (by decide)), grd_t (inbN (show 8 * g + 2 < 64 by omega) (by decide)), grd_t (inbN (show 8 * g + 3 < 64 by omega) (by decide)), grd_t (inbN (show 8 * g + 4 < 64 by omega) (by decide)), grd_t (inbN (show 8 * g + 5 < 64 by omega) (by decide)), grd_t (inbN (show 8 * g + 6 < 64 by omega) (by decide)), grd_t (inbN (show 8 * g + 7 < 64 by omega) (by decide)), grd_t (inbN (show 17 + p < 27 by omega) (by decide)), grd_t (show inb (3 : Int32) 4 = true from by decide), show (3 : Int32).toNatClampNeg = 3 from rfl, tcl, bnd, h0, h2, hw, Option.bind_some]
  rw [grd_t (inbN (show 8 * p + h < 64 by omega) (by decide)), grd_t (inbN (show 8 * p + h < 64 by omega) (by decide))]
  generalize hwr : σ.1 gc (8 * g + 4) = wr
  generalize hho : σ.1 gc (8 * g + 1) = hm
  generalize hmo : σ.1 58 3 = mo
  rcases (show κ = 0 ∨ κ = 1 ∨ κ = 2 ∨ κ = 3 ∨ κ = 4 by omega) with rfl | rfl | rfl | rfl | rfl
  · simp (disch := omega) only [setI_s, setI_oo, h7, h0, hwr, hho, hmo, show (nI 0 = (1 : Int32)) = False from by decide, show (nI 0 = (2 : Int32)) = False from by decide, show (nI 0 = (4 : Int32)) = False from by decide, n10, if_false, if_true, Option.bind_some]
    by_cases c2 : nI p = hm
    · rw [if_pos c2]
      simp (disch := omega) only [Option.bind_some, setI_s, setI_oo, h7]
      refine ⟨_, congrArg some (Prod.ext (by simp [wearBy, fateBy, c2]) rfl), rfl, fun a b n1 n2 n3 => ?_, fun i => ?_, ?_, fun i hi => ?_, ?_, ?_, ?_, ?_, ?_, ?_, ?_, ?_⟩
      · simp (disch := omega) only [setI_oo]
      · by_cases z : i = 8 * p + h
        · subst z; simp (disch := omega) only [setI_s, setI_oo, if_true]
        · simp (disch := omega) only [setI_oo, z, if_false]
      · simp (disch := omega) [setI_s, setI_oo, wearBy, fateBy, c2]
      · simp (disch := omega) only [setI_oo]
      all_goals first | (simp (disch := omega) only [setI_s, setI_oo, h0, h7, hwr, hho, wearBy, if_true, if_false]; done) | (simp (disch := omega) [setI_s, setI_oo, h0, h7, hwr, hho, wearBy, fateBy, c2]; done)
    · rw [if_neg c2]
      simp (disch := omega) only [Option.bind_some, setI_s, setI_oo, h7]
      refine ⟨_, congrArg some (Prod.ext (by simp [wearBy, fateBy, c2]) rfl), rfl, fun a b n1 n2 n3 => ?_, fun i => ?_, ?_, fun i hi => ?_, ?_, ?_, ?_, ?_, ?_, ?_, ?_, ?_⟩
      · simp (disch := omega) only [setI_oo]
      · by_cases z : i = 8 * p + h
        · subst z; simp (disch := omega) only [setI_s, setI_oo, if_true]
        · simp (disch := omega) only [setI_oo, z, if_false]
      · simp (disch := omega) [setI_s, setI_oo, wearBy, fateBy, c2]
      · simp (disch := omega) only [setI_oo]
      all_goals first | (simp (disch := omega) only [setI_s, setI_oo, h0, h7, hwr, hho, wearBy, if_true, if_false]; done) | (simp (disch := omega) [setI_s, setI_oo, h0, h7, hwr, hho, wearBy, fateBy, c2]; done)
  · simp (disch := omega) only [setI_s, setI_oo, h7, h0, hwr, hho, hmo, show (nI 1 = (1 : Int32)) = True from by decide, show (nI 1 = (2 : Int32)) = False from by decide, show (nI 1 = (4 : Int32)) = False from by decide, n10, if_false, if_true, Option.bind_some]
    by_cases c1 : wr + (1 : Int32) < mo
    · rw [if_pos c1]
      by_cases c2 : nI p = hm
      · rw [if_pos c2]
        simp (disch := omega) only [Option.bind_some, setI_s, setI_oo, h7]
        refine ⟨_, congrArg some (Prod.ext (by simp [wearBy, fateBy, c1, c2]) rfl), rfl, fun a b n1 n2 n3 => ?_, fun i => ?_, ?_, fun i hi => ?_, ?_, ?_, ?_, ?_, ?_, ?_, ?_, ?_⟩
        · simp (disch := omega) only [setI_oo]
        · by_cases z : i = 8 * p + h
          · subst z; simp (disch := omega) only [setI_s, setI_oo, if_true]
          · simp (disch := omega) only [setI_oo, z, if_false]
        · simp (disch := omega) [setI_s, setI_oo, wearBy, fateBy, c1, c2]
        · simp (disch := omega) only [setI_oo]
        all_goals first | (simp (disch := omega) only [setI_s, setI_oo, h0, h7, hwr, hho, wearBy, if_true, if_false]; done) | (simp (disch := omega) [setI_s, setI_oo, h0, h7, hwr, hho, wearBy, fateBy, c1, c2]; done)
      · rw [if_neg c2]
        simp (disch := omega) only [Option.bind_some, setI_s, setI_oo, h7]
        refine ⟨_, congrArg some (Prod.ext (by simp [wearBy, fateBy, c1, c2]) rfl), rfl, fun a b n1 n2 n3 => ?_, fun i => ?_, ?_, fun i hi => ?_, ?_, ?_, ?_, ?_, ?_, ?_, ?_, ?_⟩
        · simp (disch := omega) only [setI_oo]
        · by_cases z : i = 8 * p + h
          · subst z; simp (disch := omega) only [setI_s, setI_oo, if_true]
          · simp (disch := omega) only [setI_oo, z, if_false]
        · simp (disch := omega) [setI_s, setI_oo, wearBy, fateBy, c1, c2]
        · simp (disch := omega) only [setI_oo]
        all_goals first | (simp (disch := omega) only [setI_s, setI_oo, h0, h7, hwr, hho, wearBy, if_true, if_false]; done) | (simp (disch := omega) [setI_s, setI_oo, h0, h7, hwr, hho, wearBy, fateBy, c1, c2]; done)
    · rw [if_neg c1]
      simp (disch := omega) only [Option.bind_some, setI_s, setI_oo, h7]
      refine ⟨_, congrArg some (Prod.ext (by simp [wearBy, fateBy, c1]) rfl), rfl, fun a b n1 n2 n3 => ?_, fun i => ?_, ?_, fun i hi => ?_, ?_, ?_, ?_, ?_, ?_, ?_, ?_, ?_⟩
      · simp (disch := omega) only [setI_oo]
      · by_cases z : i = 8 * p + h
        · subst z; simp (disch := omega) only [setI_s, setI_oo, if_true]
        · simp (disch := omega) only [setI_oo, z, if_false]
      · simp (disch := omega) [setI_s, setI_oo, wearBy, fateBy, c1]
      · simp (disch := omega) only [setI_oo]
      all_goals first | (simp (disch := omega) only [setI_s, setI_oo, h0, h7, hwr, hho, wearBy, if_true, if_false]; done) | (simp (disch := omega) [setI_s, setI_oo, h0, h7, hwr, hho, wearBy, fateBy, c1]; done)
  · simp (disch := omega) only [setI_s, setI_oo, h7, h0, hwr, hho, hmo, show (nI 2 = (1 : Int32)) = False from by decide, show (nI 2 = (2 : Int32)) = True from by decide, show (nI 2 = (4 : Int32)) = False from by decide, n10, if_false, if_true, Option.bind_some]
    by_cases c2 : nI p = hm
    · rw [if_pos c2]
      simp (disch := omega) only [Option.bind_some, setI_s, setI_oo, h7]
      refine ⟨_, congrArg some (Prod.ext (by simp [wearBy, fateBy, c2]) rfl), rfl, fun a b n1 n2 n3 => ?_, fun i => ?_, ?_, fun i hi => ?_, ?_, ?_, ?_, ?_, ?_, ?_, ?_, ?_⟩
      · simp (disch := omega) only [setI_oo]
      · by_cases z : i = 8 * p + h
        · subst z; simp (disch := omega) only [setI_s, setI_oo, if_true]
        · simp (disch := omega) only [setI_oo, z, if_false]
      · simp (disch := omega) [setI_s, setI_oo, wearBy, fateBy, c2]
      · simp (disch := omega) only [setI_oo]
      all_goals first | (simp (disch := omega) only [setI_s, setI_oo, h0, h7, hwr, hho, wearBy, if_true, if_false]; done) | (simp (disch := omega) [setI_s, setI_oo, h0, h7, hwr, hho, wearBy, fateBy, c2]; done)
    · rw [if_neg c2]
      simp (disch := omega) only [Option.bind_some, setI_s, setI_oo, h7]
      refine ⟨_, congrArg some (Prod.ext (by simp [wearBy, fateBy, c2]) rfl), rfl, fun a b n1 n2 n3 => ?_, fun i => ?_, ?_, fun i hi => ?_, ?_, ?_, ?_, ?_, ?_, ?_, ?_, ?_⟩
      · simp (disch := omega) only [setI_oo]
      · by_cases z : i = 8 * p + h
        · subst z; simp (disch := omega) only [setI_s, setI_oo, if_true]
        · simp (disch := omega) only [setI_oo, z, if_false]
      · simp (disch := omega) [setI_s, setI_oo, wearBy, fateBy, c2]
      · simp (disch := omega) only [setI_oo]
      all_goals first | (simp (disch := omega) only [setI_s, setI_oo, h0, h7, hwr, hho, wearBy, if_true, if_false]; done) | (simp (disch := omega) [setI_s, setI_oo, h0, h7, hwr, hho, wearBy, fateBy, c2]; done)
  · simp (disch := omega) only [setI_s, setI_oo, h7, h0, hwr, hho, hmo, show (nI 3 = (1 : Int32)) = False from by decide, show (nI 3 = (2 : Int32)) = False from by decide, show (nI 3 = (4 : Int32)) = False from by decide, n10, if_false, if_true, Option.bind_some]
    by_cases c2 : nI p = hm
    · rw [if_pos c2]
      simp (disch := omega) only [Option.bind_some, setI_s, setI_oo, h7]
      refine ⟨_, congrArg some (Prod.ext (by simp [wearBy, fateBy, c2]) rfl), rfl, fun a b n1 n2 n3 => ?_, fun i => ?_, ?_, fun i hi => ?_, ?_, ?_, ?_, ?_, ?_, ?_, ?_, ?_⟩
      · simp (disch := omega) only [setI_oo]
      · by_cases z : i = 8 * p + h
        · subst z; simp (disch := omega) only [setI_s, setI_oo, if_true]
        · simp (disch := omega) only [setI_oo, z, if_false]
      · simp (disch := omega) [setI_s, setI_oo, wearBy, fateBy, c2]
      · simp (disch := omega) only [setI_oo]
      all_goals first | (simp (disch := omega) only [setI_s, setI_oo, h0, h7, hwr, hho, wearBy, if_true, if_false]; done) | (simp (disch := omega) [setI_s, setI_oo, h0, h7, hwr, hho, wearBy, fateBy, c2]; done)
    · rw [if_neg c2]
      simp (disch := omega) only [Option.bind_some, setI_s, setI_oo, h7]
      refine ⟨_, congrArg some (Prod.ext (by simp [wearBy, fateBy, c2]) rfl), rfl, fun a b n1 n2 n3 => ?_, fun i => ?_, ?_, fun i hi => ?_, ?_, ?_, ?_, ?_, ?_, ?_, ?_, ?_⟩
      · simp (disch := omega) only [setI_oo]
      · by_cases z : i = 8 * p + h
        · subst z; simp (disch := omega) only [setI_s, setI_oo, if_true]
        · simp (disch := omega) only [setI_oo, z, if_false]
      · simp (disch := omega) [setI_s, setI_oo, wearBy, fateBy, c2]
      · simp (disch := omega) only [setI_oo]
      all_goals first | (simp (disch := omega) only [setI_s, setI_oo, h0, h7, hwr, hho, wearBy, if_true, if_false]; done) | (simp (disch := omega) [setI_s, setI_oo, h0, h7, hwr, hho, wearBy, fateBy, c2]; done)
  · simp (disch := omega) only [setI_s, setI_oo, h7, h0, hwr, hho, hmo, show (nI 4 = (1 : Int32)) = False from by decide, show (nI 4 = (2 : Int32)) = False from by decide, show (nI 4 = (4 : Int32)) = True from by decide, n10, if_false, if_true, Option.bind_some]
    by_cases c1 : wr + (2 : Int32) < mo
    · rw [if_pos c1]
      by_cases c2 : nI p = hm
      · rw [if_pos c2]
        simp (disch := omega) only [Option.bind_some, setI_s, setI_oo, h7]
        refine ⟨_, congrArg some (Prod.ext (by simp [wearBy, fateBy, c1, c2]) rfl), rfl, fun a b n1 n2 n3 => ?_, fun i => ?_, ?_, fun i hi => ?_, ?_, ?_, ?_, ?_, ?_, ?_, ?_, ?_⟩
        · simp (disch := omega) only [setI_oo]
        · by_cases z : i = 8 * p + h
          · subst z; simp (disch := omega) only [setI_s, setI_oo, if_true]
          · simp (disch := omega) only [setI_oo, z, if_false]
        · simp (disch := omega) [setI_s, setI_oo, wearBy, fateBy, c1, c2]
        · simp (disch := omega) only [setI_oo]
        all_goals first | (simp (disch := omega) only [setI_s, setI_oo, h0, h7, hwr, hho, wearBy, if_true, if_false]; done) | (simp (disch := omega) [setI_s, setI_oo, h0, h7, hwr, hho, wearBy, fateBy, c1, c2]; done)
      · rw [if_neg c2]
        simp (disch := omega) only [Option.bind_some, setI_s, setI_oo, h7]
        refine ⟨_, congrArg some (Prod.ext (by simp [wearBy, fateBy, c1, c2]) rfl), rfl, fun a b n1 n2 n3 => ?_, fun i => ?_, ?_, fun i hi => ?_, ?_, ?_, ?_, ?_, ?_, ?_, ?_, ?_⟩
        · simp (disch := omega) only [setI_oo]
        · by_cases z : i = 8 * p + h
          · subst z; simp (disch := omega) only [setI_s, setI_oo, if_true]
          · simp (disch := omega) only [setI_oo, z, if_false]
        · simp (disch := omega) [setI_s, setI_oo, wearBy, fateBy, c1, c2]
        · simp (disch := omega) only [setI_oo]
        all_goals first | (simp (disch := omega) only [setI_s, setI_oo, h0, h7, hwr, hho, wearBy, if_true, if_false]; done) | (simp (disch := omega) [setI_s, setI_oo, h0, h7, hwr, hho, wearBy, fateBy, c1, c2]; done)
    · rw [if_neg c1]
      simp (disch := omega) only [Option.bind_some, setI_s, setI_oo, h7]
      refine ⟨_, congrArg some (Prod.ext (by simp [wearBy, fateBy, c1]) rfl), rfl, fun a b n1 n2 n3 => ?_, fun i => ?_, ?_, fun i hi => ?_, ?_, ?_, ?_, ?_, ?_, ?_, ?_, ?_⟩
      · simp (disch := omega) only [setI_oo]
      · by_cases z : i = 8 * p + h
        · subst z; simp (disch := omega) only [setI_s, setI_oo, if_true]
        · simp (disch := omega) only [setI_oo, z, if_false]
      · simp (disch := omega) [setI_s, setI_oo, wearBy, fateBy, c1]
      · simp (disch := omega) only [setI_oo]
      all_goals first | (simp (disch := omega) only [setI_s, setI_oo, h0, h7, hwr, hho, wearBy, if_true, if_false]; done) | (simp (disch := omega) [setI_s, setI_oo, h0, h7, hwr, hho, wearBy, fateBy, c1]; done)
