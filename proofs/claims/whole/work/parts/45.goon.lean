theorem x_hand {w : Nat} {σ : St} {g p h : Nat} {mo : Int32} {κ : Nat} (hg : g < 8) (hp : p < 8) (hh8 : h < 8) (hκ : κ < 5) (h0 : σ.1 (w + 7 + g) 0 = nI κ) (h6 : σ.1 (w + 7 + g) 6 = 0) (h2 : σ.1 (w + 7 + g) 2 = nI h) :
    ∃ τ, fX7_handOn w (w + 7 + g) (nI p) mo σ = some τ ∧ (∀ a b, a ≠ w + 7 + g → a ≠ w + 5 → a ≠ w + 3 → τ.1 a b = σ.1 a b) ∧
      (∀ i, τ.1 (w + 5) i = if i = 8 * p + h then σ.1 (w + 5) i + fX3_worth (w + 7 + g) σ else σ.1 (w + 5) i) ∧
      (∀ i, τ.1 (w + 3) i = if i = p ∧ fateBy κ (σ.1 (w + 7 + g) 4 + wearBy κ) mo (nI p) (σ.1 (w + 7 + g) 1) = 1 then σ.1 (w + 3) i + 1 else σ.1 (w + 3) i) ∧
      τ.1 (w + 7 + g) 0 = nI κ ∧ τ.1 (w + 7 + g) 1 = σ.1 (w + 7 + g) 1 ∧ τ.1 (w + 7 + g) 2 = nI p ∧ τ.1 (w + 7 + g) 3 = nI h ∧ τ.1 (w + 7 + g) 4 = σ.1 (w + 7 + g) 4 + wearBy κ ∧ τ.1 (w + 7 + g) 5 = 0 ∧ τ.1 (w + 7 + g) 6 = fateBy κ (σ.1 (w + 7 + g) 4 + wearBy κ) mo (nI p) (σ.1 (w + 7 + g) 1) ∧ τ.1 (w + 7 + g) 7 = σ.1 (w + 7 + g) 7 + 1 := by
  unfold fX7_handOn
  rw [h2, pairN, grd_t (inbN (show 8 * p + h < 64 by omega) (by decide)), grd_t (inbN (show 8 * p + h < 64 by omega) (by decide)), tcl (by omega)]
  simp only [bnd]
  generalize hs : setI σ (w + 5) (8 * p + h) (σ.1 (w + 5) (8 * p + h) + fX3_worth (w + 7 + g) σ) = σ3
  have sg : ∀ b, σ3.1 (w + 7 + g) b = σ.1 (w + 7 + g) b := fun b => by rw [← hs, setI_oo (by omega)]
  obtain ⟨τ, e, t0, f0, f1, f2, f3, f4, f5, f6, f7⟩ := x_move (σ := σ3) (p := nI p) (mo := mo) hκ ((sg 0).trans h0) ((sg 6).trans h6)
  rw [sg 1] at f1
  rw [sg 2] at f3
  rw [sg 4] at f4
  rw [sg 4, sg 1] at f6
  rw [sg 7] at f7
  rw [e]
  simp only [Option.bind_some, f6]
  have o5 : ∀ i, σ3.1 (w + 5) i = if i = 8 * p + h then σ.1 (w + 5) i + fX3_worth (w + 7 + g) σ else σ.1 (w + 5) i := fun i => by
    rw [← hs, setI_1]
    by_cases z : i = 8 * p + h
    · subst z; simp
    · simp [z]
  by_cases hF : fateBy κ (σ.1 (w + 7 + g) 4 + wearBy κ) mo (nI p) (σ.1 (w + 7 + g) 1) = 1
  · simp (disch := omega) only [hF, if_true, grd_t (inbN hp (by decide)), tcl]
    refine ⟨_, rfl, fun a b n1 n2 n3 => ?_, fun i => ?_, fun i => ?_, ?_, ?_, ?_, ?_, ?_, ?_, ?_, ?_⟩
    · rw [setI_oo (by omega), t0 a b n1, ← hs, setI_oo (by omega)]
    · rw [setI_oo (by omega), t0 _ _ (by omega), o5]
    · by_cases z : i = p
      · subst z
        rw [setI_s, if_pos ⟨rfl, trivial⟩, t0 _ _ (by omega), ← hs, setI_oo (by omega)]
      · rw [setI_oo (by omega), if_neg (fun q => z q.1), t0 _ _ (by omega), ← hs, setI_oo (by omega)]
    · rw [setI_oo (by omega), f0]
    · rw [setI_oo (by omega), f1]
    · rw [setI_oo (by omega), f2]
    · rw [setI_oo (by omega), f3, h2]
    · rw [setI_oo (by omega), f4]
    · rw [setI_oo (by omega), f5]
    · rw [setI_oo (by omega), f6, hF]
    · rw [setI_oo (by omega), f7]
  · rw [if_neg hF]
    refine ⟨_, rfl, fun a b n1 n2 n3 => ?_, fun i => ?_, fun i => ?_, f0, f1, f2, f3.trans h2, f4, f5, f6, f7⟩
    · rw [t0 a b n1, ← hs, setI_oo (by omega)]
    · rw [t0 _ _ (by omega), o5]
    · rw [if_neg (fun q => hF q.2), t0 _ _ (by omega), ← hs, setI_oo (by omega)]
theorem m_goOn {σ : St} {g p h : Nat} {wt : Int32} {κ : Nat} (hg : g < 8) (hp : p < 8) (hh8 : h < 8) (hκ : κ < 5) (h0 : σ.1 65 (8 * g) = nI κ) (h6 : σ.1 65 (8 * g + 6) = 0) (h2 : σ.1 65 (8 * g + 2) = nI h) (hw : fX9_worthOf (nI g) σ = some wt) :
    ∃ τ, fX9_goOn (nI g) (nI p) σ = some (fateBy κ (σ.1 65 (8 * g + 4) + wearBy κ) (σ.1 58 5) (nI p) (σ.1 65 (8 * g + 1)), τ) ∧ (∀ a b, a ≠ 63 → a ≠ 64 → a ≠ 65 → ¬ (a = 58 ∧ b = 18) → τ.1 a b = σ.1 a b) ∧
      (∀ i, τ.1 63 i = if i = 8 * p + h then σ.1 63 i + wt else σ.1 63 i) ∧
      (∀ i, τ.1 64 i = if i = p ∧ fateBy κ (σ.1 65 (8 * g + 4) + wearBy κ) (σ.1 58 5) (nI p) (σ.1 65 (8 * g + 1)) = 1 then σ.1 64 i + 1 else σ.1 64 i) ∧
      (τ.1 58 18 = if fateBy κ (σ.1 65 (8 * g + 4) + wearBy κ) (σ.1 58 5) (nI p) (σ.1 65 (8 * g + 1)) = 1 then σ.1 58 18 + 1 else σ.1 58 18) ∧
      (∀ i, ¬ (8 * g ≤ i ∧ i < 8 * g + 8) → τ.1 65 i = σ.1 65 i) ∧
      τ.1 65 (8 * g) = nI κ ∧ τ.1 65 (8 * g + 1) = σ.1 65 (8 * g + 1) ∧ τ.1 65 (8 * g + 2) = nI p ∧ τ.1 65 (8 * g + 3) = nI h ∧ τ.1 65 (8 * g + 4) = σ.1 65 (8 * g + 4) + wearBy κ ∧ τ.1 65 (8 * g + 5) = 0 ∧ τ.1 65 (8 * g + 6) = fateBy κ (σ.1 65 (8 * g + 4) + wearBy κ) (σ.1 58 5) (nI p) (σ.1 65 (8 * g + 1)) ∧ τ.1 65 (8 * g + 7) = σ.1 65 (8 * g + 7) + 1 := by
  unfold fX9_goOn
  simp (disch := omega) only [ix80, nk1, nk2, nk3, nk4, nk5, nk6, nk7, nI_add, grd_t (inbN (show 8 * g < 64 by omega) (by decide)), grd_t (inbN (show 8 * g + 1 < 64 by omega) (by decide)), grd_t (inbN (show 8 * g + 2 < 64 by omega) (by decide)), grd_t (inbN (show 8 * g + 3 < 64 by omega) (by decide)), grd_t (inbN (show 8 * g + 4 < 64 by omega) (by decide)), grd_t (inbN (show 8 * g + 5 < 64 by omega) (by decide)), grd_t (inbN (show 8 * g + 6 < 64 by omega) (by decide)), grd_t (inbN (show 8 * g + 7 < 64 by omega) (by decide)), grd_t (inbN hp (by decide)), tcl, bnd, h0, h2, hw, Option.bind_some]
  rw [grd_t (inbN (show 8 * p + h < 64 by omega) (by decide)), grd_t (inbN (show 8 * p + h < 64 by omega) (by decide))]
  generalize hwr : σ.1 65 (8 * g + 4) = wr
  generalize hho : σ.1 65 (8 * g + 1) = hm
  generalize hmo : σ.1 58 5 = mo
  have zz : ∀ z : Int32, z + 0 = z := fun z => by simp
  rcases (show κ = 0 ∨ κ = 1 ∨ κ = 2 ∨ κ = 3 ∨ κ = 4 by omega) with rfl | rfl | rfl | rfl | rfl
  · simp (disch := omega) only [setI_s, setI_oo, h6, hwr, hho, hmo, show (nI 0 = (1 : Int32)) = False from by decide, show (nI 0 = (2 : Int32)) = False from by decide, show (nI 0 = (4 : Int32)) = False from by decide, n10, if_false, if_true, Option.bind_some]
    by_cases c2 : nI p = hm
    · rw [if_pos c2]
      simp (disch := omega) only [Option.bind_some, setI_s, setI_oo, h6]
      refine ⟨_, congrArg some (Prod.ext (by simp [wearBy, fateBy, c2]) rfl), fun a b n1 n2 n3 n4 => ?_, fun i => ?_, fun i => ?_, ?_, fun i hi => ?_, ?_, ?_, ?_, ?_, ?_, ?_, ?_, ?_⟩
      · simp (disch := omega) only [setI_oo]
      · by_cases z : i = 8 * p + h
        · subst z; simp (disch := omega) only [setI_s, setI_oo, if_true]
        · simp (disch := omega) only [setI_oo, z, if_false]
      · by_cases z : i = p
        · subst z; simp (disch := omega) [setI_s, setI_oo, wearBy, fateBy, c2]
        · simp (disch := omega) [setI_oo, z]
      · simp (disch := omega) [setI_s, setI_oo, wearBy, fateBy, c2]
      · simp (disch := omega) only [setI_oo]
      all_goals first | (simp (disch := omega) only [setI_s, setI_oo, h0, h6, hwr, hho, wearBy, if_true, if_false]; done) | (simp (disch := omega) [setI_s, setI_oo, h0, h6, hwr, hho, wearBy, fateBy, c2]; done)
    · rw [if_neg c2]
      simp (disch := omega) only [Option.bind_some, setI_s, setI_oo, h6]
      refine ⟨_, congrArg some (Prod.ext (by simp [wearBy, fateBy, c2]) rfl), fun a b n1 n2 n3 n4 => ?_, fun i => ?_, fun i => ?_, ?_, fun i hi => ?_, ?_, ?_, ?_, ?_, ?_, ?_, ?_, ?_⟩
      · simp (disch := omega) only [setI_oo]
      · by_cases z : i = 8 * p + h
        · subst z; simp (disch := omega) only [setI_s, setI_oo, if_true]
        · simp (disch := omega) only [setI_oo, z, if_false]
      · by_cases z : i = p
        · subst z; simp (disch := omega) [setI_s, setI_oo, wearBy, fateBy, c2]
        · simp (disch := omega) [setI_oo, z]
      · simp (disch := omega) [setI_s, setI_oo, wearBy, fateBy, c2]
      · simp (disch := omega) only [setI_oo]
      all_goals first | (simp (disch := omega) only [setI_s, setI_oo, h0, h6, hwr, hho, wearBy, if_true, if_false]; done) | (simp (disch := omega) [setI_s, setI_oo, h0, h6, hwr, hho, wearBy, fateBy, c2]; done)
  · simp (disch := omega) only [setI_s, setI_oo, h6, hwr, hho, hmo, show (nI 1 = (1 : Int32)) = True from by decide, show (nI 1 = (2 : Int32)) = False from by decide, show (nI 1 = (4 : Int32)) = False from by decide, n10, if_false, if_true, Option.bind_some]
    by_cases c1 : wr + (1 : Int32) < mo
    · rw [if_pos c1]
      by_cases c2 : nI p = hm
      · rw [if_pos c2]
        simp (disch := omega) only [Option.bind_some, setI_s, setI_oo, h6]
        refine ⟨_, congrArg some (Prod.ext (by simp [wearBy, fateBy, c1, c2]) rfl), fun a b n1 n2 n3 n4 => ?_, fun i => ?_, fun i => ?_, ?_, fun i hi => ?_, ?_, ?_, ?_, ?_, ?_, ?_, ?_, ?_⟩
        · simp (disch := omega) only [setI_oo]
        · by_cases z : i = 8 * p + h
          · subst z; simp (disch := omega) only [setI_s, setI_oo, if_true]
          · simp (disch := omega) only [setI_oo, z, if_false]
        · by_cases z : i = p
          · subst z; simp (disch := omega) [setI_s, setI_oo, wearBy, fateBy, c1, c2]
          · simp (disch := omega) [setI_oo, z]
        · simp (disch := omega) [setI_s, setI_oo, wearBy, fateBy, c1, c2]
        · simp (disch := omega) only [setI_oo]
        all_goals first | (simp (disch := omega) only [setI_s, setI_oo, h0, h6, hwr, hho, wearBy, if_true, if_false]; done) | (simp (disch := omega) [setI_s, setI_oo, h0, h6, hwr, hho, wearBy, fateBy, c1, c2]; done)
      · rw [if_neg c2]
        simp (disch := omega) only [Option.bind_some, setI_s, setI_oo, h6]
        refine ⟨_, congrArg some (Prod.ext (by simp [wearBy, fateBy, c1, c2]) rfl), fun a b n1 n2 n3 n4 => ?_, fun i => ?_, fun i => ?_, ?_, fun i hi => ?_, ?_, ?_, ?_, ?_, ?_, ?_, ?_, ?_⟩
        · simp (disch := omega) only [setI_oo]
        · by_cases z : i = 8 * p + h
          · subst z; simp (disch := omega) only [setI_s, setI_oo, if_true]
          · simp (disch := omega) only [setI_oo, z, if_false]
        · by_cases z : i = p
          · subst z; simp (disch := omega) [setI_s, setI_oo, wearBy, fateBy, c1, c2]
          · simp (disch := omega) [setI_oo, z]
        · simp (disch := omega) [setI_s, setI_oo, wearBy, fateBy, c1, c2]
        · simp (disch := omega) only [setI_oo]
        all_goals first | (simp (disch := omega) only [setI_s, setI_oo, h0, h6, hwr, hho, wearBy, if_true, if_false]; done) | (simp (disch := omega) [setI_s, setI_oo, h0, h6, hwr, hho, wearBy, fateBy, c1, c2]; done)
    · rw [if_neg c1]
      simp (disch := omega) only [Option.bind_some, setI_s, setI_oo, h6]
      refine ⟨_, congrArg some (Prod.ext (by simp [wearBy, fateBy, c1]) rfl), fun a b n1 n2 n3 n4 => ?_, fun i => ?_, fun i => ?_, ?_, fun i hi => ?_, ?_, ?_, ?_, ?_, ?_, ?_, ?_, ?_⟩
      · simp (disch := omega) only [setI_oo]
      · by_cases z : i = 8 * p + h
        · subst z; simp (disch := omega) only [setI_s, setI_oo, if_true]
        · simp (disch := omega) only [setI_oo, z, if_false]
      · by_cases z : i = p
        · subst z; simp (disch := omega) [setI_s, setI_oo, wearBy, fateBy, c1]
        · simp (disch := omega) [setI_oo, z]
      · simp (disch := omega) [setI_s, setI_oo, wearBy, fateBy, c1]
      · simp (disch := omega) only [setI_oo]
      all_goals first | (simp (disch := omega) only [setI_s, setI_oo, h0, h6, hwr, hho, wearBy, if_true, if_false]; done) | (simp (disch := omega) [setI_s, setI_oo, h0, h6, hwr, hho, wearBy, fateBy, c1]; done)
  · simp (disch := omega) only [setI_s, setI_oo, h6, hwr, hho, hmo, show (nI 2 = (1 : Int32)) = False from by decide, show (nI 2 = (2 : Int32)) = True from by decide, show (nI 2 = (4 : Int32)) = False from by decide, n10, if_false, if_true, Option.bind_some]
    by_cases c2 : nI p = hm
    · rw [if_pos c2]
      simp (disch := omega) only [Option.bind_some, setI_s, setI_oo, h6]
      refine ⟨_, congrArg some (Prod.ext (by simp [wearBy, fateBy, c2]) rfl), fun a b n1 n2 n3 n4 => ?_, fun i => ?_, fun i => ?_, ?_, fun i hi => ?_, ?_, ?_, ?_, ?_, ?_, ?_, ?_, ?_⟩
      · simp (disch := omega) only [setI_oo]
      · by_cases z : i = 8 * p + h
        · subst z; simp (disch := omega) only [setI_s, setI_oo, if_true]
        · simp (disch := omega) only [setI_oo, z, if_false]
      · by_cases z : i = p
        · subst z; simp (disch := omega) [setI_s, setI_oo, wearBy, fateBy, c2]
        · simp (disch := omega) [setI_oo, z]
      · simp (disch := omega) [setI_s, setI_oo, wearBy, fateBy, c2]
      · simp (disch := omega) only [setI_oo]
      all_goals first | (simp (disch := omega) only [setI_s, setI_oo, h0, h6, hwr, hho, wearBy, if_true, if_false]; done) | (simp (disch := omega) [setI_s, setI_oo, h0, h6, hwr, hho, wearBy, fateBy, c2]; done)
    · rw [if_neg c2]
      simp (disch := omega) only [Option.bind_some, setI_s, setI_oo, h6]
      refine ⟨_, congrArg some (Prod.ext (by simp [wearBy, fateBy, c2]) rfl), fun a b n1 n2 n3 n4 => ?_, fun i => ?_, fun i => ?_, ?_, fun i hi => ?_, ?_, ?_, ?_, ?_, ?_, ?_, ?_, ?_⟩
      · simp (disch := omega) only [setI_oo]
      · by_cases z : i = 8 * p + h
        · subst z; simp (disch := omega) only [setI_s, setI_oo, if_true]
        · simp (disch := omega) only [setI_oo, z, if_false]
      · by_cases z : i = p
        · subst z; simp (disch := omega) [setI_s, setI_oo, wearBy, fateBy, c2]
        · simp (disch := omega) [setI_oo, z]
      · simp (disch := omega) [setI_s, setI_oo, wearBy, fateBy, c2]
      · simp (disch := omega) only [setI_oo]
      all_goals first | (simp (disch := omega) only [setI_s, setI_oo, h0, h6, hwr, hho, wearBy, if_true, if_false]; done) | (simp (disch := omega) [setI_s, setI_oo, h0, h6, hwr, hho, wearBy, fateBy, c2]; done)
  · simp (disch := omega) only [setI_s, setI_oo, h6, hwr, hho, hmo, show (nI 3 = (1 : Int32)) = False from by decide, show (nI 3 = (2 : Int32)) = False from by decide, show (nI 3 = (4 : Int32)) = False from by decide, n10, if_false, if_true, Option.bind_some]
    by_cases c2 : nI p = hm
    · rw [if_pos c2]
      simp (disch := omega) only [Option.bind_some, setI_s, setI_oo, h6]
      refine ⟨_, congrArg some (Prod.ext (by simp [wearBy, fateBy, c2]) rfl), fun a b n1 n2 n3 n4 => ?_, fun i => ?_, fun i => ?_, ?_, fun i hi => ?_, ?_, ?_, ?_, ?_, ?_, ?_, ?_, ?_⟩
      · simp (disch := omega) only [setI_oo]
      · by_cases z : i = 8 * p + h
        · subst z; simp (disch := omega) only [setI_s, setI_oo, if_true]
        · simp (disch := omega) only [setI_oo, z, if_false]
      · by_cases z : i = p
        · subst z; simp (disch := omega) [setI_s, setI_oo, wearBy, fateBy, c2]
        · simp (disch := omega) [setI_oo, z]
      · simp (disch := omega) [setI_s, setI_oo, wearBy, fateBy, c2]
      · simp (disch := omega) only [setI_oo]
      all_goals first | (simp (disch := omega) only [setI_s, setI_oo, h0, h6, hwr, hho, wearBy, if_true, if_false]; done) | (simp (disch := omega) [setI_s, setI_oo, h0, h6, hwr, hho, wearBy, fateBy, c2]; done)
    · rw [if_neg c2]
      simp (disch := omega) only [Option.bind_some, setI_s, setI_oo, h6]
      refine ⟨_, congrArg some (Prod.ext (by simp [wearBy, fateBy, c2]) rfl), fun a b n1 n2 n3 n4 => ?_, fun i => ?_, fun i => ?_, ?_, fun i hi => ?_, ?_, ?_, ?_, ?_, ?_, ?_, ?_, ?_⟩
      · simp (disch := omega) only [setI_oo]
      · by_cases z : i = 8 * p + h
        · subst z; simp (disch := omega) only [setI_s, setI_oo, if_true]
        · simp (disch := omega) only [setI_oo, z, if_false]
      · by_cases z : i = p
        · subst z; simp (disch := omega) [setI_s, setI_oo, wearBy, fateBy, c2]
        · simp (disch := omega) [setI_oo, z]
      · simp (disch := omega) [setI_s, setI_oo, wearBy, fateBy, c2]
      · simp (disch := omega) only [setI_oo]
      all_goals first | (simp (disch := omega) only [setI_s, setI_oo, h0, h6, hwr, hho, wearBy, if_true, if_false]; done) | (simp (disch := omega) [setI_s, setI_oo, h0, h6, hwr, hho, wearBy, fateBy, c2]; done)
  · simp (disch := omega) only [setI_s, setI_oo, h6, hwr, hho, hmo, show (nI 4 = (1 : Int32)) = False from by decide, show (nI 4 = (2 : Int32)) = False from by decide, show (nI 4 = (4 : Int32)) = True from by decide, n10, if_false, if_true, Option.bind_some]
    by_cases c1 : wr + (2 : Int32) < mo
    · rw [if_pos c1]
      by_cases c2 : nI p = hm
      · rw [if_pos c2]
        simp (disch := omega) only [Option.bind_some, setI_s, setI_oo, h6]
        refine ⟨_, congrArg some (Prod.ext (by simp [wearBy, fateBy, c1, c2]) rfl), fun a b n1 n2 n3 n4 => ?_, fun i => ?_, fun i => ?_, ?_, fun i hi => ?_, ?_, ?_, ?_, ?_, ?_, ?_, ?_, ?_⟩
        · simp (disch := omega) only [setI_oo]
        · by_cases z : i = 8 * p + h
          · subst z; simp (disch := omega) only [setI_s, setI_oo, if_true]
          · simp (disch := omega) only [setI_oo, z, if_false]
        · by_cases z : i = p
          · subst z; simp (disch := omega) [setI_s, setI_oo, wearBy, fateBy, c1, c2]
          · simp (disch := omega) [setI_oo, z]
        · simp (disch := omega) [setI_s, setI_oo, wearBy, fateBy, c1, c2]
        · simp (disch := omega) only [setI_oo]
        all_goals first | (simp (disch := omega) only [setI_s, setI_oo, h0, h6, hwr, hho, wearBy, if_true, if_false]; done) | (simp (disch := omega) [setI_s, setI_oo, h0, h6, hwr, hho, wearBy, fateBy, c1, c2]; done)
      · rw [if_neg c2]
        simp (disch := omega) only [Option.bind_some, setI_s, setI_oo, h6]
        refine ⟨_, congrArg some (Prod.ext (by simp [wearBy, fateBy, c1, c2]) rfl), fun a b n1 n2 n3 n4 => ?_, fun i => ?_, fun i => ?_, ?_, fun i hi => ?_, ?_, ?_, ?_, ?_, ?_, ?_, ?_, ?_⟩
        · simp (disch := omega) only [setI_oo]
        · by_cases z : i = 8 * p + h
          · subst z; simp (disch := omega) only [setI_s, setI_oo, if_true]
          · simp (disch := omega) only [setI_oo, z, if_false]
        · by_cases z : i = p
          · subst z; simp (disch := omega) [setI_s, setI_oo, wearBy, fateBy, c1, c2]
          · simp (disch := omega) [setI_oo, z]
        · simp (disch := omega) [setI_s, setI_oo, wearBy, fateBy, c1, c2]
        · simp (disch := omega) only [setI_oo]
        all_goals first | (simp (disch := omega) only [setI_s, setI_oo, h0, h6, hwr, hho, wearBy, if_true, if_false]; done) | (simp (disch := omega) [setI_s, setI_oo, h0, h6, hwr, hho, wearBy, fateBy, c1, c2]; done)
    · rw [if_neg c1]
      simp (disch := omega) only [Option.bind_some, setI_s, setI_oo, h6]
      refine ⟨_, congrArg some (Prod.ext (by simp [wearBy, fateBy, c1]) rfl), fun a b n1 n2 n3 n4 => ?_, fun i => ?_, fun i => ?_, ?_, fun i hi => ?_, ?_, ?_, ?_, ?_, ?_, ?_, ?_, ?_⟩
      · simp (disch := omega) only [setI_oo]
      · by_cases z : i = 8 * p + h
        · subst z; simp (disch := omega) only [setI_s, setI_oo, if_true]
        · simp (disch := omega) only [setI_oo, z, if_false]
      · by_cases z : i = p
        · subst z; simp (disch := omega) [setI_s, setI_oo, wearBy, fateBy, c1]
        · simp (disch := omega) [setI_oo, z]
      · simp (disch := omega) [setI_s, setI_oo, wearBy, fateBy, c1]
      · simp (disch := omega) only [setI_oo]
      all_goals first | (simp (disch := omega) only [setI_s, setI_oo, h0, h6, hwr, hho, wearBy, if_true, if_false]; done) | (simp (disch := omega) [setI_s, setI_oo, h0, h6, hwr, hho, wearBy, fateBy, c1]; done)
