theorem ageX {w : Nat} {G : Nat} (hG : G ≤ 8) : ∀ (d i n : Nat) (σ : St), i + d = G → d < n → σ.1 w 6 = nI G → ∃ τ, fX7_passYear_n_L12 w n (nI i) σ = some τ ∧ (∀ a b, ¬ (b = 5 ∧ w + 7 + i ≤ a ∧ a < w + 7 + G ∧ σ.1 a 6 = 0) → τ.1 a b = σ.1 a b) ∧ (∀ g, i ≤ g → g < G → σ.1 (w + 7 + g) 6 = 0 → τ.1 (w + 7 + g) 5 = σ.1 (w + 7 + g) 5 + 1) := by
  intro d
  induction d with
  | zero =>
    intro i n σ hi hn h6
    obtain ⟨n, rfl, -⟩ := su hn
    have e : i = G := by omega
    subst e
    rw [fX7_passYear_n_L12, h6, if_pos (nI_le (a := i) (b := i) (by omega) (by omega))]
    exact ⟨σ, rfl, fun _ _ _ => rfl, fun g h1 h2 => by omega⟩
  | succ d ih =>
    intro i n σ hi hn h6
    obtain ⟨n, rfl, hn⟩ := su hn
    rw [fX7_passYear_n_L12, h6, if_neg (nI_ge (a := i) (b := G) (by omega) (by omega)), grd_t (inbN (show i < 8 by omega) (by decide)), grd_t (inbN (show i < 8 by omega) (by decide)), tcl (by omega)]
    simp only [bnd, nI_1]
    unfold fX3_lives
    by_cases z : σ.1 (w + 7 + i) 6 = 0
    · rw [if_pos z, if_neg (by decide)]
      obtain ⟨τ, e1, e2, e3⟩ := ih (i + 1) n (setI σ (w + 7 + i) 5 (σ.1 (w + 7 + i) 5 + 1)) (by omega) (by omega) (by rw [setI_oo (by omega)]; exact h6)
      refine ⟨τ, e1, fun a b hab => ?_, fun g h1 h2 h3 => ?_⟩
      · rw [e2 a b (fun q => hab ⟨q.1, by omega, q.2.2.1, by have := q.2.2.2; rw [setI_oo (by omega)] at this; exact this⟩)]
        rw [setI_oo (fun q => hab ⟨q.2, by omega, by omega, by rw [q.1]; exact z⟩)]
      · by_cases q : g = i
        · subst q
          rw [e2 _ _ (by omega), setI_s]
        · rw [e3 g (by omega) h2 (by rw [setI_oo (by omega)]; exact h3), setI_oo (by omega)]
    · rw [if_neg z, if_pos rfl]
      obtain ⟨τ, e1, e2, e3⟩ := ih (i + 1) n σ (by omega) (by omega) h6
      refine ⟨τ, e1, fun a b hab => e2 a b (fun q => hab ⟨q.1, by omega, q.2.2⟩), fun g h1 h2 h3 => ?_⟩
      by_cases q : g = i
      · subst q; exact absurd h3 z
      · exact e3 g (by omega) h2 h3
theorem ageM {G : Nat} (hG : G ≤ 8) (c1 : Int32) : ∀ (d i n : Nat) (σ : St), i + d = 8 → d < n → σ.1 58 20 = nI G → ∃ τ, fX9_year_L2 c1 n (nI i) σ = some τ ∧ (∀ a b, a ≠ 65 → a ≠ 66 → τ.1 a b = σ.1 a b) ∧ (∀ j, i ≤ j → j < 8 → τ.1 66 j = 0) ∧ (∀ j, j < i → τ.1 66 j = σ.1 66 j) ∧ (∀ g k, g < 8 → k < 8 → τ.1 65 (8 * g + k) = if k = 5 ∧ i ≤ g ∧ g < G ∧ σ.1 65 (8 * g + 6) = 0 then σ.1 65 (8 * g + k) + 1 else σ.1 65 (8 * g + k)) := by
  intro d
  induction d with
  | zero =>
    intro i n σ hi hn h6
    obtain ⟨n, rfl, -⟩ := su hn
    have e : i = 8 := by omega
    subst e
    rw [fX9_year_L2, if_pos (show (8 : Int32) ≤ nI 8 by decide)]
    exact ⟨σ, rfl, fun _ _ _ _ => rfl, fun g h1 h2 => by omega, fun _ _ => rfl, fun g k h1 h2 => by rw [if_neg (by omega)]⟩
  | succ d ih =>
    intro i n σ hi hn h6
    obtain ⟨n, rfl, hn⟩ := su hn
    rw [fX9_year_L2, if_neg (show ¬ (8 : Int32) ≤ nI i from nI_ge (a := i) (b := 8) (by omega) (by decide))]
    simp (disch := omega) only [grd_t (inbN (show i < 8 by omega) (by decide)), tcl, bnd, ix80, nk5, grd_t (inbN (show 8 * i + 5 < 64 by omega) (by decide)), mlives, Option.bind_some, setI_oo, h6, nI_1]
    have key : ∃ v, (if nI G ≤ nI i then some (0 : Int32) else if (if σ.1 65 (8 * i + 6) = 0 then (1 : Int32) else (0 : Int32)) = 0 then some (0 : Int32) else some (1 : Int32)) = some v ∧ v = if i < G ∧ σ.1 65 (8 * i + 6) = 0 then 1 else 0 := by
      by_cases q : i < G
      · rw [if_neg (nI_ge (a := i) (b := G) q (by omega))]
        by_cases z : σ.1 65 (8 * i + 6) = 0
        · exact ⟨1, by rw [if_pos z, if_neg (by decide)], by rw [if_pos ⟨q, z⟩]⟩
        · exact ⟨0, by rw [if_neg z, if_pos rfl], by rw [if_neg (fun t => z t.2)]⟩
      · rw [if_pos (nI_le (a := G) (b := i) (by omega) (by omega))]
        exact ⟨0, rfl, by rw [if_neg (fun t => q t.1)]⟩
    obtain ⟨v, e0, ev⟩ := key
    rw [e0]
    simp only [Option.bind_some]
    obtain ⟨τ, e1, e2, e3, e4, e5⟩ := ih (i + 1) n (setI (setI σ 66 i 0) 65 (8 * i + 5) (σ.1 65 (8 * i + 5) + v)) (by omega) (by omega) (by rw [setI_oo (by omega), setI_oo (by omega)]; exact h6)
    refine ⟨τ, e1, fun a b h1 h2 => ?_, fun j h1 h2 => ?_, fun j h1 => ?_, fun g k h1 h2 => ?_⟩
    · rw [e2 a b h1 h2, setI_oo (by omega), setI_oo (by omega)]
    · by_cases q : j = i
      · subst q; rw [e4 j (by omega), setI_oo (by omega), setI_s]
      · exact e3 j (by omega) h2
    · rw [e4 j (by omega), setI_oo (by omega), setI_oo (by omega)]
    · rw [e5 g k h1 h2, setI_oo (a := 65) (b := 8 * g + 6) (by omega), setI_oo (a := 65) (b := 8 * g + 6) (by omega)]
      by_cases q : k = 5 ∧ g = i
      · obtain ⟨rfl, rfl⟩ := q
        rw [if_neg (by omega), setI_s, ev]
        by_cases t : g < G ∧ σ.1 65 (8 * g + 6) = 0
        · rw [if_pos t, if_pos ⟨rfl, by omega, t.1, t.2⟩]
        · rw [if_neg t, if_neg (fun z => t ⟨z.2.2.1, z.2.2.2⟩)]; simp
      · rw [setI_oo (by omega), setI_oo (by omega)]
        by_cases t : k = 5 ∧ i + 1 ≤ g ∧ g < G ∧ σ.1 65 (8 * g + 6) = 0
        · rw [if_pos t, if_pos ⟨t.1, by omega, t.2.2⟩]
        · rw [if_neg t, if_neg (fun z => t ⟨z.1, by omega, z.2.2⟩)]
theorem age2 {w : Nat} {σ σ' : St} {P G : Nat} (h : WR w σ σ' P G) (c1 : Int32) : ∃ τ τ', fX7_passYear_n_L12 w fu (0 : Int32) σ = some τ ∧ fX9_year_L2 c1 fu (0 : Int32) σ' = some τ' ∧ WR w τ τ' P G ∧ (∀ j, j < 8 → τ'.1 66 j = 0) ∧ (∀ b, τ.1 3 b = σ.1 3 b ∨ w + 7 ≤ 3) ∧ (∀ b, τ'.1 58 b = σ'.1 58 b) := by
  obtain ⟨⟨hP, hG⟩, ⟨p0, p1⟩, ⟨g0, g1⟩, hy, hwh, hwk, hwf, hwl, hwd, hwg, v1, v2, v3, v4, v5, v6⟩ := id h
  obtain ⟨τ, e1, e2, e3⟩ := ageX hG G 0 fu σ (by omega) (fu_gt (by omega)) g0
  obtain ⟨τ', f1, f2, f3, f4, f5⟩ := ageM hG c1 8 0 fu σ' (by omega) (fu_gt (by omega)) g1
  refine ⟨τ, τ', e1, f1, ?_, fun j hj => f3 j (by omega) hj, fun b => ?_, fun b => f2 58 b (by decide) (by decide)⟩
  · have em : ∀ a, a ≠ 65 → a ≠ 66 → τ'.1 a = σ'.1 a := fun a h1 h2 => funext fun b => f2 a b h1 h2
    have ex : ∀ a, a < w + 7 → τ.1 a = σ.1 a := fun a h1 => funext fun b => e2 a b (by omega)
    unfold WR
    rw [ex w (by omega), ex (w + 1) (by omega), ex (w + 2) (by omega), ex (w + 3) (by omega), ex (w + 4) (by omega), ex (w + 5) (by omega), em 58 (by decide) (by decide), em 60 (by decide) (by decide), em 61 (by decide) (by decide), em 62 (by decide) (by decide), em 63 (by decide) (by decide), em 64 (by decide) (by decide)]
    refine ⟨⟨hP, hG⟩, ⟨p0, p1⟩, ⟨g0, g1⟩, hy, hwh, hwk, hwf, hwl, hwd, fun g hg k hk => ?_, v1, v2, v3, fun g hg => ?_, v5, v6⟩
    · dsimp only
      rw [f5 g k hg hk]
      have x6 : σ.1 (w + 7 + g) 6 = σ'.1 65 (8 * g + 6) := hwg g hg 6 (by decide)
      by_cases t : k = 5 ∧ g < G ∧ σ'.1 65 (8 * g + 6) = 0
      · obtain ⟨rfl, t1, t2⟩ := t
        rw [if_pos ⟨rfl, by omega, t1, t2⟩, e3 g (by omega) t1 (x6.trans t2), show σ.1 (w + 7 + g) 5 = σ'.1 65 (8 * g + 5) from hwg g hg 5 (by decide)]
      · rw [if_neg (fun z => t ⟨z.1, z.2.2.1, z.2.2.2⟩), e2 _ _ (fun z => t ⟨z.1, by omega, x6.symm.trans z.2.2.2⟩)]
        exact hwg g hg k hk
    · have g5 := f5 g
      unfold GV
      rw [show τ'.1 65 (8 * g) = σ'.1 65 (8 * g) from by have := g5 0 (by omega) (by decide); rw [if_neg (by omega)] at this; exact this, g5 1 (by omega) (by decide), g5 2 (by omega) (by decide), g5 3 (by omega) (by decide), g5 6 (by omega) (by decide), if_neg (by omega), if_neg (by omega), if_neg (by omega), if_neg (by omega)]
      exact v4 g hg
  · by_cases q : w + 7 ≤ 3
    · exact Or.inr q
    · exact Or.inl (e2 3 b (by omega))
