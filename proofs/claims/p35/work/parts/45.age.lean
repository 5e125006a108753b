theorem ageX {w : Nat} {G : Nat} (hG : G ≤ 8) : ∀ (d i n : Nat) (σ : St), i + d = G → d < n → σ.1 w 6 = nI G → ∃ τ, fX7_passYear_n_L12 w n (nI i) σ = some τ ∧ (∀ a b, ¬ (b = 5 ∧ w + 7 + i ≤ a ∧ a < w + 7 + G ∧ σ.1 a 6 = 0) → τ.1 a b = σ.1 a b) ∧ (∀ g, i ≤ g → g < G → σ.1 (w + 7 + g) 6 = 0 → τ.1 (w + 7 + g) 5 = σ.1 (w + 7 + g) 5 + 1) := by
  intro d
  induction d with
  | zero =>
    intro i n σ hi hn h6
    obtain ⟨n, rfl, -⟩ := su hn
    have e : i = G := by omega
    subst e
    rw [fX7_passYear_n_L12, h6, if_pos (nI_le (a := i) (b := i) (by omega) (by omega))]
    exact ⟨σ, rfl, fun _ _ _ => rfl, fun g h1 h2 => by omega⟩
  | succ d ih =>
    intro i n σ hi hn h6
    obtain ⟨n, rfl, hn⟩ := su hn
    rw [fX7_passYear_n_L12, h6, if_neg (nI_ge (a := i) (b := G) (by omega) (by omega)), grd_t (inbN (show i < 8 by omega) (by decide)), grd_t (inbN (show i < 8 by omega) (by decide)), tcl (by omega)]
    simp only [bnd, nI_1]
    unfold fX3_lives
    by_cases z : σ.1 (w + 7 + i) 6 = 0
    · rw [if_pos z, if_neg (by decide)]
      obtain ⟨τ, e1, e2, e3⟩ := ih (i + 1) n (setI σ (w + 7 + i) 5 (σ.1 (w + 7 + i) 5 + 1)) (by omega) (by omega) (by rw [setI_oo (by omega)]; exact h6)
      refine ⟨τ, e1, fun a b hab => ?_, fun g h1 h2 h3 => ?_⟩
      · rw [e2 a b (fun q => hab ⟨q.1, by omega, q.2.2.1, by have := q.2.2.2; rw [setI_oo (by omega)] at this; exact this⟩)]
        rw [setI_oo (fun q => hab ⟨q.2, by omega, by omega, by rw [q.1]; exact z⟩)]
      · by_cases q : g = i
        · subst q
          rw [e2 _ _ (by omega), setI_s]
        · rw [e3 g (by omega) h2 (by rw [setI_oo (by omega)]; exact h3), setI_oo (by omega)]
    · rw [if_neg z, if_pos rfl]
      obtain ⟨τ, e1, e2, e3⟩ := ih (i + 1) n σ (by omega) (by omega) h6
      refine ⟨τ, e1, fun a b hab => e2 a b (fun q => hab ⟨q.1, by omega, q.2.2⟩), fun g h1 h2 h3 => ?_⟩
      by_cases q : g = i
      · subst q; exact absurd h3 z
      · exact e3 g (by omega) h2 h3
theorem ageM {pc gc : Nat} (hpg : pc ≠ gc) {G : Nat} (hG : G ≤ 8) (oc : Nat) (c1 c2 : Int32) : ∀ (d i n : Nat) (σ : St), i + d = G → d < n → σ.1 pc 25 = nI G → ∃ τ, fL_year_L9 pc 27 58 4 gc 64 61 64 oc 64 64 1 c1 c2 n (nI i) σ = some τ ∧ τ.2 = σ.2 ∧ (∀ a b, a ≠ gc → τ.1 a b = σ.1 a b) ∧ (∀ g k, g < 8 → k < 8 → τ.1 gc (8 * g + k) = if k = 5 ∧ i ≤ g ∧ g < G ∧ σ.1 gc (8 * g + 7) = 0 then σ.1 gc (8 * g + k) + 1 else σ.1 gc (8 * g + k)) := by
  intro d
  induction d with
  | zero =>
    intro i n σ hi hn h6
    obtain ⟨n, rfl, -⟩ := su hn
    have e : i = G := by omega
    subst e
    rw [fL_year_L9, grd_t (show inb (25 : Int32) 27 = true from by decide), show (25 : Int32).toNatClampNeg = 25 from rfl, h6, if_pos (nI_le (a := i) (b := i) (by omega) (by omega))]
    exact ⟨σ, rfl, rfl, fun _ _ _ => rfl, fun g k h1 h2 => by rw [if_neg (fun q => by omega)]⟩
  | succ d ih =>
    intro i n σ hi hn h6
    obtain ⟨n, rfl, hn⟩ := su hn
    rw [fL_year_L9, grd_t (show inb (25 : Int32) 27 = true from by decide), show (25 : Int32).toNatClampNeg = 25 from rfl, h6, if_neg (nI_ge (a := i) (b := G) (by omega) (by omega))]
    simp (disch := omega) only [ix8_5, ix8_7, grd_t (inbN (show 8 * i + 5 < 64 by omega) (by decide)), grd_t (inbN (show 8 * i + 7 < 64 by omega) (by decide)), tcl, bnd, nI_1]
    obtain ⟨τ, e1, e2, e3, e4⟩ := ih (i + 1) n (setI σ gc (8 * i + 5) (σ.1 gc (8 * i + 5) + (if σ.1 gc (8 * i + 7) = 0 then (1 : Int32) else 0))) (by omega) (by omega) (by rw [setI_oo (by omega)]; exact h6)
    refine ⟨τ, e1, e2, fun a b hab => ?_, fun g k h1 h2 => ?_⟩
    · rw [e3 a b hab, setI_oo (by omega)]
    · rw [e4 g k h1 h2, setI_oo (a := gc) (b := 8 * g + 7) (by omega)]
      by_cases q : g = i
      · subst q
        rw [if_neg (by omega)]
        by_cases k5 : k = 5
        · subst k5
          rw [setI_s]
          by_cases z : σ.1 gc (8 * g + 7) = 0
          · rw [if_pos z, if_pos ⟨rfl, by omega, by omega, z⟩]
          · rw [if_neg z, if_neg (fun y => z y.2.2.2)]
            simp
        · rw [setI_oo (by omega), if_neg (fun y => k5 y.1)]
      · rw [setI_oo (by omega)]
        by_cases y : k = 5 ∧ i ≤ g ∧ g < G ∧ σ.1 gc (8 * g + 7) = 0
        · rw [if_pos y, if_pos ⟨y.1, by omega, y.2.2⟩]
        · rw [if_neg y, if_neg (fun x => y ⟨x.1, by omega, x.2.2⟩)]
/-- a year older -/
theorem age2 {w pc oc gc B : Nat} (hdc : Dc pc oc gc) {σ σ' : St} {P G : Nat} (h : WL w pc oc gc B σ σ' P G) (c1 c2 : Int32) : ∃ τ τ', fX7_passYear_n_L12 w fu (0 : Int32) σ = some τ ∧ fL_year_L9 pc 27 58 4 gc 64 61 64 oc 64 64 1 c1 c2 fu (0 : Int32) σ' = some τ' ∧ WL w pc oc gc B τ τ' P G ∧ (∀ a b, ¬ (b = 5 ∧ w + 7 ≤ a ∧ a < w + 15) → τ.1 a b = σ.1 a b) ∧ τ'.2 = σ'.2 ∧ (∀ a b, a ≠ gc → τ'.1 a b = σ'.1 a b) := by
  obtain ⟨⟨hP, hG⟩, ⟨p0, p1⟩, ⟨g0, g1⟩, hwh, hwk, hwf, hwl, hwd, hwg, v1, v2, v3⟩ := id h
  obtain ⟨⟨d1, d2, d3, d4, d5, d6⟩, d7, d8, d9⟩ := hdc
  obtain ⟨τ, e1, e2, e3⟩ := ageX (w := w) hG G 0 fu σ (by omega) (fu_gt (by omega)) g0
  obtain ⟨τ', f1, f2, f3, f4⟩ := ageM d2 hG oc c1 c2 G 0 fu σ' (by omega) (fu_gt (by omega)) g1
  have k4 : ∀ g k, g < 8 → k < 8 → k ≠ 5 → τ'.1 gc (8 * g + k) = σ'.1 gc (8 * g + k) := fun g k a b c => by
    rw [f4 g k a b, if_neg (fun q => c q.1)]
  refine ⟨τ, τ', e1, f1, ⟨⟨hP, hG⟩, ⟨?_, ?_⟩, ⟨?_, ?_⟩, ?_, ?_, ?_, ?_, ?_, ?_, ?_, ?_, ?_⟩, fun a b hab => e2 a b (fun q => hab ⟨q.1, by omega, by omega⟩), f2, f3⟩
  · rw [e2 _ _ (by omega)]; exact p0
  · rw [f3 _ _ d2]; exact p1
  · rw [e2 _ _ (by omega)]; exact g0
  · rw [f3 _ _ d2]; exact g1
  · intro i hi
    rw [e2 _ _ (by omega), f3 _ _ d2]; exact hwh i hi
  · intro i hi
    rw [e2 _ _ (by omega), f3 _ _ d2]; exact hwk i hi
  · intro i hi
    rw [e2 _ _ (by omega), f3 _ _ d2]; exact hwf i hi
  · intro i hi
    rw [e2 _ _ (by omega), f3 _ _ (by omega)]; exact hwl i hi
  · intro i hi
    rw [e2 _ _ (by omega), f3 _ _ d3]; exact hwd i hi
  · intro g hg k hk
    by_cases k5 : k = 5
    · subst k5
      have x6 : σ.1 (w + 7 + g) 6 = σ'.1 gc (8 * g + 7) := hwg g hg 6 (by decide)
      have x5 : σ.1 (w + 7 + g) 5 = σ'.1 gc (8 * g + 5) := hwg g hg 5 (by decide)
      show τ.1 (w + 7 + g) 5 = τ'.1 gc (8 * g + 5)
      rw [f4 g 5 hg (by decide)]
      by_cases z : g < G ∧ σ.1 (w + 7 + g) 6 = 0
      · rw [e3 g (by omega) z.1 z.2, if_pos ⟨rfl, by omega, z.1, x6.symm.trans z.2⟩, x5]
      · rw [e2 _ _ (fun q => z ⟨by omega, q.2.2.2⟩), if_neg (fun q => z ⟨q.2.2.1, x6.trans q.2.2.2⟩), x5]
    · have : pm k ≠ 5 := fun q => k5 (by have := pm_pm k; rw [q] at this; exact this.symm)
      rw [e2 _ _ (fun q => k5 q.1), k4 g (pm k) hg (pm_lt hk) this]
      exact hwg g hg k hk
  · intro i hi
    rw [f3 _ _ d2]; exact v1 i hi
  · intro i hi
    rw [f3 _ _ d2]; exact v2 i hi
  · intro g hg
    unfold GVl
    have k0 := k4 g 0 (by omega) (by decide) (by decide)
    rw [show 8 * g + 0 = 8 * g from rfl] at k0
    rw [k0, k4 g 1 (by omega) (by decide) (by decide), k4 g 2 (by omega) (by decide) (by decide), k4 g 3 (by omega) (by decide) (by decide), k4 g 4 (by omega) (by decide) (by decide), k4 g 7 (by omega) (by decide) (by decide)]
    exact v3 g hg
