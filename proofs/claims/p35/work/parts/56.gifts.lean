theorem setI_id {σ : St} {i k : Nat} {v : Int32} (h : σ.1 i k = v) : setI σ i k v = σ := by
  refine Prod.ext (funext fun a => funext fun b => ?_) rfl
  rw [setI_1]
  by_cases e : a = i ∧ b = k
  · rw [if_pos e, e.1, e.2]; exact h.symm
  · rw [if_neg e]
theorem gift1 {P i κ p : Nat} {σ : St} (hi : i < 8) (hκ : κ < 5) (hp : p < P) (hW : WL 4 60 62 63 1 σ (setI σ 60 25 (nI i)) P i) (hZ : Z63 σ i) : ∃ τ, fX8_gift (nI κ) (nI p) (setI (setI (setI (setI σ 63 (8 * i) (nI κ)) 63 (8 * i + 1) (nI p)) 63 (8 * i + 2) (nI p)) 63 (8 * i + 3) (-1)) = some (nI i, τ) ∧ WL 4 60 62 63 1 τ (setI τ 60 25 (nI (i + 1))) P (i + 1) ∧ Z63 τ (i + 1) ∧ (∀ a b, ¬ (a = 4 ∧ b = 6) → ¬ (a = 11 + i ∧ b < 8) → a ≠ 63 → τ.1 a b = σ.1 a b) := by
  obtain ⟨⟨hP, hG⟩, ⟨p0, p1⟩, ⟨g0, g1⟩, hwh, hwk, hwf, hwl, hwd, hwg, v1, v2, v4⟩ := id hW
  obtain ⟨τ, e1, e2, t0, t6, f0, f1, f2, f3, f4, f5, f6, f7⟩ := x_gift (σ := setI (setI (setI (setI σ 63 (8 * i) (nI κ)) 63 (8 * i + 1) (nI p)) 63 (8 * i + 2) (nI p)) 63 (8 * i + 3) (-1)) (P := P) (G := i) (κ := κ) (p := p) (by simp (disch := omega) only [setI_oo]; exact p0) (by simp (disch := omega) only [setI_oo]; exact g0) hP hi hκ hp
  have T : ∀ a b, ¬ (a = 4 ∧ b = 6) → ¬ (a = 11 + i ∧ b < 8) → ¬ (a = 63 ∧ 8 * i ≤ b ∧ b < 8 * i + 4) → τ.1 a b = σ.1 a b := fun a b n1 n2 n3 => by
    rw [t0 a b n1 n2]
    simp (disch := omega) only [setI_oo]
  have T' : ∀ b, b ≠ 25 → (setI τ 60 25 (nI (i + 1))).1 60 b = (setI σ 60 25 (nI i)).1 60 b := fun b hb => by
    rw [setI_oo (by omega), setI_oo (by omega), T 60 b (by omega) (by omega) (by omega)]
  have l0 : τ.1 63 (8 * i) = nI κ := by rw [t0 _ _ (by omega) (by omega)]; simp (disch := omega) only [setI_s, setI_oo]
  have l1 : τ.1 63 (8 * i + 1) = nI p := by rw [t0 _ _ (by omega) (by omega)]; simp (disch := omega) only [setI_s, setI_oo]
  have l2 : τ.1 63 (8 * i + 2) = nI p := by rw [t0 _ _ (by omega) (by omega)]; simp (disch := omega) only [setI_s, setI_oo]
  have l3 : τ.1 63 (8 * i + 3) = -1 := by rw [t0 _ _ (by omega) (by omega)]; simp (disch := omega) only [setI_s, setI_oo]
  have lz : ∀ j, 8 * i + 4 ≤ j → j < 64 → τ.1 63 j = 0 := fun j h1 h2 => by rw [T 63 j (by omega) (by omega) (by omega)]; exact hZ j (by omega) h2
  refine ⟨τ, e1, ⟨⟨hP, by omega⟩, ⟨?_, ?_⟩, ⟨t6, setI_s⟩, fun j hj => ?_, fun j hj => ?_, fun j hj => ?_, fun j hj => ?_, fun j hj => ?_, fun g hg k hk => ?_, fun j hj => ?_, fun j hj => ?_, fun g hg => ?_⟩, fun j h1 h2 => lz j (by omega) h2, fun a b n1 n2 n3 => T a b n1 n2 (by omega)⟩
  · rw [T 4 0 (by omega) (by omega) (by omega)]; exact p0
  · rw [T' 0 (by omega)]; exact p1
  · rw [T' _ (by omega), T 5 j (by omega) (by omega) (by omega)]; exact hwh j hj
  · rw [T' _ (by omega), T 6 j (by omega) (by omega) (by omega)]; exact hwk j hj
  · rw [T' _ (by omega), T 7 j (by omega) (by omega) (by omega)]; exact hwf j hj
  · have := hwl j hj
    rw [setI_oo (by omega)] at this
    rw [setI_oo (by omega), T 8 j (by omega) (by omega) (by omega), T 61 j (by omega) (by omega) (by omega)]; exact this
  · have := hwd j hj
    rw [setI_oo (by omega)] at this
    rw [setI_oo (by omega), T 9 j (by omega) (by omega) (by omega), T 62 j (by omega) (by omega) (by omega)]; exact this
  · rw [setI_oo (by omega)]
    by_cases z : g = i
    · subst z
      rcases (show k = 0 ∨ k = 1 ∨ k = 2 ∨ k = 3 ∨ k = 4 ∨ k = 5 ∨ k = 6 ∨ k = 7 by omega) with rfl | rfl | rfl | rfl | rfl | rfl | rfl | rfl
      · exact f0.trans l0.symm
      · exact f1.trans l1.symm
      · exact f2.trans l2.symm
      · exact f3.trans l3.symm
      · exact f4.trans (lz (8 * g + 4) (by omega) (by omega)).symm
      · exact f5.trans (lz (8 * g + 5) (by omega) (by omega)).symm
      · exact f6.trans (lz (8 * g + 7) (by omega) (by omega)).symm
      · exact f7.trans (lz (8 * g + 6) (by omega) (by omega)).symm
    · have hpm := pm_lt hk
      have := hwg g hg k hk
      rw [setI_oo (by omega)] at this
      rw [T (4 + 7 + g) k (by omega) (by omega) (by omega), T 63 _ (by omega) (by omega) (by omega)]; exact this
  · rw [T' _ (by omega)]; exact v1 j hj
  · rw [T' _ (by omega)]; exact v2 j hj
  · unfold GVl
    simp (disch := omega) only [setI_oo]
    by_cases z : g = i
    · subst z
      rw [l0, l1, l2, l3, lz _ (by omega) (by omega), lz _ (by omega) (by omega)]
      exact ⟨⟨κ, hκ, rfl⟩, ⟨p, hp, rfl⟩, ⟨p, hp, rfl⟩, Or.inl rfl, ⟨0, by decide, rfl⟩, ⟨0, by decide, rfl⟩⟩
    · have := v4 g (by omega)
      unfold GVl at this
      simp (disch := omega) only [setI_oo] at this
      rw [T 63 _ (by omega) (by omega) (by omega), T 63 _ (by omega) (by omega) (by omega), T 63 _ (by omega) (by omega) (by omega), T 63 _ (by omega) (by omega) (by omega), T 63 _ (by omega) (by omega) (by omega), T 63 _ (by omega) (by omega) (by omega)]
      exact this
theorem giftsL {P G : Nat} (hG : G ≤ 8) (h2 : 2 ≤ P) : ∀ (d i n : Nat) (σ : St), i + d = G → d < n → WL 4 60 62 63 1 σ (setI σ 60 25 (nI i)) P i → σ.1 60 25 = nI G → Rs σ → Z63 σ i → ∃ τ, fL_gifts_L19 (10 : Int32) 60 27 63 64 n (nI i) σ = some (.inr τ) ∧ WL 4 60 62 63 1 τ τ P G ∧ Rs τ := by
  intro d
  induction d with
  | zero =>
    intro i n σ hi hn hW hg hR hZ
    obtain ⟨n, rfl, -⟩ := su hn
    have e : i = G := by omega
    subst e
    rw [fL_gifts_L19, grd_t (show inb (25 : Int32) 27 = true from by decide), show (25 : Int32).toNatClampNeg = 25 from rfl, hg, if_pos (nI_le (a := i) (b := i) (by omega) (by omega))]
    rw [setI_id hg] at hW
    exact ⟨σ, rfl, hW, hR⟩
  | succ d ih =>
    intro i n σ hi hn hW hg hR hZ
    have hP := hW.1.1
    obtain ⟨n, rfl, hn⟩ := su hn
    have p1 : σ.1 60 0 = nI P := by have := hW.2.1.2; rw [setI_oo (by omega)] at this; exact this
    rw [fL_gifts_L19, grd_t (show inb (25 : Int32) 27 = true from by decide), show (25 : Int32).toNatClampNeg = 25 from rfl, hg, if_neg (nI_ge (a := i) (b := G) (by omega) (by omega)), m3 (by omega), show ((10 : Int32) + (1 : Int32)) = nI 11 from rfl, nI_add]
    obtain ⟨q, eq⟩ := cell_c hR.2.2 (k := 11 + i % 3) (by omega)
    rw [eq]
    simp only [obs, bnd_eq]
    generalize q >>> (((9 : Int32) * (nI i / (3 : Int32))) &&& 31) = x
    obtain ⟨κ, hκ, eκ⟩ := at_c x (n := 5) (by decide) (by decide)
    obtain ⟨p, hp, ep⟩ := at_c (x >>> ((3 : Int32) &&& 31)) (n := P) (by omega) (by omega)
    obtain ⟨τ, e1, e2, e3, e4⟩ := gift1 (show i < 8 by omega) hκ hp hW hZ
    rw [show (5 : Int32) = nI 5 from rfl, eκ]
    simp only [obs]
    rw [ix80, grd_t (inbN (show 8 * i < 64 by omega) (by decide)), grd_t (show inb (0 : Int32) 27 = true from by decide), show (0 : Int32).toNatClampNeg = 0 from rfl, tcl (by omega), setI_oo (show ¬ (60 = 63 ∧ 0 = 8 * i) by omega), p1, ep]
    simp only [obs, bnd_eq]
    rw [nk1, nk2, nk3, grd_t (inbN (show 8 * i + 1 < 64 by omega) (by decide)), grd_t (inbN (show 8 * i + 1 < 64 by omega) (by decide)), grd_t (inbN (show 8 * i + 2 < 64 by omega) (by decide)), grd_t (inbN (show 8 * i + 3 < 64 by omega) (by decide)), grd_t (inbN (show 8 * i < 64 by omega) (by decide)), grd_t (inbN (show 8 * i + 1 < 64 by omega) (by decide)), tcl (by omega), tcl (by omega), tcl (by omega)]
    simp (disch := omega) only [setI_s, setI_oo]
    rw [e1]
    simp only [obs, if_true, nI_1]
    have e25 : τ.1 60 25 = nI G := by rw [e4 60 25 (by omega) (by omega) (by omega)]; exact hg
    exact ih (i + 1) n τ (by omega) (by omega) e2 e25 (hR.cong (fun b => e4 3 b (by omega) (by omega) (by omega)) (fun b => e4 58 b (by omega) (by omega) (by omega)) (e4 4 8 (by omega) (by omega) (by omega)) (e4 60 26 (by omega) (by omega) (by omega)) (e4 69 0 (by omega) (by omega) (by omega))) e3
theorem giftsT {P : Nat} (h2 : 2 ≤ P) {σ : St} (hW : WL 4 60 62 63 1 σ σ P 0) (hR : Rs σ) (hZ : Z63 σ 0) : ∃ G τ, 1 ≤ G ∧ fL_gifts (10 : Int32) (8 : Int32) 60 27 63 64 σ = some (1, τ) ∧ WL 4 60 62 63 1 τ τ P G ∧ Rs τ := by
  obtain ⟨q, eq⟩ := cell_c hR.2.2 (k := 10) (by decide)
  obtain ⟨j, hj, ej⟩ := at_c q (n := 8) (by decide) (by decide)
  have hW0 : WL 4 60 62 63 1 (setI σ 60 25 (nI (1 + j))) (setI (setI σ 60 25 (nI (1 + j))) 60 25 (nI 0)) P 0 := by
    have e : setI (setI σ 60 25 (nI (1 + j))) 60 25 (nI 0) = σ := by
      refine Prod.ext (funext fun a => funext fun b => ?_) rfl
      rw [setI_1]
      by_cases z : a = 60 ∧ b = 25
      · rw [if_pos z, z.1, z.2]; exact hW.2.2.1.2.symm
      · rw [if_neg z, setI_oo z]
    rw [e]
    obtain ⟨a1, a2, a3, a4, a5, a6, a7, a8, a9, a10⟩ := hW
    unfold WL
    simp (disch := omega) only [setI_o]
    exact ⟨a1, a2, a3, a4, a5, a6, a7, a8, fun g hg k hk => by rw [setI_oo (by omega)]; exact a9 g hg k hk, a10⟩
  have hR0 : Rs (setI σ 60 25 (nI (1 + j))) := hR.cong (fun b => by rw [setI_oo (by omega)]) (fun b => by rw [setI_oo (by omega)]) (by rw [setI_oo (by omega)]) (by rw [setI_oo (by omega)]) (by rw [setI_oo (by omega)])
  obtain ⟨τ, e1, e2, e3⟩ := giftsL (show 1 + j ≤ 8 by omega) h2 (1 + j) 0 fu _ (by omega) (fu_gt (by omega)) hW0 setI_s hR0 (fun i h1 h2 => by rw [setI_oo (by omega)]; exact hZ i h1 h2)
  refine ⟨1 + j, τ, by omega, ?_, e2, e3⟩
  unfold fL_gifts
  rw [show fL_cell (10 : Int32) σ = some q from eq]
  simp only [obs, bnd_eq]
  rw [show fL_at q (8 : Int32) = some (nI j) from ej]
  simp only [obs, bnd_eq]
  rw [grd_t (show inb (25 : Int32) 27 = true from by decide), show (25 : Int32).toNatClampNeg = 25 from rfl, n1p, show fL_gifts_L19 (10 : Int32) 60 27 63 64 fu (0 : Int32) (setI σ 60 25 (nI (1 + j))) = _ from e1]
  rfl
