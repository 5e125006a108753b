/-- what the class has of a BOOK -/
def FX (P t N : Nat) (wr : Nat → Int32) (Kn : Nat → Nat) (σ : St) : Prop := σ.1 4 0 = nI P ∧ σ.1 56 1 = nI t ∧ σ.1 56 2 = nI N ∧ (∀ h, h < 8 → σ.1 6 h = nI (Kn h)) ∧ (∀ y, y < 8 → σ.1 57 y = wr y)
def FM (P t N : Nat) (wr : Nat → Int32) (Kn : Nat → Nat) (σ : St) : Prop := σ.1 58 12 = nI P ∧ σ.1 58 33 = nI t ∧ σ.1 58 34 = nI N ∧ (∀ h, h < 8 → σ.1 61 h = nI (Kn h)) ∧ (∀ y, y < 8 → σ.1 76 y = wr y)
def FC (P t N : Nat) (wr : Nat → Int32) (Kn : Nat → Nat) : Prop := P ≤ 8 ∧ t < P ∧ (1 ≤ N ∧ N ≤ 7) ∧ (∀ h, h < 8 → Kn h < 2 ^ P) ∧ (∀ y, y < 8 → wr y = -1 ∨ isN (wr y) P)
theorem FC.B {P t N : Nat} {wr : Nat → Int32} {Kn : Nat → Nat} (c : FC P t N wr Kn) : ∀ f h, f ≤ P → h < P → BB Kn f h < 2 ^ P := fun f h _ hh => BB_lt (c.2.2.2.1 h (by have := c.1; omega))
theorem fillXL {P t N : Nat} {wr : Nat → Int32} {Kn : Nat → Nat} {ρ : St} (c : FC P t N wr Kn) (x : FX P t N wr Kn ρ) : ∀ (d y n : Nat) (σ : St), y + d = N → d < n → σ.1 = ρ.1 → (∀ f h, f < 9 → h < 8 → σ.2 51 (8 * f + h) = vN (fsq t P (BB Kn) wr y f h)) → ∃ τ, fX0_fillings_L11 4 n (nI (y + 1)) σ = some τ ∧ τ.1 = ρ.1 ∧ (∀ f h, f < 9 → h < 8 → τ.2 51 (8 * f + h) = vN (fsq t P (BB Kn) wr N f h)) := by
  obtain ⟨hP, ht, ⟨hN1, hN7⟩, hK, hw⟩ := id c
  obtain ⟨x0, x1, x2, x6, x57⟩ := x
  intro d
  induction d with
  | zero =>
    intro y n σ hi hn e h51
    obtain ⟨n, rfl, -⟩ := su hn
    have ey : y = N := by omega
    subst ey
    rw [fX0_fillings_L11, e, x2, if_pos (nI_lt (a := y) (b := y + 1) (by omega) (by omega))]
    exact ⟨σ, rfl, e, h51⟩
  | succ d ih =>
    intro y n σ hi hn e h51
    obtain ⟨n, rfl, hn⟩ := su hn
    obtain ⟨σ1, s1, s2, s3, -⟩ := goOnX (w1 := 4) (c2 := 0) (c := 0) (t := t) (P := P) (B := BB Kn) (W := fsq t P (BB Kn) wr y) (σ := σ) (by omega) hP (by decide) c.B (fun f h _ _ => fsq_lt ht hP c.B (by omega) f h) (by rw [e]; exact x0) (fun f h hf hh τ q => mayB hf hP (by omega) (p2_256 hP (hK h (by omega))) (by rw [q, e]; exact x6 h (by omega))) (fun f h hf hh => h51 f h (by omega) (by omega))
    rw [nI_0] at s1
    rw [fX0_fillings_L11, e, x1, x2, if_neg (nI_nlt (a := N) (b := y + 1) (by omega) (by omega)), s1, obs, grd_t (inbN (show y + 1 < 8 by omega) (by decide)), tcl (by omega), nI_1]
    have e57 : (vN (cam 0 t P (BB Kn) (fsq t P (BB Kn) wr y)), σ1).2.1 57 (y + 1) = wr (y + 1) := by
      show σ1.1 57 (y + 1) = _
      rw [s2, e]
      exact x57 (y + 1) (by omega)
    rw [e57]
    rcases hw (y + 1) (by omega) with w | ⟨p, hp, w⟩
    · rw [if_pos w]
      refine ih (y + 1) n σ1 (by omega) (by omega) (s2.trans e) (fun f h hf hh => ?_)
      rw [s3 f h hf hh]
      show _ = vN (flt (wr (y + 1)) (stp 0 0 t P (BB Kn) (fsq t P (BB Kn) wr y)) f h)
      unfold flt
      rw [if_pos (Or.inl w)]
    · rw [w, if_neg (nI_ne_m1 (by omega))]
      obtain ⟨σ2, k1, k2, k3⟩ := keepL (p := p) (by omega) 72 0 fu σ1 (by omega) (fu_gt (by omega))
      unfold fX6_keepOnly
      rw [show (0 : Int32) = nI 0 from rfl, k1, obs, grd_t (inbN (show y + 1 < 8 by omega) (by decide)), obs]
      refine ih (y + 1) n σ2 (by omega) (by omega) (k2.trans (s2.trans e)) (fun f h hf hh => ?_)
      rw [k3 _ (by omega), s3 f h hf hh]
      show _ = vN (flt (wr (y + 1)) (stp 0 0 t P (BB Kn) (fsq t P (BB Kn) wr y)) f h)
      unfold flt
      rw [w]
      by_cases z : h = p
      · rw [if_neg (by omega), if_pos (Or.inr (by rw [z]))]
      · rw [if_pos (by omega), if_neg (fun q => by
          rcases q with q | q
          · exact nI_ne_m1 (by omega) q
          · exact z ((nI_inj (by omega) (by omega)).mp q).symm)]
        rfl
theorem fillX {P t N : Nat} {wr : Nat → Int32} {Kn : Nat → Nat} {ρ : St} (c : FC P t N wr Kn) (x : FX P t N wr Kn ρ) : ∃ τ, fX0_fillings 4 ρ = some (nI (mass P (fsq t P (BB Kn) wr N)), τ) ∧ τ.1 = ρ.1 := by
  obtain ⟨hP, ht, ⟨hN1, hN7⟩, hK, hw⟩ := id c
  obtain ⟨σ, s1, s2⟩ := startX (c := 0) (t := t) (B := BB Kn) (Nat.zero_le P) ht hP ρ
  obtain ⟨τ, f1, f2, f3⟩ := fillXL c x N 0 fu σ (by omega) (fu_gt (by omega)) s2.1 (fun f h hf hh => s2.2 f h hf hh)
  have f4 := sumXL (σ := τ) (g := fun k => fsq t P (BB Kn) wr N (k / 8) (k % 8)) (fun k hk => by
    have := f3 (k / 8) (k % 8) (by omega) (by omega)
    rw [Nat.div_add_mod] at this
    exact this) 72 0 fu (by omega) (fu_gt (by omega))
  rw [sum_mass8 hP (spt_fsq ht c.B N)] at f4
  unfold fX0_fillings
  rw [show frF 0 = (-1 : Int32) from rfl] at s1
  rw [x.2.1, s1, obs]
  rw [show nI (0 + 1) = (1 : Int32) from rfl] at f1
  rw [f1, obs]
  unfold fX6_sum
  have z0 : vN (sgN (fun k => fsq t P (BB Kn) wr N (k / 8) (k % 8)) 0) = (0 : Int64) := rfl
  rw [z0, nI_0] at f4
  rw [f4, obs, obs, vN_32 (fil_lt ht hP c.B hN7)]
  exact ⟨τ, rfl, f2⟩
