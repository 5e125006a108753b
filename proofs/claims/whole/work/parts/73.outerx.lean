theorem frF_succ (f : Nat) : frF f + (1 : Int32) = frF (f + 1) := by
  unfold frF
  by_cases z : f = 0
  · subst z; rfl
  · rw [if_neg z, if_neg (by omega), nI_1, show f - 1 + 1 = f + 1 - 1 by omega]
theorem frF_end {f P : Nat} (hP : P ≤ 8) (hf : f ≤ P) : ¬ nI P ≤ frF f := by
  unfold frF
  by_cases z : f = 0
  · rw [if_pos z]
    rcases (show P = 0 ∨ P = 1 ∨ P = 2 ∨ P = 3 ∨ P = 4 ∨ P = 5 ∨ P = 6 ∨ P = 7 ∨ P = 8 by omega) with rfl | rfl | rfl | rfl | rfl | rfl | rfl | rfl | rfl
    all_goals decide
  · rw [if_neg z]
    exact nI_ge (a := f - 1) (b := P) (by omega) (by omega)
theorem outerX {w1 : Nat} {c2 : Int32} {c t P : Nat} {B W : Nat → Nat → Nat} {ρ : St} (ht : t < 8) (hP : P ≤ 8) (hc : c < 2) (hB : ∀ f h, f ≤ P → h < P → B f h < 256) (hW : ∀ f h, f ≤ P → h < P → W f h < 2 ^ 62) (h0 : ρ.1 w1 0 = nI P) (hm : ∀ f h, f ≤ P → h < P → ∀ τ : St, τ.1 = ρ.1 → fX7_mayHave w1 (frF f) (nI h) c2 τ = some (nI (B f h))) : ∀ (d i n : Nat) (σ : St), i + d = P + 1 → d < n → σ.1 = ρ.1 → (∀ f h, f ≤ P → h < P → σ.2 51 (8 * f + h) = vN (W f h)) → (∀ k, k < 8 → σ.2 52 k = 0) → (∀ h v, h < P → v < 8 → σ.2 52 (8 * (h + 1) + v) = vN (sgN (fun f => wTo c t B W f h v) i)) → ∃ τ, fX6_goOn_L13 w1 c2 (nI t) (nI c) n (vN (sgN (fun f => sgN (wIn c t B W f) P) i)) (frF i) σ = some (vN (sgN (fun f => sgN (wIn c t B W f) P) (P + 1)), τ) ∧ τ.1 = ρ.1 ∧ (∀ a k, a ≠ 52 → τ.2 a k = σ.2 a k) ∧ (∀ k, k < 8 → τ.2 52 k = 0) ∧ (∀ h v, h < P → v < 8 → τ.2 52 (8 * (h + 1) + v) = vN (sgN (fun f => wTo c t B W f h v) (P + 1))) ∧ (∀ h v, P ≤ h → h < 8 → v < 8 → τ.2 52 (8 * (h + 1) + v) = σ.2 52 (8 * (h + 1) + v)) := by
  intro d
  induction d with
  | zero =>
    intro i n σ hi hn e h51 hz hcell
    obtain ⟨n, rfl, -⟩ := su hn
    have ei : i = P + 1 := by omega
    subst ei
    have ef : frF (P + 1) = nI P := by unfold frF; rw [if_neg (by omega), Nat.add_sub_cancel]
    rw [fX6_goOn_L13, e, h0, ef, if_pos (nI_le (a := P) (b := P) (by omega) (by omega))]
    exact ⟨σ, rfl, e, fun _ _ _ => rfl, hz, hcell, fun _ _ _ _ _ => rfl⟩
  | succ d ih =>
    intro i n σ hi hn e h51 hz hcell
    obtain ⟨n, rfl, hn⟩ := su hn
    have hiP : i ≤ P := by omega
    rw [fX6_goOn_L13, e, h0, if_neg (frF_end hP hiP)]
    obtain ⟨σ1, s1, s2, s3, s4, s5⟩ := innerX (frF_is hiP hP).1 ht hP hc (fun h hh => hB i h hiP hh) (fun h hh => hW i h hiP hh) h0 (fun h hh => hm i h hiP hh) (sgN (fun f => sgN (wIn c t B W f) P) i) P 0 fu σ (by omega) (fu_gt (by omega)) e (fun h hh => h51 i h hiP hh)
    rw [show sgN (wIn c t B W i) 0 = 0 from rfl, Nat.add_zero] at s1
    rw [show (0 : Int32) = nI 0 from rfl, s1, obs, frF_succ]
    obtain ⟨τ, f1, f2, f3, f4, f5, f6⟩ := ih (i + 1) n σ1 (by omega) (by omega) s2 (fun f h hf hh => by rw [s3 _ _ (by decide)]; exact h51 f h hf hh) (fun k hk => by rw [s4 k hk]; exact hz k hk) (fun h v hh hv => by rw [s5 h v (by omega) hv, if_pos ⟨Nat.zero_le _, hh⟩, hcell h v hh hv, vN_add]; rfl)
    exact ⟨τ, f1, f2, fun a k ha => by rw [f3 a k ha, s3 a k ha], f4, f5, fun h v h1 h2 h3 => by rw [f6 h v h1 h2 h3, s5 h v h2 h3, if_neg (by omega)]⟩
