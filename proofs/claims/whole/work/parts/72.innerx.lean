/-- what one state gives to the way home -/
def wIn (c t : Nat) (B W : Nat → Nat → Nat) (f h : Nat) : Nat := if (B f h).testBit t = true then wq c (B f h) * W f h else 0
/-- what one state gives to a taker -/
def wTo (c t : Nat) (B W : Nat → Nat → Nat) (f h v : Nat) : Nat := if (B f h).testBit v = true ∧ v ≠ t then wq c (B f h) * W f h else 0
theorem innerX {w1 : Nat} {c2 fr : Int32} {c t f P : Nat} {B W : Nat → Nat → Nat} {ρ : St} (hf : isFr fr f) (ht : t < 8) (hP : P ≤ 8) (hc : c < 2) (hB : ∀ h, h < P → B f h < 256) (hW : ∀ h, h < P → W f h < 2 ^ 62) (h0 : ρ.1 w1 0 = nI P) (hm : ∀ h, h < P → ∀ τ : St, τ.1 = ρ.1 → fX7_mayHave w1 fr (nI h) c2 τ = some (nI (B f h))) (A : Nat) : ∀ (d i n : Nat) (σ : St), i + d = P → d < n → σ.1 = ρ.1 → (∀ h, h < P → σ.2 51 (8 * f + h) = vN (W f h)) → ∃ τ, fX6_goOn_L25 w1 c2 (nI t) (nI c) fr n (vN (A + sgN (wIn c t B W f) i)) (nI i) σ = some (vN (A + sgN (wIn c t B W f) P), τ) ∧ τ.1 = ρ.1 ∧ (∀ a k, a ≠ 52 → τ.2 a k = σ.2 a k) ∧ (∀ k, k < 8 → τ.2 52 k = σ.2 52 k) ∧ (∀ h v, h < 8 → v < 8 → τ.2 52 (8 * (h + 1) + v) = if i ≤ h ∧ h < P then σ.2 52 (8 * (h + 1) + v) + vN (wTo c t B W f h v) else σ.2 52 (8 * (h + 1) + v)) := by
  intro d
  induction d with
  | zero =>
    intro i n σ hi hn e h51
    obtain ⟨n, rfl, -⟩ := su hn
    have ei : i = P := by omega
    subst ei
    rw [fX6_goOn_L25, e, h0, if_pos (nI_le (a := i) (b := i) (by omega) (by omega))]
    exact ⟨σ, rfl, e, fun _ _ _ => rfl, fun _ _ => rfl, fun h v _ _ => by rw [if_neg (by omega)]⟩
  | succ d ih =>
    intro i n σ hi hn e h51
    obtain ⟨n, rfl, hn⟩ := su hn
    have hiP : i < P := by omega
    obtain ⟨σ1, s1, s2, s3⟩ := stepX hf ht hP hiP (hB i hiP) (hW i hiP) hc n (vN (A + sgN (wIn c t B W f) i)) σ (by rw [e]; exact h0) (hm i hiP σ e) (h51 i hiP)
    have e2 : vN (A + sgN (wIn c t B W f) i) + (if (B f i).testBit t = true then vN (wq c (B f i) * W f i) else 0) = vN (A + sgN (wIn c t B W f) (i + 1)) := by
      have hw : vN (wIn c t B W f i) = if (B f i).testBit t = true then vN (wq c (B f i) * W f i) else 0 := by
        unfold wIn
        split <;> rfl
      rw [sgN, ← Nat.add_assoc, ← vN_add (A + sgN (wIn c t B W f) i) (wIn c t B W f i), hw]
    rw [s1, e2]
    obtain ⟨τ, f1, f2, f3, f4, f5⟩ := ih (i + 1) n σ1 (by omega) (by omega) (s2.trans e) (fun h hh => by rw [s3, if_neg (fun z => absurd z.1 (by decide))]; exact h51 h hh)
    refine ⟨τ, f1, f2, fun a k ha => by rw [f3 a k ha, s3, if_neg (fun z => ha z.1)], fun k hk => by rw [f4 k hk, s3, if_neg (fun z => by omega)], fun h v hh hv => ?_⟩
    rw [f5 h v hh hv, s3]
    by_cases x : h = i
    · subst x
      rw [if_neg (by omega), if_pos (show h ≤ h ∧ h < P from ⟨Nat.le_refl _, hiP⟩), show 8 * (h + 1) + v - 8 * (h + 1) = v by omega]
      unfold wTo
      by_cases y : (B f h).testBit v = true ∧ v ≠ t
      · rw [if_pos ⟨rfl, by omega, by omega, y⟩, if_pos y]
      · rw [if_neg (fun z => y z.2.2.2), if_neg y, show vN 0 = (0 : Int64) from rfl, Int64.add_zero]
    · rw [if_neg (fun z : 52 = 52 ∧ _ => by omega)]
      by_cases y : i + 1 ≤ h ∧ h < P
      · rw [if_pos y, if_pos (by omega)]
      · rw [if_neg y, if_neg (by omega)]
