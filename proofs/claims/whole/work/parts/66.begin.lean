/-- from whom a GIFT is: nobody is 0, person f is f + 1 -/
def isFr (fr : Int32) (f : Nat) : Prop := (fr = -1 ∧ f = 0) ∨ ∃ p, p < 8 ∧ fr = nI p ∧ f = p + 1
/-- where a state lies with the reference -/
def pm (f h : Nat) : Nat := 9 * h + (if f = 0 then 8 else f - 1)
theorem isFr_lt {fr : Int32} {f : Nat} (h : isFr fr f) : f < 9 := by
  rcases h with ⟨-, rfl⟩ | ⟨p, hp, -, rfl⟩ <;> omega
theorem pm_lt {f h : Nat} (hf : f < 9) (hh : h < 8) : pm f h < 72 := by
  unfold pm
  split <;> omega
theorem spotF {fr : Int32} {f : Nat} (hf : isFr fr f) (v : Nat) : fX6_spot fr (nI v) = nI (8 * f + v) := by
  rcases hf with ⟨rfl, rfl⟩ | ⟨p, hp, rfl, rfl⟩
  · rw [spot0, Nat.mul_zero, Nat.zero_add]
  · rw [spotN]
theorem beginX {fr : Int32} {f h : Nat} (hf : isFr fr f) (hh : h < 8) (σ : St) : ∃ τ, fX6_begin fr (nI h) σ = some τ ∧ τ.1 = σ.1 ∧ (∀ k, k < 72 → τ.2 51 k = if k = 8 * f + h then 1 else 0) ∧ ∀ a k, a ≠ 51 → τ.2 a k = σ.2 a k := by
  obtain ⟨q, e1, e2, e3⟩ := clear2 (a0 := 51) (n0 := 72) (by decide) σ
  have hf9 := isFr_lt hf
  unfold fX6_begin
  rw [e1]
  simp only [Option.bind_some, spotF hf, grd_t (inbN (show 8 * f + h < 72 by omega) (by decide)), bnd]
  rw [tcl (by omega)]
  refine ⟨_, rfl, e2, fun k hk => ?_, fun a k ha => ?_⟩
  · rw [setL_2]
    by_cases z : k = 8 * f + h
    · rw [if_pos ⟨rfl, z⟩, if_pos z]
    · rw [if_neg (fun y => z y.2), if_neg z, e3, if_pos ⟨rfl, hk⟩]
  · rw [setL_oo (fun y => ha y.1), e3, if_neg (fun y => ha y.1)]
theorem beginML (c1 : Int32) : ∀ (d i n : Nat) (σ : St), i + d = 72 → d < n → ∃ τ, fX9_beginWays_L2 c1 n (nI i) σ = some τ ∧ τ.1 = σ.1 ∧ ∀ a b, τ.2 a b = if a = 67 ∧ i ≤ b ∧ b < 72 then 0 else σ.2 a b := by
  intro d
  induction d with
  | zero =>
    intro i n σ hi hn
    obtain ⟨n, rfl, -⟩ := su hn
    have e : i = 72 := by omega
    subst e
    rw [fX9_beginWays_L2, if_pos (show (72 : Int32) ≤ nI 72 by decide)]
    exact ⟨σ, rfl, rfl, fun a b => by rw [if_neg (by omega)]⟩
  | succ d ih =>
    intro i n σ hi hn
    obtain ⟨n, rfl, hn⟩ := su hn
    rw [fX9_beginWays_L2, if_neg (show ¬ (72 : Int32) ≤ nI i from nI_ge (a := i) (b := 72) (by omega) (by decide)), grd_t (inbN (show i < 72 by omega) (by decide)), tcl (by omega)]
    simp only [bnd, nI_1]
    obtain ⟨τ, e1, e2, e3⟩ := ih (i + 1) n (setL σ 67 i 0) (by omega) (by omega)
    refine ⟨τ, e1, e2, fun a b => ?_⟩
    rw [e3 a b, setL_2]
    by_cases q : a = 67 ∧ b = i
    · obtain ⟨rfl, rfl⟩ := q
      rw [if_neg (by omega), if_pos ⟨rfl, rfl⟩, if_pos (by omega)]
    · rw [if_neg q]
      by_cases t : a = 67 ∧ i + 1 ≤ b ∧ b < 72
      · rw [if_pos t, if_pos (by omega)]
      · rw [if_neg t, if_neg (by omega)]
theorem beginM {g f h : Nat} {fr : Int32} (hg : g < 8) (hf : isFr fr f) (hh : h < 8) (σ : St) (e3 : σ.1 65 (8 * g + 3) = fr) (e2 : σ.1 65 (8 * g + 2) = nI h) : ∃ τ, fX9_beginWays (nI g) σ = some τ ∧ τ.1 = σ.1 ∧ (∀ k, k < 72 → τ.2 67 k = if k = pm f h then 1 else 0) ∧ ∀ a k, a ≠ 67 → τ.2 a k = σ.2 a k := by
  obtain ⟨q, q1, q2, q3⟩ := beginML (nI g) 72 0 fu σ (by omega) (fu_gt (by omega))
  have hf9 := isFr_lt hf
  have hp := pm_lt hf9 hh
  have ef : (if fr = (-1 : Int32) then (8 : Int32) else fr) = nI (if f = 0 then 8 else f - 1) := by
    rcases hf with ⟨rfl, rfl⟩ | ⟨p, hp, rfl, rfl⟩
    · rfl
    · rw [if_neg (nI_ne_m1 (by omega)), if_neg (by omega), Nat.add_sub_cancel]
  unfold fX9_beginWays
  rw [show (0 : Int32) = nI 0 from rfl, q1]
  simp only [Option.bind_some, nk3, nk2, ix80, grd_t (inbN (show 8 * g + 3 < 64 by omega) (by decide)), grd_t (inbN (show 8 * g + 2 < 64 by omega) (by decide)), bnd]
  rw [tcl (show 8 * g + 3 < 2 ^ 31 by omega), tcl (show 8 * g + 2 < 2 ^ 31 by omega), q2, e3, e2, ef, nine]
  change ∃ τ, (grd (inb (nI (pm f h)) 72) (some (setL q 67 (nI (pm f h)).toNatClampNeg 1))) = some τ ∧ _
  rw [grd_t (inbN hp (by decide)), tcl (by omega)]
  refine ⟨_, rfl, q2, fun k hk => ?_, fun a k ha => ?_⟩
  · rw [setL_2]
    by_cases z : k = pm f h
    · rw [if_pos ⟨rfl, z⟩, if_pos z]
    · rw [if_neg (fun y => z y.2), if_neg z, q3, if_pos ⟨rfl, by omega, hk⟩]
  · rw [setL_oo (fun y => ha y.1), q3, if_neg (fun y => ha y.1)]
