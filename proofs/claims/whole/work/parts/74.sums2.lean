/-! sums, again -/
theorem sgN_ext {g : Nat → Nat} {m : Nat} : ∀ {n : Nat}, m ≤ n → (∀ i, m ≤ i → i < n → g i = 0) → sgN g n = sgN g m
  | 0, h, _ => by rw [Nat.le_zero.mp h]
  | n + 1, h, z => by
    by_cases e : m = n + 1
    · rw [e]
    · rw [sgN, sgN_ext (n := n) (by omega) (fun i h1 h2 => z i h1 (by omega)), z n (by omega) (by omega), Nat.add_zero]
theorem sgN_z {g : Nat → Nat} {n : Nat} (h : ∀ i, i < n → g i = 0) : sgN g n = 0 := sgN_ext (m := 0) (Nat.zero_le n) (fun i _ hi => h i hi)
theorem sgN_pick {g : Nat → Nat} {k : Nat} : ∀ {n : Nat}, k < n → (∀ i, i < n → i ≠ k → g i = 0) → sgN g n = g k
  | 0, h, _ => absurd h (Nat.not_lt_zero _)
  | n + 1, h, z => by
    by_cases e : k = n
    · subst e
      rw [sgN, sgN_z (fun i hi => z i (by omega) (by omega)), Nat.zero_add]
    · rw [sgN, sgN_pick (n := n) (by omega) (fun i h1 h2 => z i (by omega) h2), z n (by omega) (by omega), Nat.add_zero]
theorem sgN_split (g : Nat → Nat) (m : Nat) : ∀ n : Nat, sgN g (m + n) = sgN g m + sgN (fun j => g (m + j)) n
  | 0 => rfl
  | n + 1 => by
    rw [← Nat.add_assoc, sgN, sgN_split g m n, sgN, Nat.add_assoc]
theorem sgN_blk (g : Nat → Nat) (q : Nat) : ∀ n : Nat, sgN g (q * n) = sgN (fun h => sgN (fun j => g (q * h + j)) q) n
  | 0 => rfl
  | n + 1 => by rw [Nat.mul_succ, sgN_split, sgN_blk g q n, sgN]
theorem sgN_shift (g : Nat → Nat) : ∀ n : Nat, sgN g (n + 1) = g 0 + sgN (fun i => g (i + 1)) n
  | 0 => by rw [sgN, sgN, sgN]; omega
  | n + 1 => by rw [sgN, sgN_shift g n, sgN, Nat.add_assoc]
theorem sgN_9 (G : Nat → Nat) : sgN G 9 = sgN (fun f => G (if f = 0 then 8 else f - 1)) 9 := by
  simp [sgN]
  omega
theorem pm_div {f : Nat} (h : Nat) (hf : f < 9) : pm f h / 9 = h := by
  unfold pm
  split <;> omega
theorem pm_mod {f : Nat} (h : Nat) (hf : f < 9) : pm f h % 9 = if f = 0 then 8 else f - 1 := by
  unfold pm
  split <;> omega
/-- from whom, by the reference's remainder -/
def fo (j : Nat) : Nat := if j = 8 then 0 else j + 1
theorem fo_pm {f : Nat} (h : Nat) (hf : f < 9) : fo (pm f h % 9) = f := by
  rw [pm_mod h hf]
  unfold fo
  by_cases z : f = 0
  · subst z; rfl
  · rw [if_neg z, if_neg (by omega)]; omega
theorem pm_fo {k : Nat} : pm (fo (k % 9)) (k / 9) = k := by
  unfold pm fo
  by_cases z : k % 9 = 8
  · rw [if_pos z, if_pos rfl]; omega
  · rw [if_neg z, if_neg (by omega)]; omega
theorem fo_lt {k : Nat} : fo (k % 9) < 9 := by
  unfold fo
  split <;> omega
theorem frM_fo (j : Nat) : frM j = frF (fo j) := by
  unfold frM frF fo
  by_cases z : j = 8
  · rw [if_pos z, if_pos z, if_pos rfl]
  · rw [if_neg z, if_neg z, if_neg (by omega), Nat.add_sub_cancel]
theorem sg72 {g : Nat → Nat} {P : Nat} (hP : P ≤ 8) (hz : ∀ f h, f < 9 → h < 8 → ¬ (f ≤ P ∧ h < P) → g (pm f h) = 0) : sgN g 72 = sgN (fun h => sgN (fun f => g (pm f h)) (P + 1)) P := by
  have e : ∀ h, sgN (fun j => g (9 * h + j)) 9 = sgN (fun f => g (pm f h)) 9 := fun h => sgN_9 (fun j => g (9 * h + j))
  rw [show (72 : Nat) = 9 * 8 from rfl, sgN_blk, sgN_ext (m := P) hP (fun h h1 h2 => by rw [e h]; exact sgN_z (fun f hf => hz f h hf h2 (fun q => by omega)))]
  refine sgN_cong (fun h hh => ?_)
  rw [e h]
  exact sgN_ext (by omega) (fun f h1 h2 => hz f h h2 (by omega) (fun q => by omega))
/-- a year on: what is with whom then (s: what nobody may have stays) -/
def stp (s c t P : Nat) (B W : Nat → Nat → Nat) (f v : Nat) : Nat := (if f = 0 ∨ P < f then 0 else sgN (fun j => wTo c t B W j (f - 1) v) (P + 1)) + (if s ≠ 0 ∧ B f v = 0 then 420 * W f v else 0)
/-- what comes home in it -/
def cam (c t P : Nat) (B W : Nat → Nat → Nat) : Nat := sgN (fun f => sgN (wIn c t B W f) P) (P + 1)
theorem wTo_z {c t P : Nat} {B W : Nat → Nat → Nat} {f h v : Nat} (hB : B f h < 2 ^ P) (hv : P ≤ v) : wTo c t B W f h v = 0 := by
  unfold wTo
  rw [if_neg (fun z => by have := tb_lt hB z.1; omega)]
theorem stp0 {c t P : Nat} {B W : Nat → Nat → Nat} {f v : Nat} : stp 0 c t P B W f v = if f = 0 ∨ P < f then 0 else sgN (fun j => wTo c t B W j (f - 1) v) (P + 1) := by
  unfold stp
  rw [if_neg (show ¬ ((0 : Nat) ≠ 0 ∧ B f v = 0) from fun z => z.1 rfl), Nat.add_zero]
theorem goOnX {w1 : Nat} {c2 : Int32} {c t P : Nat} {B W : Nat → Nat → Nat} {σ : St} (ht : t < 8) (hP : P ≤ 8) (hc : c < 2) (hB : ∀ f h, f ≤ P → h < P → B f h < 2 ^ P) (hW : ∀ f h, f ≤ P → h < P → W f h < 2 ^ 62) (h0 : σ.1 w1 0 = nI P) (hm : ∀ f h, f ≤ P → h < P → ∀ τ : St, τ.1 = σ.1 → fX7_mayHave w1 (frF f) (nI h) c2 τ = some (nI (B f h))) (h51 : ∀ f h, f ≤ P → h < P → σ.2 51 (8 * f + h) = vN (W f h)) : ∃ τ, fX6_goOn w1 c2 (nI t) (nI c) σ = some (vN (cam c t P B W), τ) ∧ τ.1 = σ.1 ∧ (∀ f h, f < 9 → h < 8 → τ.2 51 (8 * f + h) = vN (stp 0 c t P B W f h)) ∧ (∀ a k, a ≠ 51 → a ≠ 52 → τ.2 a k = σ.2 a k) := by
  obtain ⟨q, e1, e2, e3⟩ := clear2 (a0 := 52) (n0 := 72) (by decide) σ
  unfold fX6_goOn
  rw [e1, obs]
  obtain ⟨τ, f1, f2, f3, f4, f5, f6⟩ := outerX (ρ := σ) ht hP hc (fun f h hf hh => p2_256 hP (hB f h hf hh)) hW h0 hm (P + 1) 0 fu q (by omega) (fu_gt (by omega)) e2 (fun f h hf hh => by rw [e3, if_neg (fun z => absurd z.1 (by decide))]; exact h51 f h hf hh) (fun k hk => by rw [e3, if_pos ⟨rfl, by omega⟩]) (fun h v hh hv => by rw [e3, if_pos ⟨rfl, by omega⟩]; rfl)
  have z0 : vN (sgN (fun f => sgN (wIn c t B W f) P) 0) = (0 : Int64) := rfl
  rw [z0, show frF 0 = (-1 : Int32) from rfl] at f1
  rw [f1, obs, bnd_eq]
  have t72 : (72 : Int32).toNatClampNeg = 72 := rfl
  rw [t72]
  refine ⟨_, rfl, f2, fun f h hf hh => ?_, fun a k h1 h2 => ?_⟩
  · have z : (cpyL τ 52 51 72).2 51 (8 * f + h) = τ.2 52 (8 * f + h) := by
      show (if 51 = 51 ∧ 8 * f + h < 72 then τ.2 52 (8 * f + h) else τ.2 51 (8 * f + h)) = _
      rw [if_pos ⟨rfl, by omega⟩]
    show (cpyL τ 52 51 72).2 51 (8 * f + h) = _
    rw [z, stp0]
    by_cases f0 : f = 0
    · rw [if_pos (Or.inl f0), f0, Nat.mul_zero, Nat.zero_add]
      exact f4 h hh
    · obtain ⟨g, rfl⟩ : ∃ g, f = g + 1 := ⟨f - 1, by omega⟩
      by_cases fP : P < g + 1
      · rw [if_pos (Or.inr fP), f6 g h (by omega) (by omega) hh, e3, if_pos ⟨rfl, by omega⟩]
        rfl
      · rw [if_neg (by omega), f5 g h (by omega) hh, Nat.add_sub_cancel]
  · show (if a = 51 ∧ k < 72 then τ.2 52 k else τ.2 a k) = _
    rw [if_neg (fun z => h1 z.1), f3 a k h2, e3, if_neg (fun z => h2 z.1)]
