/-- who may have what lies at k with the reference: nobody, if nothing lies there -/
def kB (B W : Nat → Nat → Nat) (k : Nat) : Nat := if W (fo (k % 9)) (k / 9) = 0 then 0 else B (fo (k % 9)) (k / 9)
def kIn (c t P : Nat) (B W : Nat → Nat → Nat) (k : Nat) : Nat := if t < P ∧ (kB B W k).testBit t = true then wq c (kB B W k) * W (fo (k % 9)) (k / 9) else 0
def kSf (c : Nat) (B W : Nat → Nat → Nat) (k x : Nat) : Nat := if x = k ∧ c ≠ 0 ∧ kB B W k = 0 then 420 * W (fo (k % 9)) (k / 9) else 0
def kTo (c t P : Nat) (B W : Nat → Nat → Nat) (k x : Nat) : Nat := if x % 9 = k / 9 ∧ x / 9 < P ∧ (kB B W k).testBit (x / 9) = true ∧ x / 9 ≠ t then wq c (kB B W k) * W (fo (k % 9)) (k / 9) else 0
/-- nothing lies where nobody is -/
def Spt (P : Nat) (W : Nat → Nat → Nat) : Prop := ∀ f h, ¬ (f ≤ P ∧ h < P) → W f h = 0
theorem kB_lt {P : Nat} {B W : Nat → Nat → Nat} (hB : ∀ f h, f ≤ P → h < P → B f h < 2 ^ P) (hS : Spt P W) (k : Nat) : kB B W k < 2 ^ P := by
  unfold kB
  by_cases z : W (fo (k % 9)) (k / 9) = 0
  · rw [if_pos z]; exact Nat.pos_of_ne_zero (by simp)
  · rw [if_neg z]
    have h1 : fo (k % 9) ≤ P ∧ k / 9 < P := Classical.byContradiction (fun q => z (hS _ _ q))
    exact hB _ _ h1.1 h1.2
theorem loopM {c t P : Nat} {B W : Nat → Nat → Nat} {ρ : St} (ht : t < 8) (hP : P ≤ 8) (hc : c < 2) (hB : ∀ f h, f ≤ P → h < P → B f h < 2 ^ P) (hW : ∀ f h, W f h < 2 ^ 62) (hS : Spt P W) (h0 : ρ.1 58 12 = nI P) (hm : ∀ f h, f ≤ P → h < P → ∀ τ : St, τ.1 = ρ.1 → fX9_mayHave (nI h) (frF f) τ = some (nI (B f h))) : ∀ (d i n : Nat) (σ : St), i + d = 72 → d < n → σ.1 = ρ.1 → (∀ k, k < 72 → σ.2 67 k = vN (W (fo (k % 9)) (k / 9))) → (∀ x, x < 72 → σ.2 68 x = vN (sgN (fun k => kSf c B W k x + kTo c t P B W k x) i)) → ∃ τ, fX9_goAll_L26 (nI t) (nI c) n (vN (sgN (kIn c t P B W) i)) (nI i) σ = some (vN (sgN (kIn c t P B W) 72), τ) ∧ τ.1 = ρ.1 ∧ (∀ a k, a ≠ 68 → τ.2 a k = σ.2 a k) ∧ (∀ x, x < 72 → τ.2 68 x = vN (sgN (fun k => kSf c B W k x + kTo c t P B W k x) 72)) := by
  intro d
  induction d with
  | zero =>
    intro i n σ hi hn e h67 h68
    obtain ⟨n, rfl, -⟩ := su hn
    have ei : i = 72 := by omega
    subst ei
    rw [fX9_goAll_L26, if_pos (show (72 : Int32) ≤ nI 72 by decide)]
    exact ⟨σ, rfl, e, fun _ _ _ => rfl, h68⟩
  | succ d ih =>
    intro i n σ hi hn e h67 h68
    obtain ⟨n, rfl, hn⟩ := su hn
    have hb := kB_lt hB hS i
    obtain ⟨σ1, s1, s2, s3⟩ := stepM (c := c) (t := t) (k := i) (w := W (fo (i % 9)) (i / 9)) (b := kB B W i) (P := P) (by omega) ht hP (p2_256 hP hb) (hW _ _) hc n (vN (sgN (kIn c t P B W) i)) σ (by rw [e]; exact h0) (fun hw => by
      have h1 : fo (i % 9) ≤ P ∧ i / 9 < P := Classical.byContradiction (fun q => hw (hS _ _ q))
      unfold kB
      rw [if_neg hw, frM_fo]
      exact hm _ _ h1.1 h1.2 σ e) (fun hw => by unfold kB; rw [if_pos hw]) (h67 i (by omega))
    have e2 : vN (sgN (kIn c t P B W) i) + (if t < P ∧ (kB B W i).testBit t = true then vN (wq c (kB B W i) * W (fo (i % 9)) (i / 9)) else 0) = vN (sgN (kIn c t P B W) (i + 1)) := by
      have hw : vN (kIn c t P B W i) = if t < P ∧ (kB B W i).testBit t = true then vN (wq c (kB B W i) * W (fo (i % 9)) (i / 9)) else 0 := by
        unfold kIn
        split <;> rfl
      rw [sgN, ← vN_add, hw]
    rw [s1, e2]
    obtain ⟨τ, f1, f2, f3, f4⟩ := ih (i + 1) n σ1 (by omega) (by omega) (s2.trans e) (fun k hk => by rw [s3, if_neg (fun z => absurd z.1 (by decide)), if_neg (fun z => absurd z.1 (by decide))]; exact h67 k hk) (fun x hx => by
      rw [s3, sgN, ← vN_add, ← h68 x hx]
      by_cases y : x = i ∧ c ≠ 0 ∧ kB B W i = 0
      · have k0 : kTo c t P B W i x = 0 := by
          unfold kTo
          rw [if_neg (fun z => by have z3 := z.2.2.1; rw [y.2.2] at z3; simp at z3)]
        have k1 : kSf c B W i x = 420 * W (fo (i % 9)) (i / 9) := by
          unfold kSf
          rw [if_pos y]
        rw [if_pos ⟨rfl, y⟩, k0, k1, Nat.add_zero]
      · have k1 : kSf c B W i x = 0 := by
          unfold kSf
          rw [if_neg y]
        rw [if_neg (fun z => y z.2), k1, Nat.zero_add]
        unfold kTo
        by_cases u : x % 9 = i / 9 ∧ x / 9 < P ∧ (kB B W i).testBit (x / 9) = true ∧ x / 9 ≠ t
        · rw [if_pos ⟨rfl, u⟩, if_pos u]
        · rw [if_neg (fun z => u z.2), if_neg u, show vN 0 = (0 : Int64) from rfl, Int64.add_zero])
    exact ⟨τ, f1, f2, fun a k ha => by rw [f3 a k ha, s3, if_neg (fun z => ha z.1), if_neg (fun z => ha z.1)], f4⟩
theorem kTo_pm {c t P : Nat} {B W : Nat → Nat → Nat} (hB : ∀ f h, f ≤ P → h < P → B f h < 2 ^ P) (hS : Spt P W) {f h x : Nat} (hf : f < 9) : kTo c t P B W (pm f h) x = if x % 9 = h then wTo c t B W f h (x / 9) else 0 := by
  unfold kTo wTo kB
  rw [fo_pm h hf, pm_div h hf]
  by_cases z : W f h = 0
  · rw [if_pos z, z, Nat.mul_zero, Nat.mul_zero]
    simp
  · rw [if_neg z]
    have h1 : f ≤ P ∧ h < P := Classical.byContradiction (fun q => z (hS _ _ q))
    by_cases y : x % 9 = h
    · rw [if_pos y]
      by_cases u : (B f h).testBit (x / 9) = true ∧ x / 9 ≠ t
      · rw [if_pos ⟨y, tb_lt (hB f h h1.1 h1.2) u.1, u⟩, if_pos u]
      · rw [if_neg (fun v => u v.2.2), if_neg u]
    · rw [if_neg y, if_neg (fun v => y v.1)]
theorem kIn_pm {c t P : Nat} {B W : Nat → Nat → Nat} (hB : ∀ f h, f ≤ P → h < P → B f h < 2 ^ P) (hS : Spt P W) {f h : Nat} (hf : f < 9) : kIn c t P B W (pm f h) = wIn c t B W f h := by
  unfold kIn wIn kB
  rw [fo_pm h hf, pm_div h hf]
  by_cases z : W f h = 0
  · rw [if_pos z, z, Nat.mul_zero, Nat.mul_zero]
    simp
  · rw [if_neg z]
    have h1 : f ≤ P ∧ h < P := Classical.byContradiction (fun q => z (hS _ _ q))
    by_cases u : (B f h).testBit t = true
    · rw [if_pos ⟨tb_lt (hB f h h1.1 h1.2) u, u⟩, if_pos u]
    · rw [if_neg (fun v => u v.2), if_neg u]
theorem wTo_0 {c t : Nat} {B W : Nat → Nat → Nat} {f h v : Nat} (z : W f h = 0) : wTo c t B W f h v = 0 := by
  unfold wTo
  rw [z, Nat.mul_zero]
  split <;> rfl
theorem wIn_0 {c t : Nat} {B W : Nat → Nat → Nat} {f h : Nat} (z : W f h = 0) : wIn c t B W f h = 0 := by
  unfold wIn
  rw [z, Nat.mul_zero]
  split <;> rfl
/-- the reference's sum over all its states is the class's -/
theorem kIn_all {c t P : Nat} {B W : Nat → Nat → Nat} (hP : P ≤ 8) (hB : ∀ f h, f ≤ P → h < P → B f h < 2 ^ P) (hS : Spt P W) : sgN (kIn c t P B W) 72 = cam c t P B W := by
  rw [sg72 hP (fun f h hf hh q => by rw [kIn_pm hB hS hf]; exact wIn_0 (hS f h q))]
  unfold cam
  rw [sgN_comm (fun f h => wIn c t B W f h) P (P + 1)]
  exact sgN_cong (fun h hh => sgN_cong (fun f hf => kIn_pm hB hS (by omega)))
theorem kTo_all {c t P : Nat} {B W : Nat → Nat → Nat} (hP : P ≤ 8) (hB : ∀ f h, f ≤ P → h < P → B f h < 2 ^ P) (hS : Spt P W) {f v : Nat} (hf : f < 9) (hv : v < 8) : sgN (fun k => kSf c B W k (pm f v) + kTo c t P B W k (pm f v)) 72 = stp c c t P B W f v := by
  rw [sgN_add]
  have e1 : sgN (fun k => kSf c B W k (pm f v)) 72 = if c ≠ 0 ∧ B f v = 0 then 420 * W f v else 0 := by
    rw [sgN_pick (k := pm f v) (pm_lt hf hv) (fun i hi hne => by unfold kSf; rw [if_neg (fun z => hne z.1.symm)])]
    unfold kSf kB
    rw [fo_pm v hf, pm_div v hf]
    by_cases z : W f v = 0
    · rw [z, Nat.mul_zero]
      simp
    · rw [if_neg z]
      by_cases u : c ≠ 0 ∧ B f v = 0
      · rw [if_pos ⟨rfl, u⟩, if_pos u]
      · rw [if_neg (fun y => u y.2), if_neg u]
  have e2 : sgN (fun k => kTo c t P B W k (pm f v)) 72 = if f = 0 ∨ P < f then 0 else sgN (fun j => wTo c t B W j (f - 1) v) (P + 1) := by
    rw [sg72 hP (fun g h hg hh q => by rw [kTo_pm hB hS hg, wTo_0 (hS g h q)]; split <;> rfl)]
    have e3 : ∀ h, h < P → sgN (fun g => kTo c t P B W (pm g h) (pm f v)) (P + 1) = if pm f v % 9 = h then sgN (fun g => wTo c t B W g h v) (P + 1) else 0 := fun h hh => by
      rw [sgN_cong (g' := fun g => if pm f v % 9 = h then wTo c t B W g h v else 0) (fun g hg => by rw [kTo_pm hB hS (by omega), pm_div v hf])]
      by_cases y : pm f v % 9 = h
      · rw [if_pos y]
        exact sgN_cong (fun g _ => by rw [if_pos y])
      · rw [if_neg y]
        exact sgN_z (fun g _ => by rw [if_neg y])
    rw [sgN_cong e3, pm_mod v hf]
    by_cases f0 : f = 0
    · rw [if_pos f0, if_pos (Or.inl f0)]
      exact sgN_z (fun h hh => by rw [if_neg (by omega)])
    · rw [if_neg f0]
      by_cases fP : P < f
      · rw [if_pos (Or.inr fP)]
        exact sgN_z (fun h hh => by rw [if_neg (by omega)])
      · rw [if_neg (by omega), sgN_pick (k := f - 1) (by omega) (fun h hh hne => by rw [if_neg (fun z => hne z.symm)]), if_pos rfl]
  rw [e1, e2]
  unfold stp
  rw [Nat.add_comm]
theorem goAllM {c t P : Nat} {B W : Nat → Nat → Nat} {σ : St} (ht : t < 8) (hP : P ≤ 8) (hc : c < 2) (hB : ∀ f h, f ≤ P → h < P → B f h < 2 ^ P) (hW : ∀ f h, W f h < 2 ^ 62) (hS : Spt P W) (h0 : σ.1 58 12 = nI P) (hm : ∀ f h, f ≤ P → h < P → ∀ τ : St, τ.1 = σ.1 → fX9_mayHave (nI h) (frF f) τ = some (nI (B f h))) (h67 : ∀ f h, f < 9 → h < 8 → σ.2 67 (pm f h) = vN (W f h)) : ∃ τ, fX9_goAll (nI t) (nI c) σ = some (vN (cam c t P B W), τ) ∧ τ.1 = σ.1 ∧ (∀ f h, f < 9 → h < 8 → τ.2 67 (pm f h) = vN (stp c c t P B W f h)) ∧ (∀ a k, a ≠ 67 → a ≠ 68 → τ.2 a k = σ.2 a k) := by
  obtain ⟨q, e1, e2, e3⟩ := clearM (nI t) (nI c) 72 0 fu σ (by omega) (fu_gt (by omega))
  unfold fX9_goAll
  rw [show (0 : Int32) = nI 0 from rfl, e1, obs]
  obtain ⟨τ, f1, f2, f3, f4⟩ := loopM (ρ := σ) ht hP hc hB hW hS h0 hm 72 0 fu q (by omega) (fu_gt (by omega)) e2 (fun k hk => by
    rw [e3, if_neg (fun z => absurd z.1 (by decide))]
    have := h67 (fo (k % 9)) (k / 9) fo_lt (by omega)
    rw [pm_fo] at this
    exact this) (fun x hx => by rw [e3, if_pos ⟨rfl, by omega, hx⟩]; rfl)
  have z0 : vN (sgN (kIn c t P B W) 0) = (0 : Int64) := rfl
  rw [z0] at f1
  rw [f1, obs]
  obtain ⟨υ, g1, g2, g3⟩ := moveM (vN (sgN (kIn c t P B W) 72)) 72 0 fu τ (by omega) (fu_gt (by omega))
  rw [g1, obs, kIn_all hP hB hS]
  refine ⟨υ, rfl, g2.trans f2, fun f h hf hh => ?_, fun a k h1 h2 => ?_⟩
  · have := pm_lt hf hh
    rw [g3, if_pos ⟨rfl, by omega, this⟩, f4 _ this, kTo_all hP hB hS hf hh]
  · rw [g3, if_neg (fun z => h1 z.1), f3 a k h2, e3, if_neg (fun z => h2 z.1)]
