abbrev kFo (t P : Nat) (w : Int32) (Kn : Nat → Nat) (W : Nat → Nat → Nat) (k x : Nat) : Nat := if x % 9 = k / 9 ∧ x / 9 < P ∧ cnd t w Kn k (x / 9) then W (fo (k % 9)) (k / 9) else 0
theorem loopF {P t N y : Nat} {wr : Nat → Int32} {Kn : Nat → Nat} {W : Nat → Nat → Nat} {ρ : St} (c : FC P t N wr Kn) (m : FM P t N wr Kn ρ) (hy : y < 8) (hW : ∀ f h, W f h < 2 ^ 62) : ∀ (d i n : Nat) (σ : St), i + d = 72 → d < n → σ.1 = ρ.1 → (∀ k, k < 72 → σ.2 67 k = vN (W (fo (k % 9)) (k / 9))) → (∀ x, x < 72 → σ.2 68 x = vN (sgN (fun k => kFo t P (wr y) Kn W k x) i)) → ∃ τ, fX9_filledOf_L72 (nI y) n (nI i) σ = some τ ∧ τ.1 = ρ.1 ∧ τ.2 58 = σ.2 58 ∧ (∀ x, x < 72 → τ.2 68 x = vN (sgN (fun k => kFo t P (wr y) Kn W k x) 72)) := by
  intro d
  induction d with
  | zero =>
    intro i n σ hi hn e h67 h68
    obtain ⟨n, rfl, -⟩ := su hn
    have ei : i = 72 := by omega
    subst ei
    rw [fX9_filledOf_L72, if_pos (show (72 : Int32) ≤ nI 72 by decide)]
    exact ⟨σ, rfl, e, rfl, h68⟩
  | succ d ih =>
    intro i n σ hi hn e h67 h68
    obtain ⟨n, rfl, hn⟩ := su hn
    have hP := c.1
    have e9 : nI i / (9 : Int32) = nI (i / 9) := by rw [show (9 : Int32) = nI 9 from rfl, vI_div (by omega) (by omega)]
    obtain ⟨σ1, s1, s2, s3⟩ := spreadF c m (show i < 72 by omega) hy (hW (fo (i % 9)) (i / 9)) P 0 fu σ (by omega) (fu_gt (by omega)) e (h67 i (by omega))
    rw [nI_0] at s1
    rw [fX9_filledOf_L72, if_neg (show ¬ (72 : Int32) ≤ nI i from nI_ge (a := i) (b := 72) (by omega) (by decide)), e9, s1, obs, nI_1]
    obtain ⟨τ, f1, f2, f3, f4⟩ := ih (i + 1) n σ1 (by omega) (by omega) s2 (fun k hk => by rw [s3, if_neg (fun z => absurd z.1 (by decide))]; exact h67 k hk) (fun x hx => by
      rw [s3, sgN, ← vN_add, ← h68 x hx]
      by_cases u : x % 9 = i / 9 ∧ x / 9 < P ∧ cnd t (wr y) Kn i (x / 9)
      · rw [if_pos ⟨rfl, u.1, Nat.zero_le _, u.2⟩]
        unfold kFo
        rw [if_pos u]
      · rw [if_neg (fun z => u ⟨z.2.1, z.2.2.2⟩)]
        unfold kFo
        rw [if_neg u, show vN 0 = (0 : Int64) from rfl, Int64.add_zero])
    exact ⟨τ, f1, f2, f3.trans (funext fun k => by rw [s3, if_neg (fun z => absurd z.1 (by decide))]), f4⟩
theorem kFo_to {P t : Nat} {w : Int32} {Kn : Nat → Nat} {W : Nat → Nat → Nat} (hP : P ≤ 8) (hK : ∀ h, h < 8 → Kn h < 2 ^ P) {k x : Nat} (hk : k < 72) (hx : x < 72) : kFo t P w Kn W k x = if w = -1 ∨ w = nI (x / 9) then kTo 0 t P (BB Kn) W k x else 0 := by
  have bb := BB_bit (Kn := Kn) (j := k % 9) (h := k / 9) (v := x / 9) (by omega) (by omega) (p2_256 hP (hK (k / 9) (by omega)))
  unfold kFo kTo kB
  by_cases z : W (fo (k % 9)) (k / 9) = 0
  · rw [z, if_pos rfl, Nat.mul_zero]
    simp
  · rw [if_neg z]
    have w1 : wq 0 (BB Kn (fo (k % 9)) (k / 9)) = 1 := by
      unfold wq
      rw [if_pos rfl]
    rw [w1, Nat.one_mul]
    by_cases a : w = -1 ∨ w = nI (x / 9)
    · rw [if_pos a]
      by_cases u : x % 9 = k / 9 ∧ x / 9 < P ∧ (BB Kn (fo (k % 9)) (k / 9)).testBit (x / 9) = true ∧ x / 9 ≠ t
      · have q := bb.mp u.2.2.1
        rw [if_pos u, if_pos ⟨u.1, u.2.1, q.1, q.2, u.2.2.2, a⟩]
      · rw [if_neg u, if_neg (fun v => u ⟨v.1, v.2.1, bb.mpr ⟨v.2.2.1, v.2.2.2.1⟩, v.2.2.2.2.1⟩)]
    · rw [if_neg a, if_neg (fun v => a v.2.2.2.2.2)]
theorem kFo_all {P t : Nat} {w : Int32} {Kn : Nat → Nat} {W : Nat → Nat → Nat} (hP : P ≤ 8) (hK : ∀ h, h < 8 → Kn h < 2 ^ P) (hS : Spt P W) {x : Nat} (hx : x < 72) : sgN (fun k => kFo t P w Kn W k x) 72 = flt w (stp 0 0 t P (BB Kn) W) (fo (x % 9)) (x / 9) := by
  have h1 := kTo_all (c := 0) (t := t) (P := P) (B := BB Kn) (W := W) hP (fun f h _ hh => BB_lt (hK h (by omega))) hS (f := fo (x % 9)) (v := x / 9) fo_lt (by omega)
  rw [pm_fo] at h1
  have h2 : sgN (fun k => kSf 0 (BB Kn) W k x + kTo 0 t P (BB Kn) W k x) 72 = sgN (fun k => kTo 0 t P (BB Kn) W k x) 72 := sgN_cong (fun k _ => by
    have : kSf 0 (BB Kn) W k x = 0 := by
      unfold kSf
      rw [if_neg (fun z => z.2.1 rfl)]
    rw [this, Nat.zero_add])
  rw [sgN_cong (fun k hk => kFo_to hP hK hk hx)]
  unfold flt
  by_cases a : w = -1 ∨ w = nI (x / 9)
  · rw [if_pos a, ← h1, h2]
    exact sgN_cong (fun k _ => by rw [if_pos a])
  · rw [if_neg a]
    exact sgN_z (fun k _ => by rw [if_neg a])
theorem fillML {P t N : Nat} {wr : Nat → Int32} {Kn : Nat → Nat} {ρ : St} (c : FC P t N wr Kn) (m : FM P t N wr Kn ρ) : ∀ (d y n : Nat) (σ : St), y + d = N → d < n → σ.1 = ρ.1 → (∀ k, k < 72 → σ.2 67 k = vN (fsq t P (BB Kn) wr y (fo (k % 9)) (k / 9))) → ∃ τ, fX9_filledOf_L41 n (nI (y + 1)) σ = some τ ∧ τ.1 = ρ.1 ∧ τ.2 58 = σ.2 58 ∧ (∀ k, k < 72 → τ.2 67 k = vN (fsq t P (BB Kn) wr N (fo (k % 9)) (k / 9))) := by
  obtain ⟨hP, ht, ⟨hN1, hN7⟩, hK, hw⟩ := id c
  have m34 := m.2.2.1
  intro d
  induction d with
  | zero =>
    intro y n σ hi hn e h67
    obtain ⟨n, rfl, -⟩ := su hn
    have ey : y = N := by omega
    subst ey
    rw [fX9_filledOf_L41, e, m34, if_pos (nI_lt (a := y) (b := y + 1) (by omega) (by omega))]
    exact ⟨σ, rfl, e, rfl, h67⟩
  | succ d ih =>
    intro y n σ hi hn e h67
    obtain ⟨n, rfl, hn⟩ := su hn
    obtain ⟨σ1, a1, a2, a3⟩ := clearF (nI (y + 1)) 72 0 fu σ (by omega) (fu_gt (by omega))
    obtain ⟨σ2, b1, b2, b4, b3⟩ := loopF (W := fsq t P (BB Kn) wr y) c m (show y + 1 < 8 by omega) (fun f h => fsq_lt ht hP c.B (by omega) f h) 72 0 fu σ1 (by omega) (fu_gt (by omega)) (a2.trans e) (fun k hk => by rw [a3, if_neg (fun z => absurd z.1 (by decide))]; exact h67 k hk) (fun x hx => by rw [a3, if_pos ⟨rfl, Nat.zero_le _, hx⟩]; rfl)
    obtain ⟨σ3, c1, c2, c3⟩ := moveF (nI (y + 1)) 72 0 fu σ2 (by omega) (fu_gt (by omega))
    rw [nI_0] at a1 b1 c1
    rw [fX9_filledOf_L41, e, m34, if_neg (nI_nlt (a := N) (b := y + 1) (by omega) (by omega)), a1, obs, b1, obs, c1, obs, nI_1]
    obtain ⟨τ, f1, f2, f3, f4⟩ := ih (y + 1) n σ3 (by omega) (by omega) (c2.trans b2) (fun k hk => by
      rw [c3, if_pos ⟨rfl, Nat.zero_le _, hk⟩, b3 k hk, kFo_all hP hK (spt_fsq ht c.B y) hk]
      rfl)
    have s58 : σ3.2 58 = σ.2 58 := by
      have h1 : σ3.2 58 = σ2.2 58 := funext fun k => by rw [c3, if_neg (fun z => absurd z.1 (by decide))]
      have h2 : σ1.2 58 = σ.2 58 := funext fun k => by rw [a3, if_neg (fun z => absurd z.1 (by decide))]
      rw [h1, b4, h2]
    exact ⟨τ, f1, f2, f3.trans s58, f4⟩
theorem fillM {P t N : Nat} {wr : Nat → Int32} {Kn : Nat → Nat} {ρ : St} (c : FC P t N wr Kn) (m : FM P t N wr Kn ρ) : ∃ τ, fX9_filledOf ρ = some (nI (mass P (fsq t P (BB Kn) wr N)), τ) ∧ τ.1 = ρ.1 ∧ τ.2 58 = ρ.2 58 := by
  obtain ⟨hP, ht, ⟨hN1, hN7⟩, hK, hw⟩ := id c
  obtain ⟨σ, s1, s2, s3⟩ := initF (t := t) (by omega) 72 0 fu ρ (by omega) (fu_gt (by omega)) m.2.1
  obtain ⟨τ, f1, f2, f5, f3⟩ := fillML c m N 0 fu σ (by omega) (fu_gt (by omega)) s2 (fun k hk => by
    rw [s3, if_pos ⟨rfl, Nat.zero_le _, hk⟩]
    show _ = vN (onW 0 t (fo (k % 9)) (k / 9))
    unfold onW fo
    by_cases z : k = 9 * t + 8
    · rw [if_pos z, if_pos (show (if k % 9 = 8 then 0 else k % 9 + 1) = 0 ∧ k / 9 = t from ⟨by rw [if_pos (by omega)], by omega⟩)]
      rfl
    · rw [if_neg z, if_neg (show ¬ ((if k % 9 = 8 then 0 else k % 9 + 1) = 0 ∧ k / 9 = t) from fun y => z (by
        have y1 := y.1
        split at y1
        · omega
        · omega))]
      rfl)
  have f4 := sumML (σ := τ) (g := fun k => fsq t P (BB Kn) wr N (fo (k % 9)) (k / 9)) f3 72 0 fu (by omega) (fu_gt (by omega))
  rw [sum_mass9 hP (spt_fsq ht c.B N)] at f4
  unfold fX9_filledOf
  rw [nI_0] at s1
  rw [s1, obs]
  rw [show nI (0 + 1) = (1 : Int32) from rfl] at f1
  rw [f1, obs]
  have z0 : vN (sgN (fun k => fsq t P (BB Kn) wr N (fo (k % 9)) (k / 9)) 0) = (0 : Int64) := rfl
  rw [z0, nI_0] at f4
  rw [f4, obs, vN_32 (fil_lt ht hP c.B hN7)]
  exact ⟨τ, rfl, f2, f5.trans (funext fun k => by rw [s3, if_neg (fun z => absurd z.1 (by decide))])⟩
theorem fset {σ σ' : St} {P G : Nat} (hR : RR σ σ' P G) : (σ.1 56 2 = 0 ∧ σ'.1 58 33 = -1) ∨ ∃ (t N : Nat) (wr : Nat → Int32) (Kn : Nat → Nat), FC P t N wr Kn ∧ FX P t N wr Kn σ ∧ FM P t N wr Kn σ' := by
  obtain ⟨h1, h2, h3, h4, h5, h6, h7⟩ := id hR
  obtain ⟨⟨hP, hG⟩, ⟨p0, p1⟩, ⟨g0, g1⟩, hy, hwh, hwk, hwf, hwl, hwd, hwg, v1, -⟩ := id h3
  rcases h6 with ⟨a, b⟩ | ⟨H, N, hH, n1, n7, e1, e2, e3, e4, ec, eg⟩
  · exact Or.inl ⟨a, b⟩
  · have kn : ∀ h, h < 8 → σ'.1 61 h = nI (σ'.1 61 h).toNatClampNeg ∧ (σ'.1 61 h).toNatClampNeg < 2 ^ P := fun h hh => by
      obtain ⟨k, hk, e⟩ := v1 h hh
      have := p2_256 hP hk
      have q : (σ'.1 61 h).toNatClampNeg = k := by rw [e, tcl (by omega)]
      rw [q]
      exact ⟨e, hk⟩
    exact Or.inr ⟨H, N, σ'.1 76, fun h => (σ'.1 61 h).toNatClampNeg, ⟨hP, hH, ⟨n1, n7⟩, fun h hh => (kn h hh).2, fun y hy => eg y hy⟩, ⟨p0, e1, e3, fun h hh => (hwk h hh).trans (kn h hh).1, fun y hy => ec y hy⟩, ⟨p1, e2, e4, fun h hh => (kn h hh).1, fun _ _ => rfl⟩⟩
/-- filled -/
theorem s_filled {σ σ' : St} (h : Rel σ σ') : ∃ r τ τ', fX8_filled σ = some (r, τ) ∧ fX9_filled σ' = some (r, τ') ∧ Rel τ τ' := by
  obtain ⟨P, G, hR⟩ := h
  have key : ∃ r τ τ', fX8_filled σ = some (r, τ) ∧ fX9_filled σ' = some (r, τ') := by
    unfold fX8_filled fX9_filled fX0_isOpen
    rcases fset hR with ⟨a, b⟩ | ⟨t, N, wr, Kn, c, x, m⟩
    · rw [a, b, if_pos (show (0 : Int32) ≤ 0 by decide), if_pos rfl, if_pos rfl]
      exact ⟨_, _, _, rfl, rfl⟩
    · obtain ⟨τ, x1, -⟩ := fillX c x
      obtain ⟨τ', m1, -⟩ := fillM c m
      obtain ⟨hP, ht, ⟨hN1, hN7⟩, hK, hw⟩ := id c
      rw [x.2.2.1, m.2.1, if_neg (nI_nle (n := N) (by omega) (by omega)), if_neg (show ¬ (1 : Int32) = 0 by decide), if_neg (nI_ne_m1 (by omega)), x1, obs, m1, obs]
      exact ⟨_, _, _, rfl, rfl⟩
  obtain ⟨r, τ, τ', e1, e2⟩ := key
  exact ⟨r, τ, τ', e1, e2, P, G, hR.fr (frX8_filled σ (r, τ) e1) (frX9_filled σ' (r, τ') e2) (fun _ _ => List.not_mem_nil) (fun _ _ => List.not_mem_nil)⟩
