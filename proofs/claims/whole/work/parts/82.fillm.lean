/-- who may have it in a year of the BOOK, for the state k -/
abbrev cnd (t : Nat) (w : Int32) (Kn : Nat → Nat) (k v : Nat) : Prop := (Kn (k / 9)).testBit v = true ∧ v ≠ k % 9 ∧ v ≠ t ∧ (w = -1 ∨ w = nI v)
theorem initF {t : Nat} (ht : t < 8) : ∀ (d i n : Nat) (σ : St), i + d = 72 → d < n → σ.1 58 33 = nI t → ∃ τ, fX9_filledOf_L2 n (nI i) σ = some τ ∧ τ.1 = σ.1 ∧ ∀ a b, τ.2 a b = if a = 67 ∧ i ≤ b ∧ b < 72 then (if b = 9 * t + 8 then 1 else 0) else σ.2 a b := by
  intro d
  induction d with
  | zero =>
    intro i n σ hi hn h0
    obtain ⟨n, rfl, -⟩ := su hn
    have e : i = 72 := by omega
    subst e
    rw [fX9_filledOf_L2, if_pos (show (72 : Int32) ≤ nI 72 by decide)]
    exact ⟨σ, rfl, rfl, fun a b => by rw [if_neg (by omega)]⟩
  | succ d ih =>
    intro i n σ hi hn h0
    obtain ⟨n, rfl, hn⟩ := su hn
    rw [fX9_filledOf_L2, if_neg (show ¬ (72 : Int32) ≤ nI i from nI_ge (a := i) (b := 72) (by omega) (by decide)), h0, show (9 : Int32) * nI t + 8 = nI (9 * t + 8) from nine t 8, bnd_eq, grd_t (inbN (show i < 72 by omega) (by decide)), tcl (by omega), bnd_eq, nI_1]
    obtain ⟨τ, e1, e2, e3⟩ := ih (i + 1) n (setL σ 67 i (if nI i = nI (9 * t + 8) then 1 else 0)) (by omega) (by omega) h0
    refine ⟨τ, e1, e2, fun a b => ?_⟩
    rw [e3 a b, setL_2]
    by_cases q : a = 67 ∧ b = i
    · obtain ⟨rfl, rfl⟩ := q
      rw [if_neg (by omega), if_pos ⟨rfl, rfl⟩, if_pos (show 67 = 67 ∧ b ≤ b ∧ b < 72 from ⟨rfl, Nat.le_refl _, by omega⟩)]
      by_cases z : b = 9 * t + 8
      · rw [if_pos (by rw [z]), if_pos z]
      · rw [if_neg (fun y => z ((nI_inj (by omega) (by omega)).mp y)), if_neg z]
    · rw [if_neg q]
      by_cases u : a = 67 ∧ i + 1 ≤ b ∧ b < 72
      · rw [if_pos u, if_pos (show a = 67 ∧ i ≤ b ∧ b < 72 by omega)]
      · rw [if_neg u, if_neg (show ¬ (a = 67 ∧ i ≤ b ∧ b < 72) by omega)]
theorem clearF (c1 : Int32) : ∀ (d i n : Nat) (σ : St), i + d = 72 → d < n → ∃ τ, fX9_filledOf_L51 c1 n (nI i) σ = some τ ∧ τ.1 = σ.1 ∧ ∀ a b, τ.2 a b = if a = 68 ∧ i ≤ b ∧ b < 72 then 0 else σ.2 a b := by
  intro d
  induction d with
  | zero =>
    intro i n σ hi hn
    obtain ⟨n, rfl, -⟩ := su hn
    have e : i = 72 := by omega
    subst e
    rw [fX9_filledOf_L51, if_pos (show (72 : Int32) ≤ nI 72 by decide)]
    exact ⟨σ, rfl, rfl, fun a b => by rw [if_neg (by omega)]⟩
  | succ d ih =>
    intro i n σ hi hn
    obtain ⟨n, rfl, hn⟩ := su hn
    rw [fX9_filledOf_L51, if_neg (show ¬ (72 : Int32) ≤ nI i from nI_ge (a := i) (b := 72) (by omega) (by decide)), grd_t (inbN (show i < 72 by omega) (by decide)), tcl (by omega), bnd_eq, nI_1]
    obtain ⟨τ, e1, e2, e3⟩ := ih (i + 1) n (setL σ 68 i 0) (by omega) (by omega)
    refine ⟨τ, e1, e2, fun a b => ?_⟩
    rw [e3 a b, setL_2]
    by_cases q : a = 68 ∧ b = i
    · obtain ⟨rfl, rfl⟩ := q
      rw [if_neg (by omega), if_pos ⟨rfl, rfl⟩, if_pos (by omega)]
    · rw [if_neg q]
      by_cases t : a = 68 ∧ i + 1 ≤ b ∧ b < 72
      · rw [if_pos t, if_pos (by omega)]
      · rw [if_neg t, if_neg (by omega)]
theorem moveF (c1 : Int32) : ∀ (d i n : Nat) (σ : St), i + d = 72 → d < n → ∃ τ, fX9_filledOf_L223 c1 n (nI i) σ = some τ ∧ τ.1 = σ.1 ∧ ∀ a b, τ.2 a b = if a = 67 ∧ i ≤ b ∧ b < 72 then σ.2 68 b else σ.2 a b := by
  intro d
  induction d with
  | zero =>
    intro i n σ hi hn
    obtain ⟨n, rfl, -⟩ := su hn
    have e : i = 72 := by omega
    subst e
    rw [fX9_filledOf_L223, if_pos (show (72 : Int32) ≤ nI 72 by decide)]
    exact ⟨σ, rfl, rfl, fun a b => by rw [if_neg (by omega)]⟩
  | succ d ih =>
    intro i n σ hi hn
    obtain ⟨n, rfl, hn⟩ := su hn
    rw [fX9_filledOf_L223, if_neg (show ¬ (72 : Int32) ≤ nI i from nI_ge (a := i) (b := 72) (by omega) (by decide)), grd_t (inbN (show i < 72 by omega) (by decide)), grd_t (inbN (show i < 72 by omega) (by decide)), tcl (by omega), bnd_eq, nI_1]
    obtain ⟨τ, e1, e2, e3⟩ := ih (i + 1) n (setL σ 67 i (σ.2 68 i)) (by omega) (by omega)
    refine ⟨τ, e1, e2, fun a b => ?_⟩
    rw [e3 a b, setL_oo (show ¬ (68 = 67 ∧ b = i) by omega), setL_2]
    by_cases q : a = 67 ∧ b = i
    · obtain ⟨rfl, rfl⟩ := q
      rw [if_neg (by omega), if_pos ⟨rfl, rfl⟩, if_pos (by omega)]
    · rw [if_neg q]
      by_cases t : a = 67 ∧ i + 1 ≤ b ∧ b < 72
      · rw [if_pos t, if_pos (by omega)]
      · rw [if_neg t, if_neg (by omega)]
theorem spreadF {P t N k w y : Nat} {wr : Nat → Int32} {Kn : Nat → Nat} {ρ : St} (c : FC P t N wr Kn) (m : FM P t N wr Kn ρ) (hk : k < 72) (hy : y < 8) (hw : w < 2 ^ 62) : ∀ (d i n : Nat) (σ : St), i + d = P → d < n → σ.1 = ρ.1 → σ.2 67 k = vN w → ∃ τ, fX9_filledOf_L86 (nI y) (nI k) (nI (k / 9)) n (nI i) σ = some τ ∧ τ.1 = ρ.1 ∧ ∀ a x, τ.2 a x = if a = 68 ∧ x % 9 = k / 9 ∧ i ≤ x / 9 ∧ x / 9 < P ∧ cnd t (wr y) Kn k (x / 9) then σ.2 a x + vN w else σ.2 a x := by
  obtain ⟨hP, ht, ⟨hN1, hN7⟩, hK, hwr⟩ := id c
  obtain ⟨m12, m33, m34, m61, m76⟩ := m
  intro d
  induction d with
  | zero =>
    intro i n σ hi hn e h67
    obtain ⟨n, rfl, -⟩ := su hn
    have ei : i = P := by omega
    subst ei
    rw [fX9_filledOf_L86, e, m12, if_pos (nI_le (a := i) (b := i) (by omega) (by omega))]
    exact ⟨σ, rfl, e, fun a x => by rw [if_neg (fun z => by omega)]⟩
  | succ d ih =>
    intro i n σ hi hn e h67
    obtain ⟨n, rfl, hn⟩ := su hn
    have hk9 : k / 9 < 8 := by omega
    have hb := p2_256 hP (hK (k / 9) hk9)
    have m9 : nI k - nI k / (9 : Int32) * (9 : Int32) = nI (k % 9) := by rw [show (9 : Int32) = nI 9 from rfl, vI_mod (by omega) (by omega)]
    rw [fX9_filledOf_L86, e, m12, if_neg (nI_ge (a := i) (b := P) (by omega) (by omega)), grd_t (inbN hk (by decide)), tcl (show k < 2 ^ 31 by omega), h67]
    by_cases z : w = 0
    · rw [if_pos (lcmp_le.mpr ((vN_le0 hw).mpr z))]
      refine ⟨σ, rfl, e, fun a x => ?_⟩
      rw [z, show vN 0 = (0 : Int64) from rfl, Int64.add_zero]
      split <;> rfl
    · rw [if_neg (fun q => z ((vN_le0 hw).mp (lcmp_le.mp q))), grd_t (inbN hk9 (by decide)), tcl (show k / 9 < 2 ^ 31 by omega), m61 _ hk9, m9, m33, bt_shr (Kn (k / 9)) hb i (by omega), bnd_eq]
      simp only [grd_t (inbN hy (by decide)), tcl (show y < 2 ^ 31 by omega), m76 y hy, nine, grd_t (inbN (show 9 * i + k / 9 < 72 by omega) (by decide)), tcl (show 9 * i + k / 9 < 2 ^ 31 by omega), grd_t (inbN hk (by decide)), bnd_eq, nI_1]
      have q21 : (if (if (if (Kn (k / 9)).testBit i = true then (1 : Int32) else (0 : Int32)) = (1 : Int32) then (if nI i = nI (k % 9) then (0 : Int32) else (if nI i = nI t then (0 : Int32) else (1 : Int32))) else (0 : Int32)) = 0 then some (0 : Int32) else (if wr y = (-1 : Int32) then some (1 : Int32) else (if wr y = nI i then some (1 : Int32) else some (0 : Int32)))) = some (if cnd t (wr y) Kn k i then (1 : Int32) else (0 : Int32)) := by
        by_cases y1 : (Kn (k / 9)).testBit i = true
        · rw [if_pos y1, if_pos rfl]
          by_cases y2 : i = k % 9
          · rw [if_pos (show nI i = nI (k % 9) by rw [← y2]), if_pos rfl, if_neg (fun q : cnd t (wr y) Kn k i => q.2.1 y2)]
          · rw [if_neg (show ¬ nI i = nI (k % 9) from fun q => y2 ((nI_inj (by omega) (by omega)).mp q))]
            by_cases y3 : i = t
            · rw [if_pos (show nI i = nI t by rw [y3]), if_pos rfl, if_neg (fun q : cnd t (wr y) Kn k i => q.2.2.1 y3)]
            · rw [if_neg (show ¬ nI i = nI t from fun q => y3 ((nI_inj (by omega) (by omega)).mp q)), if_neg (show ¬ (1 : Int32) = 0 by decide)]
              by_cases y4 : wr y = -1
              · rw [if_pos y4, if_pos (show cnd t (wr y) Kn k i from ⟨y1, y2, y3, Or.inl y4⟩)]
              · rw [if_neg y4]
                by_cases y5 : wr y = nI i
                · rw [if_pos y5, if_pos (show cnd t (wr y) Kn k i from ⟨y1, y2, y3, Or.inr y5⟩)]
                · rw [if_neg y5, if_neg (fun q : cnd t (wr y) Kn k i => q.2.2.2.elim y4 y5)]
        · rw [if_neg y1, if_neg (show ¬ (0 : Int32) = 1 by decide), if_pos rfl, if_neg (fun q : cnd t (wr y) Kn k i => y1 q.1)]
      rw [q21, obs]
      have q24 : (if (if cnd t (wr y) Kn k i then (1 : Int32) else (0 : Int32)) = 0 then some (0 : Int64) else some (vN w)) = some (if cnd t (wr y) Kn k i then vN w else 0) := by
        by_cases u : cnd t (wr y) Kn k i
        · rw [if_pos u, if_pos u, if_neg (show ¬ (1 : Int32) = 0 by decide)]
        · rw [if_neg u, if_neg u, if_pos rfl]
      rw [q24, obs]
      obtain ⟨τ, e1, e2, e3⟩ := ih (i + 1) n (setL σ 68 (9 * i + k / 9) (σ.2 68 (9 * i + k / 9) + (if cnd t (wr y) Kn k i then vN w else 0))) (by omega) (by omega) e (by rw [setL_oo (fun q => absurd q.1 (by decide))]; exact h67)
      refine ⟨τ, e1, e2, fun a x => ?_⟩
      rw [e3 a x, setL_2]
      have d9 : (9 * i + k / 9) / 9 = i := by omega
      have m9' : (9 * i + k / 9) % 9 = k / 9 := by omega
      by_cases q : a = 68 ∧ x = 9 * i + k / 9
      · obtain ⟨rfl, rfl⟩ := q
        rw [d9, m9', if_neg (fun q => by have := q.2.2.1; omega), if_pos ⟨rfl, rfl⟩]
        by_cases u : cnd t (wr y) Kn k i
        · rw [if_pos u, if_pos ⟨rfl, rfl, Nat.le_refl _, by omega, u⟩]
        · rw [if_neg u, if_neg (fun q => u q.2.2.2.2), Int64.add_zero]
      · rw [if_neg q]
        by_cases u : a = 68 ∧ x % 9 = k / 9 ∧ i + 1 ≤ x / 9 ∧ x / 9 < P ∧ cnd t (wr y) Kn k (x / 9)
        · rw [if_pos u, if_pos ⟨u.1, u.2.1, by omega, u.2.2.2⟩]
        · rw [if_neg u, if_neg (fun v => u ⟨v.1, v.2.1, by
            have : x / 9 ≠ i := fun r => q ⟨v.1, by omega⟩
            omega, v.2.2.2⟩)]
