theorem spotN (h v : Nat) : fX6_spot (nI h) (nI v) = nI (8 * (h + 1) + v) := by
  unfold fX6_spot
  rw [nI_1, show (8 : Int32) = nI 8 from rfl, pk_mul, nI_add, Nat.mul_comm]
theorem spot0 (v : Nat) : fX6_spot (-1) (nI v) = nI v := by
  unfold fX6_spot
  rw [show ((-1 : Int32) + 1) * 8 = nI 0 from rfl, nI_add, Nat.zero_add]
theorem spreadX (c1 : Int64) {h b : Nat} (hh : h < 8) (hb : b < 256) : ∀ (d i n : Nat) (σ : St), i + d = 8 → d < n → ∃ τ, fX6_spread_L3 c1 (nI h) (nI b) n (nI i) σ = some τ ∧ τ.1 = σ.1 ∧ ∀ a k, τ.2 a k = if a = 52 ∧ 8 * (h + 1) + i ≤ k ∧ k < 8 * (h + 1) + 8 ∧ b.testBit (k - 8 * (h + 1)) = true then σ.2 a k + c1 else σ.2 a k := by
  intro d
  induction d with
  | zero =>
    intro i n σ hi hn
    obtain ⟨n, rfl, -⟩ := su hn
    have e : i = 8 := by omega
    subst e
    rw [fX6_spread_L3, if_pos (show (8 : Int32) ≤ nI 8 by decide)]
    exact ⟨σ, rfl, rfl, fun a k => by rw [if_neg (fun z => by omega)]⟩
  | succ d ih =>
    intro i n σ hi hn
    obtain ⟨n, rfl, hn⟩ := su hn
    rw [fX6_spread_L3, if_neg (show ¬ (8 : Int32) ≤ nI i from nI_ge (a := i) (b := 8) (by omega) (by decide)), spotN, tcl (by omega)]
    simp only [grd_t (inbN (show 8 * (h + 1) + i < 72 by omega) (by decide)), bnd, nI_1]
    by_cases t : b.testBit i = true
    · rw [if_neg (fun q => by rw [(bt_and b hb i (by omega)).mp q] at t; cases t)]
      obtain ⟨τ, e1, e2, e3⟩ := ih (i + 1) n (setL σ 52 (8 * (h + 1) + i) (σ.2 52 (8 * (h + 1) + i) + c1)) (by omega) (by omega)
      refine ⟨τ, e1, e2, fun a k => ?_⟩
      rw [e3 a k, setL_2]
      by_cases q : a = 52 ∧ k = 8 * (h + 1) + i
      · obtain ⟨rfl, rfl⟩ := q
        rw [if_neg (fun z => by omega), if_pos ⟨rfl, rfl⟩, if_pos ⟨rfl, by omega, by omega, by rw [show 8 * (h + 1) + i - 8 * (h + 1) = i by omega]; exact t⟩]
      · rw [if_neg q]
        by_cases u : a = 52 ∧ 8 * (h + 1) + (i + 1) ≤ k ∧ k < 8 * (h + 1) + 8 ∧ b.testBit (k - 8 * (h + 1)) = true
        · rw [if_pos u, if_pos ⟨u.1, by omega, u.2.2.1, u.2.2.2⟩]
        · rw [if_neg u, if_neg (fun z => u ⟨z.1, by omega, z.2.2.1, z.2.2.2⟩)]
    · rw [if_pos ((bt_and b hb i (by omega)).mpr (by simpa using t))]
      obtain ⟨τ, e1, e2, e3⟩ := ih (i + 1) n σ (by omega) (by omega)
      refine ⟨τ, e1, e2, fun a k => ?_⟩
      rw [e3 a k]
      by_cases u : a = 52 ∧ 8 * (h + 1) + (i + 1) ≤ k ∧ k < 8 * (h + 1) + 8 ∧ b.testBit (k - 8 * (h + 1)) = true
      · rw [if_pos u, if_pos ⟨u.1, by omega, u.2.2.1, u.2.2.2⟩]
      · rw [if_neg u, if_neg (fun z => u ⟨z.1, by
          have : k ≠ 8 * (h + 1) + i := by
            rintro rfl
            have z4 := z.2.2.2
            rw [show 8 * (h + 1) + i - 8 * (h + 1) = i by omega] at z4
            exact t z4
          omega, z.2.2.1, z.2.2.2⟩)]
theorem nine (v h : Nat) : (9 : Int32) * nI v + nI h = nI (9 * v + h) := by
  rw [show (9 : Int32) = nI 9 from rfl, pk_mul, nI_add]
theorem spreadM (c2 c5 : Int32) (c8 : Int64) {h b t P : Nat} (hh : h < 8) (hb : b < 256) (hP : P ≤ 8) (ht : t < 100) : ∀ (d i n : Nat) (s : Int64) (σ : St), i + d = P → d < n → σ.1 58 12 = nI P → ∃ τ, fX9_goAll_L148 (nI t) c2 c5 (nI h) (nI b) c8 n s (nI i) σ = some (s + (if i ≤ t ∧ t < P ∧ b.testBit t = true then c8 else 0), τ) ∧ τ.1 = σ.1 ∧ ∀ a k, τ.2 a k = if a = 68 ∧ k % 9 = h ∧ i ≤ k / 9 ∧ k / 9 < P ∧ b.testBit (k / 9) = true ∧ k / 9 ≠ t then σ.2 a k + c8 else σ.2 a k := by
  intro d
  induction d with
  | zero =>
    intro i n s σ hi hn h0
    obtain ⟨n, rfl, -⟩ := su hn
    have e : i = P := by omega
    subst e
    rw [fX9_goAll_L148, h0, if_pos (nI_le (a := i) (b := i) (by omega) (by omega)), if_neg (fun z => by omega), Int64.add_zero]
    exact ⟨σ, rfl, rfl, fun a k => by rw [if_neg (fun z => by omega)]⟩
  | succ d ih =>
    intro i n s σ hi hn h0
    obtain ⟨n, rfl, hn⟩ := su hn
    rw [fX9_goAll_L148, h0, if_neg (nI_ge (a := i) (b := P) (by omega) (by omega)), bt_shr b hb i (by omega), nine, tcl (by omega)]
    simp only [grd_t (inbN (show 9 * i + h < 72 by omega) (by decide)), bnd, nI_1]
    have d9 : (9 * i + h) / 9 = i := by omega
    have m9 : (9 * i + h) % 9 = h := by omega
    by_cases u : b.testBit i = true
    · rw [if_pos u, if_pos rfl]
      obtain ⟨τ, e1, e2, e3⟩ := ih (i + 1) n (s + (if nI i = nI t then c8 else 0)) (setL σ 68 (9 * i + h) (σ.2 68 (9 * i + h) + (if nI i = nI t then 0 else c8))) (by omega) (by omega) h0
      refine ⟨τ, ?_, e2, fun a k => ?_⟩
      · rw [e1]
        by_cases z : i = t
        · subst z
          rw [if_pos rfl, if_neg (fun z => by omega), if_pos ⟨Nat.le_refl _, by omega, u⟩, Int64.add_zero]
        · rw [if_neg (fun q => z ((nI_inj (by omega) (by omega)).mp q)), Int64.add_zero]
          by_cases y : i + 1 ≤ t ∧ t < P ∧ b.testBit t = true
          · rw [if_pos y, if_pos ⟨by omega, y.2⟩]
          · rw [if_neg y, if_neg (fun x => y ⟨by omega, x.2⟩)]
      · rw [e3 a k, setL_2]
        by_cases q : a = 68 ∧ k = 9 * i + h
        · obtain ⟨rfl, rfl⟩ := q
          rw [d9, m9, if_neg (fun z => by have := z.2.2.1; omega), if_pos ⟨rfl, rfl⟩]
          by_cases z : i = t
          · subst z
            rw [if_pos rfl, if_neg (fun z => z.2.2.2.2.2 rfl), Int64.add_zero]
          · rw [if_neg (fun q => z ((nI_inj (by omega) (by omega)).mp q)), if_pos ⟨rfl, rfl, Nat.le_refl _, by omega, u, z⟩]
        · rw [if_neg q]
          by_cases y : a = 68 ∧ k % 9 = h ∧ i + 1 ≤ k / 9 ∧ k / 9 < P ∧ b.testBit (k / 9) = true ∧ k / 9 ≠ t
          · rw [if_pos y, if_pos ⟨y.1, y.2.1, by omega, y.2.2.2⟩]
          · rw [if_neg y, if_neg (fun x => y ⟨x.1, x.2.1, by omega, x.2.2.2⟩)]
    · rw [if_neg u, if_neg (show ¬ (0 : Int32) = 1 by decide)]
      obtain ⟨τ, e1, e2, e3⟩ := ih (i + 1) n s σ (by omega) (by omega) h0
      refine ⟨τ, ?_, e2, fun a k => ?_⟩
      · rw [e1]
        by_cases y : i + 1 ≤ t ∧ t < P ∧ b.testBit t = true
        · rw [if_pos y, if_pos ⟨by omega, y.2⟩]
        · rw [if_neg y, if_neg (fun x => y ⟨by
            have : t ≠ i := by
              rintro rfl
              exact u x.2.2
            omega, x.2⟩)]
      · rw [e3 a k]
        by_cases y : a = 68 ∧ k % 9 = h ∧ i + 1 ≤ k / 9 ∧ k / 9 < P ∧ b.testBit (k / 9) = true ∧ k / 9 ≠ t
        · rw [if_pos y, if_pos ⟨y.1, y.2.1, by omega, y.2.2.2⟩]
        · rw [if_neg y, if_neg (fun x => y ⟨x.1, x.2.1, by
            have : k / 9 ≠ i := by
              intro w
              have w5 := x.2.2.2.2.1
              rw [w] at w5
              exact u w5
            omega, x.2.2.2⟩)]
