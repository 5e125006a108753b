/-- what has come home, in parts of 420 a year -/
def ups (t P : Nat) (B W0 : Nat → Nat → Nat) : Nat → Nat
  | 0 => 0
  | n + 1 => 420 * ups t P B W0 n + cmh 1 t P B W0 n
theorem ups_le {t P : Nat} {B W0 : Nat → Nat → Nat} (ht : t < 8) (hP : P ≤ 8) (hB : ∀ f h, f ≤ P → h < P → B f h < 2 ^ P) (h1 : mass P W0 = 1) : ∀ n, ups t P B W0 n + mass P (wsq 0 1 t P B W0 n) ≤ 420 ^ n
  | 0 => by
    rw [Nat.pow_zero, ups, Nat.zero_add]
    exact Nat.le_of_eq h1
  | n + 1 => by
    have h2 := mass_stp (s := 0) (c := 1) (t := t) (P := P) (B := B) (W := wsq 0 1 t P B W0 n) ht hP hB (fun z => absurd rfl z)
    have h3 := ups_le ht hP hB h1 n
    have h4 : kk 1 = 420 := rfl
    have h5 : cmh 1 t P B W0 n = cam 1 t P B (wsq 0 1 t P B W0 n) := rfl
    have h6 : wsq 0 1 t P B W0 (n + 1) = stp 0 1 t P B (wsq 0 1 t P B W0 n) := rfl
    rw [Nat.pow_succ, ups, h5, h6]
    rw [h4] at h2
    omega
theorem ups_lt {t P : Nat} {B W0 : Nat → Nat → Nat} (ht : t < 8) (hP : P ≤ 8) (hB : ∀ f h, f ≤ P → h < P → B f h < 2 ^ P) (h1 : mass P W0 = 1) {n : Nat} (hn : n ≤ 7) : ups t P B W0 n < 2 ^ 62 ∧ 420 ^ n < 2 ^ 62 := by
  have h2 := ups_le ht hP hB h1 n
  have h3 : 420 ^ n < 2 ^ 62 := Nat.lt_of_le_of_lt (Nat.pow_le_pow_right (by decide) hn) (by decide)
  exact ⟨Nat.lt_of_le_of_lt (Nat.le_trans (Nat.le_add_right _ _) h2) h3, h3⟩
theorem likXL {t P k Y : Nat} {B W0 : Nat → Nat → Nat} {ρ : St} (c3 : Int32) (b : BX 4 (ρ.1 3 1) P B ρ) (ht : t < 8) (h1 : mass P W0 = 1) (hS : Spt P W0) (hY : Y ≤ 7) (et : ρ.1 (4 + 7 + k) 1 = nI t) : ∀ (d i n : Nat) (σ : St), i + d = Y → d < n → AtX 1 t P B W0 i ρ σ → ∃ τ, fX8_likely_L91 (nI Y) c3 (4 + 7 + k) n (vN (ups t P B W0 i)) (vN (420 ^ i)) (nI i) σ = some (vN (ups t P B W0 Y), vN (420 ^ Y), τ) := by
  intro d
  induction d with
  | zero =>
    intro i n σ hi hn a
    obtain ⟨n, rfl, -⟩ := su hn
    have e : i = Y := by omega
    subst e
    rw [fX8_likely_L91, if_pos (nI_le (a := i) (b := i) (by omega) (by omega))]
    exact ⟨σ, rfl⟩
  | succ d ih =>
    intro i n σ hi hn a
    obtain ⟨n, rfl, hn⟩ := su hn
    obtain ⟨σ1, s1, s2⟩ := nextX b ht (show 1 < 2 by decide) h1 hS (show i ≤ 8 by omega) (fun _ => by omega) a
    rw [show nI 1 = (1 : Int32) from rfl] at s1
    rw [fX8_likely_L91, if_neg (nI_ge (a := i) (b := Y) (by omega) (by omega)), a.1, et, s1, obs, bnd_eq, nI_1, show (420 : Int64) = vN 420 from rfl, vN_mul, vN_mul, vN_add, ← Nat.pow_succ, Nat.mul_comm (ups t P B W0 i) 420]
    exact ih (i + 1) n σ1 (by omega) (by omega) s2
theorem likML {t P k Y : Nat} {B W0 : Nat → Nat → Nat} {ρ : St} (c3 : Int32) (b : BM P B ρ) (hk : k < 8) (ht : t < 8) (h1 : mass P W0 = 1) (hS : Spt P W0) (hY : Y ≤ 7) (et : ρ.1 65 (8 * k + 1) = nI t) : ∀ (d i n : Nat) (σ : St), i + d = Y → d < n → AtM 1 t P B W0 i ρ σ → ∃ τ, fX9_likely_L64 (nI k) (nI Y) c3 n (vN (ups t P B W0 i)) (vN (420 ^ i)) (nI i) σ = some (vN (ups t P B W0 Y), vN (420 ^ Y), τ) := by
  intro d
  induction d with
  | zero =>
    intro i n σ hi hn a
    obtain ⟨n, rfl, -⟩ := su hn
    have e : i = Y := by omega
    subst e
    rw [fX9_likely_L64, if_pos (nI_le (a := i) (b := i) (by omega) (by omega))]
    exact ⟨σ, rfl⟩
  | succ d ih =>
    intro i n σ hi hn a
    obtain ⟨n, rfl, hn⟩ := su hn
    obtain ⟨σ1, s1, s2, -⟩ := nextM b ht (show 1 < 2 by decide) h1 hS (show i ≤ 8 by omega) (fun _ => by omega) a
    rw [show nI 1 = (1 : Int32) from rfl] at s1
    rw [fX9_likely_L64, if_neg (nI_ge (a := i) (b := Y) (by omega) (by omega)), ix8_1, grd_t (inbN (show 8 * k + 1 < 64 by omega) (by decide)), tcl (by omega), a.1, et, s1, obs, bnd_eq, nI_1, show (420 : Int64) = vN 420 from rfl, vN_mul, vN_mul, vN_add, ← Nat.pow_succ]
    exact ih (i + 1) n σ1 (by omega) (by omega) s2
/-- likely -/
theorem s_likely (p q z : Int32) {σ σ' : St} (h : Rel σ σ') : ∃ r τ τ', fX8_likely p q z σ = some (r, τ) ∧ fX9_likely p q z σ' = some (r, τ') ∧ Rel τ τ' := by
  obtain ⟨P, G, hR⟩ := h
  obtain ⟨h1, h2, h3, -⟩ := id hR
  obtain ⟨⟨hP, hG⟩, ⟨p0, p1⟩, ⟨g0, g1⟩, -⟩ := id h3
  have key : ∃ r τ τ', fX8_likely p q z σ = some (r, τ) ∧ fX9_likely p q z σ' = some (r, τ') := by
    have w1 : fX9_in q.toInt64 (1 : Int64) (7 : Int64) = fX8_within q 1 7 := wi2 q 1 7
    have w2 : fX9_in z.toInt64 (0 : Int64) (1 : Int64) = fX8_within z 0 1 := wi2 z 0 1
    unfold fX8_likely fX9_likely
    rw [w1, w2]
    rcases isG2 g0 g1 hG p with ⟨k, hk, rfl, a, b⟩ | ⟨-, a, b⟩
    · simp only [a, b, n10, if_false]
      simp only [grd_t (inbN (show k < 8 by omega) (by decide)), tcl (show k < 2 ^ 31 by omega)]
      rw [xlives h3 (show k < 8 by omega), mlives (by omega), obs]
      by_cases l : σ'.1 65 (8 * k + 6) = 0
      · simp only [l, if_true, n10, if_false]
        rcases within_c q (a := 1) (b := 7) (by decide) (by decide) with ⟨y, y1, y2, rfl, e⟩ | ⟨-, e⟩
        · replace e : fX8_within (nI y) (1 : Int32) (7 : Int32) = 1 := e
          simp only [e, n10, if_false]
          rcases within_c z (a := 0) (b := 1) (by decide) (by decide) with ⟨v, -, -, -, e'⟩ | ⟨-, e'⟩
          · replace e' : fX8_within z (0 : Int32) (1 : Int32) = 1 := e'
            simp only [e', n10, if_false]
            obtain ⟨f0, h0, t, B, ⟨hf, hh, ht⟩, ⟨x1, x2, x3⟩, ⟨m1, m2, m3⟩, bx, bm⟩ := wset hR hk
            obtain ⟨σ1, s1, s2⟩ := startX (c := 1) (t := t) (B := B) hf hh hP σ
            obtain ⟨σ2, t1, t2, -⟩ := startM (c := 1) (t := t) (B := B) (show k < 8 by omega) hf hh hP σ' m3 m2
            obtain ⟨τ, f1⟩ := likXL z bx (show t < 8 by omega) (mass_one hf hh) (spt_one hf hh) y2 x1 y 0 fu σ1 (by omega) (fu_gt (by omega)) s2
            obtain ⟨τ', l1⟩ := likML z bm (show k < 8 by omega) (show t < 8 by omega) (mass_one hf hh) (spt_one hf hh) y2 m1 y 0 fu σ2 (by omega) (fu_gt (by omega)) t2
            obtain ⟨u1, u2⟩ := ups_lt (show t < 8 by omega) hP bx.2.1 (mass_one hf hh) y2
            obtain ⟨c1, c2⟩ := common2 u1 u2 (vN (ups t P B (onW f0 h0) y)) (vN (420 ^ y)) z τ τ'
            have z0 : vN (ups t P B (onW f0 h0) 0) = (0 : Int64) := rfl
            have z1 : vN (420 ^ 0) = (1 : Int64) := rfl
            rw [z0, z1, nI_0] at f1 l1
            have g1 : Nat.gcd (ups t P B (onW f0 h0) y) (420 ^ y) ≠ 0 := fun w => by
              have := (Nat.gcd_eq_zero_iff.mp w).2
              exact absurd this (Nat.pos_iff_ne_zero.mp (Nat.pow_pos (by decide)))
            have g2 : Nat.gcd (ups t P B (onW f0 h0) y) (420 ^ y) < 2 ^ 62 := Nat.lt_of_le_of_lt (Nat.gcd_le_right _ (Nat.pow_pos (by decide))) u2
            have g3 : ¬ vN (Nat.gcd (ups t P B (onW f0 h0) y) (420 ^ y)) = 0 := fun w => g1 ((vN_0 g2).mp w)
            rw [x2, x3, s1, obs, f1, obs, t1, obs, l1, obs]
            simp only []
            rw [c1, obs, if_neg (fun w => g3 (lcmp_eq.mp w))]
            unfold fX9_term
            rw [c2, obs]
            simp only [grd_t (decide_eq_true g3)]
            by_cases w : z = 0
            · rw [if_pos w, if_pos w, obs]
              exact ⟨_, _, _, rfl, rfl⟩
            · rw [if_neg w, if_neg w, obs]
              exact ⟨_, _, _, rfl, rfl⟩
          · replace e' : fX8_within z (0 : Int32) (1 : Int32) = 0 := e'
            simp only [e', if_true]
            exact ⟨_, _, _, rfl, rfl⟩
        · replace e : fX8_within q (1 : Int32) (7 : Int32) = 0 := e
          simp only [e, if_true]
          exact ⟨_, _, _, rfl, rfl⟩
      · simp only [l, if_false, if_true]
        exact ⟨_, _, _, rfl, rfl⟩
    · simp only [a, b, if_true]
      exact ⟨_, _, _, rfl, rfl⟩
  obtain ⟨r, τ, τ', e1, e2⟩ := key
  exact ⟨r, τ, τ', e1, e2, P, G, hR.fr (frX8_likely p q z σ (r, τ) e1) (frX9_likely p q z σ' (r, τ') e2) (fun _ _ => List.not_mem_nil) (fun _ _ => List.not_mem_nil)⟩
