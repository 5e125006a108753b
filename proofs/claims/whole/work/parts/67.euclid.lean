/-- Fibonacci's numbers -/
def fbn : Nat → Nat
  | 0 => 0
  | 1 => 1
  | n + 2 => fbn (n + 1) + fbn n
/-- Euclid's way doesn't end within n steps -/
def NotEnd : Nat → Nat → Nat → Prop
  | 0, _, _ => True
  | n + 1, a, b => b ≠ 0 ∧ NotEnd n b (a % b)
theorem lame : ∀ (n a b : Nat), b < a → NotEnd (n + 1) a b → fbn (n + 2) ≤ b ∧ fbn (n + 3) ≤ a := by
  intro n
  induction n with
  | zero =>
    intro a b h q
    have := q.1
    rw [show fbn (0 + 2) = 1 from rfl, show fbn (0 + 3) = 2 from rfl]
    omega
  | succ n ih =>
    intro a b h q
    have hb := q.1
    obtain ⟨h1, h2⟩ := ih b (a % b) (Nat.mod_lt _ (by omega)) q.2
    have h3 : b + a % b ≤ a := by
      have e := Nat.div_add_mod a b
      have d : 1 ≤ a / b := Nat.div_pos (by omega) (by omega)
      have m := Nat.mul_le_mul_left b d
      omega
    refine ⟨h2, ?_⟩
    rw [show fbn (n + 1 + 3) = fbn (n + 3) + fbn (n + 2) from rfl]
    omega
theorem fb_big : 2 ^ 62 ≤ fbn 95 := by
  simp [fbn]
theorem fb_mono : ∀ n, fbn n ≤ fbn (n + 1)
  | 0 => by decide
  | n + 1 => by rw [show fbn (n + 1 + 1) = fbn (n + 1) + fbn n from rfl]; omega
/-- it ends within 99 steps -/
theorem ends99 {a b : Nat} (h : b < a) (ha : a < 2 ^ 62) : ¬ NotEnd 99 a b := by
  intro q
  have := (lame 98 a b h q).2
  have e : fbn 95 ≤ fbn (98 + 3) := Nat.le_trans (fb_mono 95) (Nat.le_trans (fb_mono 96) (Nat.le_trans (fb_mono 97) (Nat.le_trans (fb_mono 98) (Nat.le_trans (fb_mono 99) (fb_mono 100)))))
  have := fb_big
  omega
theorem notEnd100 {a b : Nat} (hb : b < 2 ^ 62) : ¬ NotEnd 100 a b := fun q => ends99 (Nat.mod_lt a (Nat.pos_of_ne_zero q.1)) hb q.2
theorem vN_0 {b : Nat} (hb : b < 2 ^ 62) : (vN b = 0) ↔ b = 0 := by
  constructor
  · intro e
    have := congrArg Int64.toInt e
    rw [vN_toInt (by omega), show (0 : Int64).toInt = 0 from rfl] at this
    omega
  · rintro rfl; rfl
theorem gcdX (σ : St) : ∀ (k a b i n : Nat), ¬ NotEnd k a b → i + k ≤ 100 → k < n → a < 2 ^ 62 → b < 2 ^ 62 → fX8_greatestCommon_L9 σ n (vN a) (vN b) (nI i) = some (vN (Nat.gcd a b)) := by
  intro k
  induction k with
  | zero => intro a b i n h; exact absurd trivial h
  | succ k ih =>
    intro a b i n h hi hn ha hb
    obtain ⟨n, rfl, hn⟩ := su hn
    rw [fX8_greatestCommon_L9, if_neg (show ¬ (100 : Int32) ≤ nI i from nI_ge (a := i) (b := 100) (by omega) (by decide))]
    by_cases z : b = 0
    · subst z
      rw [if_pos (lcmp_eq.mpr (show vN 0 = 0 from rfl)), Nat.gcd_zero_right]
    · have zb : ¬ vN b = 0 := fun q => z ((vN_0 hb).mp q)
      rw [if_neg (fun q => zb (lcmp_eq.mp q)), grd_t (decide_eq_true zb), vN_mod ha hb, nI_1]
      rw [ih b (a % b) (i + 1) n (fun q => h ⟨z, q⟩) (by omega) (by omega) hb (Nat.lt_trans (Nat.mod_lt a (Nat.pos_of_ne_zero z)) hb), Nat.gcd_comm b (a % b), ← Nat.gcd_rec, Nat.gcd_comm]
theorem gcdM (c0 c2 : Int64) (c4 : Int32) (σ : St) : ∀ (k a b n : Nat), ¬ NotEnd k b a → k < n → a < 2 ^ 62 → b < 2 ^ 62 → fX9_term_L6 c0 c2 c4 σ n (vN a) (vN b) = some (vN (Nat.gcd a b)) := by
  intro k
  induction k with
  | zero => intro a b n h; exact absurd trivial h
  | succ k ih =>
    intro a b n h hn ha hb
    obtain ⟨n, rfl, hn⟩ := su hn
    rw [fX9_term_L6]
    by_cases z : a = 0
    · subst z
      rw [if_pos (lcmp_eq.mpr (show vN 0 = 0 from rfl)), Nat.gcd_zero_left]
    · have zb : ¬ vN a = 0 := fun q => z ((vN_0 ha).mp q)
      rw [if_neg (fun q => zb (lcmp_eq.mp q)), grd_t (decide_eq_true zb), vN_mod hb ha]
      rw [ih (b % a) a n (fun q => h ⟨z, q⟩) (by omega) (Nat.lt_trans (Nat.mod_lt b (Nat.pos_of_ne_zero z)) ha) ha, ← Nat.gcd_rec]
theorem common2 {a b : Nat} (ha : a < 2 ^ 62) (hb : b < 2 ^ 62) (c0 c2 : Int64) (c4 : Int32) (σ σ' : St) : fX8_greatestCommon (vN a) (vN b) σ = some (vN (Nat.gcd a b)) ∧ fX9_term_L6 c0 c2 c4 σ' fu (vN a) (vN b) = some (vN (Nat.gcd a b)) := by
  constructor
  · unfold fX8_greatestCommon
    rw [show (0 : Int32) = nI 0 from rfl, gcdX σ 100 a b 0 fu (notEnd100 hb) (by omega) (fu_gt (by omega)) ha hb]
    rfl
  · exact gcdM c0 c2 c4 σ' 100 a b fu (notEnd100 ha) (fu_gt (by omega)) ha hb
