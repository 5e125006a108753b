/-- a sum over the first n numbers -/
def sgN (g : Nat → Nat) : Nat → Nat
  | 0 => 0
  | n + 1 => sgN g n + g n
theorem sgN_cong {g g' : Nat → Nat} : ∀ {n : Nat}, (∀ i, i < n → g i = g' i) → sgN g n = sgN g' n
  | 0, _ => rfl
  | n + 1, h => by rw [sgN, sgN, sgN_cong (fun i hi => h i (by omega)), h n (by omega)]
theorem sgN_le {g g' : Nat → Nat} : ∀ {n : Nat}, (∀ i, i < n → g i ≤ g' i) → sgN g n ≤ sgN g' n
  | 0, _ => Nat.le_refl 0
  | n + 1, h => Nat.add_le_add (sgN_le (fun i hi => h i (by omega))) (h n (by omega))
theorem sgN_add (g g' : Nat → Nat) : ∀ n : Nat, sgN (fun i => g i + g' i) n = sgN g n + sgN g' n
  | 0 => rfl
  | n + 1 => by rw [sgN, sgN, sgN, sgN_add]; omega
theorem sgN_mul (c : Nat) (g : Nat → Nat) : ∀ n : Nat, sgN (fun i => c * g i) n = c * sgN g n
  | 0 => rfl
  | n + 1 => by rw [sgN, sgN, sgN_mul, Nat.mul_add]
theorem sgN_0 : ∀ n : Nat, sgN (fun _ => 0) n = 0
  | 0 => rfl
  | n + 1 => by rw [sgN, sgN_0]
theorem sgN_comm (g : Nat → Nat → Nat) (m : Nat) : ∀ n : Nat, sgN (fun i => sgN (g i) m) n = sgN (fun j => sgN (fun i => g i j) n) m
  | 0 => (sgN_0 m).symm
  | n + 1 => by
    rw [sgN, sgN_comm g m n, ← sgN_add]
    rfl
theorem sgN_one {g : Nat → Nat} : ∀ {n k : Nat}, k < n → g k ≤ sgN g n
  | 0, _, h => absurd h (Nat.not_lt_zero _)
  | n + 1, k, h => by
    rw [sgN]
    by_cases e : k = n
    · subst e; omega
    · have := sgN_one (g := g) (n := n) (k := k) (by omega)
      omega
