/-! A ROUND: the most liking from a set on, in both -/
def oI : Option Nat → Int32
  | none => -1
  | some k => nI k
def omx : Option Nat → Option Nat → Option Nat
  | v, none => v
  | none, some k => some k
  | some j, some k => if j < k then some k else some j
def mfo (f : Nat → Option Nat) : Nat → Option Nat
  | 0 => none
  | n + 1 => omx (mfo f n) (f n)
def mby (Kn Lk : Nat → Nat) (p S q : Nat) (b : Option Nat) : Option Nat := if (Kn p).testBit q = true ∧ S.testBit q = false then b.map (fun v => v + Lk (8 * p + q)) else none
/-- the most that the last d givers can add, S have something already -/
def rvl (P : Nat) (Kn Lk : Nat → Nat) : Nat → Nat → Option Nat
  | 0, S => if S = 2 ^ P - 1 then some 0 else none
  | d + 1, S => mfo (fun q => mby Kn Lk (P - (d + 1)) S q (rvl P Kn Lk d (S ||| 2 ^ q))) P
def bdd (o : Option Nat) (n : Nat) : Prop := ∀ k, o = some k → k ≤ n
theorem bdd.mono {o : Option Nat} {m n : Nat} (h : bdd o m) (hmn : m ≤ n) : bdd o n := fun k e => Nat.le_trans (h k e) hmn
theorem bdd_omx {v m : Option Nat} {n : Nat} (h1 : bdd v n) (h2 : bdd m n) : bdd (omx v m) n := by
  intro k e
  cases m with
  | none =>
    cases v with
    | none => cases e
    | some j => exact h1 k e
  | some j =>
    cases v with
    | none => exact h2 k e
    | some i =>
      have e : (if i < j then some j else some i) = some k := e
      by_cases z : i < j
      · rw [if_pos z] at e; exact h2 k e
      · rw [if_neg z] at e; exact h1 k e
theorem bdd_mfo {f : Nat → Option Nat} {n : Nat} : ∀ {m : Nat}, (∀ q, q < m → bdd (f q) n) → bdd (mfo f m) n
  | 0, _ => fun k e => by cases e
  | m + 1, h => bdd_omx (bdd_mfo (m := m) (fun q hq => h q (by omega))) (h m (by omega))
theorem bdd_mby {Kn Lk : Nat → Nat} {p S q : Nat} {b : Option Nat} {n : Nat} (hL : Lk (8 * p + q) < 10) (h : bdd b n) : bdd (mby Kn Lk p S q b) (n + 9) := by
  intro k e
  unfold mby at e
  by_cases z : (Kn p).testBit q = true ∧ S.testBit q = false
  · rw [if_pos z] at e
    cases b with
    | none => cases e
    | some j =>
      have := h j rfl
      have e2 : j + Lk (8 * p + q) = k := Option.some.inj e
      omega
  · rw [if_neg z] at e; cases e
theorem bdd_rvl {P : Nat} {Kn Lk : Nat → Nat} (hP : P ≤ 8) (hL : ∀ j, j < 64 → Lk j < 10) : ∀ d, d ≤ P → ∀ S, bdd (rvl P Kn Lk d S) (9 * d)
  | 0, _, S => fun k e => by
    rw [rvl] at e
    by_cases z : S = 2 ^ P - 1
    · rw [if_pos z] at e
      have := Option.some.inj e
      omega
    · rw [if_neg z] at e; cases e
  | d + 1, h, S => bdd_mfo (fun q hq => bdd_mby (hL _ (by omega)) (bdd_rvl hP hL d (by omega) _))
theorem m1_lt {k : Nat} (h : k < 2 ^ 31) : (-1 : Int32) < nI k := by
  rw [Int32.lt_iff_toInt_lt, nI_toInt h, show (-1 : Int32).toInt = -1 from rfl]
  omega
theorem omxX {v m : Option Nat} (h1 : bdd v 1000) (h2 : bdd m 1000) : (if oI v < oI m then oI m else oI v) = oI (omx v m) := by
  cases m with
  | none =>
    cases v with
    | none => rfl
    | some j =>
      have := h1 j rfl
      show (if nI j < (-1 : Int32) then (-1 : Int32) else nI j) = nI j
      rw [if_neg (fun z => Int32.lt_irrefl (Int32.lt_trans z (m1_lt (by omega))))]
  | some k =>
    have hk := h2 k rfl
    cases v with
    | none =>
      show (if (-1 : Int32) < nI k then nI k else (-1 : Int32)) = nI k
      rw [if_pos (m1_lt (by omega))]
    | some j =>
      have hj := h1 j rfl
      show (if nI j < nI k then nI k else nI j) = oI (if j < k then some k else some j)
      by_cases z : j < k
      · rw [if_pos z, if_pos (nI_lt z (by omega))]; rfl
      · rw [if_neg z, if_neg (nI_nlt (by omega) (by omega))]; rfl
theorem oI_m1 {m : Option Nat} (h : bdd m 1000) : oI m = -1 ↔ m = none := by
  cases m with
  | none => exact ⟨fun _ => rfl, fun _ => rfl⟩
  | some k =>
    have := h k rfl
    exact ⟨fun z => absurd z (nI_ne_m1 (by omega)), fun z => by cases z⟩
theorem oI_inj {m n : Option Nat} (h : bdd m 1000) (h2 : bdd n 1000) : oI m = oI n ↔ m = n := by
  constructor
  · intro e
    cases m with
    | none => exact ((oI_m1 h2).mp e.symm).symm
    | some k =>
      cases n with
      | none => exact (oI_m1 h).mp e
      | some j =>
        have := h k rfl
        have := h2 j rfl
        rw [(nI_inj (a := k) (b := j) (by omega) (by omega)).mp e]
  · intro e; rw [e]
theorem omxM {v m : Option Nat} (h1 : bdd v 1000) (h2 : bdd m 1000) : (if oI m = -1 then oI v else if oI m ≤ oI v then oI v else oI m) = oI (omx v m) := by
  rw [← omxX h1 h2]
  by_cases z : oI m = -1
  · rw [if_pos z, z]
    have : ¬ oI v < (-1 : Int32) := by
      cases v with
      | none => exact Int32.lt_irrefl
      | some j =>
        have := h1 j rfl
        exact fun z => Int32.lt_irrefl (Int32.lt_trans z (m1_lt (by omega)))
    rw [if_neg this]
  · rw [if_neg z]
    by_cases y : oI m ≤ oI v
    · rw [if_pos y, if_neg (Int32.not_lt.mpr y)]
    · rw [if_neg y, if_pos (Int32.not_le.mp y)]
theorem mfo_att {f : Nat → Option Nat} {k : Nat} : ∀ {m : Nat}, mfo f m = some k → ∃ q, q < m ∧ f q = some k
  | 0, e => by cases e
  | m + 1, e => by
    rw [mfo] at e
    have h1 : mfo f m = some k ∨ f m = some k := by
      cases h : f m with
      | none =>
        rw [h] at e
        cases h2 : mfo f m with
        | none => rw [h2] at e; cases e
        | some j => rw [h2] at e; exact Or.inl e
      | some j =>
        rw [h] at e
        cases h2 : mfo f m with
        | none => rw [h2] at e; exact Or.inr e
        | some i =>
          rw [h2] at e
          have e : (if i < j then some j else some i) = some k := e
          by_cases z : i < j
          · rw [if_pos z] at e; exact Or.inr e
          · rw [if_neg z] at e; exact Or.inl e
    rcases h1 with h1 | h1
    · obtain ⟨q, hq, e2⟩ := mfo_att h1
      exact ⟨q, by omega, e2⟩
    · exact ⟨m, by omega, h1⟩
/-- the first of d from i on that adds just t -/
def leq (f : Nat → Option Nat) (t : Option Nat) : Nat → Nat → Option Nat
  | 0, _ => none
  | d + 1, i => if f i ≠ none ∧ f i = t then some i else leq f t d (i + 1)
theorem leq_in {f : Nat → Option Nat} {t : Option Nat} {q : Nat} : ∀ {d i : Nat}, leq f t d i = some q → i ≤ q ∧ q < i + d ∧ f q = t ∧ f q ≠ none
  | 0, i, e => by cases e
  | d + 1, i, e => by
    rw [leq] at e
    by_cases z : f i ≠ none ∧ f i = t
    · rw [if_pos z] at e
      have := Option.some.inj e
      subst this
      exact ⟨Nat.le_refl _, by omega, z.2, z.1⟩
    · rw [if_neg z] at e
      obtain ⟨a, b, c⟩ := leq_in e
      exact ⟨by omega, by omega, c⟩
theorem leq_some {f : Nat → Option Nat} {t : Option Nat} {q : Nat} (h1 : f q = t) (h2 : f q ≠ none) : ∀ {d i : Nat}, i ≤ q → q < i + d → leq f t d i ≠ none
  | 0, i, a, b => by omega
  | d + 1, i, a, b => by
    rw [leq]
    by_cases z : f i ≠ none ∧ f i = t
    · rw [if_pos z]; exact Option.some_ne_none _
    · rw [if_neg z]
      refine leq_some h1 h2 ?_ (by omega)
      have : i ≠ q := fun y => z (by rw [y]; exact ⟨h2, h1⟩)
      omega
theorem pcs_or : ∀ b, b < 256 → ∀ q, q < 8 → b.testBit q = false → pcs (b ||| 2 ^ q) 8 = pcs b 8 + 1 ∧ b < b ||| 2 ^ q := by decide +kernel
theorem pcs_P : ∀ P, P ≤ 8 → ∀ b, b < 2 ^ P - 1 → pcs b 8 < P := by decide +kernel
theorem pcs_full : ∀ P, P ≤ 8 → pcs (2 ^ P - 1) 8 = P := by decide +kernel
theorem sh_P : ∀ P, P ≤ 8 → (1 : Int32) <<< (nI P &&& 31) = nI (2 ^ P) := by decide +kernel
