/-- which mark habit η of holder h gives PERSON c -/
def Mk (pc gc : Nat) (σ' : St) (P G h η c : Nat) (x : Int32) : Prop := (η = 0 ∧ x = -nI c) ∨ (η = 1 ∧ x = nI c) ∨ (η = 2 ∧ x = σ'.1 61 (8 * h + c)) ∨ (η = 3 ∧ ∃ k, k ≤ G ∧ fL_holds pc 27 gc 64 (nI c) σ' = some (nI k) ∧ x = -nI k)
theorem mark2 {w pc oc gc B : Nat} {σ σ' : St} {P G : Nat} (hW : WL w pc oc gc B σ σ' P G) {h η c : Nat} (hh : h < P) (hc : c < P) (hη : η ≤ 3) (e : σ'.1 pc (1 + h) = nI η) : ∃ x, fX7_markOf w (nI h) (nI c) σ = some x ∧ Mk pc gc σ' P G h η c x := by
  obtain ⟨⟨hP, hG⟩, ⟨p0, p1⟩, ⟨g0, g1⟩, hwh, hwk, hwf, hwl, hwd, hwg, hv⟩ := id hW
  unfold fX7_markOf Mk
  rw [grd_t (inbN (show h < 8 by omega) (by decide)), tcl (by omega), (hwh h (by omega)).trans e]
  rcases (show η = 0 ∨ η = 1 ∨ η = 2 ∨ η = 3 by omega) with rfl | rfl | rfl | rfl
  · exact ⟨_, rfl, Or.inl ⟨rfl, rfl⟩⟩
  · exact ⟨_, rfl, Or.inr (Or.inl ⟨rfl, rfl⟩)⟩
  · rw [if_neg (by decide), if_neg (by decide), if_pos (by decide), pairN, grd_t (inbN (show 8 * h + c < 64 by omega) (by decide)), tcl (by omega)]
    exact ⟨_, rfl, Or.inr (Or.inr (Or.inl ⟨rfl, hwl (8 * h + c) (by omega)⟩))⟩
  · rw [if_neg (by decide), if_neg (by decide), if_neg (by decide)]
    obtain ⟨r, hr, e1, e2⟩ := held hW (nI c)
    rw [e1]
    exact ⟨_, rfl, Or.inr (Or.inr (Or.inr ⟨rfl, r, hr, e2, rfl⟩))⟩
theorem better2 {pc gc : Nat} {σ' : St} {P G h η i c : Nat} {x y : Int32} (hG : G ≤ 8) (hη : η ≤ 3) (hh : h < 8) (hci : c < i) (hi : i < 8) (hx : Mk pc gc σ' P G h η c x) (hy : Mk pc gc σ' P G h η i y) (T S : Option Int32) :
    (if nI η = (1 : Int32) then T else (if nI η = (2 : Int32) then (grd (inb (((8 : Int32) * nI h) + nI i) 64) (grd (inb (((8 : Int32) * nI h) + nI c) 64) (if (σ'.1 61 (((8 : Int32) * nI h) + nI c).toNatClampNeg) < (σ'.1 61 (((8 : Int32) * nI h) + nI i).toNatClampNeg) then T else (if nI η = (3 : Int32) then (Option.bind (fL_holds pc 27 gc 64 (nI i) σ') fun q13 => (Option.bind (fL_holds pc 27 gc 64 (nI c) σ') fun q14 => (if q14 ≤ q13 then S else T))) else S)))) else (if nI η = (3 : Int32) then (Option.bind (fL_holds pc 27 gc 64 (nI i) σ') fun q17 => (Option.bind (fL_holds pc 27 gc 64 (nI c) σ') fun q18 => (if q18 ≤ q17 then S else T))) else S))) = if y ≤ x then S else T := by
  rcases hx with ⟨rfl, rfl⟩ | ⟨rfl, rfl⟩ | ⟨rfl, rfl⟩ | ⟨rfl, k, hk, e, rfl⟩
  · obtain ⟨-, rfl⟩ := hy.resolve_right (by rintro (⟨q, -⟩ | ⟨q, -⟩ | ⟨q, -⟩) <;> omega)
    rw [if_neg (by decide), if_neg (by decide), if_neg (by decide), if_pos ((neg_le (by omega) (by omega)).mpr (by omega))]
  · obtain ⟨-, rfl⟩ := (hy.resolve_left (by rintro ⟨q, -⟩; omega)).resolve_right (by rintro (⟨q, -⟩ | ⟨q, -⟩) <;> omega)
    rw [if_pos (by decide), if_neg (nI_ge (a := c) (b := i) hci (by omega))]
  · obtain ⟨-, rfl⟩ := ((hy.resolve_left (by rintro ⟨q, -⟩; omega)).resolve_left (by rintro ⟨q, -⟩; omega)).resolve_right (by rintro ⟨q, -⟩; omega)
    rw [if_neg (by decide), if_pos (by decide), ix8, ix8, grd_t (inbN (show 8 * h + i < 64 by omega) (by decide)), grd_t (inbN (show 8 * h + c < 64 by omega) (by decide)), tcl (by omega), tcl (by omega)]
    by_cases q : σ'.1 61 (8 * h + i) ≤ σ'.1 61 (8 * h + c)
    · rw [if_pos q, if_neg (Int32.not_lt.mpr q), if_neg (by decide)]
    · rw [if_neg q, if_pos (Int32.not_le.mp q)]
  · obtain ⟨-, j, hj, f, rfl⟩ := ((hy.resolve_left (by rintro ⟨q, -⟩; omega)).resolve_left (by rintro ⟨q, -⟩; omega)).resolve_left (by rintro ⟨q, -⟩; omega)
    rw [if_neg (by decide), if_neg (by decide), if_pos (by decide), e, f]
    simp only [Option.bind_some]
    by_cases q : k ≤ j
    · rw [if_pos (nI_le (a := k) (b := j) q (by omega)), if_pos ((neg_le (by omega) (by omega)).mpr q)]
    · rw [if_neg (nI_ge (a := j) (b := k) (by omega) (by omega)), if_neg (fun z => q ((neg_le (by omega) (by omega)).mp z))]
theorem mbit0 : ∀ b, b < 256 → ∀ k, k < 8 → (((nI b >>> (nI k &&& 31)) &&& (1 : Int32) = 0) ↔ b.testBit k = false) := by decide +kernel
theorem chooseL {w pc oc gc B : Nat} {σ σ' : St} {P G : Nat} (hW : WL w pc oc gc B σ σ' P G) {h η b : Nat} (hh : h < P) (hη : η ≤ 3) (e : σ'.1 pc (1 + h) = nI η) (hb : b < 2 ^ P) : ∀ (d i n m : Nat) (v3 v4 : Int32), i + d = P → ((v3 = -1 ∧ ∀ j, j < i → b.testBit j = false) ∨ ∃ c, c < i ∧ b.testBit c = true ∧ v3 = nI c ∧ Mk pc gc σ' P G h η c v4) → d < n → d < m →
    ∃ r, fX7_chosenBy_L8 w (nI h) (nI b) σ n v3 v4 (nI i) = some r ∧ fL_habit_L6 pc 27 gc 64 61 64 (nI h) (nI b) σ' m v3 (nI i) = some r ∧ ((r = -1 ∧ ∀ j, j < P → b.testBit j = false) ∨ ∃ c, c < P ∧ b.testBit c = true ∧ r = nI c) := by
  obtain ⟨⟨hP, hG⟩, ⟨p0, p1⟩, ⟨g0, g1⟩, hwh, hwk, hwf, hwl, hwd, hwg, hv⟩ := id hW
  have hb8 := p2_256 hP hb
  intro d
  induction d with
  | zero =>
    intro i n m v3 v4 hi hs hn hm
    obtain ⟨n, rfl, -⟩ := su hn
    obtain ⟨m, rfl, -⟩ := su hm
    have e : i = P := by omega
    subst e
    rw [fX7_chosenBy_L8, fL_habit_L6, grd_t (show inb (0 : Int32) 27 = true from by decide), show (0 : Int32).toNatClampNeg = 0 from rfl, p0, p1, if_pos (nI_le (a := i) (b := i) (by omega) (by omega)), if_pos (nI_le (a := i) (b := i) (by omega) (by omega))]
    refine ⟨v3, rfl, rfl, ?_⟩
    rcases hs with hs | ⟨c, h1, h2, h3, -⟩
    · exact Or.inl hs
    · exact Or.inr ⟨c, h1, h2, h3⟩
  | succ d ih =>
    intro i n m v3 v4 hi hs hn hm
    obtain ⟨n, rfl, hn⟩ := su hn
    obtain ⟨m, rfl, hm⟩ := su hm
    rw [fX7_chosenBy_L8, fL_habit_L6, grd_t (show inb (0 : Int32) 27 = true from by decide), show (0 : Int32).toNatClampNeg = 0 from rfl, p0, p1, if_neg (nI_ge (a := i) (b := P) (by omega) (by omega)), if_neg (nI_ge (a := i) (b := P) (by omega) (by omega))]
    by_cases t : b.testBit i = true
    · rw [if_neg (fun q => by rw [(bt_and b hb8 i (by omega)).mp q] at t; cases t), if_neg (fun q => by rw [(mbit0 b hb8 i (by omega)).mp q] at t; cases t)]
      obtain ⟨y, ey, hy2⟩ := mark2 hW hh (show i < P by omega) hη e
      rw [ey, n1p, grd_t (inbN (show 1 + h < 27 by omega) (by decide)), tcl (by omega), e]
      simp only [Option.bind_some, bnd, nI_1]
      rcases hs with ⟨rfl, hs⟩ | ⟨c, h1, h2, rfl, h4⟩
      · rw [if_pos rfl, if_pos (by decide)]
        exact ih (i + 1) n m (nI i) y (by omega) (Or.inr ⟨i, by omega, t, rfl, hy2⟩) (by omega) (by omega)
      · rw [if_neg (nI_m1ne' (t := c) (by omega)), if_neg (nI_pos (n := c) (by omega))]
        rw [better2 (P := P) (x := v4) (y := y) hG hη (by omega) h1 (show i < 8 by omega) h4 hy2]
        by_cases q : y ≤ v4
        · rw [if_pos q, if_pos q]
          exact ih (i + 1) n m (nI c) v4 (by omega) (Or.inr ⟨c, by omega, h2, rfl, h4⟩) (by omega) (by omega)
        · rw [if_neg q, if_neg q]
          exact ih (i + 1) n m (nI i) y (by omega) (Or.inr ⟨i, by omega, t, rfl, hy2⟩) (by omega) (by omega)
    · rw [if_pos ((bt_and b hb8 i (by omega)).mpr (by simpa using t)), if_pos ((mbit0 b hb8 i (by omega)).mpr (by simpa using t)), nI_1]
      refine ih (i + 1) n m v3 v4 (by omega) ?_ (by omega) (by omega)
      rcases hs with ⟨h1, hs⟩ | ⟨c, h1, h2⟩
      · refine Or.inl ⟨h1, fun j hj => ?_⟩
        by_cases q : j = i
        · subst q; simpa using t
        · exact hs j (by omega)
      · exact Or.inr ⟨c, by omega, h2⟩
theorem bits0 {P b : Nat} (hb : b < 2 ^ P) (z : ∀ j, j < P → b.testBit j = false) : b = 0 := by
  apply Nat.eq_of_testBit_eq
  intro j
  rw [Nat.zero_testBit]
  by_cases q : j < P
  · exact z j q
  · exact Nat.testBit_lt_two_pow (Nat.lt_of_lt_of_le hb (Nat.pow_le_pow_right (by decide) (by omega)))
theorem chooseH {w pc oc gc B : Nat} {σ σ' : St} {P G : Nat} (hW : WL w pc oc gc B σ σ' P G) {h b : Nat} (hh : h < P) (hb : b < 2 ^ P) (hb0 : b ≠ 0) : ∃ c, c < P ∧ b.testBit c = true ∧ fX7_chosenBy w (nI h) (nI b) σ = some (nI c) ∧ fL_habit pc 27 gc 64 61 64 (nI h) (nI b) σ' = some (nI c) := by
  obtain ⟨⟨hP, hG⟩, ⟨p0, p1⟩, ⟨g0, g1⟩, hwh, hwk, hwf, hwl, hwd, hwg, v1, v2, v3⟩ := id hW
  obtain ⟨η, hη, e⟩ := v2 h (by omega)
  obtain ⟨r, e1, e2, e3⟩ := chooseL hW hh (show η ≤ 3 by omega) e hb P 0 fu fu (-1) (nI 0) (by omega) (Or.inl ⟨rfl, fun j hj => by omega⟩) (fu_gt (by omega)) (fu_gt (by omega))
  rcases e3 with ⟨-, z⟩ | ⟨c, h1, h2, rfl⟩
  · exact absurd (bits0 hb z) hb0
  · refine ⟨c, h1, h2, ?_, ?_⟩
    · unfold fX7_chosenBy
      rw [show (0 : Int32) = nI 0 from rfl, e1]; rfl
    · unfold fL_habit
      rw [show (0 : Int32) = nI 0 from rfl, e2]; rfl
