theorem nI_m1ne' {t : Nat} (h : t < 100) : ¬ nI t = (-1 : Int32) := fun z => by
  have := congrArg Int32.toInt z
  rw [nI_toInt (by omega)] at this
  have e : (-1 : Int32).toInt = -1 := rfl
  omega
theorem neg_toInt {a : Nat} (ha : a < 2 ^ 30) : (-nI a).toInt = -(a : Int) := by
  have h := pk_sub_toInt (a := 0) (b := a) (by decide) ha
  rw [show nI 0 - nI a = -nI a from by rw [show nI 0 = (0 : Int32) from rfl]; simp] at h
  rw [h]; omega
theorem neg_le {a b : Nat} (ha : a < 2 ^ 30) (hb : b < 2 ^ 30) : (-nI a ≤ -nI b) ↔ b ≤ a := by
  rw [Int32.le_iff_toInt_le, neg_toInt ha, neg_toInt hb]
  omega
/-- which mark habit η of holder h gives PERSON c -/
def Mk (σ' : St) (P G h η c : Nat) (x : Int32) : Prop := (η = 0 ∧ x = -nI c) ∨ (η = 1 ∧ x = nI c) ∨ (η = 2 ∧ x = σ'.1 62 (8 * h + c)) ∨ (η = 3 ∧ ∃ k, k ≤ G ∧ fX9_holds (nI c) σ' = some (nI k) ∧ x = -nI k)
theorem mark2 {w : Nat} {σ σ' : St} {P G : Nat} (hW : WR w σ σ' P G) {h η c : Nat} (hh : h < P) (hc : c < P) (hη : η ≤ 3) (e : σ'.1 60 h = nI η) : ∃ x, fX7_markOf w (nI h) (nI c) σ = some x ∧ Mk σ' P G h η c x := by
  obtain ⟨⟨hP, hG⟩, ⟨p0, p1⟩, ⟨g0, g1⟩, hy, hwh, hwk, hwf, hwl, hwd, hwg, hv⟩ := id hW
  unfold fX7_markOf Mk
  rw [grd_t (inbN (show h < 8 by omega) (by decide)), tcl (by omega), (hwh h (by omega)).trans e]
  rcases (show η = 0 ∨ η = 1 ∨ η = 2 ∨ η = 3 by omega) with rfl | rfl | rfl | rfl
  · exact ⟨_, rfl, Or.inl ⟨rfl, rfl⟩⟩
  · exact ⟨_, rfl, Or.inr (Or.inl ⟨rfl, rfl⟩)⟩
  · rw [if_neg (by decide), if_neg (by decide), if_pos (by decide), pairN, grd_t (inbN (show 8 * h + c < 64 by omega) (by decide)), tcl (by omega)]
    exact ⟨_, rfl, Or.inr (Or.inr (Or.inl ⟨rfl, hwl (8 * h + c) (by omega)⟩))⟩
  · rw [if_neg (by decide), if_neg (by decide), if_neg (by decide)]
    obtain ⟨r, hr, e1, e2⟩ := held2 hW (nI c)
    rw [e1]
    exact ⟨_, rfl, Or.inr (Or.inr (Or.inr ⟨rfl, r, hr, e2, rfl⟩))⟩
/-- whether the reference finds i better than c -/
noncomputable def better (σ' : St) (h η i c : Nat) : Option Int32 :=
  if η = 1 then some 1 else if η = 2 then (if σ'.1 62 (8 * h + i) ≤ σ'.1 62 (8 * h + c) then some 0 else some 1) else if η = 3 then Option.bind (fX9_holds (nI i) σ') fun q15 => Option.bind (fX9_holds (nI c) σ') fun q16 => (if q16 ≤ q15 then some 0 else some 1) else some 0
theorem better2 {σ' : St} {P G h η i c : Nat} {x y : Int32} (hG : G ≤ 8) (hη : η ≤ 3) (hci : c < i) (hi : i < 8) (hx : Mk σ' P G h η c x) (hy : Mk σ' P G h η i y) : better σ' h η i c = some (if y ≤ x then 0 else 1) := by
  unfold better
  rcases hx with ⟨rfl, rfl⟩ | ⟨rfl, rfl⟩ | ⟨rfl, rfl⟩ | ⟨rfl, k, hk, e, rfl⟩
  · obtain ⟨-, rfl⟩ := hy.resolve_right (by rintro (⟨q, -⟩ | ⟨q, -⟩ | ⟨q, -⟩) <;> omega)
    rw [if_neg (by omega), if_neg (by omega), if_neg (by omega), if_pos ((neg_le (by omega) (by omega)).mpr (by omega))]
  · obtain ⟨-, rfl⟩ := (hy.resolve_left (by rintro ⟨q, -⟩; omega)).resolve_right (by rintro (⟨q, -⟩ | ⟨q, -⟩) <;> omega)
    rw [if_pos rfl, if_neg (nI_ge (a := c) (b := i) hci (by omega))]
  · obtain ⟨-, rfl⟩ := ((hy.resolve_left (by rintro ⟨q, -⟩; omega)).resolve_left (by rintro ⟨q, -⟩; omega)).resolve_right (by rintro ⟨q, -⟩; omega)
    rw [if_neg (by omega), if_pos rfl]
    split <;> rfl
  · obtain ⟨-, j, hj, f, rfl⟩ := ((hy.resolve_left (by rintro ⟨q, -⟩; omega)).resolve_left (by rintro ⟨q, -⟩; omega)).resolve_left (by rintro ⟨q, -⟩; omega)
    rw [if_neg (by omega), if_neg (by omega), if_pos rfl, e, f]
    simp only [Option.bind_some]
    by_cases q : k ≤ j
    · rw [if_pos (nI_le (a := k) (b := j) q (by omega)), if_pos ((neg_le (by omega) (by omega)).mpr q)]
    · rw [if_neg (nI_ge (a := j) (b := k) (by omega) (by omega)), if_neg (fun z => q ((neg_le (by omega) (by omega)).mp z))]
theorem chooseL {w : Nat} {σ σ' : St} {P G : Nat} (hW : WR w σ σ' P G) {h η b : Nat} (hh : h < P) (hη : η ≤ 3) (e : σ'.1 60 h = nI η) (hb : b < 2 ^ P) : ∀ (d i n m : Nat) (v3 v4 : Int32), i + d = P → ((v3 = -1 ∧ ∀ j, j < i → b.testBit j = false) ∨ ∃ c, c < i ∧ b.testBit c = true ∧ v3 = nI c ∧ Mk σ' P G h η c v4) → d < n → d < m →
    ∃ r, fX7_chosenBy_L8 w (nI h) (nI b) σ n v3 v4 (nI i) = some r ∧ fX9_byHabit_L13 (nI h) (nI b) (nI η) σ' m v3 (nI i) = some r ∧ ((r = -1 ∧ ∀ j, j < P → b.testBit j = false) ∨ ∃ c, c < P ∧ b.testBit c = true ∧ r = nI c) := by
  obtain ⟨⟨hP, hG⟩, ⟨p0, p1⟩, ⟨g0, g1⟩, hy, hwh, hwk, hwf, hwl, hwd, hwg, hv⟩ := id hW
  have hb8 := p2_256 hP hb
  intro d
  induction d with
  | zero =>
    intro i n m v3 v4 hi hs hn hm
    obtain ⟨n, rfl, -⟩ := su hn
    obtain ⟨m, rfl, -⟩ := su hm
    have e : i = P := by omega
    subst e
    rw [fX7_chosenBy_L8, fX9_byHabit_L13, p0, p1, if_pos (nI_le (a := i) (b := i) (by omega) (by omega)), if_pos (nI_le (a := i) (b := i) (by omega) (by omega))]
    refine ⟨v3, rfl, rfl, ?_⟩
    rcases hs with hs | ⟨c, h1, h2, h3, -⟩
    · exact Or.inl hs
    · exact Or.inr ⟨c, h1, h2, h3⟩
  | succ d ih =>
    intro i n m v3 v4 hi hs hn hm
    obtain ⟨n, rfl, hn⟩ := su hn
    obtain ⟨m, rfl, hm⟩ := su hm
    rw [fX7_chosenBy_L8, fX9_byHabit_L13, p0, p1, if_neg (nI_ge (a := i) (b := P) (by omega) (by omega)), if_neg (nI_ge (a := i) (b := P) (by omega) (by omega))]
    by_cases t : b.testBit i = true
    · rw [if_neg (fun q => by rw [(bt_and b hb8 i (by omega)).mp q] at t; cases t), if_pos ((mbit b hb8 i (by omega)).mpr t)]
      obtain ⟨y, ey, hy2⟩ := mark2 hW hh (show i < P by omega) hη e
      rw [ey]
      simp only [Option.bind_some, bnd, nI_1]
      rcases hs with ⟨rfl, hs⟩ | ⟨c, h1, h2, rfl, h4⟩
      · rw [if_pos rfl, if_pos rfl]
        simp only [n10, if_false, Option.bind_some]
        exact ih (i + 1) n m (nI i) y (by omega) (Or.inr ⟨i, by omega, t, rfl, hy2⟩) (by omega) (by omega)
      · have hne : ¬ nI c = (-1 : Int32) := nI_m1ne' (by omega)
        rw [if_neg hne, if_neg hne]
        have hbt := better2 (P := P) (x := v4) (y := y) hG hη h1 (show i < 8 by omega) h4 hy2
        have em : (Option.bind (if (if nI η = (1 : Int32) then (1 : Int32) else (0 : Int32)) = 0 then (if nI η = (2 : Int32) then (grd (inb (((8 : Int32) * nI h) + nI i) 64) (grd (inb (((8 : Int32) * nI h) + nI c) 64) (if (σ'.1 62 (((8 : Int32) * nI h) + nI i).toNatClampNeg) ≤ (σ'.1 62 (((8 : Int32) * nI h) + nI c).toNatClampNeg) then some (0 : Int32) else some (1 : Int32)))) else some (0 : Int32)) else some (1 : Int32)) fun q8 => (if q8 = 0 then (if nI η = (3 : Int32) then (Option.bind (fX9_holds (nI i) σ') fun q15 => (Option.bind (fX9_holds (nI c) σ') fun q16 => (if q16 ≤ q15 then some (0 : Int32) else some (1 : Int32)))) else some (0 : Int32)) else some (1 : Int32))) = some (if y ≤ v4 then 0 else 1) := by
          rw [← hbt]
          unfold better
          rw [ix8, ix8, grd_t (inbN (show 8 * h + i < 64 by omega) (by decide)), grd_t (inbN (show 8 * h + c < 64 by omega) (by decide)), tcl (by omega), tcl (by omega)]
          rcases (show η = 0 ∨ η = 1 ∨ η = 2 ∨ η = 3 by omega) with rfl | rfl | rfl | rfl
          · rfl
          · rfl
          · simp only [show (nI 2 = (1 : Int32)) = False from by decide, show (nI 2 = (2 : Int32)) = True from by decide, show (nI 2 = (3 : Int32)) = False from by decide, show ((2 : Nat) = 1) = False from by decide, if_true, if_false]
            by_cases q : σ'.1 62 (8 * h + i) ≤ σ'.1 62 (8 * h + c)
            · simp only [q, if_true, Option.bind_some]
            · simp only [q, if_false, Option.bind_some, n10]
          · rfl
        have em2 : ∀ C : Int32 → Option Int32, Option.bind (if (if nI η = (1 : Int32) then (1 : Int32) else (0 : Int32)) = 0 then (if nI η = (2 : Int32) then (grd (inb (((8 : Int32) * nI h) + nI i) 64) (grd (inb (((8 : Int32) * nI h) + nI c) 64) (if (σ'.1 62 (((8 : Int32) * nI h) + nI i).toNatClampNeg) ≤ (σ'.1 62 (((8 : Int32) * nI h) + nI c).toNatClampNeg) then some (0 : Int32) else some (1 : Int32)))) else some (0 : Int32)) else some (1 : Int32)) (fun q8 => Option.bind (if q8 = 0 then (if nI η = (3 : Int32) then (Option.bind (fX9_holds (nI i) σ') fun q15 => (Option.bind (fX9_holds (nI c) σ') fun q16 => (if q16 ≤ q15 then some (0 : Int32) else some (1 : Int32)))) else some (0 : Int32)) else some (1 : Int32)) C) = C (if y ≤ v4 then 0 else 1) := fun C => by
          rw [← Option.bind_assoc, em]; rfl
        rw [em2]
        by_cases q : y ≤ v4
        · rw [if_pos q, if_pos q, if_pos rfl]
          exact ih (i + 1) n m (nI c) v4 (by omega) (Or.inr ⟨c, by omega, h2, rfl, h4⟩) (by omega) (by omega)
        · rw [if_neg q, if_neg q, if_neg (by decide)]
          exact ih (i + 1) n m (nI i) y (by omega) (Or.inr ⟨i, by omega, t, rfl, hy2⟩) (by omega) (by omega)
    · rw [if_pos ((bt_and b hb8 i (by omega)).mpr (by simpa using t)), if_neg (fun q => t ((mbit b hb8 i (by omega)).mp q)), nI_1]
      refine ih (i + 1) n m v3 v4 (by omega) ?_ (by omega) (by omega)
      rcases hs with ⟨h1, hs⟩ | ⟨c, h1, h2⟩
      · refine Or.inl ⟨h1, fun j hj => ?_⟩
        by_cases q : j = i
        · subst q; simpa using t
        · exact hs j (by omega)
      · exact Or.inr ⟨c, by omega, h2⟩
theorem choose2 {w : Nat} {σ σ' : St} {P G : Nat} (hW : WR w σ σ' P G) {h b : Nat} (hh : h < P) (hb : b < 2 ^ P) (hb0 : b ≠ 0) : ∃ c, c < P ∧ b.testBit c = true ∧ fX7_chosenBy w (nI h) (nI b) σ = some (nI c) ∧ fX9_byHabit (nI h) (nI b) σ' = some (nI c) := by
  obtain ⟨⟨hP, hG⟩, ⟨p0, p1⟩, ⟨g0, g1⟩, hy, hwh, hwk, hwf, hwl, hwd, hwg, v1, v2, v3⟩ := id hW
  obtain ⟨η, hη, e⟩ := v2 h (by omega)
  obtain ⟨r, e1, e2, e3⟩ := chooseL hW hh (show η ≤ 3 by omega) e hb P 0 fu fu (-1) (nI 0) (by omega) (Or.inl ⟨rfl, fun j hj => by omega⟩) (fu_gt (by omega)) (fu_gt (by omega))
  rcases e3 with ⟨-, z⟩ | ⟨c, h1, h2, rfl⟩
  · exfalso
    apply hb0
    apply Nat.eq_of_testBit_eq
    intro j
    rw [Nat.zero_testBit]
    by_cases q : j < P
    · exact z j q
    · exact Nat.testBit_lt_two_pow (Nat.lt_of_lt_of_le hb (Nat.pow_le_pow_right (by decide) (by omega)))
  · refine ⟨c, h1, h2, ?_, ?_⟩
    · unfold fX7_chosenBy
      rw [show (0 : Int32) = nI 0 from rfl, e1]; rfl
    · unfold fX9_byHabit
      rw [grd_t (inbN (show h < 8 by omega) (by decide)), tcl (by omega), e]
      simp only [bnd]
      rw [show (0 : Int32) = nI 0 from rfl, e2]; rfl
