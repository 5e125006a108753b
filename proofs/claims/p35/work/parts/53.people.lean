/-! PEOPLE -/
def Rs (σ : St) : Prop := LL σ σ ∧ σ.1 4 8 = σ.1 60 26 ∧ Scr σ
theorem Rs.cong {σ τ : St} (h : Rs σ) (h3 : ∀ b, τ.1 3 b = σ.1 3 b) (h58 : ∀ b, τ.1 58 b = σ.1 58 b) (h4 : τ.1 4 8 = σ.1 4 8) (h60 : τ.1 60 26 = σ.1 60 26) (h69 : τ.1 69 0 = σ.1 69 0) : Rs τ := by
  obtain ⟨a, b, L, c, d⟩ := h
  exact ⟨a.cong h3 h58, by rw [h4, h60]; exact b, L, c, h69.trans d⟩
/-- i of the P people are there, and nothing else -/
def W0 (i P : Nat) (σ : St) : Prop := (2 ≤ P ∧ P ≤ 8 ∧ i ≤ P) ∧ σ.1 4 0 = nI i ∧ σ.1 60 0 = nI P ∧ σ.1 4 6 = 0 ∧ σ.1 60 25 = 0 ∧ (∀ j, j < 8 → σ.1 5 j = σ.1 60 (1 + j) ∧ isN (σ.1 60 (1 + j)) 4) ∧ (∀ j, j < 8 → σ.1 6 j = 0 ∧ σ.1 60 (9 + j) = 0) ∧ (∀ j, j < 8 → σ.1 7 j = 0 ∧ σ.1 60 (17 + j) = 0) ∧ (∀ j, j < 64 → σ.1 8 j = 0 ∧ σ.1 61 j = 0) ∧ (∀ j, j < 64 → σ.1 9 j = 0 ∧ σ.1 62 j = 0) ∧ (∀ g, g < 8 → ∀ k, k < 8 → σ.1 (11 + g) k = 0) ∧ (∀ j, j < 64 → σ.1 63 j = 0)
theorem addL {P : Nat} (c2 q1 : Int32) : ∀ (d i n : Nat) (σ : St), i + d = P → d < n → W0 i P σ → Rs σ → ∃ τ, fL_people_L24 c2 60 27 61 64 q1 n (nI i) σ = some (.inr τ) ∧ W0 P P τ ∧ Rs τ := by
  intro d
  induction d with
  | zero =>
    intro i n σ hi hn hW hR
    obtain ⟨⟨hP2, hP, -⟩, p0, p1, -⟩ := id hW
    obtain ⟨n, rfl, -⟩ := su hn
    have e : i = P := by omega
    subst e
    rw [fL_people_L24, grd_t (show inb (0 : Int32) 27 = true from by decide), show (0 : Int32).toNatClampNeg = 0 from rfl, p1, if_pos (nI_le (a := i) (b := i) (by omega) (by omega))]
    exact ⟨σ, rfl, hW, hR⟩
  | succ d ih =>
    intro i n σ hi hn hW hR
    obtain ⟨⟨hP2, hP, hiP⟩, p0, p1, g0, g1, w1, w2, w3, w4, w5, w6, w7⟩ := id hW
    obtain ⟨n, rfl, hn⟩ := su hn
    rw [fL_people_L24, grd_t (show inb (0 : Int32) 27 = true from by decide), show (0 : Int32).toNatClampNeg = 0 from rfl, p1, if_neg (nI_ge (a := i) (b := P) (by omega) (by omega))]
    obtain ⟨h, hh, eh⟩ := at_c (q1 >>> (((3 : Int32) + ((2 : Int32) * nI i)) &&& 31)) (n := 4) (by decide) (by decide)
    rw [show (4 : Int32) = nI 4 from rfl, eh]
    simp (disch := omega) only [Option.bind_some, n1p, grd_t (inbN (show 1 + i < 27 by omega) (by decide)), tcl, bnd, setI_s]
    rw [x_person1 (σ := setI σ 60 (1 + i) (nI h)) (i := i) (by rw [setI_oo (by omega)]; exact p0) (by omega) hh]
    simp only [Option.bind_some, if_true, nI_1]
    refine ih (i + 1) n _ (by omega) (by omega) ?_ (hR.cong (fun b => by simp (disch := omega) only [setI_oo]) (fun b => by simp (disch := omega) only [setI_oo]) (by simp (disch := omega) only [setI_oo]) (by simp (disch := omega) only [setI_oo]) (by simp (disch := omega) only [setI_oo]))
    refine ⟨⟨hP2, hP, by omega⟩, by rw [setI_s], by simp (disch := omega) only [setI_oo]; exact p1, by simp (disch := omega) only [setI_oo]; exact g0, by simp (disch := omega) only [setI_oo]; exact g1, fun j hj => ?_, fun j hj => ?_, fun j hj => ?_, fun j hj => ?_, fun j hj => ?_, fun g hg k hk => ?_, fun j hj => ?_⟩
    · by_cases z : j = i
      · subst z
        simp (disch := omega) only [setI_s, setI_oo]
        exact ⟨trivial, h, hh, rfl⟩
      · simp (disch := omega) only [setI_oo]
        exact w1 j hj
    · simp (disch := omega) only [setI_oo]; exact w2 j hj
    · simp (disch := omega) only [setI_oo]; exact w3 j hj
    · simp (disch := omega) only [setI_oo]; exact w4 j hj
    · simp (disch := omega) only [setI_oo]; exact w5 j hj
    · simp (disch := omega) only [setI_oo]; exact w6 g hg k hk
    · simp (disch := omega) only [setI_oo]; exact w7 j hj
/-- the pairs ahead: whom nobody has been made to know yet -/
def Kn (σ : St) (P a b : Nat) : Prop := ∀ x y, y < x → x < P → (a < x ∨ (a = x ∧ b ≤ y)) → ∃ m, σ.1 60 (9 + x) = nI m ∧ m < 2 ^ P ∧ m.testBit y = false
def Z63 (σ : St) (G : Nat) : Prop := ∀ j, 8 * G ≤ j → j < 64 → σ.1 63 j = 0
theorem W0.full {P : Nat} {σ : St} (h : W0 P P σ) : WL 4 60 62 63 1 σ σ P 0 ∧ Kn σ P 0 0 ∧ Z63 σ 0 := by
  obtain ⟨⟨hP2, hP, hiP⟩, p0, p1, g0, g1, w1, w2, w3, w4, w5, w6, w7⟩ := h
  refine ⟨⟨⟨hP, by omega⟩, ⟨p0, p1⟩, ⟨g0, g1⟩, fun i hi => (w1 i hi).1, fun i hi => by rw [(w2 i hi).2]; exact (w2 i hi).1, fun i hi => by rw [(w3 i hi).2]; exact (w3 i hi).1, fun i hi => by rw [(w4 i hi).2]; exact (w4 i hi).1, fun i hi => by rw [(w5 i hi).2]; exact (w5 i hi).1, fun g hg k hk => ?_, fun i hi => ⟨0, Nat.two_pow_pos P, (w2 i hi).2⟩, fun i hi => (w1 i hi).2, fun g hg => absurd hg (Nat.not_lt_zero g)⟩, fun x y hy hx _ => ⟨0, (w2 x (by omega)).2, Nat.two_pow_pos P, Nat.zero_testBit y⟩, fun j _ hj => w7 j hj⟩
  have := pm_lt hk
  rw [w7 _ (by omega)]
  exact w6 g hg k hk
