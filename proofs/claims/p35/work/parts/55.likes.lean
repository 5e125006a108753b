theorem mod_ne {P a j : Nat} (ha : a < P) (hj : j < P - 1) : (a + 1 + j) % P ≠ a := by
  by_cases h : a + 1 + j < P
  · rw [Nat.mod_eq_of_lt h]; omega
  · rw [Nat.mod_eq_sub_mod (by omega), Nat.mod_eq_of_lt (by omega)]; omega
theorem likesL {P : Nat} (h2 : 2 ≤ P) : ∀ (d i n : Nat) (σ : St), i + d = 8 → d < n → WL 4 60 62 63 1 σ σ P 0 → Rs σ → Z63 σ 0 → ∃ τ, fL_people_L195 (1 : Int32) 60 27 61 64 n (nI i) σ = some (.inr τ) ∧ WL 4 60 62 63 1 τ τ P 0 ∧ Rs τ ∧ Z63 τ 0 := by
  intro d
  induction d with
  | zero =>
    intro i n σ hi hn hW hR hZ
    obtain ⟨n, rfl, -⟩ := su hn
    have e : i = 8 := by omega
    subst e
    rw [fL_people_L195, if_pos (show (8 : Int32) ≤ nI 8 by decide)]
    exact ⟨σ, rfl, hW, hR, hZ⟩
  | succ d ih =>
    intro i n σ hi hn hW hR hZ
    obtain ⟨⟨hP, hG⟩, ⟨p0, p1⟩, ⟨g0, g1⟩, hwh, hwk, hwf, hwl, hwd, hwg, v1, v2, v4⟩ := id hW
    obtain ⟨n, rfl, hn⟩ := su hn
    rw [fL_people_L195, if_neg (show ¬ (8 : Int32) ≤ nI i from nI_ge (a := i) (b := 8) (by omega) (by decide)), m4 (by omega), show ((1 : Int32) + (5 : Int32)) = nI 6 from rfl, nI_add]
    obtain ⟨q, eq⟩ := cell_c hR.2.2 (k := 6 + i % 4) (by omega)
    rw [eq]
    simp only [obs, bnd_eq]
    generalize q >>> (((12 : Int32) * (nI i / (4 : Int32))) &&& 31) = x
    obtain ⟨a, ha, ea⟩ := at_c x (n := P) (by omega) (by omega)
    obtain ⟨j, hj, ej⟩ := at_c (x >>> ((3 : Int32) &&& 31)) (n := P - 1) (by omega) (by omega)
    obtain ⟨v, hv, ev⟩ := at_c (x >>> ((6 : Int32) &&& 31)) (n := 10) (by decide) (by decide)
    have eP : nI P - (1 : Int32) = nI (P - 1) := by
      obtain ⟨p, rfl⟩ : ∃ p, P = p + 1 := ⟨P - 1, by omega⟩
      rw [nI_p1]; rfl
    have e2 : decide (¬ nI P = 0) = true := decide_eq_true (fun q => by have := (nI_inj (a := P) (b := 0) (by omega) (by decide)).mp q; omega)
    have hb : (a + 1 + j) % P < P := Nat.mod_lt _ (by omega)
    have hab := mod_ne ha hj
    rw [show (0 : Int32).toNatClampNeg = 0 from rfl, p1, eP, ea, ej, show (10 : Int32) = nI 10 from rfl, ev]
    simp only [obs, bnd_eq, grd_t (show inb (0 : Int32) 27 = true from by decide), grd_t e2, nk1, nI_add]
    rw [vI_mod (by omega) (by omega)]
    generalize (a + 1 + j) % P = b at hb hab ⊢
    rw [x_like p0 hP ha hb (Ne.symm hab) hv]
    simp only [obs]
    rw [ix8, grd_t (inbN (show 8 * a + b < 64 by omega) (by decide)), tcl (by omega), if_pos (by rw [setI_oo (by omega)]; exact hwl _ (by omega)), grd_t (inbN (show 8 * a + b < 64 by omega) (by decide))]
    refine ih (i + 1) n _ (by omega) (by omega) ?_ (hR.cong (fun b => by simp (disch := omega) only [setI_oo]) (fun b => by simp (disch := omega) only [setI_oo]) (by simp (disch := omega) only [setI_oo]) (by simp (disch := omega) only [setI_oo]) (by simp (disch := omega) only [setI_oo])) (fun j h1 h2 => by simp (disch := omega) only [setI_oo]; exact hZ j h1 h2)
    refine ⟨⟨hP, hG⟩, ⟨?_, ?_⟩, ⟨?_, ?_⟩, fun j hj => ?_, fun j hj => ?_, fun j hj => ?_, fun j hj => ?_, fun j hj => ?_, fun g hg k hk => ?_, fun j hj => ?_, fun j hj => ?_, fun g hg => absurd hg (Nat.not_lt_zero g)⟩
    · simp (disch := omega) only [setI_oo]; exact p0
    · simp (disch := omega) only [setI_oo]; exact p1
    · simp (disch := omega) only [setI_oo]; exact g0
    · simp (disch := omega) only [setI_oo]; exact g1
    · simp (disch := omega) only [setI_oo]; exact hwh j hj
    · simp (disch := omega) only [setI_oo]; exact hwk j hj
    · simp (disch := omega) only [setI_oo]; exact hwf j hj
    · show (setI (setI σ 8 _ _) 61 _ _).1 8 j = _
      by_cases z : j = 8 * a + b
      · subst z; simp (disch := omega) only [setI_s, setI_oo]
      · simp (disch := omega) only [setI_oo]; exact hwl j hj
    · simp (disch := omega) only [setI_oo]; exact hwd j hj
    · simp (disch := omega) only [setI_oo]; exact hwg g hg k hk
    · simp (disch := omega) only [setI_oo]; exact v1 j hj
    · simp (disch := omega) only [setI_oo]; exact v2 j hj
/-- nothing there yet -/
def Fresh (σ : St) : Prop := ∀ a b, ((4 ≤ a ∧ a ≤ 18) ∨ (60 ≤ a ∧ a ≤ 63)) → σ.1 a b = 0
theorem peopleT {σ : St} (hF : Fresh σ) (hR : Rs σ) : ∃ P τ, 2 ≤ P ∧ fL_people (1 : Int32) (8 : Int32) 60 27 61 64 σ = some (1, τ) ∧ WL 4 60 62 63 1 τ τ P 0 ∧ Rs τ ∧ Z63 τ 0 := by
  obtain ⟨q, eq⟩ := cell_c hR.2.2 (k := 1) (by decide)
  obtain ⟨j, hj, ej⟩ := at_c q (n := 7) (by decide) (by decide)
  have hW0 : W0 0 (2 + j) (setI σ 60 0 (nI (2 + j))) := by
    refine ⟨⟨by omega, by omega, by omega⟩, ?_, setI_s, ?_, ?_, fun i hi => ⟨?_, ?_⟩, fun i hi => ⟨?_, ?_⟩, fun i hi => ⟨?_, ?_⟩, fun i hi => ⟨?_, ?_⟩, fun i hi => ⟨?_, ?_⟩, fun g hg k hk => ?_, fun i hi => ?_⟩
    · rw [setI_oo (by omega)]; exact hF 4 0 (by omega)
    · rw [setI_oo (by omega)]; exact hF 4 6 (by omega)
    · rw [setI_oo (by omega)]; exact hF 60 25 (by omega)
    · rw [setI_oo (by omega), setI_oo (by omega), hF 5 i (by omega), hF 60 _ (by omega)]
    · rw [setI_oo (by omega), hF 60 _ (by omega)]; exact ⟨0, by decide, rfl⟩
    all_goals first | (rw [setI_oo (by omega)]; exact hF _ _ (by omega))
  have hR0 : Rs (setI σ 60 0 (nI (2 + j))) := hR.cong (fun b => by rw [setI_oo (by omega)]) (fun b => by rw [setI_oo (by omega)]) (by rw [setI_oo (by omega)]) (by rw [setI_oo (by omega)]) (by rw [setI_oo (by omega)])
  obtain ⟨τ1, e1, e2, e3⟩ := addL (1 : Int32) q (2 + j) 0 fu _ (by omega) (fu_gt (by omega)) hW0 hR0
  obtain ⟨f1, f2, f3⟩ := e2.full
  obtain ⟨τ2, g1, g2, g3, g4⟩ := knowsL (2 + j) 0 fu τ1 (by omega) (fu_gt (by omega)) f1 e3 f2 f3
  obtain ⟨τ3, k1, k2, k3, k4⟩ := likesL (show 2 ≤ 2 + j by omega) 8 0 fu τ2 (by omega) (fu_gt (by omega)) g2 g3 g4
  refine ⟨2 + j, τ3, by omega, ?_, k2, k3, k4⟩
  unfold fL_people
  rw [show (1 : Int32) = nI 1 from rfl, eq]
  simp only [obs, bnd_eq]
  rw [show (8 : Int32) - nI 1 = nI 7 from rfl, ej]
  simp only [obs, bnd_eq]
  rw [grd_t (show inb (0 : Int32) 27 = true from by decide), show (0 : Int32).toNatClampNeg = 0 from rfl, show (2 : Int32) = nI 2 from rfl, nI_add, show (0 : Int32) = nI 0 from rfl, show fL_people_L24 (nI 1) 60 27 61 64 q fu (nI 0) (setI σ 60 0 (nI (2 + j))) = _ from e1]
  simp only [obs, Sum.elim_inr]
  rw [show fL_people_L80 (nI 1) 60 27 61 64 fu (nI 0) τ1 = _ from g1]
  simp only [obs, Sum.elim_inr]
  rw [show fL_people_L195 (nI 1) 60 27 61 64 fu (nI 0) τ2 = _ from k1]
  rfl
