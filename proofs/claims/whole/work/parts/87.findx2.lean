theorem isThX {P : Nat} {Kn Lk : Nat → Nat} {σ : St} (c : DC P Kn Lk) (t : TX P Kn Lk 0 σ) : σ.1 54 0 = oI (rvl P Kn Lk P 0) ∧ fX1_isThere σ = some (if rvl P Kn Lk P 0 = none then (0 : Int32) else 1) := by
  have e : σ.1 54 0 = oI (rvl P Kn Lk P 0) := t 0 (Nat.le_refl 0) (Nat.pos_of_ne_zero (by simp))
  refine ⟨e, ?_⟩
  unfold fX1_isThere
  rw [grd_t (show inb (0 : Int32) 256 = true from inbN (k := 0) (by decide) (by decide)), show (0 : Int32).toNatClampNeg = 0 from rfl, e]
  have hb := (rvl_bd c (Nat.le_refl P) 0).mono (show 900 ≤ 1000 by decide)
  by_cases z : rvl P Kn Lk P 0 = none
  · rw [if_pos ((oI_m1 hb).mpr z), if_pos z]
  · rw [if_neg (fun y => z ((oI_m1 hb).mp y)), if_neg z]
theorem firstX {P : Nat} {Kn Lk : Nat → Nat} {σ : St} (c : DC P Kn Lk) (x : DX P Kn Lk σ) (t : TX P Kn Lk 0 σ) {p : Nat} (hp : p < P) : fX1_firstOfMost 4 (nI (gS P Kn Lk p)) σ = some (oI (gv P Kn Lk (gS P Kn Lk p) p)) := by
  have hP := c.1
  unfold fX1_firstOfMost gv
  rw [(isThX c t).2, obs]
  by_cases z : rvl P Kn Lk P 0 = none
  · rw [if_pos z, if_pos z, if_pos rfl]
    rfl
  · rw [if_neg z, if_neg z, if_neg (show ¬ (1 : Int32) = 0 by decide)]
    obtain ⟨h1, h2, h3⟩ := gS_ok hP z p (by omega)
    have f := gfX c x h1 (by omega) (fun T a b => t T (Nat.zero_le _) b)
    rw [h2] at f
    have e54 := t (gS P Kn Lk p) (Nat.zero_le _) h1
    rw [h2] at e54
    have l := firstL hP (p2_256 hP h1) x.1 f ((rvl_bd c (show P - p ≤ P by omega) (gS P Kn Lk p)).mono (by decide)) e54 P 0 fu (by omega) (fu_gt (by omega))
    rw [nI_0] at l
    rw [l, obs]
    cases leq (gf P Kn Lk p (gS P Kn Lk p)) (rvl P Kn Lk (P - p) (gS P Kn Lk p)) P 0 with
    | none => rfl
    | some q => rfl
/-- to whom everybody gives -/
def gg (P : Nat) (Kn Lk : Nat → Nat) (i : Nat) : Option Nat := if i < P then gv P Kn Lk (gS P Kn Lk i) i else none
def gT (P : Nat) (Kn Lk : Nat → Nat) (i : Nat) : Nat := gS P Kn Lk (min i P)
theorem gT_step {P : Nat} {Kn Lk : Nat → Nat} (i : Nat) : gT P Kn Lk (i + 1) = (match gg P Kn Lk i with
    | none => gT P Kn Lk i
    | some q => gT P Kn Lk i ||| 2 ^ q) := by
  unfold gT gg
  by_cases z : i < P
  · rw [if_pos z, Nat.min_eq_left (show i + 1 ≤ P by omega), Nat.min_eq_left (show i ≤ P by omega), gS]
    cases gv P Kn Lk (gS P Kn Lk i) i <;> rfl
  · rw [if_neg z, Nat.min_eq_right (show P ≤ i + 1 by omega), Nat.min_eq_right (show P ≤ i by omega)]
theorem gS_lt {P : Nat} {Kn Lk : Nat → Nat} (hP : P ≤ 8) : ∀ i, i ≤ P → gS P Kn Lk i < 2 ^ P := fun i hi => by
  by_cases z : rvl P Kn Lk P 0 = none
  · have : ∀ j, gS P Kn Lk j = 0 := fun j => by
      induction j with
      | zero => rfl
      | succ j ih =>
        have : gv P Kn Lk (gS P Kn Lk j) j = none := by
          unfold gv
          rw [if_pos z]
        rw [gS, this]
        exact ih
    rw [this]
    exact Nat.pos_of_ne_zero (by simp)
  · exact (gS_ok hP z i hi).1
theorem gg_lt {P : Nat} {Kn Lk : Nat → Nat} {i q : Nat} (h : gg P Kn Lk i = some q) : q < P := by
  unfold gg at h
  by_cases z : i < P
  · rw [if_pos z] at h
    unfold gv at h
    by_cases y : rvl P Kn Lk P 0 = none
    · rw [if_pos y] at h; cases h
    · rw [if_neg y] at h
      obtain ⟨-, a, -⟩ := leq_in h
      omega
  · rw [if_neg z] at h; cases h
theorem orbit {P : Nat} {Kn Lk : Nat → Nat} (hP : P ≤ 8) (i : Nat) : nI (gT P Kn Lk i) ||| fX8_bit (oI (gg P Kn Lk i)) = nI (gT P Kn Lk (i + 1)) := by
  rw [gT_step]
  cases h : gg P Kn Lk i with
  | none =>
    show nI (gT P Kn Lk i) ||| fX8_bit (-1) = _
    rw [show fX8_bit (-1) = 0 from by decide]
    simp
  | some q =>
    have hq := gg_lt h
    have := gS_lt (Kn := Kn) (Lk := Lk) hP (min i P) (Nat.min_le_right _ _)
    exact bt_or _ (p2_256 hP this) q (by omega)
theorem toXL {P : Nat} {Kn Lk : Nat → Nat} (c : DC P Kn Lk) : ∀ (d i n : Nat) (σ : St), i + d = 8 → d < n → DX P Kn Lk σ → TX P Kn Lk 0 σ → (∀ j, j < i → σ.1 55 j = oI (gg P Kn Lk j)) → ∃ τ, fX1_find_L47 4 n (nI (gT P Kn Lk i)) (nI i) σ = some τ ∧ TX P Kn Lk 0 τ ∧ (∀ j, j < 8 → τ.1 55 j = oI (gg P Kn Lk j)) := by
  have hP := c.1
  intro d
  induction d with
  | zero =>
    intro i n σ hi hn x t h
    obtain ⟨n, rfl, -⟩ := su hn
    have ei : i = 8 := by omega
    subst ei
    rw [fX1_find_L47, if_pos (show (8 : Int32) ≤ nI 8 by decide)]
    exact ⟨σ, rfl, t, h⟩
  | succ d ih =>
    intro i n σ hi hn x t h
    obtain ⟨n, rfl, hn⟩ := su hn
    have q : (if (σ.1 4 0) ≤ nI i then some (-1 : Int32) else (Option.bind (fX1_firstOfMost 4 (nI (gT P Kn Lk i)) σ) fun q18 => some q18)) = some (oI (gg P Kn Lk i)) := by
      rw [x.1]
      unfold gg gT
      by_cases z : i < P
      · rw [if_neg (nI_ge (a := i) (b := P) z (by omega)), if_pos z, Nat.min_eq_left (show i ≤ P by omega), firstX c x t z, obs]
      · rw [if_pos (nI_le (a := P) (b := i) (by omega) (by omega)), if_neg z]
        rfl
    rw [fX1_find_L47, if_neg (show ¬ (8 : Int32) ≤ nI i from nI_ge (a := i) (b := 8) (by omega) (by decide)), q, obs, grd_t (inbN (show i < 8 by omega) (by decide)), tcl (by omega), bnd_eq, grd_t (inbN (show i < 8 by omega) (by decide)), setI_s, bnd_eq, orbit hP, nI_1]
    exact ih (i + 1) n (setI σ 55 i (oI (gg P Kn Lk i))) (by omega) (by omega) ⟨x.1, x.2.1, x.2.2⟩ t (fun j hj => by
      rw [setI_1]
      by_cases z : j = i
      · rw [if_pos ⟨rfl, z⟩, z]
      · rw [if_neg (fun y => z y.2)]
        exact h j (by omega))
theorem pred2 {P : Nat} (hP : P ≤ 8) : ((1 : Int32) <<< (nI P &&& 31)) - 1 = nI (2 ^ P - 1) := by
  rw [sh_P P hP]
  have : 2 ^ P = (2 ^ P - 1) + 1 := by
    have : 0 < 2 ^ P := Nat.pos_of_ne_zero (by simp)
    omega
  rw [this, nI_pred, Nat.add_sub_cancel]
theorem findX {P : Nat} {Kn Lk : Nat → Nat} {σ : St} (c : DC P Kn Lk) (x : DX P Kn Lk σ) : ∃ τ, fX1_find 4 σ = some τ ∧ TX P Kn Lk 0 τ ∧ (∀ j, j < 8 → τ.1 55 j = oI (gg P Kn Lk j)) := by
  have hP := c.1
  have h0 : 0 < 2 ^ P := Nat.pos_of_ne_zero (by simp)
  have h256 := p2_256 hP (show 2 ^ P - 1 < 2 ^ P by omega)
  unfold fX1_find
  rw [x.1, pred2 hP, bnd_eq, grd_t (inbN h256 (by decide)), tcl (by omega), bnd_eq]
  obtain ⟨q, e1, e2, e3⟩ := findXL c (2 ^ P - 1) fu (setI σ 54 (2 ^ P - 1) 0) (fu_gt (by omega)) (Nat.le_refl _) ⟨x.1, x.2.1, x.2.2⟩ (fun T a b => by
    have : T = 2 ^ P - 1 := by omega
    rw [this, setI_s, pcs_full P hP, Nat.sub_self, rvl, if_pos rfl]
    rfl)
  rw [e1, obs]
  have q4 : q.1 4 0 = nI P := by rw [e2 _ _ (by decide)]; exact x.1
  obtain ⟨τ, f1, f2, f3⟩ := toXL c 8 0 fu q (by omega) (fu_gt (by omega)) ⟨q4, fun h hh => by rw [e2 _ _ (by decide)]; exact x.2.1 h hh, fun j hj => by rw [e2 _ _ (by decide)]; exact x.2.2 j hj⟩ e3 (fun j hj => absurd hj (Nat.not_lt_zero j))
  have g0 : nI (gT P Kn Lk 0) = (0 : Int32) := by
    unfold gT
    rw [Nat.min_eq_left (Nat.zero_le P)]
    rfl
  rw [g0, nI_0] at f1
  rw [f1, obs]
  exact ⟨τ, rfl, f2, f3⟩
