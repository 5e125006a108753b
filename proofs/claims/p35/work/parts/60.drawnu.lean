/-- one call of drawn, beside the law's own run from σ' to σf -/
theorem drawnR {B P G Y s : Nat} {σ S σ' σf : St} {g : Int32} {c10 c20 w : Int32} (hW : WL 4 60 62 63 B σ σ P G) (hB : B + 16 * Y ≤ 2 ^ 29) (h1 : 1 ≤ Y) (hY : Y ≤ 30) (hs : s < 2 ^ 31) (hL : LL S σ') (hS : ∀ a b, a < 34 → S.1 a b = σ.1 a b) (h67 : ∀ b, b < 27 → σ'.1 67 b = σ.1 60 b) (h66 : ∀ b, b < 64 → σ'.1 66 b = σ.1 62 b) (h65 : ∀ b, b < 64 → σ'.1 65 b = σ.1 63 b) (h61 : ∀ b, σ'.1 61 b = σ.1 61 b) (hq : σ'.2 64 0 = vN s) (hw : fX8_within w (0 : Int32) (3 : Int32) = 1) :
    ∃ τ g σf, fL_law_L731 c10 (nI Y) c20 fu (0 : Int32) (0 : Int32) σ' = some (g, σf) ∧ (fX8_drawn (nI Y) (nI s) w S = (if w = (0 : Int32) then some (g, τ) else (if w = (1 : Int32) then (Option.bind (fX7_living 34 τ) fun q11 => some (q11, τ)) else (if w = (2 : Int32) then (Option.bind (fX7_allFeasts 34 τ) fun q13 => (Option.bind (fX7_allFeasts 4 τ) fun q14 => some ((q13 - q14), τ))) else some ((τ.2 49 0).toInt32, τ))))) ∧ WL 34 67 66 65 (B + 16 * Y) τ σf P G ∧ SDl τ σf ∧ Fl 67 66 65 σ' σf ∧ (∀ a b, a < 34 ∨ 49 ≤ a → τ.1 a b = S.1 a b) ∧ (∀ b, τ.2 64 b = S.2 64 b) := by
  obtain ⟨τc, k1, k2⟩ := copyW (w := 34) (w1 := 4) (by omega) S
  have k3 := copyW_2 k1
  have hWc := hW.copied hS k2 h67 h66 h65 h61
  have hS1 : SDl (setL τc 49 0 (nI s).toInt64) σ' := ⟨s, hs, by rw [setL_s, vN_of hs], hq⟩
  obtain ⟨g, τ, σf, e1, e2, e3, e4, e5, e6, e7⟩ := drawnL hY w c10 c20 Y 0 fu fu (nI 0) B (setL τc 49 0 (nI s).toInt64) σ' (by omega) hWc (hL.cong (fun b => k2.1 3 b (by omega)) (fun _ => rfl)) hB hS1 (fu_gt (by omega)) (fu_gt (by omega))
  have fr := frX8_drawn_L55 (nI Y) w (g, τ) fu (nI 0) (nI 0) (setL τc 49 0 (nI s).toInt64) e1
  refine ⟨τ, g, σf, by rw [show (0 : Int32) = nI 0 from rfl]; exact e2, ?_, e3, e6, e5, fun a b ha => ?_, fun b => ?_⟩
  · unfold fX8_drawn
    rw [wi30 Y h1 hY, hw, if_neg (by decide), if_neg (nI_pos (n := s) hs), if_neg (by decide), k1]
    simp only [obs, bnd_eq]
    rw [show fX8_drawn_L55 (nI Y) w fu (0 : Int32) (0 : Int32) (setL τc 49 0 (nI s).toInt64) = some (g, τ) from e1]
    rfl
  · have k4 : τ.1 a b = τc.1 a b := fr a b (fun hm => by
      have : key a b = a ∨ (a = 58 ∧ key a b = 100 + b) := by
        by_cases z : a = 58
        · subst z; exact Or.inr ⟨rfl, rfl⟩
        · exact Or.inl (key_ne z)
      simp [gk] at hm
      omega)
    rw [k4, k2.1 a b (by omega)]
  · rw [e7 b, ← k3]
    show (setL τc 49 0 (nI s).toInt64).2 64 b = τc.2 64 b
    simp [setL]
theorem livingT {B P G : Nat} {τ σf : St} (h : WL 34 67 66 65 B τ σf P G) (g1 : σf.1 60 25 = nI G) (c10 c16 c20 c21 c23 : Int32) : ∀ (d i n m : Nat) (a : Int32), i + d = G → d < n → d < m → ∃ r, fX7_living_L4 34 τ n a (nI i) = some r ∧ fL_law_L772 c10 c16 c20 c21 c23 σf m a (nI i) = some r := by
  have hG := h.1.2
  have g0 := h.2.2.1.1
  intro d
  induction d with
  | zero =>
    intro i n m a hi hn hm
    obtain ⟨n, rfl, -⟩ := su hn
    obtain ⟨m, rfl, -⟩ := su hm
    have e : i = G := by omega
    subst e
    rw [fX7_living_L4, fL_law_L772, grd_t (show inb (25 : Int32) 27 = true from by decide), show (25 : Int32).toNatClampNeg = 25 from rfl, g0, g1, if_pos (nI_le (a := i) (b := i) (by omega) (by omega)), if_pos (nI_le (a := i) (b := i) (by omega) (by omega))]
    exact ⟨a, rfl, rfl⟩
  | succ d ih =>
    intro i n m a hi hn hm
    obtain ⟨n, rfl, hn⟩ := su hn
    obtain ⟨m, rfl, hm⟩ := su hm
    rw [fX7_living_L4, fL_law_L772, grd_t (show inb (25 : Int32) 27 = true from by decide), show (25 : Int32).toNatClampNeg = 25 from rfl, g0, g1, if_neg (nI_ge (a := i) (b := G) (by omega) (by omega)), if_neg (nI_ge (a := i) (b := G) (by omega) (by omega)), grd_t (inbN (show i < 8 by omega) (by decide)), tcl (by omega), xlivesL h (show i < 8 by omega), ix8_7, grd_t (inbN (show 8 * i + 7 < 64 by omega) (by decide)), tcl (by omega)]
    simp only [bnd, nI_1]
    by_cases z : σf.1 65 (8 * i + 7) = 0
    · simp only [z, if_true, n10, if_false]
      exact ih (i + 1) n m _ (by omega) (by omega) (by omega)
    · simp only [z, if_false, if_true]
      rw [Int32.add_zero]
      exact ih (i + 1) n m _ (by omega) (by omega) (by omega)
theorem sub4 (a b x y : Int32) : (a - b) + (x - y) = (a + x) - (b + y) := by
  rw [Int32.sub_eq_add_neg, Int32.sub_eq_add_neg, Int32.sub_eq_add_neg, Int32.neg_add, Int32.sub_eq_add_neg]
  ac_rfl
theorem feastsT {B P G : Nat} {τ σf : St} (h : WL 34 67 66 65 B τ σf P G) (p4 : τ.1 4 0 = nI P) (p1 : σf.1 60 0 = nI P) (hf : ∀ i, i < 8 → τ.1 7 i = σf.1 60 (17 + i)) (c10 c16 c20 c21 c22 : Int32) : ∀ (d i n1 n2 m : Nat) (a1 a2 : Int32), i + d = P → d < n1 → d < n2 → d < m → ∃ r1 r2, fX7_allFeasts_L4 34 τ n1 a1 (nI i) = some r1 ∧ fX7_allFeasts_L4 4 τ n2 a2 (nI i) = some r2 ∧ fL_law_L815 c10 c16 c20 c21 c22 σf m (a1 - a2) (nI i) = some (r1 - r2) := by
  have hP := h.1.1
  have p0 := h.2.1.1
  have hwf := h.2.2.2.2.2.1
  intro d
  induction d with
  | zero =>
    intro i n1 n2 m a1 a2 hi hn hn2 hm
    obtain ⟨n1, rfl, -⟩ := su hn
    obtain ⟨n2, rfl, -⟩ := su hn2
    obtain ⟨m, rfl, -⟩ := su hm
    have e : i = P := by omega
    subst e
    rw [fX7_allFeasts_L4, fX7_allFeasts_L4, fL_law_L815, grd_t (show inb (0 : Int32) 27 = true from by decide), show (0 : Int32).toNatClampNeg = 0 from rfl, p0, p1, p4, if_pos (nI_le (a := i) (b := i) (by omega) (by omega)), if_pos (nI_le (a := i) (b := i) (by omega) (by omega)), if_pos (nI_le (a := i) (b := i) (by omega) (by omega))]
    exact ⟨a1, a2, rfl, rfl, rfl⟩
  | succ d ih =>
    intro i n1 n2 m a1 a2 hi hn hn2 hm
    obtain ⟨n1, rfl, hn⟩ := su hn
    obtain ⟨n2, rfl, hn2⟩ := su hn2
    obtain ⟨m, rfl, hm⟩ := su hm
    rw [fX7_allFeasts_L4, fX7_allFeasts_L4, fL_law_L815, grd_t (show inb (0 : Int32) 27 = true from by decide), show (0 : Int32).toNatClampNeg = 0 from rfl, p0, p1, p4, if_neg (nI_ge (a := i) (b := P) (by omega) (by omega)), if_neg (nI_ge (a := i) (b := P) (by omega) (by omega)), if_neg (nI_ge (a := i) (b := P) (by omega) (by omega)), n17p, grd_t (inbN (show 17 + i < 27 by omega) (by decide)), grd_t (inbN (show 17 + i < 27 by omega) (by decide)), grd_t (inbN (show i < 8 by omega) (by decide)), grd_t (inbN (show i < 8 by omega) (by decide)), tcl (by omega), tcl (by omega)]
    simp only [bnd, nI_1]
    rw [← hwf i (by omega), ← hf i (by omega), sub4]
    exact ih (i + 1) n1 n2 m _ _ (by omega) (by omega) (by omega) (by omega)
