theorem omx_none (v : Option Nat) : omx v none = v := by cases v <;> rfl
theorem bestL {P : Nat} {Kn Lk : Nat → Nat} {σ : St} (c : DC P Kn Lk) (m : DM P Kn Lk σ) {p S : Nat} (hp : p < P) (hS : S < 2 ^ P) (t : TM P Kn Lk (p + 1) σ) (c1 : Int32) : ∀ (d i n : Nat), i + d = P → d < n → fX9_layRound_L71 c1 (nI p) (nI S) σ n (oI (mfo (gf P Kn Lk p S) i)) (nI i) = some (oI (mfo (gf P Kn Lk p S) P)) := by
  have hP := c.1
  intro d
  induction d with
  | zero =>
    intro i n hi hn
    obtain ⟨n, rfl, -⟩ := su hn
    have ei : i = P := by omega
    subst ei
    rw [fX9_layRound_L71, m.1, if_pos (nI_le (a := i) (b := i) (by omega) (by omega))]
  | succ d ih =>
    intro i n hi hn
    obtain ⟨n, rfl, hn⟩ := su hn
    have hiP : i < P := by omega
    obtain ⟨v, e1, e2, e3⟩ := thenM c m hp hS hiP t
    have hg := gf_bd c (S := S) hp hiP
    have hv : bdd (mfo (gf P Kn Lk p S) i) 1000 := bdd_mfo (fun q hq => gf_bd c hp (by omega))
    have hm := omxM hv hg
    have next := ih (i + 1) n (by omega) (by omega)
    rw [mfo] at next
    rw [fX9_layRound_L71, m.1, if_neg (nI_ge (a := i) (b := P) (by omega) (by omega)), grd_t (inbN (show p < 8 by omega) (by decide)), tcl (show p < 2 ^ 31 by omega), bnd_eq, e1, obs, ix8, nI_1]
    by_cases z : v = -1
    · rw [if_pos z]
      rw [e2.mp z, omx_none] at next
      exact next
    · rw [if_neg z, grd_t (inbN (show 8 * p + i < 64 by omega) (by decide)), tcl (show 8 * p + i < 2 ^ 31 by omega), m.2.2 _ (by omega), e3 z]
      have zg : ¬ oI (gf P Kn Lk p S i) = -1 := fun w => z (e2.mpr ((oI_m1 hg).mp w))
      rw [if_neg zg] at hm
      rw [← hm] at next
      by_cases y : oI (gf P Kn Lk p S i) ≤ oI (mfo (gf P Kn Lk p S) i)
      · rw [if_pos y]
        rw [if_pos y] at next
        exact next
      · rw [if_neg y, grd_t (inbN (show 8 * p + i < 64 by omega) (by decide)), bnd_eq]
        rw [if_neg y] at next
        exact next
theorem levelL {P : Nat} {Kn Lk : Nat → Nat} (c : DC P Kn Lk) {p : Nat} (hp : p < P) : ∀ (d i n : Nat) (σ : St), i + d = 2 ^ P → d < n → DM P Kn Lk σ → TM P Kn Lk (p + 1) σ → (∀ T, T < i → σ.1 70 (256 * p + T) = oI (rvl P Kn Lk (P - p) T)) → ∃ τ, fX9_layRound_L60 (nI (2 ^ P)) (nI p) n (nI i) σ = some τ ∧ DM P Kn Lk τ ∧ TM P Kn Lk p τ ∧ τ.2 = σ.2 := by
  have hP := c.1
  have h0 : 0 < 2 ^ P := Nat.pos_of_ne_zero (by simp)
  have h256 := p2_256 hP (show 2 ^ P - 1 < 2 ^ P by omega)
  intro d
  induction d with
  | zero =>
    intro i n σ hi hn m t h
    obtain ⟨n, rfl, -⟩ := su hn
    have ei : i = 2 ^ P := by omega
    rw [fX9_layRound_L60, ei, if_pos (nI_le (Nat.le_refl _) (by omega))]
    refine ⟨σ, rfl, m, fun q T a b hT => ?_, rfl⟩
    by_cases z : q = p
    · rw [z]; exact h T (by omega)
    · exact t q T (by omega) b hT
  | succ d ih =>
    intro i n σ hi hn m t h
    obtain ⟨n, rfl, hn⟩ := su hn
    have l := bestL c m hp (show i < 2 ^ P by omega) t (nI (2 ^ P)) P 0 fu (by omega) (fu_gt (by omega))
    rw [show oI (mfo (gf P Kn Lk p i) 0) = (-1 : Int32) from rfl, nI_0, ← rvl_step hp] at l
    rw [fX9_layRound_L60, if_neg (nI_ge (a := i) (b := 2 ^ P) (by omega) (by omega)), l, obs, ix256, grd_t (inbN (show 256 * p + i < 2304 by omega) (by decide)), tcl (by omega), bnd_eq, nI_1]
    refine ih (i + 1) n _ (by omega) (by omega) (m.o70 (fun a b h1 _ => setI_oo (fun z => h1 z.1))) (fun q T a b hT => ?_) (fun T hT => ?_)
    · rw [setI_oo (fun z => by have := p2_256 hP hT; omega)]
      exact t q T a b hT
    · rw [setI_1]
      by_cases z : T = i
      · rw [if_pos ⟨rfl, by omega⟩, z]
      · rw [if_neg (fun y => z (by omega))]
        exact h T (by omega)
theorem levels {P : Nat} {Kn Lk : Nat → Nat} (c : DC P Kn Lk) : ∀ (i n : Nat) (σ : St), i < n → i ≤ P → DM P Kn Lk σ → TM P Kn Lk i σ → ∃ τ, fX9_layRound_L54 (nI (2 ^ P)) n (nI i - 1) σ = some τ ∧ DM P Kn Lk τ ∧ TM P Kn Lk 0 τ ∧ τ.2 = σ.2 := by
  have hP := c.1
  intro i
  induction i with
  | zero =>
    intro n σ hn _ m t
    obtain ⟨n, rfl, -⟩ := su hn
    rw [fX9_layRound_L54, if_pos (show nI 0 - 1 < (0 : Int32) by decide)]
    exact ⟨σ, rfl, m, t, rfl⟩
  | succ i ih =>
    intro n σ hn hi m t
    obtain ⟨n, rfl, hn⟩ := su hn
    have h256 := Nat.pow_le_pow_right (show 0 < 2 by decide) hP
    obtain ⟨q, q1, q2, q3, q4⟩ := levelL c (show i < P by omega) (2 ^ P) 0 fu σ (by omega) (fu_gt (by omega)) m t (fun T hT => absurd hT (Nat.not_lt_zero T))
    rw [nI_0] at q1
    rw [fX9_layRound_L54, nI_pred, if_neg (nI_pos (by omega)), q1, obs, dec_1]
    obtain ⟨τ, f1, f2, f3, f4⟩ := ih n q (by omega) (by omega) q2 q3
    exact ⟨τ, f1, f2, f3, f4.trans q4⟩
theorem giveL {P : Nat} {Kn Lk : Nat → Nat} (c : DC P Kn Lk) {p S : Nat} (hp : p < P) (hS : S < 2 ^ P) (hz : rvl P Kn Lk P 0 ≠ none) : ∀ (i n : Nat) (σ : St), i < n → i ≤ P → DM P Kn Lk σ → TM P Kn Lk 0 σ → σ.1 71 p = oI (leq (gf P Kn Lk p S) (rvl P Kn Lk (P - p) S) (P - i) i) → ∃ τ, fX9_layRound_L248 (nI S) (nI p) n (nI i - 1) σ = some τ ∧ τ.1 71 p = oI (leq (gf P Kn Lk p S) (rvl P Kn Lk (P - p) S) P 0) ∧ (∀ a b, ¬ (a = 71 ∧ b = p) → τ.1 a b = σ.1 a b) ∧ τ.2 = σ.2 := by
  have hP := c.1
  have hS8 := p2_256 hP hS
  intro i
  induction i with
  | zero =>
    intro n σ hn _ m t h
    obtain ⟨n, rfl, -⟩ := su hn
    rw [fX9_layRound_L248, if_pos (show nI 0 - 1 < (0 : Int32) by decide)]
    exact ⟨σ, rfl, h, fun _ _ _ => rfl, rfl⟩
  | succ i ih =>
    intro n σ hn hi m t h
    obtain ⟨n, rfl, hn⟩ := su hn
    have hiP : i < P := by omega
    obtain ⟨v, e1, e2, e3⟩ := thenM c m hp hS hiP (fun q T a b hT => t q T (Nat.zero_le _) b hT)
    have hg := gf_bd c (S := S) hp hiP
    have ht := (rvl_bd c (show P - p ≤ P by omega) S).mono (show 900 ≤ 1000 by decide)
    have h0 : ¬ σ.1 70 0 = -1 := fun w => by
      have := t 0 0 (Nat.le_refl 0) (Nat.zero_le P) (Nat.pos_of_ne_zero (by simp))
      rw [this] at w
      exact hz ((oI_m1 ((rvl_bd c (Nat.le_refl P) 0).mono (by decide))).mp w)
    have q50 : (if v = (-1 : Int32) then some (σ.1 71 p) else (if v + nI (Lk (8 * p + i)) = σ.1 70 (256 * p + S) then some (nI i) else some (σ.1 71 p))) = some (oI (leq (gf P Kn Lk p S) (rvl P Kn Lk (P - p) S) (P - i) i)) := by
      rw [show P - i = (P - (i + 1)) + 1 by omega, leq, h, t p S (Nat.zero_le _) (by omega) hS]
      by_cases z : v = -1
      · rw [if_pos z, if_neg (fun w : gf P Kn Lk p S i ≠ none ∧ _ => w.1 (e2.mp z))]
      · rw [if_neg z, e3 z]
        by_cases y : gf P Kn Lk p S i = rvl P Kn Lk (P - p) S
        · rw [if_pos (show oI (gf P Kn Lk p S i) = oI (rvl P Kn Lk (P - p) S) by rw [y]), if_pos (show gf P Kn Lk p S i ≠ none ∧ gf P Kn Lk p S i = rvl P Kn Lk (P - p) S from ⟨fun w => z (e2.mpr w), y⟩)]
          rfl
        · rw [if_neg (fun w => y ((oI_inj hg ht).mp w)), if_neg (fun w : gf P Kn Lk p S i ≠ none ∧ gf P Kn Lk p S i = rvl P Kn Lk (P - p) S => y w.2)]
    rw [fX9_layRound_L248, nI_pred, if_neg (nI_pos (by omega)), grd_t (show inb (0 : Int32) 2304 = true from inbN (k := 0) (by decide) (by decide)), show (0 : Int32).toNatClampNeg = 0 from rfl, if_neg h0, grd_t (inbN (show p < 8 by omega) (by decide)), tcl (show p < 2 ^ 31 by omega), bnd_eq, e1, obs]
    simp only [ix8, ix256, grd_t (inbN (show p < 8 by omega) (by decide)), grd_t (inbN (show 8 * p + i < 64 by omega) (by decide)), tcl (show 8 * p + i < 2 ^ 31 by omega), m.2.2 (8 * p + i) (by omega), grd_t (inbN (show 256 * p + S < 2304 by omega) (by decide)), tcl (show 256 * p + S < 2 ^ 31 by omega)]
    rw [q50, obs, bnd_eq, dec_1]
    obtain ⟨τ, f1, f2, f3, f4⟩ := ih n (setI σ 71 p (oI (leq (gf P Kn Lk p S) (rvl P Kn Lk (P - p) S) (P - i) i))) (by omega) (by omega) (m.o70 (fun a b _ h1 => setI_oo (fun z => h1 z.1))) (fun q T a b hT => by rw [setI_oo (fun z => absurd z.1 (by decide))]; exact t q T a b hT) setI_s
    exact ⟨τ, f1, f2, fun a b hab => by rw [f3 a b hab, setI_oo hab], f4⟩
theorem giveM {P : Nat} {Kn Lk : Nat → Nat} (c : DC P Kn Lk) : ∀ (d i n : Nat) (σ : St), i + d = P → d < n → DM P Kn Lk σ → TM P Kn Lk 0 σ → (∀ j, j < i → σ.1 71 j = oI (gg P Kn Lk j)) → ∃ τ, fX9_layRound_L225 n (nI (gT P Kn Lk i)) (nI i) σ = some τ ∧ DM P Kn Lk τ ∧ TM P Kn Lk 0 τ ∧ (∀ j, j < P → τ.1 71 j = oI (gg P Kn Lk j)) ∧ τ.2 = σ.2 := by
  have hP := c.1
  intro d
  induction d with
  | zero =>
    intro i n σ hi hn m t h
    obtain ⟨n, rfl, -⟩ := su hn
    have ei : i = P := by omega
    subst ei
    rw [fX9_layRound_L225, m.1, if_pos (nI_le (a := i) (b := i) (by omega) (by omega))]
    exact ⟨σ, rfl, m, t, h, rfl⟩
  | succ d ih =>
    intro i n σ hi hn m t h
    obtain ⟨n, rfl, hn⟩ := su hn
    have hiP : i < P := by omega
    have eT : gT P Kn Lk i = gS P Kn Lk i := by
      unfold gT
      rw [Nat.min_eq_left (show i ≤ P by omega)]
    have hS := gS_lt (Kn := Kn) (Lk := Lk) hP i (by omega)
    have m1 : DM P Kn Lk (setI σ 71 i (-1)) := m.o70 (fun a b _ h1 => setI_oo (fun z => h1 z.1))
    have t1 : TM P Kn Lk 0 (setI σ 71 i (-1)) := fun q T a b hT => by rw [setI_oo (fun z => absurd z.1 (by decide))]; exact t q T a b hT
    have key : ∃ q, fX9_layRound_L248 (nI (gT P Kn Lk i)) (nI i) fu (nI P - 1) (setI σ 71 i (-1)) = some q ∧ q.1 71 i = oI (gg P Kn Lk i) ∧ (∀ a b, ¬ (a = 71 ∧ b = i) → q.1 a b = σ.1 a b) ∧ q.2 = σ.2 := by
      rw [eT]
      unfold gg gv
      rw [if_pos hiP]
      by_cases z : rvl P Kn Lk P 0 = none
      · rw [if_pos z]
        have h0 : (setI σ 71 i (-1)).1 70 0 = -1 := by
          have := t1 0 0 (Nat.le_refl 0) (Nat.zero_le P) (Nat.pos_of_ne_zero (by simp))
          rw [show 256 * 0 + 0 = 0 from rfl, Nat.sub_zero, z] at this
          exact this
        obtain ⟨f, hf, -⟩ := su (show 0 < fu from fu_gt (by omega))
        rw [hf, fX9_layRound_L248]
        refine ⟨setI σ 71 i (-1), ?_, setI_s, fun a b hab => setI_oo hab, rfl⟩
        by_cases y : nI P - 1 < 0
        · rw [if_pos y]
        · rw [if_neg y, grd_t (show inb (0 : Int32) 2304 = true from inbN (k := 0) (by decide) (by decide)), show (0 : Int32).toNatClampNeg = 0 from rfl, if_pos h0]
      · rw [if_neg z]
        obtain ⟨q, q1, q2, q3, q4⟩ := giveL c hiP hS z P fu (setI σ 71 i (-1)) (fu_gt (by omega)) (Nat.le_refl P) m1 t1 (by rw [setI_s, Nat.sub_self]; rfl)
        exact ⟨q, q1, q2, fun a b hab => by rw [q3 a b hab, setI_oo hab], q4⟩
    obtain ⟨q, q1, q2, q3, q4⟩ := key
    have m2 : DM P Kn Lk q := m.o70 (fun a b _ h1 => q3 a b (fun z => h1 z.1))
    have q68 : (if (q.1 71 i) = (-1 : Int32) then some (0 : Int32) else (grd (inb (nI i) 8) (some ((1 : Int32) <<< ((q.1 71 i) &&& 31))))) = some (fX8_bit (oI (gg P Kn Lk i))) := by
      rw [q2, grd_t (inbN (show i < 8 by omega) (by decide))]
      unfold fX8_bit
      by_cases z : oI (gg P Kn Lk i) = -1
      · rw [if_pos z, if_pos z]
      · rw [if_neg z, if_neg z]
    rw [fX9_layRound_L225, m.1, if_neg (nI_ge (a := i) (b := P) (by omega) (by omega)), grd_t (inbN (show i < 8 by omega) (by decide)), tcl (by omega), bnd_eq, m1.1, bnd_eq, q1, obs, grd_t (inbN (show i < 8 by omega) (by decide)), q68, obs, orbit hP, nI_1]
    obtain ⟨τ, f1, f2, f3, f4, f5⟩ := ih (i + 1) n q (by omega) (by omega) m2 (fun a T h1 h2 hT => by rw [q3 _ _ (fun z => absurd z.1 (by decide))]; exact t a T h1 h2 hT) (fun j hj => by
      by_cases z : j = i
      · rw [z]; exact q2
      · rw [q3 _ _ (fun y => z y.2)]; exact h j (by omega))
    exact ⟨τ, f1, f2, f3, f4, f5.trans q4⟩
theorem layM2 {P : Nat} {Kn Lk : Nat → Nat} {σ : St} (c : DC P Kn Lk) (m : DM P Kn Lk σ) : ∃ τ, fX9_layRound σ = some τ ∧ TM P Kn Lk 0 τ ∧ (∀ j, j < P → τ.1 71 j = oI (gg P Kn Lk j)) ∧ τ.1 58 12 = nI P ∧ τ.2 = σ.2 := by
  have hP := c.1
  have h256 := Nat.pow_le_pow_right (show 0 < 2 by decide) hP
  obtain ⟨q, q1, q2, q3, q4⟩ := lastL (Kn := Kn) (Lk := Lk) hP (2 ^ P) 0 fu σ (by omega) (fu_gt (by omega)) m (fun T hT => absurd hT (Nat.not_lt_zero T))
  obtain ⟨r, r1, r2, r3, r4⟩ := levels c P fu q (fu_gt (by omega)) (Nat.le_refl P) q2 q3
  obtain ⟨τ, t1, t2, t3, t4, t5⟩ := giveM c P 0 fu r (by omega) (fu_gt (by omega)) r2 r3 (fun j hj => absurd hj (Nat.not_lt_zero j))
  have g0 : nI (gT P Kn Lk 0) = (0 : Int32) := by
    unfold gT
    rw [Nat.min_eq_left (Nat.zero_le P)]
    rfl
  rw [nI_0] at q1
  rw [g0, nI_0] at t1
  unfold fX9_layRound
  rw [m.1, sh_P P hP, bnd_eq, q1, obs, q2.1, bnd_eq, r1, obs, t1, obs]
  exact ⟨τ, rfl, t3, t4, t2.1, t5.trans (r4.trans q4)⟩
