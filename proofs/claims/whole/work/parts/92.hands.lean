theorem anyX {P S : Nat} {Kn Lk : Nat → Nat} {σ : St} (c : DC P Kn Lk) (x : DX P Kn Lk σ) (hS : S < 2 ^ P) : ∀ (d i n : Nat), i + d = P → d < n → fX7_knownByAny_L4 4 (nI S) σ n (nI (anyS Kn S i)) (nI i) = some (nI (anyS Kn S P)) := by
  have hP := c.1
  have hS8 := p2_256 hP hS
  intro d
  induction d with
  | zero =>
    intro i n hi hn
    obtain ⟨n, rfl, -⟩ := su hn
    have ei : i = P := by omega
    subst ei
    rw [fX7_knownByAny_L4, x.1, if_pos (nI_le (a := i) (b := i) (by omega) (by omega))]
  | succ d ih =>
    intro i n hi hn
    obtain ⟨n, rfl, hn⟩ := su hn
    have next := ih (i + 1) n (by omega) (by omega)
    rw [anyS] at next
    rw [fX7_knownByAny_L4, x.1, if_neg (nI_ge (a := i) (b := P) (by omega) (by omega)), nI_1]
    by_cases y : S.testBit i = true
    · rw [if_pos y] at next
      rw [if_neg (fun z => by rw [(bt_and S hS8 i (by omega)).mp z] at y; cases y), grd_t (inbN (show i < 8 by omega) (by decide)), tcl (by omega), show 4 + 2 = 6 from rfl, x.2.1 i (by omega), or_nI, bnd_eq]
      exact next
    · rw [if_neg y] at next
      rw [if_pos ((bt_and S hS8 i (by omega)).mpr (by simpa using y))]
      exact next
theorem bit2 : ∀ a, a < 8 → fX8_bit (nI a) = nI (2 ^ a) := by decide +kernel
theorem handsL {P a b : Nat} {Kn Lk : Nat → Nat} {σ : St} (c : DC P Kn Lk) (x : DX P Kn Lk σ) (ha : a < P) (hb : b < P) : ∀ (d i n : Nat), i + d = 8 → d < n → (∀ m, m < i → ¬ rch P Kn m a b) → (∃ k, k < 8 ∧ Dst P Kn a b k ∧ fX7_handsBetween_L8 4 (nI b) σ n (nI (ball P Kn a i)) (nI i) = some (.inl (nI k))) ∨ ((∀ m, m < 8 → ¬ rch P Kn m a b) ∧ fX7_handsBetween_L8 4 (nI b) σ n (nI (ball P Kn a i)) (nI i) = some (.inr ())) := by
  have hP := c.1
  intro d
  induction d with
  | zero =>
    intro i n hi hn h
    obtain ⟨n, rfl, -⟩ := su hn
    have ei : i = 8 := by omega
    subst ei
    rw [fX7_handsBetween_L8, if_pos (show (8 : Int32) ≤ nI 8 by decide)]
    exact Or.inr ⟨h, rfl⟩
  | succ d ih =>
    intro i n hi hn h
    obtain ⟨n, rfl, hn⟩ := su hn
    have hS := ball_lt hP c.2.1 ha i
    have hbit := ball_bit (Kn := Kn) ha (n := i) hb
    rw [fX7_handsBetween_L8, if_neg (show ¬ (8 : Int32) ≤ nI i from nI_ge (a := i) (b := 8) (by omega) (by decide))]
    by_cases y : (ball P Kn a i).testBit b = true
    · rw [if_neg (fun z => by rw [(bt_and _ (p2_256 hP hS) b (by omega)).mp z] at y; cases y)]
      exact Or.inl ⟨i, by omega, ⟨hbit.mp y, h⟩, rfl⟩
    · have l := anyX c x hS P 0 fu (by omega) (fu_gt (by omega))
      rw [show nI (anyS Kn (ball P Kn a i) 0) = (0 : Int32) from rfl, nI_0] at l
      rw [if_pos ((bt_and _ (p2_256 hP hS) b (by omega)).mpr (by simpa using y))]
      unfold fX7_knownByAny
      rw [l, obs, obs, or_nI, nI_1]
      exact ih (i + 1) n (by omega) (by omega) (fun m hm => by
        by_cases e : m = i
        · rw [e]; exact fun r => y (hbit.mpr r)
        · exact h m (by omega))
theorem handsX {P a b : Nat} {Kn Lk : Nat → Nat} {σ : St} (c : DC P Kn Lk) (x : DX P Kn Lk σ) (ha : a < P) (hb : b < P) : (∃ k, k < 8 ∧ Dst P Kn a b k ∧ fX7_handsBetween 4 (nI a) (nI b) σ = some (nI k)) ∨ ((∀ m, ¬ rch P Kn m a b) ∧ fX7_handsBetween 4 (nI a) (nI b) σ = some (-1)) := by
  have hP := c.1
  have l := handsL c x ha hb 8 0 fu (by omega) (fu_gt (by omega)) (fun m hm => absurd hm (Nat.not_lt_zero m))
  unfold fX7_handsBetween
  rw [bit2 a (by omega)]
  rw [show ball P Kn a 0 = 2 ^ a from rfl, nI_0] at l
  rcases l with ⟨k, k1, k2, e⟩ | ⟨h, e⟩
  · rw [e, obs]
    exact Or.inl ⟨k, k1, k2, rfl⟩
  · rw [e, obs]
    exact Or.inr ⟨fun m r => h 7 (by decide) (rch7 hP c.2.1 ha hb r), rfl⟩
/-- what the reference has of how far it is -/
def S72 (f : Nat → Nat) (σ : St) : Prop := ∀ p, p < 8 → σ.1 72 p = nI (f p) ∧ f p ≤ 100
def Snd (P : Nat) (Kn : Nat → Nat) (b : Nat) (f : Nat → Nat) : Prop := ∀ p, p < P → f p < 100 → rch P Kn (f p) p b
def Cmp (P : Nat) (Kn : Nat → Nat) (b r : Nat) (f : Nat → Nat) : Prop := ∀ n, n ≤ r → ∀ p, p < P → rch P Kn n p b → f p ≤ n
theorem farI {b : Nat} (hb : b < 8) : ∀ (d i n : Nat) (σ : St), i + d = 8 → d < n → (∀ p, p < i → σ.1 72 p = nI (if p = b then 0 else 100)) → ∃ τ, fX9_layFar_L2 (nI b) n (nI i) σ = some τ ∧ (∀ a k, a ≠ 72 → τ.1 a k = σ.1 a k) ∧ S72 (fun p => if p = b then 0 else 100) τ := by
  intro d
  induction d with
  | zero =>
    intro i n σ hi hn h
    obtain ⟨n, rfl, -⟩ := su hn
    have ei : i = 8 := by omega
    subst ei
    rw [fX9_layFar_L2, if_pos (show (8 : Int32) ≤ nI 8 by decide)]
    exact ⟨σ, rfl, fun _ _ _ => rfl, fun p hp => ⟨h p hp, by
      show (if p = b then 0 else 100) ≤ 100
      split <;> omega⟩⟩
  | succ d ih =>
    intro i n σ hi hn h
    obtain ⟨n, rfl, hn⟩ := su hn
    rw [fX9_layFar_L2, if_neg (show ¬ (8 : Int32) ≤ nI i from nI_ge (a := i) (b := 8) (by omega) (by decide)), bnd_eq, grd_t (inbN (show i < 8 by omega) (by decide)), tcl (by omega), bnd_eq, nI_1]
    obtain ⟨τ, e1, e2, e3⟩ := ih (i + 1) n (setI σ 72 i (if nI i = nI b then 0 else 100)) (by omega) (by omega) (fun p hp => by
      rw [setI_1]
      by_cases z : p = i
      · rw [if_pos ⟨rfl, z⟩]
        by_cases y : p = b
        · rw [if_pos (show nI i = nI b by rw [← z, y]), if_pos y]; rfl
        · rw [if_neg (fun w => y (by rw [z]; exact (nI_inj (by omega) (by omega)).mp w)), if_neg y]; rfl
      · rw [if_neg (fun y => z y.2)]
        exact h p (by omega))
    exact ⟨τ, e1, fun a k ha => by rw [e2 a k ha, setI_oo (fun z => ha z.1)], e3⟩
theorem DM.o72 {P : Nat} {Kn Lk : Nat → Nat} {σ τ : St} (m : DM P Kn Lk σ) (e : ∀ a k, a ≠ 72 → τ.1 a k = σ.1 a k) : DM P Kn Lk τ := ⟨by rw [e _ _ (by decide)]; exact m.1, fun h hh => by rw [e _ _ (by decide)]; exact m.2.1 h hh, fun j hj => by rw [e _ _ (by decide)]; exact m.2.2 j hj⟩
theorem farL {P p b : Nat} {Kn Lk : Nat → Nat} (c : DC P Kn Lk) (hp : p < P) (c2 : Int32) : ∀ (d i n : Nat) (σ : St) (f : Nat → Nat), i + d = P → d < n → DM P Kn Lk σ → S72 f σ → Snd P Kn b f → ∃ τ f', fX9_layFar_L52 c2 (nI p) n (nI i) σ = some τ ∧ (∀ a k, a ≠ 72 → τ.1 a k = σ.1 a k) ∧ S72 f' τ ∧ Snd P Kn b f' ∧ (∀ q, f' q ≤ f q) ∧ (∀ q, i ≤ q → q < P → (Kn p).testBit q = true → f' p ≤ f q + 1) := by
  have hP := c.1
  intro d
  induction d with
  | zero =>
    intro i n σ f hi hn m s h
    obtain ⟨n, rfl, -⟩ := su hn
    have ei : i = P := by omega
    subst ei
    rw [fX9_layFar_L52, m.1, if_pos (nI_le (a := i) (b := i) (by omega) (by omega))]
    exact ⟨σ, f, rfl, fun _ _ _ => rfl, s, h, fun _ => Nat.le_refl _, fun q a b => by omega⟩
  | succ d ih =>
    intro i n σ f hi hn m s h
    obtain ⟨n, rfl, hn⟩ := su hn
    have hiP : i < P := by omega
    have hk8 := p2_256 hP (c.2.1 p (by omega))
    obtain ⟨s1, s2⟩ := s p (by omega)
    obtain ⟨t1, t2⟩ := s i (by omega)
    have q13 : (if (if (Kn p).testBit i = true then (1 : Int32) else 0) = (1 : Int32) then (if nI (f p) ≤ nI (f i) + (1 : Int32) then some (0 : Int32) else some (1 : Int32)) else some (0 : Int32)) = some (if (Kn p).testBit i = true ∧ f i + 1 < f p then (1 : Int32) else 0) := by
      rw [nI_1]
      by_cases y : (Kn p).testBit i = true
      · rw [if_pos y, if_pos rfl]
        by_cases z : f i + 1 < f p
        · rw [if_neg (nI_ge (a := f i + 1) (b := f p) z (by omega)), if_pos ⟨y, z⟩]
        · rw [if_pos (nI_le (a := f p) (b := f i + 1) (by omega) (by omega)), if_neg (fun w => z w.2)]
      · rw [if_neg y, if_neg (show ¬ (0 : Int32) = 1 by decide), if_neg (fun w => y w.1)]
    have q15 : (if (if (Kn p).testBit i = true ∧ f i + 1 < f p then (1 : Int32) else 0) = 0 then some (nI (f p)) else some (nI (f i) + (1 : Int32))) = some (nI (if (Kn p).testBit i = true ∧ f i + 1 < f p then f i + 1 else f p)) := by
      rw [nI_1]
      by_cases z : (Kn p).testBit i = true ∧ f i + 1 < f p
      · rw [if_pos z, if_pos z, if_neg (show ¬ (1 : Int32) = 0 by decide)]
      · rw [if_neg z, if_neg z, if_pos rfl]
    rw [fX9_layFar_L52, m.1, if_neg (nI_ge (a := i) (b := P) hiP (by omega)), nI_1]
    simp only [grd_t (inbN (show p < 8 by omega) (by decide)), grd_t (inbN (show i < 8 by omega) (by decide)), tcl (show p < 2 ^ 31 by omega), tcl (show i < 2 ^ 31 by omega), m.2.1 p (by omega), bt_shr (Kn p) hk8 i (by omega), s1, t1]
    rw [q13, obs, q15, obs, bnd_eq]
    obtain ⟨τ, f', e1, e2, e3, e4, e5, e6⟩ := ih (i + 1) n (setI σ 72 p (nI (if (Kn p).testBit i = true ∧ f i + 1 < f p then f i + 1 else f p))) (fun x => if x = p then (if (Kn p).testBit i = true ∧ f i + 1 < f p then f i + 1 else f p) else f x) (by omega) (by omega) (m.o72 (fun a k ha => setI_oo (fun z => ha z.1))) (fun x hx => by
      rw [setI_1]
      by_cases z : x = p
      · rw [if_pos ⟨rfl, z⟩]
        refine ⟨by simp only [if_pos z], ?_⟩
        simp only [if_pos z]
        split <;> omega
      · rw [if_neg (fun w => z w.2)]
        simp only [if_neg z]
        exact s x hx) (fun x hx hlt => by
      by_cases z : x = p
      · simp only [if_pos z] at hlt ⊢
        rw [z]
        by_cases y : (Kn p).testBit i = true ∧ f i + 1 < f p
        · rw [if_pos y]
          exact Or.inr ⟨i, hiP, y.1, h i hiP (by omega)⟩
        · rw [if_neg y] at hlt ⊢
          exact h p hp hlt
      · simp only [if_neg z] at hlt ⊢
        exact h x hx hlt)
    have le1 : ∀ q, (if q = p then (if (Kn p).testBit i = true ∧ f i + 1 < f p then f i + 1 else f p) else f q) ≤ f q := fun q => by
      by_cases z : q = p
      · rw [if_pos z, z]
        split <;> omega
      · rw [if_neg z]; exact Nat.le_refl _
    refine ⟨τ, f', e1, fun a k ha => by rw [e2 a k ha, setI_oo (fun z => ha z.1)], e3, e4, fun q => Nat.le_trans (e5 q) (le1 q), fun q a b hk => ?_⟩
    by_cases z : q = i
    · have h5 := e5 p
      simp only [if_true] at h5
      rw [z] at hk ⊢
      by_cases y : f i + 1 < f p
      · rw [if_pos ⟨hk, y⟩] at h5
        exact h5
      · rw [if_neg (fun w => y w.2)] at h5
        omega
    · have h6 := e6 q (by omega) b hk
      have := le1 q
      exact Nat.le_trans h6 (Nat.add_le_add_right this 1)
