theorem bt_or2 (b : Nat) (hb : b < 256) (k : Nat) (hk : k < 8) : nI b ||| ((1 : Int32) <<< (nI k &&& 31)) = nI (b ||| 2 ^ k) := by rw [← bitN k hk, bt_or b hb k hk]
theorem know1 {P a i : Nat} {σ : St} (hW : WL 4 60 62 63 1 σ σ P 0) (hR : Rs σ) (hK : Kn σ P a i) (hZ : Z63 σ 0) (ha : a < P) (hi : i < a) : ∃ τ1 τ, fX8_know (nI a) (nI i) (1 : Int32) σ = some (0, τ1) ∧ setI (setI τ1 60 (9 + a) (τ1.1 60 (9 + a) ||| ((1 : Int32) <<< (nI i &&& 31)))) 60 (9 + i) ((setI τ1 60 (9 + a) (τ1.1 60 (9 + a) ||| ((1 : Int32) <<< (nI i &&& 31)))).1 60 (9 + i) ||| ((1 : Int32) <<< (nI a &&& 31))) = τ ∧ WL 4 60 62 63 1 τ τ P 0 ∧ Rs τ ∧ Kn τ P a (i + 1) ∧ Z63 τ 0 := by
  obtain ⟨⟨hP, hG⟩, ⟨p0, p1⟩, ⟨g0, g1⟩, hwh, hwk, hwf, hwl, hwd, hwg, v1, v2, v4⟩ := id hW
  obtain ⟨m, em, hm, tm⟩ := hK a i hi ha (Or.inr ⟨rfl, Nat.le_refl _⟩)
  obtain ⟨mk, hmk, emk⟩ := v1 i (by omega)
  have xa : σ.1 6 a = nI m := (hwk a (by omega)).trans em
  have xi : σ.1 6 i = nI mk := (hwk i (by omega)).trans emk
  refine ⟨_, _, x_know p0 hP ha (by omega) (by omega) xa xi (p2_256 hP hm) (p2_256 hP hmk) tm, rfl, ?_⟩
  simp (disch := omega) only [setI_oo, em, emk]
  rw [bt_or2 m (p2_256 hP hm) i (by omega), bt_or2 mk (p2_256 hP hmk) a (by omega)]
  refine ⟨⟨⟨hP, hG⟩, ⟨?_, ?_⟩, ⟨?_, ?_⟩, fun j hj => ?_, fun j hj => ?_, fun j hj => ?_, fun j hj => ?_, fun j hj => ?_, fun g hg k hk => ?_, fun j hj => ?_, fun j hj => ?_, fun g hg => absurd hg (Nat.not_lt_zero g)⟩, hR.cong (fun b => by simp (disch := omega) only [setI_oo]) (fun b => by simp (disch := omega) only [setI_oo]) (by simp (disch := omega) only [setI_oo]) (by simp (disch := omega) only [setI_oo]) (by simp (disch := omega) only [setI_oo]), fun x y hy hx hxy => ?_, fun j h1 h2 => by simp (disch := omega) only [setI_oo]; exact hZ j h1 h2⟩
  · simp (disch := omega) only [setI_oo]; exact p0
  · simp (disch := omega) only [setI_oo]; exact p1
  · simp (disch := omega) only [setI_oo]; exact g0
  · simp (disch := omega) only [setI_oo]; exact g1
  · simp (disch := omega) only [setI_oo]; exact hwh j hj
  · show (setI (setI (setI (setI σ 6 a _) 6 i _) 60 (9 + a) _) 60 (9 + i) _).1 6 j = _
    by_cases z : j = i
    · subst z; simp (disch := omega) only [setI_s, setI_oo]
    · by_cases y : j = a
      · subst y; simp (disch := omega) only [setI_s, setI_oo]
      · simp (disch := omega) only [setI_oo]; exact hwk j hj
  · simp (disch := omega) only [setI_oo]; exact hwf j hj
  · simp (disch := omega) only [setI_oo]; exact hwl j hj
  · simp (disch := omega) only [setI_oo]; exact hwd j hj
  · simp (disch := omega) only [setI_oo]; exact hwg g hg k hk
  · by_cases z : j = i
    · subst z; rw [setI_s]; exact ⟨_, or_lt hmk ha, rfl⟩
    · by_cases y : j = a
      · subst y; simp (disch := omega) only [setI_s, setI_oo]; exact ⟨_, or_lt hm (by omega), rfl⟩
      · simp (disch := omega) only [setI_oo]; exact v1 j hj
  · simp (disch := omega) only [setI_oo]; exact v2 j hj
  · by_cases z : x = a
    · subst z
      refine ⟨m ||| 2 ^ i, by simp (disch := omega) only [setI_s, setI_oo], or_lt hm (by omega), ?_⟩
      obtain ⟨m', em', hm', tm'⟩ := hK x y hy hx (Or.inr ⟨rfl, by omega⟩)
      have : m' = m := (nI_inj (by have := p2_256 hP hm'; omega) (by have := p2_256 hP hm; omega)).mp (em'.symm.trans em)
      subst this
      rw [Nat.testBit_or, tm', Nat.testBit_two_pow]
      simp; omega
    · simp (disch := omega) only [setI_oo]
      exact hK x y hy hx (Or.inl (by omega))
theorem knowL {P a : Nat} (ha : a < P) : ∀ (d i n : Nat) (σ : St), i + d = a → d < n → WL 4 60 62 63 1 σ σ P 0 → Rs σ → Kn σ P a i → Z63 σ 0 → ∃ τ, fL_people_L92 (1 : Int32) 60 27 61 64 (nI a) n (nI i) σ = some (.inr τ) ∧ WL 4 60 62 63 1 τ τ P 0 ∧ Rs τ ∧ Kn τ P a a ∧ Z63 τ 0 := by
  intro d
  induction d with
  | zero =>
    intro i n σ hi hn hW hR hK hZ
    have hP := hW.1.1
    obtain ⟨n, rfl, -⟩ := su hn
    have e : i = a := by omega
    subst e
    rw [fL_people_L92, if_pos (nI_le (a := i) (b := i) (by omega) (by omega))]
    exact ⟨σ, rfl, hW, hR, hK, hZ⟩
  | succ d ih =>
    intro i n σ hi hn hW hR hK hZ
    have hP := hW.1.1
    obtain ⟨n, rfl, hn⟩ := su hn
    rw [fL_people_L92, if_neg (nI_ge (a := i) (b := a) (by omega) (by omega)), m4 (by omega), show ((1 : Int32) + (1 : Int32)) = nI 2 from rfl, nI_add]
    obtain ⟨q, eq⟩ := cell_c hR.2.2 (k := 2 + a % 4) (by omega)
    rw [eq]
    simp only [obs, bnd_eq]
    obtain ⟨j, hj, ej⟩ := at_c (q >>> ((((3 : Int32) * nI i) + (nI a / (4 : Int32))) &&& 31)) (n := 5) (by decide) (by decide)
    rw [show (5 : Int32) = nI 5 from rfl, ej]
    simp only [obs, nI_1]
    by_cases c : nI j ≤ (2 : Int32)
    · rw [if_pos c]
      obtain ⟨τ1, τ, e1, e2, e3, e4, e5, e6⟩ := know1 hW hR hK hZ ha (show i < a by omega)
      rw [e1]
      simp only [obs, if_true]
      rw [n9p, n9p, grd_t (inbN (show 9 + a < 27 by omega) (by decide)), grd_t (inbN (show 9 + a < 27 by omega) (by decide)), grd_t (inbN (show 9 + i < 27 by omega) (by decide)), grd_t (inbN (show 9 + i < 27 by omega) (by decide)), tcl (by omega), tcl (by omega), e2]
      exact ih (i + 1) n τ (by omega) (by omega) e3 e4 e5 e6
    · rw [if_neg c]
      exact ih (i + 1) n σ (by omega) (by omega) hW hR (fun x y hy hx h => hK x y hy hx (by omega)) hZ
theorem knowsL {P : Nat} : ∀ (d i n : Nat) (σ : St), i + d = P → d < n → WL 4 60 62 63 1 σ σ P 0 → Rs σ → Kn σ P i 0 → Z63 σ 0 → ∃ τ, fL_people_L80 (1 : Int32) 60 27 61 64 n (nI i) σ = some (.inr τ) ∧ WL 4 60 62 63 1 τ τ P 0 ∧ Rs τ ∧ Z63 τ 0 := by
  intro d
  induction d with
  | zero =>
    intro i n σ hi hn hW hR hK hZ
    have hP := hW.1.1
    obtain ⟨n, rfl, -⟩ := su hn
    have e : i = P := by omega
    subst e
    rw [fL_people_L80, grd_t (show inb (0 : Int32) 27 = true from by decide), show (0 : Int32).toNatClampNeg = 0 from rfl, hW.2.1.2, if_pos (nI_le (a := i) (b := i) (by omega) (by omega))]
    exact ⟨σ, rfl, hW, hR, hZ⟩
  | succ d ih =>
    intro i n σ hi hn hW hR hK hZ
    have hP := hW.1.1
    obtain ⟨n, rfl, hn⟩ := su hn
    rw [fL_people_L80, grd_t (show inb (0 : Int32) 27 = true from by decide), show (0 : Int32).toNatClampNeg = 0 from rfl, hW.2.1.2, if_neg (nI_ge (a := i) (b := P) (by omega) (by omega))]
    obtain ⟨τ, e1, e2, e3, e4, e5⟩ := knowL (show i < P by omega) i 0 fu σ (by omega) (fu_gt (by omega)) hW hR hK hZ
    rw [show (0 : Int32) = nI 0 from rfl, e1]
    simp only [Option.bind_some, Sum.elim_inr, nI_1]
    exact ih (i + 1) n τ (by omega) (by omega) e2 e3 (fun x y hy hx h => e4 x y hy hx (by omega)) e5
