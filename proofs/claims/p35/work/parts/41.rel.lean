/-! THE RELATION: what the class holds (in the one state), the law holds in its arrays (in the other) -/
theorem n1p (a : Nat) : (1 : Int32) + nI a = nI (1 + a) := nI_add 1 a
theorem n9p (a : Nat) : (9 : Int32) + nI a = nI (9 + a) := nI_add 9 a
theorem n17p (a : Nat) : (17 : Int32) + nI a = nI (17 + a) := nI_add 17 a
theorem n14p (a : Nat) : (14 : Int32) + nI a = nI (14 + a) := nI_add 14 a
/-- a gift's slot in the law's row -/
def pm (k : Nat) : Nat := if k = 6 then 7 else if k = 7 then 6 else k
theorem pm_lt {k : Nat} (h : k < 8) : pm k < 8 := by unfold pm; split; omega; split <;> omega
theorem pm_pm (k : Nat) : pm (pm k) = k := by
  unfold pm
  by_cases a : k = 6
  · subst a; rfl
  · by_cases b : k = 7
    · subst b; rfl
    · rw [if_neg a, if_neg b, if_neg a, if_neg b]
def GVl (σ' : St) (gc P B g : Nat) : Prop := isN (σ'.1 gc (8 * g)) 5 ∧ isN (σ'.1 gc (8 * g + 1)) P ∧ isN (σ'.1 gc (8 * g + 2)) P ∧ (σ'.1 gc (8 * g + 3) = -1 ∨ isN (σ'.1 gc (8 * g + 3)) P) ∧ isN (σ'.1 gc (8 * g + 4)) B ∧ isN (σ'.1 gc (8 * g + 7)) 3
/-- the world w of the class, the law's arrays pc (people), oc (what is owed), gc (gifts); B bounds the wear -/
def WL (w pc oc gc B : Nat) (σ σ' : St) (P G : Nat) : Prop :=
  (P ≤ 8 ∧ G ≤ 8) ∧ (σ.1 w 0 = nI P ∧ σ'.1 pc 0 = nI P) ∧ (σ.1 w 6 = nI G ∧ σ'.1 pc 25 = nI G) ∧
  (∀ i, i < 8 → σ.1 (w + 1) i = σ'.1 pc (1 + i)) ∧ (∀ i, i < 8 → σ.1 (w + 2) i = σ'.1 pc (9 + i)) ∧ (∀ i, i < 8 → σ.1 (w + 3) i = σ'.1 pc (17 + i)) ∧ (∀ i, i < 64 → σ.1 (w + 4) i = σ'.1 61 i) ∧ (∀ i, i < 64 → σ.1 (w + 5) i = σ'.1 oc i) ∧ (∀ g, g < 8 → ∀ k, k < 8 → σ.1 (w + 7 + g) k = σ'.1 gc (8 * g + pm k)) ∧
  ((∀ i, i < 8 → isN (σ'.1 pc (9 + i)) (2 ^ P)) ∧ (∀ i, i < 8 → isN (σ'.1 pc (1 + i)) 4) ∧ (∀ g, g < G → GVl σ' gc P B g))
def LL (σ σ' : St) : Prop := (σ.1 3 0 = σ'.1 58 0 ∧ σ.1 3 1 = σ'.1 58 1 ∧ σ.1 3 2 = σ'.1 58 2 ∧ σ.1 3 3 = σ'.1 58 3) ∧ (σ.1 3 1 = 0 ∨ σ.1 3 1 = 1) ∧ (σ.1 3 2 = 0 ∨ σ.1 3 2 = 1)
theorem GVl.mono {σ' : St} {gc P B B' g : Nat} (h : GVl σ' gc P B g) (hb : B ≤ B') : GVl σ' gc P B' g := ⟨h.1, h.2.1, h.2.2.1, h.2.2.2.1, h.2.2.2.2.1.mono hb, h.2.2.2.2.2⟩
theorem WL.mono {w pc oc gc B B' : Nat} {σ σ' : St} {P G : Nat} (h : WL w pc oc gc B σ σ' P G) (hb : B ≤ B') : WL w pc oc gc B' σ σ' P G := by
  obtain ⟨a1, a2, a3, a4, a5, a6, a7, a8, a9, v1, v2, v3⟩ := h
  exact ⟨a1, a2, a3, a4, a5, a6, a7, a8, a9, v1, v2, fun g hg => (v3 g hg).mono hb⟩
theorem WL.x {w pc oc gc B : Nat} {σ σ' : St} {P G : Nat} (h : WL w pc oc gc B σ σ' P G) {g : Nat} (hg : g < 8) : σ.1 (w + 7 + g) 0 = σ'.1 gc (8 * g) ∧ σ.1 (w + 7 + g) 1 = σ'.1 gc (8 * g + 1) ∧ σ.1 (w + 7 + g) 2 = σ'.1 gc (8 * g + 2) ∧ σ.1 (w + 7 + g) 3 = σ'.1 gc (8 * g + 3) ∧ σ.1 (w + 7 + g) 4 = σ'.1 gc (8 * g + 4) ∧ σ.1 (w + 7 + g) 5 = σ'.1 gc (8 * g + 5) ∧ σ.1 (w + 7 + g) 6 = σ'.1 gc (8 * g + 7) ∧ σ.1 (w + 7 + g) 7 = σ'.1 gc (8 * g + 6) := by
  have k := h.2.2.2.2.2.2.2.2.1 g hg
  exact ⟨k 0 (by decide), k 1 (by decide), k 2 (by decide), k 3 (by decide), k 4 (by decide), k 5 (by decide), k 6 (by decide), k 7 (by decide)⟩
theorem worthI {a : Nat} (h : a < 2 ^ 30) : (if (9 : Int32) ≤ nI a then some (1 : Int32) else some ((10 : Int32) - nI a)) = some (if (1 : Int32) < (10 : Int32) - nI a then (10 : Int32) - nI a else 1) := by
  by_cases h9 : 9 ≤ a
  · rw [if_pos (show (9 : Int32) ≤ nI a from (nI_leI (a := 9) (b := a) (by decide) (by omega)).mpr h9)]
    have e : ¬ (1 : Int32) < (10 : Int32) - nI a := by
      rw [Int32.lt_iff_toInt_lt, show (10 : Int32) = nI 10 from rfl, pk_sub_toInt (by decide) (by omega)]
      have : (1 : Int32).toInt = 1 := rfl
      omega
    rw [if_neg e]
  · rw [if_neg (show ¬ (9 : Int32) ≤ nI a from fun q => h9 ((nI_leI (a := 9) (b := a) (by decide) (by omega)).mp q))]
    have e : (1 : Int32) < (10 : Int32) - nI a := by
      rw [Int32.lt_iff_toInt_lt, show (10 : Int32) = nI 10 from rfl, pk_sub_toInt (by decide) (by omega)]
      have : (1 : Int32).toInt = 1 := rfl
      omega
    rw [if_pos e]
/-- what it is worth -/
theorem worthL {w pc oc gc B : Nat} {σ σ' : St} {P G : Nat} (h : WL w pc oc gc B σ σ' P G) {g : Nat} (hg : g < G) (hB : B ≤ 2 ^ 30) : fL_worth gc 64 (nI (8 * g)) σ' = some (fX3_worth (w + 7 + g) σ) := by
  have hG := h.1.2
  obtain ⟨x0, -, -, -, x4, -, -, x7⟩ := h.x (show g < 8 by omega)
  obtain ⟨-, -, -, -, ⟨a, ha, ea⟩, -⟩ := h.2.2.2.2.2.2.2.2.2.2.2 g hg
  unfold fL_worth fX3_worth
  simp (disch := omega) only [nk4, nk6, grd_t (inbN (show 8 * g + 4 < 64 by omega) (by decide)), grd_t (inbN (show 8 * g + 6 < 64 by omega) (by decide)), grd_t (inbN (show 8 * g < 64 by omega) (by decide)), tcl, bnd]
  rw [x0, x4, x7, ea, worthI (by omega)]
  generalize σ'.1 gc (8 * g + 6) = c
  generalize σ'.1 gc (8 * g) = k
  simp only [Option.bind_some]
  by_cases h3 : k = (2 : Int32)
  · simp only [h3, if_true]
    by_cases h1 : (9 : Int32) < c
    · rw [if_pos h1, if_pos (Int32.le_of_lt h1)]
    · rw [if_neg h1]
      by_cases h2 : (9 : Int32) ≤ c
      · rw [if_pos h2, show c = (9 : Int32) from Int32.le_antisymm (Int32.not_lt.mp h1) h2]
      · rw [if_neg h2]
  · simp only [h3, if_false]
theorem xlivesL {w pc oc gc B : Nat} {σ σ' : St} {P G : Nat} (h : WL w pc oc gc B σ σ' P G) {g : Nat} (hg : g < 8) : fX3_lives (w + 7 + g) σ = if σ'.1 gc (8 * g + 7) = 0 then (1 : Int32) else (0 : Int32) := by
  unfold fX3_lives
  rw [(h.x hg).2.2.2.2.2.2.1]
theorem heldL {w pc oc gc B : Nat} {σ σ' : St} {P G : Nat} (h : WL w pc oc gc B σ σ' P G) (c : Int32) : ∀ (d i n m a : Nat), i + d = G → a ≤ i → d < n → d < m → ∃ r, r ≤ G ∧ fX7_heldBy_L4 w c σ n (nI a) (nI i) = some (nI r) ∧ fL_holds_L5 pc 27 gc 64 c σ' m (nI a) (nI i) = some (nI r) := by
  obtain ⟨⟨hP, hG⟩, ⟨p0, p1⟩, ⟨g0, g1⟩, -⟩ := id h
  intro d
  induction d with
  | zero =>
    intro i n m a hi ha hn hm
    obtain ⟨n, rfl, -⟩ := su hn
    obtain ⟨m, rfl, -⟩ := su hm
    have e : i = G := by omega
    subst e
    rw [fX7_heldBy_L4, fL_holds_L5, grd_t (show inb (25 : Int32) 27 = true from by decide), show (25 : Int32).toNatClampNeg = 25 from rfl, g0, g1, if_pos (nI_le (a := i) (b := i) (by omega) (by omega)), if_pos (nI_le (a := i) (b := i) (by omega) (by omega))]
    exact ⟨a, ha, rfl, rfl⟩
  | succ d ih =>
    intro i n m a hi ha hn hm
    obtain ⟨n, rfl, hn⟩ := su hn
    obtain ⟨m, rfl, hm⟩ := su hm
    rw [fX7_heldBy_L4, fL_holds_L5, grd_t (show inb (25 : Int32) 27 = true from by decide), show (25 : Int32).toNatClampNeg = 25 from rfl, g0, g1, if_neg (nI_ge (a := i) (b := G) (by omega) (by omega)), if_neg (nI_ge (a := i) (b := G) (by omega) (by omega))]
    simp (disch := omega) only [grd_t (inbN (show i < 8 by omega) (by decide)), tcl, xlivesL h, ix8_2, ix8_7, grd_t (inbN (show 8 * i + 2 < 64 by omega) (by decide)), grd_t (inbN (show 8 * i + 7 < 64 by omega) (by decide)), nI_1]
    rw [(h.x (show i < 8 by omega)).2.2.1]
    by_cases e1 : σ'.1 gc (8 * i + 7) = 0
    · simp only [e1, if_true, n10, if_false]
      by_cases e2 : σ'.1 gc (8 * i + 2) = c
      · simp only [e2, if_true, Option.bind_some, nI_1]
        exact ih (i + 1) n m (a + 1) (by omega) (by omega) (by omega) (by omega)
      · simp only [e2, if_false, Option.bind_some]
        rw [show nI a + (0 : Int32) = nI a from by simp]
        exact ih (i + 1) n m a (by omega) (by omega) (by omega) (by omega)
    · simp only [e1, if_false, if_true, Option.bind_some]
      rw [show nI a + (0 : Int32) = nI a from by simp]
      exact ih (i + 1) n m a (by omega) (by omega) (by omega) (by omega)
theorem held {w pc oc gc B : Nat} {σ σ' : St} {P G : Nat} (h : WL w pc oc gc B σ σ' P G) (c : Int32) : ∃ r, r ≤ G ∧ fX7_heldBy w c σ = some (nI r) ∧ fL_holds pc 27 gc 64 c σ' = some (nI r) := by
  obtain ⟨r, hr, a, b⟩ := heldL h c G 0 fu fu 0 (by omega) (by omega) (fu_gt (by have := h.1.2; omega)) (fu_gt (by have := h.1.2; omega))
  unfold fX7_heldBy fL_holds
  rw [show (0 : Int32) = nI 0 from rfl, a, b]
  exact ⟨r, hr, rfl, rfl⟩
theorem m1_lt0 : ((-1 : Int32) < 0) = True := by decide
/-- who MAY HAVE a gift: of holder k, who has it from fr -/
theorem mayL {w pc oc gc B : Nat} {σ σ' : St} {P G : Nat} (h : WL w pc oc gc B σ σ' P G) (hl : LL σ σ') {k : Nat} (hk : k < 8) {fr : Int32} (hfr : fr = -1 ∨ isN fr P) : ∃ b, b < 2 ^ P ∧ fX7_mayHave w fr (nI k) (σ.1 3 1) σ = some (nI b) ∧ fL_may pc 27 58 4 (nI k) fr σ' = some (nI b) := by
  obtain ⟨⟨hP, hG⟩, ⟨p0, p1⟩, ⟨g0, g1⟩, hwh, hwk, hwf, hwl, hwd, hwg, v1, v2⟩ := id h
  obtain ⟨⟨-, l1, -⟩, hb, -⟩ := hl
  obtain ⟨bb, hbb, eb⟩ := v1 k hk
  have xb : σ.1 (w + 2) k = nI bb := (hwk k hk).trans eb
  unfold fX7_mayHave fL_may
  rw [n9p]
  simp (disch := omega) only [grd_t (inbN hk (by decide)), grd_t (inbN (show 9 + k < 27 by omega) (by decide)), grd_t (show inb (1 : Int32) 4 = true from by decide), show (1 : Int32).toNatClampNeg = 1 from rfl, tcl, xb, eb, bnd, ← l1]
  have key : ∃ o, o < 2 ^ P ∧ nI bb &&& (fX8_bit fr ^^^ (-1 : Int32)) = nI o ∧ (if fr < 0 then nI bb else nI bb &&& (((1 : Int32) <<< (fr &&& 31)) ^^^ (-1 : Int32))) = nI o := by
    rcases hfr with rfl | ⟨f, hf, rfl⟩
    · refine ⟨bb, hbb, ?_, by rw [if_pos (by decide)]⟩
      rw [show fX8_bit (-1) ^^^ (-1 : Int32) = -1 from by decide]
      simp
    · refine ⟨_, clr_lt hbb, bt_clr bb (p2_256 hP hbb) f (by omega), ?_⟩
      rw [if_neg (nI_pos (n := f) (by omega)), ← bitN f (by omega), bt_clr bb (p2_256 hP hbb) f (by omega)]
  obtain ⟨o, ho, e1, e2⟩ := key
  rw [e1, e2]
  by_cases z : nI o = 0
  · rw [if_pos z, if_pos z]
    rcases hb with hb | hb
    · rw [hb, if_pos rfl, if_neg (by decide)]
      exact ⟨o, ho, rfl, rfl⟩
    · rw [hb, if_neg (by decide), if_pos rfl]
      rcases hfr with rfl | ⟨f, hf, rfl⟩
      · rw [if_pos (by decide)]
        refine ⟨o, ho, ?_, rfl⟩
        rw [show nI bb &&& fX8_bit (-1) = nI o from by rw [z, show fX8_bit (-1) = 0 from by decide]; simp]
      · rw [if_neg (nI_pos (n := f) (by omega)), ← bitN f (by omega)]
        rw [z] at e1
        exact ⟨bb, hbb, by rw [and_self_of e1], by rw [and_self_of e1]⟩
  · rw [if_neg z, if_neg z]
    exact ⟨o, ho, rfl, rfl⟩
