def DC (P : Nat) (Kn Lk : Nat → Nat) : Prop := P ≤ 8 ∧ (∀ h, h < 8 → Kn h < 2 ^ P) ∧ (∀ j, j < 64 → Lk j < 10)
def DX (P : Nat) (Kn Lk : Nat → Nat) (σ : St) : Prop := σ.1 4 0 = nI P ∧ (∀ h, h < 8 → σ.1 6 h = nI (Kn h)) ∧ (∀ j, j < 64 → σ.1 8 j = nI (Lk j))
/-- what giver p can add behind S by giving to q -/
def gf (P : Nat) (Kn Lk : Nat → Nat) (p S q : Nat) : Option Nat := mby Kn Lk p S q (rvl P Kn Lk (P - (p + 1)) (S ||| 2 ^ q))
theorem rvl_step {P p S : Nat} {Kn Lk : Nat → Nat} (hp : p < P) : rvl P Kn Lk (P - p) S = mfo (gf P Kn Lk p S) P := by
  have e : P - p = (P - (p + 1)) + 1 := by omega
  have e2 : P - (P - (p + 1) + 1) = p := by omega
  rw [e, rvl, e2]
  rfl
theorem rvl_bd {P : Nat} {Kn Lk : Nat → Nat} (c : DC P Kn Lk) {d : Nat} (hd : d ≤ P) (S : Nat) : bdd (rvl P Kn Lk d S) 900 := (bdd_rvl c.1 c.2.2 d hd S).mono (by have := c.1; omega)
theorem gf_bd {P : Nat} {Kn Lk : Nat → Nat} (c : DC P Kn Lk) {p S q : Nat} (hp : p < P) (hq : q < P) : bdd (gf P Kn Lk p S q) 1000 := (bdd_mby (c.2.2 _ (by have := c.1; omega)) (rvl_bd c (by omega) _)).mono (by omega)
theorem mostByX {P : Nat} {Kn Lk : Nat → Nat} {σ : St} (c : DC P Kn Lk) (x : DX P Kn Lk σ) {S q : Nat} {b : Option Nat} (hS : S < 2 ^ P) (hp : pcs S 8 < 8) (hq : q < P) (hb : bdd b 900) (e : S.testBit q = false → σ.1 54 (S ||| 2 ^ q) = oI b) : fX1_mostBy 4 (nI S) (nI q) σ = some (oI (mby Kn Lk (pcs S 8) S q b)) := by
  obtain ⟨hP, hK, hL⟩ := c
  obtain ⟨x0, x6, x8⟩ := x
  have hS8 := p2_256 hP hS
  have hk8 := p2_256 hP (hK _ hp)
  unfold fX1_mostBy mby
  rw [bc_pcs S hS8, bnd_eq]
  by_cases y : S.testBit q = true
  · rw [if_neg (fun z => by rw [(bt_and S hS8 q (by omega)).mp z] at y; cases y), if_neg (fun z => by rw [z.2] at y; cases y)]
    rfl
  · have y' : S.testBit q = false := by simpa using y
    rw [if_pos ((bt_and S hS8 q (by omega)).mpr y')]
    unfold fX7_knows
    rw [grd_t (inbN hp (by decide)), tcl (by omega), show 4 + 2 = 6 from rfl, x6 _ hp]
    by_cases z : (Kn (pcs S 8)).testBit q = true
    · rw [if_neg (fun w => by rw [(bt_and _ hk8 q (by omega)).mp w] at z; cases z), obs, if_neg (show ¬ (1 : Int32) = 0 by decide), bt_or S hS8 q (by omega), grd_t (inbN (p2_256 hP (or_lt hS hq)) (by decide)), tcl (Nat.lt_trans (p2_256 hP (or_lt hS hq)) (by decide)), bnd_eq, e y', if_pos (show (Kn (pcs S 8)).testBit q = true ∧ S.testBit q = false from ⟨z, y'⟩)]
      cases b with
      | none => rfl
      | some v =>
        have := hb v rfl
        rw [show oI (some v) = nI v from rfl, if_neg (nI_ne_m1 (by omega)), pairN, grd_t (inbN (show 8 * pcs S 8 + q < 64 by omega) (by decide)), tcl (by omega), show 4 + 4 = 8 from rfl, x8 _ (by omega), nI_add]
        rfl
    · rw [if_pos ((bt_and _ hk8 q (by omega)).mpr (by simpa using z)), obs, if_pos rfl, if_neg (fun w => z w.1)]
      rfl
theorem behL {P S : Nat} {f : Nat → Option Nat} {σ : St} (hP : P ≤ 8) (x0 : σ.1 4 0 = nI P) (hf : ∀ q, q < P → fX1_mostBy 4 (nI S) (nI q) σ = some (oI (f q)) ∧ bdd (f q) 1000) : ∀ (d i n : Nat), i + d = P → d < n → fX1_mostBehind_L5 4 (nI S) σ n (oI (mfo f i)) (nI i) = some (oI (mfo f P)) := by
  intro d
  induction d with
  | zero =>
    intro i n hi hn
    obtain ⟨n, rfl, -⟩ := su hn
    have ei : i = P := by omega
    subst ei
    rw [fX1_mostBehind_L5, x0, if_pos (nI_le (a := i) (b := i) (by omega) (by omega))]
  | succ d ih =>
    intro i n hi hn
    obtain ⟨n, rfl, hn⟩ := su hn
    have hiP : i < P := by omega
    rw [fX1_mostBehind_L5, x0, if_neg (nI_ge (a := i) (b := P) (by omega) (by omega)), (hf i hiP).1, obs, bnd_eq, omxX (bdd_mfo (fun q hq => (hf q (by omega)).2)) (hf i hiP).2, nI_1]
    exact ih (i + 1) n (by omega) (by omega)
/-- the class's table is right from T on -/
def TX (P : Nat) (Kn Lk : Nat → Nat) (i : Nat) (σ : St) : Prop := ∀ T, i ≤ T → T < 2 ^ P → σ.1 54 T = oI (rvl P Kn Lk (P - pcs T 8) T)
theorem gfX {P : Nat} {Kn Lk : Nat → Nat} {σ : St} (c : DC P Kn Lk) (x : DX P Kn Lk σ) {S : Nat} (hS : S < 2 ^ P) (hp : pcs S 8 < P) (t : TX P Kn Lk (S + 1) σ) : ∀ q, q < P → fX1_mostBy 4 (nI S) (nI q) σ = some (oI (gf P Kn Lk (pcs S 8) S q)) ∧ bdd (gf P Kn Lk (pcs S 8) S q) 1000 := by
  intro q hq
  have hP := c.1
  refine ⟨mostByX c x hS (by omega) hq (rvl_bd c (by omega) _) (fun y => ?_), gf_bd c hp hq⟩
  obtain ⟨q1, q2⟩ := pcs_or S (p2_256 hP hS) q (by omega) y
  rw [t _ (by omega) (or_lt hS hq), q1]
theorem behX {P : Nat} {Kn Lk : Nat → Nat} {σ : St} (c : DC P Kn Lk) (x : DX P Kn Lk σ) {S : Nat} (hS : S < 2 ^ P - 1) (t : TX P Kn Lk (S + 1) σ) : fX1_mostBehind 4 (nI S) σ = some (oI (rvl P Kn Lk (P - pcs S 8) S)) := by
  have hP := c.1
  have hp := pcs_P P hP S hS
  have := behL (S := S) hP x.1 (gfX c x (by omega) hp t) P 0 fu (by omega) (fu_gt (by omega))
  rw [show oI (mfo (gf P Kn Lk (pcs S 8) S) 0) = (-1 : Int32) from rfl, nI_0] at this
  unfold fX1_mostBehind
  rw [this, obs, rvl_step hp]
theorem findXL {P : Nat} {Kn Lk : Nat → Nat} (c : DC P Kn Lk) : ∀ (i n : Nat) (σ : St), i < n → i ≤ 2 ^ P - 1 → DX P Kn Lk σ → TX P Kn Lk i σ → ∃ τ, fX1_find_L20 4 n (nI i - 1) σ = some τ ∧ (∀ a b, a ≠ 54 → τ.1 a b = σ.1 a b) ∧ TX P Kn Lk 0 τ := by
  intro i
  induction i with
  | zero =>
    intro n σ hn _ x t
    obtain ⟨n, rfl, -⟩ := su hn
    rw [fX1_find_L20, if_pos (show nI 0 - 1 < (0 : Int32) by decide)]
    exact ⟨σ, rfl, fun _ _ _ => rfl, t⟩
  | succ i ih =>
    intro n σ hn hi x t
    obtain ⟨n, rfl, hn⟩ := su hn
    have hP := c.1
    have h256 := p2_256 hP (show i < 2 ^ P by omega)
    rw [fX1_find_L20, nI_pred, if_neg (nI_pos (by omega)), behX c x (by omega) t, obs, grd_t (inbN h256 (by decide)), tcl (by omega), bnd_eq, dec_1]
    obtain ⟨τ, e1, e2, e3⟩ := ih n (setI σ 54 i (oI (rvl P Kn Lk (P - pcs i 8) i))) (by omega) (by omega) ⟨x.1, x.2.1, x.2.2⟩ (fun T h1 h2 => by
      rw [setI_1]
      by_cases z : T = i
      · rw [if_pos ⟨rfl, z⟩, z]
      · rw [if_neg (fun y => z y.2)]
        exact t T (by omega) h2)
    exact ⟨τ, e1, fun a b h => by rw [e2 a b h, setI_oo (fun y => h y.1)], e3⟩
def lqS : Option Nat → Sum Int32 Unit
  | none => .inr ()
  | some q => .inl (nI q)
theorem firstL {P S : Nat} {f : Nat → Option Nat} {t : Option Nat} {σ : St} (hP : P ≤ 8) (hS : S < 256) (x0 : σ.1 4 0 = nI P) (hf : ∀ q, q < P → fX1_mostBy 4 (nI S) (nI q) σ = some (oI (f q)) ∧ bdd (f q) 1000) (ht : bdd t 1000) (e54 : σ.1 54 S = oI t) : ∀ (d i n : Nat), i + d = P → d < n → fX1_firstOfMost_L11 4 (nI S) σ n (nI i) = some (lqS (leq f t d i)) := by
  intro d
  induction d with
  | zero =>
    intro i n hi hn
    obtain ⟨n, rfl, -⟩ := su hn
    have ei : i = P := by omega
    subst ei
    rw [fX1_firstOfMost_L11, x0, if_pos (nI_le (a := i) (b := i) (by omega) (by omega))]
    rfl
  | succ d ih =>
    intro i n hi hn
    obtain ⟨n, rfl, hn⟩ := su hn
    have hiP : i < P := by omega
    obtain ⟨f1, f2⟩ := hf i hiP
    rw [fX1_firstOfMost_L11, x0, if_neg (nI_ge (a := i) (b := P) (by omega) (by omega)), f1, obs, nI_1, grd_t (inbN hS (by decide)), tcl (by omega), e54, leq]
    by_cases z : f i = none
    · rw [if_pos ((oI_m1 f2).mpr z), if_neg (fun y => y.1 z)]
      exact ih (i + 1) n (by omega) (by omega)
    · rw [if_neg (fun y => z ((oI_m1 f2).mp y))]
      by_cases y : f i = t
      · rw [if_pos ((oI_inj f2 ht).mpr y), if_pos ⟨z, y⟩]
        rfl
      · rw [if_neg (fun w => y ((oI_inj f2 ht).mp w)), if_neg (fun w => y w.2)]
        exact ih (i + 1) n (by omega) (by omega)
/-- to whom p gives, S have something already -/
def gv (P : Nat) (Kn Lk : Nat → Nat) (S p : Nat) : Option Nat := if rvl P Kn Lk P 0 = none then none else leq (gf P Kn Lk p S) (rvl P Kn Lk (P - p) S) P 0
def gS (P : Nat) (Kn Lk : Nat → Nat) : Nat → Nat
  | 0 => 0
  | p + 1 => match gv P Kn Lk (gS P Kn Lk p) p with
    | none => gS P Kn Lk p
    | some q => gS P Kn Lk p ||| 2 ^ q
theorem gS_ok {P : Nat} {Kn Lk : Nat → Nat} (hP : P ≤ 8) (h : rvl P Kn Lk P 0 ≠ none) : ∀ i, i ≤ P → gS P Kn Lk i < 2 ^ P ∧ pcs (gS P Kn Lk i) 8 = i ∧ rvl P Kn Lk (P - i) (gS P Kn Lk i) ≠ none
  | 0, _ => ⟨Nat.pos_of_ne_zero (by simp [gS]), by rw [gS]; rfl, h⟩
  | i + 1, hi => by
    obtain ⟨h1, h2, h3⟩ := gS_ok hP h i (by omega)
    rw [rvl_step (show i < P by omega)] at h3
    obtain ⟨k, hk⟩ := Option.ne_none_iff_exists'.mp h3
    obtain ⟨q, hq, e⟩ := mfo_att hk
    have h4 : leq (gf P Kn Lk i (gS P Kn Lk i)) (rvl P Kn Lk (P - i) (gS P Kn Lk i)) P 0 ≠ none := leq_some (q := q) (by rw [rvl_step (show i < P by omega), hk, e]) (by rw [e]; exact Option.some_ne_none _) (Nat.zero_le _) (by omega)
    obtain ⟨r, hr⟩ := Option.ne_none_iff_exists'.mp h4
    obtain ⟨-, r1, r2, r3⟩ := leq_in hr
    have eg : gv P Kn Lk (gS P Kn Lk i) i = some r := by
      unfold gv
      rw [if_neg h, hr]
    rw [gS, eg]
    show gS P Kn Lk i ||| 2 ^ r < 2 ^ P ∧ pcs (gS P Kn Lk i ||| 2 ^ r) 8 = i + 1 ∧ rvl P Kn Lk (P - (i + 1)) (gS P Kn Lk i ||| 2 ^ r) ≠ none
    have r4 : (Kn i).testBit r = true ∧ (gS P Kn Lk i).testBit r = false := Classical.byContradiction (fun z => r3 (by unfold gf mby; rw [if_neg z]))
    refine ⟨or_lt h1 (by omega), by rw [(pcs_or _ (p2_256 hP h1) r (by omega) r4.2).1, h2], fun z => r3 ?_⟩
    unfold gf mby
    rw [if_pos r4, z]
    rfl
