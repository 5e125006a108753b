/-! THE TURNS -/
theorem WL.cg {w pc oc gc B : Nat} {σ σ' τ τ' : St} {P G : Nat} (h : WL w pc oc gc B σ σ' P G) (hx : ∀ a b, w ≤ a → a < w + 15 → τ.1 a b = σ.1 a b) (h1 : ∀ b, τ'.1 pc b = σ'.1 pc b) (h2 : ∀ b, τ'.1 oc b = σ'.1 oc b) (h3 : ∀ b, τ'.1 gc b = σ'.1 gc b) (h4 : ∀ b, τ'.1 61 b = σ'.1 61 b) : WL w pc oc gc B τ τ' P G := by
  obtain ⟨a1, a2, a3, a4, a5, a6, a7, a8, a9, v1, v2, v3⟩ := h
  refine ⟨a1, ?_, ?_, fun i hi => ?_, fun i hi => ?_, fun i hi => ?_, fun i hi => ?_, fun i hi => ?_, fun g hg k hk => ?_, fun i hi => ?_, fun i hi => ?_, fun g hg => ?_⟩
  · rw [hx _ _ (by omega) (by omega), h1]; exact a2
  · rw [hx _ _ (by omega) (by omega), h1]; exact a3
  · rw [hx _ _ (by omega) (by omega), h1]; exact a4 i hi
  · rw [hx _ _ (by omega) (by omega), h1]; exact a5 i hi
  · rw [hx _ _ (by omega) (by omega), h1]; exact a6 i hi
  · rw [hx _ _ (by omega) (by omega), h4]; exact a7 i hi
  · rw [hx _ _ (by omega) (by omega), h2]; exact a8 i hi
  · rw [hx _ _ (by omega) (by omega), h3]; exact a9 g hg k hk
  · rw [h1]; exact v1 i hi
  · rw [h1]; exact v2 i hi
  · unfold GVl
    rw [h3, h3, h3, h3, h3, h3]
    exact v3 g hg
def Tp (B P G : Nat) (σ : St) : Prop := WL 4 60 62 63 B σ σ P G ∧ Rs σ ∧ 2 ≤ P ∧ 1 ≤ G
theorem fl_gt {ks : List Nat} {σ τ : St} (h : Fr ks σ τ) (hk : ks.all (fun x => decide (x < 58)) = true) : ∀ a b, 58 ≤ a → τ.1 a b = σ.1 a b := fun a b ha => h a b (fun hm => by
  have h1 := of_decide_eq_true (List.all_eq_true.mp hk _ hm)
  unfold key at h1
  split at h1 <;> omega)
theorem asL {B : Nat} {σ : St} {P G : Nat} (h : WL 4 60 62 63 B σ σ P G) {k : Nat} (hk : k < G) : ∀ (d i n : Nat), i + d = 5 → d < n → fL_law_L174 (nI k) σ n (nI i) = some (.inr ()) := by
  have hG := h.1.2
  obtain ⟨x0, -⟩ := h.x (show k < 8 by omega)
  intro d
  induction d with
  | zero =>
    intro i n hi hn
    obtain ⟨n, rfl, -⟩ := su hn
    have e : i = 5 := by omega
    subst e
    rw [fL_law_L174, if_pos (show (5 : Int32) ≤ nI 5 by decide)]
  | succ d ih =>
    intro i n hi hn
    obtain ⟨n, rfl, hn⟩ := su hn
    rw [fL_law_L174, if_neg (show ¬ (5 : Int32) ≤ nI i from nI_ge (a := i) (b := 5) (by omega) (by decide))]
    have ew : fX8_within (nI i) (0 : Int32) (4 : Int32) = 1 := by
      rcases (show i = 0 ∨ i = 1 ∨ i = 2 ∨ i = 3 ∨ i = 4 by omega) with rfl | rfl | rfl | rfl | rfl <;> rfl
    unfold fX8_as fX3_isOf
    rw [isG1 h.2.2.1.1 hG hk, ew, if_neg (by decide), if_neg (by decide), grd_t (inbN (show k < 8 by omega) (by decide)), tcl (by omega), ix80, grd_t (inbN (show 8 * k < 64 by omega) (by decide)), grd_t (inbN (show 8 * k < 64 by omega) (by decide)), tcl (by omega), x0, nI_1]
    by_cases c0 : nI i = 0
    · simp only [c0, if_true, n10, if_false, Option.bind_some]
      exact ih (i + 1) n (by omega) (by omega)
    · by_cases c1 : nI i = σ.1 63 (8 * k)
      · simp only [if_neg c0, if_pos c1, n10, if_false, if_true, Option.bind_some]
        exact ih (i + 1) n (by omega) (by omega)
      · by_cases c2 : nI i = (1 : Int32)
        · by_cases c3 : σ.1 63 (8 * k) = (4 : Int32)
          · simp only [if_neg c0, if_neg c1, if_pos c2, if_pos c3, n10, if_false, if_true, Option.bind_some]
            exact ih (i + 1) n (by omega) (by omega)
          · simp only [if_neg c0, if_neg c1, if_pos c2, if_neg c3, if_true, Option.bind_some]
            exact ih (i + 1) n (by omega) (by omega)
        · simp only [if_neg c0, if_neg c1, if_neg c2, if_true, Option.bind_some]
          exact ih (i + 1) n (by omega) (by omega)
theorem assL {B : Nat} {σ : St} {P G : Nat} (h : WL 4 60 62 63 B σ σ P G) : ∀ (d i n : Nat), i + d = G → d < n → fL_law_L161 σ n (nI i) = some (.inr ()) := by
  have hG := h.1.2
  intro d
  induction d with
  | zero =>
    intro i n hi hn
    obtain ⟨n, rfl, -⟩ := su hn
    have e : i = G := by omega
    subst e
    rw [fL_law_L161, grd_t (show inb (25 : Int32) 27 = true from by decide), show (25 : Int32).toNatClampNeg = 25 from rfl, h.2.2.1.2, if_pos (nI_le (a := i) (b := i) (by omega) (by omega))]
  | succ d ih =>
    intro i n hi hn
    obtain ⟨n, rfl, hn⟩ := su hn
    rw [fL_law_L161, grd_t (show inb (25 : Int32) 27 = true from by decide), show (25 : Int32).toNatClampNeg = 25 from rfl, h.2.2.1.2, if_neg (nI_ge (a := i) (b := G) (by omega) (by omega)), show fL_law_L174 (nI i) σ fu (0 : Int32) = some (.inr ()) from asL h (show i < G by omega) 5 0 fu (by omega) (fu_gt (by omega))]
    simp only [Option.bind_some, Sum.elim_inr, nI_1]
    exact ih (i + 1) n (by omega) (by omega)
/-- who may have it, by both -/
theorem mayT {B P G : Nat} {σ : St} (h : Tp B P G σ) {k : Nat} (hk : k < G) : ∃ b, b < 2 ^ P ∧ fX8_whoMayHave (nI k) σ = some (nI b) ∧ fL_may 60 27 58 4 (σ.1 63 (8 * k + 2)) (σ.1 63 (8 * k + 3)) σ = some (nI b) ∧ fX8_may (nI k) σ = some (if σ.1 63 (8 * k + 7) ≤ 0 then nI b else -103) := by
  obtain ⟨hW, hR, -, -⟩ := h
  obtain ⟨⟨hP, hG⟩, ⟨p0, p1⟩, ⟨g0, g1⟩, hwh, hwk, hwf, hwl, hwd, hwg, v1, v2, v4⟩ := id hW
  obtain ⟨-, -, ⟨hh, hhh, eh⟩, g4, -, ⟨f, hf, ef⟩⟩ := v4 k hk
  obtain ⟨x0, x1, x2, x3, x4, x5, x6, x7⟩ := hW.x (show k < 8 by omega)
  obtain ⟨b, hb, e1, e2⟩ := mayL hW hR.1 (show hh < 8 by omega) g4
  have e3 : fX8_whoMayHave (nI k) σ = some (nI b) := by
    unfold fX8_whoMayHave
    rw [grd_t (inbN (show k < 8 by omega) (by decide)), tcl (by omega)]
    rw [show σ.1 (4 + 7 + k) 3 = σ.1 63 (8 * k + 3) from x3, show σ.1 (4 + 7 + k) 2 = nI hh from x2.trans eh, e1]
    rfl
  refine ⟨b, hb, e3, by rw [eh]; exact e2, ?_⟩
  unfold fX8_may
  rw [isG1 g0 hG hk, if_neg (by decide), grd_t (inbN (show k < 8 by omega) (by decide)), tcl (by omega), xlivesL hW (show k < 8 by omega), e3, ef]
  rcases (show f = 0 ∨ f = 1 ∨ f = 2 by omega) with rfl | rfl | rfl <;> rfl
/-- a gift given by hand, by both -/
theorem giveT {B P G : Nat} {σ : St} (h : Tp B P G σ) (hB : B ≤ 2 ^ 28) {k p b : Nat} (hk : k < G) (hp : p < P) (hb : b < 2 ^ P) (hw : fX8_whoMayHave (nI k) σ = some (nI b)) :
    ∃ r τ1 τ, fX8_give (nI k) (nI p) σ = some (r, τ1) ∧ Tp (B + 2) P G τ ∧ ((σ.1 63 (8 * k + 7) = 0 ∧ b.testBit p = true ∧ fL_give 60 27 58 4 63 64 62 64 (nI k) (nI p) τ1 = some (r, τ)) ∨ (¬ (σ.1 63 (8 * k + 7) = 0 ∧ b.testBit p = true) ∧ r = -103 ∧ τ = τ1)) := by
  obtain ⟨hW, hR, h2, h1⟩ := h
  obtain ⟨⟨hP, hG⟩, ⟨p0, p1⟩, ⟨g0, g1⟩, -⟩ := id hW
  have hdc : Dc 60 62 63 := by unfold Dc; decide
  have hb8 := p2_256 hP hb
  unfold fX8_give
  rw [isG1 g0 hG hk, isP1 p0 hP hp, if_neg (by decide), if_neg (by decide), grd_t (inbN (show k < 8 by omega) (by decide)), tcl (by omega), xlivesL hW (show k < 8 by omega), hw]
  by_cases z : σ.1 63 (8 * k + 7) = 0
  · by_cases t : b.testBit p = true
    · obtain ⟨r0, τ1, τ0, e1, -⟩ := handL hdc hW hk hp (mo := σ.1 3 3) hR.1.1.2.2.2 z (by omega)
      have fr := frX7_handOn 4 (4 + 7 + k) _ _ σ isW_4 (obGn isW_4 (by omega)) τ1 e1
      have f58 := fl_gt fr (by simp; omega)
      have hW1 : WL 4 60 62 63 B σ τ1 P G := hW.cg (fun _ _ _ _ => rfl) (fun b => f58 60 b (by omega)) (fun b => f58 62 b (by omega)) (fun b => f58 63 b (by omega)) (fun b => f58 61 b (by omega))
      obtain ⟨r, τx, τ, q1, q2, q3, q4, q5, q6⟩ := handL hdc hW1 hk hp (mo := σ.1 3 3) (by rw [f58 58 3 (by omega)]; exact hR.1.1.2.2.2) (by rw [f58 63 _ (by omega)]; exact z) (by omega)
      have ex : τx = τ1 := Option.some.inj (q1.symm.trans e1)
      subst ex
      have k3 : ∀ b, τx.1 3 b = σ.1 3 b := fun b => fr 3 b (by rw [key_ne (by decide)]; simp; omega)
      refine ⟨r, τx, τ, ?_, ⟨q3.cg (fun a b _ _ => q6 a b (by omega) (by omega) (by omega)) (fun _ => rfl) (fun _ => rfl) (fun _ => rfl) (fun _ => rfl), hR.cong (fun b => (q6 3 b (by decide) (by decide) (by omega)).trans (k3 b)) (fun b => (q6 58 b (by decide) (by decide) (by omega)).trans (f58 58 b (by omega))) ((q6 4 8 (by decide) (by decide) (by omega)).trans (fr 4 8 (by rw [key_ne (by decide)]; simp; omega))) ((q6 60 26 (by decide) (by decide) (by omega)).trans (f58 60 26 (by omega))) ((q6 69 0 (by decide) (by decide) (by omega)).trans (f58 69 0 (by omega))), h2, h1⟩, Or.inl ⟨z, t, q2⟩⟩
      rw [if_pos z, if_neg (by decide)]
      simp only [obs]
      rw [if_neg (fun q => by rw [(bt_and b hb8 p (by omega)).mp q] at t; cases t), grd_t (inbN (show k < 8 by omega) (by decide)), q1]
      simp only [obs]
      rw [grd_t (inbN (show k < 8 by omega) (by decide)), q4]
    · rw [if_pos z, if_neg (by decide)]
      simp only [obs]
      rw [if_pos ((bt_and b hb8 p (by omega)).mpr (by simpa using t))]
      exact ⟨-103, σ, σ, rfl, ⟨hW.mono (by omega), hR, h2, h1⟩, Or.inr ⟨fun q => t q.2, rfl, rfl⟩⟩
  · rw [if_neg z, if_pos rfl]
    exact ⟨-103, σ, σ, rfl, ⟨hW.mono (by omega), hR, h2, h1⟩, Or.inr ⟨fun q => z q.1, rfl, rfl⟩⟩
/-- to whom it is offered -/
theorem offerL {P : Nat} {σ : St} (h2 : 2 ≤ P) (hP : P ≤ 8) (p1 : σ.1 60 0 = nI P) (c10 c11 c12 c13 c14 : Int32) : ∀ (d i n p : Nat), i + d = 8 → d < n → p < P → ∃ p', p' < P ∧ fL_law_L375 c10 c11 c12 c13 c14 σ n (nI p) (nI i) = some (nI p') := by
  have e2 : decide (¬ nI P = 0) = true := decide_eq_true (fun q => by have := (nI_inj (a := P) (b := 0) (by omega) (by decide)).mp q; omega)
  intro d
  induction d with
  | zero =>
    intro i n p hi hn hp
    obtain ⟨n, rfl, -⟩ := su hn
    have e : i = 8 := by omega
    subst e
    rw [fL_law_L375, if_pos (show (8 : Int32) ≤ nI 8 by decide)]
    exact ⟨p, hp, rfl⟩
  | succ d ih =>
    intro i n p hi hn hp
    obtain ⟨n, rfl, hn⟩ := su hn
    obtain ⟨j, hj, ej⟩ := at_c (c11 >>> ((8 : Int32) &&& 31)) (n := 8) (by decide) (by decide)
    rw [fL_law_L375, if_neg (show ¬ (8 : Int32) ≤ nI i from nI_ge (a := i) (b := 8) (by omega) (by decide)), show fL_at (c11 >>> ((8 : Int32) &&& 31)) (8 : Int32) = some (nI j) from ej]
    simp only [obs]
    by_cases c : nI j ≤ 0
    · rw [if_pos c]; exact ⟨p, hp, rfl⟩
    · rw [if_neg c]
      by_cases c' : ((c14 >>> (nI p &&& 31)) &&& (1 : Int32)) = 0
      · rw [if_pos c', grd_t (show inb (0 : Int32) 27 = true from by decide), show (0 : Int32).toNatClampNeg = 0 from rfl, p1, grd_t e2, nk1, vI_mod (by omega) (by omega), nI_1]
        simp only [bnd_eq]
        exact ih (i + 1) n _ (by omega) (by omega) (Nat.mod_lt _ (by omega))
      · rw [if_neg c']; exact ⟨p, hp, rfl⟩
