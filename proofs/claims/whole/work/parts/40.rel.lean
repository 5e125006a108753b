/-! THE PURE PART: numbers -/
theorem lcmp_lt {x y : Int64} : lg_cmp x y < 0 ↔ x < y := by
  unfold lg_cmp
  by_cases h : x > y
  · rw [if_pos h]
    exact ⟨fun q => absurd q (by decide), fun q => (Int64.lt_irrefl (Int64.lt_trans q h)).elim⟩
  · rw [if_neg h]
    by_cases e : x = y
    · rw [if_pos e]; subst e
      exact ⟨fun q => absurd q (by decide), fun q => (Int64.lt_irrefl q).elim⟩
    · rw [if_neg e]
      refine ⟨fun _ => ?_, fun _ => by decide⟩
      replace h : ¬ y < x := h
      rw [Int64.lt_iff_toInt_lt] at h ⊢
      have : x.toInt ≠ y.toInt := fun q => e (Int64.toInt_inj.mp q)
      omega
theorem lcmp_gt {x y : Int64} : 0 < lg_cmp x y ↔ y < x := by
  unfold lg_cmp
  by_cases h : x > y
  · rw [if_pos h]
    exact ⟨fun _ => h, fun _ => by decide⟩
  · rw [if_neg h]
    refine ⟨fun q => ?_, fun q => absurd q h⟩
    by_cases e : x = y
    · rw [if_pos e] at q; exact absurd q (by decide)
    · rw [if_neg e] at q; exact absurd q (by decide)
theorem lcmp_eq {x y : Int64} : lg_cmp x y = 0 ↔ x = y := by
  unfold lg_cmp
  by_cases h : x > y
  · rw [if_pos h]
    exact ⟨fun q => absurd q (by decide), fun q => by subst q; exact (Int64.lt_irrefl h).elim⟩
  · rw [if_neg h]
    by_cases e : x = y
    · rw [if_pos e]; exact ⟨fun _ => e, fun _ => rfl⟩
    · rw [if_neg e]; exact ⟨fun q => absurd q (by decide), fun q => absurd q e⟩
theorem lcmp_le {x y : Int64} : lg_cmp x y ≤ 0 ↔ x ≤ y := by
  have h1 := lcmp_gt (x := x) (y := y)
  rw [← Int32.not_lt, h1, Int64.not_lt]
theorem inbN {k n : Nat} (h : k < n) (hn : n < 2 ^ 31) : inb (nI k) n = true := (inb_iff hn).mpr ⟨k, h, rfl⟩
theorem grd_t {α : Type} {b : Bool} {x : Option α} (h : b = true) : grd b x = x := by subst h; rfl
theorem tcl {k : Nat} (h : k < 2 ^ 31) : (nI k).toNatClampNeg = k := nI_clamp h
theorem lit (n : Nat) : (OfNat.ofNat n : Int32) = nI n := rfl
theorem ix8 (a b : Nat) : (8 : Int32) * nI a + nI b = nI (8 * a + b) := by
  rw [show (8 : Int32) = nI 8 from rfl, pk_mul, nI_add]
theorem ix8k (a b : Nat) : (8 : Int32) * nI a + (OfNat.ofNat b : Int32) = nI (8 * a + b) := ix8 a b
theorem ix80 (a : Nat) : (8 : Int32) * nI a = nI (8 * a) := by rw [show (8 : Int32) = nI 8 from rfl, pk_mul]
theorem pairN (a b : Nat) : fX8_pair (nI a) (nI b) = nI (8 * a + b) := by
  unfold fX8_pair
  rw [show (8 : Int32) = nI 8 from rfl, pk_mul, nI_add, Nat.mul_comm]
theorem wi2 (p a b : Int32) : fX9_in p.toInt64 a.toInt64 b.toInt64 = fX8_within p a b := by
  unfold fX9_in fX8_within
  simp only [lcmp_lt, lcmp_gt]
  have e1 : (p.toInt64 < a.toInt64) = (p < a) := by rw [Int64.lt_iff_toInt_lt, Int32.lt_iff_toInt_lt, Int32.toInt_toInt64, Int32.toInt_toInt64]
  have e2 : (b.toInt64 < p.toInt64) = (b < p) := by rw [Int64.lt_iff_toInt_lt, Int32.lt_iff_toInt_lt, Int32.toInt_toInt64, Int32.toInt_toInt64]
  simp only [e1, e2]
theorem within_c (p : Int32) {a b : Nat} (hb : b < 2 ^ 31) (ha : a ≤ b) : (∃ k, a ≤ k ∧ k ≤ b ∧ p = nI k ∧ fX8_within p (nI a) (nI b) = 1) ∨ ((∀ k, a ≤ k → k ≤ b → p ≠ nI k) ∧ fX8_within p (nI a) (nI b) = 0) := by
  unfold fX8_within
  by_cases h1 : p < nI a
  · right
    rw [if_pos h1]
    refine ⟨fun k h2 h3 e => ?_, rfl⟩
    subst e
    rw [nI_ltI (by omega) (by omega)] at h1
    omega
  · rw [if_neg h1]
    by_cases h2 : nI b < p
    · right
      rw [if_pos h2]
      refine ⟨fun k h3 h4 e => ?_, rfl⟩
      subst e
      rw [nI_ltI (by omega) (by omega)] at h2
      omega
    · left
      rw [if_neg h2]
      have h3 : ¬ p < 0 := by
        intro q
        apply h1
        rw [Int32.lt_iff_toInt_lt] at q ⊢
        rw [nI_toInt (by omega)]
        have : (0 : Int32).toInt = 0 := rfl
        omega
      obtain ⟨k, hk, rfl⟩ := nI_of h3
      rw [nI_ltI (by omega) (by omega)] at h1 h2
      exact ⟨k, by omega, by omega, rfl, rfl⟩
def sumI (f : Nat → Int32) : Nat → Int32
  | 0 => 0
  | n + 1 => sumI f n + f n
theorem sumI_cong {f g : Nat → Int32} : ∀ {n : Nat}, (∀ i, i < n → f i = g i) → sumI f n = sumI g n
  | 0, _ => rfl
  | n + 1, h => by rw [sumI, sumI, sumI_cong (fun i hi => h i (by omega)), h n (by omega)]
theorem sumI_upd {f : Nat → Int32} {k : Nat} {v : Int32} : ∀ {n : Nat}, k < n → sumI (fun b => if b = k then f k + v else f b) n = sumI f n + v
  | 0, h => absurd h (Nat.not_lt_zero _)
  | n + 1, h => by
    rw [sumI, sumI]
    by_cases e : k = n
    · subst e
      rw [if_pos rfl, sumI_cong (g := f) (fun i hi => by rw [if_neg (by omega)])]
      ac_rfl
    · rw [sumI_upd (by omega), if_neg (by omega)]
      ac_rfl
/-! THE RELATION of the two states: what the class holds, the reference holds -/
def Cells (f g : Nat → Int32) (n : Nat) : Prop := ∀ i, i < n → f i = g i
def isN (x : Int32) (n : Nat) : Prop := ∃ k, k < n ∧ x = nI k
/-- a GIFT's row is as it must be -/
def GV (mr : Nat → Int32) (P g : Nat) : Prop := isN (mr (8 * g)) 5 ∧ isN (mr (8 * g + 1)) P ∧ isN (mr (8 * g + 2)) P ∧ (mr (8 * g + 3) = -1 ∨ isN (mr (8 * g + 3)) P) ∧ isN (mr (8 * g + 6)) 3
def VM (P G : Nat) (fm : Int32) (mh mk mf ml mr : Nat → Int32) : Prop :=
  (∀ i, i < 8 → isN (mk i) (2 ^ P)) ∧ (∀ i, i < 8 → isN (mh i) 4) ∧ (∀ i, i < 64 → isN (ml i) 10) ∧ (∀ g, g < G → GV mr P g) ∧ fm = sumI mf P ∧ (∀ i, P ≤ i → i < 8 → mf i = 0)
def WRc (P G : Nat) (p0 g0 y0 : Int32) (wh wk wf wl wd : Nat → Int32) (wg : Nat → Nat → Int32) (p1 g1 y1 fm : Int32) (mh mk mf ml md mr : Nat → Int32) : Prop :=
  (P ≤ 8 ∧ G ≤ 8) ∧ (p0 = nI P ∧ p1 = nI P) ∧ (g0 = nI G ∧ g1 = nI G) ∧ (y0 = y1 ∨ True) ∧ Cells wh mh 8 ∧ Cells wk mk 8 ∧ Cells wf mf 8 ∧ Cells wl ml 64 ∧ Cells wd md 64 ∧ (∀ g, g < 8 → ∀ k, k < 8 → wg g k = mr (8 * g + k)) ∧ VM P G fm mh mk mf ml mr
def WR (w : Nat) (σ σ' : St) (P G : Nat) : Prop := WRc P G (σ.1 w 0) (σ.1 w 6) (σ.1 w 8) (σ.1 (w + 1)) (σ.1 (w + 2)) (σ.1 (w + 3)) (σ.1 (w + 4)) (σ.1 (w + 5)) (fun g => σ.1 (w + 7 + g)) (σ'.1 58 12) (σ'.1 58 20) (σ'.1 58 19) (σ'.1 58 18) (σ'.1 60) (σ'.1 61) (σ'.1 64) (σ'.1 62) (σ'.1 63) (σ'.1 65)
def LRc (a b c d a1 b1 c1 d1 : Int32) : Prop := a = a1 ∧ b = b1 ∧ c = c1 ∧ d = d1 ∧ (b = 0 ∨ b = 1) ∧ (c = 0 ∨ c = 1)
def LR (σ σ' : St) : Prop := LRc (σ.1 3 0) (σ.1 3 1) (σ.1 3 2) (σ.1 3 3) (σ'.1 58 2) (σ'.1 58 3) (σ'.1 58 4) (σ'.1 58 5)
def PRc (s0 s1 : Int32) (f g : Nat → Int32) : Prop := ∃ S, S ≤ 16 ∧ s0 = nI S ∧ s1 = nI S ∧ Cells f g 16
def PR (σ σ' : St) : Prop := PRc (σ.1 1 1) (σ'.1 58 1) (σ.1 2) (σ'.1 59)
/-- the IMAGE -/
def IRc (P : Nat) (h0 kg kp : Int32) (p0 g0 y0 : Int32) (wh0 wh wk wf wl wd : Nat → Int32) (wg : Nat → Nat → Int32) (y1 fm : Int32) (mk mf ml md mr : Nat → Int32) : Prop :=
  (h0 = 0 ∧ kg = -1) ∨ (h0 = 1 ∧ ∃ P1 G1, (P1 ≤ P ∧ y0 = y1) ∧ (∀ i, i < 8 → (i < P1 → wh i = wh0 i) ∧ (P1 ≤ i → wh i = 0)) ∧ WRc P1 G1 p0 g0 y0 wh wk wf wl wd wg kp kg y1 fm wh mk mf ml md mr)
def IR (σ σ' : St) (P : Nat) : Prop := IRc P (σ.1 0 10) (σ'.1 58 36) (σ'.1 58 37) (σ.1 19 0) (σ.1 19 6) (σ.1 19 8) (σ.1 5) (σ.1 20) (σ.1 21) (σ.1 22) (σ.1 23) (σ.1 24) (fun g => σ.1 (26 + g)) (σ'.1 58 39) (σ'.1 58 38) (σ'.1 80) (σ'.1 81) (σ'.1 79) (σ'.1 78) (σ'.1 77)
def BRc (P : Nat) (h n h1 n1 : Int32) (f g : Nat → Int32) : Prop := (n = 0 ∧ h1 = -1) ∨ (∃ H N, H < P ∧ 1 ≤ N ∧ N ≤ 7 ∧ h = nI H ∧ h1 = nI H ∧ n = nI N ∧ n1 = nI N ∧ Cells f g 8 ∧ ∀ i, i < 8 → g i = -1 ∨ isN (g i) P)
def BR (σ σ' : St) (P : Nat) : Prop := BRc P (σ.1 56 1) (σ.1 56 2) (σ'.1 58 33) (σ'.1 58 34) (σ.1 57) (σ'.1 76)
def RR (σ σ' : St) (P G : Nat) : Prop := LR σ σ' ∧ PR σ σ' ∧ WR 4 σ σ' P G ∧ (∀ i, P ≤ i → i < 8 → σ.1 5 i = 0) ∧ IR σ σ' P ∧ BR σ σ' P ∧ σ.1 0 9 = σ'.1 58 6 ∧ σ.1 4 8 = σ'.1 58 19
def Rel (σ σ' : St) : Prop := ∃ P G, RR σ σ' P G
theorem WRc.gifts {P G : Nat} {p0 g0 y0 : Int32} {wh wk wf wl wd : Nat → Int32} {wg wg' : Nat → Nat → Int32} {p1 g1 y1 fm : Int32} {mh mk mf ml md mr : Nat → Int32} (h : WRc P G p0 g0 y0 wh wk wf wl wd wg p1 g1 y1 fm mh mk mf ml md mr) (hg : ∀ g, g < 8 → wg' g = wg g) : WRc P G p0 g0 y0 wh wk wf wl wd wg' p1 g1 y1 fm mh mk mf ml md mr := by
  obtain ⟨h1, h2, h3, h4, h5, h6, h7, h8, h9, h10, h11⟩ := h
  exact ⟨h1, h2, h3, h4, h5, h6, h7, h8, h9, fun g hg8 k hk => by rw [hg g hg8]; exact h10 g hg8 k hk, h11⟩
theorem WR.cong {w : Nat} {σ σ' τ τ' : St} {P G : Nat} (h : WR w σ σ' P G) (hx : ∀ a, w ≤ a → a ≤ w + 14 → τ.1 a = σ.1 a) (h12 : τ'.1 58 12 = σ'.1 58 12) (h20 : τ'.1 58 20 = σ'.1 58 20) (h19 : τ'.1 58 19 = σ'.1 58 19) (h18 : τ'.1 58 18 = σ'.1 58 18) (hm : ∀ a, 60 ≤ a → a ≤ 65 → τ'.1 a = σ'.1 a) : WR w τ τ' P G := by
  unfold WR at h ⊢
  rw [hx w (by omega) (by omega), hx (w + 1) (by omega) (by omega), hx (w + 2) (by omega) (by omega), hx (w + 3) (by omega) (by omega), hx (w + 4) (by omega) (by omega), hx (w + 5) (by omega) (by omega), h12, h20, h19, h18, hm 60 (by omega) (by omega), hm 61 (by omega) (by omega), hm 62 (by omega) (by omega), hm 63 (by omega) (by omega), hm 64 (by omega) (by omega), hm 65 (by omega) (by omega)]
  exact h.gifts (fun g hg => hx (w + 7 + g) (by omega) (by omega))
theorem IR.cong {σ σ' τ τ' : St} {P : Nat} (h : IR σ σ' P) (h10 : τ.1 0 10 = σ.1 0 10) (hx : ∀ a, 19 ≤ a → a ≤ 33 → τ.1 a = σ.1 a) (h5 : τ.1 5 = σ.1 5) (hs : ∀ k, 36 ≤ k → k ≤ 39 → τ'.1 58 k = σ'.1 58 k) (hm : ∀ a, 77 ≤ a → a ≤ 81 → τ'.1 a = σ'.1 a) : IR τ τ' P := by
  unfold IR at h ⊢
  rw [h10, h5, hx 19 (by omega) (by omega), hx 20 (by omega) (by omega), hx 21 (by omega) (by omega), hx 22 (by omega) (by omega), hx 23 (by omega) (by omega), hx 24 (by omega) (by omega), hs 36 (by omega) (by omega), hs 37 (by omega) (by omega), hs 38 (by omega) (by omega), hs 39 (by omega) (by omega), hm 77 (by omega) (by omega), hm 78 (by omega) (by omega), hm 79 (by omega) (by omega), hm 80 (by omega) (by omega), hm 81 (by omega) (by omega)]
  rcases h with h | ⟨h1, P1, G1, h2, h3, h4⟩
  · exact Or.inl h
  · exact Or.inr ⟨h1, P1, G1, h2, h3, h4.gifts (fun g hg => hx (26 + g) (by omega) (by omega))⟩
theorem BR.cong {σ σ' τ τ' : St} {P : Nat} (h : BR σ σ' P) (hx : ∀ a, 56 ≤ a → a ≤ 57 → τ.1 a = σ.1 a) (h33 : τ'.1 58 33 = σ'.1 58 33) (h34 : τ'.1 58 34 = σ'.1 58 34) (hm : τ'.1 76 = σ'.1 76) : BR τ τ' P := by
  unfold BR at h ⊢
  rw [hx 56 (by omega) (by omega), hx 57 (by omega) (by omega), h33, h34, hm]
  exact h
theorem LR.cong {σ σ' τ τ' : St} (h : LR σ σ') (hx : τ.1 3 = σ.1 3) (hs : ∀ k, 2 ≤ k → k ≤ 5 → τ'.1 58 k = σ'.1 58 k) : LR τ τ' := by
  unfold LR at h ⊢
  rw [hx, hs 2 (by omega) (by omega), hs 3 (by omega) (by omega), hs 4 (by omega) (by omega), hs 5 (by omega) (by omega)]
  exact h
theorem PR.cong {σ σ' τ τ' : St} (h : PR σ σ') (h1 : τ.1 1 1 = σ.1 1 1) (h2 : τ.1 2 = σ.1 2) (hs : τ'.1 58 1 = σ'.1 58 1) (hm : τ'.1 59 = σ'.1 59) : PR τ τ' := by
  unfold PR at h ⊢
  rw [h1, h2, hs, hm]
  exact h
/-- the relation speaks of the class's cells in the one state, of the reference's in the other -/
theorem RR.cong {σ σ' τ τ' : St} {P G : Nat} (h : RR σ σ' P G) (hx : ∀ a b, a < 58 → τ.1 a b = σ.1 a b) (hm : ∀ a b, 58 ≤ a → τ'.1 a b = σ'.1 a b) : RR τ τ' P G := by
  have ex : ∀ a, a < 58 → τ.1 a = σ.1 a := fun a ha => funext fun b => hx a b ha
  have em : ∀ a, 58 ≤ a → τ'.1 a = σ'.1 a := fun a ha => funext fun b => hm a b ha
  obtain ⟨h1, h2, h3, h4, h5, h6, h7⟩ := h
  refine ⟨h1.cong (ex 3 (by omega)) (fun k _ _ => hm _ _ (by omega)), h2.cong (hx _ _ (by omega)) (ex 2 (by omega)) (hm _ _ (by omega)) (em 59 (by omega)), h3.cong (fun a _ _ => ex a (by omega)) (hm _ _ (by omega)) (hm _ _ (by omega)) (hm _ _ (by omega)) (hm _ _ (by omega)) (fun a _ _ => em a (by omega)), fun i a b => ?_, h5.cong (hx _ _ (by omega)) (fun a _ _ => ex a (by omega)) (ex 5 (by omega)) (fun k _ _ => hm _ _ (by omega)) (fun a _ _ => em a (by omega)), h6.cong (fun a _ _ => ex a (by omega)) (hm _ _ (by omega)) (hm _ _ (by omega)) (em 76 (by omega)), ?_⟩
  · rw [hx _ _ (by omega)]; exact h4 i a b
  · rw [hx 0 9 (by omega), hm 58 6 (by omega), hx 4 8 (by omega), hm 58 19 (by omega)]; exact h7
/-- frames that touch none of what the relation speaks of -/
theorem RR.fr {σ σ' τ τ' : St} {P G : Nat} {kx km : List Nat} (h : RR σ σ' P G) (hx : Fr kx σ τ) (hm : Fr km σ' τ') (cx : ∀ a, a < 34 ∨ a = 56 ∨ a = 57 → a ∉ kx) (cm : ∀ a, (59 ≤ a ∧ a ≤ 65) ∨ (76 ≤ a ∧ a ≤ 81) ∨ (101 ≤ a ∧ a ≤ 106) ∨ a = 112 ∨ (118 ≤ a ∧ a ≤ 120) ∨ a = 133 ∨ a = 134 ∨ (136 ≤ a ∧ a ≤ 139) → a ∉ km) : RR τ τ' P G := by
  have ex : ∀ a, (a < 34 ∨ a = 56 ∨ a = 57) → τ.1 a = σ.1 a := fun a ha => funext fun b => hx a b (by rw [key_ne (by omega)]; exact cx a ha)
  have em : ∀ a, ((59 ≤ a ∧ a ≤ 65) ∨ (76 ≤ a ∧ a ≤ 81)) → τ'.1 a = σ'.1 a := fun a ha => funext fun b => hm a b (by rw [key_ne (by omega)]; exact cm a (by omega))
  have es : ∀ k, (1 ≤ k ∧ k ≤ 6) ∨ k = 12 ∨ (18 ≤ k ∧ k ≤ 20) ∨ k = 33 ∨ k = 34 ∨ (36 ≤ k ∧ k ≤ 39) → τ'.1 58 k = σ'.1 58 k := fun k hk => hm 58 k (by rw [key_58]; exact cm _ (by omega))
  obtain ⟨h1, h2, h3, h4, h5, h6, h7⟩ := h
  refine ⟨h1.cong (ex 3 (by omega)) (fun k _ _ => es k (by omega)), h2.cong (by rw [ex 1 (by omega)]) (ex 2 (by omega)) (es 1 (by omega)) (em 59 (by omega)), h3.cong (fun a _ _ => ex a (by omega)) (es _ (by omega)) (es _ (by omega)) (es _ (by omega)) (es _ (by omega)) (fun a _ _ => em a (by omega)), fun i a b => ?_, h5.cong (by rw [ex 0 (by omega)]) (fun a _ _ => ex a (by omega)) (ex 5 (by omega)) (fun k _ _ => es k (by omega)) (fun a _ _ => em a (by omega)), h6.cong (fun a _ _ => ex a (by omega)) (es _ (by omega)) (es _ (by omega)) (em 76 (by omega)), ?_⟩
  · rw [ex 5 (by omega)]; exact h4 i a b
  · rw [ex 0 (by omega), es 6 (by omega), ex 4 (by omega), es 19 (by omega)]; exact h7
