theorem nI_m1 {P : Nat} (hP : P ≤ 8) : (nI P - (1 : Int32)).toInt = (P : Int) - 1 := by
  have h := pk_sub_toInt (a := P) (b := 1) (by omega) (by decide)
  exact h
theorem upTo (p : Int32) {P : Nat} (hP : P ≤ 8) : fX8_within p (0 : Int32) (nI P - (1 : Int32)) = if p < 0 then (0 : Int32) else if nI P ≤ p then (0 : Int32) else (1 : Int32) := by
  unfold fX8_within
  have e : (nI P - (1 : Int32) < p) = (nI P ≤ p) := by
    rw [Int32.lt_iff_toInt_lt, Int32.le_iff_toInt_le, nI_m1 hP]
    apply propext
    rw [nI_toInt (by omega)]
    omega
  simp only [e]
theorem upTo_c (p : Int32) {P : Nat} (hP : P ≤ 8) : (∃ k, k < P ∧ p = nI k ∧ (if p < 0 then (0 : Int32) else if nI P ≤ p then (0 : Int32) else (1 : Int32)) = 1) ∨ ((∀ k, k < P → p ≠ nI k) ∧ (if p < 0 then (0 : Int32) else if nI P ≤ p then (0 : Int32) else (1 : Int32)) = 0) := by
  by_cases h1 : p < 0
  · right
    rw [if_pos h1]
    exact ⟨fun k hk e => nI_pos (n := k) (by omega) (e ▸ h1), rfl⟩
  · rw [if_neg h1]
    by_cases h2 : nI P ≤ p
    · right
      rw [if_pos h2]
      refine ⟨fun k hk e => ?_, rfl⟩
      subst e
      rw [nI_leI (by omega) (by omega)] at h2
      omega
    · left
      rw [if_neg h2]
      obtain ⟨k, hk, rfl⟩ := nI_of h1
      rw [nI_leI (by omega) (by omega)] at h2
      exact ⟨k, by omega, rfl, rfl⟩
theorem isP2 {σ σ' : St} {P : Nat} (h0 : σ.1 4 0 = nI P) (h1 : σ'.1 58 12 = nI P) (hP : P ≤ 8) (p : Int32) : (∃ k, k < P ∧ p = nI k ∧ fX8_isPerson p σ = 1 ∧ fX9_isPerson p σ' = 1) ∨ ((∀ k, k < P → p ≠ nI k) ∧ fX8_isPerson p σ = 0 ∧ fX9_isPerson p σ' = 0) := by
  have e1 : fX8_isPerson p σ = if p < 0 then (0 : Int32) else if nI P ≤ p then (0 : Int32) else (1 : Int32) := by unfold fX8_isPerson; rw [h0]
  have e2 : fX9_isPerson p σ' = if p < 0 then (0 : Int32) else if nI P ≤ p then (0 : Int32) else (1 : Int32) := by
    unfold fX9_isPerson
    rw [h1, show (0 : Int64) = (0 : Int32).toInt64 from rfl, wi2, upTo p hP]
  rw [e1, e2]
  rcases upTo_c p hP with ⟨k, a, b, c⟩ | ⟨a, c⟩
  · exact Or.inl ⟨k, a, b, c, c⟩
  · exact Or.inr ⟨a, c, c⟩
theorem isG2 {σ σ' : St} {G : Nat} (h0 : σ.1 4 6 = nI G) (h1 : σ'.1 58 20 = nI G) (hG : G ≤ 8) (p : Int32) : (∃ k, k < G ∧ p = nI k ∧ fX8_isGift p σ = 1 ∧ fX9_isGift p σ' = 1) ∨ ((∀ k, k < G → p ≠ nI k) ∧ fX8_isGift p σ = 0 ∧ fX9_isGift p σ' = 0) := by
  have e1 : fX8_isGift p σ = if p < 0 then (0 : Int32) else if nI G ≤ p then (0 : Int32) else (1 : Int32) := by unfold fX8_isGift; rw [h0]
  have e2 : fX9_isGift p σ' = if p < 0 then (0 : Int32) else if nI G ≤ p then (0 : Int32) else (1 : Int32) := by
    unfold fX9_isGift
    rw [h1, show (0 : Int64) = (0 : Int32).toInt64 from rfl, wi2, upTo p hG]
  rw [e1, e2]
  rcases upTo_c p hG with ⟨k, a, b, c⟩ | ⟨a, c⟩
  · exact Or.inl ⟨k, a, b, c, c⟩
  · exact Or.inr ⟨a, c, c⟩
theorem n10 : ((1 : Int32) = 0) = False := by decide
theorem two2 {σ σ' : St} {P : Nat} (h0 : σ.1 4 0 = nI P) (h1 : σ'.1 58 12 = nI P) (hP : P ≤ 8) (p q : Int32) : (∃ j k, j < P ∧ k < P ∧ j ≠ k ∧ p = nI j ∧ q = nI k ∧ fX8_areTwo p q σ = 1 ∧ fX9_arePair p q σ' = 1) ∨ (fX8_areTwo p q σ = 0 ∧ fX9_arePair p q σ' = 0) := by
  unfold fX8_areTwo fX9_arePair
  rcases isP2 h0 h1 hP p with ⟨j, hj, rfl, a, b⟩ | ⟨-, a, b⟩
  · simp only [a, b, n10, if_false]
    rcases isP2 h0 h1 hP q with ⟨k, hk, rfl, c, d⟩ | ⟨-, c, d⟩
    · simp only [c, d, n10, if_false]
      by_cases e : nI j = nI k
      · rw [if_pos e]; exact Or.inr ⟨rfl, rfl⟩
      · rw [if_neg e]
        exact Or.inl ⟨j, k, hj, hk, fun z => e (by rw [z]), rfl, rfl, rfl, rfl⟩
    · exact Or.inr ⟨by simp only [c, if_true], by simp only [d, if_true]⟩
  · exact Or.inr ⟨by simp only [a, if_true], by simp only [b, if_true]⟩
theorem wiL (p : Int32) (b : Nat) : fX9_in p.toInt64 (0 : Int64) (OfNat.ofNat b : Int32).toInt64 = fX8_within p (0 : Int32) (OfNat.ofNat b) := by
  rw [show (0 : Int64) = (0 : Int32).toInt64 from rfl, wi2]
theorem setI_1 {σ : St} {i k a b : Nat} {v : Int32} : (setI σ i k v).1 a b = if a = i ∧ b = k then v else σ.1 a b := rfl
theorem setI_o {σ : St} {i k a : Nat} {v : Int32} (h : a ≠ i) : (setI σ i k v).1 a = σ.1 a := funext fun b => by rw [setI_1, if_neg (fun z => h z.1)]
theorem setI_f {σ : St} {i k : Nat} {v : Int32} : (setI σ i k v).1 i = fun b => if b = k then v else σ.1 i b := funext fun b => by rw [setI_1]; simp
theorem isN.mono {x : Int32} {m n : Nat} (h : isN x m) (hmn : m ≤ n) : isN x n := by obtain ⟨k, a, b⟩ := h; exact ⟨k, by omega, b⟩
theorem GV.mono {mr : Nat → Int32} {P Q g : Nat} (h : GV mr P g) (hq : P ≤ Q) : GV mr Q g := ⟨h.1, h.2.1.mono hq, h.2.2.1.mono hq, h.2.2.2.1.imp id (fun z => z.mono hq), h.2.2.2.2⟩
theorem setI_s {σ : St} {i k : Nat} {v : Int32} : (setI σ i k v).1 i k = v := by rw [setI_1, if_pos ⟨rfl, rfl⟩]
theorem setI_oo {σ : St} {i k a b : Nat} {v : Int32} (h : ¬ (a = i ∧ b = k)) : (setI σ i k v).1 a b = σ.1 a b := by rw [setI_1, if_neg h]
theorem IRc.more {P Q : Nat} {h0 kg kp p0 g0 y0 : Int32} {wh0 wh0' wh wk wf wl wd : Nat → Int32} {wg : Nat → Nat → Int32} {y1 fm : Int32} {mk mf ml md mr : Nat → Int32} (h : IRc P h0 kg kp p0 g0 y0 wh0 wh wk wf wl wd wg y1 fm mk mf ml md mr) (hq : P ≤ Q) (hw : ∀ i, i < P → wh0' i = wh0 i) : IRc Q h0 kg kp p0 g0 y0 wh0' wh wk wf wl wd wg y1 fm mk mf ml md mr := by
  rcases h with h | ⟨h1, P1, G1, h2, h3, h4⟩
  · exact Or.inl h
  · exact Or.inr ⟨h1, P1, G1, ⟨by have := h2.1; omega, h2.2⟩, fun i hi => ⟨fun z => by rw [hw i (by have := h2.1; omega)]; exact (h3 i hi).1 z, (h3 i hi).2⟩, h4⟩
theorem BRc.more {P Q : Nat} {h n h1 n1 : Int32} {f g : Nat → Int32} (hb : BRc P h n h1 n1 f g) (hq : P ≤ Q) : BRc Q h n h1 n1 f g := by
  rcases hb with hb | ⟨H, N, a1, a2, a3, a4, a5, a6, a7, a8, a9⟩
  · exact Or.inl hb
  · exact Or.inr ⟨H, N, by omega, a2, a3, a4, a5, a6, a7, a8, fun i hi => (a9 i hi).imp id (fun z => z.mono hq)⟩
theorem nI_p1 (P : Nat) : nI (P + 1) - (1 : Int32) = nI P := nI_pred P
theorem x_person {σ : St} {P k : Nat} (p0 : σ.1 4 0 = nI P) (hk : k ≤ 3) : fX8_person (nI k) σ = if P < 8 then some (nI P, setI (setI σ 5 P (nI k)) 4 0 (nI (P + 1))) else fX8_person (nI k) σ := by
  split
  · rename_i hP
    unfold fX8_person fX7_addPerson
    rcases within_c (nI k) (a := 0) (b := 3) (by decide) (by decide) with ⟨-, -, -, -, e⟩ | ⟨e, -⟩
    · replace e : fX8_within (nI k) (0 : Int32) (3 : Int32) = 1 := e
      simp only [e, n10, if_false]
      rw [p0, if_pos (show nI P < (8 : Int32) from (nI_ltI (a := P) (b := 8) (by omega) (by decide)).mpr hP), grd_t (inbN hP (by decide)), tcl (by omega)]
      simp (disch := omega) only [bnd, Option.bind_some, setI_s, setI_oo, p0, nI_1, nI_p1]
    · exact absurd rfl (e k (by omega) (by omega))
  · rfl
/-- person -/
theorem s_person (p : Int32) {σ σ' : St} (h : Rel σ σ') : ∃ r τ τ', fX8_person p σ = some (r, τ) ∧ fX9_person p σ' = some (r, τ') ∧ Rel τ τ' := by
  obtain ⟨P, G, hR⟩ := h
  obtain ⟨h1, h2, h3, h4, h5, h6, h7⟩ := id hR
  obtain ⟨⟨hP, hG⟩, ⟨p0, p1⟩, ⟨g0, g1⟩, hy, hwh, hwk, hwf, hwl, hwd, hwg, v1, v2, v3, v4, v5, v6⟩ := id h3
  rcases within_c p (a := 0) (b := 3) (by decide) (by decide) with ⟨k, -, hk, rfl, e⟩ | ⟨-, e⟩
  · replace e : fX8_within (nI k) (0 : Int32) (3 : Int32) = 1 := e
    by_cases h8 : P < 8
    · refine ⟨nI P, setI (setI σ 5 P (nI k)) 4 0 (nI (P + 1)), setI (setI σ' 60 P (nI k)) 58 12 (nI (P + 1)), by rw [x_person p0 hk, if_pos h8], ?_, P + 1, G, ?_⟩
      · unfold fX9_person
        rw [show (3 : Int64) = (3 : Int32).toInt64 from rfl, wiL]
        simp only [e, n10, if_false]
        rw [p1, if_neg (show ¬ nI P = (8 : Int32) from fun z => by have := (nI_eq (a := P) (b := 8) (by omega) (by decide)).mp z; omega), grd_t (inbN h8 (by decide)), tcl (by omega)]
        simp (disch := omega) only [bnd, Option.bind_some, setI_s, setI_oo, p1, nI_1, nI_p1]
      · unfold RR LR PR WR IR BR
        simp (disch := omega) only [setI_o, setI_s, setI_oo]
        refine ⟨h1, h2, ⟨⟨by omega, hG⟩, ⟨rfl, rfl⟩, ⟨g0, g1⟩, hy, ?_, hwk, hwf, hwl, hwd, ?_, fun i hi => (v1 i hi).mono (Nat.pow_le_pow_right (by decide) (by omega)), ?_, v3, fun g hg => (v4 g hg).mono (by omega), ?_, fun i a b => v6 i (by omega) b⟩, ?_, h5.more (by omega) (fun i hi => by simp (disch := omega) only [setI_oo]), h6.more (by omega), h7⟩
        · intro i hi
          simp only [setI_1]
          by_cases e5 : i = P
          · simp [e5]
          · simpa [e5] using hwh i hi
        · intro g hg k hk
          simp (disch := omega) only [setI_o]
          exact hwg g hg k hk
        · intro i hi
          simp only [setI_1]
          by_cases e5 : i = P
          · simp only [e5, and_self, if_true]
            exact ⟨k, by omega, rfl⟩
          · simpa [e5] using v2 i hi
        · rw [sumI, v6 P (by omega) (by omega), v5]; simp
        · intro i a b
          rw [setI_oo (by omega)]
          exact h4 i (by omega) b
    · have e8 : P = 8 := by omega
      subst e8
      refine ⟨-104, σ, σ', ?_, ?_, _, _, hR⟩
      · unfold fX8_person
        simp only [e, n10, if_false]
        rw [p0]; rfl
      · unfold fX9_person
        rw [show (3 : Int64) = (3 : Int32).toInt64 from rfl, wiL]
        simp only [e, n10, if_false]
        rw [p1]; rfl
  · replace e : fX8_within p (0 : Int32) (3 : Int32) = 0 := e
    refine ⟨-102, σ, σ', ?_, ?_, _, _, hR⟩
    · unfold fX8_person; simp only [e, if_true]
    · unfold fX9_person
      rw [show (3 : Int64) = (3 : Int32).toInt64 from rfl, wiL]
      simp only [e, if_true]
