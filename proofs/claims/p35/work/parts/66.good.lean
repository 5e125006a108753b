/-- every text that the law makes is a law that the class reads as it was meant -/
noncomputable def gX (xs : List Nat) (i : Nat) : Int32 := nI (xs.getD i 0)
noncomputable def chk (a k b o w m : Nat) : Bool := decide ((txt a k b o w m).length ≤ 6) && ((List.range (txt a k b o w m).length).all (fun i => decide (1 ≤ (txt a k b o w m).getD i 0) && decide ((txt a k b o w m).getD i 0 ≤ 126)) && ((List.range ((txt a k b o w m).length + 1)).all (fun i => decide (autS (gX (txt a k b o w m)) i ≠ -1)) && (decide (autS (gX (txt a k b o w m)) (txt a k b o w m).length ≠ 1) && (decide (autS (gX (txt a k b o w m)) (txt a k b o w m).length ≠ 5) && decide ((rdS (gX (txt a k b o w m)) (txt a k b o w m).length).2 = (nI (kpN a k), nI b, nI o, nI (msN w m)))))))
theorem chks : ((List.range 2).all fun a => (List.range 3).all fun k => (List.range 2).all fun b => (List.range 2).all fun o => (List.range 2).all fun w => (List.range 9).all fun m => chk a k b o w m) = true := by decide +kernel
theorem good (a : Nat) (ha : a < 2) (k : Nat) (hk : k < 3) (b : Nat) (hb : b < 2) (o : Nat) (ho : o < 2) (w : Nat) (hw : w < 2) (m : Nat) (hm : m < 9) :
    ((txt a k b o w m).length ≤ 6 ∧ (∀ i, i < (txt a k b o w m).length → 1 ≤ (txt a k b o w m).getD i 0 ∧ (txt a k b o w m).getD i 0 ≤ 126) ∧ (∀ i, i < (txt a k b o w m).length + 1 → autS (fun i => nI ((txt a k b o w m).getD i 0)) i ≠ -1) ∧ autS (fun i => nI ((txt a k b o w m).getD i 0)) (txt a k b o w m).length ≠ 1 ∧ autS (fun i => nI ((txt a k b o w m).getD i 0)) (txt a k b o w m).length ≠ 5 ∧ (rdS (fun i => nI ((txt a k b o w m).getD i 0)) (txt a k b o w m).length).2 = (nI (kpN a k), nI b, nI o, nI (msN w m))) := by
  have h0 := List.all_eq_true.mp (List.all_eq_true.mp (List.all_eq_true.mp (List.all_eq_true.mp (List.all_eq_true.mp (List.all_eq_true.mp chks a (List.mem_range.mpr ha)) k (List.mem_range.mpr hk)) b (List.mem_range.mpr hb)) o (List.mem_range.mpr ho)) w (List.mem_range.mpr hw)) m (List.mem_range.mpr hm)
  unfold chk at h0
  rw [Bool.and_eq_true, Bool.and_eq_true, Bool.and_eq_true, Bool.and_eq_true, Bool.and_eq_true] at h0
  obtain ⟨c1, c2, c3, c4, c5, c6⟩ := h0
  refine ⟨of_decide_eq_true c1, fun i hi => ?_, fun i hi => of_decide_eq_true (List.all_eq_true.mp c3 i (List.mem_range.mpr hi)), of_decide_eq_true c4, of_decide_eq_true c5, of_decide_eq_true c6⟩
  have := List.all_eq_true.mp c2 i (List.mem_range.mpr hi)
  rw [Bool.and_eq_true] at this
  exact ⟨of_decide_eq_true this.1, of_decide_eq_true this.2⟩
theorem toldLawL {σ : St} (h : LL σ σ) : ∀ (d i n : Nat), i + d = 4 → d < n → fL_law_L85 σ n (nI i) = some (.inr ()) := by
  obtain ⟨⟨l0, l1, l2, l3⟩, h1, h2⟩ := h
  have e : ∀ i, i < 4 → fX8_lawTold (nI i) σ = σ.1 58 i := fun i hi => by
    rcases (show i = 0 ∨ i = 1 ∨ i = 2 ∨ i = 3 by omega) with rfl | rfl | rfl | rfl
    · rw [← l0]; rfl
    · rw [← l1]
      show (if σ.1 3 1 = 0 then (0 : Int32) else 1) = _
      rcases h1 with z | z <;> rw [z] <;> rfl
    · rw [← l2]
      show (if σ.1 3 2 = 0 then (0 : Int32) else 1) = _
      rcases h2 with z | z <;> rw [z] <;> rfl
    · rw [← l3]; rfl
  intro d
  induction d with
  | zero =>
    intro i n hi hn
    obtain ⟨n, rfl, -⟩ := su hn
    have e : i = 4 := by omega
    subst e
    rw [fL_law_L85, if_pos (show (4 : Int32) ≤ nI 4 by decide)]
  | succ d ih =>
    intro i n hi hn
    obtain ⟨n, rfl, hn⟩ := su hn
    rw [fL_law_L85, if_neg (show ¬ (4 : Int32) ≤ nI i from nI_ge (a := i) (b := 4) (by omega) (by decide)), grd_t (inbN (show i < 4 by omega) (by decide)), tcl (by omega), if_pos (e i (by omega)), nI_1]
    exact ih (i + 1) n (by omega) (by omega)
/-- the law's text is written, found good, read -/
theorem lawRead {a k b o w m : Nat} (ha : a < 2) (hk : k < 3) (hb : b < 2) (ho : o < 2) (hw : w < 2) (hm : m < 9) {σ : St} (h59 : Pg 59 (txt a k b o w m) σ) (h1 : σ.1 1 1 = 0) (h09 : σ.1 0 9 = 0) : ∃ σ2 τ, fL_write 59 16 (nI (txt a k b o w m).length) σ = some (1, σ2) ∧ fX8_fault σ2 = some (nI (txt a k b o w m).length) ∧ fX8_law σ2 = some (1, τ) ∧ τ.1 3 0 = nI (kpN a k) ∧ τ.1 3 1 = nI b ∧ τ.1 3 2 = nI o ∧ τ.1 3 3 = nI (msN w m) ∧ (∀ c d, 4 ≤ c → τ.1 c d = σ.1 c d) := by
  obtain ⟨g1, g2, g3, g4, g5, g6⟩ := good a ha k hk b hb o ho w hw m hm
  generalize txt a k b o w m = xs at *
  obtain ⟨σ2, e1, e2, e3, e4⟩ := writeL (xs := xs) (by omega) g2 xs.length 0 fu σ (by omega) (fu_gt (by omega)) h59 h1 (fun j hj => by omega)
  have ac := autS_cong (f := σ2.1 2) (g := fun i => nI (xs.getD i 0)) (n := xs.length) (fun i hi => e3 i hi)
  have ok : ∀ i, i ≤ xs.length → autS (σ2.1 2) i ≠ -1 := fun i hi => by rw [ac i hi]; exact g3 i (by omega)
  have f1 := faultL (S := xs.length) (by omega) e2 ok xs.length 0 fu (by omega) (fu_gt (by omega))
  have f2 := isLawL (S := xs.length) (by omega) e2 xs.length 0 fu (by omega) (fu_gt (by omega))
  obtain ⟨τ, r1, ⟨r2, r3, r4, r5⟩, r6⟩ := readL (f := σ2.1 2) (S := xs.length) (by omega) xs.length 0 fu (setI (setI (setI (setI σ2 3 0 1) 3 1 0) 3 2 0) 3 3 3) (by omega) (fu_gt (by omega)) (by simp (disch := omega) only [setI_oo]; exact e2) (fun j => by simp (disch := omega) only [setI_oo]) ⟨by simp (disch := omega) only [setI_s, setI_oo]; rfl, by simp (disch := omega) only [setI_s, setI_oo]; rfl, by simp (disch := omega) only [setI_s, setI_oo]; rfl, by simp (disch := omega) only [setI_s, setI_oo]; rfl⟩
  have er := rdS_cong (f := σ2.1 2) (g := fun i => nI (xs.getD i 0)) (n := xs.length) (fun i hi => e3 i hi) xs.length (Nat.le_refl _)
  have ro : ∀ c d, c ≠ 3 → τ.1 c d = σ2.1 c d := fun c d hc => by rw [r6 c d hc]; simp (disch := omega) only [setI_oo]
  rw [er, g6] at r2 r3 r4 r5
  refine ⟨σ2, setI (setI τ 1 1 0) 0 9 1, ?_, ?_, ?_, by simp (disch := omega) only [setI_oo]; exact r2, by simp (disch := omega) only [setI_oo]; exact r3, by simp (disch := omega) only [setI_oo]; exact r4, by simp (disch := omega) only [setI_oo]; exact r5, fun c d hc => by simp (disch := omega) only [setI_oo]; rw [ro c d (by omega), e4 c d (by omega) (by omega)]⟩
  · unfold fL_write
    rw [show fL_write_L2 59 16 (nI xs.length) fu (0 : Int32) σ = some (.inr σ2) from e1]
    rfl
  · unfold fX8_fault fX5_firstFault
    rw [show fX5_firstFault_L4 σ2 fu (0 : Int32) (0 : Int32) = some (.inr ()) from f1, e2]
    rfl
  · unfold fX8_law fX5_isLaw fX4_readFrom
    rw [show fX5_isLaw_L4 σ2 fu (0 : Int32) (0 : Int32) = some (autS (σ2.1 2) xs.length) from f2]
    simp only [obs]
    rw [if_neg (ok _ (Nat.le_refl _)), if_neg (by rw [ac _ (Nat.le_refl _)]; exact g4), if_neg (by rw [ac _ (Nat.le_refl _)]; exact g5)]
    simp only [obs, bnd_eq]
    rw [if_neg (by decide), show fX4_readFrom_L24 fu (0 : Int32) (0 : Int32) (setI (setI (setI (setI σ2 3 0 1) 3 1 0) 3 2 0) 3 3 3) = some τ from r1]
    simp only [obs, bnd_eq]
    rw [setI_oo (show ¬ (0 = 1 ∧ 9 = 1) by omega), ro 0 9 (by omega), e4 0 9 (by omega) (by omega), h09, setI_s]
    rfl
