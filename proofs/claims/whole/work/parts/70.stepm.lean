theorem vN_le0 {w : Nat} (hw : w < 2 ^ 62) : (vN w ≤ 0) ↔ w = 0 := by
  rw [Int64.le_iff_toInt_le, vN_toInt (by omega), show (0 : Int64).toInt = 0 from rfl]
  omega
/-- from whom, as the reference counts -/
def frM (j : Nat) : Int32 := if j = 8 then -1 else nI j
theorem stepM {c t k w b P : Nat} (hk : k < 72) (ht : t < 8) (hP : P ≤ 8) (hb : b < 256) (hw : w < 2 ^ 62) (hc : c < 2) (n : Nat) (v3 : Int64) (σ : St) (h0 : σ.1 58 12 = nI P) (hm : w ≠ 0 → fX9_mayHave (nI (k / 9)) (frM (k % 9)) σ = some (nI b)) (hw0 : w = 0 → b = 0) (h67 : σ.2 67 k = vN w) : ∃ τ, fX9_goAll_L26 (nI t) (nI c) (n + 1) v3 (nI k) σ = fX9_goAll_L26 (nI t) (nI c) n (v3 + (if t < P ∧ b.testBit t = true then vN (wq c b * w) else 0)) (nI (k + 1)) τ ∧ τ.1 = σ.1 ∧ ∀ a i, τ.2 a i = if a = 68 ∧ i = k ∧ c ≠ 0 ∧ b = 0 then σ.2 a i + vN (420 * w) else if a = 68 ∧ i % 9 = k / 9 ∧ i / 9 < P ∧ b.testBit (i / 9) = true ∧ i / 9 ≠ t then σ.2 a i + vN (wq c b * w) else σ.2 a i := by
  have hk9 : k / 9 < 8 := by omega
  have e9 : nI k / (9 : Int32) = nI (k / 9) := by rw [show (9 : Int32) = nI 9 from rfl, vI_div (by omega) (by omega)]
  have m9 : nI k - nI k / (9 : Int32) * (9 : Int32) = nI (k % 9) := by rw [show (9 : Int32) = nI 9 from rfl, vI_mod (by omega) (by omega)]
  have ef : (if nI (k % 9) = (8 : Int32) then (-1 : Int32) else nI (k % 9)) = frM (k % 9) := by
    unfold frM
    by_cases z : k % 9 = 8
    · rw [if_pos z, z]; rfl
    · rw [if_neg z, if_neg (show ¬ nI (k % 9) = (8 : Int32) from fun q => z ((nI_inj (b := 8) (by omega) (by decide)).mp q))]
  rw [fX9_goAll_L26, if_neg (show ¬ (72 : Int32) ≤ nI k from nI_ge (a := k) (b := 72) (by omega) (by decide)), grd_t (inbN hk (by decide)), tcl (by omega), h67, m9, e9]
  simp only [bnd_eq, nI_1, grd_t (inbN hk (by decide)), ef]
  have q8 : (if lg_cmp (vN w) (0 : Int64) ≤ 0 then some (0 : Int32) else Option.bind (fX9_mayHave (nI (k / 9)) (frM (k % 9)) σ) fun q43 => some q43) = some (nI b) := by
    by_cases z : w = 0
    · rw [if_pos (lcmp_le.mpr ((vN_le0 hw).mpr z)), hw0 z]; rfl
    · rw [if_neg (fun q => z ((vN_le0 hw).mp (lcmp_le.mp q))), hm z, obs]
  rw [q8, obs]
  have hp8 := pcs_le b 8
  have q11 : (if nI c = 0 then some (1 : Int32) else (if nI b = 0 then some ((420 : Int32) / (1 : Int32)) else (Option.bind (fX9_ones (nI b) σ) fun q37 => (grd (decide (¬ q37 = 0)) (some ((420 : Int32) / q37)))))) = some (nI (if b = 0 ∧ c ≠ 0 then 420 else wq c b)) := by
    unfold wq
    by_cases x : c = 0
    · subst x
      rw [if_pos (show nI 0 = (0 : Int32) from rfl), if_neg (fun z => z.2 rfl), if_pos rfl]; rfl
    · rw [if_neg (show ¬ nI c = (0 : Int32) from fun q => x ((nI_inj (b := 0) (by omega) (by decide)).mp q))]
      by_cases y : b = 0
      · subst y
        rw [if_pos (show nI 0 = (0 : Int32) from rfl), if_pos ⟨rfl, x⟩]; rfl
      · have hp0 := pcs_0 b hb y
        rw [if_neg (show ¬ nI b = (0 : Int32) from fun q => y ((nI_inj (b := 0) (by omega) (by decide)).mp q)), if_neg (fun z => y z.1), if_neg x, ones2 σ hb, obs, grd_t (show decide (¬ nI (pcs b 8) = 0) = true from decide_eq_true (fun q => hp0 ((nI_inj (b := 0) (by omega) (by decide)).mp q))), show (420 : Int32) = nI 420 from rfl, vI_div (by omega) (by omega)]
  rw [q11, obs]
  generalize hQ : (if b = 0 ∧ c ≠ 0 then 420 else wq c b) = Q
  have hQ4 : Q < 1000 := by
    rw [← hQ]
    unfold wq
    split
    · omega
    · split
      · omega
      · exact Nat.lt_of_le_of_lt (Nat.div_le_self _ _) (by omega)
  rw [vN_of (by omega), vN_mul]
  obtain ⟨τ, e1, e2, e3⟩ := spreadM (nI c) (nI k) (vN (w * Q)) (h := k / 9) (b := b) (t := t) (P := P) hk9 hb hP (by omega) P 0 fu v3 (setL σ 68 k (σ.2 68 k + (if nI c = 0 then 0 else if nI b = 0 then vN (w * Q) else 0))) (by omega) (fu_gt (by omega)) h0
  rw [show (0 : Int32) = nI 0 from rfl] at e1 ⊢
  rw [e1, obs]
  have hbt : ∀ j, b.testBit j = true → b ≠ 0 := fun j q z => by subst z; simp at q
  have hQb : ∀ j, b.testBit j = true → vN (w * Q) = vN (wq c b * w) := fun j q => by
    rw [← hQ, if_neg (fun z => hbt j q z.1), Nat.mul_comm]
  refine ⟨τ, ?_, e2, fun a i => ?_⟩
  · by_cases y : t < P ∧ b.testBit t = true
    · rw [if_pos y, if_pos ⟨Nat.zero_le _, y⟩, hQb t y.2]
    · rw [if_neg y, if_neg (fun z => y z.2)]
  · rw [e3 a i, setL_2]
    by_cases y : c ≠ 0 ∧ b = 0
    · obtain ⟨y1, rfl⟩ := y
      rw [if_neg (fun z => hbt _ z.2.2.2.2.1 rfl)]
      by_cases x : a = 68 ∧ i = k
      · obtain ⟨rfl, rfl⟩ := x
        rw [if_pos ⟨rfl, rfl⟩, if_neg (show ¬ nI c = (0 : Int32) from fun q => y1 ((nI_inj (b := 0) (by omega) (by decide)).mp q)), if_pos (show nI 0 = (0 : Int32) from rfl), if_pos (show 68 = 68 ∧ i = i ∧ c ≠ 0 ∧ 0 = 0 from ⟨rfl, rfl, y1, rfl⟩), ← hQ, if_pos ⟨rfl, y1⟩, Nat.mul_comm]
      · rw [if_neg x, if_neg (fun z => x ⟨z.1, z.2.1⟩), if_neg (fun z => hbt _ z.2.2.2.1 rfl)]
    · rw [if_neg (fun z : a = 68 ∧ i = k ∧ c ≠ 0 ∧ b = 0 => y z.2.2)]
      have ev : (if nI c = (0 : Int32) then (0 : Int64) else if nI b = (0 : Int32) then vN (w * Q) else 0) = 0 := by
        by_cases x : c = 0
        · subst x
          rw [if_pos (show nI 0 = (0 : Int32) from rfl)]
        · rw [if_neg (show ¬ nI c = (0 : Int32) from fun q => x ((nI_inj (b := 0) (by omega) (by decide)).mp q)), if_neg (show ¬ nI b = (0 : Int32) from fun q => y ⟨x, (nI_inj (b := 0) (by omega) (by decide)).mp q⟩)]
      rw [ev, Int64.add_zero]
      have e0 : (if a = 68 ∧ i = k then σ.2 68 k else σ.2 a i) = σ.2 a i := by
        by_cases z : a = 68 ∧ i = k
        · rw [if_pos z, z.1, z.2]
        · rw [if_neg z]
      rw [e0]
      by_cases u : a = 68 ∧ i % 9 = k / 9 ∧ 0 ≤ i / 9 ∧ i / 9 < P ∧ b.testBit (i / 9) = true ∧ i / 9 ≠ t
      · rw [if_pos u, if_pos ⟨u.1, u.2.1, u.2.2.2⟩, hQb _ u.2.2.2.2.1]
      · rw [if_neg u, if_neg (fun z => u ⟨z.1, z.2.1, Nat.zero_le _, z.2.2⟩)]
