theorem dset {σ σ' : St} {P G : Nat} (hR : RR σ σ' P G) : ∃ Kn Lk, DC P Kn Lk ∧ DX P Kn Lk σ ∧ DM P Kn Lk σ' := by
  obtain ⟨h1, h2, h3, -⟩ := id hR
  obtain ⟨⟨hP, hG⟩, ⟨p0, p1⟩, ⟨g0, g1⟩, hy, hwh, hwk, hwf, hwl, hwd, hwg, v1, v2, v3, -⟩ := id h3
  have kn : ∀ h, h < 8 → σ'.1 61 h = nI (σ'.1 61 h).toNatClampNeg ∧ (σ'.1 61 h).toNatClampNeg < 2 ^ P := fun h hh => by
    obtain ⟨k, hk, e⟩ := v1 h hh
    have := p2_256 hP hk
    have q : (σ'.1 61 h).toNatClampNeg = k := by rw [e, tcl (by omega)]
    rw [q]
    exact ⟨e, hk⟩
  have lk : ∀ h, h < 64 → σ'.1 62 h = nI (σ'.1 62 h).toNatClampNeg ∧ (σ'.1 62 h).toNatClampNeg < 10 := fun h hh => by
    obtain ⟨k, hk, e⟩ := v3 h hh
    have q : (σ'.1 62 h).toNatClampNeg = k := by rw [e, tcl (by omega)]
    rw [q]
    exact ⟨e, hk⟩
  exact ⟨fun h => (σ'.1 61 h).toNatClampNeg, fun h => (σ'.1 62 h).toNatClampNeg, ⟨hP, fun h hh => (kn h hh).2, fun h hh => (lk h hh).2⟩, ⟨p0, fun h hh => (hwk h hh).trans (kn h hh).1, fun h hh => (hwl h hh).trans (lk h hh).1⟩, ⟨p1, fun h hh => (kn h hh).1, fun h hh => (lk h hh).1⟩⟩
theorem sub10 (j : Nat) : nI (10 + j) - (10 : Int32) = nI j := by
  rw [Nat.add_comm, ← nI_add]
  exact Int32.add_sub_cancel (nI j) (nI 10)
/-- what both answer of a round -/
def rans (P : Nat) (Kn Lk : Nat → Nat) (k : Nat) : Int32 := if k = 0 then (if rvl P Kn Lk P 0 = none then 0 else 1) else if k = 1 then oI (rvl P Kn Lk P 0) else oI (gg P Kn Lk (k - 10))
theorem roundX {P : Nat} {Kn Lk : Nat → Nat} {σ : St} (c : DC P Kn Lk) (x : DX P Kn Lk σ) {k : Nat} (hk : k < 2 ∨ (10 ≤ k ∧ k < 18)) : ∃ τ, fX8_round (nI k) σ = some (rans P Kn Lk k, τ) := by
  obtain ⟨τ, e1, e2, e3⟩ := findX c x
  obtain ⟨i1, i2⟩ := isThX c e2
  unfold fX8_round rans
  have inb0 : inb (0 : Int32) 256 = true := inbN (k := 0) (by decide) (by decide)
  rw [bnd_eq]
  rcases hk with hk | hk
  · have w1 : fX8_within (nI k) (10 : Int32) (17 : Int32) = 0 := by
      rcases (show k = 0 ∨ k = 1 by omega) with rfl | rfl <;> decide
    have w2 : fX8_within (nI k) (0 : Int32) (1 : Int32) = 1 := by
      rcases (show k = 0 ∨ k = 1 by omega) with rfl | rfl <;> decide
    rw [w1, w2, if_pos rfl, if_neg (show ¬ (1 : Int32) = 0 by decide), e1, obs]
    rcases (show k = 0 ∨ k = 1 by omega) with rfl | rfl
    · rw [if_pos (show nI 0 = (0 : Int32) from rfl), i2, obs, if_pos (show 0 = 0 from rfl)]
      by_cases z : rvl P Kn Lk P 0 = none
      · rw [if_pos z, if_pos rfl]; exact ⟨τ, rfl⟩
      · rw [if_neg z, if_neg (show ¬ (1 : Int32) = 0 by decide)]; exact ⟨τ, rfl⟩
    · rw [if_neg (show ¬ nI 1 = (0 : Int32) by decide), if_pos (show nI 1 = (1 : Int32) from rfl)]
      unfold fX1_likingTogether
      rw [grd_t inb0, obs, if_neg (show ¬ 1 = 0 by decide), if_pos (show 1 = 1 from rfl), show (0 : Int32).toNatClampNeg = 0 from rfl, i1]
      exact ⟨τ, rfl⟩
  · obtain ⟨j, rfl⟩ : ∃ j, k = 10 + j := ⟨k - 10, by omega⟩
    have hj : j < 8 := by omega
    have w1 : fX8_within (nI (10 + j)) (10 : Int32) (17 : Int32) = 1 := by
      rcases (show j = 0 ∨ j = 1 ∨ j = 2 ∨ j = 3 ∨ j = 4 ∨ j = 5 ∨ j = 6 ∨ j = 7 by omega) with rfl | rfl | rfl | rfl | rfl | rfl | rfl | rfl <;> decide
    have n0 : ¬ nI (10 + j) = (0 : Int32) := nI_ne0 (by omega) (by omega)
    have n1 : ¬ nI (10 + j) = (1 : Int32) := fun z => by
      have := (nI_eq1 (show 10 + j < 2 ^ 31 by omega)).mp z
      omega
    rw [w1, if_neg (show ¬ (1 : Int32) = 0 by decide), e1, obs, if_neg n0, if_neg n1, sub10, grd_t (inbN hj (by decide)), tcl (by omega), if_neg (show ¬ 10 + j = 0 by omega), if_neg (show ¬ 10 + j = 1 by omega), show 10 + j - 10 = j by omega, e3 j hj]
    exact ⟨τ, rfl⟩
theorem tellM {P : Nat} {Kn Lk : Nat → Nat} {σ : St} (c : DC P Kn Lk) (m : DM P Kn Lk σ) {k : Nat} (hk : k < 2 ∨ (10 ≤ k ∧ k < 18)) : ∃ τ, fX9_tellRound (nI k) σ = some (rans P Kn Lk k, τ) ∧ τ.2 = σ.2 := by
  have hP := c.1
  obtain ⟨τ, e1, e2, e3, e4, e5⟩ := layM2 c m
  have i1 : τ.1 70 0 = oI (rvl P Kn Lk P 0) := e2 0 0 (Nat.le_refl 0) (Nat.zero_le P) (Nat.pos_of_ne_zero (by simp))
  have hb := (rvl_bd c (Nat.le_refl P) 0).mono (show 900 ≤ 1000 by decide)
  unfold fX9_tellRound rans
  rw [e1, obs, grd_t (show inb (0 : Int32) 2304 = true from inbN (k := 0) (by decide) (by decide)), show (0 : Int32).toNatClampNeg = 0 from rfl, bnd_eq, i1]
  rcases hk with hk | hk
  · rcases (show k = 0 ∨ k = 1 by omega) with rfl | rfl
    · rw [if_neg (show ¬ (2 : Int32) ≤ nI 0 by decide), if_neg (show ¬ nI 0 = (1 : Int32) by decide), if_pos (show 0 = 0 from rfl)]
      by_cases z : rvl P Kn Lk P 0 = none
      · rw [if_pos z, if_pos ((oI_m1 hb).mpr z)]; exact ⟨τ, rfl, e5⟩
      · rw [if_neg z, if_neg (fun y => z ((oI_m1 hb).mp y))]; exact ⟨τ, rfl, e5⟩
    · rw [if_neg (show ¬ (2 : Int32) ≤ nI 1 by decide), if_pos (show nI 1 = (1 : Int32) from rfl), if_neg (show ¬ 1 = 0 by decide), if_pos (show 1 = 1 from rfl)]
      exact ⟨τ, rfl, e5⟩
  · obtain ⟨j, rfl⟩ : ∃ j, k = 10 + j := ⟨k - 10, by omega⟩
    have hj : j < 8 := by omega
    rw [if_pos (show (2 : Int32) ≤ nI (10 + j) from nI_le (a := 2) (b := 10 + j) (by omega) (by omega)), sub10, e4, if_neg (show ¬ 10 + j = 0 by omega), if_neg (show ¬ 10 + j = 1 by omega), show 10 + j - 10 = j by omega]
    by_cases z : j < P
    · rw [if_neg (nI_ge (a := j) (b := P) z (by omega)), grd_t (inbN hj (by decide)), tcl (by omega), e3 j z]
      exact ⟨τ, rfl, e5⟩
    · rw [if_pos (nI_le (a := P) (b := j) (by omega) (by omega))]
      unfold gg
      rw [if_neg z]
      exact ⟨τ, rfl, e5⟩
theorem round2 {σ σ' : St} {P G : Nat} (hR : RR σ σ' P G) {k : Nat} (hk : k < 2 ∨ (10 ≤ k ∧ k < 18)) : ∃ r τ τ', fX8_round (nI k) σ = some (r, τ) ∧ fX9_tellRound (nI k) σ' = some (r, τ') ∧ τ'.2 = σ'.2 := by
  obtain ⟨Kn, Lk, c, x, m⟩ := dset hR
  obtain ⟨τ, e1⟩ := roundX c x hk
  obtain ⟨τ', e2, e3⟩ := tellM c m hk
  exact ⟨_, τ, τ', e1, e2, e3⟩
/-- round -/
theorem s_round (p : Int32) {σ σ' : St} (h : Rel σ σ') : ∃ r τ τ', fX8_round p σ = some (r, τ) ∧ fX9_round p σ' = some (r, τ') ∧ Rel τ τ' := by
  obtain ⟨P, G, hR⟩ := h
  have key : ∃ r τ τ', fX8_round p σ = some (r, τ) ∧ fX9_round p σ' = some (r, τ') := by
    have v1 : fX9_in p.toInt64 (0 : Int64) (1 : Int64) = fX8_within p 0 1 := wi2 p 0 1
    have v2 : fX9_in p.toInt64 (10 : Int64) (17 : Int64) = fX8_within p 10 17 := wi2 p 10 17
    rcases within_c p (a := 0) (b := 1) (by decide) (by decide) with ⟨k, k1, k2, rfl, e⟩ | ⟨-, e⟩
    · replace e : fX8_within (nI k) (0 : Int32) (1 : Int32) = 1 := e
      obtain ⟨r, τ, τ', e1, e2, -⟩ := round2 hR (k := k) (by omega)
      refine ⟨r, τ, τ', e1, ?_⟩
      unfold fX9_round
      rw [v1, e, if_neg (show ¬ (1 : Int32) = 0 by decide), e2, obs]
    · replace e : fX8_within p (0 : Int32) (1 : Int32) = 0 := e
      rcases within_c p (a := 10) (b := 17) (by decide) (by decide) with ⟨k, k1, k2, rfl, e'⟩ | ⟨-, e'⟩
      · replace e' : fX8_within (nI k) (10 : Int32) (17 : Int32) = 1 := e'
        obtain ⟨r, τ, τ', e1, e2, -⟩ := round2 hR (k := k) (by omega)
        refine ⟨r, τ, τ', e1, ?_⟩
        unfold fX9_round
        rw [v1, e, if_pos rfl, v2, e', if_neg (show ¬ (1 : Int32) = 0 by decide), e2, obs]
      · replace e' : fX8_within p (10 : Int32) (17 : Int32) = 0 := e'
        unfold fX8_round fX9_round
        rw [v1, v2, e, e', bnd_eq, if_pos rfl, if_pos rfl, if_pos rfl, if_pos rfl]
        exact ⟨_, _, _, rfl, rfl⟩
  obtain ⟨r, τ, τ', e1, e2⟩ := key
  refine ⟨r, τ, τ', e1, e2, P, G, hR.fr (frX8_round p σ (r, τ) e1) (frX9_round p σ' (r, τ') e2) (fun a ha => ?_) (fun a ha => ?_)⟩
  · simp only [List.mem_cons, List.not_mem_nil, or_false]
    omega
  · simp only [List.mem_cons, List.not_mem_nil, or_false]
    omega
