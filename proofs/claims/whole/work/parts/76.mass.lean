/-- all that is under way -/
def mass (P : Nat) (W : Nat → Nat → Nat) : Nat := sgN (fun f => sgN (W f) P) (P + 1)
theorem mass_le {P : Nat} {W : Nat → Nat → Nat} {f h : Nat} (hf : f ≤ P) (hh : h < P) : W f h ≤ mass P W := by
  have h1 : sgN (W f) P ≤ mass P W := sgN_one (g := fun f => sgN (W f) P) (n := P + 1) (k := f) (by omega)
  have h2 : W f h ≤ sgN (W f) P := sgN_one hh
  omega
theorem cnt_pcs : ∀ b, b < 256 → ∀ t, t < 8 → (if b.testBit t = true then 1 else 0) + sgN (fun v => if b.testBit v = true ∧ v ≠ t then 1 else 0) 8 = pcs b 8 := by decide +kernel
theorem sgN_mono {g : Nat → Nat} {m n : Nat} (h : m ≤ n) : sgN g m ≤ sgN g n := by
  obtain ⟨d, rfl⟩ : ∃ d, n = m + d := ⟨n - m, by omega⟩
  rw [sgN_split]
  omega
/-- how much more a year makes, at most -/
def kk (c : Nat) : Nat := if c = 0 then 8 else 420
theorem wq_le {c b : Nat} : wq c b * pcs b 8 ≤ kk c := by
  unfold wq kk
  by_cases z : c = 0
  · rw [if_pos z, if_pos z, Nat.one_mul]
    exact pcs_le b 8
  · rw [if_neg z, if_neg z]
    exact Nat.div_mul_le_self 420 _
theorem state_le {s c t P : Nat} {B W : Nat → Nat → Nat} {f h : Nat} (ht : t < 8) (hP : P ≤ 8) (hb : B f h < 256) (hs : s ≠ 0 → c ≠ 0) : wIn c t B W f h + sgN (wTo c t B W f h) P + (if s ≠ 0 ∧ B f h = 0 then 420 * W f h else 0) ≤ kk c * W f h := by
  by_cases z : B f h = 0
  · have h1 : wIn c t B W f h = 0 := by
      unfold wIn
      rw [z]
      simp
    have h2 : sgN (wTo c t B W f h) P = 0 := sgN_z (fun v _ => by
      unfold wTo
      rw [z]
      simp)
    rw [h1, h2, Nat.zero_add]
    by_cases y : s ≠ 0
    · rw [if_pos ⟨y, z⟩]
      unfold kk
      rw [if_neg (hs y)]
      exact Nat.le_refl _
    · rw [if_neg (fun q => y q.1)]
      exact Nat.zero_le _
  · rw [if_neg (fun q => z q.2), Nat.add_zero]
    have h1 : wIn c t B W f h = wq c (B f h) * W f h * (if (B f h).testBit t = true then 1 else 0) := by
      unfold wIn
      split
      · rw [Nat.mul_one]
      · rw [Nat.mul_zero]
    have h2 : sgN (wTo c t B W f h) P ≤ wq c (B f h) * W f h * sgN (fun v => if (B f h).testBit v = true ∧ v ≠ t then 1 else 0) 8 := by
      rw [← sgN_mul]
      refine Nat.le_trans (sgN_mono hP) (sgN_le (fun v _ => ?_))
      unfold wTo
      split
      · rw [Nat.mul_one]; exact Nat.le_refl _
      · rw [Nat.mul_zero]; exact Nat.le_refl _
    have h3 : wIn c t B W f h + sgN (wTo c t B W f h) P ≤ wq c (B f h) * W f h * pcs (B f h) 8 := by
      rw [← cnt_pcs (B f h) hb t ht, Nat.mul_add, h1]
      omega
    have h4 : wq c (B f h) * W f h * pcs (B f h) 8 ≤ kk c * W f h := by
      rw [Nat.mul_assoc, Nat.mul_comm (W f h), ← Nat.mul_assoc]
      exact Nat.mul_le_mul_right _ wq_le
    exact Nat.le_trans h3 h4
theorem mass_stp {s c t P : Nat} {B W : Nat → Nat → Nat} (ht : t < 8) (hP : P ≤ 8) (hB : ∀ f h, f ≤ P → h < P → B f h < 2 ^ P) (hs : s ≠ 0 → c ≠ 0) : mass P (stp s c t P B W) + cam c t P B W ≤ kk c * mass P W := by
  have e0 : mass P (stp s c t P B W) = sgN (fun f => sgN (fun h => sgN (wTo c t B W f h) P) P) (P + 1) + sgN (fun f => sgN (fun h => if s ≠ 0 ∧ B f h = 0 then 420 * W f h else 0) P) (P + 1) := by
    unfold mass
    have q : ∀ f, f < P + 1 → sgN (stp s c t P B W f) P = sgN (fun v => if f = 0 ∨ P < f then 0 else sgN (fun j => wTo c t B W j (f - 1) v) (P + 1)) P + sgN (fun v => if s ≠ 0 ∧ B f v = 0 then 420 * W f v else 0) P := fun f _ => by
      rw [← sgN_add]
      rfl
    rw [sgN_cong q, sgN_add]
    congr 1
    rw [sgN_shift, sgN_z (fun v _ => by rw [if_pos (Or.inl rfl)]), Nat.zero_add]
    have r : ∀ h, h < P → sgN (fun v => if h + 1 = 0 ∨ P < h + 1 then 0 else sgN (fun j => wTo c t B W j (h + 1 - 1) v) (P + 1)) P = sgN (fun j => sgN (wTo c t B W j h) P) (P + 1) := fun h hh => by
      rw [← sgN_comm (fun v j => wTo c t B W j h v) (P + 1) P]
      exact sgN_cong (fun v _ => by rw [if_neg (by omega), Nat.add_sub_cancel])
    rw [sgN_cong r, sgN_comm (fun h j => sgN (wTo c t B W j h) P) (P + 1) P]
  rw [e0]
  unfold cam mass
  rw [← sgN_add, ← sgN_add, ← sgN_mul]
  refine sgN_le (fun f hf => ?_)
  rw [← sgN_add, ← sgN_add, ← sgN_mul]
  refine sgN_le (fun h hh => ?_)
  have := state_le (s := s) (c := c) (t := t) (P := P) (B := B) (W := W) (f := f) (h := h) ht hP (p2_256 hP (hB f h (by omega) hh)) hs
  omega
/-- year after year -/
def wsq (s c t P : Nat) (B W0 : Nat → Nat → Nat) : Nat → Nat → Nat → Nat
  | 0 => W0
  | n + 1 => stp s c t P B (wsq s c t P B W0 n)
/-- one gift, with h, from f -/
def onW (f0 h0 : Nat) (f h : Nat) : Nat := if f = f0 ∧ h = h0 then 1 else 0
theorem mass_one {P f0 h0 : Nat} (hf : f0 ≤ P) (hh : h0 < P) : mass P (onW f0 h0) = 1 := by
  unfold mass
  rw [sgN_pick (k := f0) (by omega) (fun f _ hne => sgN_z (fun h _ => by unfold onW; rw [if_neg (fun z => hne z.1)])), sgN_pick (k := h0) hh (fun h _ hne => by unfold onW; rw [if_neg (fun z => hne z.2)])]
  unfold onW
  rw [if_pos ⟨rfl, rfl⟩]
theorem spt_one {P f0 h0 : Nat} (hf : f0 ≤ P) (hh : h0 < P) : Spt P (onW f0 h0) := fun f h q => by
  unfold onW
  rw [if_neg (fun z => q (by rw [z.1, z.2]; exact ⟨hf, hh⟩))]
theorem spt_stp {s c t P : Nat} {B W : Nat → Nat → Nat} (hB : ∀ f h, f ≤ P → h < P → B f h < 2 ^ P) (hS : Spt P W) : Spt P (stp s c t P B W) := fun f v q => by
  unfold stp
  rw [hS f v q, Nat.mul_zero]
  by_cases z : f = 0 ∨ P < f
  · rw [if_pos z]
    split <;> rfl
  · rw [if_neg z, sgN_z (fun j hj => wTo_z (hB j (f - 1) (by omega) (by omega)) (by omega))]
    split <;> rfl
theorem spt_wsq {s c t P : Nat} {B W0 : Nat → Nat → Nat} (hB : ∀ f h, f ≤ P → h < P → B f h < 2 ^ P) (hS : Spt P W0) : ∀ n, Spt P (wsq s c t P B W0 n)
  | 0 => hS
  | n + 1 => spt_stp hB (spt_wsq hB hS n)
theorem mass_wsq {s c t P : Nat} {B W0 : Nat → Nat → Nat} (ht : t < 8) (hP : P ≤ 8) (hB : ∀ f h, f ≤ P → h < P → B f h < 2 ^ P) (hs : s ≠ 0 → c ≠ 0) (h1 : mass P W0 = 1) : ∀ n, mass P (wsq s c t P B W0 n) ≤ kk c ^ n
  | 0 => by rw [Nat.pow_zero]; exact Nat.le_of_eq h1
  | n + 1 => by
    have h2 := mass_stp (s := s) (c := c) (t := t) (P := P) (B := B) (W := wsq s c t P B W0 n) ht hP hB hs
    have h3 := Nat.mul_le_mul_left (kk c) (mass_wsq ht hP hB hs h1 n)
    rw [Nat.pow_succ, Nat.mul_comm]
    exact Nat.le_trans (Nat.le_trans (Nat.le_add_right _ _) h2) h3
theorem kk_pow {c n : Nat} (hn : n ≤ 8) (hn7 : c ≠ 0 → n ≤ 7) : kk c ^ n < 2 ^ 62 := by
  unfold kk
  by_cases z : c = 0
  · rw [if_pos z]
    exact Nat.lt_of_le_of_lt (Nat.pow_le_pow_right (by decide) hn) (by decide)
  · rw [if_neg z]
    exact Nat.lt_of_le_of_lt (Nat.pow_le_pow_right (by decide) (hn7 z)) (by decide)
theorem wsq_lt {s c t P : Nat} {B W0 : Nat → Nat → Nat} (ht : t < 8) (hP : P ≤ 8) (hB : ∀ f h, f ≤ P → h < P → B f h < 2 ^ P) (hs : s ≠ 0 → c ≠ 0) (h1 : mass P W0 = 1) (hS : Spt P W0) {n : Nat} (hn : n ≤ 8) (hn7 : c ≠ 0 → n ≤ 7) (f h : Nat) : wsq s c t P B W0 n f h < 2 ^ 62 := by
  by_cases q : f ≤ P ∧ h < P
  · exact Nat.lt_of_le_of_lt (Nat.le_trans (mass_le q.1 q.2) (mass_wsq ht hP hB hs h1 n)) (kk_pow hn hn7)
  · rw [spt_wsq hB hS n f h q]
    decide
/-- where anybody may have it, both hold the same -/
def Rlw (P : Nat) (B W V : Nat → Nat → Nat) : Prop := ∀ f h, f ≤ P → h < P → B f h ≠ 0 → W f h = V f h
theorem tb_ne {b j : Nat} (h : b.testBit j = true) : b ≠ 0 := fun z => by
  rw [z] at h
  simp at h
theorem rlw_cam {c t P : Nat} {B W V : Nat → Nat → Nat} (h : Rlw P B W V) : cam c t P B W = cam c t P B V := by
  refine sgN_cong (fun f hf => sgN_cong (fun k hk => ?_))
  unfold wIn
  by_cases z : (B f k).testBit t = true
  · rw [if_pos z, if_pos z, h f k (by omega) hk (tb_ne z)]
  · rw [if_neg z, if_neg z]
theorem rlw_stp {s r c t P : Nat} {B W V : Nat → Nat → Nat} (h : Rlw P B W V) : Rlw P B (stp s c t P B W) (stp r c t P B V) := fun f v hf hv hb => by
  unfold stp
  rw [if_neg (show ¬ (s ≠ 0 ∧ B f v = 0) from fun z => hb z.2), if_neg (show ¬ (r ≠ 0 ∧ B f v = 0) from fun z => hb z.2)]
  by_cases z : f = 0 ∨ P < f
  · rw [if_pos z, if_pos z]
  · rw [if_neg z, if_neg z]
    congr 1
    refine sgN_cong (fun j hj => ?_)
    unfold wTo
    by_cases y : (B j (f - 1)).testBit v = true ∧ v ≠ t
    · rw [if_pos y, if_pos y, h j (f - 1) (by omega) (by omega) (tb_ne y.1)]
    · rw [if_neg y, if_neg y]
theorem rlw_wsq {s r c t P : Nat} {B W0 : Nat → Nat → Nat} : ∀ n, Rlw P B (wsq s c t P B W0 n) (wsq r c t P B W0 n)
  | 0 => fun _ _ _ _ _ => rfl
  | n + 1 => rlw_stp (rlw_wsq n)
/-- what comes home in the year n + 1 -/
def cmh (c t P : Nat) (B W0 : Nat → Nat → Nat) (n : Nat) : Nat := cam c t P B (wsq 0 c t P B W0 n)
theorem cmh_m {c t P : Nat} {B W0 : Nat → Nat → Nat} (n : Nat) : cam c t P B (wsq c c t P B W0 n) = cmh c t P B W0 n := rlw_cam (rlw_wsq n)
theorem cmh_lt {c t P : Nat} {B W0 : Nat → Nat → Nat} (ht : t < 8) (hP : P ≤ 8) (hB : ∀ f h, f ≤ P → h < P → B f h < 2 ^ P) (h1 : mass P W0 = 1) (n : Nat) : cmh c t P B W0 n ≤ kk c ^ (n + 1) := by
  have h2 := mass_stp (s := 0) (c := c) (t := t) (P := P) (B := B) (W := wsq 0 c t P B W0 n) ht hP hB (fun z => absurd rfl z)
  have h3 := Nat.mul_le_mul_left (kk c) (mass_wsq (s := 0) (c := c) (t := t) ht hP hB (fun z => absurd rfl z) h1 n)
  rw [Nat.pow_succ, Nat.mul_comm]
  exact Nat.le_trans (Nat.le_trans (Nat.le_add_left _ _) h2) h3
