/-! THE BOOK'S walks: from nobody, back does not matter, what is written keeps -/
def BB (Kn : Nat → Nat) (f h : Nat) : Nat := if f = 0 then Kn h else Kn h &&& (255 - 2 ^ (f - 1))
theorem BB_lt {Kn : Nat → Nat} {P f h : Nat} (hK : Kn h < 2 ^ P) : BB Kn f h < 2 ^ P := by
  unfold BB
  split
  · exact hK
  · exact clr_lt hK
theorem BB_bit {Kn : Nat → Nat} {j h v : Nat} (hj : j < 9) (hv : v < 8) (hK : Kn h < 256) : (BB Kn (fo j) h).testBit v = true ↔ (Kn h).testBit v = true ∧ v ≠ j := by
  unfold BB fo
  by_cases z : j = 8
  · rw [if_pos z, if_pos rfl]
    exact ⟨fun q => ⟨q, by omega⟩, fun q => q.1⟩
  · rw [if_neg z, if_neg (by omega), Nat.add_sub_cancel, clr_bit (Kn h) hK j (by omega) v hv]
    simp
theorem mayB {Kn : Nat → Nat} {f h P : Nat} {τ : St} (hf : f ≤ P) (hP : P ≤ 8) (hh : h < 8) (hK : Kn h < 256) (e : τ.1 6 h = nI (Kn h)) : fX7_mayHave 4 (frF f) (nI h) 0 τ = some (nI (BB Kn f h)) := by
  unfold fX7_mayHave
  rw [grd_t (inbN hh (by decide)), tcl (by omega), bnd_eq, show 4 + 2 = 6 from rfl, e]
  have key : nI (Kn h) &&& (fX8_bit (frF f) ^^^ (-1 : Int32)) = nI (BB Kn f h) := by
    unfold frF BB
    by_cases z : f = 0
    · rw [if_pos z, if_pos z, show fX8_bit (-1) ^^^ (-1 : Int32) = -1 from by decide]
      simp
    · rw [if_neg z, if_neg z, bt_clr (Kn h) hK (f - 1) (by omega)]
  rw [key]
  by_cases y : nI (BB Kn f h) = 0
  · rw [if_pos y, if_pos rfl]
  · rw [if_neg y]
/-- only what is written stays -/
def flt (w : Int32) (W : Nat → Nat → Nat) (f v : Nat) : Nat := if w = -1 ∨ w = nI v then W f v else 0
/-- the book's walks year by year -/
def fsq (t P : Nat) (B : Nat → Nat → Nat) (wr : Nat → Int32) : Nat → Nat → Nat → Nat
  | 0 => onW 0 t
  | n + 1 => flt (wr (n + 1)) (stp 0 0 t P B (fsq t P B wr n))
theorem flt_le {w : Int32} {W : Nat → Nat → Nat} {f v : Nat} : flt w W f v ≤ W f v := by
  unfold flt
  split
  · exact Nat.le_refl _
  · exact Nat.zero_le _
theorem spt_fsq {t P : Nat} {B : Nat → Nat → Nat} {wr : Nat → Int32} (ht : t < P) (hB : ∀ f h, f ≤ P → h < P → B f h < 2 ^ P) : ∀ n, Spt P (fsq t P B wr n)
  | 0 => spt_one (Nat.zero_le _) ht
  | n + 1 => fun f v q => Nat.le_zero.mp (Nat.le_trans flt_le (Nat.le_of_eq (spt_stp (s := 0) (c := 0) (t := t) hB (spt_fsq ht hB n) f v q)))
theorem mass_fsq {t P : Nat} {B : Nat → Nat → Nat} {wr : Nat → Int32} (ht : t < P) (hP : P ≤ 8) (hB : ∀ f h, f ≤ P → h < P → B f h < 2 ^ P) : ∀ n, mass P (fsq t P B wr n) ≤ 8 ^ n
  | 0 => by rw [Nat.pow_zero]; exact Nat.le_of_eq (mass_one (Nat.zero_le _) ht)
  | n + 1 => by
    have h2 := mass_stp (s := 0) (c := 0) (t := t) (P := P) (B := B) (W := fsq t P B wr n) (by omega) hP hB (fun z => absurd rfl z)
    have h3 := mass_fsq (wr := wr) ht hP hB n
    have h4 : mass P (fsq t P B wr (n + 1)) ≤ mass P (stp 0 0 t P B (fsq t P B wr n)) := sgN_le (fun f _ => sgN_le (fun v _ => flt_le))
    have h5 : kk 0 = 8 := rfl
    rw [h5] at h2
    rw [Nat.pow_succ]
    omega
theorem fsq_lt {t P : Nat} {B : Nat → Nat → Nat} {wr : Nat → Int32} (ht : t < P) (hP : P ≤ 8) (hB : ∀ f h, f ≤ P → h < P → B f h < 2 ^ P) {n : Nat} (hn : n ≤ 8) (f h : Nat) : fsq t P B wr n f h < 2 ^ 62 := by
  by_cases q : f ≤ P ∧ h < P
  · exact Nat.lt_of_le_of_lt (Nat.le_trans (mass_le q.1 q.2) (mass_fsq ht hP hB n)) (Nat.lt_of_le_of_lt (Nat.pow_le_pow_right (by decide) hn) (by decide))
  · rw [spt_fsq ht hB n f h q]
    decide
theorem fil_lt {t P : Nat} {B : Nat → Nat → Nat} {wr : Nat → Int32} (ht : t < P) (hP : P ≤ 8) (hB : ∀ f h, f ≤ P → h < P → B f h < 2 ^ P) {n : Nat} (hn : n ≤ 7) : mass P (fsq t P B wr n) < 2 ^ 31 := Nat.lt_of_le_of_lt (mass_fsq ht hP hB n) (Nat.lt_of_le_of_lt (Nat.pow_le_pow_right (by decide) hn) (by decide))
theorem keepL {p : Nat} (hp : p < 8) : ∀ (d i n : Nat) (σ : St), i + d = 72 → d < n → ∃ τ, fX6_keepOnly_L2 (nI p) n (nI i) σ = some τ ∧ τ.1 = σ.1 ∧ ∀ k, k < 72 → τ.2 51 k = if i ≤ k ∧ k % 8 ≠ p then 0 else σ.2 51 k := by
  intro d
  induction d with
  | zero =>
    intro i n σ hi hn
    obtain ⟨n, rfl, -⟩ := su hn
    have e : i = 72 := by omega
    subst e
    rw [fX6_keepOnly_L2, if_pos (show (72 : Int32) ≤ nI 72 by decide)]
    exact ⟨σ, rfl, rfl, fun k hk => by rw [if_neg (by omega)]⟩
  | succ d ih =>
    intro i n σ hi hn
    obtain ⟨n, rfl, hn⟩ := su hn
    have m8 : nI i - nI i / (8 : Int32) * (8 : Int32) = nI (i % 8) := by rw [show (8 : Int32) = nI 8 from rfl, vI_mod (by omega) (by omega)]
    rw [fX6_keepOnly_L2, if_neg (show ¬ (72 : Int32) ≤ nI i from nI_ge (a := i) (b := 72) (by omega) (by decide)), m8, nI_1]
    by_cases z : i % 8 = p
    · rw [if_pos (by rw [z])]
      obtain ⟨τ, e1, e2, e3⟩ := ih (i + 1) n σ (by omega) (by omega)
      refine ⟨τ, e1, e2, fun k hk => ?_⟩
      rw [e3 k hk]
      by_cases y : i + 1 ≤ k ∧ k % 8 ≠ p
      · rw [if_pos y, if_pos (by omega)]
      · rw [if_neg y, if_neg (by omega)]
    · rw [if_neg (fun q => z ((nI_inj (by omega) (by omega)).mp q)), grd_t (inbN (show i < 72 by omega) (by decide)), tcl (by omega), bnd_eq]
      obtain ⟨τ, e1, e2, e3⟩ := ih (i + 1) n (setL σ 51 i 0) (by omega) (by omega)
      refine ⟨τ, e1, e2, fun k hk => ?_⟩
      rw [e3 k hk, setL_2]
      by_cases y : i + 1 ≤ k ∧ k % 8 ≠ p
      · rw [if_pos y, if_pos (by omega)]
      · rw [if_neg y]
        by_cases x : k = i
        · rw [if_pos ⟨rfl, x⟩, if_pos (by omega)]
        · rw [if_neg (fun w => x w.2), if_neg (by omega)]
theorem sumXL {σ : St} {g : Nat → Nat} (h : ∀ k, k < 72 → σ.2 51 k = vN (g k)) : ∀ (d i n : Nat), i + d = 72 → d < n → fX6_sum_L4 σ n (vN (sgN g i)) (nI i) = some (vN (sgN g 72)) := by
  intro d
  induction d with
  | zero =>
    intro i n hi hn
    obtain ⟨n, rfl, -⟩ := su hn
    have e : i = 72 := by omega
    subst e
    rw [fX6_sum_L4, if_pos (show (72 : Int32) ≤ nI 72 by decide)]
  | succ d ih =>
    intro i n hi hn
    obtain ⟨n, rfl, hn⟩ := su hn
    rw [fX6_sum_L4, if_neg (show ¬ (72 : Int32) ≤ nI i from nI_ge (a := i) (b := 72) (by omega) (by decide)), grd_t (inbN (show i < 72 by omega) (by decide)), tcl (by omega), bnd_eq, h i (by omega), vN_add, nI_1]
    exact ih (i + 1) n (by omega) (by omega)
theorem sumML {σ : St} {g : Nat → Nat} (h : ∀ k, k < 72 → σ.2 67 k = vN (g k)) : ∀ (d i n : Nat), i + d = 72 → d < n → fX9_filledOf_L257 σ n (vN (sgN g i)) (nI i) = some (vN (sgN g 72)) := by
  intro d
  induction d with
  | zero =>
    intro i n hi hn
    obtain ⟨n, rfl, -⟩ := su hn
    have e : i = 72 := by omega
    subst e
    rw [fX9_filledOf_L257, if_pos (show (72 : Int32) ≤ nI 72 by decide)]
  | succ d ih =>
    intro i n hi hn
    obtain ⟨n, rfl, hn⟩ := su hn
    rw [fX9_filledOf_L257, if_neg (show ¬ (72 : Int32) ≤ nI i from nI_ge (a := i) (b := 72) (by omega) (by decide)), grd_t (inbN (show i < 72 by omega) (by decide)), tcl (by omega), bnd_eq, h i (by omega), vN_add, nI_1]
    exact ih (i + 1) n (by omega) (by omega)
theorem sum_mass8 {P : Nat} {W : Nat → Nat → Nat} (hP : P ≤ 8) (hS : Spt P W) : sgN (fun k => W (k / 8) (k % 8)) 72 = mass P W := by
  rw [show (72 : Nat) = 8 * 9 from rfl, sgN_blk]
  have e : ∀ f, sgN (fun j => W ((8 * f + j) / 8) ((8 * f + j) % 8)) 8 = sgN (W f) P := fun f => by
    rw [sgN_cong (g' := W f) (fun j hj => by rw [show (8 * f + j) / 8 = f by omega, show (8 * f + j) % 8 = j by omega])]
    exact sgN_ext hP (fun j h1 h2 => hS f j (by omega))
  rw [sgN_cong (fun f _ => e f)]
  exact sgN_ext (by omega) (fun f h1 h2 => sgN_z (fun j hj => hS f j (by omega)))
theorem sum_mass9 {P : Nat} {W : Nat → Nat → Nat} (hP : P ≤ 8) (hS : Spt P W) : sgN (fun k => W (fo (k % 9)) (k / 9)) 72 = mass P W := by
  rw [sg72 hP (fun f h hf hh q => by rw [fo_pm h hf, pm_div h hf]; exact hS f h q)]
  unfold mass
  rw [sgN_comm (fun f h => W f h) P (P + 1)]
  exact sgN_cong (fun h hh => sgN_cong (fun f hf => by rw [fo_pm h (by omega), pm_div h (by omega)]))
