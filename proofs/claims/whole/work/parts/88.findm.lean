def DM (P : Nat) (Kn Lk : Nat → Nat) (σ : St) : Prop := σ.1 58 12 = nI P ∧ (∀ h, h < 8 → σ.1 61 h = nI (Kn h)) ∧ (∀ j, j < 64 → σ.1 62 j = nI (Lk j))
/-- the reference's table is right from giver i on -/
def TM (P : Nat) (Kn Lk : Nat → Nat) (i : Nat) (σ : St) : Prop := ∀ p T, i ≤ p → p ≤ P → T < 2 ^ P → σ.1 70 (256 * p + T) = oI (rvl P Kn Lk (P - p) T)
theorem ix256 (a b : Nat) : (256 : Int32) * nI a + nI b = nI (256 * a + b) := by rw [show (256 : Int32) = nI 256 from rfl, pk_mul, nI_add]
theorem DM.o70 {P : Nat} {Kn Lk : Nat → Nat} {σ τ : St} (m : DM P Kn Lk σ) (e : ∀ a b, a ≠ 70 → a ≠ 71 → τ.1 a b = σ.1 a b) : DM P Kn Lk τ := ⟨by rw [e _ _ (by decide) (by decide)]; exact m.1, fun h hh => by rw [e _ _ (by decide) (by decide)]; exact m.2.1 h hh, fun j hj => by rw [e _ _ (by decide) (by decide)]; exact m.2.2 j hj⟩
theorem lastL {P : Nat} {Kn Lk : Nat → Nat} (hP : P ≤ 8) : ∀ (d i n : Nat) (σ : St), i + d = 2 ^ P → d < n → DM P Kn Lk σ → (∀ T, T < i → σ.1 70 (256 * P + T) = oI (rvl P Kn Lk 0 T)) → ∃ τ, fX9_layRound_L9 (nI (2 ^ P)) n (nI i) σ = some τ ∧ DM P Kn Lk τ ∧ TM P Kn Lk P τ ∧ τ.2 = σ.2 := by
  have h0 : 0 < 2 ^ P := Nat.pos_of_ne_zero (by simp)
  have h256 := p2_256 hP (show 2 ^ P - 1 < 2 ^ P by omega)
  intro d
  induction d with
  | zero =>
    intro i n σ hi hn m h
    obtain ⟨n, rfl, -⟩ := su hn
    have ei : i = 2 ^ P := by omega
    rw [fX9_layRound_L9, ei, if_pos (nI_le (Nat.le_refl _) (by omega))]
    refine ⟨σ, rfl, m, fun p T a b hT => ?_, rfl⟩
    have : p = P := by omega
    rw [this, Nat.sub_self]
    exact h T (by omega)
  | succ d ih =>
    intro i n σ hi hn m h
    obtain ⟨n, rfl, hn⟩ := su hn
    have e1 : nI (2 ^ P) - 1 = nI (2 ^ P - 1) := by
      have := pred2 hP
      rw [sh_P P hP] at this
      exact this
    rw [fX9_layRound_L9, if_neg (nI_ge (a := i) (b := 2 ^ P) (by omega) (by omega)), e1, bnd_eq, m.1, ix256, grd_t (inbN (show 256 * P + i < 2304 by omega) (by decide)), tcl (by omega), bnd_eq, nI_1]
    refine ih (i + 1) n _ (by omega) (by omega) (m.o70 (fun a b h1 _ => setI_oo (fun z => h1 z.1))) (fun T hT => ?_)
    rw [setI_1]
    by_cases z : T = i
    · rw [if_pos ⟨rfl, by omega⟩, z, rvl]
      by_cases y : i = 2 ^ P - 1
      · rw [if_pos (show nI i = nI (2 ^ P - 1) by rw [← y]), if_pos y]
        rfl
      · rw [if_neg (show ¬ nI i = nI (2 ^ P - 1) from fun w => y ((nI_inj (by omega) (by omega)).mp w)), if_neg y]
        rfl
    · rw [if_neg (fun y => z (by omega))]
      exact h T (by omega)
/-- what the reference finds of giver p and q -/
theorem thenM {P : Nat} {Kn Lk : Nat → Nat} {σ : St} (c : DC P Kn Lk) (m : DM P Kn Lk σ) {p S q : Nat} (hp : p < P) (hS : S < 2 ^ P) (hq : q < P) (t : TM P Kn Lk (p + 1) σ) : ∃ v, (if (if (((σ.1 61 p) >>> (nI q &&& 31)) &&& (1 : Int32)) = (1 : Int32) then (if ((nI S >>> (nI q &&& 31)) &&& (1 : Int32)) = 0 then (1 : Int32) else (0 : Int32)) else (0 : Int32)) = 0 then some (-1 : Int32) else (grd (inb (((256 : Int32) * (nI p + (1 : Int32))) + (nI S ||| ((1 : Int32) <<< (nI q &&& 31)))) 2304) (some (σ.1 70 (((256 : Int32) * (nI p + (1 : Int32))) + (nI S ||| ((1 : Int32) <<< (nI q &&& 31)))).toNatClampNeg)))) = some v ∧ (v = -1 ↔ gf P Kn Lk p S q = none) ∧ (v ≠ -1 → v + nI (Lk (8 * p + q)) = oI (gf P Kn Lk p S q)) := by
  obtain ⟨hP, hK, hL⟩ := id c
  have hS8 := p2_256 hP hS
  have hk8 := p2_256 hP (hK p (by omega))
  have hb := rvl_bd c (show P - (p + 1) ≤ P by omega) (S ||| 2 ^ q)
  have hg := gf_bd c (S := S) hp hq
  rw [m.2.1 p (by omega), bt_shr _ hk8 q (by omega), bt_shr S hS8 q (by omega)]
  unfold gf mby at hg ⊢
  by_cases y : (Kn p).testBit q = true ∧ S.testBit q = false
  · rw [if_pos y] at hg ⊢
    rw [if_pos y.1, if_pos rfl, if_neg (show ¬ S.testBit q = true by rw [y.2]; decide), if_pos rfl, if_neg (show ¬ (1 : Int32) = 0 by decide), ← bitN q (by omega), bt_or S hS8 q (by omega), nI_1, ix256, grd_t (inbN (show 256 * (p + 1) + (S ||| 2 ^ q) < 2304 by have := p2_256 hP (or_lt hS hq); omega) (by decide)), tcl (by have := p2_256 hP (or_lt hS hq); omega), t (p + 1) _ (Nat.le_refl _) (by omega) (or_lt hS hq)]
    refine ⟨_, rfl, ?_, ?_⟩
    · rw [oI_m1 (hb.mono (by decide))]
      cases rvl P Kn Lk (P - (p + 1)) (S ||| 2 ^ q) with
      | none => exact ⟨fun _ => rfl, fun _ => rfl⟩
      | some k => exact ⟨fun z => (by cases z), fun z => (by cases z)⟩
    · intro z
      cases h : rvl P Kn Lk (P - (p + 1)) (S ||| 2 ^ q) with
      | none => rw [h] at z; exact absurd rfl z
      | some k => exact nI_add k _
  · rw [if_neg y]
    refine ⟨-1, ?_, ⟨fun _ => rfl, fun _ => rfl⟩, fun z => absurd rfl z⟩
    have : (if (if (Kn p).testBit q = true then (1 : Int32) else 0) = 1 then (if (if S.testBit q = true then (1 : Int32) else 0) = 0 then (1 : Int32) else 0) else 0) = 0 := by
      by_cases y1 : (Kn p).testBit q = true
      · have y2 : S.testBit q = true := by
          cases h : S.testBit q with
          | true => rfl
          | false => exact absurd ⟨y1, h⟩ y
        rw [if_pos y1, if_pos rfl, if_pos y2, if_neg (show ¬ (1 : Int32) = 0 by decide)]
      · rw [if_neg y1, if_neg (show ¬ (0 : Int32) = 1 by decide)]
    rw [if_pos this]
