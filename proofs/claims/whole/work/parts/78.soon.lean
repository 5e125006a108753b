/-- the first year of d from i on that has any -/
def fnd (g : Nat → Nat) : Nat → Nat → Int32
  | 0, _ => -1
  | d + 1, i => if g i = 0 then fnd g d (i + 1) else nI (i + 1)
theorem fr_nil {σ τ : St} (h : Fr [] σ τ) : τ.1 = σ.1 := funext fun a => funext fun b => h a b List.not_mem_nil
theorem cmh0_lt {t P : Nat} {B W0 : Nat → Nat → Nat} (ht : t < 8) (hP : P ≤ 8) (hB : ∀ f h, f ≤ P → h < P → B f h < 2 ^ P) (h1 : mass P W0 = 1) {n : Nat} (hn : n < 8) : cmh 0 t P B W0 n < 2 ^ 62 := Nat.lt_of_le_of_lt (cmh_lt ht hP hB h1 n) (kk_pow (by omega) (fun z => absurd rfl z))
theorem soonXL {t P k : Nat} {B W0 : Nat → Nat → Nat} {ρ : St} (b : BX 4 (ρ.1 3 1) P B ρ) (ht : t < 8) (h1 : mass P W0 = 1) (hS : Spt P W0) (et : ρ.1 (4 + 7 + k) 1 = nI t) : ∀ (d i n : Nat) (σ : St), i + d = 8 → d < n → AtX 0 t P B W0 i ρ σ → (∃ τ, fX8_soonest_L56 (4 + 7 + k) n (nI (i + 1)) σ = some (.inr τ) ∧ fnd (cmh 0 t P B W0) d i = -1) ∨ (∃ τ, fX8_soonest_L56 (4 + 7 + k) n (nI (i + 1)) σ = some (.inl (fnd (cmh 0 t P B W0) d i, τ))) := by
  intro d
  induction d with
  | zero =>
    intro i n σ hi hn a
    obtain ⟨n, rfl, -⟩ := su hn
    have e : i = 8 := by omega
    subst e
    rw [fX8_soonest_L56, if_pos (show (8 : Int32) < nI (8 + 1) by decide)]
    exact Or.inl ⟨σ, rfl, rfl⟩
  | succ d ih =>
    intro i n σ hi hn a
    obtain ⟨n, rfl, hn⟩ := su hn
    obtain ⟨σ1, s1, s2⟩ := nextX b ht (show 0 < 2 by decide) h1 hS (show i ≤ 8 by omega) (fun z => absurd rfl z) a
    rw [nI_0] at s1
    have hc := cmh0_lt ht b.1 b.2.1 h1 (show i < 8 by omega)
    rw [fX8_soonest_L56, if_neg (show ¬ (8 : Int32) < nI (i + 1) from nI_nlt (a := 8) (b := i + 1) (by omega) (by decide)), a.1, et, s1, obs, fnd]
    by_cases z : cmh 0 t P B W0 i = 0
    · rw [if_pos (lcmp_le.mpr ((vN_le0 hc).mpr z)), if_pos z, nI_1]
      exact ih (i + 1) n σ1 (by omega) (by omega) s2
    · rw [if_neg (fun q => z ((vN_le0 hc).mp (lcmp_le.mp q))), if_neg z]
      exact Or.inr ⟨σ1, rfl⟩
theorem soonML {t P : Nat} {B W0 : Nat → Nat → Nat} {τ : St} (ht : t < 8) (hP : P ≤ 8) (hB : ∀ f h, f ≤ P → h < P → B f h < 2 ^ P) (h1 : mass P W0 = 1) (h69 : ∀ j, j < 8 → τ.2 69 (j + 1) = vN (cmh 0 t P B W0 j)) : ∀ (d i n : Nat), i + d = 8 → d < n → (fX9_soonestOf_L7 τ n (nI (i + 1)) = some (.inr ()) ∧ fnd (cmh 0 t P B W0) d i = -1) ∨ fX9_soonestOf_L7 τ n (nI (i + 1)) = some (.inl (fnd (cmh 0 t P B W0) d i, τ)) := by
  intro d
  induction d with
  | zero =>
    intro i n hi hn
    obtain ⟨n, rfl, -⟩ := su hn
    have e : i = 8 := by omega
    subst e
    rw [fX9_soonestOf_L7, if_pos (show (9 : Int32) ≤ nI (8 + 1) by decide)]
    exact Or.inl ⟨rfl, rfl⟩
  | succ d ih =>
    intro i n hi hn
    obtain ⟨n, rfl, hn⟩ := su hn
    have hc := cmh0_lt ht hP hB h1 (show i < 8 by omega)
    rw [fX9_soonestOf_L7, if_neg (show ¬ (9 : Int32) ≤ nI (i + 1) from nI_ge (a := i + 1) (b := 9) (by omega) (by decide)), grd_t (inbN (show i + 1 < 9 by omega) (by decide)), tcl (by omega), h69 i (by omega), fnd]
    by_cases z : cmh 0 t P B W0 i = 0
    · rw [if_pos (lcmp_le.mpr ((vN_le0 hc).mpr z)), if_pos z, nI_1]
      exact ih (i + 1) n (by omega) (by omega)
    · rw [if_neg (fun q => z ((vN_le0 hc).mp (lcmp_le.mp q))), if_neg z]
      exact Or.inr rfl
theorem soon2 {σ σ' : St} {P G : Nat} (hR : RR σ σ' P G) {k : Nat} (hk : k < G) (z : σ'.1 65 (8 * k + 6) = 0) : ∃ r τ τ', fX8_soonest (nI k) σ = some (r, τ) ∧ fX9_soonestOf (nI k) σ' = some (r, τ') ∧ τ'.2 58 = σ'.2 58 := by
  obtain ⟨h1, h2, h3, -⟩ := id hR
  obtain ⟨⟨hP, hG⟩, ⟨p0, p1⟩, ⟨g0, g1⟩, -⟩ := id h3
  obtain ⟨f0, h0, t, B, ⟨hf, hh, ht⟩, ⟨x1, x2, x3⟩, ⟨m1, m2, m3⟩, bx, bm⟩ := wset hR hk
  obtain ⟨σ1, s1, s2⟩ := startX (c := 0) (t := t) (B := B) hf hh hP σ
  obtain ⟨τ', l1, l2, l4, l3⟩ := layM bm (show k < 8 by omega) (show t < 8 by omega) hf hh m1 m3 m2
  have ig : fX8_isGift (nI k) σ = 1 := by
    rcases isG2 g0 g1 hG (nI k) with ⟨j, hj, ej, a, b⟩ | ⟨hn, a, b⟩
    · exact a
    · exact absurd rfl (hn k hk)
  unfold fX8_soonest fX9_soonestOf
  simp only [ig, n10, if_false]
  simp only [grd_t (inbN (show k < 8 by omega) (by decide)), tcl (show k < 2 ^ 31 by omega)]
  rw [xlives h3 (show k < 8 by omega)]
  simp only [z, if_true, n10, if_false]
  rw [x2, x3, s1, obs, l1, obs]
  have e1 := soonXL bx (show t < 8 by omega) (mass_one hf hh) (spt_one hf hh) x1 8 0 fu σ1 (by omega) (fu_gt (by omega)) s2
  have e2 := soonML (show t < 8 by omega) hP bx.2.1 (mass_one hf hh) l3 8 0 fu (by omega) (fu_gt (by omega))
  rw [show nI (0 + 1) = (1 : Int32) from rfl] at e1 e2
  have e3 : ∃ τ, (Option.bind (fX8_soonest_L56 (4 + 7 + k) fu (1 : Int32) σ1) fun s10 => Sum.elim (fun z12 => some z12) (fun q9 => some ((-1 : Int32), q9)) s10) = some (fnd (cmh 0 t P B (onW f0 h0)) 8 0, τ) := by
    rcases e1 with ⟨τ, q1, q2⟩ | ⟨τ, q1⟩
    · rw [q1, obs, q2]; exact ⟨τ, rfl⟩
    · rw [q1, obs]; exact ⟨τ, rfl⟩
  have e4 : (Option.bind (fX9_soonestOf_L7 τ' fu (1 : Int32)) fun s6 => Sum.elim (fun z8 => some z8) (fun q5 => some ((-1 : Int32), τ')) s6) = some (fnd (cmh 0 t P B (onW f0 h0)) 8 0, τ') := by
    rcases e2 with ⟨q1, q2⟩ | q1
    · rw [q1, obs, q2]; rfl
    · rw [q1, obs]; rfl
  obtain ⟨τ, e3⟩ := e3
  exact ⟨_, τ, τ', e3, e4, l4⟩
/-- soonest -/
theorem s_soonest (p : Int32) {σ σ' : St} (h : Rel σ σ') : ∃ r τ τ', fX8_soonest p σ = some (r, τ) ∧ fX9_soonest p σ' = some (r, τ') ∧ Rel τ τ' := by
  obtain ⟨P, G, hR⟩ := h
  obtain ⟨h1, h2, h3, -⟩ := id hR
  obtain ⟨⟨hP, hG⟩, ⟨p0, p1⟩, ⟨g0, g1⟩, -⟩ := id h3
  have key : ∃ r τ τ', fX8_soonest p σ = some (r, τ) ∧ fX9_soonest p σ' = some (r, τ') := by
    rcases isG2 g0 g1 hG p with ⟨k, hk, rfl, a, b⟩ | ⟨-, a, b⟩
    · by_cases z : σ'.1 65 (8 * k + 6) = 0
      · obtain ⟨r, τ, τ', e1, e2, -⟩ := soon2 hR hk z
        refine ⟨r, τ, τ', e1, ?_⟩
        unfold fX9_soonest
        simp only [b, n10, if_false]
        rw [mlives (by omega), obs, if_pos z, if_neg (show ¬ (1 : Int32) = 0 by decide), e2, obs]
      · unfold fX8_soonest fX9_soonest
        simp only [a, b, n10, if_false]
        simp only [grd_t (inbN (show k < 8 by omega) (by decide)), tcl (show k < 2 ^ 31 by omega)]
        rw [xlives h3 (show k < 8 by omega), mlives (by omega), obs]
        simp only [z, if_false, if_true]
        exact ⟨_, _, _, rfl, rfl⟩
    · unfold fX8_soonest fX9_soonest
      simp only [a, b, if_true]
      exact ⟨_, _, _, rfl, rfl⟩
  obtain ⟨r, τ, τ', e1, e2⟩ := key
  exact ⟨r, τ, τ', e1, e2, P, G, hR.fr (frX8_soonest p σ (r, τ) e1) (frX9_soonest p σ' (r, τ') e2) (fun _ _ => List.not_mem_nil) (fun _ _ => List.not_mem_nil)⟩
