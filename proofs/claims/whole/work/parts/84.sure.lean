theorem FX.upd {P t N Y i : Nat} {wr : Nat → Int32} {Kn : Nat → Nat} {ρ σ : St} (x : FX P t N wr Kn ρ) (e : ∀ a b, ¬ (a = 57 ∧ b = Y) → σ.1 a b = ρ.1 a b) : FX P t N (fun y => if y = Y then nI i else wr y) Kn (setI σ 57 Y (nI i)) := by
  obtain ⟨x0, x1, x2, x6, x57⟩ := x
  refine ⟨?_, ?_, ?_, fun h hh => ?_, fun y hy => ?_⟩
  · rw [setI_oo (by omega), e _ _ (by omega)]; exact x0
  · rw [setI_oo (by omega), e _ _ (by omega)]; exact x1
  · rw [setI_oo (by omega), e _ _ (by omega)]; exact x2
  · rw [setI_oo (by omega), e _ _ (by omega)]; exact x6 h hh
  · show _ = (if y = Y then nI i else wr y)
    rw [setI_1]
    by_cases z : y = Y
    · rw [if_pos ⟨rfl, z⟩, if_pos z]
    · rw [if_neg (fun q => z q.2), if_neg z, e _ _ (by omega)]; exact x57 y hy
theorem FM.upd {P t N Y i : Nat} {wr : Nat → Int32} {Kn : Nat → Nat} {ρ σ : St} (x : FM P t N wr Kn ρ) (e : ∀ a b, ¬ (a = 76 ∧ b = Y) → σ.1 a b = ρ.1 a b) : FM P t N (fun y => if y = Y then nI i else wr y) Kn (setI σ 76 Y (nI i)) := by
  obtain ⟨x0, x1, x2, x6, x57⟩ := x
  refine ⟨?_, ?_, ?_, fun h hh => ?_, fun y hy => ?_⟩
  · rw [setI_oo (by omega), e _ _ (by omega)]; exact x0
  · rw [setI_oo (by omega), e _ _ (by omega)]; exact x1
  · rw [setI_oo (by omega), e _ _ (by omega)]; exact x2
  · rw [setI_oo (by omega), e _ _ (by omega)]; exact x6 h hh
  · show _ = (if y = Y then nI i else wr y)
    rw [setI_1]
    by_cases z : y = Y
    · rw [if_pos ⟨rfl, z⟩, if_pos z]
    · rw [if_neg (fun q => z q.2), if_neg z, e _ _ (by omega)]; exact x57 y hy
theorem FC.upd {P t N Y i : Nat} {wr : Nat → Int32} {Kn : Nat → Nat} (c : FC P t N wr Kn) (hi : i < P) : FC P t N (fun y => if y = Y then nI i else wr y) Kn := ⟨c.1, c.2.1, c.2.2.1, c.2.2.2.1, fun y hy => by
  by_cases z : y = Y
  · right
    exact ⟨i, hi, by simp only [if_pos z]⟩
  · have := c.2.2.2.2 y hy
    simp only [if_neg z]
    exact this⟩
theorem sureL {P t N Y : Nat} {wr : Nat → Int32} {Kn : Nat → Nat} {ρ ρ' : St} {was : Int32} (c : FC P t N wr Kn) (x : FX P t N wr Kn ρ) (m : FM P t N wr Kn ρ') (hY : Y < 8) : ∀ (d i n k : Nat) (v5 v6 : Int32) (σ σ' : St), i + d = P → d < n → d < k → (∀ a b, ¬ (a = 57 ∧ b = Y) → σ.1 a b = ρ.1 a b) → (∀ a b, ¬ (a = 76 ∧ b = Y) → σ'.1 a b = ρ'.1 a b) → ∃ r s τ τ', fX0_onlyOneIn_L17 (nI Y) 4 was n v5 v6 (nI i) σ = some (r, s, τ) ∧ fX9_sure_L37 (nI Y) was k v5 v6 (nI i) σ' = some (r, s, τ') ∧ (∀ a b, ¬ (a = 57 ∧ b = Y) → τ.1 a b = ρ.1 a b) ∧ (∀ a b, ¬ (a = 76 ∧ b = Y) → τ'.1 a b = ρ'.1 a b) := by
  have hP := c.1
  intro d
  induction d with
  | zero =>
    intro i n k v5 v6 σ σ' hi hn hk e e'
    obtain ⟨n, rfl, -⟩ := su hn
    obtain ⟨k, rfl, -⟩ := su hk
    have ei : i = P := by omega
    subst ei
    have q0 : σ.1 4 0 = nI i := (e 4 0 (by omega)).trans x.1
    have q1 : σ'.1 58 12 = nI i := (e' 58 12 (by omega)).trans m.1
    rw [fX0_onlyOneIn_L17, fX9_sure_L37, q0, q1, if_pos (nI_le (a := i) (b := i) (by omega) (by omega)), if_pos (nI_le (a := i) (b := i) (by omega) (by omega))]
    exact ⟨_, _, _, _, rfl, rfl, e, e'⟩
  | succ d ih =>
    intro i n k v5 v6 σ σ' hi hn hk e e'
    obtain ⟨n, rfl, hn⟩ := su hn
    obtain ⟨k, rfl, hk⟩ := su hk
    have q0 : σ.1 4 0 = nI P := (e 4 0 (by omega)).trans x.1
    have q1 : σ'.1 58 12 = nI P := (e' 58 12 (by omega)).trans m.1
    obtain ⟨τ1, a1, a2⟩ := fillX (c.upd (Y := Y) (i := i) (by omega)) (x.upd (i := i) e)
    obtain ⟨τ2, b1, b2, -⟩ := fillM (c.upd (Y := Y) (i := i) (by omega)) (m.upd (i := i) e')
    have e1 : ∀ a b, ¬ (a = 57 ∧ b = Y) → τ1.1 a b = ρ.1 a b := fun a b h => by rw [a2, setI_oo h]; exact e a b h
    have e2 : ∀ a b, ¬ (a = 76 ∧ b = Y) → τ2.1 a b = ρ'.1 a b := fun a b h => by rw [b2, setI_oo h]; exact e' a b h
    have e3 : ∀ a b, ¬ (a = 76 ∧ b = Y) → (setI σ' 76 Y (nI i)).1 a b = ρ'.1 a b := fun a b h => by rw [setI_oo h]; exact e' a b h
    generalize mass P (fsq t P (BB Kn) (fun y => if y = Y then nI i else wr y) N) = M at a1 b1
    rw [fX0_onlyOneIn_L17, fX9_sure_L37, q0, q1, if_neg (nI_ge (a := i) (b := P) (by omega) (by omega)), if_neg (nI_ge (a := i) (b := P) (by omega) (by omega)), grd_t (inbN hY (by decide)), tcl (by omega), bnd_eq, nI_1]
    simp only [grd_t (inbN hY (by decide)), bnd_eq]
    by_cases w : was = -1
    · rw [if_pos w, if_pos w, a1, b1, obs, obs]
      by_cases z : nI M ≤ 0
      · rw [if_pos (show (nI M, τ1).1 ≤ 0 from z), if_pos (show (nI M, τ2).1 ≤ 0 from z), obs]
        have := ih (i + 1) n k v5 v6 τ1 τ2 (by omega) (by omega) (by omega) e1 e2
        simp only [if_true, Int32.add_zero]
        exact this
      · rw [if_neg (show ¬ (nI M, τ1).1 ≤ 0 from z), if_neg (show ¬ (nI M, τ2).1 ≤ 0 from z), obs]
        have := ih (i + 1) n k (nI i) (v6 + 1) τ1 τ2 (by omega) (by omega) (by omega) e1 e2
        simp only [n10, if_false]
        exact this
    · rw [if_neg w, if_neg w]
      by_cases u : was = nI i
      · rw [if_pos u, if_pos u, a1, b1, obs, obs]
        by_cases z : nI M ≤ 0
        · rw [if_pos (show (nI M, τ1).1 ≤ 0 from z), if_pos (show (nI M, τ2).1 ≤ 0 from z), obs]
          have := ih (i + 1) n k v5 v6 τ1 τ2 (by omega) (by omega) (by omega) e1 e2
          simp only [if_true, Int32.add_zero]
          exact this
        · rw [if_neg (show ¬ (nI M, τ1).1 ≤ 0 from z), if_neg (show ¬ (nI M, τ2).1 ≤ 0 from z), obs]
          have := ih (i + 1) n k (nI i) (v6 + 1) τ1 τ2 (by omega) (by omega) (by omega) e1 e2
          simp only [n10, if_false]
          exact this
      · rw [if_neg u, if_neg u, obs]
        have := ih (i + 1) n k v5 v6 σ (setI σ' 76 Y (nI i)) (by omega) (by omega) (by omega) e e3
        simp only [if_true, Int32.add_zero]
        exact this
theorem isYear2 {σ σ' : St} {P t N : Nat} {wr : Nat → Int32} {Kn : Nat → Nat} (c : FC P t N wr Kn) (x : FX P t N wr Kn σ) (m : FM P t N wr Kn σ') (p : Int32) : (∃ Y, 1 ≤ Y ∧ Y < 8 ∧ p = nI Y ∧ fX0_hasYear p σ = 1 ∧ fX9_isYear p σ' = 1) ∨ (fX0_hasYear p σ = 0 ∧ fX9_isYear p σ' = 0) := by
  obtain ⟨hP, ht, ⟨hN1, hN7⟩, hK, hw⟩ := id c
  unfold fX0_hasYear fX9_isYear
  rw [show (1 : Int64) = (1 : Int32).toInt64 from rfl, wi2, x.2.2.1, m.2.2.1]
  rcases within_c p (a := 1) (b := N) (by omega) (by omega) with ⟨y, y1, y2, e, e'⟩ | ⟨-, e'⟩
  · exact Or.inl ⟨y, y1, by omega, e, e', e'⟩
  · exact Or.inr ⟨e', e'⟩
/-- sure -/
theorem s_sure (p : Int32) {σ σ' : St} (h : Rel σ σ') : ∃ r τ τ', fX8_sure p σ = some (r, τ) ∧ fX9_sure p σ' = some (r, τ') ∧ Rel τ τ' := by
  obtain ⟨P, G, hR⟩ := h
  have key : ∃ r τ τ', fX8_sure p σ = some (r, τ) ∧ fX9_sure p σ' = some (r, τ') ∧ τ.1 = σ.1 ∧ τ'.1 = σ'.1 := by
    unfold fX8_sure fX9_sure fX0_isOpen
    rcases fset hR with ⟨a, b⟩ | ⟨t, N, wr, Kn, c, x, m⟩
    · rw [a, b, if_pos (show (0 : Int32) ≤ 0 by decide), if_pos rfl, if_pos rfl]
      exact ⟨_, _, _, rfl, rfl, rfl, rfl⟩
    · obtain ⟨hP, ht, ⟨hN1, hN7⟩, hK, hw⟩ := id c
      rw [x.2.2.1, m.2.1, if_neg (nI_nle (n := N) (by omega) (by omega)), if_neg (show ¬ (1 : Int32) = 0 by decide), if_neg (nI_ne_m1 (by omega))]
      rcases isYear2 c x m p with ⟨Y, y1, y2, rfl, a, b⟩ | ⟨a, b⟩
      · rw [a, b, if_neg (show ¬ (1 : Int32) = 0 by decide), if_neg (show ¬ (1 : Int32) = 0 by decide)]
        unfold fX0_onlyOneIn
        simp only [grd_t (inbN y2 (by decide)), tcl (show Y < 2 ^ 31 by omega), bnd_eq]
        rw [x.2.2.2.2 Y y2, m.2.2.2.2 Y y2]
        obtain ⟨r, s, τ, τ', f1, f2, f3, f4⟩ := sureL (was := wr Y) c x m y2 P 0 fu fu (-1) 0 σ σ' (by omega) (fu_gt (by omega)) (fu_gt (by omega)) (fun _ _ _ => rfl) (fun _ _ _ => rfl)
        rw [nI_0] at f1 f2
        rw [f1, obs, f2, obs]
        have k1 : (setI τ 57 Y (wr Y)).1 = σ.1 := funext fun a => funext fun b => by
          rw [setI_1]
          by_cases z : a = 57 ∧ b = Y
          · rw [if_pos z, z.1, z.2]; exact (x.2.2.2.2 Y y2).symm
          · rw [if_neg z]; exact f3 a b z
        have k2 : (setI τ' 76 Y (wr Y)).1 = σ'.1 := funext fun a => funext fun b => by
          rw [setI_1]
          by_cases z : a = 76 ∧ b = Y
          · rw [if_pos z, z.1, z.2]; exact (m.2.2.2.2 Y y2).symm
          · rw [if_neg z]; exact f4 a b z
        by_cases z : s = 1
        · rw [if_pos (show (r, s, τ).2.1 = 1 from z), if_pos (show (r, s, τ').2.1 = 1 from z), obs]
          exact ⟨_, _, _, rfl, rfl, k1, k2⟩
        · rw [if_neg (show ¬ (r, s, τ).2.1 = 1 from z), if_neg (show ¬ (r, s, τ').2.1 = 1 from z), obs]
          exact ⟨_, _, _, rfl, rfl, k1, k2⟩
      · rw [a, b, if_pos rfl, if_pos rfl]
        exact ⟨_, _, _, rfl, rfl, rfl, rfl⟩
  obtain ⟨r, τ, τ', e1, e2, e3, e4⟩ := key
  exact ⟨r, τ, τ', e1, e2, P, G, hR.cong (fun a b _ => by rw [e3]) (fun a b _ => by rw [e4])⟩
