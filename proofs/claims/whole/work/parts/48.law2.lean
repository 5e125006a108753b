theorem nI_m1ne {t : Nat} (h : t ≤ 6) : ¬ nI t = (-1 : Int32) := fun z => by
  have := congrArg Int32.toInt z
  rw [nI_toInt (by omega)] at this
  have e : (-1 : Int32).toInt = -1 := rfl
  omega
/-- both walks over the page, from letter i on -/
theorem fault2L {σ : St} {S : Nat} (hS : S ≤ 16) (s0 : σ.1 1 1 = nI S) : ∀ (d i s n m : Nat) (σ' : St), i + d = S → s ≤ 6 → autS (σ.1 2) i = nI s → σ'.1 58 7 = nI s → σ'.1 58 1 = nI S → Cells (σ.1 2) (σ'.1 59) 16 → d < n → d < m →
    ∃ k τ', k ≤ S ∧ fX5_firstFault_L4 σ n (nI s) (nI i) = some (if k < S then .inl (nI k) else .inr ()) ∧ fX9_faultOf_L27 m (nI i) σ' = some (nI k, τ') ∧ (k < S ↔ autS (σ.1 2) S = -1) ∧ (k = S → ∃ t, t ≤ 6 ∧ τ'.1 58 7 = nI t ∧ autS (σ.1 2) S = nI t) := by
  intro d
  induction d with
  | zero =>
    intro i s n m σ' hi hs ha h7 s1 hc hn hm
    obtain ⟨n, rfl, -⟩ := su hn
    obtain ⟨m, rfl, -⟩ := su hm
    have e : i = S := by omega
    subst e
    rw [fX5_firstFault_L4, fX9_faultOf_L27, s0, s1, if_pos (nI_le (a := i) (b := i) (by omega) (by omega)), if_pos (nI_le (a := i) (b := i) (by omega) (by omega))]
    refine ⟨i, σ', by omega, by rw [if_neg (by omega)], rfl, ?_, fun _ => ⟨s, hs, h7, ha⟩⟩
    rw [ha]
    exact ⟨fun q => by omega, fun q => absurd q (nI_m1ne hs)⟩
  | succ d ih =>
    intro i s n m σ' hi hs ha h7 s1 hc hn hm
    obtain ⟨n, rfl, hn⟩ := su hn
    obtain ⟨m, rfl, hm⟩ := su hm
    rw [fX5_firstFault_L4, fX9_faultOf_L27, s0, s1, if_neg (nI_ge (a := i) (b := S) (by omega) (by omega)), if_neg (nI_ge (a := i) (b := S) (by omega) (by omega)), if_neg (show ¬ (16 : Int32) ≤ nI i from nI_ge (a := i) (b := 16) (by omega) (by decide)), grd_t (inbN (show i < 16 by omega) (by decide)), grd_t (inbN (show i < 16 by omega) (by decide)), tcl (by omega)]
    rw [← hc i (by omega)]
    obtain ⟨τ, e1, e2⟩ := go2 hs h7 (σ.1 2 i)
    rw [e1]
    simp only [bnd, Option.bind_some, nI_1]
    have hnext : autS (σ.1 2) (i + 1) = fX5_behind (nI s) (σ.1 2 i) := by rw [autS, ha, if_neg (nI_m1ne hs)]
    by_cases z : fX5_behind (nI s) (σ.1 2 i) = -1
    · simp only [z, if_true]
      refine ⟨i, τ, by omega, by rw [if_pos (by omega)], rfl, ⟨fun _ => ?_, fun _ => by omega⟩, fun q => by omega⟩
      have := aut_dead (hnext.trans z) d
      rw [show i + 1 + d = S by omega] at this
      exact this
    · simp only [z, if_false, n10]
      obtain ⟨t, ht, et⟩ := (beh_rng s hs (σ.1 2 i)).resolve_left z
      have hfr := frX9_go _ _ _ e1
      rw [et]
      refine ih (i + 1) t n m τ (by omega) ht (hnext.trans et) ((e2 z).1.trans et) ?_ ?_ (by omega) (by omega)
      · rw [show τ.1 58 1 = σ'.1 58 1 from hfr 58 1 (by rw [key_58]; decide)]; exact s1
      · intro j hj
        rw [show τ.1 59 j = σ'.1 59 j from hfr 59 j (by rw [key_ne (by decide)]; decide)]; exact hc j hj
/-- the reference's start of a reading -/
def rd0 (σ : St) : St := setI (setI (setI (setI (setI σ 58 7 0) 58 8 1) 58 9 0) 58 10 0) 58 11 3
theorem m_fault (σ : St) : fX9_faultOf σ = Option.bind (fX9_faultOf_L27 fu (0 : Int32) (rd0 σ)) fun q10 => some (q10.1, q10.2) := rfl
/-- fault -/
theorem s_fault {σ σ' : St} (h : Rel σ σ') : ∃ r τ', fX8_fault σ = some r ∧ fX9_fault σ' = some (r, τ') ∧ Rel σ τ' := by
  obtain ⟨P, G, hR⟩ := h
  obtain ⟨h1, ⟨S, hS, s0, s1, hp⟩, h3⟩ := id hR
  obtain ⟨k, τ', hk, e1, e2, e3, e4⟩ := fault2L hS s0 S 0 0 fu fu (rd0 σ') (by omega) (by omega) rfl (by unfold rd0; simp (disch := omega) only [setI_s, setI_oo]; rfl) (by unfold rd0; simp (disch := omega) only [setI_oo]; exact s1) (fun i hi => by unfold rd0; simp (disch := omega) only [setI_oo]; exact hp i hi) (fu_gt (by omega)) (fu_gt (by omega))
  have em : fX9_fault σ' = some (nI k, τ') := by
    unfold fX9_fault
    rw [m_fault, show (0 : Int32) = nI 0 from rfl, e2]
    rfl
  refine ⟨nI k, τ', ?_, em, P, G, ?_⟩
  · unfold fX8_fault fX5_firstFault
    rw [show (0 : Int32) = nI 0 from rfl, e1]
    by_cases z : k < S
    · rw [if_pos z]; rfl
    · rw [if_neg z, s0]
      rw [show k = S by omega]
      rfl
  · exact hR.fr (fr_rfl (ks := [])) (frX9_fault σ' (nI k, τ') em) (fun a _ => by simp) (fun a ha => by simp; omega)
