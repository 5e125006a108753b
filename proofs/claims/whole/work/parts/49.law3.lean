theorem isLawL {σ : St} {S : Nat} (hS : S ≤ 16) (s0 : σ.1 1 1 = nI S) : ∀ (d i n : Nat), i + d = S → d < n → fX5_isLaw_L4 σ n (autS (σ.1 2) i) (nI i) = some (autS (σ.1 2) S) := by
  intro d
  induction d with
  | zero =>
    intro i n hi hn
    obtain ⟨n, rfl, -⟩ := su hn
    have e : i = S := by omega
    subst e
    rw [fX5_isLaw_L4, s0, if_pos (nI_le (a := i) (b := i) (by omega) (by omega))]
  | succ d ih =>
    intro i n hi hn
    obtain ⟨n, rfl, hn⟩ := su hn
    rw [fX5_isLaw_L4, s0, if_neg (nI_ge (a := i) (b := S) (by omega) (by omega)), if_neg (show ¬ (16 : Int32) ≤ nI i from nI_ge (a := i) (b := 16) (by omega) (by decide))]
    by_cases z : autS (σ.1 2) i = -1
    · rw [if_pos z, z]
      have := aut_dead z (d + 1)
      rw [show i + (d + 1) = S by omega] at this
      rw [this]
    · rw [if_neg z, grd_t (inbN (show i < 16 by omega) (by decide)), tcl (by omega)]
      simp only [bnd, nI_1]
      rw [show fX5_behind (autS (σ.1 2) i) (σ.1 2 i) = autS (σ.1 2) (i + 1) by rw [autS, if_neg z]]
      exact ih (i + 1) n (by omega) (by omega)
/-- what the class's reading has read, and the reference's -/
def RdR (σ σ' : St) : Prop := σ.1 3 0 = σ'.1 58 8 ∧ σ.1 3 1 = σ'.1 58 9 ∧ σ.1 3 2 = σ'.1 58 10 ∧ σ.1 3 3 = σ'.1 58 11 ∧ (σ.1 3 1 = 0 ∨ σ.1 3 1 = 1) ∧ (σ.1 3 2 = 0 ∨ σ.1 3 2 = 1)
/-- which letter stood ahead, by the place -/
theorem ahead_of {s : Nat} (hs : s ≤ 6) (c : Int32) (h : ¬ fX5_behind (nI s) c = -1) : (c = 107 ↔ fX5_behind (nI s) c = nI 1) ∧ (c = 119 ↔ fX5_behind (nI s) c = nI 5) := by
  by_cases c1 : c = 107
  · subst c1
    rcases (show s = 0 ∨ s = 1 ∨ s = 2 ∨ s = 3 ∨ s = 4 ∨ s = 5 ∨ s = 6 by omega) with rfl | rfl | rfl | rfl | rfl | rfl | rfl <;> revert h <;> decide +kernel
  · by_cases c2 : c = 119
    · subst c2
      rcases (show s = 0 ∨ s = 1 ∨ s = 2 ∨ s = 3 ∨ s = 4 ∨ s = 5 ∨ s = 6 by omega) with rfl | rfl | rfl | rfl | rfl | rfl | rfl <;> revert h <;> decide +kernel
    · by_cases c3 : c = 98
      · subst c3
        rcases (show s = 0 ∨ s = 1 ∨ s = 2 ∨ s = 3 ∨ s = 4 ∨ s = 5 ∨ s = 6 by omega) with rfl | rfl | rfl | rfl | rfl | rfl | rfl <;> revert h <;> decide +kernel
      · by_cases c4 : c = 111
        · subst c4
          rcases (show s = 0 ∨ s = 1 ∨ s = 2 ∨ s = 3 ∨ s = 4 ∨ s = 5 ∨ s = 6 by omega) with rfl | rfl | rfl | rfl | rfl | rfl | rfl <;> revert h <;> decide +kernel
        · have n1 : ¬ fX5_behind (nI s) c = nI 1 ∧ ¬ fX5_behind (nI s) c = nI 5 := by
            revert h
            unfold fX5_behind
            simp only [c1, c2, c3, c4, if_false]
            rcases (show s = 0 ∨ s = 1 ∨ s = 2 ∨ s = 3 ∨ s = 4 ∨ s = 5 ∨ s = 6 by omega) with rfl | rfl | rfl | rfl | rfl | rfl | rfl
            · intro h; exact absurd rfl h
            · intro h
              rcases bX8_within c 49 51 with q | q
              · rw [q] at h; exact absurd rfl h
              · rw [q, if_pos (show nI 1 = (1 : Int32) from rfl), if_neg (show ¬ (1 : Int32) = 0 by decide)]; decide
            · intro h; exact absurd rfl h
            · intro h; exact absurd rfl h
            · intro h; exact absurd rfl h
            · intro h
              rcases bX8_within c 49 57 with q | q
              · rw [q] at h; exact absurd rfl h
              · rw [q, if_neg (show ¬ nI 5 = (1 : Int32) by decide), if_pos (show nI 5 = (5 : Int32) from rfl), if_neg (show ¬ (1 : Int32) = 0 by decide)]; decide
            · intro h; exact absurd rfl h
          exact ⟨⟨fun q => absurd q c1, fun q => absurd q n1.1⟩, ⟨fun q => absurd q c2, fun q => absurd q n1.2⟩⟩
theorem readL {σ0 : St} {S : Nat} (hS : S ≤ 16) (hv : ¬ autS (σ0.1 2) S = -1) : ∀ (d i s n m : Nat) (a : Int32) (σ σ' : St), i + d = S → s ≤ 6 → autS (σ0.1 2) i = nI s → (a = 107 ↔ s = 1) → (a = 119 ↔ s = 5) → (∀ j, σ.1 2 j = σ0.1 2 j) → σ.1 1 1 = nI S → σ'.1 58 7 = nI s → σ'.1 58 1 = nI S → Cells (σ0.1 2) (σ'.1 59) 16 → RdR σ σ' → d < n → d < m →
    ∃ τ τ', fX4_readFrom_L24 n a (nI i) σ = some τ ∧ fX9_faultOf_L27 m (nI i) σ' = some (nI S, τ') ∧ RdR τ τ' ∧ τ'.1 58 7 = autS (σ0.1 2) S := by
  intro d
  induction d with
  | zero =>
    intro i s n m a σ σ' hi hs ha a1 a2 h2 s0 h7 s1 hc hr hn hm
    obtain ⟨n, rfl, -⟩ := su hn
    obtain ⟨m, rfl, -⟩ := su hm
    have e : i = S := by omega
    subst e
    rw [fX4_readFrom_L24, fX9_faultOf_L27, s0, s1, if_pos (nI_le (a := i) (b := i) (by omega) (by omega)), if_pos (nI_le (a := i) (b := i) (by omega) (by omega))]
    exact ⟨σ, σ', rfl, rfl, hr, h7.trans ha.symm⟩
  | succ d ih =>
    intro i s n m a σ σ' hi hs ha a1 a2 h2 s0 h7 s1 hc hr hn hm
    obtain ⟨n, rfl, hn⟩ := su hn
    obtain ⟨m, rfl, hm⟩ := su hm
    rw [fX4_readFrom_L24, fX9_faultOf_L27, s0, s1, if_neg (nI_ge (a := i) (b := S) (by omega) (by omega)), if_neg (nI_ge (a := i) (b := S) (by omega) (by omega)), if_neg (show ¬ (16 : Int32) ≤ nI i from nI_ge (a := i) (b := 16) (by omega) (by decide)), grd_t (inbN (show i < 16 by omega) (by decide)), grd_t (inbN (show i < 16 by omega) (by decide)), tcl (by omega)]
    rw [← hc i (by omega), h2 i]
    generalize hcc : σ0.1 2 i = c
    obtain ⟨τ', e1, e2⟩ := go2 hs h7 c
    have hnext : autS (σ0.1 2) (i + 1) = fX5_behind (nI s) c := by rw [autS, ha, if_neg (nI_m1ne hs), hcc]
    have z : ¬ fX5_behind (nI s) c = -1 := fun q => hv (by
      have := aut_dead (hnext.trans q) d
      rw [show i + 1 + d = S by omega] at this
      exact this)
    rw [e1]
    simp only [bnd, Option.bind_some, nI_1, z, if_false, n10]
    obtain ⟨t, ht, et⟩ := (beh_rng s hs c).resolve_left z
    obtain ⟨u7, u8, u9, u10, u11⟩ := e2 z
    have hfr := frX9_go _ _ _ e1
    obtain ⟨ah1, ah2⟩ := ahead_of hs c z
    have t1 : (c = 107 ↔ t = 1) := by
      rw [ah1, et]
      exact nI_eq (by omega) (by decide)
    have t5 : (c = 119 ↔ t = 5) := by
      rw [ah2, et]
      exact nI_eq (by omega) (by decide)
    obtain ⟨r0, r1, r2, r3, r4, r5⟩ := hr
    obtain ⟨τ, f1, f2, f3, f4⟩ : ∃ τ, (if a = (107 : Int32) then some (setI σ 3 0 (c - (48 : Int32))) else if a = (119 : Int32) then some (setI σ 3 3 (c - (48 : Int32))) else if c = (98 : Int32) then some (setI σ 3 1 (1 : Int32)) else if c = (111 : Int32) then some (setI σ 3 2 (1 : Int32)) else some σ) = some τ ∧ (∀ j, τ.1 2 j = σ0.1 2 j) ∧ τ.1 1 1 = nI S ∧ RdR τ τ' := by
      unfold RdR
      rw [u8, u9, u10, u11]
      by_cases b1 : a = 107
      · have q := a1.mp b1
        subst q
        rw [if_pos b1]
        refine ⟨_, rfl, fun j => by rw [setI_oo (by omega)]; exact h2 j, by rw [setI_oo (by omega)]; exact s0, ?_⟩
        simp (disch := omega) only [setI_s, setI_oo]
        refine ⟨?_, ?_, ?_, ?_, ?_, ?_⟩ <;> first | exact r4 | exact r5 | (simp [r1, r2, r3]; done)
      · have q1 : s ≠ 1 := fun q => b1 (a1.mpr q)
        rw [if_neg b1]
        by_cases b2 : a = 119
        · have q := a2.mp b2
          subst q
          rw [if_pos b2]
          refine ⟨_, rfl, fun j => by rw [setI_oo (by omega)]; exact h2 j, by rw [setI_oo (by omega)]; exact s0, ?_⟩
          simp (disch := omega) only [setI_s, setI_oo]
          refine ⟨?_, ?_, ?_, ?_, ?_, ?_⟩ <;> first | exact r4 | exact r5 | (simp [r0, r1, r2]; done)
        · have q5 : s ≠ 5 := fun q => b2 (a2.mpr q)
          rw [if_neg b2]
          by_cases b3 : c = 98
          · rw [if_pos b3]
            refine ⟨_, rfl, fun j => by rw [setI_oo (by omega)]; exact h2 j, by rw [setI_oo (by omega)]; exact s0, ?_⟩
            simp (disch := omega) only [setI_s, setI_oo]
            refine ⟨?_, ?_, ?_, ?_, ?_, ?_⟩ <;> first | exact r4 | exact r5 | (simp [b3, q1, q5, r0, r2, r3]; done)
          · rw [if_neg b3]
            by_cases b4 : c = 111
            · rw [if_pos b4]
              refine ⟨_, rfl, fun j => by rw [setI_oo (by omega)]; exact h2 j, by rw [setI_oo (by omega)]; exact s0, ?_⟩
              simp (disch := omega) only [setI_s, setI_oo]
              refine ⟨?_, ?_, ?_, ?_, ?_, ?_⟩ <;> first | exact r4 | exact r5 | (simp [b4, q1, q5, r0, r1, r3]; done)
            · rw [if_neg b4]
              refine ⟨_, rfl, h2, s0, ?_⟩
              refine ⟨?_, ?_, ?_, ?_, ?_, ?_⟩ <;> first | exact r4 | exact r5 | (simp [b3, b4, q1, q5, r0, r1, r2, r3]; done)
    rw [f1]
    simp only [Option.bind_some]
    refine ih (i + 1) t n m c τ τ' (by omega) ht (hnext.trans et) t1 t5 f2 f3 (u7.trans et) ?_ ?_ f4 (by omega) (by omega)
    · rw [show τ'.1 58 1 = σ'.1 58 1 from hfr 58 1 (by rw [key_58]; decide)]; exact s1
    · intro j hj
      rw [show τ'.1 59 j = σ'.1 59 j from hfr 59 j (by rw [key_ne (by decide)]; decide)]; exact hc j hj
/-- the start of the class's reading -/
def rx0 (σ : St) : St := setI (setI (setI (setI σ 3 0 1) 3 1 0) 3 2 0) 3 3 3
theorem x_read (σ : St) : fX4_readFrom σ = Option.bind (fX4_readFrom_L24 fu (0 : Int32) (0 : Int32) (rx0 σ)) fun q20 => some q20 := rfl
/-- law -/
theorem s_law {σ σ' : St} (h : Rel σ σ') : ∃ r τ τ', fX8_law σ = some (r, τ) ∧ fX9_law σ' = some (r, τ') ∧ Rel τ τ' := by
  obtain ⟨P, G, hR⟩ := h
  obtain ⟨h1, ⟨S, hS, s0, s1, hp⟩, h3, h4, h5, h6, h7⟩ := id hR
  have hL : fX5_isLaw_L4 σ fu (0 : Int32) (0 : Int32) = some (autS (σ.1 2) S) := isLawL hS s0 S 0 fu (by omega) (fu_gt (by omega))
  have i7 : (rd0 σ').1 58 7 = nI 0 := by unfold rd0; simp (disch := omega) only [setI_s, setI_oo]; rfl
  have i1 : (rd0 σ').1 58 1 = nI S := by unfold rd0; simp (disch := omega) only [setI_oo]; exact s1
  have ic : Cells (σ.1 2) ((rd0 σ').1 59) 16 := fun i hi => by unfold rd0; simp (disch := omega) only [setI_oo]; exact hp i hi
  unfold fX8_law fX9_law fX5_isLaw
  rw [hL, m_fault]
  simp only [Option.bind_some]
  by_cases dead : autS (σ.1 2) S = -1
  · obtain ⟨k, τ', hk, -, e2, e3, -⟩ := fault2L hS s0 S 0 0 fu fu (rd0 σ') (by omega) (by omega) rfl i7 i1 ic (fu_gt (by omega)) (fu_gt (by omega))
    have hkS : k < S := e3.mpr dead
    rw [show (0 : Int32) = nI 0 from rfl, e2]
    have em : fX9_faultOf σ' = some (nI k, τ') := by rw [m_fault, show (0 : Int32) = nI 0 from rfl, e2]; rfl
    have hfr := frX9_faultOf σ' (nI k, τ') em
    simp only [Option.bind_some]
    rw [show τ'.1 58 1 = nI S from (hfr 58 1 (by rw [key_58]; decide)).trans s1, if_pos dead, if_pos (nI_lt (a := k) (b := S) hkS (by omega))]
    exact ⟨_, _, _, rfl, rfl, P, G, hR.fr (fr_rfl (ks := [])) hfr (fun a _ => by simp) (fun a ha => by simp; omega)⟩
  · obtain ⟨τ, τ', f1, f2, f3, f4⟩ := readL hS dead S 0 0 fu fu 0 (rx0 σ) (rd0 σ') (by omega) (by omega) rfl (by decide) (by decide) (fun j => by unfold rx0; simp (disch := omega) only [setI_oo]) (by unfold rx0; simp (disch := omega) only [setI_oo]; exact s0) i7 i1 ic (by unfold RdR rx0 rd0; simp (disch := omega) only [setI_s, setI_oo]; decide) (fu_gt (by omega)) (fu_gt (by omega))
    have ex : fX4_readFrom σ = some τ := by rw [x_read, show (0 : Int32) = nI 0 from rfl]; rw [show (nI 0 : Int32) = 0 from rfl]; rw [show (0 : Int32) = nI 0 from rfl] at f1; rw [show (0 : Int32) = nI 0 from rfl, f1]; rfl
    have em : fX9_faultOf σ' = some (nI S, τ') := by rw [m_fault, show (0 : Int32) = nI 0 from rfl, f2]; rfl
    have hfr := frX9_faultOf σ' (nI S, τ') em
    have hfx := frX4_readFrom σ τ ex
    rw [show (0 : Int32) = nI 0 from rfl, f2]
    simp only [Option.bind_some]
    rw [show τ'.1 58 1 = nI S from (hfr 58 1 (by rw [key_58]; decide)).trans s1, if_neg dead, if_neg (nI_nlt (a := S) (b := S) (by omega) (by omega)), f4]
    by_cases c1 : autS (σ.1 2) S = 1
    · rw [if_pos c1, if_pos c1]
      exact ⟨_, _, _, rfl, rfl, P, G, hR.fr (fr_rfl (ks := [])) hfr (fun a _ => by simp) (fun a ha => by simp; omega)⟩
    · rw [if_neg c1, if_neg c1]
      by_cases c5 : autS (σ.1 2) S = 5
      · rw [if_pos c5, if_pos c5]
        exact ⟨_, _, _, rfl, rfl, P, G, hR.fr (fr_rfl (ks := [])) hfr (fun a _ => by simp) (fun a ha => by simp; omega)⟩
      · rw [if_neg c5, if_neg c5]
        simp only [Option.bind_some, bnd]
        rw [if_neg (show ¬ (1 : Int32) = nI 0 by decide), ex]
        obtain ⟨r0, r1, r2, r3, r4, r5⟩ := f3
        have ex0 : ∀ a b, a ≠ 3 → τ.1 a b = σ.1 a b := fun a b ha => by
          by_cases q : a = 58
          · subst q; exact hfx 58 b (by rw [key_58]; simp; omega)
          · exact hfx a b (by rw [key_ne q]; simp; omega)
        have em0 : ∀ a, a ≠ 58 → (a < 107 ∨ 111 < a) → τ'.1 a = σ'.1 a := fun a ha hb => funext fun b => hfr a b (by rw [key_ne ha]; simp; omega)
        have es0 : ∀ k, (k < 7 ∨ 11 < k) → τ'.1 58 k = σ'.1 58 k := fun k hk => hfr 58 k (by rw [key_58]; simp; omega)
        have exf : ∀ a, a ≠ 3 → τ.1 a = σ.1 a := fun a ha => funext fun b => ex0 a b ha
        simp (disch := omega) only [Option.bind_some, setI_s, setI_oo]
        refine ⟨_, _, _, rfl, congrArg (fun z => some (z, _)) ?_, P, G, ?_⟩
        · rw [ex0 0 9 (by decide), es0 6 (by omega), h7.1]
        · refine ⟨?_, ?_, ?_, ?_, ?_, ?_, ?_⟩
          · unfold LR
            simp (disch := omega) only [setI_s, setI_oo]
            exact ⟨r0, r1, r2, r3, r4, r5⟩
          · unfold PR
            simp (disch := omega) only [setI_s, setI_oo, setI_o]
            exact ⟨0, by omega, rfl, rfl, fun i hi => by rw [exf 2 (by decide), em0 59 (by decide) (by omega)]; exact hp i hi⟩
          · refine h3.cong (fun a _ _ => by simp (disch := omega) only [setI_o]; exact exf a (by omega)) ?_ ?_ ?_ ?_ (fun a _ _ => by simp (disch := omega) only [setI_o]; exact em0 a (by omega) (by omega))
            all_goals (simp (disch := omega) only [setI_oo]; exact es0 _ (by omega))
          · intro i a b
            simp (disch := omega) only [setI_o]
            rw [exf 5 (by decide)]; exact h4 i a b
          · refine h5.cong ?_ (fun a _ _ => by simp (disch := omega) only [setI_o]; exact exf a (by omega)) (by simp (disch := omega) only [setI_o]; exact exf 5 (by decide)) (fun k _ _ => by simp (disch := omega) only [setI_oo]; exact es0 k (by omega)) (fun a _ _ => by simp (disch := omega) only [setI_o]; exact em0 a (by omega) (by omega))
            simp (disch := omega) only [setI_oo]; exact ex0 0 10 (by decide)
          · refine h6.cong (fun a _ _ => by simp (disch := omega) only [setI_o]; exact exf a (by omega)) ?_ ?_ (by simp (disch := omega) only [setI_o]; exact em0 76 (by omega) (by omega))
            all_goals (simp (disch := omega) only [setI_oo]; exact es0 _ (by omega))
          · simp (disch := omega) only [setI_s, setI_oo]
            rw [ex0 0 9 (by decide), es0 6 (by omega), h7.1, ex0 4 8 (by decide), es0 19 (by omega), h7.2]
            exact ⟨rfl, rfl⟩
