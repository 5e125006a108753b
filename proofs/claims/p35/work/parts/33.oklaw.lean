set_option maxHeartbeats 4000000 in
set_option maxRecDepth 100000 in
theorem kL_law_L85 (e : Nat) {k : Nat}  (σ : St)   (q : Sum (Int32) (Unit)) : ∀ (n : Nat) (v9 : Int32), fL_law_L85 σ n v9 = some q → (∀ z, q = .inl z → z = 1) → (∀ q1, q = .inr q1 → LJ 64 k (e + 6) 112 [(0, .ref 68), (1, .ref 0), (2, .ref 58), (4, .ref 60), (5, .ref 61), (6, .ref 62), (7, .ref 63)] [] σ) → LJ 64 k (e + 6) 85 [(0, .ref 68), (1, .ref 0), (2, .ref 58), (4, .ref 60), (5, .ref 61), (6, .ref 62), (7, .ref 63), (9, .int v9)] [] σ := by
  intro n
  induction n with
  | zero =>
    intro v9  hf
    simp only [fL_law_L85] at hf
    exact absurd hf (by simp)
  | succ n ih =>
    intro v9  hf h1 h2
    rw [fL_law_L85] at hf
    refine a_iload dL_law_85 7 rfl ?_
    refine a_iconst (4 : Int32) dL_law_87 rfl ?_
    by_cases hc9 : (4 : Int32) ≤ v9
    · rw [if_pos hc9] at hf
      refine a_icmp_ge_t 112 dL_law_88 (by decide) hc9 ?_
      have hq := Option.some.inj hf
      refine a_locs (loc' := [(0, .ref 68), (1, .ref 0), (2, .ref 58), (4, .ref 60), (5, .ref 61), (6, .ref 62), (7, .ref 63)]) [0, 1, 2, 3, 4, 5, 6] rfl ?_
      exact h2 _ hq.symm
    · rw [if_neg hc9] at hf
      refine a_icmp_ge_f 112 dL_law_88 (by decide) hc9 ?_
      refine a_aload_n dL_law_91 rfl 1 rfl ?_
      refine a_iload dL_law_92 7 rfl ?_
      refine a_callV (as := [.int v9]) (stk := []) (q := some (.int (fX8_lawTold v9 σ))) (σ1 := σ) (SpK.mono (kX8_lawTold (e + 4) v9 σ) (hkL (by decide))) (ob_0.mono (hkL (by decide))) vl_L_97 rfl (Nat.le_of_ble_eq_true rfl) dL_law_94 ?_
      refine a_aload_n dL_law_97 rfl 2 rfl ?_
      refine a_iload dL_law_98 7 rfl ?_
      obtain ⟨hb10, hf⟩ := grd_elim hf
      refine a_iald (lia_58 (by decide)) hb10 dL_law_100 ?_
      by_cases hc11 : (fX8_lawTold v9 σ) = (σ.1 58 v9.toNatClampNeg)
      · rw [if_pos hc11] at hf
        refine a_icmp_eq_t 106 dL_law_101 (by decide) hc11 ?_
        refine a_iinc (v9 + (1 : Int32)) dL_law_106 7 rfl rfl (by decide) (loc' := [(9, .int (v9 + (1 : Int32))), (0, .ref 68), (1, .ref 0), (2, .ref 58), (4, .ref 60), (5, .ref 61), (6, .ref 62), (7, .ref 63)]) rfl ?_
        refine a_goto 85 dL_law_109 (by decide) ?_
        refine a_locs (loc' := [(0, .ref 68), (1, .ref 0), (2, .ref 58), (4, .ref 60), (5, .ref 61), (6, .ref 62), (7, .ref 63), (9, .int (v9 + (1 : Int32)))]) [1, 2, 3, 4, 5, 6, 7, 0] rfl ?_
        exact ih (v9 + (1 : Int32)) hf h1 h2
      · rw [if_neg hc11] at hf
        refine a_icmp_eq_f 106 dL_law_101 (by decide) hc11 ?_
        refine a_iconst (0 : Int32) dL_law_104 rfl ?_
        have hq := Option.some.inj hf
        exact a_lend (h1 _ hq.symm) dL_law_105
set_option maxHeartbeats 4000000 in
set_option maxRecDepth 100000 in
theorem kL_law_L174 (e : Nat) {k : Nat} (c9 : Int32) (σ : St)   (q : Sum (Int32) (Unit)) : ∀ (n : Nat) (v10 : Int32), fL_law_L174 c9 σ n v10 = some q → (∀ z, q = .inl z → z = 1) → (∀ q1, q = .inr q1 → LJ 64 k (e + 6) 241 [(0, .ref 68), (1, .ref 0), (2, .ref 58), (4, .ref 60), (5, .ref 61), (6, .ref 62), (7, .ref 63), (9, .int c9)] [] σ) → LJ 64 k (e + 6) 174 [(0, .ref 68), (1, .ref 0), (2, .ref 58), (4, .ref 60), (5, .ref 61), (6, .ref 62), (7, .ref 63), (9, .int c9), (10, .int v10)] [] σ := by
  intro n
  induction n with
  | zero =>
    intro v10  hf
    simp only [fL_law_L174] at hf
    exact absurd hf (by simp)
  | succ n ih =>
    intro v10  hf h1 h2
    rw [fL_law_L174] at hf
    refine a_iload dL_law_174 8 rfl ?_
    refine a_iconst (5 : Int32) dL_law_176 rfl ?_
    by_cases hc24 : (5 : Int32) ≤ v10
    · rw [if_pos hc24] at hf
      refine a_icmp_ge_t 241 dL_law_177 (by decide) hc24 ?_
      have hq := Option.some.inj hf
      refine a_locs (loc' := [(0, .ref 68), (1, .ref 0), (2, .ref 58), (4, .ref 60), (5, .ref 61), (6, .ref 62), (7, .ref 63), (9, .int c9)]) [0, 1, 2, 3, 4, 5, 6, 7] rfl ?_
      exact h2 _ hq.symm
    · rw [if_neg hc24] at hf
      refine a_icmp_ge_f 241 dL_law_177 (by decide) hc24 ?_
      refine a_aload_n dL_law_180 rfl 1 rfl ?_
      refine a_iload dL_law_181 7 rfl ?_
      refine a_iload dL_law_183 8 rfl ?_
      obtain ⟨q25, hq25, hf⟩ := obind hf
      refine a_callV (as := [.int c9, .int v10]) (stk := []) (q := some (.int q25)) (σ1 := σ) (SpK.mono (kX8_as (e + 4) c9 v10 σ _ hq25) (hkL (by decide))) (ob_0.mono (hkL (by decide))) vl_L_111 rfl (Nat.le_of_ble_eq_true rfl) dL_law_185 ?_
      refine a_iload dL_law_188 8 rfl ?_
      obtain ⟨q27, hr30, hf⟩ := obind hf
      have hA29 : LJ 64 k (e + 6) 230 [(0, .ref 68), (1, .ref 0), (2, .ref 58), (4, .ref 60), (5, .ref 61), (6, .ref 62), (7, .ref 63), (9, .int c9), (10, .int v10)] [.int q27, .int q25] σ := by
        by_cases hc28 : q25 = q27
        · rw [if_pos hc28] at hf
          refine a_icmp_eq_t 235 dL_law_230 (by decide) hc28 ?_
          refine a_iinc (v10 + (1 : Int32)) dL_law_235 8 rfl rfl (by decide) (loc' := [(10, .int (v10 + (1 : Int32))), (0, .ref 68), (1, .ref 0), (2, .ref 58), (4, .ref 60), (5, .ref 61), (6, .ref 62), (7, .ref 63), (9, .int c9)]) rfl ?_
          refine a_goto 174 dL_law_238 (by decide) ?_
          refine a_locs (loc' := [(0, .ref 68), (1, .ref 0), (2, .ref 58), (4, .ref 60), (5, .ref 61), (6, .ref 62), (7, .ref 63), (9, .int c9), (10, .int (v10 + (1 : Int32)))]) [1, 2, 3, 4, 5, 6, 7, 8, 0] rfl ?_
          exact ih (v10 + (1 : Int32)) hf h1 h2
        · rw [if_neg hc28] at hf
          refine a_icmp_eq_f 235 dL_law_230 (by decide) hc28 ?_
          refine a_iconst (0 : Int32) dL_law_233 rfl ?_
          have hq := Option.some.inj hf
          exact a_lend (h1 _ hq.symm) dL_law_234
      clear hf
      have hf := hr30
      clear hr30
      by_cases hc26 : v10 = 0
      · rw [if_pos hc26] at hf
        refine a_if_eq_t 224 dL_law_190 (by decide) hc26 ?_
        refine a_iload dL_law_224 7 rfl ?_
        refine a_goto 230 dL_law_226 (by decide) ?_
        have hq := Option.some.inj hf
        subst hq
        exact hA29
      · rw [if_neg hc26] at hf
        refine a_if_eq_f 224 dL_law_190 (by decide) hc26 ?_
        refine a_iload dL_law_193 8 rfl ?_
        refine a_aload dL_law_195 6 rfl ?_
        refine a_bipush (8 : Int32) dL_law_197 rfl ?_
        refine a_iload dL_law_199 7 rfl ?_
        refine a_imul dL_law_201 ?_
        obtain ⟨hb31, hf⟩ := grd_elim hf
        refine a_iald (lia_63 (by decide)) hb31 dL_law_202 ?_
        by_cases hc32 : v10 = (σ.1 63 ((8 : Int32) * c9).toNatClampNeg)
        · rw [if_pos hc32] at hf
          refine a_icmp_eq_t 224 dL_law_203 (by decide) hc32 ?_
          refine a_iload dL_law_224 7 rfl ?_
          refine a_goto 230 dL_law_226 (by decide) ?_
          have hq := Option.some.inj hf
          subst hq
          exact hA29
        · rw [if_neg hc32] at hf
          refine a_icmp_eq_f 224 dL_law_203 (by decide) hc32 ?_
          refine a_iload dL_law_206 8 rfl ?_
          refine a_iconst (1 : Int32) dL_law_208 rfl ?_
          by_cases hc33 : v10 = (1 : Int32)
          · rw [if_pos hc33] at hf
            refine a_icmp_ne_f 229 dL_law_209 (by decide) hc33 ?_
            refine a_aload dL_law_212 6 rfl ?_
            refine a_bipush (8 : Int32) dL_law_214 rfl ?_
            refine a_iload dL_law_216 7 rfl ?_
            refine a_imul dL_law_218 ?_
            obtain ⟨hb34, hf⟩ := grd_elim hf
            refine a_iald (lia_63 (by decide)) hb34 dL_law_219 ?_
            refine a_iconst (4 : Int32) dL_law_220 rfl ?_
            by_cases hc35 : (σ.1 63 ((8 : Int32) * c9).toNatClampNeg) = (4 : Int32)
            · rw [if_pos hc35] at hf
              refine a_icmp_ne_f 229 dL_law_221 (by decide) hc35 ?_
              refine a_iload dL_law_224 7 rfl ?_
              refine a_goto 230 dL_law_226 (by decide) ?_
              have hq := Option.some.inj hf
              subst hq
              exact hA29
            · rw [if_neg hc35] at hf
              refine a_icmp_ne_t 229 dL_law_221 (by decide) hc35 ?_
              refine a_iconst (-1 : Int32) dL_law_229 rfl ?_
              have hq := Option.some.inj hf
              subst hq
              exact hA29
          · rw [if_neg hc33] at hf
            refine a_icmp_ne_t 229 dL_law_209 (by decide) hc33 ?_
            refine a_iconst (-1 : Int32) dL_law_229 rfl ?_
            have hq := Option.some.inj hf
            subst hq
            exact hA29
set_option maxHeartbeats 4000000 in
set_option maxRecDepth 100000 in
theorem kL_law_L161 (e : Nat) {k : Nat}  (σ : St)   (q : Sum (Int32) (Unit)) : ∀ (n : Nat) (v9 : Int32), fL_law_L161 σ n v9 = some q → (∀ z, q = .inl z → z = 1) → (∀ q1, q = .inr q1 → LJ 64 k (e + 6) 247 [(0, .ref 68), (1, .ref 0), (2, .ref 58), (4, .ref 60), (5, .ref 61), (6, .ref 62), (7, .ref 63)] [] σ) → LJ 64 k (e + 6) 161 [(0, .ref 68), (1, .ref 0), (2, .ref 58), (4, .ref 60), (5, .ref 61), (6, .ref 62), (7, .ref 63), (9, .int v9)] [] σ := by
  intro n
  induction n with
  | zero =>
    intro v9  hf
    simp only [fL_law_L161] at hf
    exact absurd hf (by simp)
  | succ n ih =>
    intro v9  hf h1 h2
    rw [fL_law_L161] at hf
    refine a_iload dL_law_161 7 rfl ?_
    refine a_aload dL_law_163 3 rfl ?_
    refine a_bipush (25 : Int32) dL_law_165 rfl ?_
    obtain ⟨hb22, hf⟩ := grd_elim hf
    refine a_iald (lia_60 (by decide)) hb22 dL_law_167 ?_
    by_cases hc23 : (σ.1 60 (25 : Int32).toNatClampNeg) ≤ v9
    · rw [if_pos hc23] at hf
      refine a_icmp_ge_t 247 dL_law_168 (by decide) hc23 ?_
      have hq := Option.some.inj hf
      refine a_locs (loc' := [(0, .ref 68), (1, .ref 0), (2, .ref 58), (4, .ref 60), (5, .ref 61), (6, .ref 62), (7, .ref 63)]) [0, 1, 2, 3, 4, 5, 6] rfl ?_
      exact h2 _ hq.symm
    · rw [if_neg hc23] at hf
      refine a_icmp_ge_f 247 dL_law_168 (by decide) hc23 ?_
      refine a_iconst (0 : Int32) dL_law_171 rfl ?_
      refine a_istore dL_law_172 (by decide) (loc' := [(10, .int (0 : Int32)), (0, .ref 68), (1, .ref 0), (2, .ref 58), (4, .ref 60), (5, .ref 61), (6, .ref 62), (7, .ref 63), (9, .int v9)]) rfl ?_
      obtain ⟨s37, hr38, hf⟩ := obind hf
      refine a_locs (loc' := [(0, .ref 68), (1, .ref 0), (2, .ref 58), (4, .ref 60), (5, .ref 61), (6, .ref 62), (7, .ref 63), (9, .int v9), (10, .int (0 : Int32))]) [1, 2, 3, 4, 5, 6, 7, 8, 0] rfl ?_
      refine kL_law_L174 e v9 σ s37 fu (0 : Int32) hr38 ?_ ?_
      · intro z39 hz
        subst hz
        simp only [Sum.elim_inl] at hf
        have hq := Option.some.inj hf
        exact h1 _ hq.symm
      · intro q36 hz
        subst hz
        simp only [Sum.elim_inr] at hf
        refine a_iinc (v9 + (1 : Int32)) dL_law_241 7 rfl rfl (by decide) (loc' := [(9, .int (v9 + (1 : Int32))), (0, .ref 68), (1, .ref 0), (2, .ref 58), (4, .ref 60), (5, .ref 61), (6, .ref 62), (7, .ref 63)]) rfl ?_
        refine a_goto 161 dL_law_244 (by decide) ?_
        refine a_locs (loc' := [(0, .ref 68), (1, .ref 0), (2, .ref 58), (4, .ref 60), (5, .ref 61), (6, .ref 62), (7, .ref 63), (9, .int (v9 + (1 : Int32)))]) [1, 2, 3, 4, 5, 6, 7, 0] rfl ?_
        exact ih (v9 + (1 : Int32)) hf h1 h2
set_option maxHeartbeats 4000000 in
set_option maxRecDepth 100000 in
theorem kL_law_L539 (e : Nat) {k : Nat} (c10 : Int32) (c16 : Int32)    (q : (Int32 × St)) : ∀ (n : Nat) (v17 : Int32) (v18 : Int32) (σ : St), fL_law_L539 c10 c16 n v17 v18 σ = some q → LJ 65 k (e + 6) 571 [(0, .ref 68), (1, .ref 0), (2, .ref 58), (4, .ref 60), (5, .ref 61), (6, .ref 62), (7, .ref 63), (9, .ref 64), (10, .int c10), (16, .int c16), (17, .int q.1)] [] q.2 → LJ 65 k (e + 6) 539 [(0, .ref 68), (1, .ref 0), (2, .ref 58), (4, .ref 60), (5, .ref 61), (6, .ref 62), (7, .ref 63), (9, .ref 64), (10, .int c10), (16, .int c16), (17, .int v17), (18, .int v18)] [] σ := by
  intro n
  induction n with
  | zero =>
    intro v17 v18 σ  hf
    simp only [fL_law_L539] at hf
    exact absurd hf (by simp)
  | succ n ih =>
    intro v17 v18 σ  hf h2
    rw [fL_law_L539] at hf
    refine a_iload dL_law_539 11 rfl ?_
    refine a_iload dL_law_541 9 rfl ?_
    by_cases hc66 : c16 ≤ v18
    · rw [if_pos hc66] at hf
      refine a_icmp_ge_t 571 dL_law_543 (by decide) hc66 ?_
      have hq := Option.some.inj hf
      rw [← hq] at h2
      refine a_locs (loc' := [(0, .ref 68), (1, .ref 0), (2, .ref 58), (4, .ref 60), (5, .ref 61), (6, .ref 62), (7, .ref 63), (9, .ref 64), (10, .int c10), (16, .int c16), (17, .int v17)]) [0, 1, 2, 3, 4, 5, 6, 7, 8, 9, 10] rfl ?_
      exact h2
    · rw [if_neg hc66] at hf
      refine a_icmp_ge_f 571 dL_law_543 (by decide) hc66 ?_
      refine a_iload dL_law_546 10 rfl ?_
      refine a_aload dL_law_548 3 rfl ?_
      refine a_aload_n dL_law_550 rfl 2 rfl ?_
      refine a_aload dL_law_551 6 rfl ?_
      refine a_aload dL_law_553 4 rfl ?_
      refine a_aload dL_law_555 5 rfl ?_
      refine a_aload dL_law_557 7 rfl ?_
      obtain ⟨q67, hq67, hf⟩ := obind hf
      refine a_callS (as := [.ref 60, .ref 58, .ref 63, .ref 61, .ref 62, .ref 64]) (stk := [.int v17]) (q := some (.int q67.1)) (σ1 := q67.2) (kL_year (e + 3) 60 27 58 4 63 64 61 64 62 64 64 1 σ (lia_60 (by decide)) (lia_58 (by decide)) (lia_63 (by decide)) (lia_61 (by decide)) (lia_62 (by decide)) (lla_64 (by decide)) _ hq67) sl_L_120 rfl (Nat.le_of_ble_eq_true rfl) dL_law_559 ?_
      refine a_iadd dL_law_562 ?_
      refine a_istore dL_law_563 (by decide) (loc' := [(17, .int (v17 + q67.1)), (0, .ref 68), (1, .ref 0), (2, .ref 58), (4, .ref 60), (5, .ref 61), (6, .ref 62), (7, .ref 63), (9, .ref 64), (10, .int c10), (16, .int c16), (18, .int v18)]) rfl ?_
      refine a_iinc (v18 + (1 : Int32)) dL_law_565 11 rfl rfl (by decide) (loc' := [(18, .int (v18 + (1 : Int32))), (17, .int (v17 + q67.1)), (0, .ref 68), (1, .ref 0), (2, .ref 58), (4, .ref 60), (5, .ref 61), (6, .ref 62), (7, .ref 63), (9, .ref 64), (10, .int c10), (16, .int c16)]) rfl ?_
      refine a_goto 539 dL_law_568 (by decide) ?_
      refine a_locs (loc' := [(0, .ref 68), (1, .ref 0), (2, .ref 58), (4, .ref 60), (5, .ref 61), (6, .ref 62), (7, .ref 63), (9, .ref 64), (10, .int c10), (16, .int c16), (17, .int (v17 + q67.1)), (18, .int (v18 + (1 : Int32)))]) [2, 3, 4, 5, 6, 7, 8, 9, 10, 11, 1, 0] rfl ?_
      exact ih (v17 + q67.1) (v18 + (1 : Int32)) q67.2 hf h2
set_option maxHeartbeats 4000000 in
set_option maxRecDepth 100000 in
theorem kL_law_L647 (e : Nat) {k : Nat} (c10 : Int32) (c11 : Int32) (c16 : Int32)    (q : (St)) : ∀ (n : Nat) (v20 : Int32) (σ : St), fL_law_L647 c10 c11 c16 n v20 σ = some q → LJ 68 k (e + 6) 680 [(0, .ref 68), (1, .ref 0), (2, .ref 58), (4, .ref 60), (5, .ref 61), (6, .ref 62), (7, .ref 63), (9, .ref 64), (10, .int c10), (11, .int c11), (16, .int c16), (17, .ref 65), (18, .ref 66), (19, .ref 67)] [] q → LJ 68 k (e + 6) 647 [(0, .ref 68), (1, .ref 0), (2, .ref 58), (4, .ref 60), (5, .ref 61), (6, .ref 62), (7, .ref 63), (9, .ref 64), (10, .int c10), (11, .int c11), (16, .int c16), (17, .ref 65), (18, .ref 66), (19, .ref 67), (20, .int v20)] [] σ := by
  intro n
  induction n with
  | zero =>
    intro v20 σ  hf
    simp only [fL_law_L647] at hf
    exact absurd hf (by simp)
  | succ n ih =>
    intro v20 σ  hf h2
    rw [fL_law_L647] at hf
    refine a_iload dL_law_647 14 rfl ?_
    refine a_bipush (64 : Int32) dL_law_649 rfl ?_
    by_cases hc86 : (64 : Int32) ≤ v20
    · rw [if_pos hc86] at hf
      refine a_icmp_ge_t 680 dL_law_651 (by decide) hc86 ?_
      have hq := Option.some.inj hf
      rw [← hq] at h2
      refine a_locs (loc' := [(0, .ref 68), (1, .ref 0), (2, .ref 58), (4, .ref 60), (5, .ref 61), (6, .ref 62), (7, .ref 63), (9, .ref 64), (10, .int c10), (11, .int c11), (16, .int c16), (17, .ref 65), (18, .ref 66), (19, .ref 67)]) [0, 1, 2, 3, 4, 5, 6, 7, 8, 9, 10, 11, 12, 13] rfl ?_
      exact h2
    · rw [if_neg hc86] at hf
      refine a_icmp_ge_f 680 dL_law_651 (by decide) hc86 ?_
      refine a_aload dL_law_654 11 rfl ?_
      refine a_iload dL_law_656 14 rfl ?_
      refine a_aload dL_law_658 6 rfl ?_
      refine a_iload dL_law_660 14 rfl ?_
      obtain ⟨hb87, hf⟩ := grd_elim hf
      refine a_iald (lia_63 (by decide)) hb87 dL_law_662 ?_
      obtain ⟨hb88, hf⟩ := grd_elim hf
      refine a_iast (lia_65 (by decide)) hb88 dL_law_663 ?_
      obtain ⟨σ89, hσ89, hf⟩ := bnd_elim hf
      rw [← hσ89]
      refine a_aload dL_law_664 12 rfl ?_
      refine a_iload dL_law_666 14 rfl ?_
      refine a_aload dL_law_668 5 rfl ?_
      refine a_iload dL_law_670 14 rfl ?_
      obtain ⟨hb90, hf⟩ := grd_elim hf
      refine a_iald (lia_62 (by decide)) hb90 dL_law_672 ?_
      obtain ⟨hb91, hf⟩ := grd_elim hf
      refine a_iast (lia_66 (by decide)) hb91 dL_law_673 ?_
      obtain ⟨σ92, hσ92, hf⟩ := bnd_elim hf
      rw [← hσ92]
      refine a_iinc (v20 + (1 : Int32)) dL_law_674 14 rfl rfl (by decide) (loc' := [(20, .int (v20 + (1 : Int32))), (0, .ref 68), (1, .ref 0), (2, .ref 58), (4, .ref 60), (5, .ref 61), (6, .ref 62), (7, .ref 63), (9, .ref 64), (10, .int c10), (11, .int c11), (16, .int c16), (17, .ref 65), (18, .ref 66), (19, .ref 67)]) rfl ?_
      refine a_goto 647 dL_law_677 (by decide) ?_
      refine a_locs (loc' := [(0, .ref 68), (1, .ref 0), (2, .ref 58), (4, .ref 60), (5, .ref 61), (6, .ref 62), (7, .ref 63), (9, .ref 64), (10, .int c10), (11, .int c11), (16, .int c16), (17, .ref 65), (18, .ref 66), (19, .ref 67), (20, .int (v20 + (1 : Int32)))]) [1, 2, 3, 4, 5, 6, 7, 8, 9, 10, 11, 12, 13, 14, 0] rfl ?_
      exact ih (v20 + (1 : Int32)) σ92 hf h2
set_option maxHeartbeats 4000000 in
set_option maxRecDepth 100000 in
theorem kL_law_L683 (e : Nat) {k : Nat} (c10 : Int32) (c11 : Int32) (c16 : Int32)    (q : (St)) : ∀ (n : Nat) (v20 : Int32) (σ : St), fL_law_L683 c10 c11 c16 n v20 σ = some q → LJ 68 k (e + 6) 706 [(0, .ref 68), (1, .ref 0), (2, .ref 58), (4, .ref 60), (5, .ref 61), (6, .ref 62), (7, .ref 63), (9, .ref 64), (10, .int c10), (11, .int c11), (16, .int c16), (17, .ref 65), (18, .ref 66), (19, .ref 67)] [] q → LJ 68 k (e + 6) 683 [(0, .ref 68), (1, .ref 0), (2, .ref 58), (4, .ref 60), (5, .ref 61), (6, .ref 62), (7, .ref 63), (9, .ref 64), (10, .int c10), (11, .int c11), (16, .int c16), (17, .ref 65), (18, .ref 66), (19, .ref 67), (20, .int v20)] [] σ := by
  intro n
  induction n with
  | zero =>
    intro v20 σ  hf
    simp only [fL_law_L683] at hf
    exact absurd hf (by simp)
  | succ n ih =>
    intro v20 σ  hf h2
    rw [fL_law_L683] at hf
    refine a_iload dL_law_683 14 rfl ?_
    refine a_bipush (27 : Int32) dL_law_685 rfl ?_
    by_cases hc94 : (27 : Int32) ≤ v20
    · rw [if_pos hc94] at hf
      refine a_icmp_ge_t 706 dL_law_687 (by decide) hc94 ?_
      have hq := Option.some.inj hf
      rw [← hq] at h2
      refine a_locs (loc' := [(0, .ref 68), (1, .ref 0), (2, .ref 58), (4, .ref 60), (5, .ref 61), (6, .ref 62), (7, .ref 63), (9, .ref 64), (10, .int c10), (11, .int c11), (16, .int c16), (17, .ref 65), (18, .ref 66), (19, .ref 67)]) [0, 1, 2, 3, 4, 5, 6, 7, 8, 9, 10, 11, 12, 13] rfl ?_
      exact h2
    · rw [if_neg hc94] at hf
      refine a_icmp_ge_f 706 dL_law_687 (by decide) hc94 ?_
      refine a_aload dL_law_690 13 rfl ?_
      refine a_iload dL_law_692 14 rfl ?_
      refine a_aload dL_law_694 3 rfl ?_
      refine a_iload dL_law_696 14 rfl ?_
      obtain ⟨hb95, hf⟩ := grd_elim hf
      refine a_iald (lia_60 (by decide)) hb95 dL_law_698 ?_
      obtain ⟨hb96, hf⟩ := grd_elim hf
      refine a_iast (lia_67 (by decide)) hb96 dL_law_699 ?_
      obtain ⟨σ97, hσ97, hf⟩ := bnd_elim hf
      rw [← hσ97]
      refine a_iinc (v20 + (1 : Int32)) dL_law_700 14 rfl rfl (by decide) (loc' := [(20, .int (v20 + (1 : Int32))), (0, .ref 68), (1, .ref 0), (2, .ref 58), (4, .ref 60), (5, .ref 61), (6, .ref 62), (7, .ref 63), (9, .ref 64), (10, .int c10), (11, .int c11), (16, .int c16), (17, .ref 65), (18, .ref 66), (19, .ref 67)]) rfl ?_
      refine a_goto 683 dL_law_703 (by decide) ?_
      refine a_locs (loc' := [(0, .ref 68), (1, .ref 0), (2, .ref 58), (4, .ref 60), (5, .ref 61), (6, .ref 62), (7, .ref 63), (9, .ref 64), (10, .int c10), (11, .int c11), (16, .int c16), (17, .ref 65), (18, .ref 66), (19, .ref 67), (20, .int (v20 + (1 : Int32)))]) [1, 2, 3, 4, 5, 6, 7, 8, 9, 10, 11, 12, 13, 14, 0] rfl ?_
      exact ih (v20 + (1 : Int32)) σ97 hf h2
set_option maxHeartbeats 4000000 in
set_option maxRecDepth 100000 in
theorem kL_law_L731 (e : Nat) {k : Nat} (c10 : Int32) (c16 : Int32) (c20 : Int32)    (q : (Int32 × St)) : ∀ (n : Nat) (v21 : Int32) (v22 : Int32) (σ : St), fL_law_L731 c10 c16 c20 n v21 v22 σ = some q → LJ 68 k (e + 6) 763 [(0, .ref 68), (1, .ref 0), (2, .ref 58), (4, .ref 60), (5, .ref 61), (6, .ref 62), (7, .ref 63), (9, .ref 64), (10, .int c10), (16, .int c16), (17, .ref 65), (19, .ref 67), (20, .int c20), (21, .int q.1)] [] q.2 → LJ 68 k (e + 6) 731 [(0, .ref 68), (1, .ref 0), (2, .ref 58), (4, .ref 60), (5, .ref 61), (6, .ref 62), (7, .ref 63), (9, .ref 64), (10, .int c10), (16, .int c16), (17, .ref 65), (18, .ref 66), (19, .ref 67), (20, .int c20), (21, .int v21), (22, .int v22)] [] σ := by
  intro n
  induction n with
  | zero =>
    intro v21 v22 σ  hf
    simp only [fL_law_L731] at hf
    exact absurd hf (by simp)
  | succ n ih =>
    intro v21 v22 σ  hf h2
    rw [fL_law_L731] at hf
    refine a_iload dL_law_731 15 rfl ?_
    refine a_iload dL_law_733 9 rfl ?_
    by_cases hc103 : c16 ≤ v22
    · rw [if_pos hc103] at hf
      refine a_icmp_ge_t 763 dL_law_735 (by decide) hc103 ?_
      have hq := Option.some.inj hf
      rw [← hq] at h2
      refine a_locs (loc' := [(0, .ref 68), (1, .ref 0), (2, .ref 58), (4, .ref 60), (5, .ref 61), (6, .ref 62), (7, .ref 63), (9, .ref 64), (10, .int c10), (16, .int c16), (17, .ref 65), (19, .ref 67), (20, .int c20), (21, .int v21)]) [0, 1, 2, 3, 4, 5, 6, 7, 8, 9, 10, 12, 13, 14] rfl ?_
      exact h2
    · rw [if_neg hc103] at hf
      refine a_icmp_ge_f 763 dL_law_735 (by decide) hc103 ?_
      refine a_iload dL_law_738 14 rfl ?_
      refine a_aload dL_law_740 12 rfl ?_
      refine a_aload_n dL_law_742 rfl 2 rfl ?_
      refine a_aload dL_law_743 10 rfl ?_
      refine a_aload dL_law_745 4 rfl ?_
      refine a_aload dL_law_747 11 rfl ?_
      refine a_aload dL_law_749 7 rfl ?_
      obtain ⟨q104, hq104, hf⟩ := obind hf
      refine a_callS (as := [.ref 67, .ref 58, .ref 65, .ref 61, .ref 66, .ref 64]) (stk := [.int v21]) (q := some (.int q104.1)) (σ1 := q104.2) (kL_year (e + 3) 67 27 58 4 65 64 61 64 66 64 64 1 σ (lia_67 (by decide)) (lia_58 (by decide)) (lia_65 (by decide)) (lia_61 (by decide)) (lia_66 (by decide)) (lla_64 (by decide)) _ hq104) sl_L_120 rfl (Nat.le_of_ble_eq_true rfl) dL_law_751 ?_
      refine a_iadd dL_law_754 ?_
      refine a_istore dL_law_755 (by decide) (loc' := [(21, .int (v21 + q104.1)), (0, .ref 68), (1, .ref 0), (2, .ref 58), (4, .ref 60), (5, .ref 61), (6, .ref 62), (7, .ref 63), (9, .ref 64), (10, .int c10), (16, .int c16), (17, .ref 65), (18, .ref 66), (19, .ref 67), (20, .int c20), (22, .int v22)]) rfl ?_
      refine a_iinc (v22 + (1 : Int32)) dL_law_757 15 rfl rfl (by decide) (loc' := [(22, .int (v22 + (1 : Int32))), (21, .int (v21 + q104.1)), (0, .ref 68), (1, .ref 0), (2, .ref 58), (4, .ref 60), (5, .ref 61), (6, .ref 62), (7, .ref 63), (9, .ref 64), (10, .int c10), (16, .int c16), (17, .ref 65), (18, .ref 66), (19, .ref 67), (20, .int c20)]) rfl ?_
      refine a_goto 731 dL_law_760 (by decide) ?_
      refine a_locs (loc' := [(0, .ref 68), (1, .ref 0), (2, .ref 58), (4, .ref 60), (5, .ref 61), (6, .ref 62), (7, .ref 63), (9, .ref 64), (10, .int c10), (16, .int c16), (17, .ref 65), (18, .ref 66), (19, .ref 67), (20, .int c20), (21, .int (v21 + q104.1)), (22, .int (v22 + (1 : Int32)))]) [2, 3, 4, 5, 6, 7, 8, 9, 10, 11, 12, 13, 14, 15, 1, 0] rfl ?_
      exact ih (v21 + q104.1) (v22 + (1 : Int32)) q104.2 hf h2
set_option maxHeartbeats 4000000 in
set_option maxRecDepth 100000 in
theorem kL_law_L772 (e : Nat) {k : Nat} (c10 : Int32) (c16 : Int32) (c20 : Int32) (c21 : Int32) (c23 : Int32) (σ : St)   (q : (Int32)) : ∀ (n : Nat) (v22 : Int32) (v24 : Int32), fL_law_L772 c10 c16 c20 c21 c23 σ n v22 v24 = some q → LJ 68 k (e + 6) 812 [(0, .ref 68), (1, .ref 0), (2, .ref 58), (4, .ref 60), (5, .ref 61), (6, .ref 62), (7, .ref 63), (9, .ref 64), (10, .int c10), (16, .int c16), (19, .ref 67), (20, .int c20), (21, .int c21), (22, .int q), (23, .int c23)] [] σ → LJ 68 k (e + 6) 772 [(0, .ref 68), (1, .ref 0), (2, .ref 58), (4, .ref 60), (5, .ref 61), (6, .ref 62), (7, .ref 63), (9, .ref 64), (10, .int c10), (16, .int c16), (17, .ref 65), (19, .ref 67), (20, .int c20), (21, .int c21), (22, .int v22), (23, .int c23), (24, .int v24)] [] σ := by
  intro n
  induction n with
  | zero =>
    intro v22 v24  hf
    simp only [fL_law_L772] at hf
    exact absurd hf (by simp)
  | succ n ih =>
    intro v22 v24  hf h2
    rw [fL_law_L772] at hf
    refine a_iload dL_law_772 16 rfl ?_
    refine a_aload dL_law_774 3 rfl ?_
    refine a_bipush (25 : Int32) dL_law_776 rfl ?_
    obtain ⟨hb106, hf⟩ := grd_elim hf
    refine a_iald (lia_60 (by decide)) hb106 dL_law_778 ?_
    by_cases hc107 : (σ.1 60 (25 : Int32).toNatClampNeg) ≤ v24
    · rw [if_pos hc107] at hf
      refine a_icmp_ge_t 812 dL_law_779 (by decide) hc107 ?_
      have hq := Option.some.inj hf
      rw [← hq] at h2
      refine a_locs (loc' := [(0, .ref 68), (1, .ref 0), (2, .ref 58), (4, .ref 60), (5, .ref 61), (6, .ref 62), (7, .ref 63), (9, .ref 64), (10, .int c10), (16, .int c16), (19, .ref 67), (20, .int c20), (21, .int c21), (22, .int v22), (23, .int c23)]) [0, 1, 2, 3, 4, 5, 6, 7, 8, 9, 11, 12, 13, 14, 15] rfl ?_
      exact h2
    · rw [if_neg hc107] at hf
      refine a_icmp_ge_f 812 dL_law_779 (by decide) hc107 ?_
      refine a_iload dL_law_782 14 rfl ?_
      refine a_aload dL_law_784 10 rfl ?_
      refine a_bipush (8 : Int32) dL_law_786 rfl ?_
      refine a_iload dL_law_788 16 rfl ?_
      refine a_imul dL_law_790 ?_
      refine a_bipush (7 : Int32) dL_law_791 rfl ?_
      refine a_iadd dL_law_793 ?_
      obtain ⟨hb108, hf⟩ := grd_elim hf
      refine a_iald (lia_65 (by decide)) hb108 dL_law_794 ?_
      obtain ⟨x110, hx110, hf⟩ := bnd_elim hf
      have hA111 : LJ 68 k (e + 6) 803 [(0, .ref 68), (1, .ref 0), (2, .ref 58), (4, .ref 60), (5, .ref 61), (6, .ref 62), (7, .ref 63), (9, .ref 64), (10, .int c10), (16, .int c16), (17, .ref 65), (19, .ref 67), (20, .int c20), (21, .int c21), (23, .int c23), (24, .int v24)] [.int x110, .int v22] σ := by
        refine a_iadd dL_law_803 ?_
        refine a_istore dL_law_804 (by decide) (loc' := [(22, .int (v22 + x110)), (0, .ref 68), (1, .ref 0), (2, .ref 58), (4, .ref 60), (5, .ref 61), (6, .ref 62), (7, .ref 63), (9, .ref 64), (10, .int c10), (16, .int c16), (17, .ref 65), (19, .ref 67), (20, .int c20), (21, .int c21), (23, .int c23), (24, .int v24)]) rfl ?_
        refine a_iinc (v24 + (1 : Int32)) dL_law_806 16 rfl rfl (by decide) (loc' := [(24, .int (v24 + (1 : Int32))), (22, .int (v22 + x110)), (0, .ref 68), (1, .ref 0), (2, .ref 58), (4, .ref 60), (5, .ref 61), (6, .ref 62), (7, .ref 63), (9, .ref 64), (10, .int c10), (16, .int c16), (17, .ref 65), (19, .ref 67), (20, .int c20), (21, .int c21), (23, .int c23)]) rfl ?_
        refine a_goto 772 dL_law_809 (by decide) ?_
        refine a_locs (loc' := [(0, .ref 68), (1, .ref 0), (2, .ref 58), (4, .ref 60), (5, .ref 61), (6, .ref 62), (7, .ref 63), (9, .ref 64), (10, .int c10), (16, .int c16), (17, .ref 65), (19, .ref 67), (20, .int c20), (21, .int c21), (22, .int (v22 + x110)), (23, .int c23), (24, .int (v24 + (1 : Int32)))]) [2, 3, 4, 5, 6, 7, 8, 9, 10, 11, 12, 13, 14, 15, 1, 16, 0] rfl ?_
        exact ih (v22 + x110) (v24 + (1 : Int32)) hf h2
      clear hf
      by_cases hc109 : (σ.1 65 (((8 : Int32) * v24) + (7 : Int32)).toNatClampNeg) = 0
      · rw [if_pos hc109] at hx110
        refine a_if_ne_f 802 dL_law_795 (by decide) hc109 ?_
        refine a_iconst (1 : Int32) dL_law_798 rfl ?_
        refine a_goto 803 dL_law_799 (by decide) ?_
        replace hx110 := hx110.symm; subst hx110
        refine a_locs (loc' := [(0, .ref 68), (1, .ref 0), (2, .ref 58), (4, .ref 60), (5, .ref 61), (6, .ref 62), (7, .ref 63), (9, .ref 64), (10, .int c10), (16, .int c16), (17, .ref 65), (19, .ref 67), (20, .int c20), (21, .int c21), (23, .int c23), (24, .int v24)]) [0, 1, 2, 3, 4, 5, 6, 7, 8, 9, 10, 11, 12, 13, 15, 16] rfl ?_
        exact hA111
      · rw [if_neg hc109] at hx110
        refine a_if_ne_t 802 dL_law_795 (by decide) hc109 ?_
        refine a_iconst (0 : Int32) dL_law_802 rfl ?_
        replace hx110 := hx110.symm; subst hx110
        refine a_locs (loc' := [(0, .ref 68), (1, .ref 0), (2, .ref 58), (4, .ref 60), (5, .ref 61), (6, .ref 62), (7, .ref 63), (9, .ref 64), (10, .int c10), (16, .int c16), (17, .ref 65), (19, .ref 67), (20, .int c20), (21, .int c21), (23, .int c23), (24, .int v24)]) [0, 1, 2, 3, 4, 5, 6, 7, 8, 9, 10, 11, 12, 13, 15, 16] rfl ?_
        exact hA111
set_option maxHeartbeats 4000000 in
set_option maxRecDepth 100000 in
theorem kL_law_L815 (e : Nat) {k : Nat} (c10 : Int32) (c16 : Int32) (c20 : Int32) (c21 : Int32) (c22 : Int32) (σ : St)   (q : (Int32)) : ∀ (n : Nat) (v23 : Int32) (v24 : Int32), fL_law_L815 c10 c16 c20 c21 c22 σ n v23 v24 = some q → LJ 68 k (e + 6) 852 [(0, .ref 68), (1, .ref 0), (2, .ref 58), (4, .ref 60), (5, .ref 61), (6, .ref 62), (7, .ref 63), (9, .ref 64), (10, .int c10), (16, .int c16), (20, .int c20), (21, .int c21), (22, .int c22), (23, .int q)] [] σ → LJ 68 k (e + 6) 815 [(0, .ref 68), (1, .ref 0), (2, .ref 58), (4, .ref 60), (5, .ref 61), (6, .ref 62), (7, .ref 63), (9, .ref 64), (10, .int c10), (16, .int c16), (19, .ref 67), (20, .int c20), (21, .int c21), (22, .int c22), (23, .int v23), (24, .int v24)] [] σ := by
  intro n
  induction n with
  | zero =>
    intro v23 v24  hf
    simp only [fL_law_L815] at hf
    exact absurd hf (by simp)
  | succ n ih =>
    intro v23 v24  hf h2
    rw [fL_law_L815] at hf
    refine a_iload dL_law_815 15 rfl ?_
    refine a_aload dL_law_817 3 rfl ?_
    refine a_iconst (0 : Int32) dL_law_819 rfl ?_
    obtain ⟨hb113, hf⟩ := grd_elim hf
    refine a_iald (lia_60 (by decide)) hb113 dL_law_820 ?_
    by_cases hc114 : (σ.1 60 (0 : Int32).toNatClampNeg) ≤ v24
    · rw [if_pos hc114] at hf
      refine a_icmp_ge_t 852 dL_law_821 (by decide) hc114 ?_
      have hq := Option.some.inj hf
      rw [← hq] at h2
      refine a_locs (loc' := [(0, .ref 68), (1, .ref 0), (2, .ref 58), (4, .ref 60), (5, .ref 61), (6, .ref 62), (7, .ref 63), (9, .ref 64), (10, .int c10), (16, .int c16), (20, .int c20), (21, .int c21), (22, .int c22), (23, .int v23)]) [0, 1, 2, 3, 4, 5, 6, 7, 8, 9, 11, 12, 13, 14] rfl ?_
      exact h2
    · rw [if_neg hc114] at hf
      refine a_icmp_ge_f 852 dL_law_821 (by decide) hc114 ?_
      refine a_iload dL_law_824 14 rfl ?_
      refine a_aload dL_law_826 10 rfl ?_
      refine a_bipush (17 : Int32) dL_law_828 rfl ?_
      refine a_iload dL_law_830 15 rfl ?_
      refine a_iadd dL_law_832 ?_
      obtain ⟨hb115, hf⟩ := grd_elim hf
      refine a_iald (lia_67 (by decide)) hb115 dL_law_833 ?_
      refine a_aload dL_law_834 3 rfl ?_
      refine a_bipush (17 : Int32) dL_law_836 rfl ?_
      refine a_iload dL_law_838 15 rfl ?_
      refine a_iadd dL_law_840 ?_
      obtain ⟨hb116, hf⟩ := grd_elim hf
      refine a_iald (lia_60 (by decide)) hb116 dL_law_841 ?_
      refine a_isub dL_law_842 ?_
      refine a_iadd dL_law_843 ?_
      obtain ⟨x117, hx117, hf⟩ := bnd_elim hf
      refine a_top (w := .int x117) (by rw [hx117]) ?_
      refine a_istore dL_law_844 (by decide) (loc' := [(23, .int x117), (0, .ref 68), (1, .ref 0), (2, .ref 58), (4, .ref 60), (5, .ref 61), (6, .ref 62), (7, .ref 63), (9, .ref 64), (10, .int c10), (16, .int c16), (19, .ref 67), (20, .int c20), (21, .int c21), (22, .int c22), (24, .int v24)]) rfl ?_
      refine a_iinc (v24 + (1 : Int32)) dL_law_846 15 rfl rfl (by decide) (loc' := [(24, .int (v24 + (1 : Int32))), (23, .int x117), (0, .ref 68), (1, .ref 0), (2, .ref 58), (4, .ref 60), (5, .ref 61), (6, .ref 62), (7, .ref 63), (9, .ref 64), (10, .int c10), (16, .int c16), (19, .ref 67), (20, .int c20), (21, .int c21), (22, .int c22)]) rfl ?_
      refine a_goto 815 dL_law_849 (by decide) ?_
      refine a_locs (loc' := [(0, .ref 68), (1, .ref 0), (2, .ref 58), (4, .ref 60), (5, .ref 61), (6, .ref 62), (7, .ref 63), (9, .ref 64), (10, .int c10), (16, .int c16), (19, .ref 67), (20, .int c20), (21, .int c21), (22, .int c22), (23, .int x117), (24, .int (v24 + (1 : Int32)))]) [2, 3, 4, 5, 6, 7, 8, 9, 10, 11, 12, 13, 14, 15, 1, 0] rfl ?_
      exact ih x117 (v24 + (1 : Int32)) hf h2
set_option maxHeartbeats 4000000 in
set_option maxRecDepth 100000 in
theorem kL_law_L375 (e : Nat) {k : Nat} (c10 : Int32) (c11 : Int32) (c12 : Int32) (c13 : Int32) (c14 : Int32) (σ : St)   (q : (Int32)) : ∀ (n : Nat) (v16 : Int32) (v17 : Int32), fL_law_L375 c10 c11 c12 c13 c14 σ n v16 v17 = some q → LJ 65 k (e + 6) 422 [(0, .ref 68), (1, .ref 0), (2, .ref 58), (4, .ref 60), (5, .ref 61), (6, .ref 62), (7, .ref 63), (9, .ref 64), (10, .int c10), (12, .int c12), (13, .int c13), (14, .int c14), (16, .int q)] [] σ → LJ 65 k (e + 6) 375 [(0, .ref 68), (1, .ref 0), (2, .ref 58), (4, .ref 60), (5, .ref 61), (6, .ref 62), (7, .ref 63), (9, .ref 64), (10, .int c10), (11, .int c11), (12, .int c12), (13, .int c13), (14, .int c14), (16, .int v16), (17, .int v17)] [] σ := by
  intro n
  induction n with
  | zero =>
    intro v16 v17  hf
    simp only [fL_law_L375] at hf
    exact absurd hf (by simp)
  | succ n ih =>
    intro v16 v17  hf h2
    rw [fL_law_L375] at hf
    refine a_iload dL_law_375 14 rfl ?_
    refine a_bipush (8 : Int32) dL_law_377 rfl ?_
    by_cases hc143 : (8 : Int32) ≤ v17
    · rw [if_pos hc143] at hf
      refine a_icmp_ge_t 422 dL_law_379 (by decide) hc143 ?_
      have hq := Option.some.inj hf
      rw [← hq] at h2
      refine a_locs (loc' := [(0, .ref 68), (1, .ref 0), (2, .ref 58), (4, .ref 60), (5, .ref 61), (6, .ref 62), (7, .ref 63), (9, .ref 64), (10, .int c10), (12, .int c12), (13, .int c13), (14, .int c14), (16, .int v16)]) [0, 1, 2, 3, 4, 5, 6, 7, 8, 10, 11, 12, 13] rfl ?_
      exact h2
    · rw [if_neg hc143] at hf
      refine a_icmp_ge_f 422 dL_law_379 (by decide) hc143 ?_
      refine a_iload dL_law_382 9 rfl ?_
      refine a_bipush (8 : Int32) dL_law_384 rfl ?_
      refine a_ishr dL_law_386 ?_
      refine a_bipush (8 : Int32) dL_law_387 rfl ?_
      obtain ⟨q144, hq144, hf⟩ := obind hf
      refine a_callS (as := [.int (c11 >>> ((8 : Int32) &&& 31)), .int (8 : Int32)]) (stk := []) (q := some (.int q144)) (σ1 := σ) (kL_at (e + 5) (c11 >>> ((8 : Int32) &&& 31)) (8 : Int32) σ _ hq144) sl_L_8 rfl (Nat.le_of_ble_eq_true rfl) dL_law_389 ?_
      by_cases hc145 : q144 ≤ 0
      · rw [if_pos hc145] at hf
        refine a_if_le_t 422 dL_law_392 (by decide) hc145 ?_
        have hq := Option.some.inj hf
        rw [← hq] at h2
        refine a_locs (loc' := [(0, .ref 68), (1, .ref 0), (2, .ref 58), (4, .ref 60), (5, .ref 61), (6, .ref 62), (7, .ref 63), (9, .ref 64), (10, .int c10), (12, .int c12), (13, .int c13), (14, .int c14), (16, .int v16)]) [0, 1, 2, 3, 4, 5, 6, 7, 8, 10, 11, 12, 13] rfl ?_
        exact h2
      · rw [if_neg hc145] at hf
        refine a_if_le_f 422 dL_law_392 (by decide) hc145 ?_
        refine a_iload dL_law_395 12 rfl ?_
        refine a_iload dL_law_397 13 rfl ?_
        refine a_ishr dL_law_399 ?_
        refine a_iconst (1 : Int32) dL_law_400 rfl ?_
        refine a_iand dL_law_401 ?_
        by_cases hc146 : ((c14 >>> (v16 &&& 31)) &&& (1 : Int32)) = 0
        · rw [if_pos hc146] at hf
          refine a_if_ne_f 422 dL_law_402 (by decide) hc146 ?_
          refine a_iload dL_law_405 13 rfl ?_
          refine a_iconst (1 : Int32) dL_law_407 rfl ?_
          refine a_iadd dL_law_408 ?_
          refine a_aload dL_law_409 3 rfl ?_
          refine a_iconst (0 : Int32) dL_law_411 rfl ?_
          obtain ⟨hb147, hf⟩ := grd_elim hf
          refine a_iald (lia_60 (by decide)) hb147 dL_law_412 ?_
          obtain ⟨hb148, hf⟩ := grd_elim hf
          refine a_irem (of_decide_eq_true hb148) dL_law_413 ?_
          obtain ⟨x149, hx149, hf⟩ := bnd_elim hf
          refine a_top (w := .int x149) (by rw [hx149]) ?_
          refine a_istore dL_law_414 (by decide) (loc' := [(16, .int x149), (0, .ref 68), (1, .ref 0), (2, .ref 58), (4, .ref 60), (5, .ref 61), (6, .ref 62), (7, .ref 63), (9, .ref 64), (10, .int c10), (11, .int c11), (12, .int c12), (13, .int c13), (14, .int c14), (17, .int v17)]) rfl ?_
          refine a_iinc (v17 + (1 : Int32)) dL_law_416 14 rfl rfl (by decide) (loc' := [(17, .int (v17 + (1 : Int32))), (16, .int x149), (0, .ref 68), (1, .ref 0), (2, .ref 58), (4, .ref 60), (5, .ref 61), (6, .ref 62), (7, .ref 63), (9, .ref 64), (10, .int c10), (11, .int c11), (12, .int c12), (13, .int c13), (14, .int c14)]) rfl ?_
          refine a_goto 375 dL_law_419 (by decide) ?_
          refine a_locs (loc' := [(0, .ref 68), (1, .ref 0), (2, .ref 58), (4, .ref 60), (5, .ref 61), (6, .ref 62), (7, .ref 63), (9, .ref 64), (10, .int c10), (11, .int c11), (12, .int c12), (13, .int c13), (14, .int c14), (16, .int x149), (17, .int (v17 + (1 : Int32)))]) [2, 3, 4, 5, 6, 7, 8, 9, 10, 11, 12, 13, 14, 1, 0] rfl ?_
          exact ih x149 (v17 + (1 : Int32)) hf h2
        · rw [if_neg hc146] at hf
          refine a_if_ne_t 422 dL_law_402 (by decide) hc146 ?_
          have hq := Option.some.inj hf
          rw [← hq] at h2
          refine a_locs (loc' := [(0, .ref 68), (1, .ref 0), (2, .ref 58), (4, .ref 60), (5, .ref 61), (6, .ref 62), (7, .ref 63), (9, .ref 64), (10, .int c10), (12, .int c12), (13, .int c13), (14, .int c14), (16, .int v16)]) [0, 1, 2, 3, 4, 5, 6, 7, 8, 10, 11, 12, 13] rfl ?_
          exact h2
set_option maxHeartbeats 4000000 in
set_option maxRecDepth 100000 in
theorem kL_law_L255 (e : Nat)     (q : Sum (Int32) (St)) : ∀ (n : Nat) (v10 : Int32) (σ : St), n ≤ 5000 → fL_law_L255 n v10 σ = some q → (∀ z, q = .inl z → z = 1) → (∀ q1, q = .inr q1 → LJ 65 0 (e + 6) 935 [(1, .ref 0), (4, .ref 60)] [] q1) → LJ 65 (3 * n) (e + 6) 255 [(0, .ref 68), (1, .ref 0), (2, .ref 58), (4, .ref 60), (5, .ref 61), (6, .ref 62), (7, .ref 63), (9, .ref 64), (10, .int v10)] [] σ := by
  intro n
  induction n with
  | zero =>
    intro v10 σ _ hf
    simp only [fL_law_L255] at hf
    exact absurd hf (by simp)
  | succ n ih =>
    intro v10 σ hn5 hf h1 h2
    rw [fL_law_L255] at hf
    rw [show 3 * (n + 1) = 3 * n + 3 from rfl]
    refine a_iload dL_law_255 8 rfl ?_
    refine a_bipush (14 : Int32) dL_law_257 rfl ?_
    by_cases hc45 : (14 : Int32) ≤ v10
    · rw [if_pos hc45] at hf
      refine a_icmp_ge_t 935 dL_law_259 (by decide) hc45 ?_
      have hq := Option.some.inj hf
      refine a_wid (k := 0) (by omega) ?_
      refine a_locs (loc' := [(1, .ref 0), (4, .ref 60)]) [1, 3] rfl ?_
      exact h2 _ hq.symm
    · rw [if_neg hc45] at hf
      refine a_icmp_ge_f 935 dL_law_259 (by decide) hc45 ?_
      refine a_aload_n dL_law_262 rfl 0 rfl ?_
      refine a_bipush (14 : Int32) dL_law_263 rfl ?_
      refine a_iload dL_law_265 8 rfl ?_
      refine a_iadd dL_law_267 ?_
      obtain ⟨q46, hq46, hf⟩ := obind hf
      refine a_callS (as := [.ref 68, .int ((14 : Int32) + v10)]) (stk := []) (q := some (.int q46)) (σ1 := σ) (kL_cell (e + 5) ((14 : Int32) + v10) σ _ hq46) sl_L_20 rfl (Nat.le_of_ble_eq_true rfl) dL_law_268 ?_
      refine a_istore dL_law_271 (by decide) (loc' := [(11, .int q46), (0, .ref 68), (1, .ref 0), (2, .ref 58), (4, .ref 60), (5, .ref 61), (6, .ref 62), (7, .ref 63), (9, .ref 64), (10, .int v10)]) rfl ?_
      refine a_iload dL_law_273 0 rfl ?_
      refine a_iconst (2 : Int32) dL_law_275 rfl ?_
      refine a_ishr dL_law_276 ?_
      refine a_aload dL_law_277 4 rfl ?_
      refine a_bipush (25 : Int32) dL_law_279 rfl ?_
      obtain ⟨hb47, hf⟩ := grd_elim hf
      refine a_iald (lia_60 (by decide)) hb47 dL_law_281 ?_
      obtain ⟨q48, hq48, hf⟩ := obind hf
      refine a_callS (as := [.int (q46 >>> ((2 : Int32) &&& 31)), .int (σ.1 60 (25 : Int32).toNatClampNeg)]) (stk := []) (q := some (.int q48)) (σ1 := σ) (kL_at (e + 5) (q46 >>> ((2 : Int32) &&& 31)) (σ.1 60 (25 : Int32).toNatClampNeg) σ _ hq48) sl_L_8 rfl (Nat.le_of_ble_eq_true rfl) dL_law_282 ?_
      refine a_istore dL_law_285 (by decide) (loc' := [(12, .int q48), (11, .int q46), (0, .ref 68), (1, .ref 0), (2, .ref 58), (4, .ref 60), (5, .ref 61), (6, .ref 62), (7, .ref 63), (9, .ref 64), (10, .int v10)]) rfl ?_
      refine a_bipush (8 : Int32) dL_law_287 rfl ?_
      refine a_iload dL_law_289 0 rfl ?_
      refine a_imul dL_law_291 ?_
      refine a_istore dL_law_292 (by decide) (loc' := [(13, .int ((8 : Int32) * q48)), (12, .int q48), (11, .int q46), (0, .ref 68), (1, .ref 0), (2, .ref 58), (4, .ref 60), (5, .ref 61), (6, .ref 62), (7, .ref 63), (9, .ref 64), (10, .int v10)]) rfl ?_
      refine a_aload dL_law_294 6 rfl ?_
      refine a_aload_n dL_law_296 rfl 5 rfl ?_
      refine a_aload dL_law_297 9 rfl ?_
      refine a_iload dL_law_299 0 rfl ?_
      refine a_iconst (2 : Int32) dL_law_301 rfl ?_
      refine a_iadd dL_law_302 ?_
      obtain ⟨hb49, hf⟩ := grd_elim hf
      refine a_iald (lia_63 (by decide)) hb49 dL_law_303 ?_
      refine a_aload dL_law_304 9 rfl ?_
      refine a_iload dL_law_306 0 rfl ?_
      refine a_iconst (3 : Int32) dL_law_308 rfl ?_
      refine a_iadd dL_law_309 ?_
      obtain ⟨hb50, hf⟩ := grd_elim hf
      refine a_iald (lia_63 (by decide)) hb50 dL_law_310 ?_
      obtain ⟨q51, hq51, hf⟩ := obind hf
      refine a_callS (as := [.ref 60, .ref 58, .int (σ.1 63 (((8 : Int32) * q48) + (2 : Int32)).toNatClampNeg), .int (σ.1 63 (((8 : Int32) * q48) + (3 : Int32)).toNatClampNeg)]) (stk := []) (q := some (.int q51)) (σ1 := σ) (kL_may (e + 5) 60 27 58 4 (σ.1 63 (((8 : Int32) * q48) + (2 : Int32)).toNatClampNeg) (σ.1 63 (((8 : Int32) * q48) + (3 : Int32)).toNatClampNeg) σ (lia_60 (by decide)) (lia_58 (by decide)) _ hq51) sl_L_46 rfl (Nat.le_of_ble_eq_true rfl) dL_law_311 ?_
      refine a_istore dL_law_314 (by decide) (loc' := [(14, .int q51), (13, .int ((8 : Int32) * q48)), (12, .int q48), (11, .int q46), (0, .ref 68), (1, .ref 0), (2, .ref 58), (4, .ref 60), (5, .ref 61), (6, .ref 62), (7, .ref 63), (9, .ref 64), (10, .int v10)]) rfl ?_
      refine a_aload_n dL_law_316 rfl 5 rfl ?_
      refine a_iload dL_law_317 2 rfl ?_
      obtain ⟨q52, hq52, hf⟩ := obind hf
      refine a_callV (as := [.int q48]) (stk := []) (q := some (.int q52)) (σ1 := σ) (SpK.mono (kX8_may (e + 2) q48 σ _ hq52) (hkL (by decide))) (ob_0.mono (hkL (by decide))) vl_L_114 rfl (Nat.le_of_ble_eq_true rfl) dL_law_319 ?_
      refine a_aload dL_law_322 10 rfl ?_
      refine a_iload dL_law_324 1 rfl ?_
      refine a_bipush (7 : Int32) dL_law_326 rfl ?_
      refine a_iadd dL_law_328 ?_
      obtain ⟨hb53, hf⟩ := grd_elim hf
      refine a_iald (lia_63 (by decide)) hb53 dL_law_329 ?_
      obtain ⟨x55, hx55, hf⟩ := bnd_elim hf
      have hA167 : LJ 65 (3 * n + 3) (e + 6) 340 [(0, .ref 68), (1, .ref 0), (2, .ref 58), (4, .ref 60), (5, .ref 61), (6, .ref 62), (7, .ref 63), (9, .ref 64), (10, .int v10), (11, .int q46), (12, .int q48), (13, .int ((8 : Int32) * q48)), (14, .int q51)] [.int x55, .int q52] σ := by
        by_cases hc56 : q52 = x55
        · rw [if_pos hc56] at hf
          refine a_icmp_eq_t 345 dL_law_340 (by decide) hc56 ?_
          refine a_iload dL_law_345 9 rfl ?_
          refine a_iconst (4 : Int32) dL_law_347 rfl ?_
          obtain ⟨q57, hq57, hf⟩ := obind hf
          refine a_callS (as := [.int q46, .int (4 : Int32)]) (stk := []) (q := some (.int q57)) (σ1 := σ) (kL_at (e + 5) q46 (4 : Int32) σ _ hq57) sl_L_8 rfl (Nat.le_of_ble_eq_true rfl) dL_law_348 ?_
          refine a_istore dL_law_351 (by decide) (loc' := [(15, .int q57), (0, .ref 68), (1, .ref 0), (2, .ref 58), (4, .ref 60), (5, .ref 61), (6, .ref 62), (7, .ref 63), (9, .ref 64), (10, .int v10), (11, .int q46), (12, .int q48), (13, .int ((8 : Int32) * q48)), (14, .int q51)]) rfl ?_
          refine a_iload dL_law_353 0 rfl ?_
          refine a_iconst (2 : Int32) dL_law_355 rfl ?_
          by_cases hc58 : (2 : Int32) ≤ q57
          · rw [if_pos hc58] at hf
            refine a_icmp_ge_t 491 dL_law_356 (by decide) hc58 ?_
            refine a_iload dL_law_491 0 rfl ?_
            refine a_iconst (2 : Int32) dL_law_493 rfl ?_
            by_cases hc59 : q57 = (2 : Int32)
            · rw [if_pos hc59] at hf
              refine a_icmp_ne_f 597 dL_law_494 (by decide) hc59 ?_
              refine a_iconst (1 : Int32) dL_law_497 rfl ?_
              refine a_iload dL_law_498 10 rfl ?_
              refine a_iconst (5 : Int32) dL_law_500 rfl ?_
              refine a_ishr dL_law_501 ?_
              refine a_iload dL_law_502 10 rfl ?_
              refine a_bipush (20 : Int32) dL_law_504 rfl ?_
              refine a_ishr dL_law_506 ?_
              refine a_iconst (4 : Int32) dL_law_507 rfl ?_
              obtain ⟨q60, hq60, hf⟩ := obind hf
              refine a_callS (as := [.int (q46 >>> ((20 : Int32) &&& 31)), .int (4 : Int32)]) (stk := [.int (q46 >>> ((5 : Int32) &&& 31)), .int (1 : Int32)]) (q := some (.int q60)) (σ1 := σ) (kL_at (e + 5) (q46 >>> ((20 : Int32) &&& 31)) (4 : Int32) σ _ hq60) sl_L_8 rfl (Nat.le_of_ble_eq_true rfl) dL_law_508 ?_
              obtain ⟨x62, hx62, hf⟩ := bnd_elim hf
              have hA78 : LJ 65 (3 * n + 3) (e + 6) 520 [(0, .ref 68), (1, .ref 0), (2, .ref 58), (4, .ref 60), (5, .ref 61), (6, .ref 62), (7, .ref 63), (9, .ref 64), (10, .int v10)] [.int x62, .int (q46 >>> ((5 : Int32) &&& 31)), .int (1 : Int32)] σ := by
                obtain ⟨q63, hq63, hf⟩ := obind hf
                refine a_callS (as := [.int (q46 >>> ((5 : Int32) &&& 31)), .int x62]) (stk := [.int (1 : Int32)]) (q := some (.int q63)) (σ1 := σ) (kL_at (e + 5) (q46 >>> ((5 : Int32) &&& 31)) x62 σ _ hq63) sl_L_8 rfl (Nat.le_of_ble_eq_true rfl) dL_law_520 ?_
                refine a_iadd dL_law_523 ?_
                refine a_istore dL_law_524 (by decide) (loc' := [(16, .int ((1 : Int32) + q63)), (0, .ref 68), (1, .ref 0), (2, .ref 58), (4, .ref 60), (5, .ref 61), (6, .ref 62), (7, .ref 63), (9, .ref 64), (10, .int v10)]) rfl ?_
                refine a_iconst (0 : Int32) dL_law_526 rfl ?_
                refine a_istore dL_law_527 (by decide) (loc' := [(17, .int (0 : Int32)), (16, .int ((1 : Int32) + q63)), (0, .ref 68), (1, .ref 0), (2, .ref 58), (4, .ref 60), (5, .ref 61), (6, .ref 62), (7, .ref 63), (9, .ref 64), (10, .int v10)]) rfl ?_
                refine a_aload dL_law_529 9 rfl ?_
                refine a_iconst (0 : Int32) dL_law_531 rfl ?_
                refine a_ldc2 rfl kc_L_118 dL_law_532 ?_
                obtain ⟨hb64, hf⟩ := grd_elim hf
                refine a_last (lla_64 (by decide)) hb64 dL_law_535 ?_
                obtain ⟨σ65, hσ65, hf⟩ := bnd_elim hf
                rw [← hσ65]
                refine a_iconst (0 : Int32) dL_law_536 rfl ?_
                refine a_istore dL_law_537 (by decide) (loc' := [(18, .int (0 : Int32)), (17, .int (0 : Int32)), (16, .int ((1 : Int32) + q63)), (0, .ref 68), (1, .ref 0), (2, .ref 58), (4, .ref 60), (5, .ref 61), (6, .ref 62), (7, .ref 63), (9, .ref 64), (10, .int v10)]) rfl ?_
                obtain ⟨q68, hr76, hf⟩ := obind hf
                have hA77 : LJ 65 (3 * n + 3) (e + 6) 571 [(0, .ref 68), (1, .ref 0), (2, .ref 58), (4, .ref 60), (5, .ref 61), (6, .ref 62), (7, .ref 63), (9, .ref 64), (10, .int v10), (16, .int ((1 : Int32) + q63)), (17, .int q68.1)] [] q68.2 := by
                  refine a_aload dL_law_571 3 rfl ?_
                  refine a_bipush (26 : Int32) dL_law_573 rfl ?_
                  refine a_dup2 rfl rfl dL_law_575 ?_
                  obtain ⟨hb69, hf⟩ := grd_elim hf
                  refine a_iald (lia_60 (by decide)) hb69 dL_law_576 ?_
                  refine a_iload dL_law_577 9 rfl ?_
                  refine a_iadd dL_law_579 ?_
                  obtain ⟨hb70, hf⟩ := grd_elim hf
                  refine a_iast (lia_60 (by decide)) hb70 dL_law_580 ?_
                  obtain ⟨σ71, hσ71, hf⟩ := bnd_elim hf
                  rw [← hσ71]
                  refine a_aload_n dL_law_581 rfl 1 rfl ?_
                  refine a_iload dL_law_582 9 rfl ?_
                  obtain ⟨q72, hq72, hf⟩ := obind hf
                  refine a_callV (as := [.int ((1 : Int32) + q63)]) (stk := []) (q := some (.int q72.1)) (σ1 := q72.2) (SpK.mono (kX8_years e ((1 : Int32) + q63) σ71 _ hq72) (hkL (by decide))) (ob_0.mono (hkL (by decide))) vl_L_124 rfl (Nat.le_of_ble_eq_true rfl) dL_law_584 ?_
                  refine a_iload dL_law_587 10 rfl ?_
                  by_cases hc73 : q72.1 = q68.1
                  · rw [if_pos hc73] at hf
                    refine a_icmp_eq_t 594 dL_law_589 (by decide) hc73 ?_
                    refine a_goto 914 dL_law_594 (by decide) ?_
                    refine a_aload_n dL_law_914 rfl 1 rfl ?_
                    refine a_aload dL_law_915 3 rfl ?_
                    refine a_aload dL_law_917 6 rfl ?_
                    refine a_aload dL_law_919 5 rfl ?_
                    obtain ⟨q74, hq74, hf⟩ := obind hf
                    refine a_callS (as := [.ref 0, .ref 60, .ref 63, .ref 62]) (stk := []) (q := some (.int q74)) (σ1 := q72.2) (kL_stands (e + 2) 60 27 63 64 62 64 q72.2 (hkL (by decide)) (lia_60 (by decide)) (lia_63 (by decide)) (lia_62 (by decide)) _ hq74) sl_L_107 rfl (Nat.le_of_ble_eq_true rfl) dL_law_921 ?_
                    by_cases hc75 : q74 = 0
                    · rw [if_pos hc75] at hf
                      refine a_if_ne_f 929 dL_law_924 (by decide) hc75 ?_
                      refine a_iconst (0 : Int32) dL_law_927 rfl ?_
                      have hq := Option.some.inj hf
                      exact a_lend (h1 _ hq.symm) dL_law_928
                    · rw [if_neg hc75] at hf
                      refine a_if_ne_t 929 dL_law_924 (by decide) hc75 ?_
                      refine a_iinc (v10 + (1 : Int32)) dL_law_929 8 rfl rfl (by decide) (loc' := [(10, .int (v10 + (1 : Int32))), (0, .ref 68), (1, .ref 0), (2, .ref 58), (4, .ref 60), (5, .ref 61), (6, .ref 62), (7, .ref 63), (9, .ref 64), (16, .int ((1 : Int32) + q63)), (17, .int q68.1)]) rfl ?_
                      refine a_goto 255 dL_law_932 (by decide) ?_
                      refine a_wid (k := (3 * n)) (by omega) ?_
                      refine a_locs (loc' := [(0, .ref 68), (1, .ref 0), (2, .ref 58), (4, .ref 60), (5, .ref 61), (6, .ref 62), (7, .ref 63), (9, .ref 64), (10, .int (v10 + (1 : Int32)))]) [1, 2, 3, 4, 5, 6, 7, 8, 0] rfl ?_
                      exact ih (v10 + (1 : Int32)) q72.2 (by omega) hf h1 h2
                  · rw [if_neg hc73] at hf
                    refine a_icmp_eq_f 594 dL_law_589 (by decide) hc73 ?_
                    refine a_iconst (0 : Int32) dL_law_592 rfl ?_
                    have hq := Option.some.inj hf
                    exact a_lend (h1 _ hq.symm) dL_law_593
                refine a_locs (loc' := [(0, .ref 68), (1, .ref 0), (2, .ref 58), (4, .ref 60), (5, .ref 61), (6, .ref 62), (7, .ref 63), (9, .ref 64), (10, .int v10), (16, .int ((1 : Int32) + q63)), (17, .int (0 : Int32)), (18, .int (0 : Int32))]) [3, 4, 5, 6, 7, 8, 9, 10, 11, 2, 1, 0] rfl ?_
                exact kL_law_L539 e v10 ((1 : Int32) + q63) q68 fu (0 : Int32) (0 : Int32) σ65 hr76 hA77
              clear hf
              by_cases hc61 : q60 = 0
              · rw [if_pos hc61] at hx62
                refine a_if_ne_f 519 dL_law_511 (by decide) hc61 ?_
                refine a_bipush (30 : Int32) dL_law_514 rfl ?_
                refine a_goto 520 dL_law_516 (by decide) ?_
                replace hx62 := hx62.symm; subst hx62
                refine a_locs (loc' := [(0, .ref 68), (1, .ref 0), (2, .ref 58), (4, .ref 60), (5, .ref 61), (6, .ref 62), (7, .ref 63), (9, .ref 64), (10, .int v10)]) [1, 2, 3, 4, 5, 6, 7, 8, 9] rfl ?_
                exact hA78
              · rw [if_neg hc61] at hx62
                refine a_if_ne_t 519 dL_law_511 (by decide) hc61 ?_
                refine a_iconst (3 : Int32) dL_law_519 rfl ?_
                replace hx62 := hx62.symm; subst hx62
                refine a_locs (loc' := [(0, .ref 68), (1, .ref 0), (2, .ref 58), (4, .ref 60), (5, .ref 61), (6, .ref 62), (7, .ref 63), (9, .ref 64), (10, .int v10)]) [1, 2, 3, 4, 5, 6, 7, 8, 9] rfl ?_
                exact hA78
            · rw [if_neg hc59] at hf
              refine a_icmp_ne_t 597 dL_law_494 (by decide) hc59 ?_
              refine a_iconst (1 : Int32) dL_law_597 rfl ?_
              refine a_iload dL_law_598 10 rfl ?_
              refine a_iconst (5 : Int32) dL_law_600 rfl ?_
              refine a_ishr dL_law_601 ?_
              refine a_iload dL_law_602 10 rfl ?_
              refine a_bipush (20 : Int32) dL_law_604 rfl ?_
              refine a_ishr dL_law_606 ?_
              refine a_iconst (3 : Int32) dL_law_607 rfl ?_
              obtain ⟨q79, hq79, hf⟩ := obind hf
              refine a_callS (as := [.int (q46 >>> ((20 : Int32) &&& 31)), .int (3 : Int32)]) (stk := [.int (q46 >>> ((5 : Int32) &&& 31)), .int (1 : Int32)]) (q := some (.int q79)) (σ1 := σ) (kL_at (e + 5) (q46 >>> ((20 : Int32) &&& 31)) (3 : Int32) σ _ hq79) sl_L_8 rfl (Nat.le_of_ble_eq_true rfl) dL_law_608 ?_
              obtain ⟨x81, hx81, hf⟩ := bnd_elim hf
              have hA140 : LJ 65 (3 * n + 3) (e + 6) 620 [(0, .ref 68), (1, .ref 0), (2, .ref 58), (4, .ref 60), (5, .ref 61), (6, .ref 62), (7, .ref 63), (9, .ref 64), (10, .int v10), (11, .int q46)] [.int x81, .int (q46 >>> ((5 : Int32) &&& 31)), .int (1 : Int32)] σ := by
                obtain ⟨q82, hq82, hf⟩ := obind hf
                refine a_callS (as := [.int (q46 >>> ((5 : Int32) &&& 31)), .int x81]) (stk := [.int (1 : Int32)]) (q := some (.int q82)) (σ1 := σ) (kL_at (e + 5) (q46 >>> ((5 : Int32) &&& 31)) x81 σ _ hq82) sl_L_8 rfl (Nat.le_of_ble_eq_true rfl) dL_law_620 ?_
                refine a_iadd dL_law_623 ?_
                refine a_istore dL_law_624 (by decide) (loc' := [(16, .int ((1 : Int32) + q82)), (0, .ref 68), (1, .ref 0), (2, .ref 58), (4, .ref 60), (5, .ref 61), (6, .ref 62), (7, .ref 63), (9, .ref 64), (10, .int v10), (11, .int q46)]) rfl ?_
                refine a_bipush (64 : Int32) dL_law_626 rfl ?_
                refine a_newI 64 (by decide) rfl rfl (by decide) rfl (by omega) dL_law_628 ?_
                obtain ⟨σ83, hσ83, hf⟩ := bnd_elim hf
                rw [← hσ83]
                refine a_astore dL_law_630 (by decide) (loc' := [(17, .ref 65), (16, .int ((1 : Int32) + q82)), (0, .ref 68), (1, .ref 0), (2, .ref 58), (4, .ref 60), (5, .ref 61), (6, .ref 62), (7, .ref 63), (9, .ref 64), (10, .int v10), (11, .int q46)]) rfl ?_
                refine a_bipush (64 : Int32) dL_law_632 rfl ?_
                refine a_newI 64 (by decide) rfl rfl (by decide) rfl (by omega) dL_law_634 ?_
                obtain ⟨σ84, hσ84, hf⟩ := bnd_elim hf
                rw [← hσ84]
                refine a_astore dL_law_636 (by decide) (loc' := [(18, .ref 66), (17, .ref 65), (16, .int ((1 : Int32) + q82)), (0, .ref 68), (1, .ref 0), (2, .ref 58), (4, .ref 60), (5, .ref 61), (6, .ref 62), (7, .ref 63), (9, .ref 64), (10, .int v10), (11, .int q46)]) rfl ?_
                refine a_bipush (27 : Int32) dL_law_638 rfl ?_
                refine a_newI 27 (by decide) rfl rfl (by decide) rfl (by omega) dL_law_640 ?_
                obtain ⟨σ85, hσ85, hf⟩ := bnd_elim hf
                rw [← hσ85]
                refine a_astore dL_law_642 (by decide) (loc' := [(19, .ref 67), (18, .ref 66), (17, .ref 65), (16, .int ((1 : Int32) + q82)), (0, .ref 68), (1, .ref 0), (2, .ref 58), (4, .ref 60), (5, .ref 61), (6, .ref 62), (7, .ref 63), (9, .ref 64), (10, .int v10), (11, .int q46)]) rfl ?_
                refine a_iconst (0 : Int32) dL_law_644 rfl ?_
                refine a_istore dL_law_645 (by decide) (loc' := [(20, .int (0 : Int32)), (19, .ref 67), (18, .ref 66), (17, .ref 65), (16, .int ((1 : Int32) + q82)), (0, .ref 68), (1, .ref 0), (2, .ref 58), (4, .ref 60), (5, .ref 61), (6, .ref 62), (7, .ref 63), (9, .ref 64), (10, .int v10), (11, .int q46)]) rfl ?_
                obtain ⟨q93, hr138, hf⟩ := obind hf
                have hA139 : LJ 68 (3 * n) (e + 6) 680 [(0, .ref 68), (1, .ref 0), (2, .ref 58), (4, .ref 60), (5, .ref 61), (6, .ref 62), (7, .ref 63), (9, .ref 64), (10, .int v10), (11, .int q46), (16, .int ((1 : Int32) + q82)), (17, .ref 65), (18, .ref 66), (19, .ref 67)] [] q93 := by
                  refine a_iconst (0 : Int32) dL_law_680 rfl ?_
                  refine a_istore dL_law_681 (by decide) (loc' := [(20, .int (0 : Int32)), (0, .ref 68), (1, .ref 0), (2, .ref 58), (4, .ref 60), (5, .ref 61), (6, .ref 62), (7, .ref 63), (9, .ref 64), (10, .int v10), (11, .int q46), (16, .int ((1 : Int32) + q82)), (17, .ref 65), (18, .ref 66), (19, .ref 67)]) rfl ?_
                  obtain ⟨q98, hr136, hf⟩ := obind hf
                  have hA137 : LJ 68 (3 * n) (e + 6) 706 [(0, .ref 68), (1, .ref 0), (2, .ref 58), (4, .ref 60), (5, .ref 61), (6, .ref 62), (7, .ref 63), (9, .ref 64), (10, .int v10), (11, .int q46), (16, .int ((1 : Int32) + q82)), (17, .ref 65), (18, .ref 66), (19, .ref 67)] [] q98 := by
                    refine a_aload dL_law_706 7 rfl ?_
                    refine a_iconst (0 : Int32) dL_law_708 rfl ?_
                    refine a_iload dL_law_709 9 rfl ?_
                    refine a_iconst (1 : Int32) dL_law_711 rfl ?_
                    refine a_ishr dL_law_712 ?_
                    refine a_ldc rfl kc_L_127 dL_law_713 ?_
                    refine a_iand dL_law_715 ?_
                    refine a_i2l dL_law_716 ?_
                    obtain ⟨hb99, hf⟩ := grd_elim hf
                    refine a_last (lla_64 (by decide)) hb99 dL_law_717 ?_
                    obtain ⟨σ100, hσ100, hf⟩ := bnd_elim hf
                    rw [← hσ100]
                    refine a_aload dL_law_718 7 rfl ?_
                    refine a_iconst (0 : Int32) dL_law_720 rfl ?_
                    obtain ⟨hb101, hf⟩ := grd_elim hf
                    refine a_lald (lla_64 (by decide)) hb101 dL_law_721 ?_
                    refine a_l2i dL_law_722 ?_
                    obtain ⟨x102, hx102, hf⟩ := bnd_elim hf
                    refine a_top (w := .int x102) (by rw [hx102]) ?_
                    refine a_istore dL_law_723 (by decide) (loc' := [(20, .int x102), (0, .ref 68), (1, .ref 0), (2, .ref 58), (4, .ref 60), (5, .ref 61), (6, .ref 62), (7, .ref 63), (9, .ref 64), (10, .int v10), (11, .int q46), (16, .int ((1 : Int32) + q82)), (17, .ref 65), (18, .ref 66), (19, .ref 67)]) rfl ?_
                    refine a_iconst (0 : Int32) dL_law_725 rfl ?_
                    refine a_istore dL_law_726 (by decide) (loc' := [(21, .int (0 : Int32)), (20, .int x102), (0, .ref 68), (1, .ref 0), (2, .ref 58), (4, .ref 60), (5, .ref 61), (6, .ref 62), (7, .ref 63), (9, .ref 64), (10, .int v10), (11, .int q46), (16, .int ((1 : Int32) + q82)), (17, .ref 65), (18, .ref 66), (19, .ref 67)]) rfl ?_
                    refine a_iconst (0 : Int32) dL_law_728 rfl ?_
                    refine a_istore dL_law_729 (by decide) (loc' := [(22, .int (0 : Int32)), (21, .int (0 : Int32)), (20, .int x102), (0, .ref 68), (1, .ref 0), (2, .ref 58), (4, .ref 60), (5, .ref 61), (6, .ref 62), (7, .ref 63), (9, .ref 64), (10, .int v10), (11, .int q46), (16, .int ((1 : Int32) + q82)), (17, .ref 65), (18, .ref 66), (19, .ref 67)]) rfl ?_
                    obtain ⟨q105, hr134, hf⟩ := obind hf
                    have hA135 : LJ 68 (3 * n) (e + 6) 763 [(0, .ref 68), (1, .ref 0), (2, .ref 58), (4, .ref 60), (5, .ref 61), (6, .ref 62), (7, .ref 63), (9, .ref 64), (10, .int v10), (16, .int ((1 : Int32) + q82)), (17, .ref 65), (19, .ref 67), (20, .int x102), (21, .int q105.1)] [] q105.2 := by
                      refine a_iconst (0 : Int32) dL_law_763 rfl ?_
                      refine a_istore dL_law_764 (by decide) (loc' := [(22, .int (0 : Int32)), (0, .ref 68), (1, .ref 0), (2, .ref 58), (4, .ref 60), (5, .ref 61), (6, .ref 62), (7, .ref 63), (9, .ref 64), (10, .int v10), (16, .int ((1 : Int32) + q82)), (17, .ref 65), (19, .ref 67), (20, .int x102), (21, .int q105.1)]) rfl ?_
                      refine a_iconst (0 : Int32) dL_law_766 rfl ?_
                      refine a_istore dL_law_767 (by decide) (loc' := [(23, .int (0 : Int32)), (22, .int (0 : Int32)), (0, .ref 68), (1, .ref 0), (2, .ref 58), (4, .ref 60), (5, .ref 61), (6, .ref 62), (7, .ref 63), (9, .ref 64), (10, .int v10), (16, .int ((1 : Int32) + q82)), (17, .ref 65), (19, .ref 67), (20, .int x102), (21, .int q105.1)]) rfl ?_
                      refine a_iconst (0 : Int32) dL_law_769 rfl ?_
                      refine a_istore dL_law_770 (by decide) (loc' := [(24, .int (0 : Int32)), (23, .int (0 : Int32)), (22, .int (0 : Int32)), (0, .ref 68), (1, .ref 0), (2, .ref 58), (4, .ref 60), (5, .ref 61), (6, .ref 62), (7, .ref 63), (9, .ref 64), (10, .int v10), (16, .int ((1 : Int32) + q82)), (17, .ref 65), (19, .ref 67), (20, .int x102), (21, .int q105.1)]) rfl ?_
                      obtain ⟨q112, hr132, hf⟩ := obind hf
                      have hA133 : LJ 68 (3 * n) (e + 6) 812 [(0, .ref 68), (1, .ref 0), (2, .ref 58), (4, .ref 60), (5, .ref 61), (6, .ref 62), (7, .ref 63), (9, .ref 64), (10, .int v10), (16, .int ((1 : Int32) + q82)), (19, .ref 67), (20, .int x102), (21, .int q105.1), (22, .int q112), (23, .int (0 : Int32))] [] q105.2 := by
                        refine a_iconst (0 : Int32) dL_law_812 rfl ?_
                        refine a_istore dL_law_813 (by decide) (loc' := [(24, .int (0 : Int32)), (0, .ref 68), (1, .ref 0), (2, .ref 58), (4, .ref 60), (5, .ref 61), (6, .ref 62), (7, .ref 63), (9, .ref 64), (10, .int v10), (16, .int ((1 : Int32) + q82)), (19, .ref 67), (20, .int x102), (21, .int q105.1), (22, .int q112), (23, .int (0 : Int32))]) rfl ?_
                        obtain ⟨q118, hr130, hf⟩ := obind hf
                        have hA131 : LJ 68 (3 * n) (e + 6) 852 [(0, .ref 68), (1, .ref 0), (2, .ref 58), (4, .ref 60), (5, .ref 61), (6, .ref 62), (7, .ref 63), (9, .ref 64), (10, .int v10), (16, .int ((1 : Int32) + q82)), (20, .int x102), (21, .int q105.1), (22, .int q112), (23, .int q118)] [] q105.2 := by
                          refine a_aload_n dL_law_852 rfl 1 rfl ?_
                          refine a_iload dL_law_853 9 rfl ?_
                          refine a_iload dL_law_855 10 rfl ?_
                          refine a_iconst (0 : Int32) dL_law_857 rfl ?_
                          obtain ⟨q119, hq119, hf⟩ := obind hf
                          refine a_callV (as := [.int ((1 : Int32) + q82), .int x102, .int (0 : Int32)]) (stk := []) (q := some (.int q119.1)) (σ1 := q119.2) (SpK.mono (kX8_drawn e ((1 : Int32) + q82) x102 (0 : Int32) q105.2 _ hq119) (hkL (by decide))) (ob_0.mono (hkL (by decide))) vl_L_128 rfl (Nat.le_of_ble_eq_true rfl) dL_law_858 ?_
                          refine a_iload dL_law_861 11 rfl ?_
                          by_cases hc120 : q119.1 = q105.1
                          · rw [if_pos hc120] at hf
                            refine a_icmp_ne_f 912 dL_law_863 (by decide) hc120 ?_
                            refine a_aload_n dL_law_866 rfl 1 rfl ?_
                            refine a_iload dL_law_867 9 rfl ?_
                            refine a_iload dL_law_869 10 rfl ?_
                            refine a_iconst (1 : Int32) dL_law_871 rfl ?_
                            obtain ⟨q121, hq121, hf⟩ := obind hf
                            refine a_callV (as := [.int ((1 : Int32) + q82), .int x102, .int (1 : Int32)]) (stk := []) (q := some (.int q121.1)) (σ1 := q121.2) (SpK.mono (kX8_drawn e ((1 : Int32) + q82) x102 (1 : Int32) q119.2 _ hq121) (hkL (by decide))) (ob_0.mono (hkL (by decide))) vl_L_128 rfl (Nat.le_of_ble_eq_true rfl) dL_law_872 ?_
                            refine a_iload dL_law_875 12 rfl ?_
                            by_cases hc122 : q121.1 = q112
                            · rw [if_pos hc122] at hf
                              refine a_icmp_ne_f 912 dL_law_877 (by decide) hc122 ?_
                              refine a_aload_n dL_law_880 rfl 1 rfl ?_
                              refine a_iload dL_law_881 9 rfl ?_
                              refine a_iload dL_law_883 10 rfl ?_
                              refine a_iconst (2 : Int32) dL_law_885 rfl ?_
                              obtain ⟨q123, hq123, hf⟩ := obind hf
                              refine a_callV (as := [.int ((1 : Int32) + q82), .int x102, .int (2 : Int32)]) (stk := []) (q := some (.int q123.1)) (σ1 := q123.2) (SpK.mono (kX8_drawn e ((1 : Int32) + q82) x102 (2 : Int32) q121.2 _ hq123) (hkL (by decide))) (ob_0.mono (hkL (by decide))) vl_L_128 rfl (Nat.le_of_ble_eq_true rfl) dL_law_886 ?_
                              refine a_iload dL_law_889 13 rfl ?_
                              by_cases hc124 : q123.1 = q118
                              · rw [if_pos hc124] at hf
                                refine a_icmp_ne_f 912 dL_law_891 (by decide) hc124 ?_
                                refine a_aload_n dL_law_894 rfl 1 rfl ?_
                                refine a_iload dL_law_895 9 rfl ?_
                                refine a_iload dL_law_897 10 rfl ?_
                                refine a_iconst (3 : Int32) dL_law_899 rfl ?_
                                obtain ⟨q125, hq125, hf⟩ := obind hf
                                refine a_callV (as := [.int ((1 : Int32) + q82), .int x102, .int (3 : Int32)]) (stk := []) (q := some (.int q125.1)) (σ1 := q125.2) (SpK.mono (kX8_drawn e ((1 : Int32) + q82) x102 (3 : Int32) q123.2 _ hq125) (hkL (by decide))) (ob_0.mono (hkL (by decide))) vl_L_128 rfl (Nat.le_of_ble_eq_true rfl) dL_law_900 ?_
                                refine a_i2l dL_law_903 ?_
                                refine a_aload dL_law_904 7 rfl ?_
                                refine a_iconst (0 : Int32) dL_law_906 rfl ?_
                                obtain ⟨hb126, hf⟩ := grd_elim hf
                                refine a_lald (lla_64 (by decide)) hb126 dL_law_907 ?_
                                refine a_lcmp dL_law_908 ?_
                                by_cases hc127 : (lg_cmp q125.1.toInt64 (q125.2.2 64 (0 : Int32).toNatClampNeg)) = 0
                                · rw [if_pos hc127] at hf
                                  refine a_if_eq_t 914 dL_law_909 (by decide) hc127 ?_
                                  refine a_aload_n dL_law_914 rfl 1 rfl ?_
                                  refine a_aload dL_law_915 3 rfl ?_
                                  refine a_aload dL_law_917 6 rfl ?_
                                  refine a_aload dL_law_919 5 rfl ?_
                                  obtain ⟨q128, hq128, hf⟩ := obind hf
                                  refine a_callS (as := [.ref 0, .ref 60, .ref 63, .ref 62]) (stk := []) (q := some (.int q128)) (σ1 := q125.2) (kL_stands (e + 2) 60 27 63 64 62 64 q125.2 (hkL (by decide)) (lia_60 (by decide)) (lia_63 (by decide)) (lia_62 (by decide)) _ hq128) sl_L_107 rfl (Nat.le_of_ble_eq_true rfl) dL_law_921 ?_
                                  by_cases hc129 : q128 = 0
                                  · rw [if_pos hc129] at hf
                                    refine a_if_ne_f 929 dL_law_924 (by decide) hc129 ?_
                                    refine a_iconst (0 : Int32) dL_law_927 rfl ?_
                                    have hq := Option.some.inj hf
                                    exact a_lend (h1 _ hq.symm) dL_law_928
                                  · rw [if_neg hc129] at hf
                                    refine a_if_ne_t 929 dL_law_924 (by decide) hc129 ?_
                                    refine a_iinc (v10 + (1 : Int32)) dL_law_929 8 rfl rfl (by decide) (loc' := [(10, .int (v10 + (1 : Int32))), (0, .ref 68), (1, .ref 0), (2, .ref 58), (4, .ref 60), (5, .ref 61), (6, .ref 62), (7, .ref 63), (9, .ref 64), (16, .int ((1 : Int32) + q82)), (20, .int x102), (21, .int q105.1), (22, .int q112), (23, .int q118)]) rfl ?_
                                    refine a_goto 255 dL_law_932 (by decide) ?_
                                    refine a_drop (m := 65) (by decide) ?_
                                    refine a_locs (loc' := [(0, .ref 68), (1, .ref 0), (2, .ref 58), (4, .ref 60), (5, .ref 61), (6, .ref 62), (7, .ref 63), (9, .ref 64), (10, .int (v10 + (1 : Int32)))]) [1, 2, 3, 4, 5, 6, 7, 8, 0] rfl ?_
                                    exact ih (v10 + (1 : Int32)) q125.2 (by omega) hf h1 h2
                                · rw [if_neg hc127] at hf
                                  refine a_if_eq_f 914 dL_law_909 (by decide) hc127 ?_
                                  refine a_iconst (0 : Int32) dL_law_912 rfl ?_
                                  have hq := Option.some.inj hf
                                  exact a_lend (h1 _ hq.symm) dL_law_913
                              · rw [if_neg hc124] at hf
                                refine a_icmp_ne_t 912 dL_law_891 (by decide) hc124 ?_
                                refine a_iconst (0 : Int32) dL_law_912 rfl ?_
                                have hq := Option.some.inj hf
                                exact a_lend (h1 _ hq.symm) dL_law_913
                            · rw [if_neg hc122] at hf
                              refine a_icmp_ne_t 912 dL_law_877 (by decide) hc122 ?_
                              refine a_iconst (0 : Int32) dL_law_912 rfl ?_
                              have hq := Option.some.inj hf
                              exact a_lend (h1 _ hq.symm) dL_law_913
                          · rw [if_neg hc120] at hf
                            refine a_icmp_ne_t 912 dL_law_863 (by decide) hc120 ?_
                            refine a_iconst (0 : Int32) dL_law_912 rfl ?_
                            have hq := Option.some.inj hf
                            exact a_lend (h1 _ hq.symm) dL_law_913
                        refine a_locs (loc' := [(0, .ref 68), (1, .ref 0), (2, .ref 58), (4, .ref 60), (5, .ref 61), (6, .ref 62), (7, .ref 63), (9, .ref 64), (10, .int v10), (16, .int ((1 : Int32) + q82)), (19, .ref 67), (20, .int x102), (21, .int q105.1), (22, .int q112), (23, .int (0 : Int32)), (24, .int (0 : Int32))]) [1, 2, 3, 4, 5, 6, 7, 8, 9, 10, 11, 12, 13, 14, 15, 0] rfl ?_
                        exact kL_law_L815 e v10 ((1 : Int32) + q82) x102 q105.1 q112 q105.2 q118 fu (0 : Int32) (0 : Int32) hr130 hA131
                      refine a_locs (loc' := [(0, .ref 68), (1, .ref 0), (2, .ref 58), (4, .ref 60), (5, .ref 61), (6, .ref 62), (7, .ref 63), (9, .ref 64), (10, .int v10), (16, .int ((1 : Int32) + q82)), (17, .ref 65), (19, .ref 67), (20, .int x102), (21, .int q105.1), (22, .int (0 : Int32)), (23, .int (0 : Int32)), (24, .int (0 : Int32))]) [3, 4, 5, 6, 7, 8, 9, 10, 11, 12, 13, 14, 15, 16, 2, 1, 0] rfl ?_
                      exact kL_law_L772 e v10 ((1 : Int32) + q82) x102 q105.1 (0 : Int32) q105.2 q112 fu (0 : Int32) (0 : Int32) hr132 hA133
                    refine a_locs (loc' := [(0, .ref 68), (1, .ref 0), (2, .ref 58), (4, .ref 60), (5, .ref 61), (6, .ref 62), (7, .ref 63), (9, .ref 64), (10, .int v10), (16, .int ((1 : Int32) + q82)), (17, .ref 65), (18, .ref 66), (19, .ref 67), (20, .int x102), (21, .int (0 : Int32)), (22, .int (0 : Int32))]) [3, 4, 5, 6, 7, 8, 9, 10, 11, 13, 14, 15, 16, 2, 1, 0] rfl ?_
                    exact kL_law_L731 e v10 ((1 : Int32) + q82) x102 q105 fu (0 : Int32) (0 : Int32) σ100 hr134 hA135
                  refine a_locs (loc' := [(0, .ref 68), (1, .ref 0), (2, .ref 58), (4, .ref 60), (5, .ref 61), (6, .ref 62), (7, .ref 63), (9, .ref 64), (10, .int v10), (11, .int q46), (16, .int ((1 : Int32) + q82)), (17, .ref 65), (18, .ref 66), (19, .ref 67), (20, .int (0 : Int32))]) [1, 2, 3, 4, 5, 6, 7, 8, 9, 10, 11, 12, 13, 14, 0] rfl ?_
                  exact kL_law_L683 e v10 q46 ((1 : Int32) + q82) q98 fu (0 : Int32) q93 hr136 hA137
                refine a_locs (loc' := [(0, .ref 68), (1, .ref 0), (2, .ref 58), (4, .ref 60), (5, .ref 61), (6, .ref 62), (7, .ref 63), (9, .ref 64), (10, .int v10), (11, .int q46), (16, .int ((1 : Int32) + q82)), (17, .ref 65), (18, .ref 66), (19, .ref 67), (20, .int (0 : Int32))]) [5, 6, 7, 8, 9, 10, 11, 12, 13, 14, 4, 3, 2, 1, 0] rfl ?_
                exact kL_law_L647 e v10 q46 ((1 : Int32) + q82) q93 fu (0 : Int32) σ85 hr138 hA139
              clear hf
              by_cases hc80 : q79 = 0
              · rw [if_pos hc80] at hx81
                refine a_if_ne_f 619 dL_law_611 (by decide) hc80 ?_
                refine a_bipush (30 : Int32) dL_law_614 rfl ?_
                refine a_goto 620 dL_law_616 (by decide) ?_
                replace hx81 := hx81.symm; subst hx81
                refine a_locs (loc' := [(0, .ref 68), (1, .ref 0), (2, .ref 58), (4, .ref 60), (5, .ref 61), (6, .ref 62), (7, .ref 63), (9, .ref 64), (10, .int v10), (11, .int q46)]) [1, 2, 3, 4, 5, 6, 7, 8, 9, 10] rfl ?_
                exact hA140
              · rw [if_neg hc80] at hx81
                refine a_if_ne_t 619 dL_law_611 (by decide) hc80 ?_
                refine a_iconst (4 : Int32) dL_law_619 rfl ?_
                replace hx81 := hx81.symm; subst hx81
                refine a_locs (loc' := [(0, .ref 68), (1, .ref 0), (2, .ref 58), (4, .ref 60), (5, .ref 61), (6, .ref 62), (7, .ref 63), (9, .ref 64), (10, .int v10), (11, .int q46)]) [1, 2, 3, 4, 5, 6, 7, 8, 9, 10] rfl ?_
                exact hA140
          · rw [if_neg hc58] at hf
            refine a_icmp_ge_f 491 dL_law_356 (by decide) hc58 ?_
            refine a_iload dL_law_359 10 rfl ?_
            refine a_iconst (5 : Int32) dL_law_361 rfl ?_
            refine a_ishr dL_law_362 ?_
            refine a_aload dL_law_363 4 rfl ?_
            refine a_iconst (0 : Int32) dL_law_365 rfl ?_
            obtain ⟨hb141, hf⟩ := grd_elim hf
            refine a_iald (lia_60 (by decide)) hb141 dL_law_366 ?_
            obtain ⟨q142, hq142, hf⟩ := obind hf
            refine a_callS (as := [.int (q46 >>> ((5 : Int32) &&& 31)), .int (σ.1 60 (0 : Int32).toNatClampNeg)]) (stk := []) (q := some (.int q142)) (σ1 := σ) (kL_at (e + 5) (q46 >>> ((5 : Int32) &&& 31)) (σ.1 60 (0 : Int32).toNatClampNeg) σ _ hq142) sl_L_8 rfl (Nat.le_of_ble_eq_true rfl) dL_law_367 ?_
            refine a_istore dL_law_370 (by decide) (loc' := [(16, .int q142), (15, .int q57), (0, .ref 68), (1, .ref 0), (2, .ref 58), (4, .ref 60), (5, .ref 61), (6, .ref 62), (7, .ref 63), (9, .ref 64), (10, .int v10), (11, .int q46), (12, .int q48), (13, .int ((8 : Int32) * q48)), (14, .int q51)]) rfl ?_
            refine a_iconst (0 : Int32) dL_law_372 rfl ?_
            refine a_istore dL_law_373 (by decide) (loc' := [(17, .int (0 : Int32)), (16, .int q142), (15, .int q57), (0, .ref 68), (1, .ref 0), (2, .ref 58), (4, .ref 60), (5, .ref 61), (6, .ref 62), (7, .ref 63), (9, .ref 64), (10, .int v10), (11, .int q46), (12, .int q48), (13, .int ((8 : Int32) * q48)), (14, .int q51)]) rfl ?_
            obtain ⟨q150, hr165, hf⟩ := obind hf
            have hA166 : LJ 65 (3 * n + 3) (e + 6) 422 [(0, .ref 68), (1, .ref 0), (2, .ref 58), (4, .ref 60), (5, .ref 61), (6, .ref 62), (7, .ref 63), (9, .ref 64), (10, .int v10), (12, .int q48), (13, .int ((8 : Int32) * q48)), (14, .int q51), (16, .int q150)] [] σ := by
              refine a_aload dL_law_422 6 rfl ?_
              refine a_iload dL_law_424 10 rfl ?_
              refine a_bipush (7 : Int32) dL_law_426 rfl ?_
              refine a_iadd dL_law_428 ?_
              obtain ⟨hb151, hf⟩ := grd_elim hf
              refine a_iald (lia_63 (by decide)) hb151 dL_law_429 ?_
              obtain ⟨x153, hx153, hf⟩ := bnd_elim hf
              have hA163 : LJ 65 (3 * n + 3) (e + 6) 449 [(0, .ref 68), (1, .ref 0), (2, .ref 58), (4, .ref 60), (5, .ref 61), (6, .ref 62), (7, .ref 63), (9, .ref 64), (10, .int v10), (12, .int q48), (16, .int q150)] [.int x153] σ := by
                refine a_istore dL_law_449 (by decide) (loc' := [(17, .int x153), (0, .ref 68), (1, .ref 0), (2, .ref 58), (4, .ref 60), (5, .ref 61), (6, .ref 62), (7, .ref 63), (9, .ref 64), (10, .int v10), (12, .int q48), (16, .int q150)]) rfl ?_
                refine a_aload_n dL_law_451 rfl 2 rfl ?_
                refine a_iload dL_law_452 10 rfl ?_
                refine a_iload dL_law_454 11 rfl ?_
                obtain ⟨q154, hq154, hf⟩ := obind hf
                refine a_callV (as := [.int q48, .int q150]) (stk := []) (q := some (.int q154.1)) (σ1 := q154.2) (SpK.mono (kX8_give (e + 2) q48 q150 σ _ hq154) (hkL (by decide))) (ob_0.mono (hkL (by decide))) vl_L_116 rfl (Nat.le_of_ble_eq_true rfl) dL_law_456 ?_
                refine a_iload dL_law_459 0 rfl ?_
                obtain ⟨q156, hr161, hf⟩ := obind hf
                have hA160 : LJ 65 (3 * n + 3) (e + 6) 483 [(0, .ref 68), (1, .ref 0), (2, .ref 58), (4, .ref 60), (5, .ref 61), (6, .ref 62), (7, .ref 63), (9, .ref 64), (10, .int v10)] [.int q156.1, .int q154.1] q156.2 := by
                  by_cases hc157 : q154.1 = q156.1
                  · rw [if_pos hc157] at hf
                    refine a_icmp_eq_t 488 dL_law_483 (by decide) hc157 ?_
                    refine a_goto 914 dL_law_488 (by decide) ?_
                    refine a_aload_n dL_law_914 rfl 1 rfl ?_
                    refine a_aload dL_law_915 3 rfl ?_
                    refine a_aload dL_law_917 6 rfl ?_
                    refine a_aload dL_law_919 5 rfl ?_
                    obtain ⟨q158, hq158, hf⟩ := obind hf
                    refine a_callS (as := [.ref 0, .ref 60, .ref 63, .ref 62]) (stk := []) (q := some (.int q158)) (σ1 := q156.2) (kL_stands (e + 2) 60 27 63 64 62 64 q156.2 (hkL (by decide)) (lia_60 (by decide)) (lia_63 (by decide)) (lia_62 (by decide)) _ hq158) sl_L_107 rfl (Nat.le_of_ble_eq_true rfl) dL_law_921 ?_
                    by_cases hc159 : q158 = 0
                    · rw [if_pos hc159] at hf
                      refine a_if_ne_f 929 dL_law_924 (by decide) hc159 ?_
                      refine a_iconst (0 : Int32) dL_law_927 rfl ?_
                      have hq := Option.some.inj hf
                      exact a_lend (h1 _ hq.symm) dL_law_928
                    · rw [if_neg hc159] at hf
                      refine a_if_ne_t 929 dL_law_924 (by decide) hc159 ?_
                      refine a_iinc (v10 + (1 : Int32)) dL_law_929 8 rfl rfl (by decide) (loc' := [(10, .int (v10 + (1 : Int32))), (0, .ref 68), (1, .ref 0), (2, .ref 58), (4, .ref 60), (5, .ref 61), (6, .ref 62), (7, .ref 63), (9, .ref 64)]) rfl ?_
                      refine a_goto 255 dL_law_932 (by decide) ?_
                      refine a_wid (k := (3 * n)) (by omega) ?_
                      refine a_locs (loc' := [(0, .ref 68), (1, .ref 0), (2, .ref 58), (4, .ref 60), (5, .ref 61), (6, .ref 62), (7, .ref 63), (9, .ref 64), (10, .int (v10 + (1 : Int32)))]) [1, 2, 3, 4, 5, 6, 7, 8, 0] rfl ?_
                      exact ih (v10 + (1 : Int32)) q156.2 (by omega) hf h1 h2
                  · rw [if_neg hc157] at hf
                    refine a_icmp_eq_f 488 dL_law_483 (by decide) hc157 ?_
                    refine a_iconst (0 : Int32) dL_law_486 rfl ?_
                    have hq := Option.some.inj hf
                    exact a_lend (h1 _ hq.symm) dL_law_487
                clear hf
                have hf := hr161
                clear hr161
                by_cases hc155 : x153 = 0
                · rw [if_pos hc155] at hf
                  refine a_if_eq_t 481 dL_law_461 (by decide) hc155 ?_
                  refine a_bipush (-103 : Int32) dL_law_481 rfl ?_
                  have hq := Option.some.inj hf
                  subst hq
                  refine a_locs (loc' := [(0, .ref 68), (1, .ref 0), (2, .ref 58), (4, .ref 60), (5, .ref 61), (6, .ref 62), (7, .ref 63), (9, .ref 64), (10, .int v10)]) [1, 2, 3, 4, 5, 6, 7, 8, 9] rfl ?_
                  exact hA160
                · rw [if_neg hc155] at hf
                  refine a_if_eq_f 481 dL_law_461 (by decide) hc155 ?_
                  refine a_aload dL_law_464 4 rfl ?_
                  refine a_aload_n dL_law_466 rfl 3 rfl ?_
                  refine a_aload dL_law_467 7 rfl ?_
                  refine a_aload dL_law_469 6 rfl ?_
                  refine a_iload dL_law_471 10 rfl ?_
                  refine a_iload dL_law_473 11 rfl ?_
                  obtain ⟨q162, hq162, hf⟩ := obind hf
                  refine a_callS (as := [.ref 60, .ref 58, .ref 63, .ref 62, .int q48, .int q150]) (stk := [.int q154.1]) (q := some (.int q162.1)) (σ1 := q162.2) (kL_give (e + 4) 60 27 58 4 63 64 62 64 q48 q150 q154.2 (lia_60 (by decide)) (lia_58 (by decide)) (lia_63 (by decide)) (lia_62 (by decide)) _ hq162) sl_L_62 rfl (Nat.le_of_ble_eq_true rfl) dL_law_475 ?_
                  refine a_goto 483 dL_law_478 (by decide) ?_
                  have hq := Option.some.inj hf
                  subst hq
                  refine a_locs (loc' := [(0, .ref 68), (1, .ref 0), (2, .ref 58), (4, .ref 60), (5, .ref 61), (6, .ref 62), (7, .ref 63), (9, .ref 64), (10, .int v10)]) [1, 2, 3, 4, 5, 6, 7, 8, 9] rfl ?_
                  exact hA160
              clear hf
              by_cases hc152 : (σ.1 63 (((8 : Int32) * q48) + (7 : Int32)).toNatClampNeg) = 0
              · rw [if_pos hc152] at hx153
                refine a_if_ne_f 448 dL_law_430 (by decide) hc152 ?_
                refine a_iload dL_law_433 11 rfl ?_
                refine a_iload dL_law_435 12 rfl ?_
                refine a_ishr dL_law_437 ?_
                refine a_iconst (1 : Int32) dL_law_438 rfl ?_
                refine a_iand dL_law_439 ?_
                refine a_iconst (1 : Int32) dL_law_440 rfl ?_
                by_cases hc164 : ((q51 >>> (q150 &&& 31)) &&& (1 : Int32)) = (1 : Int32)
                · rw [if_pos hc164] at hx153
                  refine a_icmp_ne_f 448 dL_law_441 (by decide) hc164 ?_
                  refine a_iconst (1 : Int32) dL_law_444 rfl ?_
                  refine a_goto 449 dL_law_445 (by decide) ?_
                  replace hx153 := hx153.symm; subst hx153
                  refine a_locs (loc' := [(0, .ref 68), (1, .ref 0), (2, .ref 58), (4, .ref 60), (5, .ref 61), (6, .ref 62), (7, .ref 63), (9, .ref 64), (10, .int v10), (12, .int q48), (16, .int q150)]) [0, 1, 2, 3, 4, 5, 6, 7, 8, 9, 12] rfl ?_
                  exact hA163
                · rw [if_neg hc164] at hx153
                  refine a_icmp_ne_t 448 dL_law_441 (by decide) hc164 ?_
                  refine a_iconst (0 : Int32) dL_law_448 rfl ?_
                  replace hx153 := hx153.symm; subst hx153
                  refine a_locs (loc' := [(0, .ref 68), (1, .ref 0), (2, .ref 58), (4, .ref 60), (5, .ref 61), (6, .ref 62), (7, .ref 63), (9, .ref 64), (10, .int v10), (12, .int q48), (16, .int q150)]) [0, 1, 2, 3, 4, 5, 6, 7, 8, 9, 12] rfl ?_
                  exact hA163
              · rw [if_neg hc152] at hx153
                refine a_if_ne_t 448 dL_law_430 (by decide) hc152 ?_
                refine a_iconst (0 : Int32) dL_law_448 rfl ?_
                replace hx153 := hx153.symm; subst hx153
                refine a_locs (loc' := [(0, .ref 68), (1, .ref 0), (2, .ref 58), (4, .ref 60), (5, .ref 61), (6, .ref 62), (7, .ref 63), (9, .ref 64), (10, .int v10), (12, .int q48), (16, .int q150)]) [0, 1, 2, 3, 4, 5, 6, 7, 8, 9, 12] rfl ?_
                exact hA163
            refine a_locs (loc' := [(0, .ref 68), (1, .ref 0), (2, .ref 58), (4, .ref 60), (5, .ref 61), (6, .ref 62), (7, .ref 63), (9, .ref 64), (10, .int v10), (11, .int q46), (12, .int q48), (13, .int ((8 : Int32) * q48)), (14, .int q51), (16, .int q142), (17, .int (0 : Int32))]) [3, 4, 5, 6, 7, 8, 9, 10, 11, 12, 13, 14, 15, 1, 0] rfl ?_
            exact kL_law_L375 e v10 q46 q48 ((8 : Int32) * q48) q51 σ q150 fu q142 (0 : Int32) hr165 hA166
        · rw [if_neg hc56] at hf
          refine a_icmp_eq_f 345 dL_law_340 (by decide) hc56 ?_
          refine a_iconst (0 : Int32) dL_law_343 rfl ?_
          have hq := Option.some.inj hf
          exact a_lend (h1 _ hq.symm) dL_law_344
      clear hf
      by_cases hc54 : (σ.1 63 (((8 : Int32) * q48) + (7 : Int32)).toNatClampNeg) ≤ 0
      · rw [if_pos hc54] at hx55
        refine a_if_le_t 338 dL_law_330 (by decide) hc54 ?_
        refine a_iload dL_law_338 0 rfl ?_
        replace hx55 := hx55.symm; subst hx55
        refine a_locs (loc' := [(0, .ref 68), (1, .ref 0), (2, .ref 58), (4, .ref 60), (5, .ref 61), (6, .ref 62), (7, .ref 63), (9, .ref 64), (10, .int v10), (11, .int q46), (12, .int q48), (13, .int ((8 : Int32) * q48)), (14, .int q51)]) [4, 5, 6, 7, 8, 9, 10, 11, 12, 3, 2, 1, 0] rfl ?_
        exact hA167
      · rw [if_neg hc54] at hx55
        refine a_if_le_f 338 dL_law_330 (by decide) hc54 ?_
        refine a_bipush (-103 : Int32) dL_law_333 rfl ?_
        refine a_goto 340 dL_law_335 (by decide) ?_
        replace hx55 := hx55.symm; subst hx55
        refine a_locs (loc' := [(0, .ref 68), (1, .ref 0), (2, .ref 58), (4, .ref 60), (5, .ref 61), (6, .ref 62), (7, .ref 63), (9, .ref 64), (10, .int v10), (11, .int q46), (12, .int q48), (13, .int ((8 : Int32) * q48)), (14, .int q51)]) [4, 5, 6, 7, 8, 9, 10, 11, 12, 3, 2, 1, 0] rfl ?_
        exact hA167
set_option maxHeartbeats 8000000 in
set_option maxRecDepth 100000 in
theorem kL_law (e : Nat) (σ : St) (hf : fL_law σ = some 1) : LJ 64 (15000 + 1) (e + 6) 41 [(0, .ref 68), (1, .ref 0), (2, .ref 58), (3, .ref 59), (4, .ref 60), (5, .ref 61), (6, .ref 62), (7, .ref 63)] [] σ := by
  unfold fL_law at hf
  refine a_aload_n dL_law_41 rfl 0 rfl ?_
  refine a_iconst (0 : Int32) dL_law_42 rfl ?_
  obtain ⟨q1, hq1, hf⟩ := obind hf
  refine a_callS (as := [.ref 68, .int (0 : Int32)]) (stk := []) (q := some (.int q1)) (σ1 := σ) (kL_cell (e + 5) (0 : Int32) σ _ hq1) sl_L_20 rfl (Nat.le_of_ble_eq_true rfl) dL_law_43 ?_
  refine a_aload_n dL_law_46 rfl 2 rfl ?_
  refine a_aload_n dL_law_47 rfl 3 rfl ?_
  obtain ⟨q2, hq2, hf⟩ := obind hf
  refine a_callS (as := [.int q1, .ref 58, .ref 59]) (stk := []) (q := some (.int q2.1)) (σ1 := q2.2) (kL_lawText (e + 4) q1 58 4 59 16 σ (lia_58 (by decide)) (lia_59 (by decide)) _ hq2) sl_L_82 rfl (Nat.le_of_ble_eq_true rfl) dL_law_48 ?_
  refine a_istore dL_law_51 (by decide) (loc' := [(8, .int q2.1), (0, .ref 68), (1, .ref 0), (2, .ref 58), (3, .ref 59), (4, .ref 60), (5, .ref 61), (6, .ref 62), (7, .ref 63)]) rfl ?_
  refine a_aload_n dL_law_53 rfl 2 rfl ?_
  refine a_aload_n dL_law_54 rfl 4 rfl ?_
  refine a_iload dL_law_55 0 rfl ?_
  obtain ⟨q3, hq3, hf⟩ := obind hf
  refine a_callS (as := [.ref 0, .ref 59, .int q2.1]) (stk := []) (q := some (.int q3.1)) (σ1 := q3.2) (kL_write (e + 2) 59 16 q2.1 q2.2 (hkL (by decide)) (lia_59 (by decide)) _ hq3) sl_L_86 rfl (Nat.le_of_ble_eq_true rfl) dL_law_57 ?_
  by_cases hc4 : q3.1 = 0
  · rw [if_pos hc4] at hf
    refine a_if_eq_t 80 dL_law_60 (by decide) hc4 ?_
    refine a_iconst (0 : Int32) dL_law_80 rfl ?_
    have hq := Option.some.inj hf
    exact a_lend hq dL_law_81
  · rw [if_neg hc4] at hf
    refine a_if_eq_f 80 dL_law_60 (by decide) hc4 ?_
    refine a_aload_n dL_law_63 rfl 2 rfl ?_
    obtain ⟨q5, hq5, hf⟩ := obind hf
    refine a_callV (as := []) (stk := []) (q := some (.int q5)) (σ1 := q3.2) (SpK.mono (kX8_fault (e + 2) q3.2 _ hq5) (hkL (by decide))) (ob_0.mono (hkL (by decide))) vl_L_90 rfl (Nat.le_of_ble_eq_true rfl) dL_law_64 ?_
    refine a_iload dL_law_67 0 rfl ?_
    by_cases hc6 : q5 = q2.1
    · rw [if_pos hc6] at hf
      refine a_icmp_ne_f 80 dL_law_69 (by decide) hc6 ?_
      refine a_aload_n dL_law_72 rfl 2 rfl ?_
      obtain ⟨q7, hq7, hf⟩ := obind hf
      refine a_callV (as := []) (stk := []) (q := some (.int q7.1)) (σ1 := q7.2) (SpK.mono (kX8_law (e + 2) q3.2 _ hq7) (hkL (by decide))) (ob_0.mono (hkL (by decide))) vl_L_94 rfl (Nat.le_of_ble_eq_true rfl) dL_law_73 ?_
      refine a_iconst (1 : Int32) dL_law_76 rfl ?_
      by_cases hc8 : q7.1 = (1 : Int32)
      · rw [if_pos hc8] at hf
        refine a_icmp_eq_t 82 dL_law_77 (by decide) hc8 ?_
        refine a_iconst (0 : Int32) dL_law_82 rfl ?_
        refine a_istore dL_law_83 (by decide) (loc' := [(9, .int (0 : Int32)), (8, .int q2.1), (0, .ref 68), (1, .ref 0), (2, .ref 58), (3, .ref 59), (4, .ref 60), (5, .ref 61), (6, .ref 62), (7, .ref 63)]) rfl ?_
        obtain ⟨s13, hr14, hf⟩ := obind hf
        refine a_locs (loc' := [(0, .ref 68), (1, .ref 0), (2, .ref 58), (4, .ref 60), (5, .ref 61), (6, .ref 62), (7, .ref 63), (9, .int (0 : Int32))]) [2, 3, 4, 6, 7, 8, 9, 0] rfl ?_
        refine kL_law_L85 e q7.2 s13 fu (0 : Int32) hr14 ?_ ?_
        · intro z15 hz
          subst hz
          simp only [Sum.elim_inl] at hf
          exact Option.some.inj hf
        · intro q12 hz
          subst hz
          simp only [Sum.elim_inr] at hf
          refine a_aload_n dL_law_112 rfl 1 rfl ?_
          refine a_aload_n dL_law_113 rfl 0 rfl ?_
          refine a_iconst (1 : Int32) dL_law_114 rfl ?_
          refine a_bipush (8 : Int32) dL_law_115 rfl ?_
          refine a_aload dL_law_117 3 rfl ?_
          refine a_aload dL_law_119 4 rfl ?_
          obtain ⟨q16, hq16, hf⟩ := obind hf
          refine a_callS (as := [.ref 0, .ref 68, .int (1 : Int32), .int (8 : Int32), .ref 60, .ref 61]) (stk := []) (q := some (.int q16.1)) (σ1 := q16.2) (kL_people (e + 2) (1 : Int32) (8 : Int32) 60 27 61 64 q7.2 (hkL (by decide)) (lia_60 (by decide)) (lia_61 (by decide)) _ hq16) sl_L_100 rfl (Nat.le_of_ble_eq_true rfl) dL_law_121 ?_
          by_cases hc17 : q16.1 = 0
          · rw [if_pos hc17] at hf
            refine a_if_eq_t 156 dL_law_124 (by decide) hc17 ?_
            refine a_iconst (0 : Int32) dL_law_156 rfl ?_
            have hq := Option.some.inj hf
            exact a_lend hq dL_law_157
          · rw [if_neg hc17] at hf
            refine a_if_eq_f 156 dL_law_124 (by decide) hc17 ?_
            refine a_aload_n dL_law_127 rfl 1 rfl ?_
            refine a_aload_n dL_law_128 rfl 0 rfl ?_
            refine a_bipush (10 : Int32) dL_law_129 rfl ?_
            refine a_bipush (8 : Int32) dL_law_131 rfl ?_
            refine a_aload dL_law_133 3 rfl ?_
            refine a_aload dL_law_135 6 rfl ?_
            obtain ⟨q18, hq18, hf⟩ := obind hf
            refine a_callS (as := [.ref 0, .ref 68, .int (10 : Int32), .int (8 : Int32), .ref 60, .ref 63]) (stk := []) (q := some (.int q18.1)) (σ1 := q18.2) (kL_gifts (e + 2) (10 : Int32) (8 : Int32) 60 27 63 64 q16.2 (hkL (by decide)) (lia_60 (by decide)) (lia_63 (by decide)) _ hq18) sl_L_104 rfl (Nat.le_of_ble_eq_true rfl) dL_law_137 ?_
            by_cases hc19 : q18.1 = 0
            · rw [if_pos hc19] at hf
              refine a_if_eq_t 156 dL_law_140 (by decide) hc19 ?_
              refine a_iconst (0 : Int32) dL_law_156 rfl ?_
              have hq := Option.some.inj hf
              exact a_lend hq dL_law_157
            · rw [if_neg hc19] at hf
              refine a_if_eq_f 156 dL_law_140 (by decide) hc19 ?_
              refine a_aload_n dL_law_143 rfl 1 rfl ?_
              refine a_aload dL_law_144 3 rfl ?_
              refine a_aload dL_law_146 6 rfl ?_
              refine a_aload dL_law_148 5 rfl ?_
              obtain ⟨q20, hq20, hf⟩ := obind hf
              refine a_callS (as := [.ref 0, .ref 60, .ref 63, .ref 62]) (stk := []) (q := some (.int q20)) (σ1 := q18.2) (kL_stands (e + 2) 60 27 63 64 62 64 q18.2 (hkL (by decide)) (lia_60 (by decide)) (lia_63 (by decide)) (lia_62 (by decide)) _ hq20) sl_L_107 rfl (Nat.le_of_ble_eq_true rfl) dL_law_150 ?_
              by_cases hc21 : q20 = 0
              · rw [if_pos hc21] at hf
                refine a_if_ne_f 158 dL_law_153 (by decide) hc21 ?_
                refine a_iconst (0 : Int32) dL_law_156 rfl ?_
                have hq := Option.some.inj hf
                exact a_lend hq dL_law_157
              · rw [if_neg hc21] at hf
                refine a_if_ne_t 158 dL_law_153 (by decide) hc21 ?_
                refine a_iconst (0 : Int32) dL_law_158 rfl ?_
                refine a_istore dL_law_159 (by decide) (loc' := [(9, .int (0 : Int32)), (0, .ref 68), (1, .ref 0), (2, .ref 58), (4, .ref 60), (5, .ref 61), (6, .ref 62), (7, .ref 63)]) rfl ?_
                obtain ⟨s41, hr42, hf⟩ := obind hf
                refine a_locs (loc' := [(0, .ref 68), (1, .ref 0), (2, .ref 58), (4, .ref 60), (5, .ref 61), (6, .ref 62), (7, .ref 63), (9, .int (0 : Int32))]) [1, 2, 3, 4, 5, 6, 7, 0] rfl ?_
                refine kL_law_L161 e q18.2 s41 fu (0 : Int32) hr42 ?_ ?_
                · intro z43 hz
                  subst hz
                  simp only [Sum.elim_inl] at hf
                  exact Option.some.inj hf
                · intro q40 hz
                  subst hz
                  simp only [Sum.elim_inr] at hf
                  refine a_iconst (1 : Int32) dL_law_247 rfl ?_
                  refine a_newL 1 (by decide) rfl rfl (by decide) rfl (by omega) dL_law_248 ?_
                  obtain ⟨σ44, hσ44, hf⟩ := bnd_elim hf
                  rw [← hσ44]
                  refine a_astore dL_law_250 (by decide) (loc' := [(9, .ref 64), (0, .ref 68), (1, .ref 0), (2, .ref 58), (4, .ref 60), (5, .ref 61), (6, .ref 62), (7, .ref 63)]) rfl ?_
                  refine a_iconst (0 : Int32) dL_law_252 rfl ?_
                  refine a_istore dL_law_253 (by decide) (loc' := [(10, .int (0 : Int32)), (9, .ref 64), (0, .ref 68), (1, .ref 0), (2, .ref 58), (4, .ref 60), (5, .ref 61), (6, .ref 62), (7, .ref 63)]) rfl ?_
                  obtain ⟨s169, hr170, hf⟩ := obind hf
                  refine a_locs (loc' := [(0, .ref 68), (1, .ref 0), (2, .ref 58), (4, .ref 60), (5, .ref 61), (6, .ref 62), (7, .ref 63), (9, .ref 64), (10, .int (0 : Int32))]) [2, 3, 4, 5, 6, 7, 8, 1, 0] rfl ?_
                  refine kL_law_L255 e s169 fu (0 : Int32) σ44 (by decide) hr170 ?_ ?_
                  · intro z171 hz
                    subst hz
                    simp only [Sum.elim_inl] at hf
                    exact Option.some.inj hf
                  · intro q168 hz
                    subst hz
                    simp only [Sum.elim_inr] at hf
                    refine a_aload_n dL_law_935 rfl 0 rfl ?_
                    refine a_iconst (4 : Int32) dL_law_936 rfl ?_
                    refine a_callV (as := [.int (4 : Int32)]) (stk := []) (q := some (.int (fX8_lawTold (4 : Int32) q168))) (σ1 := q168) (SpK.mono (kX8_lawTold (e + 4) (4 : Int32) q168) (hkL (by decide))) (ob_0.mono (hkL (by decide))) vl_L_97 rfl (Nat.le_of_ble_eq_true rfl) dL_law_937 ?_
                    refine a_bipush (-102 : Int32) dL_law_940 rfl ?_
                    by_cases hc172 : (fX8_lawTold (4 : Int32) q168) = (-102 : Int32)
                    · rw [if_pos hc172] at hf
                      refine a_icmp_ne_f 1234 dL_law_942 (by decide) hc172 ?_
                      refine a_aload_n dL_law_945 rfl 0 rfl ?_
                      refine a_iconst (4 : Int32) dL_law_946 rfl ?_
                      obtain ⟨q173, hq173, hf⟩ := obind hf
                      refine a_callV (as := [.int (4 : Int32)]) (stk := []) (q := some (.int q173.1)) (σ1 := q173.2) (SpK.mono (kX8_person (e + 4) (4 : Int32) q168 _ hq173) (hkL (by decide))) (ob_0.mono (hkL (by decide))) vl_L_24 rfl (Nat.le_of_ble_eq_true rfl) dL_law_947 ?_
                      refine a_bipush (-102 : Int32) dL_law_950 rfl ?_
                      by_cases hc174 : q173.1 = (-102 : Int32)
                      · rw [if_pos hc174] at hf
                        refine a_icmp_ne_f 1234 dL_law_952 (by decide) hc174 ?_
                        refine a_aload_n dL_law_955 rfl 0 rfl ?_
                        refine a_iconst (0 : Int32) dL_law_956 rfl ?_
                        refine a_iconst (0 : Int32) dL_law_957 rfl ?_
                        refine a_iconst (1 : Int32) dL_law_958 rfl ?_
                        obtain ⟨q175, hq175, hf⟩ := obind hf
                        refine a_callV (as := [.int (0 : Int32), .int (0 : Int32), .int (1 : Int32)]) (stk := []) (q := some (.int q175.1)) (σ1 := q175.2) (SpK.mono (kX8_know (e + 3) (0 : Int32) (0 : Int32) (1 : Int32) q173.2 _ hq175) (hkL (by decide))) (ob_0.mono (hkL (by decide))) vl_L_28 rfl (Nat.le_of_ble_eq_true rfl) dL_law_959 ?_
                        refine a_bipush (-101 : Int32) dL_law_962 rfl ?_
                        by_cases hc176 : q175.1 = (-101 : Int32)
                        · rw [if_pos hc176] at hf
                          refine a_icmp_ne_f 1234 dL_law_964 (by decide) hc176 ?_
                          refine a_aload_n dL_law_967 rfl 0 rfl ?_
                          refine a_iconst (0 : Int32) dL_law_968 rfl ?_
                          refine a_aload dL_law_969 1 rfl ?_
                          refine a_iconst (0 : Int32) dL_law_971 rfl ?_
                          obtain ⟨hb177, hf⟩ := grd_elim hf
                          refine a_iald (lia_60 (by decide)) hb177 dL_law_972 ?_
                          refine a_iconst (1 : Int32) dL_law_973 rfl ?_
                          obtain ⟨q178, hq178, hf⟩ := obind hf
                          refine a_callV (as := [.int (0 : Int32), .int (q175.2.1 60 (0 : Int32).toNatClampNeg), .int (1 : Int32)]) (stk := []) (q := some (.int q178.1)) (σ1 := q178.2) (SpK.mono (kX8_know (e + 3) (0 : Int32) (q175.2.1 60 (0 : Int32).toNatClampNeg) (1 : Int32) q175.2 _ hq178) (hkL (by decide))) (ob_0.mono (hkL (by decide))) vl_L_28 rfl (Nat.le_of_ble_eq_true rfl) dL_law_974 ?_
                          refine a_bipush (-101 : Int32) dL_law_977 rfl ?_
                          by_cases hc179 : q178.1 = (-101 : Int32)
                          · rw [if_pos hc179] at hf
                            refine a_icmp_ne_f 1234 dL_law_979 (by decide) hc179 ?_
                            refine a_aload_n dL_law_982 rfl 0 rfl ?_
                            refine a_iconst (1 : Int32) dL_law_983 rfl ?_
                            refine a_iconst (1 : Int32) dL_law_984 rfl ?_
                            refine a_iconst (0 : Int32) dL_law_985 rfl ?_
                            obtain ⟨q180, hq180, hf⟩ := obind hf
                            refine a_callV (as := [.int (1 : Int32), .int (1 : Int32), .int (0 : Int32)]) (stk := []) (q := some (.int q180.1)) (σ1 := q180.2) (SpK.mono (kX8_like (e + 3) (1 : Int32) (1 : Int32) (0 : Int32) q178.2 _ hq180) (hkL (by decide))) (ob_0.mono (hkL (by decide))) vl_L_32 rfl (Nat.le_of_ble_eq_true rfl) dL_law_986 ?_
                            refine a_bipush (-101 : Int32) dL_law_989 rfl ?_
                            by_cases hc181 : q180.1 = (-101 : Int32)
                            · rw [if_pos hc181] at hf
                              refine a_icmp_ne_f 1234 dL_law_991 (by decide) hc181 ?_
                              refine a_aload_n dL_law_994 rfl 0 rfl ?_
                              refine a_iconst (0 : Int32) dL_law_995 rfl ?_
                              refine a_iconst (1 : Int32) dL_law_996 rfl ?_
                              refine a_bipush (10 : Int32) dL_law_997 rfl ?_
                              obtain ⟨q182, hq182, hf⟩ := obind hf
                              refine a_callV (as := [.int (0 : Int32), .int (1 : Int32), .int (10 : Int32)]) (stk := []) (q := some (.int q182.1)) (σ1 := q182.2) (SpK.mono (kX8_like (e + 3) (0 : Int32) (1 : Int32) (10 : Int32) q180.2 _ hq182) (hkL (by decide))) (ob_0.mono (hkL (by decide))) vl_L_32 rfl (Nat.le_of_ble_eq_true rfl) dL_law_999 ?_
                              refine a_bipush (-102 : Int32) dL_law_1002 rfl ?_
                              by_cases hc183 : q182.1 = (-102 : Int32)
                              · rw [if_pos hc183] at hf
                                refine a_icmp_ne_f 1234 dL_law_1004 (by decide) hc183 ?_
                                refine a_aload_n dL_law_1007 rfl 0 rfl ?_
                                refine a_aload dL_law_1008 1 rfl ?_
                                refine a_iconst (0 : Int32) dL_law_1010 rfl ?_
                                obtain ⟨hb184, hf⟩ := grd_elim hf
                                refine a_iald (lia_60 (by decide)) hb184 dL_law_1011 ?_
                                refine a_iconst (0 : Int32) dL_law_1012 rfl ?_
                                obtain ⟨q185, hq185, hf⟩ := obind hf
                                refine a_callV (as := [.int (q182.2.1 60 (0 : Int32).toNatClampNeg), .int (0 : Int32)]) (stk := []) (q := some (.int q185)) (σ1 := q182.2) (SpK.mono (kX8_about (e + 3) (q182.2.1 60 (0 : Int32).toNatClampNeg) (0 : Int32) q182.2 _ hq185) (hkL (by decide))) (ob_0.mono (hkL (by decide))) vl_L_72 rfl (Nat.le_of_ble_eq_true rfl) dL_law_1013 ?_
                                refine a_bipush (-101 : Int32) dL_law_1016 rfl ?_
                                by_cases hc186 : q185 = (-101 : Int32)
                                · rw [if_pos hc186] at hf
                                  refine a_icmp_ne_f 1234 dL_law_1018 (by decide) hc186 ?_
                                  refine a_aload_n dL_law_1021 rfl 0 rfl ?_
                                  refine a_iconst (0 : Int32) dL_law_1022 rfl ?_
                                  refine a_iconst (4 : Int32) dL_law_1023 rfl ?_
                                  obtain ⟨q187, hq187, hf⟩ := obind hf
                                  refine a_callV (as := [.int (0 : Int32), .int (4 : Int32)]) (stk := []) (q := some (.int q187)) (σ1 := q182.2) (SpK.mono (kX8_about (e + 3) (0 : Int32) (4 : Int32) q182.2 _ hq187) (hkL (by decide))) (ob_0.mono (hkL (by decide))) vl_L_72 rfl (Nat.le_of_ble_eq_true rfl) dL_law_1024 ?_
                                  refine a_bipush (-102 : Int32) dL_law_1027 rfl ?_
                                  by_cases hc188 : q187 = (-102 : Int32)
                                  · rw [if_pos hc188] at hf
                                    refine a_icmp_ne_f 1234 dL_law_1029 (by decide) hc188 ?_
                                    refine a_aload_n dL_law_1032 rfl 0 rfl ?_
                                    refine a_iconst (0 : Int32) dL_law_1033 rfl ?_
                                    refine a_iconst (0 : Int32) dL_law_1034 rfl ?_
                                    obtain ⟨q189, hq189, hf⟩ := obind hf
                                    refine a_callV (as := [.int (0 : Int32), .int (0 : Int32)]) (stk := []) (q := some (.int q189)) (σ1 := q182.2) (SpK.mono (kX8_owes (e + 3) (0 : Int32) (0 : Int32) q182.2 _ hq189) (hkL (by decide))) (ob_0.mono (hkL (by decide))) vl_L_66 rfl (Nat.le_of_ble_eq_true rfl) dL_law_1035 ?_
                                    refine a_bipush (-101 : Int32) dL_law_1038 rfl ?_
                                    by_cases hc190 : q189 = (-101 : Int32)
                                    · rw [if_pos hc190] at hf
                                      refine a_icmp_ne_f 1234 dL_law_1040 (by decide) hc190 ?_
                                      refine a_aload_n dL_law_1043 rfl 0 rfl ?_
                                      refine a_aload dL_law_1044 1 rfl ?_
                                      refine a_iconst (0 : Int32) dL_law_1046 rfl ?_
                                      obtain ⟨hb191, hf⟩ := grd_elim hf
                                      refine a_iald (lia_60 (by decide)) hb191 dL_law_1047 ?_
                                      obtain ⟨q192, hq192, hf⟩ := obind hf
                                      refine a_callV (as := [.int (q182.2.1 60 (0 : Int32).toNatClampNeg)]) (stk := []) (q := some (.int q192)) (σ1 := q182.2) (SpK.mono (kX8_rest (e + 3) (q182.2.1 60 (0 : Int32).toNatClampNeg) q182.2 _ hq192) (hkL (by decide))) (ob_0.mono (hkL (by decide))) vl_L_69 rfl (Nat.le_of_ble_eq_true rfl) dL_law_1048 ?_
                                      refine a_ldc rfl kc_L_131 dL_law_1051 ?_
                                      by_cases hc193 : q192 = (-100001 : Int32)
                                      · rw [if_pos hc193] at hf
                                        refine a_icmp_ne_f 1234 dL_law_1053 (by decide) hc193 ?_
                                        refine a_aload_n dL_law_1056 rfl 0 rfl ?_
                                        refine a_iconst (5 : Int32) dL_law_1057 rfl ?_
                                        refine a_iconst (0 : Int32) dL_law_1058 rfl ?_
                                        obtain ⟨q194, hq194, hf⟩ := obind hf
                                        refine a_callV (as := [.int (5 : Int32), .int (0 : Int32)]) (stk := []) (q := some (.int q194.1)) (σ1 := q194.2) (SpK.mono (kX8_gift (e + 3) (5 : Int32) (0 : Int32) q182.2 _ hq194) (hkL (by decide))) (ob_0.mono (hkL (by decide))) vl_L_36 rfl (Nat.le_of_ble_eq_true rfl) dL_law_1059 ?_
                                        refine a_bipush (-102 : Int32) dL_law_1062 rfl ?_
                                        by_cases hc195 : q194.1 = (-102 : Int32)
                                        · rw [if_pos hc195] at hf
                                          refine a_icmp_ne_f 1234 dL_law_1064 (by decide) hc195 ?_
                                          refine a_aload_n dL_law_1067 rfl 0 rfl ?_
                                          refine a_iconst (0 : Int32) dL_law_1068 rfl ?_
                                          refine a_aload dL_law_1069 1 rfl ?_
                                          refine a_iconst (0 : Int32) dL_law_1071 rfl ?_
                                          obtain ⟨hb196, hf⟩ := grd_elim hf
                                          refine a_iald (lia_60 (by decide)) hb196 dL_law_1072 ?_
                                          obtain ⟨q197, hq197, hf⟩ := obind hf
                                          refine a_callV (as := [.int (0 : Int32), .int (q194.2.1 60 (0 : Int32).toNatClampNeg)]) (stk := []) (q := some (.int q197.1)) (σ1 := q197.2) (SpK.mono (kX8_gift (e + 3) (0 : Int32) (q194.2.1 60 (0 : Int32).toNatClampNeg) q194.2 _ hq197) (hkL (by decide))) (ob_0.mono (hkL (by decide))) vl_L_36 rfl (Nat.le_of_ble_eq_true rfl) dL_law_1073 ?_
                                          refine a_bipush (-101 : Int32) dL_law_1076 rfl ?_
                                          by_cases hc198 : q197.1 = (-101 : Int32)
                                          · rw [if_pos hc198] at hf
                                            refine a_icmp_ne_f 1234 dL_law_1078 (by decide) hc198 ?_
                                            refine a_aload_n dL_law_1081 rfl 0 rfl ?_
                                            refine a_aload dL_law_1082 1 rfl ?_
                                            refine a_bipush (25 : Int32) dL_law_1084 rfl ?_
                                            obtain ⟨hb199, hf⟩ := grd_elim hf
                                            refine a_iald (lia_60 (by decide)) hb199 dL_law_1086 ?_
                                            refine a_iconst (0 : Int32) dL_law_1087 rfl ?_
                                            obtain ⟨q200, hq200, hf⟩ := obind hf
                                            refine a_callV (as := [.int (q197.2.1 60 (25 : Int32).toNatClampNeg), .int (0 : Int32)]) (stk := []) (q := some (.int q200)) (σ1 := q197.2) (SpK.mono (kX8_told (e + 3) (q197.2.1 60 (25 : Int32).toNatClampNeg) (0 : Int32) q197.2 _ hq200) (hkL (by decide))) (ob_0.mono (hkL (by decide))) vl_L_75 rfl (Nat.le_of_ble_eq_true rfl) dL_law_1088 ?_
                                            refine a_bipush (-101 : Int32) dL_law_1091 rfl ?_
                                            by_cases hc201 : q200 = (-101 : Int32)
                                            · rw [if_pos hc201] at hf
                                              refine a_icmp_ne_f 1234 dL_law_1093 (by decide) hc201 ?_
                                              refine a_aload_n dL_law_1096 rfl 0 rfl ?_
                                              refine a_iconst (0 : Int32) dL_law_1097 rfl ?_
                                              refine a_bipush (9 : Int32) dL_law_1098 rfl ?_
                                              obtain ⟨q202, hq202, hf⟩ := obind hf
                                              refine a_callV (as := [.int (0 : Int32), .int (9 : Int32)]) (stk := []) (q := some (.int q202)) (σ1 := q197.2) (SpK.mono (kX8_told (e + 3) (0 : Int32) (9 : Int32) q197.2 _ hq202) (hkL (by decide))) (ob_0.mono (hkL (by decide))) vl_L_75 rfl (Nat.le_of_ble_eq_true rfl) dL_law_1100 ?_
                                              refine a_bipush (-102 : Int32) dL_law_1103 rfl ?_
                                              by_cases hc203 : q202 = (-102 : Int32)
                                              · rw [if_pos hc203] at hf
                                                refine a_icmp_ne_f 1234 dL_law_1105 (by decide) hc203 ?_
                                                refine a_aload_n dL_law_1108 rfl 0 rfl ?_
                                                refine a_aload dL_law_1109 1 rfl ?_
                                                refine a_bipush (25 : Int32) dL_law_1111 rfl ?_
                                                obtain ⟨hb204, hf⟩ := grd_elim hf
                                                refine a_iald (lia_60 (by decide)) hb204 dL_law_1113 ?_
                                                refine a_iconst (0 : Int32) dL_law_1114 rfl ?_
                                                obtain ⟨q205, hq205, hf⟩ := obind hf
                                                refine a_callV (as := [.int (q197.2.1 60 (25 : Int32).toNatClampNeg), .int (0 : Int32)]) (stk := []) (q := some (.int q205)) (σ1 := q197.2) (SpK.mono (kX8_as (e + 4) (q197.2.1 60 (25 : Int32).toNatClampNeg) (0 : Int32) q197.2 _ hq205) (hkL (by decide))) (ob_0.mono (hkL (by decide))) vl_L_111 rfl (Nat.le_of_ble_eq_true rfl) dL_law_1115 ?_
                                                refine a_bipush (-101 : Int32) dL_law_1118 rfl ?_
                                                by_cases hc206 : q205 = (-101 : Int32)
                                                · rw [if_pos hc206] at hf
                                                  refine a_icmp_ne_f 1234 dL_law_1120 (by decide) hc206 ?_
                                                  refine a_aload_n dL_law_1123 rfl 0 rfl ?_
                                                  refine a_iconst (0 : Int32) dL_law_1124 rfl ?_
                                                  refine a_iconst (5 : Int32) dL_law_1125 rfl ?_
                                                  obtain ⟨q207, hq207, hf⟩ := obind hf
                                                  refine a_callV (as := [.int (0 : Int32), .int (5 : Int32)]) (stk := []) (q := some (.int q207)) (σ1 := q197.2) (SpK.mono (kX8_as (e + 4) (0 : Int32) (5 : Int32) q197.2 _ hq207) (hkL (by decide))) (ob_0.mono (hkL (by decide))) vl_L_111 rfl (Nat.le_of_ble_eq_true rfl) dL_law_1126 ?_
                                                  refine a_bipush (-102 : Int32) dL_law_1129 rfl ?_
                                                  by_cases hc208 : q207 = (-102 : Int32)
                                                  · rw [if_pos hc208] at hf
                                                    refine a_icmp_ne_f 1234 dL_law_1131 (by decide) hc208 ?_
                                                    refine a_aload_n dL_law_1134 rfl 0 rfl ?_
                                                    refine a_iconst (-1 : Int32) dL_law_1135 rfl ?_
                                                    obtain ⟨q209, hq209, hf⟩ := obind hf
                                                    refine a_callV (as := [.int (-1 : Int32)]) (stk := []) (q := some (.int q209)) (σ1 := q197.2) (SpK.mono (kX8_may (e + 2) (-1 : Int32) q197.2 _ hq209) (hkL (by decide))) (ob_0.mono (hkL (by decide))) vl_L_114 rfl (Nat.le_of_ble_eq_true rfl) dL_law_1136 ?_
                                                    refine a_bipush (-101 : Int32) dL_law_1139 rfl ?_
                                                    by_cases hc210 : q209 = (-101 : Int32)
                                                    · rw [if_pos hc210] at hf
                                                      refine a_icmp_ne_f 1234 dL_law_1141 (by decide) hc210 ?_
                                                      refine a_aload_n dL_law_1144 rfl 0 rfl ?_
                                                      refine a_iconst (0 : Int32) dL_law_1145 rfl ?_
                                                      refine a_aload dL_law_1146 1 rfl ?_
                                                      refine a_iconst (0 : Int32) dL_law_1148 rfl ?_
                                                      obtain ⟨hb211, hf⟩ := grd_elim hf
                                                      refine a_iald (lia_60 (by decide)) hb211 dL_law_1149 ?_
                                                      obtain ⟨q212, hq212, hf⟩ := obind hf
                                                      refine a_callV (as := [.int (0 : Int32), .int (q197.2.1 60 (0 : Int32).toNatClampNeg)]) (stk := []) (q := some (.int q212.1)) (σ1 := q212.2) (SpK.mono (kX8_give (e + 2) (0 : Int32) (q197.2.1 60 (0 : Int32).toNatClampNeg) q197.2 _ hq212) (hkL (by decide))) (ob_0.mono (hkL (by decide))) vl_L_116 rfl (Nat.le_of_ble_eq_true rfl) dL_law_1150 ?_
                                                      refine a_bipush (-101 : Int32) dL_law_1153 rfl ?_
                                                      by_cases hc213 : q212.1 = (-101 : Int32)
                                                      · rw [if_pos hc213] at hf
                                                        refine a_icmp_ne_f 1234 dL_law_1155 (by decide) hc213 ?_
                                                        refine a_aload_n dL_law_1158 rfl 0 rfl ?_
                                                        refine a_aload dL_law_1159 1 rfl ?_
                                                        refine a_bipush (25 : Int32) dL_law_1161 rfl ?_
                                                        obtain ⟨hb214, hf⟩ := grd_elim hf
                                                        refine a_iald (lia_60 (by decide)) hb214 dL_law_1163 ?_
                                                        refine a_iconst (0 : Int32) dL_law_1164 rfl ?_
                                                        obtain ⟨q215, hq215, hf⟩ := obind hf
                                                        refine a_callV (as := [.int (q212.2.1 60 (25 : Int32).toNatClampNeg), .int (0 : Int32)]) (stk := []) (q := some (.int q215.1)) (σ1 := q215.2) (SpK.mono (kX8_give (e + 2) (q212.2.1 60 (25 : Int32).toNatClampNeg) (0 : Int32) q212.2 _ hq215) (hkL (by decide))) (ob_0.mono (hkL (by decide))) vl_L_116 rfl (Nat.le_of_ble_eq_true rfl) dL_law_1165 ?_
                                                        refine a_bipush (-101 : Int32) dL_law_1168 rfl ?_
                                                        by_cases hc216 : q215.1 = (-101 : Int32)
                                                        · rw [if_pos hc216] at hf
                                                          refine a_icmp_ne_f 1234 dL_law_1170 (by decide) hc216 ?_
                                                          refine a_aload_n dL_law_1173 rfl 0 rfl ?_
                                                          refine a_iconst (0 : Int32) dL_law_1174 rfl ?_
                                                          obtain ⟨q217, hq217, hf⟩ := obind hf
                                                          refine a_callV (as := [.int (0 : Int32)]) (stk := []) (q := some (.int q217.1)) (σ1 := q217.2) (SpK.mono (kX8_years e (0 : Int32) q215.2 _ hq217) (hkL (by decide))) (ob_0.mono (hkL (by decide))) vl_L_124 rfl (Nat.le_of_ble_eq_true rfl) dL_law_1175 ?_
                                                          refine a_bipush (-102 : Int32) dL_law_1178 rfl ?_
                                                          by_cases hc218 : q217.1 = (-102 : Int32)
                                                          · rw [if_pos hc218] at hf
                                                            refine a_icmp_ne_f 1234 dL_law_1180 (by decide) hc218 ?_
                                                            refine a_aload_n dL_law_1183 rfl 0 rfl ?_
                                                            refine a_bipush (31 : Int32) dL_law_1184 rfl ?_
                                                            obtain ⟨q219, hq219, hf⟩ := obind hf
                                                            refine a_callV (as := [.int (31 : Int32)]) (stk := []) (q := some (.int q219.1)) (σ1 := q219.2) (SpK.mono (kX8_years e (31 : Int32) q217.2 _ hq219) (hkL (by decide))) (ob_0.mono (hkL (by decide))) vl_L_124 rfl (Nat.le_of_ble_eq_true rfl) dL_law_1186 ?_
                                                            refine a_bipush (-102 : Int32) dL_law_1189 rfl ?_
                                                            by_cases hc220 : q219.1 = (-102 : Int32)
                                                            · rw [if_pos hc220] at hf
                                                              refine a_icmp_ne_f 1234 dL_law_1191 (by decide) hc220 ?_
                                                              refine a_aload_n dL_law_1194 rfl 0 rfl ?_
                                                              refine a_iconst (0 : Int32) dL_law_1195 rfl ?_
                                                              refine a_iconst (0 : Int32) dL_law_1196 rfl ?_
                                                              refine a_iconst (0 : Int32) dL_law_1197 rfl ?_
                                                              obtain ⟨q221, hq221, hf⟩ := obind hf
                                                              refine a_callV (as := [.int (0 : Int32), .int (0 : Int32), .int (0 : Int32)]) (stk := []) (q := some (.int q221.1)) (σ1 := q221.2) (SpK.mono (kX8_drawn e (0 : Int32) (0 : Int32) (0 : Int32) q219.2 _ hq221) (hkL (by decide))) (ob_0.mono (hkL (by decide))) vl_L_128 rfl (Nat.le_of_ble_eq_true rfl) dL_law_1198 ?_
                                                              refine a_bipush (-102 : Int32) dL_law_1201 rfl ?_
                                                              by_cases hc222 : q221.1 = (-102 : Int32)
                                                              · rw [if_pos hc222] at hf
                                                                refine a_icmp_ne_f 1234 dL_law_1203 (by decide) hc222 ?_
                                                                refine a_aload_n dL_law_1206 rfl 0 rfl ?_
                                                                refine a_iconst (1 : Int32) dL_law_1207 rfl ?_
                                                                refine a_iconst (-1 : Int32) dL_law_1208 rfl ?_
                                                                refine a_iconst (0 : Int32) dL_law_1209 rfl ?_
                                                                obtain ⟨q223, hq223, hf⟩ := obind hf
                                                                refine a_callV (as := [.int (1 : Int32), .int (-1 : Int32), .int (0 : Int32)]) (stk := []) (q := some (.int q223.1)) (σ1 := q223.2) (SpK.mono (kX8_drawn e (1 : Int32) (-1 : Int32) (0 : Int32) q221.2 _ hq223) (hkL (by decide))) (ob_0.mono (hkL (by decide))) vl_L_128 rfl (Nat.le_of_ble_eq_true rfl) dL_law_1210 ?_
                                                                refine a_bipush (-102 : Int32) dL_law_1213 rfl ?_
                                                                by_cases hc224 : q223.1 = (-102 : Int32)
                                                                · rw [if_pos hc224] at hf
                                                                  refine a_icmp_ne_f 1234 dL_law_1215 (by decide) hc224 ?_
                                                                  refine a_aload_n dL_law_1218 rfl 0 rfl ?_
                                                                  refine a_iconst (1 : Int32) dL_law_1219 rfl ?_
                                                                  refine a_iconst (0 : Int32) dL_law_1220 rfl ?_
                                                                  refine a_iconst (4 : Int32) dL_law_1221 rfl ?_
                                                                  obtain ⟨q225, hq225, hf⟩ := obind hf
                                                                  refine a_callV (as := [.int (1 : Int32), .int (0 : Int32), .int (4 : Int32)]) (stk := []) (q := some (.int q225.1)) (σ1 := q225.2) (SpK.mono (kX8_drawn e (1 : Int32) (0 : Int32) (4 : Int32) q223.2 _ hq225) (hkL (by decide))) (ob_0.mono (hkL (by decide))) vl_L_128 rfl (Nat.le_of_ble_eq_true rfl) dL_law_1222 ?_
                                                                  refine a_bipush (-102 : Int32) dL_law_1225 rfl ?_
                                                                  by_cases hc226 : q225.1 = (-102 : Int32)
                                                                  · rw [if_pos hc226] at hf
                                                                    refine a_icmp_ne_f 1234 dL_law_1227 (by decide) hc226 ?_
                                                                    refine a_iconst (1 : Int32) dL_law_1230 rfl ?_
                                                                    refine a_goto 1235 dL_law_1231 (by decide) ?_
                                                                    have hq := Option.some.inj hf
                                                                    exact a_lend hq dL_law_1235
                                                                  · rw [if_neg hc226] at hf
                                                                    refine a_icmp_ne_t 1234 dL_law_1227 (by decide) hc226 ?_
                                                                    refine a_iconst (0 : Int32) dL_law_1234 rfl ?_
                                                                    have hq := Option.some.inj hf
                                                                    exact a_lend hq dL_law_1235
                                                                · rw [if_neg hc224] at hf
                                                                  refine a_icmp_ne_t 1234 dL_law_1215 (by decide) hc224 ?_
                                                                  refine a_iconst (0 : Int32) dL_law_1234 rfl ?_
                                                                  have hq := Option.some.inj hf
                                                                  exact a_lend hq dL_law_1235
                                                              · rw [if_neg hc222] at hf
                                                                refine a_icmp_ne_t 1234 dL_law_1203 (by decide) hc222 ?_
                                                                refine a_iconst (0 : Int32) dL_law_1234 rfl ?_
                                                                have hq := Option.some.inj hf
                                                                exact a_lend hq dL_law_1235
                                                            · rw [if_neg hc220] at hf
                                                              refine a_icmp_ne_t 1234 dL_law_1191 (by decide) hc220 ?_
                                                              refine a_iconst (0 : Int32) dL_law_1234 rfl ?_
                                                              have hq := Option.some.inj hf
                                                              exact a_lend hq dL_law_1235
                                                          · rw [if_neg hc218] at hf
                                                            refine a_icmp_ne_t 1234 dL_law_1180 (by decide) hc218 ?_
                                                            refine a_iconst (0 : Int32) dL_law_1234 rfl ?_
                                                            have hq := Option.some.inj hf
                                                            exact a_lend hq dL_law_1235
                                                        · rw [if_neg hc216] at hf
                                                          refine a_icmp_ne_t 1234 dL_law_1170 (by decide) hc216 ?_
                                                          refine a_iconst (0 : Int32) dL_law_1234 rfl ?_
                                                          have hq := Option.some.inj hf
                                                          exact a_lend hq dL_law_1235
                                                      · rw [if_neg hc213] at hf
                                                        refine a_icmp_ne_t 1234 dL_law_1155 (by decide) hc213 ?_
                                                        refine a_iconst (0 : Int32) dL_law_1234 rfl ?_
                                                        have hq := Option.some.inj hf
                                                        exact a_lend hq dL_law_1235
                                                    · rw [if_neg hc210] at hf
                                                      refine a_icmp_ne_t 1234 dL_law_1141 (by decide) hc210 ?_
                                                      refine a_iconst (0 : Int32) dL_law_1234 rfl ?_
                                                      have hq := Option.some.inj hf
                                                      exact a_lend hq dL_law_1235
                                                  · rw [if_neg hc208] at hf
                                                    refine a_icmp_ne_t 1234 dL_law_1131 (by decide) hc208 ?_
                                                    refine a_iconst (0 : Int32) dL_law_1234 rfl ?_
                                                    have hq := Option.some.inj hf
                                                    exact a_lend hq dL_law_1235
                                                · rw [if_neg hc206] at hf
                                                  refine a_icmp_ne_t 1234 dL_law_1120 (by decide) hc206 ?_
                                                  refine a_iconst (0 : Int32) dL_law_1234 rfl ?_
                                                  have hq := Option.some.inj hf
                                                  exact a_lend hq dL_law_1235
                                              · rw [if_neg hc203] at hf
                                                refine a_icmp_ne_t 1234 dL_law_1105 (by decide) hc203 ?_
                                                refine a_iconst (0 : Int32) dL_law_1234 rfl ?_
                                                have hq := Option.some.inj hf
                                                exact a_lend hq dL_law_1235
                                            · rw [if_neg hc201] at hf
                                              refine a_icmp_ne_t 1234 dL_law_1093 (by decide) hc201 ?_
                                              refine a_iconst (0 : Int32) dL_law_1234 rfl ?_
                                              have hq := Option.some.inj hf
                                              exact a_lend hq dL_law_1235
                                          · rw [if_neg hc198] at hf
                                            refine a_icmp_ne_t 1234 dL_law_1078 (by decide) hc198 ?_
                                            refine a_iconst (0 : Int32) dL_law_1234 rfl ?_
                                            have hq := Option.some.inj hf
                                            exact a_lend hq dL_law_1235
                                        · rw [if_neg hc195] at hf
                                          refine a_icmp_ne_t 1234 dL_law_1064 (by decide) hc195 ?_
                                          refine a_iconst (0 : Int32) dL_law_1234 rfl ?_
                                          have hq := Option.some.inj hf
                                          exact a_lend hq dL_law_1235
                                      · rw [if_neg hc193] at hf
                                        refine a_icmp_ne_t 1234 dL_law_1053 (by decide) hc193 ?_
                                        refine a_iconst (0 : Int32) dL_law_1234 rfl ?_
                                        have hq := Option.some.inj hf
                                        exact a_lend hq dL_law_1235
                                    · rw [if_neg hc190] at hf
                                      refine a_icmp_ne_t 1234 dL_law_1040 (by decide) hc190 ?_
                                      refine a_iconst (0 : Int32) dL_law_1234 rfl ?_
                                      have hq := Option.some.inj hf
                                      exact a_lend hq dL_law_1235
                                  · rw [if_neg hc188] at hf
                                    refine a_icmp_ne_t 1234 dL_law_1029 (by decide) hc188 ?_
                                    refine a_iconst (0 : Int32) dL_law_1234 rfl ?_
                                    have hq := Option.some.inj hf
                                    exact a_lend hq dL_law_1235
                                · rw [if_neg hc186] at hf
                                  refine a_icmp_ne_t 1234 dL_law_1018 (by decide) hc186 ?_
                                  refine a_iconst (0 : Int32) dL_law_1234 rfl ?_
                                  have hq := Option.some.inj hf
                                  exact a_lend hq dL_law_1235
                              · rw [if_neg hc183] at hf
                                refine a_icmp_ne_t 1234 dL_law_1004 (by decide) hc183 ?_
                                refine a_iconst (0 : Int32) dL_law_1234 rfl ?_
                                have hq := Option.some.inj hf
                                exact a_lend hq dL_law_1235
                            · rw [if_neg hc181] at hf
                              refine a_icmp_ne_t 1234 dL_law_991 (by decide) hc181 ?_
                              refine a_iconst (0 : Int32) dL_law_1234 rfl ?_
                              have hq := Option.some.inj hf
                              exact a_lend hq dL_law_1235
                          · rw [if_neg hc179] at hf
                            refine a_icmp_ne_t 1234 dL_law_979 (by decide) hc179 ?_
                            refine a_iconst (0 : Int32) dL_law_1234 rfl ?_
                            have hq := Option.some.inj hf
                            exact a_lend hq dL_law_1235
                        · rw [if_neg hc176] at hf
                          refine a_icmp_ne_t 1234 dL_law_964 (by decide) hc176 ?_
                          refine a_iconst (0 : Int32) dL_law_1234 rfl ?_
                          have hq := Option.some.inj hf
                          exact a_lend hq dL_law_1235
                      · rw [if_neg hc174] at hf
                        refine a_icmp_ne_t 1234 dL_law_952 (by decide) hc174 ?_
                        refine a_iconst (0 : Int32) dL_law_1234 rfl ?_
                        have hq := Option.some.inj hf
                        exact a_lend hq dL_law_1235
                    · rw [if_neg hc172] at hf
                      refine a_icmp_ne_t 1234 dL_law_942 (by decide) hc172 ?_
                      refine a_iconst (0 : Int32) dL_law_1234 rfl ?_
                      have hq := Option.some.inj hf
                      exact a_lend hq dL_law_1235
      · rw [if_neg hc8] at hf
        refine a_icmp_eq_f 82 dL_law_77 (by decide) hc8 ?_
        refine a_iconst (0 : Int32) dL_law_80 rfl ?_
        have hq := Option.some.inj hf
        exact a_lend hq dL_law_81
    · rw [if_neg hc6] at hf
      refine a_icmp_ne_t 80 dL_law_69 (by decide) hc6 ?_
      refine a_iconst (0 : Int32) dL_law_80 rfl ?_
      have hq := Option.some.inj hf
      exact a_lend hq dL_law_81
