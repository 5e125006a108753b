theorem bX9_in (p0 : Int64) (p2 : Int64) (p4 : Int64) : fX9_in p0 p2 p4 = 0 ∨ fX9_in p0 p2 p4 = 1 := by
  obtain ⟨z, hf⟩ : ∃ z, fX9_in p0 p2 p4 = z := ⟨_, rfl⟩
  rw [hf]
  unfold fX9_in at hf
  by_cases hc1 : (lg_cmp p0 p2) < 0
  · rw [if_pos hc1] at hf
    subst hf
    exact (Or.inl rfl)
  · rw [if_neg hc1] at hf
    by_cases hc2 : 0 < (lg_cmp p0 p4)
    · rw [if_pos hc2] at hf
      subst hf
      exact (Or.inl rfl)
    · rw [if_neg hc2] at hf
      subst hf
      exact (Or.inr rfl)
set_option maxHeartbeats 4000000 in
set_option maxRecDepth 100000 in
theorem kX9_in (e : Nat) (p0 : Int64) (p2 : Int64) (p4 : Int64) (σ : St)  : Sp e MX9_in [.long p0, .long p2, .long p4] σ (some (.int (fX9_in p0 p2 p4))) σ := by
  refine sp_of rfl (Nat.le_of_ble_eq_true rfl) (loc := [(0, .long p0), (2, .long p2), (4, .long p4)]) rfl ?_
  obtain ⟨z, hf⟩ : ∃ z, fX9_in p0 p2 p4 = z := ⟨_, rfl⟩
  rw [hf]
  unfold fX9_in at hf
  refine a_lload_n dX9_in_0 rfl 0 rfl ?_
  refine a_lload_n dX9_in_1 rfl 1 rfl ?_
  refine a_lcmp dX9_in_2 ?_
  by_cases hc1 : (lg_cmp p0 p2) < 0
  · rw [if_pos hc1] at hf
    refine a_if_lt_t 17 dX9_in_3 (by decide) hc1 ?_
    refine a_iconst (0 : Int32) dX9_in_17 rfl ?_
    subst hf
    exact a_zret rfl (Or.inl rfl) dX9_in_18
  · rw [if_neg hc1] at hf
    refine a_if_lt_f 17 dX9_in_3 (by decide) hc1 ?_
    refine a_lload_n dX9_in_6 rfl 0 rfl ?_
    refine a_lload dX9_in_7 2 rfl ?_
    refine a_lcmp dX9_in_9 ?_
    by_cases hc2 : 0 < (lg_cmp p0 p4)
    · rw [if_pos hc2] at hf
      refine a_if_gt_t 17 dX9_in_10 (by decide) hc2 ?_
      refine a_iconst (0 : Int32) dX9_in_17 rfl ?_
      subst hf
      exact a_zret rfl (Or.inl rfl) dX9_in_18
    · rw [if_neg hc2] at hf
      refine a_if_gt_f 17 dX9_in_10 (by decide) hc2 ?_
      refine a_iconst (1 : Int32) dX9_in_13 rfl ?_
      refine a_goto 18 dX9_in_14 (by decide) ?_
      subst hf
      exact a_zret rfl (Or.inr rfl) dX9_in_18
set_option maxHeartbeats 4000000 in
set_option maxRecDepth 100000 in
theorem kX9_letters_L11 (e : Nat) (c1 : Int64) (σ : St)  {r : Option Value} {τ : St} (q : (Int32 × Int32)) : ∀ (n : Nat) (v3 : Int32) (v4 : Int32) (v5 : Int64) (v7 : Int32), fX9_letters_L11 c1 σ n v3 v4 v5 v7 = some q → A e MX9_letters 83 [(0, .ref 58), (1, .long c1), (3, .int q.1), (4, .int q.2)] [] σ r τ → A e MX9_letters 11 [(0, .ref 58), (1, .long c1), (3, .int v3), (4, .int v4), (5, .long v5), (7, .int v7)] [] σ r τ := by
  intro n
  induction n with
  | zero =>
    intro v3 v4 v5 v7  hf
    simp only [fX9_letters_L11] at hf
    exact absurd hf (by simp)
  | succ n ih =>
    intro v3 v4 v5 v7  hf h2
    rw [fX9_letters_L11] at hf
    refine a_iload dX9_letters_11 5 rfl ?_
    refine a_bipush (8 : Int32) dX9_letters_13 rfl ?_
    by_cases hc1 : (8 : Int32) ≤ v7
    · rw [if_pos hc1] at hf
      refine a_icmp_ge_t 83 dX9_letters_15 (by decide) hc1 ?_
      have hq := Option.some.inj hf
      rw [← hq] at h2
      refine a_locs (loc' := [(0, .ref 58), (1, .long c1), (3, .int v3), (4, .int v4)]) [0, 1, 2, 3] rfl ?_
      exact h2
    · rw [if_neg hc1] at hf
      refine a_icmp_ge_f 83 dX9_letters_15 (by decide) hc1 ?_
      refine a_lload dX9_letters_18 4 rfl ?_
      refine a_ldc2 rfl kc_X9_93 dX9_letters_20 ?_
      refine a_land dX9_letters_23 ?_
      refine a_l2i dX9_letters_24 ?_
      obtain ⟨x2, hx2, hf⟩ := bnd_elim hf
      refine a_top (w := .int x2) (by rw [hx2]) ?_
      refine a_istore dX9_letters_25 (by decide) (loc' := [(8, .int x2), (0, .ref 58), (1, .long c1), (3, .int v3), (4, .int v4), (5, .long v5), (7, .int v7)]) rfl ?_
      refine a_lload dX9_letters_27 5 rfl ?_
      refine a_bipush (8 : Int32) dX9_letters_29 rfl ?_
      refine a_lushr dX9_letters_31 ?_
      refine a_lstore dX9_letters_32 (by decide) (loc' := [(5, .long (ushrL v5 (8 : Int32))), (8, .int x2), (0, .ref 58), (1, .long c1), (3, .int v3), (4, .int v4), (7, .int v7)]) rfl ?_
      refine a_iload dX9_letters_34 5 rfl ?_
      obtain ⟨x4, hx4, hf⟩ := bnd_elim hf
      have hA8 : A e MX9_letters 62 [(0, .ref 58), (1, .long c1), (3, .int v3), (5, .long (ushrL v5 (8 : Int32))), (7, .int v7), (8, .int x2)] [.int x4] σ r τ := by
        refine a_istore dX9_letters_62 (by decide) (loc' := [(4, .int x4), (0, .ref 58), (1, .long c1), (3, .int v3), (5, .long (ushrL v5 (8 : Int32))), (7, .int v7), (8, .int x2)]) rfl ?_
        refine a_iload_n dX9_letters_64 rfl 3 rfl ?_
        refine a_iload dX9_letters_65 6 rfl ?_
        obtain ⟨x6, hx6, hf⟩ := bnd_elim hf
        have hA7 : A e MX9_letters 75 [(0, .ref 58), (1, .long c1), (4, .int x4), (5, .long (ushrL v5 (8 : Int32))), (7, .int v7)] [.int x6, .int v3] σ r τ := by
          refine a_iadd dX9_letters_75 ?_
          refine a_istore_n dX9_letters_76 rfl (by decide) (loc' := [(3, .int (v3 + x6)), (0, .ref 58), (1, .long c1), (4, .int x4), (5, .long (ushrL v5 (8 : Int32))), (7, .int v7)]) rfl ?_
          refine a_iinc (v7 + (1 : Int32)) dX9_letters_77 5 rfl rfl (by decide) (loc' := [(7, .int (v7 + (1 : Int32))), (3, .int (v3 + x6)), (0, .ref 58), (1, .long c1), (4, .int x4), (5, .long (ushrL v5 (8 : Int32)))]) rfl ?_
          refine a_goto 11 dX9_letters_80 (by decide) ?_
          refine a_locs (loc' := [(0, .ref 58), (1, .long c1), (3, .int (v3 + x6)), (4, .int x4), (5, .long (ushrL v5 (8 : Int32))), (7, .int (v7 + (1 : Int32)))]) [2, 3, 1, 4, 5, 0] rfl ?_
          exact ih (v3 + x6) x4 (ushrL v5 (8 : Int32)) (v7 + (1 : Int32)) hf h2
        clear hf
        by_cases hc5 : x2 ≤ 0
        · rw [if_pos hc5] at hx6
          refine a_if_le_t 74 dX9_letters_67 (by decide) hc5 ?_
          refine a_iconst (0 : Int32) dX9_letters_74 rfl ?_
          replace hx6 := hx6.symm; subst hx6
          refine a_locs (loc' := [(0, .ref 58), (1, .long c1), (4, .int x4), (5, .long (ushrL v5 (8 : Int32))), (7, .int v7)]) [1, 2, 0, 4, 5] rfl ?_
          exact hA7
        · rw [if_neg hc5] at hx6
          refine a_if_le_f 74 dX9_letters_67 (by decide) hc5 ?_
          refine a_iconst (1 : Int32) dX9_letters_70 rfl ?_
          refine a_goto 75 dX9_letters_71 (by decide) ?_
          replace hx6 := hx6.symm; subst hx6
          refine a_locs (loc' := [(0, .ref 58), (1, .long c1), (4, .int x4), (5, .long (ushrL v5 (8 : Int32))), (7, .int v7)]) [1, 2, 0, 4, 5] rfl ?_
          exact hA7
      clear hf
      by_cases hc3 : v4 = 0
      · rw [if_pos hc3] at hx4
        refine a_if_eq_t 61 dX9_letters_36 (by decide) hc3 ?_
        refine a_iconst (0 : Int32) dX9_letters_61 rfl ?_
        replace hx4 := hx4.symm; subst hx4
        refine a_locs (loc' := [(0, .ref 58), (1, .long c1), (3, .int v3), (5, .long (ushrL v5 (8 : Int32))), (7, .int v7), (8, .int x2)]) [2, 3, 4, 0, 6, 1] rfl ?_
        exact hA8
      · rw [if_neg hc3] at hx4
        refine a_if_eq_f 61 dX9_letters_36 (by decide) hc3 ?_
        refine a_iload dX9_letters_39 1 rfl ?_
        refine a_bipush (126 : Int32) dX9_letters_41 rfl ?_
        by_cases hc9 : (126 : Int32) < x2
        · rw [if_pos hc9] at hx4
          refine a_icmp_gt_t 61 dX9_letters_43 (by decide) hc9 ?_
          refine a_iconst (0 : Int32) dX9_letters_61 rfl ?_
          replace hx4 := hx4.symm; subst hx4
          refine a_locs (loc' := [(0, .ref 58), (1, .long c1), (3, .int v3), (5, .long (ushrL v5 (8 : Int32))), (7, .int v7), (8, .int x2)]) [2, 3, 4, 0, 6, 1] rfl ?_
          exact hA8
        · rw [if_neg hc9] at hx4
          refine a_icmp_gt_f 61 dX9_letters_43 (by decide) hc9 ?_
          refine a_iload dX9_letters_46 1 rfl ?_
          by_cases hc10 : x2 = 0
          · rw [if_pos hc10] at hx4
            refine a_if_eq_t 57 dX9_letters_48 (by decide) hc10 ?_
            refine a_iconst (1 : Int32) dX9_letters_57 rfl ?_
            refine a_goto 62 dX9_letters_58 (by decide) ?_
            replace hx4 := hx4.symm; subst hx4
            refine a_locs (loc' := [(0, .ref 58), (1, .long c1), (3, .int v3), (5, .long (ushrL v5 (8 : Int32))), (7, .int v7), (8, .int x2)]) [2, 3, 4, 0, 6, 1] rfl ?_
            exact hA8
          · rw [if_neg hc10] at hx4
            refine a_if_eq_f 57 dX9_letters_48 (by decide) hc10 ?_
            refine a_iload_n dX9_letters_51 rfl 4 rfl ?_
            refine a_iload dX9_letters_52 6 rfl ?_
            by_cases hc11 : v3 = v7
            · rw [if_pos hc11] at hx4
              refine a_icmp_ne_f 61 dX9_letters_54 (by decide) hc11 ?_
              refine a_iconst (1 : Int32) dX9_letters_57 rfl ?_
              refine a_goto 62 dX9_letters_58 (by decide) ?_
              replace hx4 := hx4.symm; subst hx4
              refine a_locs (loc' := [(0, .ref 58), (1, .long c1), (3, .int v3), (5, .long (ushrL v5 (8 : Int32))), (7, .int v7), (8, .int x2)]) [2, 3, 4, 0, 6, 1] rfl ?_
              exact hA8
            · rw [if_neg hc11] at hx4
              refine a_icmp_ne_t 61 dX9_letters_54 (by decide) hc11 ?_
              refine a_iconst (0 : Int32) dX9_letters_61 rfl ?_
              replace hx4 := hx4.symm; subst hx4
              refine a_locs (loc' := [(0, .ref 58), (1, .long c1), (3, .int v3), (5, .long (ushrL v5 (8 : Int32))), (7, .int v7), (8, .int x2)]) [2, 3, 4, 0, 6, 1] rfl ?_
              exact hA8
set_option maxHeartbeats 4000000 in
set_option maxRecDepth 100000 in
theorem kX9_letters_L108 (e : Nat) (c1 : Int64) (c3 : Int32)   {r : Option Value} {τ : St} (q : (St)) : ∀ (n : Nat) (v7 : Int32) (σ : St), fX9_letters_L108 c1 c3 n v7 σ = some q → A e MX9_letters 151 [(0, .ref 58)] [] q r τ → A e MX9_letters 108 [(0, .ref 58), (1, .long c1), (3, .int c3), (7, .int v7)] [] σ r τ := by
  intro n
  induction n with
  | zero =>
    intro v7 σ  hf
    simp only [fX9_letters_L108] at hf
    exact absurd hf (by simp)
  | succ n ih =>
    intro v7 σ  hf h2
    rw [fX9_letters_L108] at hf
    refine a_iload dX9_letters_108 3 rfl ?_
    refine a_iload_n dX9_letters_110 rfl 2 rfl ?_
    by_cases hc15 : c3 ≤ v7
    · rw [if_pos hc15] at hf
      refine a_icmp_ge_t 151 dX9_letters_111 (by decide) hc15 ?_
      have hq := Option.some.inj hf
      rw [← hq] at h2
      refine a_locs (loc' := [(0, .ref 58)]) [0] rfl ?_
      exact h2
    · rw [if_neg hc15] at hf
      refine a_icmp_ge_f 151 dX9_letters_111 (by decide) hc15 ?_
      refine a_aload_n dX9_letters_114 rfl 0 rfl ?_
      refine a_get (.ref 59) ob_58 (by decide) fl_X9_7 rfl dX9_letters_115 ?_
      refine a_aload_n dX9_letters_118 rfl 0 rfl ?_
      refine a_get (.int (σ.1 58 1)) ob_58 (by decide) fl_X9_95 rfl dX9_letters_119 ?_
      refine a_lload_n dX9_letters_122 rfl 1 rfl ?_
      refine a_bipush (8 : Int32) dX9_letters_123 rfl ?_
      refine a_iload dX9_letters_125 3 rfl ?_
      refine a_imul dX9_letters_127 ?_
      refine a_lushr dX9_letters_128 ?_
      refine a_ldc2 rfl kc_X9_93 dX9_letters_129 ?_
      refine a_land dX9_letters_132 ?_
      refine a_l2i dX9_letters_133 ?_
      obtain ⟨hb16, hf⟩ := grd_elim hf
      refine a_iast ia_59 hb16 dX9_letters_134 ?_
      obtain ⟨σ17, hσ17, hf⟩ := bnd_elim hf
      rw [← hσ17]
      refine a_aload_n dX9_letters_135 rfl 0 rfl ?_
      refine a_dup rfl dX9_letters_136 ?_
      refine a_get (.int (σ17.1 58 1)) ob_58 (by decide) fl_X9_95 rfl dX9_letters_137 ?_
      refine a_iconst (1 : Int32) dX9_letters_140 rfl ?_
      refine a_iadd dX9_letters_141 ?_
      refine a_putI ob_58 (by decide) fp_X9_95 (Or.inl rfl) dX9_letters_142 ?_
      obtain ⟨σ18, hσ18, hf⟩ := bnd_elim hf
      rw [← hσ18]
      refine a_iinc (v7 + (1 : Int32)) dX9_letters_145 3 rfl rfl (by decide) (loc' := [(7, .int (v7 + (1 : Int32))), (0, .ref 58), (1, .long c1), (3, .int c3)]) rfl ?_
      refine a_goto 108 dX9_letters_148 (by decide) ?_
      refine a_locs (loc' := [(0, .ref 58), (1, .long c1), (3, .int c3), (7, .int (v7 + (1 : Int32)))]) [1, 2, 3, 0] rfl ?_
      exact ih (v7 + (1 : Int32)) σ18 hf h2
set_option maxHeartbeats 4000000 in
set_option maxRecDepth 100000 in
theorem kX9_letters (e : Nat) (p1 : Int64) (σ : St)  (q : Int32 × St) (hf : fX9_letters p1 σ = some q) : Sp e MX9_letters [.ref 58, .long p1] σ (some (.int q.1)) q.2 := by
  refine sp_of rfl (Nat.le_of_ble_eq_true rfl) (loc := [(0, .ref 58), (1, .long p1)]) rfl ?_
  unfold fX9_letters at hf
  refine a_iconst (0 : Int32) dX9_letters_0 rfl ?_
  refine a_istore_n dX9_letters_1 rfl (by decide) (loc' := [(3, .int (0 : Int32)), (0, .ref 58), (1, .long p1)]) rfl ?_
  refine a_iconst (1 : Int32) dX9_letters_2 rfl ?_
  refine a_istore dX9_letters_3 (by decide) (loc' := [(4, .int (1 : Int32)), (3, .int (0 : Int32)), (0, .ref 58), (1, .long p1)]) rfl ?_
  refine a_lload_n dX9_letters_5 rfl 3 rfl ?_
  refine a_lstore dX9_letters_6 (by decide) (loc' := [(5, .long p1), (4, .int (1 : Int32)), (3, .int (0 : Int32)), (0, .ref 58), (1, .long p1)]) rfl ?_
  refine a_iconst (0 : Int32) dX9_letters_8 rfl ?_
  refine a_istore dX9_letters_9 (by decide) (loc' := [(7, .int (0 : Int32)), (5, .long p1), (4, .int (1 : Int32)), (3, .int (0 : Int32)), (0, .ref 58), (1, .long p1)]) rfl ?_
  obtain ⟨q12, hr22, hf⟩ := obind hf
  have hA23 : A e MX9_letters 83 [(0, .ref 58), (1, .long p1), (3, .int q12.1), (4, .int q12.2)] [] σ (some (.int q.1)) q.2 := by
    refine a_iload dX9_letters_83 3 rfl ?_
    by_cases hc13 : q12.2 = 0
    · rw [if_pos hc13] at hf
      refine a_if_ne_f 91 dX9_letters_85 (by decide) hc13 ?_
      refine a_bipush (-102 : Int32) dX9_letters_88 rfl ?_
      have hq := Option.some.inj hf
      subst hq
      exact a_iret rfl dX9_letters_90
    · rw [if_neg hc13] at hf
      refine a_if_ne_t 91 dX9_letters_85 (by decide) hc13 ?_
      refine a_aload_n dX9_letters_91 rfl 0 rfl ?_
      refine a_get (.int (σ.1 58 1)) ob_58 (by decide) fl_X9_95 rfl dX9_letters_92 ?_
      refine a_iload_n dX9_letters_95 rfl 2 rfl ?_
      refine a_iadd dX9_letters_96 ?_
      refine a_bipush (16 : Int32) dX9_letters_97 rfl ?_
      by_cases hc14 : ((σ.1 58 1) + q12.1) ≤ (16 : Int32)
      · rw [if_pos hc14] at hf
        refine a_icmp_le_t 105 dX9_letters_99 (by decide) hc14 ?_
        refine a_iconst (0 : Int32) dX9_letters_105 rfl ?_
        refine a_istore dX9_letters_106 (by decide) (loc' := [(7, .int (0 : Int32)), (0, .ref 58), (1, .long p1), (3, .int q12.1), (4, .int q12.2)]) rfl ?_
        obtain ⟨q19, hr20, hf⟩ := obind hf
        have hA21 : A e MX9_letters 151 [(0, .ref 58)] [] q19 (some (.int q.1)) q.2 := by
          refine a_aload_n dX9_letters_151 rfl 0 rfl ?_
          refine a_get (.int (q19.1 58 1)) ob_58 (by decide) fl_X9_95 rfl dX9_letters_152 ?_
          have hq := Option.some.inj hf
          subst hq
          exact a_iret rfl dX9_letters_155
        refine a_locs (loc' := [(0, .ref 58), (1, .long p1), (3, .int q12.1), (7, .int (0 : Int32))]) [1, 2, 3, 0] rfl ?_
        exact kX9_letters_L108 e p1 q12.1 q19 fu (0 : Int32) σ hr20 hA21
      · rw [if_neg hc14] at hf
        refine a_icmp_le_f 105 dX9_letters_99 (by decide) hc14 ?_
        refine a_bipush (-104 : Int32) dX9_letters_102 rfl ?_
        have hq := Option.some.inj hf
        subst hq
        exact a_iret rfl dX9_letters_104
  refine a_locs (loc' := [(0, .ref 58), (1, .long p1), (3, .int (0 : Int32)), (4, .int (1 : Int32)), (5, .long p1), (7, .int (0 : Int32))]) [4, 5, 3, 2, 1, 0] rfl ?_
  exact kX9_letters_L11 e p1 σ q12 fu (0 : Int32) (1 : Int32) p1 (0 : Int32) hr22 hA23
set_option maxHeartbeats 4000000 in
set_option maxRecDepth 100000 in
theorem kX9_blank (e : Nat)  (σ : St)  (q : Int32 × St) (hf : fX9_blank σ = some q) : Sp e MX9_blank [.ref 58] σ (some (.int q.1)) q.2 := by
  refine sp_of rfl (Nat.le_of_ble_eq_true rfl) (loc := [(0, .ref 58)]) rfl ?_
  unfold fX9_blank at hf
  refine a_aload_n dX9_blank_0 rfl 0 rfl ?_
  refine a_get (.int (σ.1 58 1)) ob_58 (by decide) fl_X9_95 rfl dX9_blank_1 ?_
  refine a_istore_n dX9_blank_4 rfl (by decide) (loc' := [(1, .int (σ.1 58 1)), (0, .ref 58)]) rfl ?_
  refine a_aload_n dX9_blank_5 rfl 1 rfl ?_
  refine a_iconst (0 : Int32) dX9_blank_6 rfl ?_
  refine a_putI ob_58 (by decide) fp_X9_95 (Or.inl rfl) dX9_blank_7 ?_
  obtain ⟨σ1, hσ1, hf⟩ := bnd_elim hf
  rw [← hσ1]
  refine a_iload_n dX9_blank_10 rfl 0 rfl ?_
  have hq := Option.some.inj hf
  subst hq
  exact a_iret rfl dX9_blank_11
theorem bX9_go (p1 : Int32) (σ : St) (q : Int32 × St) (hf : fX9_go p1 σ = some q) : q.1 = 0 ∨ q.1 = 1 := by
  unfold fX9_go at hf
  by_cases hc1 : (σ.1 58 7) = (1 : Int32)
  · rw [if_pos hc1] at hf
    obtain ⟨σ2, hσ2, hf⟩ := bnd_elim hf
    obtain ⟨σ3, hσ3, hf⟩ := bnd_elim hf
    have hq := Option.some.inj hf
    subst hq
    exact (bX9_in p1.toInt64 (49 : Int64) (51 : Int64))
  · rw [if_neg hc1] at hf
    by_cases hc4 : (σ.1 58 7) = (5 : Int32)
    · rw [if_pos hc4] at hf
      obtain ⟨σ5, hσ5, hf⟩ := bnd_elim hf
      obtain ⟨σ6, hσ6, hf⟩ := bnd_elim hf
      have hq := Option.some.inj hf
      subst hq
      exact (bX9_in p1.toInt64 (49 : Int64) (57 : Int64))
    · rw [if_neg hc4] at hf
      obtain ⟨x8, hx8, hf⟩ := bnd_elim hf
      obtain ⟨x10, hx10, hf⟩ := bnd_elim hf
      obtain ⟨σ11, hσ11, hf⟩ := bnd_elim hf
      obtain ⟨x13, hx13, hf⟩ := bnd_elim hf
      obtain ⟨σ14, hσ14, hf⟩ := bnd_elim hf
      obtain ⟨x16, hx16, hf⟩ := bnd_elim hf
      obtain ⟨σ17, hσ17, hf⟩ := bnd_elim hf
      have hq := Option.some.inj hf
      subst hq
      exact (by rw [hx8]; exact (ite01 (ite01 (Or.inr rfl) (ite01 (ite01 (Or.inr rfl) (ite01 (ite01 (Or.inr rfl) (ite01 (ite01 (Or.inl rfl) (Or.inr rfl)) (Or.inl rfl))) (ite01 (ite01 (Or.inl rfl) (Or.inr rfl)) (Or.inl rfl)))) (ite01 (ite01 (Or.inr rfl) (ite01 (ite01 (Or.inl rfl) (Or.inr rfl)) (Or.inl rfl))) (ite01 (ite01 (Or.inl rfl) (Or.inr rfl)) (Or.inl rfl))))) (ite01 (ite01 (Or.inr rfl) (ite01 (ite01 (Or.inr rfl) (ite01 (ite01 (Or.inl rfl) (Or.inr rfl)) (Or.inl rfl))) (ite01 (ite01 (Or.inl rfl) (Or.inr rfl)) (Or.inl rfl)))) (ite01 (ite01 (Or.inr rfl) (ite01 (ite01 (Or.inl rfl) (Or.inr rfl)) (Or.inl rfl))) (ite01 (ite01 (Or.inl rfl) (Or.inr rfl)) (Or.inl rfl))))))
set_option maxHeartbeats 4000000 in
set_option maxRecDepth 100000 in
theorem kX9_go (e : Nat) (p1 : Int32) (σ : St)  (q : Int32 × St) (hf : fX9_go p1 σ = some q) : Sp (e + 1) MX9_go [.ref 58, .int p1] σ (some (.int q.1)) q.2 := by
  refine sp_of rfl (Nat.le_of_ble_eq_true rfl) (loc := [(0, .ref 58), (1, .int p1)]) rfl ?_
  unfold fX9_go at hf
  refine a_aload_n dX9_go_0 rfl 0 rfl ?_
  refine a_get (.int (σ.1 58 7)) ob_58 (by decide) fl_X9_98 rfl dX9_go_1 ?_
  refine a_iconst (1 : Int32) dX9_go_4 rfl ?_
  by_cases hc1 : (σ.1 58 7) = (1 : Int32)
  · rw [if_pos hc1] at hf
    refine a_icmp_ne_f 33 dX9_go_5 (by decide) hc1 ?_
    refine a_aload_n dX9_go_8 rfl 0 rfl ?_
    refine a_iload_n dX9_go_9 rfl 1 rfl ?_
    refine a_bipush (48 : Int32) dX9_go_10 rfl ?_
    refine a_isub dX9_go_12 ?_
    refine a_putI ob_58 (by decide) fp_X9_101 (Or.inl rfl) dX9_go_13 ?_
    obtain ⟨σ2, hσ2, hf⟩ := bnd_elim hf
    rw [← hσ2]
    refine a_aload_n dX9_go_16 rfl 0 rfl ?_
    refine a_iconst (2 : Int32) dX9_go_17 rfl ?_
    refine a_putI ob_58 (by decide) fp_X9_98 (Or.inl rfl) dX9_go_18 ?_
    obtain ⟨σ3, hσ3, hf⟩ := bnd_elim hf
    rw [← hσ3]
    refine a_iload_n dX9_go_21 rfl 1 rfl ?_
    refine a_i2l dX9_go_22 ?_
    refine a_ldc2 rfl kc_X9_104 dX9_go_23 ?_
    refine a_ldc2 rfl kc_X9_106 dX9_go_26 ?_
    refine a_callS (as := [.long p1.toInt64, .long (49 : Int64), .long (51 : Int64)]) (stk := []) (q := some (.int (fX9_in p1.toInt64 (49 : Int64) (51 : Int64)))) (σ1 := σ3) (kX9_in e p1.toInt64 (49 : Int64) (51 : Int64) σ3) sl_X9_108 rfl (Nat.le_of_ble_eq_true rfl) dX9_go_29 ?_
    have hq := Option.some.inj hf
    subst hq
    exact a_zret rfl (bX9_in p1.toInt64 (49 : Int64) (51 : Int64)) dX9_go_32
  · rw [if_neg hc1] at hf
    refine a_icmp_ne_t 33 dX9_go_5 (by decide) hc1 ?_
    refine a_aload_n dX9_go_33 rfl 0 rfl ?_
    refine a_get (.int (σ.1 58 7)) ob_58 (by decide) fl_X9_98 rfl dX9_go_34 ?_
    refine a_iconst (5 : Int32) dX9_go_37 rfl ?_
    by_cases hc4 : (σ.1 58 7) = (5 : Int32)
    · rw [if_pos hc4] at hf
      refine a_icmp_ne_f 67 dX9_go_38 (by decide) hc4 ?_
      refine a_aload_n dX9_go_41 rfl 0 rfl ?_
      refine a_iload_n dX9_go_42 rfl 1 rfl ?_
      refine a_bipush (48 : Int32) dX9_go_43 rfl ?_
      refine a_isub dX9_go_45 ?_
      refine a_putI ob_58 (by decide) fp_X9_112 (Or.inl rfl) dX9_go_46 ?_
      obtain ⟨σ5, hσ5, hf⟩ := bnd_elim hf
      rw [← hσ5]
      refine a_aload_n dX9_go_49 rfl 0 rfl ?_
      refine a_bipush (6 : Int32) dX9_go_50 rfl ?_
      refine a_putI ob_58 (by decide) fp_X9_98 (Or.inl rfl) dX9_go_52 ?_
      obtain ⟨σ6, hσ6, hf⟩ := bnd_elim hf
      rw [← hσ6]
      refine a_iload_n dX9_go_55 rfl 1 rfl ?_
      refine a_i2l dX9_go_56 ?_
      refine a_ldc2 rfl kc_X9_104 dX9_go_57 ?_
      refine a_ldc2 rfl kc_X9_115 dX9_go_60 ?_
      refine a_callS (as := [.long p1.toInt64, .long (49 : Int64), .long (57 : Int64)]) (stk := []) (q := some (.int (fX9_in p1.toInt64 (49 : Int64) (57 : Int64)))) (σ1 := σ6) (kX9_in e p1.toInt64 (49 : Int64) (57 : Int64) σ6) sl_X9_108 rfl (Nat.le_of_ble_eq_true rfl) dX9_go_63 ?_
      have hq := Option.some.inj hf
      subst hq
      exact a_zret rfl (bX9_in p1.toInt64 (49 : Int64) (57 : Int64)) dX9_go_66
    · rw [if_neg hc4] at hf
      refine a_icmp_ne_t 67 dX9_go_38 (by decide) hc4 ?_
      refine a_iload_n dX9_go_67 rfl 1 rfl ?_
      refine a_bipush (107 : Int32) dX9_go_68 rfl ?_
      obtain ⟨x8, hx8, hf⟩ := bnd_elim hf
      have hA23 : A (e + 1) MX9_go 127 [(0, .ref 58), (1, .int p1)] [.int x8] σ (some (.int q.1)) q.2 := by
        refine a_istore_n dX9_go_127 rfl (by decide) (loc' := [(2, .int x8), (0, .ref 58), (1, .int p1)]) rfl ?_
        refine a_aload_n dX9_go_128 rfl 1 rfl ?_
        refine a_iload_n dX9_go_129 rfl 2 rfl ?_
        refine a_bipush (98 : Int32) dX9_go_130 rfl ?_
        obtain ⟨x10, hx10, hf⟩ := bnd_elim hf
        have hA22 : A (e + 1) MX9_go 143 [(0, .ref 58), (1, .int p1), (2, .int x8)] [.int x10, .ref 58] σ (some (.int q.1)) q.2 := by
          refine a_putI ob_58 (by decide) fp_X9_117 (Or.inl rfl) dX9_go_143 ?_
          obtain ⟨σ11, hσ11, hf⟩ := bnd_elim hf
          rw [← hσ11]
          refine a_aload_n dX9_go_146 rfl 0 rfl ?_
          refine a_iload_n dX9_go_147 rfl 1 rfl ?_
          refine a_bipush (111 : Int32) dX9_go_148 rfl ?_
          obtain ⟨x13, hx13, hf⟩ := bnd_elim hf
          have hA21 : A (e + 1) MX9_go 161 [(0, .ref 58), (1, .int p1), (2, .int x8)] [.int x13, .ref 58] σ11 (some (.int q.1)) q.2 := by
            refine a_putI ob_58 (by decide) fp_X9_120 (Or.inl rfl) dX9_go_161 ?_
            obtain ⟨σ14, hσ14, hf⟩ := bnd_elim hf
            rw [← hσ14]
            refine a_aload_n dX9_go_164 rfl 0 rfl ?_
            refine a_iload_n dX9_go_165 rfl 1 rfl ?_
            refine a_bipush (107 : Int32) dX9_go_166 rfl ?_
            obtain ⟨x16, hx16, hf⟩ := bnd_elim hf
            have hA18 : A (e + 1) MX9_go 196 [(2, .int x8)] [.int x16, .ref 58] σ14 (some (.int q.1)) q.2 := by
              refine a_putI ob_58 (by decide) fp_X9_98 (Or.inl rfl) dX9_go_196 ?_
              obtain ⟨σ17, hσ17, hf⟩ := bnd_elim hf
              rw [← hσ17]
              refine a_iload_n dX9_go_199 rfl 0 rfl ?_
              have hq := Option.some.inj hf
              subst hq
              exact a_zret rfl (by rw [hx8]; exact (ite01 (ite01 (Or.inr rfl) (ite01 (ite01 (Or.inr rfl) (ite01 (ite01 (Or.inr rfl) (ite01 (ite01 (Or.inl rfl) (Or.inr rfl)) (Or.inl rfl))) (ite01 (ite01 (Or.inl rfl) (Or.inr rfl)) (Or.inl rfl)))) (ite01 (ite01 (Or.inr rfl) (ite01 (ite01 (Or.inl rfl) (Or.inr rfl)) (Or.inl rfl))) (ite01 (ite01 (Or.inl rfl) (Or.inr rfl)) (Or.inl rfl))))) (ite01 (ite01 (Or.inr rfl) (ite01 (ite01 (Or.inr rfl) (ite01 (ite01 (Or.inl rfl) (Or.inr rfl)) (Or.inl rfl))) (ite01 (ite01 (Or.inl rfl) (Or.inr rfl)) (Or.inl rfl)))) (ite01 (ite01 (Or.inr rfl) (ite01 (ite01 (Or.inl rfl) (Or.inr rfl)) (Or.inl rfl))) (ite01 (ite01 (Or.inl rfl) (Or.inr rfl)) (Or.inl rfl)))))) dX9_go_200
            clear hf
            by_cases hc15 : p1 = (107 : Int32)
            · rw [if_pos hc15] at hx16
              refine a_icmp_ne_f 175 dX9_go_168 (by decide) hc15 ?_
              refine a_iconst (1 : Int32) dX9_go_171 rfl ?_
              refine a_goto 196 dX9_go_172 (by decide) ?_
              replace hx16 := hx16.symm; subst hx16
              refine a_locs (loc' := [(2, .int x8)]) [2] rfl ?_
              exact hA18
            · rw [if_neg hc15] at hx16
              refine a_icmp_ne_t 175 dX9_go_168 (by decide) hc15 ?_
              refine a_iload_n dX9_go_175 rfl 1 rfl ?_
              refine a_bipush (98 : Int32) dX9_go_176 rfl ?_
              by_cases hc19 : p1 = (98 : Int32)
              · rw [if_pos hc19] at hx16
                refine a_icmp_ne_f 185 dX9_go_178 (by decide) hc19 ?_
                refine a_iconst (3 : Int32) dX9_go_181 rfl ?_
                refine a_goto 196 dX9_go_182 (by decide) ?_
                replace hx16 := hx16.symm; subst hx16
                refine a_locs (loc' := [(2, .int x8)]) [2] rfl ?_
                exact hA18
              · rw [if_neg hc19] at hx16
                refine a_icmp_ne_t 185 dX9_go_178 (by decide) hc19 ?_
                refine a_iload_n dX9_go_185 rfl 1 rfl ?_
                refine a_bipush (111 : Int32) dX9_go_186 rfl ?_
                by_cases hc20 : p1 = (111 : Int32)
                · rw [if_pos hc20] at hx16
                  refine a_icmp_ne_f 195 dX9_go_188 (by decide) hc20 ?_
                  refine a_iconst (4 : Int32) dX9_go_191 rfl ?_
                  refine a_goto 196 dX9_go_192 (by decide) ?_
                  replace hx16 := hx16.symm; subst hx16
                  refine a_locs (loc' := [(2, .int x8)]) [2] rfl ?_
                  exact hA18
                · rw [if_neg hc20] at hx16
                  refine a_icmp_ne_t 195 dX9_go_188 (by decide) hc20 ?_
                  refine a_iconst (5 : Int32) dX9_go_195 rfl ?_
                  replace hx16 := hx16.symm; subst hx16
                  refine a_locs (loc' := [(2, .int x8)]) [2] rfl ?_
                  exact hA18
          clear hf
          by_cases hc12 : p1 = (111 : Int32)
          · rw [if_pos hc12] at hx13
            refine a_icmp_ne_f 157 dX9_go_150 (by decide) hc12 ?_
            refine a_iconst (1 : Int32) dX9_go_153 rfl ?_
            refine a_goto 161 dX9_go_154 (by decide) ?_
            replace hx13 := hx13.symm; subst hx13
            exact hA21
          · rw [if_neg hc12] at hx13
            refine a_icmp_ne_t 157 dX9_go_150 (by decide) hc12 ?_
            refine a_aload_n dX9_go_157 rfl 0 rfl ?_
            refine a_get (.int (σ11.1 58 10)) ob_58 (by decide) fl_X9_120 rfl dX9_go_158 ?_
            replace hx13 := hx13.symm; subst hx13
            exact hA21
        clear hf
        by_cases hc9 : p1 = (98 : Int32)
        · rw [if_pos hc9] at hx10
          refine a_icmp_ne_f 139 dX9_go_132 (by decide) hc9 ?_
          refine a_iconst (1 : Int32) dX9_go_135 rfl ?_
          refine a_goto 143 dX9_go_136 (by decide) ?_
          replace hx10 := hx10.symm; subst hx10
          refine a_locs (loc' := [(0, .ref 58), (1, .int p1), (2, .int x8)]) [1, 2, 0] rfl ?_
          exact hA22
        · rw [if_neg hc9] at hx10
          refine a_icmp_ne_t 139 dX9_go_132 (by decide) hc9 ?_
          refine a_aload_n dX9_go_139 rfl 1 rfl ?_
          refine a_get (.int (σ.1 58 9)) ob_58 (by decide) fl_X9_117 rfl dX9_go_140 ?_
          replace hx10 := hx10.symm; subst hx10
          refine a_locs (loc' := [(0, .ref 58), (1, .int p1), (2, .int x8)]) [1, 2, 0] rfl ?_
          exact hA22
      clear hf
      by_cases hc7 : p1 = (107 : Int32)
      · rw [if_pos hc7] at hx8
        refine a_icmp_ne_f 80 dX9_go_70 (by decide) hc7 ?_
        refine a_aload_n dX9_go_73 rfl 0 rfl ?_
        refine a_get (.int (σ.1 58 7)) ob_58 (by decide) fl_X9_98 rfl dX9_go_74 ?_
        by_cases hc24 : (σ.1 58 7) = 0
        · rw [if_pos hc24] at hx8
          refine a_if_eq_t 122 dX9_go_77 (by decide) hc24 ?_
          refine a_iconst (1 : Int32) dX9_go_122 rfl ?_
          refine a_goto 127 dX9_go_123 (by decide) ?_
          replace hx8 := hx8.symm; subst hx8
          exact hA23
        · rw [if_neg hc24] at hx8
          refine a_if_eq_f 122 dX9_go_77 (by decide) hc24 ?_
          refine a_iload_n dX9_go_80 rfl 1 rfl ?_
          refine a_bipush (98 : Int32) dX9_go_81 rfl ?_
          by_cases hc25 : p1 = (98 : Int32)
          · rw [if_pos hc25] at hx8
            refine a_icmp_ne_f 94 dX9_go_83 (by decide) hc25 ?_
            refine a_aload_n dX9_go_86 rfl 0 rfl ?_
            refine a_get (.int (σ.1 58 7)) ob_58 (by decide) fl_X9_98 rfl dX9_go_87 ?_
            refine a_iconst (3 : Int32) dX9_go_90 rfl ?_
            by_cases hc26 : (σ.1 58 7) < (3 : Int32)
            · rw [if_pos hc26] at hx8
              refine a_icmp_lt_t 122 dX9_go_91 (by decide) hc26 ?_
              refine a_iconst (1 : Int32) dX9_go_122 rfl ?_
              refine a_goto 127 dX9_go_123 (by decide) ?_
              replace hx8 := hx8.symm; subst hx8
              exact hA23
            · rw [if_neg hc26] at hx8
              refine a_icmp_lt_f 122 dX9_go_91 (by decide) hc26 ?_
              refine a_iload_n dX9_go_94 rfl 1 rfl ?_
              refine a_bipush (111 : Int32) dX9_go_95 rfl ?_
              by_cases hc27 : p1 = (111 : Int32)
              · rw [if_pos hc27] at hx8
                refine a_icmp_ne_f 108 dX9_go_97 (by decide) hc27 ?_
                refine a_aload_n dX9_go_100 rfl 0 rfl ?_
                refine a_get (.int (σ.1 58 7)) ob_58 (by decide) fl_X9_98 rfl dX9_go_101 ?_
                refine a_iconst (4 : Int32) dX9_go_104 rfl ?_
                by_cases hc28 : (σ.1 58 7) < (4 : Int32)
                · rw [if_pos hc28] at hx8
                  refine a_icmp_lt_t 122 dX9_go_105 (by decide) hc28 ?_
                  refine a_iconst (1 : Int32) dX9_go_122 rfl ?_
                  refine a_goto 127 dX9_go_123 (by decide) ?_
                  replace hx8 := hx8.symm; subst hx8
                  exact hA23
                · rw [if_neg hc28] at hx8
                  refine a_icmp_lt_f 122 dX9_go_105 (by decide) hc28 ?_
                  refine a_iload_n dX9_go_108 rfl 1 rfl ?_
                  refine a_bipush (119 : Int32) dX9_go_109 rfl ?_
                  by_cases hc29 : p1 = (119 : Int32)
                  · rw [if_pos hc29] at hx8
                    refine a_icmp_ne_f 126 dX9_go_111 (by decide) hc29 ?_
                    refine a_aload_n dX9_go_114 rfl 0 rfl ?_
                    refine a_get (.int (σ.1 58 7)) ob_58 (by decide) fl_X9_98 rfl dX9_go_115 ?_
                    refine a_iconst (5 : Int32) dX9_go_118 rfl ?_
                    by_cases hc30 : (5 : Int32) ≤ (σ.1 58 7)
                    · rw [if_pos hc30] at hx8
                      refine a_icmp_ge_t 126 dX9_go_119 (by decide) hc30 ?_
                      refine a_iconst (0 : Int32) dX9_go_126 rfl ?_
                      replace hx8 := hx8.symm; subst hx8
                      exact hA23
                    · rw [if_neg hc30] at hx8
                      refine a_icmp_ge_f 126 dX9_go_119 (by decide) hc30 ?_
                      refine a_iconst (1 : Int32) dX9_go_122 rfl ?_
                      refine a_goto 127 dX9_go_123 (by decide) ?_
                      replace hx8 := hx8.symm; subst hx8
                      exact hA23
                  · rw [if_neg hc29] at hx8
                    refine a_icmp_ne_t 126 dX9_go_111 (by decide) hc29 ?_
                    refine a_iconst (0 : Int32) dX9_go_126 rfl ?_
                    replace hx8 := hx8.symm; subst hx8
                    exact hA23
              · rw [if_neg hc27] at hx8
                refine a_icmp_ne_t 108 dX9_go_97 (by decide) hc27 ?_
                refine a_iload_n dX9_go_108 rfl 1 rfl ?_
                refine a_bipush (119 : Int32) dX9_go_109 rfl ?_
                by_cases hc31 : p1 = (119 : Int32)
                · rw [if_pos hc31] at hx8
                  refine a_icmp_ne_f 126 dX9_go_111 (by decide) hc31 ?_
                  refine a_aload_n dX9_go_114 rfl 0 rfl ?_
                  refine a_get (.int (σ.1 58 7)) ob_58 (by decide) fl_X9_98 rfl dX9_go_115 ?_
                  refine a_iconst (5 : Int32) dX9_go_118 rfl ?_
                  by_cases hc32 : (5 : Int32) ≤ (σ.1 58 7)
                  · rw [if_pos hc32] at hx8
                    refine a_icmp_ge_t 126 dX9_go_119 (by decide) hc32 ?_
                    refine a_iconst (0 : Int32) dX9_go_126 rfl ?_
                    replace hx8 := hx8.symm; subst hx8
                    exact hA23
                  · rw [if_neg hc32] at hx8
                    refine a_icmp_ge_f 126 dX9_go_119 (by decide) hc32 ?_
                    refine a_iconst (1 : Int32) dX9_go_122 rfl ?_
                    refine a_goto 127 dX9_go_123 (by decide) ?_
                    replace hx8 := hx8.symm; subst hx8
                    exact hA23
                · rw [if_neg hc31] at hx8
                  refine a_icmp_ne_t 126 dX9_go_111 (by decide) hc31 ?_
                  refine a_iconst (0 : Int32) dX9_go_126 rfl ?_
                  replace hx8 := hx8.symm; subst hx8
                  exact hA23
          · rw [if_neg hc25] at hx8
            refine a_icmp_ne_t 94 dX9_go_83 (by decide) hc25 ?_
            refine a_iload_n dX9_go_94 rfl 1 rfl ?_
            refine a_bipush (111 : Int32) dX9_go_95 rfl ?_
            by_cases hc33 : p1 = (111 : Int32)
            · rw [if_pos hc33] at hx8
              refine a_icmp_ne_f 108 dX9_go_97 (by decide) hc33 ?_
              refine a_aload_n dX9_go_100 rfl 0 rfl ?_
              refine a_get (.int (σ.1 58 7)) ob_58 (by decide) fl_X9_98 rfl dX9_go_101 ?_
              refine a_iconst (4 : Int32) dX9_go_104 rfl ?_
              by_cases hc34 : (σ.1 58 7) < (4 : Int32)
              · rw [if_pos hc34] at hx8
                refine a_icmp_lt_t 122 dX9_go_105 (by decide) hc34 ?_
                refine a_iconst (1 : Int32) dX9_go_122 rfl ?_
                refine a_goto 127 dX9_go_123 (by decide) ?_
                replace hx8 := hx8.symm; subst hx8
                exact hA23
              · rw [if_neg hc34] at hx8
                refine a_icmp_lt_f 122 dX9_go_105 (by decide) hc34 ?_
                refine a_iload_n dX9_go_108 rfl 1 rfl ?_
                refine a_bipush (119 : Int32) dX9_go_109 rfl ?_
                by_cases hc35 : p1 = (119 : Int32)
                · rw [if_pos hc35] at hx8
                  refine a_icmp_ne_f 126 dX9_go_111 (by decide) hc35 ?_
                  refine a_aload_n dX9_go_114 rfl 0 rfl ?_
                  refine a_get (.int (σ.1 58 7)) ob_58 (by decide) fl_X9_98 rfl dX9_go_115 ?_
                  refine a_iconst (5 : Int32) dX9_go_118 rfl ?_
                  by_cases hc36 : (5 : Int32) ≤ (σ.1 58 7)
                  · rw [if_pos hc36] at hx8
                    refine a_icmp_ge_t 126 dX9_go_119 (by decide) hc36 ?_
                    refine a_iconst (0 : Int32) dX9_go_126 rfl ?_
                    replace hx8 := hx8.symm; subst hx8
                    exact hA23
                  · rw [if_neg hc36] at hx8
                    refine a_icmp_ge_f 126 dX9_go_119 (by decide) hc36 ?_
                    refine a_iconst (1 : Int32) dX9_go_122 rfl ?_
                    refine a_goto 127 dX9_go_123 (by decide) ?_
                    replace hx8 := hx8.symm; subst hx8
                    exact hA23
                · rw [if_neg hc35] at hx8
                  refine a_icmp_ne_t 126 dX9_go_111 (by decide) hc35 ?_
                  refine a_iconst (0 : Int32) dX9_go_126 rfl ?_
                  replace hx8 := hx8.symm; subst hx8
                  exact hA23
            · rw [if_neg hc33] at hx8
              refine a_icmp_ne_t 108 dX9_go_97 (by decide) hc33 ?_
              refine a_iload_n dX9_go_108 rfl 1 rfl ?_
              refine a_bipush (119 : Int32) dX9_go_109 rfl ?_
              by_cases hc37 : p1 = (119 : Int32)
              · rw [if_pos hc37] at hx8
                refine a_icmp_ne_f 126 dX9_go_111 (by decide) hc37 ?_
                refine a_aload_n dX9_go_114 rfl 0 rfl ?_
                refine a_get (.int (σ.1 58 7)) ob_58 (by decide) fl_X9_98 rfl dX9_go_115 ?_
                refine a_iconst (5 : Int32) dX9_go_118 rfl ?_
                by_cases hc38 : (5 : Int32) ≤ (σ.1 58 7)
                · rw [if_pos hc38] at hx8
                  refine a_icmp_ge_t 126 dX9_go_119 (by decide) hc38 ?_
                  refine a_iconst (0 : Int32) dX9_go_126 rfl ?_
                  replace hx8 := hx8.symm; subst hx8
                  exact hA23
                · rw [if_neg hc38] at hx8
                  refine a_icmp_ge_f 126 dX9_go_119 (by decide) hc38 ?_
                  refine a_iconst (1 : Int32) dX9_go_122 rfl ?_
                  refine a_goto 127 dX9_go_123 (by decide) ?_
                  replace hx8 := hx8.symm; subst hx8
                  exact hA23
              · rw [if_neg hc37] at hx8
                refine a_icmp_ne_t 126 dX9_go_111 (by decide) hc37 ?_
                refine a_iconst (0 : Int32) dX9_go_126 rfl ?_
                replace hx8 := hx8.symm; subst hx8
                exact hA23
      · rw [if_neg hc7] at hx8
        refine a_icmp_ne_t 80 dX9_go_70 (by decide) hc7 ?_
        refine a_iload_n dX9_go_80 rfl 1 rfl ?_
        refine a_bipush (98 : Int32) dX9_go_81 rfl ?_
        by_cases hc39 : p1 = (98 : Int32)
        · rw [if_pos hc39] at hx8
          refine a_icmp_ne_f 94 dX9_go_83 (by decide) hc39 ?_
          refine a_aload_n dX9_go_86 rfl 0 rfl ?_
          refine a_get (.int (σ.1 58 7)) ob_58 (by decide) fl_X9_98 rfl dX9_go_87 ?_
          refine a_iconst (3 : Int32) dX9_go_90 rfl ?_
          by_cases hc40 : (σ.1 58 7) < (3 : Int32)
          · rw [if_pos hc40] at hx8
            refine a_icmp_lt_t 122 dX9_go_91 (by decide) hc40 ?_
            refine a_iconst (1 : Int32) dX9_go_122 rfl ?_
            refine a_goto 127 dX9_go_123 (by decide) ?_
            replace hx8 := hx8.symm; subst hx8
            exact hA23
          · rw [if_neg hc40] at hx8
            refine a_icmp_lt_f 122 dX9_go_91 (by decide) hc40 ?_
            refine a_iload_n dX9_go_94 rfl 1 rfl ?_
            refine a_bipush (111 : Int32) dX9_go_95 rfl ?_
            by_cases hc41 : p1 = (111 : Int32)
            · rw [if_pos hc41] at hx8
              refine a_icmp_ne_f 108 dX9_go_97 (by decide) hc41 ?_
              refine a_aload_n dX9_go_100 rfl 0 rfl ?_
              refine a_get (.int (σ.1 58 7)) ob_58 (by decide) fl_X9_98 rfl dX9_go_101 ?_
              refine a_iconst (4 : Int32) dX9_go_104 rfl ?_
              by_cases hc42 : (σ.1 58 7) < (4 : Int32)
              · rw [if_pos hc42] at hx8
                refine a_icmp_lt_t 122 dX9_go_105 (by decide) hc42 ?_
                refine a_iconst (1 : Int32) dX9_go_122 rfl ?_
                refine a_goto 127 dX9_go_123 (by decide) ?_
                replace hx8 := hx8.symm; subst hx8
                exact hA23
              · rw [if_neg hc42] at hx8
                refine a_icmp_lt_f 122 dX9_go_105 (by decide) hc42 ?_
                refine a_iload_n dX9_go_108 rfl 1 rfl ?_
                refine a_bipush (119 : Int32) dX9_go_109 rfl ?_
                by_cases hc43 : p1 = (119 : Int32)
                · rw [if_pos hc43] at hx8
                  refine a_icmp_ne_f 126 dX9_go_111 (by decide) hc43 ?_
                  refine a_aload_n dX9_go_114 rfl 0 rfl ?_
                  refine a_get (.int (σ.1 58 7)) ob_58 (by decide) fl_X9_98 rfl dX9_go_115 ?_
                  refine a_iconst (5 : Int32) dX9_go_118 rfl ?_
                  by_cases hc44 : (5 : Int32) ≤ (σ.1 58 7)
                  · rw [if_pos hc44] at hx8
                    refine a_icmp_ge_t 126 dX9_go_119 (by decide) hc44 ?_
                    refine a_iconst (0 : Int32) dX9_go_126 rfl ?_
                    replace hx8 := hx8.symm; subst hx8
                    exact hA23
                  · rw [if_neg hc44] at hx8
                    refine a_icmp_ge_f 126 dX9_go_119 (by decide) hc44 ?_
                    refine a_iconst (1 : Int32) dX9_go_122 rfl ?_
                    refine a_goto 127 dX9_go_123 (by decide) ?_
                    replace hx8 := hx8.symm; subst hx8
                    exact hA23
                · rw [if_neg hc43] at hx8
                  refine a_icmp_ne_t 126 dX9_go_111 (by decide) hc43 ?_
                  refine a_iconst (0 : Int32) dX9_go_126 rfl ?_
                  replace hx8 := hx8.symm; subst hx8
                  exact hA23
            · rw [if_neg hc41] at hx8
              refine a_icmp_ne_t 108 dX9_go_97 (by decide) hc41 ?_
              refine a_iload_n dX9_go_108 rfl 1 rfl ?_
              refine a_bipush (119 : Int32) dX9_go_109 rfl ?_
              by_cases hc45 : p1 = (119 : Int32)
              · rw [if_pos hc45] at hx8
                refine a_icmp_ne_f 126 dX9_go_111 (by decide) hc45 ?_
                refine a_aload_n dX9_go_114 rfl 0 rfl ?_
                refine a_get (.int (σ.1 58 7)) ob_58 (by decide) fl_X9_98 rfl dX9_go_115 ?_
                refine a_iconst (5 : Int32) dX9_go_118 rfl ?_
                by_cases hc46 : (5 : Int32) ≤ (σ.1 58 7)
                · rw [if_pos hc46] at hx8
                  refine a_icmp_ge_t 126 dX9_go_119 (by decide) hc46 ?_
                  refine a_iconst (0 : Int32) dX9_go_126 rfl ?_
                  replace hx8 := hx8.symm; subst hx8
                  exact hA23
                · rw [if_neg hc46] at hx8
                  refine a_icmp_ge_f 126 dX9_go_119 (by decide) hc46 ?_
                  refine a_iconst (1 : Int32) dX9_go_122 rfl ?_
                  refine a_goto 127 dX9_go_123 (by decide) ?_
                  replace hx8 := hx8.symm; subst hx8
                  exact hA23
              · rw [if_neg hc45] at hx8
                refine a_icmp_ne_t 126 dX9_go_111 (by decide) hc45 ?_
                refine a_iconst (0 : Int32) dX9_go_126 rfl ?_
                replace hx8 := hx8.symm; subst hx8
                exact hA23
        · rw [if_neg hc39] at hx8
          refine a_icmp_ne_t 94 dX9_go_83 (by decide) hc39 ?_
          refine a_iload_n dX9_go_94 rfl 1 rfl ?_
          refine a_bipush (111 : Int32) dX9_go_95 rfl ?_
          by_cases hc47 : p1 = (111 : Int32)
          · rw [if_pos hc47] at hx8
            refine a_icmp_ne_f 108 dX9_go_97 (by decide) hc47 ?_
            refine a_aload_n dX9_go_100 rfl 0 rfl ?_
            refine a_get (.int (σ.1 58 7)) ob_58 (by decide) fl_X9_98 rfl dX9_go_101 ?_
            refine a_iconst (4 : Int32) dX9_go_104 rfl ?_
            by_cases hc48 : (σ.1 58 7) < (4 : Int32)
            · rw [if_pos hc48] at hx8
              refine a_icmp_lt_t 122 dX9_go_105 (by decide) hc48 ?_
              refine a_iconst (1 : Int32) dX9_go_122 rfl ?_
              refine a_goto 127 dX9_go_123 (by decide) ?_
              replace hx8 := hx8.symm; subst hx8
              exact hA23
            · rw [if_neg hc48] at hx8
              refine a_icmp_lt_f 122 dX9_go_105 (by decide) hc48 ?_
              refine a_iload_n dX9_go_108 rfl 1 rfl ?_
              refine a_bipush (119 : Int32) dX9_go_109 rfl ?_
              by_cases hc49 : p1 = (119 : Int32)
              · rw [if_pos hc49] at hx8
                refine a_icmp_ne_f 126 dX9_go_111 (by decide) hc49 ?_
                refine a_aload_n dX9_go_114 rfl 0 rfl ?_
                refine a_get (.int (σ.1 58 7)) ob_58 (by decide) fl_X9_98 rfl dX9_go_115 ?_
                refine a_iconst (5 : Int32) dX9_go_118 rfl ?_
                by_cases hc50 : (5 : Int32) ≤ (σ.1 58 7)
                · rw [if_pos hc50] at hx8
                  refine a_icmp_ge_t 126 dX9_go_119 (by decide) hc50 ?_
                  refine a_iconst (0 : Int32) dX9_go_126 rfl ?_
                  replace hx8 := hx8.symm; subst hx8
                  exact hA23
                · rw [if_neg hc50] at hx8
                  refine a_icmp_ge_f 126 dX9_go_119 (by decide) hc50 ?_
                  refine a_iconst (1 : Int32) dX9_go_122 rfl ?_
                  refine a_goto 127 dX9_go_123 (by decide) ?_
                  replace hx8 := hx8.symm; subst hx8
                  exact hA23
              · rw [if_neg hc49] at hx8
                refine a_icmp_ne_t 126 dX9_go_111 (by decide) hc49 ?_
                refine a_iconst (0 : Int32) dX9_go_126 rfl ?_
                replace hx8 := hx8.symm; subst hx8
                exact hA23
          · rw [if_neg hc47] at hx8
            refine a_icmp_ne_t 108 dX9_go_97 (by decide) hc47 ?_
            refine a_iload_n dX9_go_108 rfl 1 rfl ?_
            refine a_bipush (119 : Int32) dX9_go_109 rfl ?_
            by_cases hc51 : p1 = (119 : Int32)
            · rw [if_pos hc51] at hx8
              refine a_icmp_ne_f 126 dX9_go_111 (by decide) hc51 ?_
              refine a_aload_n dX9_go_114 rfl 0 rfl ?_
              refine a_get (.int (σ.1 58 7)) ob_58 (by decide) fl_X9_98 rfl dX9_go_115 ?_
              refine a_iconst (5 : Int32) dX9_go_118 rfl ?_
              by_cases hc52 : (5 : Int32) ≤ (σ.1 58 7)
              · rw [if_pos hc52] at hx8
                refine a_icmp_ge_t 126 dX9_go_119 (by decide) hc52 ?_
                refine a_iconst (0 : Int32) dX9_go_126 rfl ?_
                replace hx8 := hx8.symm; subst hx8
                exact hA23
              · rw [if_neg hc52] at hx8
                refine a_icmp_ge_f 126 dX9_go_119 (by decide) hc52 ?_
                refine a_iconst (1 : Int32) dX9_go_122 rfl ?_
                refine a_goto 127 dX9_go_123 (by decide) ?_
                replace hx8 := hx8.symm; subst hx8
                exact hA23
            · rw [if_neg hc51] at hx8
              refine a_icmp_ne_t 126 dX9_go_111 (by decide) hc51 ?_
              refine a_iconst (0 : Int32) dX9_go_126 rfl ?_
              replace hx8 := hx8.symm; subst hx8
              exact hA23
set_option maxHeartbeats 4000000 in
set_option maxRecDepth 100000 in
theorem kX9_faultOf_L27 (e : Nat)    {r : Option Value} {τ : St} (q : (Int32 × St)) : ∀ (n : Nat) (v1 : Int32) (σ : St), fX9_faultOf_L27 n v1 σ = some q → A (e + 2) MX9_faultOf 54 [(1, .int q.1)] [] q.2 r τ → A (e + 2) MX9_faultOf 27 [(0, .ref 58), (1, .int v1)] [] σ r τ := by
  intro n
  induction n with
  | zero =>
    intro v1 σ  hf
    simp only [fX9_faultOf_L27] at hf
    exact absurd hf (by simp)
  | succ n ih =>
    intro v1 σ  hf h2
    rw [fX9_faultOf_L27] at hf
    refine a_iload_n dX9_faultOf_27 rfl 1 rfl ?_
    refine a_aload_n dX9_faultOf_28 rfl 0 rfl ?_
    refine a_get (.int (σ.1 58 1)) ob_58 (by decide) fl_X9_95 rfl dX9_faultOf_29 ?_
    by_cases hc6 : (σ.1 58 1) ≤ v1
    · rw [if_pos hc6] at hf
      refine a_icmp_ge_t 54 dX9_faultOf_32 (by decide) hc6 ?_
      have hq := Option.some.inj hf
      rw [← hq] at h2
      refine a_locs (loc' := [(1, .int v1)]) [1] rfl ?_
      exact h2
    · rw [if_neg hc6] at hf
      refine a_icmp_ge_f 54 dX9_faultOf_32 (by decide) hc6 ?_
      refine a_aload_n dX9_faultOf_35 rfl 0 rfl ?_
      refine a_aload_n dX9_faultOf_36 rfl 0 rfl ?_
      refine a_get (.ref 59) ob_58 (by decide) fl_X9_7 rfl dX9_faultOf_37 ?_
      refine a_iload_n dX9_faultOf_40 rfl 1 rfl ?_
      obtain ⟨hb7, hf⟩ := grd_elim hf
      refine a_iald ia_59 hb7 dX9_faultOf_41 ?_
      obtain ⟨q8, hq8, hf⟩ := obind hf
      refine a_callV (as := [.int (σ.1 59 v1.toNatClampNeg)]) (stk := []) (q := some (.int q8.1)) (σ1 := q8.2) (kX9_go e (σ.1 59 v1.toNatClampNeg) σ _ hq8) ob_58 vl_X9_123 rfl (Nat.le_of_ble_eq_true rfl) dX9_faultOf_42 ?_
      by_cases hc9 : q8.1 = 0
      · rw [if_pos hc9] at hf
        refine a_if_eq_t 54 dX9_faultOf_45 (by decide) hc9 ?_
        have hq := Option.some.inj hf
        rw [← hq] at h2
        refine a_locs (loc' := [(1, .int v1)]) [1] rfl ?_
        exact h2
      · rw [if_neg hc9] at hf
        refine a_if_eq_f 54 dX9_faultOf_45 (by decide) hc9 ?_
        refine a_iinc (v1 + (1 : Int32)) dX9_faultOf_48 1 rfl rfl (by decide) (loc' := [(1, .int (v1 + (1 : Int32))), (0, .ref 58)]) rfl ?_
        refine a_goto 27 dX9_faultOf_51 (by decide) ?_
        refine a_locs (loc' := [(0, .ref 58), (1, .int (v1 + (1 : Int32)))]) [1, 0] rfl ?_
        exact ih (v1 + (1 : Int32)) q8.2 hf h2
set_option maxHeartbeats 4000000 in
set_option maxRecDepth 100000 in
theorem kX9_faultOf (e : Nat)  (σ : St)  (q : Int32 × St) (hf : fX9_faultOf σ = some q) : Sp (e + 2) MX9_faultOf [.ref 58] σ (some (.int q.1)) q.2 := by
  refine sp_of rfl (Nat.le_of_ble_eq_true rfl) (loc := [(0, .ref 58)]) rfl ?_
  unfold fX9_faultOf at hf
  refine a_aload_n dX9_faultOf_0 rfl 0 rfl ?_
  refine a_iconst (0 : Int32) dX9_faultOf_1 rfl ?_
  refine a_putI ob_58 (by decide) fp_X9_98 (Or.inl rfl) dX9_faultOf_2 ?_
  obtain ⟨σ1, hσ1, hf⟩ := bnd_elim hf
  rw [← hσ1]
  refine a_aload_n dX9_faultOf_5 rfl 0 rfl ?_
  refine a_iconst (1 : Int32) dX9_faultOf_6 rfl ?_
  refine a_putI ob_58 (by decide) fp_X9_101 (Or.inl rfl) dX9_faultOf_7 ?_
  obtain ⟨σ2, hσ2, hf⟩ := bnd_elim hf
  rw [← hσ2]
  refine a_aload_n dX9_faultOf_10 rfl 0 rfl ?_
  refine a_iconst (0 : Int32) dX9_faultOf_11 rfl ?_
  refine a_putI ob_58 (by decide) fp_X9_117 (Or.inl rfl) dX9_faultOf_12 ?_
  obtain ⟨σ3, hσ3, hf⟩ := bnd_elim hf
  rw [← hσ3]
  refine a_aload_n dX9_faultOf_15 rfl 0 rfl ?_
  refine a_iconst (0 : Int32) dX9_faultOf_16 rfl ?_
  refine a_putI ob_58 (by decide) fp_X9_120 (Or.inl rfl) dX9_faultOf_17 ?_
  obtain ⟨σ4, hσ4, hf⟩ := bnd_elim hf
  rw [← hσ4]
  refine a_aload_n dX9_faultOf_20 rfl 0 rfl ?_
  refine a_iconst (3 : Int32) dX9_faultOf_21 rfl ?_
  refine a_putI ob_58 (by decide) fp_X9_112 (Or.inl rfl) dX9_faultOf_22 ?_
  obtain ⟨σ5, hσ5, hf⟩ := bnd_elim hf
  rw [← hσ5]
  refine a_iconst (0 : Int32) dX9_faultOf_25 rfl ?_
  refine a_istore_n dX9_faultOf_26 rfl (by decide) (loc' := [(1, .int (0 : Int32)), (0, .ref 58)]) rfl ?_
  obtain ⟨q10, hr11, hf⟩ := obind hf
  have hA12 : A (e + 2) MX9_faultOf 54 [(1, .int q10.1)] [] q10.2 (some (.int q.1)) q.2 := by
    refine a_iload_n dX9_faultOf_54 rfl 0 rfl ?_
    have hq := Option.some.inj hf
    subst hq
    exact a_iret rfl dX9_faultOf_55
  refine a_locs (loc' := [(0, .ref 58), (1, .int (0 : Int32))]) [1, 0] rfl ?_
  exact kX9_faultOf_L27 e q10 fu (0 : Int32) σ5 hr11 hA12
set_option maxHeartbeats 4000000 in
set_option maxRecDepth 100000 in
theorem kX9_fault (e : Nat)  (σ : St)  (q : Int32 × St) (hf : fX9_fault σ = some q) : Sp (e + 3) MX9_fault [.ref 58] σ (some (.int q.1)) q.2 := by
  refine sp_of rfl (Nat.le_of_ble_eq_true rfl) (loc := [(0, .ref 58)]) rfl ?_
  unfold fX9_fault at hf
  refine a_aload_n dX9_fault_0 rfl 0 rfl ?_
  obtain ⟨q1, hq1, hf⟩ := obind hf
  refine a_callV (as := []) (stk := []) (q := some (.int q1.1)) (σ1 := q1.2) (kX9_faultOf e σ _ hq1) ob_58 vl_X9_127 rfl (Nat.le_of_ble_eq_true rfl) dX9_fault_1 ?_
  have hq := Option.some.inj hf
  subst hq
  exact a_iret rfl dX9_fault_4
set_option maxHeartbeats 4000000 in
set_option maxRecDepth 100000 in
theorem kX9_law (e : Nat)  (σ : St)  (q : Int32 × St) (hf : fX9_law σ = some q) : Sp (e + 3) MX9_law [.ref 58] σ (some (.int q.1)) q.2 := by
  refine sp_of rfl (Nat.le_of_ble_eq_true rfl) (loc := [(0, .ref 58)]) rfl ?_
  unfold fX9_law at hf
  refine a_aload_n dX9_law_0 rfl 0 rfl ?_
  obtain ⟨q1, hq1, hf⟩ := obind hf
  refine a_callV (as := []) (stk := []) (q := some (.int q1.1)) (σ1 := q1.2) (kX9_faultOf e σ _ hq1) ob_58 vl_X9_127 rfl (Nat.le_of_ble_eq_true rfl) dX9_law_1 ?_
  refine a_aload_n dX9_law_4 rfl 0 rfl ?_
  refine a_get (.int (q1.2.1 58 1)) ob_58 (by decide) fl_X9_95 rfl dX9_law_5 ?_
  by_cases hc2 : q1.1 < (q1.2.1 58 1)
  · rw [if_pos hc2] at hf
    refine a_icmp_lt_t 27 dX9_law_8 (by decide) hc2 ?_
    refine a_bipush (-103 : Int32) dX9_law_27 rfl ?_
    have hq := Option.some.inj hf
    subst hq
    exact a_iret rfl dX9_law_29
  · rw [if_neg hc2] at hf
    refine a_icmp_lt_f 27 dX9_law_8 (by decide) hc2 ?_
    refine a_aload_n dX9_law_11 rfl 0 rfl ?_
    refine a_get (.int (q1.2.1 58 7)) ob_58 (by decide) fl_X9_98 rfl dX9_law_12 ?_
    refine a_iconst (1 : Int32) dX9_law_15 rfl ?_
    by_cases hc3 : (q1.2.1 58 7) = (1 : Int32)
    · rw [if_pos hc3] at hf
      refine a_icmp_eq_t 27 dX9_law_16 (by decide) hc3 ?_
      refine a_bipush (-103 : Int32) dX9_law_27 rfl ?_
      have hq := Option.some.inj hf
      subst hq
      exact a_iret rfl dX9_law_29
    · rw [if_neg hc3] at hf
      refine a_icmp_eq_f 27 dX9_law_16 (by decide) hc3 ?_
      refine a_aload_n dX9_law_19 rfl 0 rfl ?_
      refine a_get (.int (q1.2.1 58 7)) ob_58 (by decide) fl_X9_98 rfl dX9_law_20 ?_
      refine a_iconst (5 : Int32) dX9_law_23 rfl ?_
      by_cases hc4 : (q1.2.1 58 7) = (5 : Int32)
      · rw [if_pos hc4] at hf
        refine a_icmp_ne_f 30 dX9_law_24 (by decide) hc4 ?_
        refine a_bipush (-103 : Int32) dX9_law_27 rfl ?_
        have hq := Option.some.inj hf
        subst hq
        exact a_iret rfl dX9_law_29
      · rw [if_neg hc4] at hf
        refine a_icmp_ne_t 30 dX9_law_24 (by decide) hc4 ?_
        refine a_aload_n dX9_law_30 rfl 0 rfl ?_
        refine a_aload_n dX9_law_31 rfl 0 rfl ?_
        refine a_get (.int (q1.2.1 58 8)) ob_58 (by decide) fl_X9_101 rfl dX9_law_32 ?_
        refine a_putI ob_58 (by decide) fp_X9_84 (Or.inl rfl) dX9_law_35 ?_
        obtain ⟨σ5, hσ5, hf⟩ := bnd_elim hf
        rw [← hσ5]
        refine a_aload_n dX9_law_38 rfl 0 rfl ?_
        refine a_aload_n dX9_law_39 rfl 0 rfl ?_
        refine a_get (.int (σ5.1 58 9)) ob_58 (by decide) fl_X9_117 rfl dX9_law_40 ?_
        refine a_putI ob_58 (by decide) fp_X9_131 (Or.inl rfl) dX9_law_43 ?_
        obtain ⟨σ6, hσ6, hf⟩ := bnd_elim hf
        rw [← hσ6]
        refine a_aload_n dX9_law_46 rfl 0 rfl ?_
        refine a_aload_n dX9_law_47 rfl 0 rfl ?_
        refine a_get (.int (σ6.1 58 10)) ob_58 (by decide) fl_X9_120 rfl dX9_law_48 ?_
        refine a_putI ob_58 (by decide) fp_X9_134 (Or.inl rfl) dX9_law_51 ?_
        obtain ⟨σ7, hσ7, hf⟩ := bnd_elim hf
        rw [← hσ7]
        refine a_aload_n dX9_law_54 rfl 0 rfl ?_
        refine a_aload_n dX9_law_55 rfl 0 rfl ?_
        refine a_get (.int (σ7.1 58 11)) ob_58 (by decide) fl_X9_112 rfl dX9_law_56 ?_
        refine a_putI ob_58 (by decide) fp_X9_87 (Or.inl rfl) dX9_law_59 ?_
        obtain ⟨σ8, hσ8, hf⟩ := bnd_elim hf
        rw [← hσ8]
        refine a_aload_n dX9_law_62 rfl 0 rfl ?_
        refine a_dup rfl dX9_law_63 ?_
        refine a_get (.int (σ8.1 58 6)) ob_58 (by decide) fl_X9_137 rfl dX9_law_64 ?_
        refine a_iconst (1 : Int32) dX9_law_67 rfl ?_
        refine a_iadd dX9_law_68 ?_
        refine a_putI ob_58 (by decide) fp_X9_137 (Or.inl rfl) dX9_law_69 ?_
        obtain ⟨σ9, hσ9, hf⟩ := bnd_elim hf
        rw [← hσ9]
        refine a_aload_n dX9_law_72 rfl 0 rfl ?_
        refine a_iconst (0 : Int32) dX9_law_73 rfl ?_
        refine a_putI ob_58 (by decide) fp_X9_95 (Or.inl rfl) dX9_law_74 ?_
        obtain ⟨σ10, hσ10, hf⟩ := bnd_elim hf
        rw [← hσ10]
        refine a_aload_n dX9_law_77 rfl 0 rfl ?_
        refine a_get (.int (σ10.1 58 6)) ob_58 (by decide) fl_X9_137 rfl dX9_law_78 ?_
        have hq := Option.some.inj hf
        subst hq
        exact a_iret rfl dX9_law_81
set_option maxHeartbeats 4000000 in
set_option maxRecDepth 100000 in
theorem kX9_tellLaw (e : Nat) (p1 : Int32) (σ : St)  : Sp e MX9_tellLaw [.ref 58, .int p1] σ (some (.int (fX9_tellLaw p1 σ))) σ := by
  refine sp_of rfl (Nat.le_of_ble_eq_true rfl) (loc := [(0, .ref 58), (1, .int p1)]) rfl ?_
  obtain ⟨z, hf⟩ : ∃ z, fX9_tellLaw p1 σ = z := ⟨_, rfl⟩
  rw [hf]
  unfold fX9_tellLaw at hf
  refine a_iload_n dX9_tellLaw_0 rfl 1 rfl ?_
  by_cases hc1 : p1 = 0
  · rw [if_pos hc1] at hf
    refine a_if_ne_f 11 dX9_tellLaw_1 (by decide) hc1 ?_
    refine a_aload_n dX9_tellLaw_4 rfl 0 rfl ?_
    refine a_get (.int (σ.1 58 2)) ob_58 (by decide) fl_X9_84 rfl dX9_tellLaw_5 ?_
    refine a_goto 49 dX9_tellLaw_8 (by decide) ?_
    subst hf
    exact a_iret rfl dX9_tellLaw_49
  · rw [if_neg hc1] at hf
    refine a_if_ne_t 11 dX9_tellLaw_1 (by decide) hc1 ?_
    refine a_iload_n dX9_tellLaw_11 rfl 1 rfl ?_
    refine a_iconst (1 : Int32) dX9_tellLaw_12 rfl ?_
    by_cases hc2 : p1 = (1 : Int32)
    · rw [if_pos hc2] at hf
      refine a_icmp_ne_f 23 dX9_tellLaw_13 (by decide) hc2 ?_
      refine a_aload_n dX9_tellLaw_16 rfl 0 rfl ?_
      refine a_get (.int (σ.1 58 3)) ob_58 (by decide) fl_X9_131 rfl dX9_tellLaw_17 ?_
      refine a_goto 49 dX9_tellLaw_20 (by decide) ?_
      subst hf
      exact a_iret rfl dX9_tellLaw_49
    · rw [if_neg hc2] at hf
      refine a_icmp_ne_t 23 dX9_tellLaw_13 (by decide) hc2 ?_
      refine a_iload_n dX9_tellLaw_23 rfl 1 rfl ?_
      refine a_iconst (2 : Int32) dX9_tellLaw_24 rfl ?_
      by_cases hc3 : p1 = (2 : Int32)
      · rw [if_pos hc3] at hf
        refine a_icmp_ne_f 35 dX9_tellLaw_25 (by decide) hc3 ?_
        refine a_aload_n dX9_tellLaw_28 rfl 0 rfl ?_
        refine a_get (.int (σ.1 58 4)) ob_58 (by decide) fl_X9_134 rfl dX9_tellLaw_29 ?_
        refine a_goto 49 dX9_tellLaw_32 (by decide) ?_
        subst hf
        exact a_iret rfl dX9_tellLaw_49
      · rw [if_neg hc3] at hf
        refine a_icmp_ne_t 35 dX9_tellLaw_25 (by decide) hc3 ?_
        refine a_iload_n dX9_tellLaw_35 rfl 1 rfl ?_
        refine a_iconst (3 : Int32) dX9_tellLaw_36 rfl ?_
        by_cases hc4 : p1 = (3 : Int32)
        · rw [if_pos hc4] at hf
          refine a_icmp_ne_f 47 dX9_tellLaw_37 (by decide) hc4 ?_
          refine a_aload_n dX9_tellLaw_40 rfl 0 rfl ?_
          refine a_get (.int (σ.1 58 5)) ob_58 (by decide) fl_X9_87 rfl dX9_tellLaw_41 ?_
          refine a_goto 49 dX9_tellLaw_44 (by decide) ?_
          subst hf
          exact a_iret rfl dX9_tellLaw_49
        · rw [if_neg hc4] at hf
          refine a_icmp_ne_t 47 dX9_tellLaw_37 (by decide) hc4 ?_
          refine a_bipush (-102 : Int32) dX9_tellLaw_47 rfl ?_
          subst hf
          exact a_iret rfl dX9_tellLaw_49
set_option maxHeartbeats 4000000 in
set_option maxRecDepth 100000 in
theorem kX9_lawTold (e : Nat) (p1 : Int32) (σ : St)  : Sp (e + 1) MX9_lawTold [.ref 58, .int p1] σ (some (.int (fX9_lawTold p1 σ))) σ := by
  refine sp_of rfl (Nat.le_of_ble_eq_true rfl) (loc := [(0, .ref 58), (1, .int p1)]) rfl ?_
  obtain ⟨z, hf⟩ : ∃ z, fX9_lawTold p1 σ = z := ⟨_, rfl⟩
  rw [hf]
  unfold fX9_lawTold at hf
  refine a_aload_n dX9_lawTold_0 rfl 0 rfl ?_
  refine a_iload_n dX9_lawTold_1 rfl 1 rfl ?_
  refine a_callV (as := [.int p1]) (stk := []) (q := some (.int (fX9_tellLaw p1 σ))) (σ1 := σ) (kX9_tellLaw e p1 σ) ob_58 vl_X9_140 rfl (Nat.le_of_ble_eq_true rfl) dX9_lawTold_2 ?_
  subst hf
  exact a_iret rfl dX9_lawTold_5
theorem bX9_isPerson (p1 : Int32) (σ : St) : fX9_isPerson p1 σ = 0 ∨ fX9_isPerson p1 σ = 1 := by
  obtain ⟨z, hf⟩ : ∃ z, fX9_isPerson p1 σ = z := ⟨_, rfl⟩
  rw [hf]
  unfold fX9_isPerson at hf
  subst hf
  exact (bX9_in p1.toInt64 (0 : Int64) (((σ.1 58 12) - (1 : Int32)).toInt64))
set_option maxHeartbeats 4000000 in
set_option maxRecDepth 100000 in
theorem kX9_isPerson (e : Nat) (p1 : Int32) (σ : St)  : Sp (e + 1) MX9_isPerson [.ref 58, .int p1] σ (some (.int (fX9_isPerson p1 σ))) σ := by
  refine sp_of rfl (Nat.le_of_ble_eq_true rfl) (loc := [(0, .ref 58), (1, .int p1)]) rfl ?_
  obtain ⟨z, hf⟩ : ∃ z, fX9_isPerson p1 σ = z := ⟨_, rfl⟩
  rw [hf]
  unfold fX9_isPerson at hf
  refine a_iload_n dX9_isPerson_0 rfl 1 rfl ?_
  refine a_i2l dX9_isPerson_1 ?_
  refine a_lconst (0 : Int64) dX9_isPerson_2 rfl ?_
  refine a_aload_n dX9_isPerson_3 rfl 0 rfl ?_
  refine a_get (.int (σ.1 58 12)) ob_58 (by decide) fl_X9_144 rfl dX9_isPerson_4 ?_
  refine a_iconst (1 : Int32) dX9_isPerson_7 rfl ?_
  refine a_isub dX9_isPerson_8 ?_
  refine a_i2l dX9_isPerson_9 ?_
  refine a_callS (as := [.long p1.toInt64, .long (0 : Int64), .long (((σ.1 58 12) - (1 : Int32)).toInt64)]) (stk := []) (q := some (.int (fX9_in p1.toInt64 (0 : Int64) (((σ.1 58 12) - (1 : Int32)).toInt64)))) (σ1 := σ) (kX9_in e p1.toInt64 (0 : Int64) (((σ.1 58 12) - (1 : Int32)).toInt64) σ) sl_X9_108 rfl (Nat.le_of_ble_eq_true rfl) dX9_isPerson_10 ?_
  subst hf
  exact a_zret rfl (bX9_in p1.toInt64 (0 : Int64) (((σ.1 58 12) - (1 : Int32)).toInt64)) dX9_isPerson_13
theorem bX9_arePair (p1 : Int32) (p2 : Int32) (σ : St) : fX9_arePair p1 p2 σ = 0 ∨ fX9_arePair p1 p2 σ = 1 := by
  obtain ⟨z, hf⟩ : ∃ z, fX9_arePair p1 p2 σ = z := ⟨_, rfl⟩
  rw [hf]
  unfold fX9_arePair at hf
  by_cases hc1 : (fX9_isPerson p1 σ) = 0
  · rw [if_pos hc1] at hf
    subst hf
    exact (Or.inl rfl)
  · rw [if_neg hc1] at hf
    by_cases hc2 : (fX9_isPerson p2 σ) = 0
    · rw [if_pos hc2] at hf
      subst hf
      exact (Or.inl rfl)
    · rw [if_neg hc2] at hf
      by_cases hc3 : p1 = p2
      · rw [if_pos hc3] at hf
        subst hf
        exact (Or.inl rfl)
      · rw [if_neg hc3] at hf
        subst hf
        exact (Or.inr rfl)
set_option maxHeartbeats 4000000 in
set_option maxRecDepth 100000 in
theorem kX9_arePair (e : Nat) (p1 : Int32) (p2 : Int32) (σ : St)  : Sp (e + 2) MX9_arePair [.ref 58, .int p1, .int p2] σ (some (.int (fX9_arePair p1 p2 σ))) σ := by
  refine sp_of rfl (Nat.le_of_ble_eq_true rfl) (loc := [(0, .ref 58), (1, .int p1), (2, .int p2)]) rfl ?_
  obtain ⟨z, hf⟩ : ∃ z, fX9_arePair p1 p2 σ = z := ⟨_, rfl⟩
  rw [hf]
  unfold fX9_arePair at hf
  refine a_aload_n dX9_arePair_0 rfl 0 rfl ?_
  refine a_iload_n dX9_arePair_1 rfl 1 rfl ?_
  refine a_callV (as := [.int p1]) (stk := []) (q := some (.int (fX9_isPerson p1 σ))) (σ1 := σ) (kX9_isPerson e p1 σ) ob_58 vl_X9_147 rfl (Nat.le_of_ble_eq_true rfl) dX9_arePair_2 ?_
  by_cases hc1 : (fX9_isPerson p1 σ) = 0
  · rw [if_pos hc1] at hf
    refine a_if_eq_t 25 dX9_arePair_5 (by decide) hc1 ?_
    refine a_iconst (0 : Int32) dX9_arePair_25 rfl ?_
    subst hf
    exact a_zret rfl (Or.inl rfl) dX9_arePair_26
  · rw [if_neg hc1] at hf
    refine a_if_eq_f 25 dX9_arePair_5 (by decide) hc1 ?_
    refine a_aload_n dX9_arePair_8 rfl 0 rfl ?_
    refine a_iload_n dX9_arePair_9 rfl 2 rfl ?_
    refine a_callV (as := [.int p2]) (stk := []) (q := some (.int (fX9_isPerson p2 σ))) (σ1 := σ) (kX9_isPerson e p2 σ) ob_58 vl_X9_147 rfl (Nat.le_of_ble_eq_true rfl) dX9_arePair_10 ?_
    by_cases hc2 : (fX9_isPerson p2 σ) = 0
    · rw [if_pos hc2] at hf
      refine a_if_eq_t 25 dX9_arePair_13 (by decide) hc2 ?_
      refine a_iconst (0 : Int32) dX9_arePair_25 rfl ?_
      subst hf
      exact a_zret rfl (Or.inl rfl) dX9_arePair_26
    · rw [if_neg hc2] at hf
      refine a_if_eq_f 25 dX9_arePair_13 (by decide) hc2 ?_
      refine a_iload_n dX9_arePair_16 rfl 1 rfl ?_
      refine a_iload_n dX9_arePair_17 rfl 2 rfl ?_
      by_cases hc3 : p1 = p2
      · rw [if_pos hc3] at hf
        refine a_icmp_eq_t 25 dX9_arePair_18 (by decide) hc3 ?_
        refine a_iconst (0 : Int32) dX9_arePair_25 rfl ?_
        subst hf
        exact a_zret rfl (Or.inl rfl) dX9_arePair_26
      · rw [if_neg hc3] at hf
        refine a_icmp_eq_f 25 dX9_arePair_18 (by decide) hc3 ?_
        refine a_iconst (1 : Int32) dX9_arePair_21 rfl ?_
        refine a_goto 26 dX9_arePair_22 (by decide) ?_
        subst hf
        exact a_zret rfl (Or.inr rfl) dX9_arePair_26
set_option maxHeartbeats 4000000 in
set_option maxRecDepth 100000 in
theorem kX9_person (e : Nat) (p1 : Int32) (σ : St)  (q : Int32 × St) (hf : fX9_person p1 σ = some q) : Sp (e + 1) MX9_person [.ref 58, .int p1] σ (some (.int q.1)) q.2 := by
  refine sp_of rfl (Nat.le_of_ble_eq_true rfl) (loc := [(0, .ref 58), (1, .int p1)]) rfl ?_
  unfold fX9_person at hf
  refine a_iload_n dX9_person_0 rfl 1 rfl ?_
  refine a_i2l dX9_person_1 ?_
  refine a_lconst (0 : Int64) dX9_person_2 rfl ?_
  refine a_ldc2 rfl kc_X9_150 dX9_person_3 ?_
  refine a_callS (as := [.long p1.toInt64, .long (0 : Int64), .long (3 : Int64)]) (stk := []) (q := some (.int (fX9_in p1.toInt64 (0 : Int64) (3 : Int64)))) (σ1 := σ) (kX9_in e p1.toInt64 (0 : Int64) (3 : Int64) σ) sl_X9_108 rfl (Nat.le_of_ble_eq_true rfl) dX9_person_6 ?_
  by_cases hc1 : (fX9_in p1.toInt64 (0 : Int64) (3 : Int64)) = 0
  · rw [if_pos hc1] at hf
    refine a_if_ne_f 15 dX9_person_9 (by decide) hc1 ?_
    refine a_bipush (-102 : Int32) dX9_person_12 rfl ?_
    have hq := Option.some.inj hf
    subst hq
    exact a_iret rfl dX9_person_14
  · rw [if_neg hc1] at hf
    refine a_if_ne_t 15 dX9_person_9 (by decide) hc1 ?_
    refine a_aload_n dX9_person_15 rfl 0 rfl ?_
    refine a_get (.int (σ.1 58 12)) ob_58 (by decide) fl_X9_144 rfl dX9_person_16 ?_
    refine a_bipush (8 : Int32) dX9_person_19 rfl ?_
    by_cases hc2 : (σ.1 58 12) = (8 : Int32)
    · rw [if_pos hc2] at hf
      refine a_icmp_ne_f 27 dX9_person_21 (by decide) hc2 ?_
      refine a_bipush (-104 : Int32) dX9_person_24 rfl ?_
      have hq := Option.some.inj hf
      subst hq
      exact a_iret rfl dX9_person_26
    · rw [if_neg hc2] at hf
      refine a_icmp_ne_t 27 dX9_person_21 (by decide) hc2 ?_
      refine a_aload_n dX9_person_27 rfl 0 rfl ?_
      refine a_get (.ref 60) ob_58 (by decide) fl_X9_13 rfl dX9_person_28 ?_
      refine a_aload_n dX9_person_31 rfl 0 rfl ?_
      refine a_get (.int (σ.1 58 12)) ob_58 (by decide) fl_X9_144 rfl dX9_person_32 ?_
      refine a_iload_n dX9_person_35 rfl 1 rfl ?_
      obtain ⟨hb3, hf⟩ := grd_elim hf
      refine a_iast ia_60 hb3 dX9_person_36 ?_
      obtain ⟨σ4, hσ4, hf⟩ := bnd_elim hf
      rw [← hσ4]
      refine a_aload_n dX9_person_37 rfl 0 rfl ?_
      refine a_dup rfl dX9_person_38 ?_
      refine a_get (.int (σ4.1 58 12)) ob_58 (by decide) fl_X9_144 rfl dX9_person_39 ?_
      refine a_iconst (1 : Int32) dX9_person_42 rfl ?_
      refine a_iadd dX9_person_43 ?_
      refine a_putI ob_58 (by decide) fp_X9_144 (Or.inl rfl) dX9_person_44 ?_
      obtain ⟨σ5, hσ5, hf⟩ := bnd_elim hf
      rw [← hσ5]
      refine a_aload_n dX9_person_47 rfl 0 rfl ?_
      refine a_get (.int (σ5.1 58 12)) ob_58 (by decide) fl_X9_144 rfl dX9_person_48 ?_
      refine a_iconst (1 : Int32) dX9_person_51 rfl ?_
      refine a_isub dX9_person_52 ?_
      have hq := Option.some.inj hf
      subst hq
      exact a_iret rfl dX9_person_53
set_option maxHeartbeats 4000000 in
set_option maxRecDepth 100000 in
theorem kX9_know (e : Nat) (p1 : Int32) (p2 : Int32) (p3 : Int32) (σ : St)  (q : Int32 × St) (hf : fX9_know p1 p2 p3 σ = some q) : Sp (e + 3) MX9_know [.ref 58, .int p1, .int p2, .int p3] σ (some (.int q.1)) q.2 := by
  refine sp_of rfl (Nat.le_of_ble_eq_true rfl) (loc := [(0, .ref 58), (1, .int p1), (2, .int p2), (3, .int p3)]) rfl ?_
  unfold fX9_know at hf
  refine a_aload_n dX9_know_0 rfl 0 rfl ?_
  refine a_iload_n dX9_know_1 rfl 1 rfl ?_
  refine a_iload_n dX9_know_2 rfl 2 rfl ?_
  refine a_callV (as := [.int p1, .int p2]) (stk := []) (q := some (.int (fX9_arePair p1 p2 σ))) (σ1 := σ) (kX9_arePair e p1 p2 σ) ob_58 vl_X9_152 rfl (Nat.le_of_ble_eq_true rfl) dX9_know_3 ?_
  by_cases hc1 : (fX9_arePair p1 p2 σ) = 0
  · rw [if_pos hc1] at hf
    refine a_if_ne_f 12 dX9_know_6 (by decide) hc1 ?_
    refine a_bipush (-101 : Int32) dX9_know_9 rfl ?_
    have hq := Option.some.inj hf
    subst hq
    exact a_iret rfl dX9_know_11
  · rw [if_neg hc1] at hf
    refine a_if_ne_t 12 dX9_know_6 (by decide) hc1 ?_
    refine a_aload_n dX9_know_12 rfl 0 rfl ?_
    refine a_get (.ref 61) ob_58 (by decide) fl_X9_16 rfl dX9_know_13 ?_
    refine a_iload_n dX9_know_16 rfl 1 rfl ?_
    obtain ⟨hb2, hf⟩ := grd_elim hf
    refine a_iald ia_61 hb2 dX9_know_17 ?_
    refine a_iload_n dX9_know_18 rfl 2 rfl ?_
    refine a_ishr dX9_know_19 ?_
    refine a_iconst (1 : Int32) dX9_know_20 rfl ?_
    refine a_iand dX9_know_21 ?_
    obtain ⟨x3, hx3, hf⟩ := bnd_elim hf
    refine a_top (w := .int x3) (by rw [hx3]) ?_
    refine a_istore dX9_know_22 (by decide) (loc' := [(4, .int x3), (0, .ref 58), (1, .int p1), (2, .int p2), (3, .int p3)]) rfl ?_
    refine a_aload_n dX9_know_24 rfl 1 rfl ?_
    refine a_get (.ref 61) ob_58 (by decide) fl_X9_16 rfl dX9_know_25 ?_
    refine a_iload_n dX9_know_28 rfl 2 rfl ?_
    refine a_aload_n dX9_know_29 rfl 1 rfl ?_
    refine a_get (.ref 61) ob_58 (by decide) fl_X9_16 rfl dX9_know_30 ?_
    refine a_iload_n dX9_know_33 rfl 2 rfl ?_
    obtain ⟨hb4, hf⟩ := grd_elim hf
    refine a_iald ia_61 hb4 dX9_know_34 ?_
    refine a_iconst (1 : Int32) dX9_know_35 rfl ?_
    refine a_iload_n dX9_know_36 rfl 3 rfl ?_
    refine a_ishl dX9_know_37 ?_
    refine a_iconst (-1 : Int32) dX9_know_38 rfl ?_
    refine a_ixor dX9_know_39 ?_
    refine a_iand dX9_know_40 ?_
    refine a_iload_n dX9_know_41 rfl 4 rfl ?_
    obtain ⟨x6, hx6, hf⟩ := bnd_elim hf
    have hA15 : A (e + 3) MX9_know 52 [(0, .ref 58), (1, .int p1), (2, .int p2), (3, .int p3), (4, .int x3)] [.int x6, .int ((σ.1 61 p1.toNatClampNeg) &&& (((1 : Int32) <<< (p2 &&& 31)) ^^^ (-1 : Int32))), .int p1, .ref 61] σ (some (.int q.1)) q.2 := by
      refine a_ior dX9_know_52 ?_
      obtain ⟨hb7, hf⟩ := grd_elim hf
      refine a_iast ia_61 hb7 dX9_know_53 ?_
      obtain ⟨σ8, hσ8, hf⟩ := bnd_elim hf
      rw [← hσ8]
      refine a_aload_n dX9_know_54 rfl 0 rfl ?_
      refine a_get (.ref 61) ob_58 (by decide) fl_X9_16 rfl dX9_know_55 ?_
      refine a_iload_n dX9_know_58 rfl 2 rfl ?_
      refine a_aload_n dX9_know_59 rfl 0 rfl ?_
      refine a_get (.ref 61) ob_58 (by decide) fl_X9_16 rfl dX9_know_60 ?_
      refine a_iload_n dX9_know_63 rfl 2 rfl ?_
      obtain ⟨hb9, hf⟩ := grd_elim hf
      refine a_iald ia_61 hb9 dX9_know_64 ?_
      refine a_iconst (1 : Int32) dX9_know_65 rfl ?_
      refine a_iload_n dX9_know_66 rfl 1 rfl ?_
      refine a_ishl dX9_know_67 ?_
      refine a_iconst (-1 : Int32) dX9_know_68 rfl ?_
      refine a_ixor dX9_know_69 ?_
      refine a_iand dX9_know_70 ?_
      refine a_iload_n dX9_know_71 rfl 3 rfl ?_
      obtain ⟨x11, hx11, hf⟩ := bnd_elim hf
      have hA14 : A (e + 3) MX9_know 82 [(4, .int x3)] [.int x11, .int ((σ8.1 61 p2.toNatClampNeg) &&& (((1 : Int32) <<< (p1 &&& 31)) ^^^ (-1 : Int32))), .int p2, .ref 61] σ8 (some (.int q.1)) q.2 := by
        refine a_ior dX9_know_82 ?_
        obtain ⟨hb12, hf⟩ := grd_elim hf
        refine a_iast ia_61 hb12 dX9_know_83 ?_
        obtain ⟨σ13, hσ13, hf⟩ := bnd_elim hf
        rw [← hσ13]
        refine a_iload dX9_know_84 0 rfl ?_
        have hq := Option.some.inj hf
        subst hq
        exact a_iret rfl dX9_know_86
      clear hf
      by_cases hc10 : p3 = 0
      · rw [if_pos hc10] at hx11
        refine a_if_eq_t 81 dX9_know_72 (by decide) hc10 ?_
        refine a_iconst (0 : Int32) dX9_know_81 rfl ?_
        replace hx11 := hx11.symm; subst hx11
        refine a_locs (loc' := [(4, .int x3)]) [4] rfl ?_
        exact hA14
      · rw [if_neg hc10] at hx11
        refine a_if_eq_f 81 dX9_know_72 (by decide) hc10 ?_
        refine a_iconst (1 : Int32) dX9_know_75 rfl ?_
        refine a_iload_n dX9_know_76 rfl 1 rfl ?_
        refine a_ishl dX9_know_77 ?_
        refine a_goto 82 dX9_know_78 (by decide) ?_
        replace hx11 := hx11.symm; subst hx11
        refine a_locs (loc' := [(4, .int x3)]) [4] rfl ?_
        exact hA14
    clear hf
    by_cases hc5 : p3 = 0
    · rw [if_pos hc5] at hx6
      refine a_if_eq_t 51 dX9_know_42 (by decide) hc5 ?_
      refine a_iconst (0 : Int32) dX9_know_51 rfl ?_
      replace hx6 := hx6.symm; subst hx6
      refine a_locs (loc' := [(0, .ref 58), (1, .int p1), (2, .int p2), (3, .int p3), (4, .int x3)]) [1, 2, 3, 4, 0] rfl ?_
      exact hA15
    · rw [if_neg hc5] at hx6
      refine a_if_eq_f 51 dX9_know_42 (by decide) hc5 ?_
      refine a_iconst (1 : Int32) dX9_know_45 rfl ?_
      refine a_iload_n dX9_know_46 rfl 3 rfl ?_
      refine a_ishl dX9_know_47 ?_
      refine a_goto 52 dX9_know_48 (by decide) ?_
      replace hx6 := hx6.symm; subst hx6
      refine a_locs (loc' := [(0, .ref 58), (1, .int p1), (2, .int p2), (3, .int p3), (4, .int x3)]) [1, 2, 3, 4, 0] rfl ?_
      exact hA15
set_option maxHeartbeats 4000000 in
set_option maxRecDepth 100000 in
theorem kX9_like (e : Nat) (p1 : Int32) (p2 : Int32) (p3 : Int32) (σ : St)  (q : Int32 × St) (hf : fX9_like p1 p2 p3 σ = some q) : Sp (e + 3) MX9_like [.ref 58, .int p1, .int p2, .int p3] σ (some (.int q.1)) q.2 := by
  refine sp_of rfl (Nat.le_of_ble_eq_true rfl) (loc := [(0, .ref 58), (1, .int p1), (2, .int p2), (3, .int p3)]) rfl ?_
  unfold fX9_like at hf
  refine a_aload_n dX9_like_0 rfl 0 rfl ?_
  refine a_iload_n dX9_like_1 rfl 1 rfl ?_
  refine a_iload_n dX9_like_2 rfl 2 rfl ?_
  refine a_callV (as := [.int p1, .int p2]) (stk := []) (q := some (.int (fX9_arePair p1 p2 σ))) (σ1 := σ) (kX9_arePair e p1 p2 σ) ob_58 vl_X9_152 rfl (Nat.le_of_ble_eq_true rfl) dX9_like_3 ?_
  by_cases hc1 : (fX9_arePair p1 p2 σ) = 0
  · rw [if_pos hc1] at hf
    refine a_if_ne_f 12 dX9_like_6 (by decide) hc1 ?_
    refine a_bipush (-101 : Int32) dX9_like_9 rfl ?_
    have hq := Option.some.inj hf
    subst hq
    exact a_iret rfl dX9_like_11
  · rw [if_neg hc1] at hf
    refine a_if_ne_t 12 dX9_like_6 (by decide) hc1 ?_
    refine a_iload_n dX9_like_12 rfl 3 rfl ?_
    refine a_i2l dX9_like_13 ?_
    refine a_lconst (0 : Int64) dX9_like_14 rfl ?_
    refine a_ldc2 rfl kc_X9_156 dX9_like_15 ?_
    refine a_callS (as := [.long p3.toInt64, .long (0 : Int64), .long (9 : Int64)]) (stk := []) (q := some (.int (fX9_in p3.toInt64 (0 : Int64) (9 : Int64)))) (σ1 := σ) (kX9_in (e + 2) p3.toInt64 (0 : Int64) (9 : Int64) σ) sl_X9_108 rfl (Nat.le_of_ble_eq_true rfl) dX9_like_18 ?_
    by_cases hc2 : (fX9_in p3.toInt64 (0 : Int64) (9 : Int64)) = 0
    · rw [if_pos hc2] at hf
      refine a_if_ne_f 27 dX9_like_21 (by decide) hc2 ?_
      refine a_bipush (-102 : Int32) dX9_like_24 rfl ?_
      have hq := Option.some.inj hf
      subst hq
      exact a_iret rfl dX9_like_26
    · rw [if_neg hc2] at hf
      refine a_if_ne_t 27 dX9_like_21 (by decide) hc2 ?_
      refine a_aload_n dX9_like_27 rfl 0 rfl ?_
      refine a_get (.ref 62) ob_58 (by decide) fl_X9_19 rfl dX9_like_28 ?_
      refine a_bipush (8 : Int32) dX9_like_31 rfl ?_
      refine a_iload_n dX9_like_33 rfl 1 rfl ?_
      refine a_imul dX9_like_34 ?_
      refine a_iload_n dX9_like_35 rfl 2 rfl ?_
      refine a_iadd dX9_like_36 ?_
      obtain ⟨hb3, hf⟩ := grd_elim hf
      refine a_iald ia_62 hb3 dX9_like_37 ?_
      obtain ⟨x4, hx4, hf⟩ := bnd_elim hf
      refine a_top (w := .int x4) (by rw [hx4]) ?_
      refine a_istore dX9_like_38 (by decide) (loc' := [(4, .int x4), (0, .ref 58), (1, .int p1), (2, .int p2), (3, .int p3)]) rfl ?_
      refine a_aload_n dX9_like_40 rfl 1 rfl ?_
      refine a_get (.ref 62) ob_58 (by decide) fl_X9_19 rfl dX9_like_41 ?_
      refine a_bipush (8 : Int32) dX9_like_44 rfl ?_
      refine a_iload_n dX9_like_46 rfl 2 rfl ?_
      refine a_imul dX9_like_47 ?_
      refine a_iload_n dX9_like_48 rfl 3 rfl ?_
      refine a_iadd dX9_like_49 ?_
      refine a_iload_n dX9_like_50 rfl 4 rfl ?_
      obtain ⟨hb5, hf⟩ := grd_elim hf
      refine a_iast ia_62 hb5 dX9_like_51 ?_
      obtain ⟨σ6, hσ6, hf⟩ := bnd_elim hf
      rw [← hσ6]
      refine a_iload dX9_like_52 0 rfl ?_
      have hq := Option.some.inj hf
      subst hq
      exact a_iret rfl dX9_like_54
theorem bX9_isGift (p1 : Int32) (σ : St) : fX9_isGift p1 σ = 0 ∨ fX9_isGift p1 σ = 1 := by
  obtain ⟨z, hf⟩ : ∃ z, fX9_isGift p1 σ = z := ⟨_, rfl⟩
  rw [hf]
  unfold fX9_isGift at hf
  subst hf
  exact (bX9_in p1.toInt64 (0 : Int64) (((σ.1 58 20) - (1 : Int32)).toInt64))
set_option maxHeartbeats 4000000 in
set_option maxRecDepth 100000 in
theorem kX9_isGift (e : Nat) (p1 : Int32) (σ : St)  : Sp (e + 1) MX9_isGift [.ref 58, .int p1] σ (some (.int (fX9_isGift p1 σ))) σ := by
  refine sp_of rfl (Nat.le_of_ble_eq_true rfl) (loc := [(0, .ref 58), (1, .int p1)]) rfl ?_
  obtain ⟨z, hf⟩ : ∃ z, fX9_isGift p1 σ = z := ⟨_, rfl⟩
  rw [hf]
  unfold fX9_isGift at hf
  refine a_iload_n dX9_isGift_0 rfl 1 rfl ?_
  refine a_i2l dX9_isGift_1 ?_
  refine a_lconst (0 : Int64) dX9_isGift_2 rfl ?_
  refine a_aload_n dX9_isGift_3 rfl 0 rfl ?_
  refine a_get (.int (σ.1 58 20)) ob_58 (by decide) fl_X9_158 rfl dX9_isGift_4 ?_
  refine a_iconst (1 : Int32) dX9_isGift_7 rfl ?_
  refine a_isub dX9_isGift_8 ?_
  refine a_i2l dX9_isGift_9 ?_
  refine a_callS (as := [.long p1.toInt64, .long (0 : Int64), .long (((σ.1 58 20) - (1 : Int32)).toInt64)]) (stk := []) (q := some (.int (fX9_in p1.toInt64 (0 : Int64) (((σ.1 58 20) - (1 : Int32)).toInt64)))) (σ1 := σ) (kX9_in e p1.toInt64 (0 : Int64) (((σ.1 58 20) - (1 : Int32)).toInt64) σ) sl_X9_108 rfl (Nat.le_of_ble_eq_true rfl) dX9_isGift_10 ?_
  subst hf
  exact a_zret rfl (bX9_in p1.toInt64 (0 : Int64) (((σ.1 58 20) - (1 : Int32)).toInt64)) dX9_isGift_13
theorem bX9_lives (p1 : Int32) (σ : St) (q : Int32) (hf : fX9_lives p1 σ = some q) : q = 0 ∨ q = 1 := by
  unfold fX9_lives at hf
  obtain ⟨hb1, hf⟩ := grd_elim hf
  by_cases hc2 : (σ.1 65 (((8 : Int32) * p1) + (6 : Int32)).toNatClampNeg) = 0
  · rw [if_pos hc2] at hf
    have hq := Option.some.inj hf
    subst hq
    exact (Or.inr rfl)
  · rw [if_neg hc2] at hf
    have hq := Option.some.inj hf
    subst hq
    exact (Or.inl rfl)
set_option maxHeartbeats 4000000 in
set_option maxRecDepth 100000 in
theorem kX9_lives (e : Nat) (p1 : Int32) (σ : St)  (q : Int32) (hf : fX9_lives p1 σ = some q) : Sp e MX9_lives [.ref 58, .int p1] σ (some (.int q)) σ := by
  refine sp_of rfl (Nat.le_of_ble_eq_true rfl) (loc := [(0, .ref 58), (1, .int p1)]) rfl ?_
  unfold fX9_lives at hf
  refine a_aload_n dX9_lives_0 rfl 0 rfl ?_
  refine a_get (.ref 65) ob_58 (by decide) fl_X9_28 rfl dX9_lives_1 ?_
  refine a_bipush (8 : Int32) dX9_lives_4 rfl ?_
  refine a_iload_n dX9_lives_6 rfl 1 rfl ?_
  refine a_imul dX9_lives_7 ?_
  refine a_bipush (6 : Int32) dX9_lives_8 rfl ?_
  refine a_iadd dX9_lives_10 ?_
  obtain ⟨hb1, hf⟩ := grd_elim hf
  refine a_iald ia_65 hb1 dX9_lives_11 ?_
  by_cases hc2 : (σ.1 65 (((8 : Int32) * p1) + (6 : Int32)).toNatClampNeg) = 0
  · rw [if_pos hc2] at hf
    refine a_if_ne_f 19 dX9_lives_12 (by decide) hc2 ?_
    refine a_iconst (1 : Int32) dX9_lives_15 rfl ?_
    refine a_goto 20 dX9_lives_16 (by decide) ?_
    have hq := Option.some.inj hf
    subst hq
    exact a_zret rfl (Or.inr rfl) dX9_lives_20
  · rw [if_neg hc2] at hf
    refine a_if_ne_t 19 dX9_lives_12 (by decide) hc2 ?_
    refine a_iconst (0 : Int32) dX9_lives_19 rfl ?_
    have hq := Option.some.inj hf
    subst hq
    exact a_zret rfl (Or.inl rfl) dX9_lives_20
set_option maxHeartbeats 4000000 in
set_option maxRecDepth 100000 in
theorem kX9_holds_L4 (e : Nat) (c1 : Int32) (σ : St)  {r : Option Value} {τ : St} (q : (Int32)) : ∀ (n : Nat) (v2 : Int32) (v3 : Int32), fX9_holds_L4 c1 σ n v2 v3 = some q → A (e + 1) MX9_holds 49 [(2, .int q)] [] σ r τ → A (e + 1) MX9_holds 4 [(0, .ref 58), (1, .int c1), (2, .int v2), (3, .int v3)] [] σ r τ := by
  intro n
  induction n with
  | zero =>
    intro v2 v3  hf
    simp only [fX9_holds_L4] at hf
    exact absurd hf (by simp)
  | succ n ih =>
    intro v2 v3  hf h2
    rw [fX9_holds_L4] at hf
    refine a_iload_n dX9_holds_4 rfl 3 rfl ?_
    refine a_aload_n dX9_holds_5 rfl 0 rfl ?_
    refine a_get (.int (σ.1 58 20)) ob_58 (by decide) fl_X9_158 rfl dX9_holds_6 ?_
    by_cases hc1 : (σ.1 58 20) ≤ v3
    · rw [if_pos hc1] at hf
      refine a_icmp_ge_t 49 dX9_holds_9 (by decide) hc1 ?_
      have hq := Option.some.inj hf
      rw [← hq] at h2
      refine a_locs (loc' := [(2, .int v2)]) [2] rfl ?_
      exact h2
    · rw [if_neg hc1] at hf
      refine a_icmp_ge_f 49 dX9_holds_9 (by decide) hc1 ?_
      refine a_iload_n dX9_holds_12 rfl 2 rfl ?_
      refine a_aload_n dX9_holds_13 rfl 0 rfl ?_
      refine a_iload_n dX9_holds_14 rfl 3 rfl ?_
      obtain ⟨q2, hq2, hf⟩ := obind hf
      refine a_callV (as := [.int v3]) (stk := [.int v2]) (q := some (.int q2)) (σ1 := σ) (kX9_lives e v3 σ _ hq2) ob_58 vl_X9_161 rfl (Nat.le_of_ble_eq_true rfl) dX9_holds_15 ?_
      obtain ⟨q4, hr6, hf⟩ := obind hf
      have hA5 : A (e + 1) MX9_holds 41 [(0, .ref 58), (1, .int c1), (3, .int v3)] [.int q4, .int v2] σ r τ := by
        refine a_iadd dX9_holds_41 ?_
        refine a_istore_n dX9_holds_42 rfl (by decide) (loc' := [(2, .int (v2 + q4)), (0, .ref 58), (1, .int c1), (3, .int v3)]) rfl ?_
        refine a_iinc (v3 + (1 : Int32)) dX9_holds_43 3 rfl rfl (by decide) (loc' := [(3, .int (v3 + (1 : Int32))), (2, .int (v2 + q4)), (0, .ref 58), (1, .int c1)]) rfl ?_
        refine a_goto 4 dX9_holds_46 (by decide) ?_
        refine a_locs (loc' := [(0, .ref 58), (1, .int c1), (2, .int (v2 + q4)), (3, .int (v3 + (1 : Int32)))]) [2, 3, 1, 0] rfl ?_
        exact ih (v2 + q4) (v3 + (1 : Int32)) hf h2
      clear hf
      have hf := hr6
      clear hr6
      by_cases hc3 : q2 = 0
      · rw [if_pos hc3] at hf
        refine a_if_eq_t 40 dX9_holds_18 (by decide) hc3 ?_
        refine a_iconst (0 : Int32) dX9_holds_40 rfl ?_
        have hq := Option.some.inj hf
        subst hq
        refine a_locs (loc' := [(0, .ref 58), (1, .int c1), (3, .int v3)]) [0, 1, 3] rfl ?_
        exact hA5
      · rw [if_neg hc3] at hf
        refine a_if_eq_f 40 dX9_holds_18 (by decide) hc3 ?_
        refine a_aload_n dX9_holds_21 rfl 0 rfl ?_
        refine a_get (.ref 65) ob_58 (by decide) fl_X9_28 rfl dX9_holds_22 ?_
        refine a_bipush (8 : Int32) dX9_holds_25 rfl ?_
        refine a_iload_n dX9_holds_27 rfl 3 rfl ?_
        refine a_imul dX9_holds_28 ?_
        refine a_iconst (2 : Int32) dX9_holds_29 rfl ?_
        refine a_iadd dX9_holds_30 ?_
        obtain ⟨hb7, hf⟩ := grd_elim hf
        refine a_iald ia_65 hb7 dX9_holds_31 ?_
        refine a_iload_n dX9_holds_32 rfl 1 rfl ?_
        by_cases hc8 : (σ.1 65 (((8 : Int32) * v3) + (2 : Int32)).toNatClampNeg) = c1
        · rw [if_pos hc8] at hf
          refine a_icmp_ne_f 40 dX9_holds_33 (by decide) hc8 ?_
          refine a_iconst (1 : Int32) dX9_holds_36 rfl ?_
          refine a_goto 41 dX9_holds_37 (by decide) ?_
          have hq := Option.some.inj hf
          subst hq
          refine a_locs (loc' := [(0, .ref 58), (1, .int c1), (3, .int v3)]) [0, 1, 3] rfl ?_
          exact hA5
        · rw [if_neg hc8] at hf
          refine a_icmp_ne_t 40 dX9_holds_33 (by decide) hc8 ?_
          refine a_iconst (0 : Int32) dX9_holds_40 rfl ?_
          have hq := Option.some.inj hf
          subst hq
          refine a_locs (loc' := [(0, .ref 58), (1, .int c1), (3, .int v3)]) [0, 1, 3] rfl ?_
          exact hA5
set_option maxHeartbeats 4000000 in
set_option maxRecDepth 100000 in
theorem kX9_holds (e : Nat) (p1 : Int32) (σ : St)  (q : Int32) (hf : fX9_holds p1 σ = some q) : Sp (e + 1) MX9_holds [.ref 58, .int p1] σ (some (.int q)) σ := by
  refine sp_of rfl (Nat.le_of_ble_eq_true rfl) (loc := [(0, .ref 58), (1, .int p1)]) rfl ?_
  unfold fX9_holds at hf
  refine a_iconst (0 : Int32) dX9_holds_0 rfl ?_
  refine a_istore_n dX9_holds_1 rfl (by decide) (loc' := [(2, .int (0 : Int32)), (0, .ref 58), (1, .int p1)]) rfl ?_
  refine a_iconst (0 : Int32) dX9_holds_2 rfl ?_
  refine a_istore_n dX9_holds_3 rfl (by decide) (loc' := [(3, .int (0 : Int32)), (2, .int (0 : Int32)), (0, .ref 58), (1, .int p1)]) rfl ?_
  obtain ⟨q9, hr10, hf⟩ := obind hf
  have hA11 : A (e + 1) MX9_holds 49 [(2, .int q9)] [] σ (some (.int q)) σ := by
    refine a_iload_n dX9_holds_49 rfl 0 rfl ?_
    have hq := Option.some.inj hf
    subst hq
    exact a_iret rfl dX9_holds_50
  refine a_locs (loc' := [(0, .ref 58), (1, .int p1), (2, .int (0 : Int32)), (3, .int (0 : Int32))]) [2, 3, 1, 0] rfl ?_
  exact kX9_holds_L4 e p1 σ q9 fu (0 : Int32) (0 : Int32) hr10 hA11
set_option maxHeartbeats 4000000 in
set_option maxRecDepth 100000 in
theorem kX9_tellPerson (e : Nat) (p1 : Int32) (p2 : Int32) (σ : St)  (q : Int32) (hf : fX9_tellPerson p1 p2 σ = some q) : Sp (e + 2) MX9_tellPerson [.ref 58, .int p1, .int p2] σ (some (.int q)) σ := by
  refine sp_of rfl (Nat.le_of_ble_eq_true rfl) (loc := [(0, .ref 58), (1, .int p1), (2, .int p2)]) rfl ?_
  unfold fX9_tellPerson at hf
  refine a_iload_n dX9_tellPerson_0 rfl 2 rfl ?_
  by_cases hc1 : p2 = (0 : Int32)
  · rw [if_pos hc1] at hf
    refine a_tabIn (0 : Int32) 32 dX9_tellPerson_1 hc1 (by decide) (by decide) rfl (by decide) ?_
    refine a_aload_n dX9_tellPerson_32 rfl 0 rfl ?_
    refine a_get (.ref 60) ob_58 (by decide) fl_X9_13 rfl dX9_tellPerson_33 ?_
    refine a_iload_n dX9_tellPerson_36 rfl 1 rfl ?_
    obtain ⟨hb2, hf⟩ := grd_elim hf
    refine a_iald ia_60 hb2 dX9_tellPerson_37 ?_
    have hq := Option.some.inj hf
    subst hq
    exact a_iret rfl dX9_tellPerson_38
  · rw [if_neg hc1] at hf
    by_cases hc3 : p2 = (1 : Int32)
    · rw [if_pos hc3] at hf
      refine a_tabIn (1 : Int32) 39 dX9_tellPerson_1 hc3 (by decide) (by decide) rfl (by decide) ?_
      refine a_aload_n dX9_tellPerson_39 rfl 0 rfl ?_
      refine a_iload_n dX9_tellPerson_40 rfl 1 rfl ?_
      obtain ⟨q4, hq4, hf⟩ := obind hf
      refine a_callV (as := [.int p1]) (stk := []) (q := some (.int q4)) (σ1 := σ) (kX9_holds e p1 σ _ hq4) ob_58 vl_X9_164 rfl (Nat.le_of_ble_eq_true rfl) dX9_tellPerson_41 ?_
      have hq := Option.some.inj hf
      subst hq
      exact a_iret rfl dX9_tellPerson_44
    · rw [if_neg hc3] at hf
      by_cases hc5 : p2 = (2 : Int32)
      · rw [if_pos hc5] at hf
        refine a_tabIn (2 : Int32) 45 dX9_tellPerson_1 hc5 (by decide) (by decide) rfl (by decide) ?_
        refine a_aload_n dX9_tellPerson_45 rfl 0 rfl ?_
        refine a_get (.ref 61) ob_58 (by decide) fl_X9_16 rfl dX9_tellPerson_46 ?_
        refine a_iload_n dX9_tellPerson_49 rfl 1 rfl ?_
        obtain ⟨hb6, hf⟩ := grd_elim hf
        refine a_iald ia_61 hb6 dX9_tellPerson_50 ?_
        have hq := Option.some.inj hf
        subst hq
        exact a_iret rfl dX9_tellPerson_51
      · rw [if_neg hc5] at hf
        by_cases hc7 : p2 = (3 : Int32)
        · rw [if_pos hc7] at hf
          refine a_tabIn (3 : Int32) 52 dX9_tellPerson_1 hc7 (by decide) (by decide) rfl (by decide) ?_
          refine a_aload_n dX9_tellPerson_52 rfl 0 rfl ?_
          refine a_get (.ref 64) ob_58 (by decide) fl_X9_25 rfl dX9_tellPerson_53 ?_
          refine a_iload_n dX9_tellPerson_56 rfl 1 rfl ?_
          obtain ⟨hb8, hf⟩ := grd_elim hf
          refine a_iald ia_64 hb8 dX9_tellPerson_57 ?_
          have hq := Option.some.inj hf
          subst hq
          exact a_iret rfl dX9_tellPerson_58
        · rw [if_neg hc7] at hf
          refine a_tabOut 59 dX9_tellPerson_1 (by have q0 := lv_neT hc1 (show Int32.toInt (0 : Int32) = 0 from rfl); have q1 := lv_neT hc3 (show Int32.toInt (1 : Int32) = 1 from rfl); have q2 := lv_neT hc5 (show Int32.toInt (2 : Int32) = 2 from rfl); have q3 := lv_neT hc7 (show Int32.toInt (3 : Int32) = 3 from rfl); omega) (by decide) ?_
          refine a_bipush (-102 : Int32) dX9_tellPerson_59 rfl ?_
          have hq := Option.some.inj hf
          subst hq
          exact a_iret rfl dX9_tellPerson_61
set_option maxHeartbeats 4000000 in
set_option maxRecDepth 100000 in
theorem kX9_about (e : Nat) (p1 : Int32) (p2 : Int32) (σ : St)  (q : Int32) (hf : fX9_about p1 p2 σ = some q) : Sp (e + 3) MX9_about [.ref 58, .int p1, .int p2] σ (some (.int q)) σ := by
  refine sp_of rfl (Nat.le_of_ble_eq_true rfl) (loc := [(0, .ref 58), (1, .int p1), (2, .int p2)]) rfl ?_
  unfold fX9_about at hf
  refine a_aload_n dX9_about_0 rfl 0 rfl ?_
  refine a_iload_n dX9_about_1 rfl 1 rfl ?_
  refine a_callV (as := [.int p1]) (stk := []) (q := some (.int (fX9_isPerson p1 σ))) (σ1 := σ) (kX9_isPerson (e + 1) p1 σ) ob_58 vl_X9_147 rfl (Nat.le_of_ble_eq_true rfl) dX9_about_2 ?_
  by_cases hc1 : (fX9_isPerson p1 σ) = 0
  · rw [if_pos hc1] at hf
    refine a_if_eq_t 17 dX9_about_5 (by decide) hc1 ?_
    refine a_bipush (-101 : Int32) dX9_about_17 rfl ?_
    have hq := Option.some.inj hf
    subst hq
    exact a_iret rfl dX9_about_19
  · rw [if_neg hc1] at hf
    refine a_if_eq_f 17 dX9_about_5 (by decide) hc1 ?_
    refine a_aload_n dX9_about_8 rfl 0 rfl ?_
    refine a_iload_n dX9_about_9 rfl 1 rfl ?_
    refine a_iload_n dX9_about_10 rfl 2 rfl ?_
    obtain ⟨q2, hq2, hf⟩ := obind hf
    refine a_callV (as := [.int p1, .int p2]) (stk := []) (q := some (.int q2)) (σ1 := σ) (kX9_tellPerson e p1 p2 σ _ hq2) ob_58 vl_X9_167 rfl (Nat.le_of_ble_eq_true rfl) dX9_about_11 ?_
    refine a_goto 19 dX9_about_14 (by decide) ?_
    have hq := Option.some.inj hf
    subst hq
    exact a_iret rfl dX9_about_19
set_option maxHeartbeats 4000000 in
set_option maxRecDepth 100000 in
theorem kX9_owes (e : Nat) (p1 : Int32) (p2 : Int32) (σ : St)  (q : Int32) (hf : fX9_owes p1 p2 σ = some q) : Sp (e + 3) MX9_owes [.ref 58, .int p1, .int p2] σ (some (.int q)) σ := by
  refine sp_of rfl (Nat.le_of_ble_eq_true rfl) (loc := [(0, .ref 58), (1, .int p1), (2, .int p2)]) rfl ?_
  unfold fX9_owes at hf
  refine a_aload_n dX9_owes_0 rfl 0 rfl ?_
  refine a_iload_n dX9_owes_1 rfl 1 rfl ?_
  refine a_iload_n dX9_owes_2 rfl 2 rfl ?_
  refine a_callV (as := [.int p1, .int p2]) (stk := []) (q := some (.int (fX9_arePair p1 p2 σ))) (σ1 := σ) (kX9_arePair e p1 p2 σ) ob_58 vl_X9_152 rfl (Nat.le_of_ble_eq_true rfl) dX9_owes_3 ?_
  by_cases hc1 : (fX9_arePair p1 p2 σ) = 0
  · rw [if_pos hc1] at hf
    refine a_if_eq_t 23 dX9_owes_6 (by decide) hc1 ?_
    refine a_bipush (-101 : Int32) dX9_owes_23 rfl ?_
    have hq := Option.some.inj hf
    subst hq
    exact a_iret rfl dX9_owes_25
  · rw [if_neg hc1] at hf
    refine a_if_eq_f 23 dX9_owes_6 (by decide) hc1 ?_
    refine a_aload_n dX9_owes_9 rfl 0 rfl ?_
    refine a_get (.ref 63) ob_58 (by decide) fl_X9_22 rfl dX9_owes_10 ?_
    refine a_bipush (8 : Int32) dX9_owes_13 rfl ?_
    refine a_iload_n dX9_owes_15 rfl 1 rfl ?_
    refine a_imul dX9_owes_16 ?_
    refine a_iload_n dX9_owes_17 rfl 2 rfl ?_
    refine a_iadd dX9_owes_18 ?_
    obtain ⟨hb2, hf⟩ := grd_elim hf
    refine a_iald ia_63 hb2 dX9_owes_19 ?_
    refine a_goto 25 dX9_owes_20 (by decide) ?_
    have hq := Option.some.inj hf
    subst hq
    exact a_iret rfl dX9_owes_25
set_option maxHeartbeats 4000000 in
set_option maxRecDepth 100000 in
theorem kX9_restOf_L4 (e : Nat) (c1 : Int32) (σ : St)  {r : Option Value} {τ : St} (q : (Int32)) : ∀ (n : Nat) (v2 : Int32) (v3 : Int32), fX9_restOf_L4 c1 σ n v2 v3 = some q → A e MX9_restOf 44 [(2, .int q)] [] σ r τ → A e MX9_restOf 4 [(0, .ref 58), (1, .int c1), (2, .int v2), (3, .int v3)] [] σ r τ := by
  intro n
  induction n with
  | zero =>
    intro v2 v3  hf
    simp only [fX9_restOf_L4] at hf
    exact absurd hf (by simp)
  | succ n ih =>
    intro v2 v3  hf h2
    rw [fX9_restOf_L4] at hf
    refine a_iload_n dX9_restOf_4 rfl 3 rfl ?_
    refine a_aload_n dX9_restOf_5 rfl 0 rfl ?_
    refine a_get (.int (σ.1 58 12)) ob_58 (by decide) fl_X9_144 rfl dX9_restOf_6 ?_
    by_cases hc1 : (σ.1 58 12) ≤ v3
    · rw [if_pos hc1] at hf
      refine a_icmp_ge_t 44 dX9_restOf_9 (by decide) hc1 ?_
      have hq := Option.some.inj hf
      rw [← hq] at h2
      refine a_locs (loc' := [(2, .int v2)]) [2] rfl ?_
      exact h2
    · rw [if_neg hc1] at hf
      refine a_icmp_ge_f 44 dX9_restOf_9 (by decide) hc1 ?_
      refine a_iload_n dX9_restOf_12 rfl 2 rfl ?_
      refine a_aload_n dX9_restOf_13 rfl 0 rfl ?_
      refine a_get (.ref 63) ob_58 (by decide) fl_X9_22 rfl dX9_restOf_14 ?_
      refine a_bipush (8 : Int32) dX9_restOf_17 rfl ?_
      refine a_iload_n dX9_restOf_19 rfl 3 rfl ?_
      refine a_imul dX9_restOf_20 ?_
      refine a_iload_n dX9_restOf_21 rfl 1 rfl ?_
      refine a_iadd dX9_restOf_22 ?_
      obtain ⟨hb2, hf⟩ := grd_elim hf
      refine a_iald ia_63 hb2 dX9_restOf_23 ?_
      refine a_aload_n dX9_restOf_24 rfl 0 rfl ?_
      refine a_get (.ref 63) ob_58 (by decide) fl_X9_22 rfl dX9_restOf_25 ?_
      refine a_bipush (8 : Int32) dX9_restOf_28 rfl ?_
      refine a_iload_n dX9_restOf_30 rfl 1 rfl ?_
      refine a_imul dX9_restOf_31 ?_
      refine a_iload_n dX9_restOf_32 rfl 3 rfl ?_
      refine a_iadd dX9_restOf_33 ?_
      obtain ⟨hb3, hf⟩ := grd_elim hf
      refine a_iald ia_63 hb3 dX9_restOf_34 ?_
      refine a_isub dX9_restOf_35 ?_
      refine a_iadd dX9_restOf_36 ?_
      obtain ⟨x4, hx4, hf⟩ := bnd_elim hf
      refine a_top (w := .int x4) (by rw [hx4]) ?_
      refine a_istore_n dX9_restOf_37 rfl (by decide) (loc' := [(2, .int x4), (0, .ref 58), (1, .int c1), (3, .int v3)]) rfl ?_
      refine a_iinc (v3 + (1 : Int32)) dX9_restOf_38 3 rfl rfl (by decide) (loc' := [(3, .int (v3 + (1 : Int32))), (2, .int x4), (0, .ref 58), (1, .int c1)]) rfl ?_
      refine a_goto 4 dX9_restOf_41 (by decide) ?_
      refine a_locs (loc' := [(0, .ref 58), (1, .int c1), (2, .int x4), (3, .int (v3 + (1 : Int32)))]) [2, 3, 1, 0] rfl ?_
      exact ih x4 (v3 + (1 : Int32)) hf h2
set_option maxHeartbeats 4000000 in
set_option maxRecDepth 100000 in
theorem kX9_restOf (e : Nat) (p1 : Int32) (σ : St)  (q : Int32) (hf : fX9_restOf p1 σ = some q) : Sp e MX9_restOf [.ref 58, .int p1] σ (some (.int q)) σ := by
  refine sp_of rfl (Nat.le_of_ble_eq_true rfl) (loc := [(0, .ref 58), (1, .int p1)]) rfl ?_
  unfold fX9_restOf at hf
  refine a_iconst (0 : Int32) dX9_restOf_0 rfl ?_
  refine a_istore_n dX9_restOf_1 rfl (by decide) (loc' := [(2, .int (0 : Int32)), (0, .ref 58), (1, .int p1)]) rfl ?_
  refine a_iconst (0 : Int32) dX9_restOf_2 rfl ?_
  refine a_istore_n dX9_restOf_3 rfl (by decide) (loc' := [(3, .int (0 : Int32)), (2, .int (0 : Int32)), (0, .ref 58), (1, .int p1)]) rfl ?_
  obtain ⟨q5, hr6, hf⟩ := obind hf
  have hA7 : A e MX9_restOf 44 [(2, .int q5)] [] σ (some (.int q)) σ := by
    refine a_iload_n dX9_restOf_44 rfl 0 rfl ?_
    have hq := Option.some.inj hf
    subst hq
    exact a_iret rfl dX9_restOf_45
  refine a_locs (loc' := [(0, .ref 58), (1, .int p1), (2, .int (0 : Int32)), (3, .int (0 : Int32))]) [2, 3, 1, 0] rfl ?_
  exact kX9_restOf_L4 e p1 σ q5 fu (0 : Int32) (0 : Int32) hr6 hA7
set_option maxHeartbeats 4000000 in
set_option maxRecDepth 100000 in
theorem kX9_rest (e : Nat) (p1 : Int32) (σ : St)  (q : Int32) (hf : fX9_rest p1 σ = some q) : Sp (e + 2) MX9_rest [.ref 58, .int p1] σ (some (.int q)) σ := by
  refine sp_of rfl (Nat.le_of_ble_eq_true rfl) (loc := [(0, .ref 58), (1, .int p1)]) rfl ?_
  unfold fX9_rest at hf
  refine a_aload_n dX9_rest_0 rfl 0 rfl ?_
  refine a_iload_n dX9_rest_1 rfl 1 rfl ?_
  refine a_callV (as := [.int p1]) (stk := []) (q := some (.int (fX9_isPerson p1 σ))) (σ1 := σ) (kX9_isPerson e p1 σ) ob_58 vl_X9_147 rfl (Nat.le_of_ble_eq_true rfl) dX9_rest_2 ?_
  by_cases hc1 : (fX9_isPerson p1 σ) = 0
  · rw [if_pos hc1] at hf
    refine a_if_eq_t 16 dX9_rest_5 (by decide) hc1 ?_
    refine a_ldc rfl kc_X9_174 dX9_rest_16 ?_
    have hq := Option.some.inj hf
    subst hq
    exact a_iret rfl dX9_rest_18
  · rw [if_neg hc1] at hf
    refine a_if_eq_f 16 dX9_rest_5 (by decide) hc1 ?_
    refine a_aload_n dX9_rest_8 rfl 0 rfl ?_
    refine a_iload_n dX9_rest_9 rfl 1 rfl ?_
    obtain ⟨q2, hq2, hf⟩ := obind hf
    refine a_callV (as := [.int p1]) (stk := []) (q := some (.int q2)) (σ1 := σ) (kX9_restOf (e + 1) p1 σ _ hq2) ob_58 vl_X9_171 rfl (Nat.le_of_ble_eq_true rfl) dX9_rest_10 ?_
    refine a_goto 18 dX9_rest_13 (by decide) ?_
    have hq := Option.some.inj hf
    subst hq
    exact a_iret rfl dX9_rest_18
set_option maxHeartbeats 4000000 in
set_option maxRecDepth 100000 in
theorem kX9_gift_L40 (e : Nat) (c1 : Int32) (c2 : Int32)   {r : Option Value} {τ : St} (q : (St)) : ∀ (n : Nat) (v3 : Int32) (σ : St), fX9_gift_L40 c1 c2 n v3 σ = some q → A (e + 2) MX9_gift 67 [(0, .ref 58), (1, .int c1), (2, .int c2)] [] q r τ → A (e + 2) MX9_gift 40 [(0, .ref 58), (1, .int c1), (2, .int c2), (3, .int v3)] [] σ r τ := by
  intro n
  induction n with
  | zero =>
    intro v3 σ  hf
    simp only [fX9_gift_L40] at hf
    exact absurd hf (by simp)
  | succ n ih =>
    intro v3 σ  hf h2
    rw [fX9_gift_L40] at hf
    refine a_iload_n dX9_gift_40 rfl 3 rfl ?_
    refine a_bipush (8 : Int32) dX9_gift_41 rfl ?_
    by_cases hc4 : (8 : Int32) ≤ v3
    · rw [if_pos hc4] at hf
      refine a_icmp_ge_t 67 dX9_gift_43 (by decide) hc4 ?_
      have hq := Option.some.inj hf
      rw [← hq] at h2
      refine a_locs (loc' := [(0, .ref 58), (1, .int c1), (2, .int c2)]) [0, 1, 2] rfl ?_
      exact h2
    · rw [if_neg hc4] at hf
      refine a_icmp_ge_f 67 dX9_gift_43 (by decide) hc4 ?_
      refine a_aload_n dX9_gift_46 rfl 0 rfl ?_
      refine a_get (.ref 65) ob_58 (by decide) fl_X9_28 rfl dX9_gift_47 ?_
      refine a_bipush (8 : Int32) dX9_gift_50 rfl ?_
      refine a_aload_n dX9_gift_52 rfl 0 rfl ?_
      refine a_get (.int (σ.1 58 20)) ob_58 (by decide) fl_X9_158 rfl dX9_gift_53 ?_
      refine a_imul dX9_gift_56 ?_
      refine a_iload_n dX9_gift_57 rfl 3 rfl ?_
      refine a_iadd dX9_gift_58 ?_
      refine a_iconst (0 : Int32) dX9_gift_59 rfl ?_
      obtain ⟨hb5, hf⟩ := grd_elim hf
      refine a_iast ia_65 hb5 dX9_gift_60 ?_
      obtain ⟨σ6, hσ6, hf⟩ := bnd_elim hf
      rw [← hσ6]
      refine a_iinc (v3 + (1 : Int32)) dX9_gift_61 3 rfl rfl (by decide) (loc' := [(3, .int (v3 + (1 : Int32))), (0, .ref 58), (1, .int c1), (2, .int c2)]) rfl ?_
      refine a_goto 40 dX9_gift_64 (by decide) ?_
      refine a_locs (loc' := [(0, .ref 58), (1, .int c1), (2, .int c2), (3, .int (v3 + (1 : Int32)))]) [1, 2, 3, 0] rfl ?_
      exact ih (v3 + (1 : Int32)) σ6 hf h2
set_option maxHeartbeats 4000000 in
set_option maxRecDepth 100000 in
theorem kX9_gift (e : Nat) (p1 : Int32) (p2 : Int32) (σ : St)  (q : Int32 × St) (hf : fX9_gift p1 p2 σ = some q) : Sp (e + 2) MX9_gift [.ref 58, .int p1, .int p2] σ (some (.int q.1)) q.2 := by
  refine sp_of rfl (Nat.le_of_ble_eq_true rfl) (loc := [(0, .ref 58), (1, .int p1), (2, .int p2)]) rfl ?_
  unfold fX9_gift at hf
  refine a_iload_n dX9_gift_0 rfl 1 rfl ?_
  refine a_i2l dX9_gift_1 ?_
  refine a_lconst (0 : Int64) dX9_gift_2 rfl ?_
  refine a_ldc2 rfl kc_X9_175 dX9_gift_3 ?_
  refine a_callS (as := [.long p1.toInt64, .long (0 : Int64), .long (4 : Int64)]) (stk := []) (q := some (.int (fX9_in p1.toInt64 (0 : Int64) (4 : Int64)))) (σ1 := σ) (kX9_in (e + 1) p1.toInt64 (0 : Int64) (4 : Int64) σ) sl_X9_108 rfl (Nat.le_of_ble_eq_true rfl) dX9_gift_6 ?_
  by_cases hc1 : (fX9_in p1.toInt64 (0 : Int64) (4 : Int64)) = 0
  · rw [if_pos hc1] at hf
    refine a_if_ne_f 15 dX9_gift_9 (by decide) hc1 ?_
    refine a_bipush (-102 : Int32) dX9_gift_12 rfl ?_
    have hq := Option.some.inj hf
    subst hq
    exact a_iret rfl dX9_gift_14
  · rw [if_neg hc1] at hf
    refine a_if_ne_t 15 dX9_gift_9 (by decide) hc1 ?_
    refine a_aload_n dX9_gift_15 rfl 0 rfl ?_
    refine a_iload_n dX9_gift_16 rfl 2 rfl ?_
    refine a_callV (as := [.int p2]) (stk := []) (q := some (.int (fX9_isPerson p2 σ))) (σ1 := σ) (kX9_isPerson e p2 σ) ob_58 vl_X9_147 rfl (Nat.le_of_ble_eq_true rfl) dX9_gift_17 ?_
    by_cases hc2 : (fX9_isPerson p2 σ) = 0
    · rw [if_pos hc2] at hf
      refine a_if_ne_f 26 dX9_gift_20 (by decide) hc2 ?_
      refine a_bipush (-101 : Int32) dX9_gift_23 rfl ?_
      have hq := Option.some.inj hf
      subst hq
      exact a_iret rfl dX9_gift_25
    · rw [if_neg hc2] at hf
      refine a_if_ne_t 26 dX9_gift_20 (by decide) hc2 ?_
      refine a_aload_n dX9_gift_26 rfl 0 rfl ?_
      refine a_get (.int (σ.1 58 20)) ob_58 (by decide) fl_X9_158 rfl dX9_gift_27 ?_
      refine a_bipush (8 : Int32) dX9_gift_30 rfl ?_
      by_cases hc3 : (σ.1 58 20) = (8 : Int32)
      · rw [if_pos hc3] at hf
        refine a_icmp_ne_f 38 dX9_gift_32 (by decide) hc3 ?_
        refine a_bipush (-104 : Int32) dX9_gift_35 rfl ?_
        have hq := Option.some.inj hf
        subst hq
        exact a_iret rfl dX9_gift_37
      · rw [if_neg hc3] at hf
        refine a_icmp_ne_t 38 dX9_gift_32 (by decide) hc3 ?_
        refine a_iconst (0 : Int32) dX9_gift_38 rfl ?_
        refine a_istore_n dX9_gift_39 rfl (by decide) (loc' := [(3, .int (0 : Int32)), (0, .ref 58), (1, .int p1), (2, .int p2)]) rfl ?_
        obtain ⟨q7, hr17, hf⟩ := obind hf
        have hA18 : A (e + 2) MX9_gift 67 [(0, .ref 58), (1, .int p1), (2, .int p2)] [] q7 (some (.int q.1)) q.2 := by
          refine a_aload_n dX9_gift_67 rfl 0 rfl ?_
          refine a_get (.ref 65) ob_58 (by decide) fl_X9_28 rfl dX9_gift_68 ?_
          refine a_bipush (8 : Int32) dX9_gift_71 rfl ?_
          refine a_aload_n dX9_gift_73 rfl 0 rfl ?_
          refine a_get (.int (q7.1 58 20)) ob_58 (by decide) fl_X9_158 rfl dX9_gift_74 ?_
          refine a_imul dX9_gift_77 ?_
          refine a_iload_n dX9_gift_78 rfl 1 rfl ?_
          obtain ⟨hb8, hf⟩ := grd_elim hf
          refine a_iast ia_65 hb8 dX9_gift_79 ?_
          obtain ⟨σ9, hσ9, hf⟩ := bnd_elim hf
          rw [← hσ9]
          refine a_aload_n dX9_gift_80 rfl 0 rfl ?_
          refine a_get (.ref 65) ob_58 (by decide) fl_X9_28 rfl dX9_gift_81 ?_
          refine a_bipush (8 : Int32) dX9_gift_84 rfl ?_
          refine a_aload_n dX9_gift_86 rfl 0 rfl ?_
          refine a_get (.int (σ9.1 58 20)) ob_58 (by decide) fl_X9_158 rfl dX9_gift_87 ?_
          refine a_imul dX9_gift_90 ?_
          refine a_iconst (1 : Int32) dX9_gift_91 rfl ?_
          refine a_iadd dX9_gift_92 ?_
          refine a_iload_n dX9_gift_93 rfl 2 rfl ?_
          obtain ⟨hb10, hf⟩ := grd_elim hf
          refine a_iast ia_65 hb10 dX9_gift_94 ?_
          obtain ⟨σ11, hσ11, hf⟩ := bnd_elim hf
          rw [← hσ11]
          refine a_aload_n dX9_gift_95 rfl 0 rfl ?_
          refine a_get (.ref 65) ob_58 (by decide) fl_X9_28 rfl dX9_gift_96 ?_
          refine a_bipush (8 : Int32) dX9_gift_99 rfl ?_
          refine a_aload_n dX9_gift_101 rfl 0 rfl ?_
          refine a_get (.int (σ11.1 58 20)) ob_58 (by decide) fl_X9_158 rfl dX9_gift_102 ?_
          refine a_imul dX9_gift_105 ?_
          refine a_iconst (2 : Int32) dX9_gift_106 rfl ?_
          refine a_iadd dX9_gift_107 ?_
          refine a_iload_n dX9_gift_108 rfl 2 rfl ?_
          obtain ⟨hb12, hf⟩ := grd_elim hf
          refine a_iast ia_65 hb12 dX9_gift_109 ?_
          obtain ⟨σ13, hσ13, hf⟩ := bnd_elim hf
          rw [← hσ13]
          refine a_aload_n dX9_gift_110 rfl 0 rfl ?_
          refine a_get (.ref 65) ob_58 (by decide) fl_X9_28 rfl dX9_gift_111 ?_
          refine a_bipush (8 : Int32) dX9_gift_114 rfl ?_
          refine a_aload_n dX9_gift_116 rfl 0 rfl ?_
          refine a_get (.int (σ13.1 58 20)) ob_58 (by decide) fl_X9_158 rfl dX9_gift_117 ?_
          refine a_imul dX9_gift_120 ?_
          refine a_iconst (3 : Int32) dX9_gift_121 rfl ?_
          refine a_iadd dX9_gift_122 ?_
          refine a_iconst (-1 : Int32) dX9_gift_123 rfl ?_
          obtain ⟨hb14, hf⟩ := grd_elim hf
          refine a_iast ia_65 hb14 dX9_gift_124 ?_
          obtain ⟨σ15, hσ15, hf⟩ := bnd_elim hf
          rw [← hσ15]
          refine a_aload_n dX9_gift_125 rfl 0 rfl ?_
          refine a_dup rfl dX9_gift_126 ?_
          refine a_get (.int (σ15.1 58 20)) ob_58 (by decide) fl_X9_158 rfl dX9_gift_127 ?_
          refine a_iconst (1 : Int32) dX9_gift_130 rfl ?_
          refine a_iadd dX9_gift_131 ?_
          refine a_putI ob_58 (by decide) fp_X9_158 (Or.inl rfl) dX9_gift_132 ?_
          obtain ⟨σ16, hσ16, hf⟩ := bnd_elim hf
          rw [← hσ16]
          refine a_aload_n dX9_gift_135 rfl 0 rfl ?_
          refine a_get (.int (σ16.1 58 20)) ob_58 (by decide) fl_X9_158 rfl dX9_gift_136 ?_
          refine a_iconst (1 : Int32) dX9_gift_139 rfl ?_
          refine a_isub dX9_gift_140 ?_
          have hq := Option.some.inj hf
          subst hq
          exact a_iret rfl dX9_gift_141
        refine a_locs (loc' := [(0, .ref 58), (1, .int p1), (2, .int p2), (3, .int (0 : Int32))]) [1, 2, 3, 0] rfl ?_
        exact kX9_gift_L40 e p1 p2 q7 fu (0 : Int32) σ hr17 hA18
set_option maxHeartbeats 4000000 in
set_option maxRecDepth 100000 in
theorem kX9_worthOf (e : Nat) (p1 : Int32) (σ : St)  (q : Int32) (hf : fX9_worthOf p1 σ = some q) : Sp e MX9_worthOf [.ref 58, .int p1] σ (some (.int q)) σ := by
  refine sp_of rfl (Nat.le_of_ble_eq_true rfl) (loc := [(0, .ref 58), (1, .int p1)]) rfl ?_
  unfold fX9_worthOf at hf
  refine a_bipush (10 : Int32) dX9_worthOf_0 rfl ?_
  refine a_aload_n dX9_worthOf_2 rfl 0 rfl ?_
  refine a_get (.ref 65) ob_58 (by decide) fl_X9_28 rfl dX9_worthOf_3 ?_
  refine a_bipush (8 : Int32) dX9_worthOf_6 rfl ?_
  refine a_iload_n dX9_worthOf_8 rfl 1 rfl ?_
  refine a_imul dX9_worthOf_9 ?_
  refine a_iconst (4 : Int32) dX9_worthOf_10 rfl ?_
  refine a_iadd dX9_worthOf_11 ?_
  obtain ⟨hb1, hf⟩ := grd_elim hf
  refine a_iald ia_65 hb1 dX9_worthOf_12 ?_
  refine a_isub dX9_worthOf_13 ?_
  obtain ⟨x2, hx2, hf⟩ := bnd_elim hf
  refine a_top (w := .int x2) (by rw [hx2]) ?_
  refine a_istore_n dX9_worthOf_14 rfl (by decide) (loc' := [(2, .int x2), (0, .ref 58), (1, .int p1)]) rfl ?_
  refine a_aload_n dX9_worthOf_15 rfl 1 rfl ?_
  refine a_get (.ref 65) ob_58 (by decide) fl_X9_28 rfl dX9_worthOf_16 ?_
  refine a_bipush (8 : Int32) dX9_worthOf_19 rfl ?_
  refine a_iload_n dX9_worthOf_21 rfl 2 rfl ?_
  refine a_imul dX9_worthOf_22 ?_
  refine a_bipush (7 : Int32) dX9_worthOf_23 rfl ?_
  refine a_iadd dX9_worthOf_25 ?_
  obtain ⟨hb3, hf⟩ := grd_elim hf
  refine a_iald ia_65 hb3 dX9_worthOf_26 ?_
  refine a_bipush (9 : Int32) dX9_worthOf_27 rfl ?_
  obtain ⟨q5, hr12, hf⟩ := obind hf
  have hA11 : A e MX9_worthOf 49 [(0, .ref 58), (1, .int p1), (2, .int x2)] [.int q5] σ (some (.int q)) σ := by
    refine a_istore_n dX9_worthOf_49 rfl (by decide) (loc' := [(3, .int q5), (0, .ref 58), (1, .int p1), (2, .int x2)]) rfl ?_
    refine a_iload_n dX9_worthOf_50 rfl 3 rfl ?_
    refine a_iconst (1 : Int32) dX9_worthOf_51 rfl ?_
    obtain ⟨x7, hx7, hf⟩ := bnd_elim hf
    have hA10 : A e MX9_worthOf 60 [(0, .ref 58), (1, .int p1), (3, .int q5)] [.int x7] σ (some (.int q)) σ := by
      refine a_aload_n dX9_worthOf_60 rfl 0 rfl ?_
      refine a_get (.ref 65) ob_58 (by decide) fl_X9_28 rfl dX9_worthOf_61 ?_
      refine a_bipush (8 : Int32) dX9_worthOf_64 rfl ?_
      refine a_iload_n dX9_worthOf_66 rfl 1 rfl ?_
      refine a_imul dX9_worthOf_67 ?_
      obtain ⟨hb8, hf⟩ := grd_elim hf
      refine a_iald ia_65 hb8 dX9_worthOf_68 ?_
      refine a_iconst (2 : Int32) dX9_worthOf_69 rfl ?_
      by_cases hc9 : (σ.1 65 ((8 : Int32) * p1).toNatClampNeg) = (2 : Int32)
      · rw [if_pos hc9] at hf
        refine a_icmp_ne_f 77 dX9_worthOf_70 (by decide) hc9 ?_
        refine a_iload_n dX9_worthOf_73 rfl 2 rfl ?_
        refine a_goto 78 dX9_worthOf_74 (by decide) ?_
        refine a_iadd dX9_worthOf_78 ?_
        have hq := Option.some.inj hf
        subst hq
        exact a_iret rfl dX9_worthOf_79
      · rw [if_neg hc9] at hf
        refine a_icmp_ne_t 77 dX9_worthOf_70 (by decide) hc9 ?_
        refine a_iconst (0 : Int32) dX9_worthOf_77 rfl ?_
        refine a_iadd dX9_worthOf_78 ?_
        have hq := Option.some.inj hf
        subst hq
        exact a_iret rfl dX9_worthOf_79
    clear hf
    by_cases hc6 : (1 : Int32) ≤ x2
    · rw [if_pos hc6] at hx7
      refine a_icmp_ge_t 59 dX9_worthOf_52 (by decide) hc6 ?_
      refine a_iload_n dX9_worthOf_59 rfl 3 rfl ?_
      replace hx7 := hx7.symm; subst hx7
      refine a_locs (loc' := [(0, .ref 58), (1, .int p1), (3, .int q5)]) [1, 2, 0] rfl ?_
      exact hA10
    · rw [if_neg hc6] at hx7
      refine a_icmp_ge_f 59 dX9_worthOf_52 (by decide) hc6 ?_
      refine a_iconst (1 : Int32) dX9_worthOf_55 rfl ?_
      refine a_goto 60 dX9_worthOf_56 (by decide) ?_
      replace hx7 := hx7.symm; subst hx7
      refine a_locs (loc' := [(0, .ref 58), (1, .int p1), (3, .int q5)]) [1, 2, 0] rfl ?_
      exact hA10
  clear hf
  have hf := hr12
  clear hr12
  by_cases hc4 : (σ.1 65 (((8 : Int32) * p1) + (7 : Int32)).toNatClampNeg) ≤ (9 : Int32)
  · rw [if_pos hc4] at hf
    refine a_icmp_le_t 37 dX9_worthOf_29 (by decide) hc4 ?_
    refine a_aload_n dX9_worthOf_37 rfl 1 rfl ?_
    refine a_get (.ref 65) ob_58 (by decide) fl_X9_28 rfl dX9_worthOf_38 ?_
    refine a_bipush (8 : Int32) dX9_worthOf_41 rfl ?_
    refine a_iload_n dX9_worthOf_43 rfl 2 rfl ?_
    refine a_imul dX9_worthOf_44 ?_
    refine a_bipush (7 : Int32) dX9_worthOf_45 rfl ?_
    refine a_iadd dX9_worthOf_47 ?_
    obtain ⟨hb13, hf⟩ := grd_elim hf
    refine a_iald ia_65 hb13 dX9_worthOf_48 ?_
    have hq := Option.some.inj hf
    subst hq
    refine a_locs (loc' := [(0, .ref 58), (1, .int p1), (2, .int x2)]) [1, 2, 0] rfl ?_
    exact hA11
  · rw [if_neg hc4] at hf
    refine a_icmp_le_f 37 dX9_worthOf_29 (by decide) hc4 ?_
    refine a_bipush (9 : Int32) dX9_worthOf_32 rfl ?_
    refine a_goto 49 dX9_worthOf_34 (by decide) ?_
    have hq := Option.some.inj hf
    subst hq
    refine a_locs (loc' := [(0, .ref 58), (1, .int p1), (2, .int x2)]) [1, 2, 0] rfl ?_
    exact hA11
set_option maxHeartbeats 4000000 in
set_option maxRecDepth 100000 in
theorem kX9_tellGift (e : Nat) (p1 : Int32) (p2 : Int32) (σ : St)  (q : Int32) (hf : fX9_tellGift p1 p2 σ = some q) : Sp (e + 1) MX9_tellGift [.ref 58, .int p1, .int p2] σ (some (.int q)) σ := by
  refine sp_of rfl (Nat.le_of_ble_eq_true rfl) (loc := [(0, .ref 58), (1, .int p1), (2, .int p2)]) rfl ?_
  unfold fX9_tellGift at hf
  refine a_iload_n dX9_tellGift_0 rfl 2 rfl ?_
  refine a_bipush (6 : Int32) dX9_tellGift_1 rfl ?_
  by_cases hc1 : p2 = (6 : Int32)
  · rw [if_pos hc1] at hf
    refine a_icmp_ne_f 12 dX9_tellGift_3 (by decide) hc1 ?_
    refine a_aload_n dX9_tellGift_6 rfl 0 rfl ?_
    refine a_iload_n dX9_tellGift_7 rfl 1 rfl ?_
    obtain ⟨q2, hq2, hf⟩ := obind hf
    refine a_callV (as := [.int p1]) (stk := []) (q := some (.int q2)) (σ1 := σ) (kX9_worthOf e p1 σ _ hq2) ob_58 vl_X9_177 rfl (Nat.le_of_ble_eq_true rfl) dX9_tellGift_8 ?_
    have hq := Option.some.inj hf
    subst hq
    exact a_iret rfl dX9_tellGift_11
  · rw [if_neg hc1] at hf
    refine a_icmp_ne_t 12 dX9_tellGift_3 (by decide) hc1 ?_
    refine a_iload_n dX9_tellGift_12 rfl 2 rfl ?_
    refine a_i2l dX9_tellGift_13 ?_
    refine a_lconst (0 : Int64) dX9_tellGift_14 rfl ?_
    refine a_ldc2 rfl kc_X9_180 dX9_tellGift_15 ?_
    refine a_callS (as := [.long p2.toInt64, .long (0 : Int64), .long (8 : Int64)]) (stk := []) (q := some (.int (fX9_in p2.toInt64 (0 : Int64) (8 : Int64)))) (σ1 := σ) (kX9_in e p2.toInt64 (0 : Int64) (8 : Int64) σ) sl_X9_108 rfl (Nat.le_of_ble_eq_true rfl) dX9_tellGift_18 ?_
    by_cases hc3 : (fX9_in p2.toInt64 (0 : Int64) (8 : Int64)) = 0
    · rw [if_pos hc3] at hf
      refine a_if_eq_t 50 dX9_tellGift_21 (by decide) hc3 ?_
      refine a_bipush (-102 : Int32) dX9_tellGift_50 rfl ?_
      have hq := Option.some.inj hf
      subst hq
      exact a_iret rfl dX9_tellGift_52
    · rw [if_neg hc3] at hf
      refine a_if_eq_f 50 dX9_tellGift_21 (by decide) hc3 ?_
      refine a_aload_n dX9_tellGift_24 rfl 0 rfl ?_
      refine a_get (.ref 65) ob_58 (by decide) fl_X9_28 rfl dX9_tellGift_25 ?_
      refine a_bipush (8 : Int32) dX9_tellGift_28 rfl ?_
      refine a_iload_n dX9_tellGift_30 rfl 1 rfl ?_
      refine a_imul dX9_tellGift_31 ?_
      refine a_iload_n dX9_tellGift_32 rfl 2 rfl ?_
      refine a_bipush (6 : Int32) dX9_tellGift_33 rfl ?_
      obtain ⟨x5, hx5, hf⟩ := bnd_elim hf
      have hA7 : A (e + 1) MX9_tellGift 45 [] [.int x5, .int ((8 : Int32) * p1), .ref 65] σ (some (.int q)) σ := by
        refine a_iadd dX9_tellGift_45 ?_
        obtain ⟨hb6, hf⟩ := grd_elim hf
        refine a_iald ia_65 hb6 dX9_tellGift_46 ?_
        refine a_goto 52 dX9_tellGift_47 (by decide) ?_
        have hq := Option.some.inj hf
        subst hq
        exact a_iret rfl dX9_tellGift_52
      clear hf
      by_cases hc4 : p2 ≤ (6 : Int32)
      · rw [if_pos hc4] at hx5
        refine a_icmp_le_t 44 dX9_tellGift_35 (by decide) hc4 ?_
        refine a_iload_n dX9_tellGift_44 rfl 2 rfl ?_
        replace hx5 := hx5.symm; subst hx5
        refine a_locs (loc' := []) [] rfl ?_
        exact hA7
      · rw [if_neg hc4] at hx5
        refine a_icmp_le_f 44 dX9_tellGift_35 (by decide) hc4 ?_
        refine a_iload_n dX9_tellGift_38 rfl 2 rfl ?_
        refine a_iconst (1 : Int32) dX9_tellGift_39 rfl ?_
        refine a_isub dX9_tellGift_40 ?_
        refine a_goto 45 dX9_tellGift_41 (by decide) ?_
        replace hx5 := hx5.symm; subst hx5
        refine a_locs (loc' := []) [] rfl ?_
        exact hA7
set_option maxHeartbeats 4000000 in
set_option maxRecDepth 100000 in
theorem kX9_told (e : Nat) (p1 : Int32) (p2 : Int32) (σ : St)  (q : Int32) (hf : fX9_told p1 p2 σ = some q) : Sp (e + 2) MX9_told [.ref 58, .int p1, .int p2] σ (some (.int q)) σ := by
  refine sp_of rfl (Nat.le_of_ble_eq_true rfl) (loc := [(0, .ref 58), (1, .int p1), (2, .int p2)]) rfl ?_
  unfold fX9_told at hf
  refine a_aload_n dX9_told_0 rfl 0 rfl ?_
  refine a_iload_n dX9_told_1 rfl 1 rfl ?_
  refine a_callV (as := [.int p1]) (stk := []) (q := some (.int (fX9_isGift p1 σ))) (σ1 := σ) (kX9_isGift e p1 σ) ob_58 vl_X9_182 rfl (Nat.le_of_ble_eq_true rfl) dX9_told_2 ?_
  by_cases hc1 : (fX9_isGift p1 σ) = 0
  · rw [if_pos hc1] at hf
    refine a_if_eq_t 17 dX9_told_5 (by decide) hc1 ?_
    refine a_bipush (-101 : Int32) dX9_told_17 rfl ?_
    have hq := Option.some.inj hf
    subst hq
    exact a_iret rfl dX9_told_19
  · rw [if_neg hc1] at hf
    refine a_if_eq_f 17 dX9_told_5 (by decide) hc1 ?_
    refine a_aload_n dX9_told_8 rfl 0 rfl ?_
    refine a_iload_n dX9_told_9 rfl 1 rfl ?_
    refine a_iload_n dX9_told_10 rfl 2 rfl ?_
    obtain ⟨q2, hq2, hf⟩ := obind hf
    refine a_callV (as := [.int p1, .int p2]) (stk := []) (q := some (.int q2)) (σ1 := σ) (kX9_tellGift e p1 p2 σ _ hq2) ob_58 vl_X9_185 rfl (Nat.le_of_ble_eq_true rfl) dX9_told_11 ?_
    refine a_goto 19 dX9_told_14 (by decide) ?_
    have hq := Option.some.inj hf
    subst hq
    exact a_iret rfl dX9_told_19
set_option maxHeartbeats 4000000 in
set_option maxRecDepth 100000 in
theorem kX9_as (e : Nat) (p1 : Int32) (p2 : Int32) (σ : St)  (q : Int32) (hf : fX9_as p1 p2 σ = some q) : Sp (e + 2) MX9_as [.ref 58, .int p1, .int p2] σ (some (.int q)) σ := by
  refine sp_of rfl (Nat.le_of_ble_eq_true rfl) (loc := [(0, .ref 58), (1, .int p1), (2, .int p2)]) rfl ?_
  unfold fX9_as at hf
  refine a_aload_n dX9_as_0 rfl 0 rfl ?_
  refine a_iload_n dX9_as_1 rfl 1 rfl ?_
  refine a_callV (as := [.int p1]) (stk := []) (q := some (.int (fX9_isGift p1 σ))) (σ1 := σ) (kX9_isGift e p1 σ) ob_58 vl_X9_182 rfl (Nat.le_of_ble_eq_true rfl) dX9_as_2 ?_
  by_cases hc1 : (fX9_isGift p1 σ) = 0
  · rw [if_pos hc1] at hf
    refine a_if_ne_f 11 dX9_as_5 (by decide) hc1 ?_
    refine a_bipush (-101 : Int32) dX9_as_8 rfl ?_
    have hq := Option.some.inj hf
    subst hq
    exact a_iret rfl dX9_as_10
  · rw [if_neg hc1] at hf
    refine a_if_ne_t 11 dX9_as_5 (by decide) hc1 ?_
    refine a_iload_n dX9_as_11 rfl 2 rfl ?_
    refine a_i2l dX9_as_12 ?_
    refine a_lconst (0 : Int64) dX9_as_13 rfl ?_
    refine a_ldc2 rfl kc_X9_175 dX9_as_14 ?_
    refine a_callS (as := [.long p2.toInt64, .long (0 : Int64), .long (4 : Int64)]) (stk := []) (q := some (.int (fX9_in p2.toInt64 (0 : Int64) (4 : Int64)))) (σ1 := σ) (kX9_in (e + 1) p2.toInt64 (0 : Int64) (4 : Int64) σ) sl_X9_108 rfl (Nat.le_of_ble_eq_true rfl) dX9_as_17 ?_
    by_cases hc2 : (fX9_in p2.toInt64 (0 : Int64) (4 : Int64)) = 0
    · rw [if_pos hc2] at hf
      refine a_if_ne_f 26 dX9_as_20 (by decide) hc2 ?_
      refine a_bipush (-102 : Int32) dX9_as_23 rfl ?_
      have hq := Option.some.inj hf
      subst hq
      exact a_iret rfl dX9_as_25
    · rw [if_neg hc2] at hf
      refine a_if_ne_t 26 dX9_as_20 (by decide) hc2 ?_
      refine a_aload_n dX9_as_26 rfl 0 rfl ?_
      refine a_get (.ref 65) ob_58 (by decide) fl_X9_28 rfl dX9_as_27 ?_
      refine a_bipush (8 : Int32) dX9_as_30 rfl ?_
      refine a_iload_n dX9_as_32 rfl 1 rfl ?_
      refine a_imul dX9_as_33 ?_
      obtain ⟨hb3, hf⟩ := grd_elim hf
      refine a_iald ia_65 hb3 dX9_as_34 ?_
      obtain ⟨x4, hx4, hf⟩ := bnd_elim hf
      refine a_top (w := .int x4) (by rw [hx4]) ?_
      refine a_istore_n dX9_as_35 rfl (by decide) (loc' := [(3, .int x4), (0, .ref 58), (1, .int p1), (2, .int p2)]) rfl ?_
      refine a_iload_n dX9_as_36 rfl 3 rfl ?_
      obtain ⟨x6, hx6, hf⟩ := bnd_elim hf
      have hA8 : A (e + 2) MX9_as 60 [(1, .int p1)] [.int x6] σ (some (.int q)) σ := by
        refine a_istore dX9_as_60 (by decide) (loc' := [(4, .int x6), (1, .int p1)]) rfl ?_
        refine a_iload dX9_as_62 0 rfl ?_
        by_cases hc7 : x6 = 0
        · rw [if_pos hc7] at hf
          refine a_if_eq_t 71 dX9_as_64 (by decide) hc7 ?_
          refine a_iconst (-1 : Int32) dX9_as_71 rfl ?_
          have hq := Option.some.inj hf
          subst hq
          exact a_iret rfl dX9_as_72
        · rw [if_neg hc7] at hf
          refine a_if_eq_f 71 dX9_as_64 (by decide) hc7 ?_
          refine a_iload_n dX9_as_67 rfl 1 rfl ?_
          refine a_goto 72 dX9_as_68 (by decide) ?_
          have hq := Option.some.inj hf
          subst hq
          exact a_iret rfl dX9_as_72
      clear hf
      by_cases hc5 : p2 = 0
      · rw [if_pos hc5] at hx6
        refine a_if_eq_t 55 dX9_as_37 (by decide) hc5 ?_
        refine a_iconst (1 : Int32) dX9_as_55 rfl ?_
        refine a_goto 60 dX9_as_56 (by decide) ?_
        replace hx6 := hx6.symm; subst hx6
        refine a_locs (loc' := [(1, .int p1)]) [2] rfl ?_
        exact hA8
      · rw [if_neg hc5] at hx6
        refine a_if_eq_f 55 dX9_as_37 (by decide) hc5 ?_
        refine a_iload_n dX9_as_40 rfl 3 rfl ?_
        refine a_iload_n dX9_as_41 rfl 0 rfl ?_
        by_cases hc9 : p2 = x4
        · rw [if_pos hc9] at hx6
          refine a_icmp_eq_t 55 dX9_as_42 (by decide) hc9 ?_
          refine a_iconst (1 : Int32) dX9_as_55 rfl ?_
          refine a_goto 60 dX9_as_56 (by decide) ?_
          replace hx6 := hx6.symm; subst hx6
          refine a_locs (loc' := [(1, .int p1)]) [2] rfl ?_
          exact hA8
        · rw [if_neg hc9] at hx6
          refine a_icmp_eq_f 55 dX9_as_42 (by decide) hc9 ?_
          refine a_iload_n dX9_as_45 rfl 3 rfl ?_
          refine a_iconst (1 : Int32) dX9_as_46 rfl ?_
          by_cases hc10 : p2 = (1 : Int32)
          · rw [if_pos hc10] at hx6
            refine a_icmp_ne_f 59 dX9_as_47 (by decide) hc10 ?_
            refine a_iload_n dX9_as_50 rfl 0 rfl ?_
            refine a_iconst (4 : Int32) dX9_as_51 rfl ?_
            by_cases hc11 : x4 = (4 : Int32)
            · rw [if_pos hc11] at hx6
              refine a_icmp_ne_f 59 dX9_as_52 (by decide) hc11 ?_
              refine a_iconst (1 : Int32) dX9_as_55 rfl ?_
              refine a_goto 60 dX9_as_56 (by decide) ?_
              replace hx6 := hx6.symm; subst hx6
              refine a_locs (loc' := [(1, .int p1)]) [2] rfl ?_
              exact hA8
            · rw [if_neg hc11] at hx6
              refine a_icmp_ne_t 59 dX9_as_52 (by decide) hc11 ?_
              refine a_iconst (0 : Int32) dX9_as_59 rfl ?_
              replace hx6 := hx6.symm; subst hx6
              refine a_locs (loc' := [(1, .int p1)]) [2] rfl ?_
              exact hA8
          · rw [if_neg hc10] at hx6
            refine a_icmp_ne_t 59 dX9_as_47 (by decide) hc10 ?_
            refine a_iconst (0 : Int32) dX9_as_59 rfl ?_
            replace hx6 := hx6.symm; subst hx6
            refine a_locs (loc' := [(1, .int p1)]) [2] rfl ?_
            exact hA8
set_option maxHeartbeats 4000000 in
set_option maxRecDepth 100000 in
theorem kX9_mayHave (e : Nat) (p1 : Int32) (p2 : Int32) (σ : St)  (q : Int32) (hf : fX9_mayHave p1 p2 σ = some q) : Sp e MX9_mayHave [.ref 58, .int p1, .int p2] σ (some (.int q)) σ := by
  refine sp_of rfl (Nat.le_of_ble_eq_true rfl) (loc := [(0, .ref 58), (1, .int p1), (2, .int p2)]) rfl ?_
  unfold fX9_mayHave at hf
  refine a_iload_n dX9_mayHave_0 rfl 2 rfl ?_
  refine a_iconst (-1 : Int32) dX9_mayHave_1 rfl ?_
  obtain ⟨q2, hr7, hf⟩ := obind hf
  have hA6 : A e MX9_mayHave 26 [(0, .ref 58), (1, .int p1)] [.int q2] σ (some (.int q)) σ := by
    refine a_istore_n dX9_mayHave_26 rfl (by decide) (loc' := [(3, .int q2), (0, .ref 58), (1, .int p1)]) rfl ?_
    refine a_iload_n dX9_mayHave_27 rfl 0 rfl ?_
    by_cases hc3 : q2 = 0
    · rw [if_pos hc3] at hf
      refine a_if_ne_f 48 dX9_mayHave_28 (by decide) hc3 ?_
      refine a_aload_n dX9_mayHave_31 rfl 1 rfl ?_
      refine a_get (.int (σ.1 58 3)) ob_58 (by decide) fl_X9_131 rfl dX9_mayHave_32 ?_
      refine a_iconst (1 : Int32) dX9_mayHave_35 rfl ?_
      by_cases hc4 : (σ.1 58 3) = (1 : Int32)
      · rw [if_pos hc4] at hf
        refine a_icmp_ne_f 48 dX9_mayHave_36 (by decide) hc4 ?_
        refine a_aload_n dX9_mayHave_39 rfl 1 rfl ?_
        refine a_get (.ref 61) ob_58 (by decide) fl_X9_16 rfl dX9_mayHave_40 ?_
        refine a_iload_n dX9_mayHave_43 rfl 2 rfl ?_
        obtain ⟨hb5, hf⟩ := grd_elim hf
        refine a_iald ia_61 hb5 dX9_mayHave_44 ?_
        refine a_goto 49 dX9_mayHave_45 (by decide) ?_
        have hq := Option.some.inj hf
        subst hq
        exact a_iret rfl dX9_mayHave_49
      · rw [if_neg hc4] at hf
        refine a_icmp_ne_t 48 dX9_mayHave_36 (by decide) hc4 ?_
        refine a_iload_n dX9_mayHave_48 rfl 0 rfl ?_
        have hq := Option.some.inj hf
        subst hq
        exact a_iret rfl dX9_mayHave_49
    · rw [if_neg hc3] at hf
      refine a_if_ne_t 48 dX9_mayHave_28 (by decide) hc3 ?_
      refine a_iload_n dX9_mayHave_48 rfl 0 rfl ?_
      have hq := Option.some.inj hf
      subst hq
      exact a_iret rfl dX9_mayHave_49
  clear hf
  have hf := hr7
  clear hr7
  by_cases hc1 : p2 = (-1 : Int32)
  · rw [if_pos hc1] at hf
    refine a_icmp_ne_f 14 dX9_mayHave_2 (by decide) hc1 ?_
    refine a_aload_n dX9_mayHave_5 rfl 0 rfl ?_
    refine a_get (.ref 61) ob_58 (by decide) fl_X9_16 rfl dX9_mayHave_6 ?_
    refine a_iload_n dX9_mayHave_9 rfl 1 rfl ?_
    obtain ⟨hb8, hf⟩ := grd_elim hf
    refine a_iald ia_61 hb8 dX9_mayHave_10 ?_
    refine a_goto 26 dX9_mayHave_11 (by decide) ?_
    have hq := Option.some.inj hf
    subst hq
    refine a_locs (loc' := [(0, .ref 58), (1, .int p1)]) [0, 1] rfl ?_
    exact hA6
  · rw [if_neg hc1] at hf
    refine a_icmp_ne_t 14 dX9_mayHave_2 (by decide) hc1 ?_
    refine a_aload_n dX9_mayHave_14 rfl 0 rfl ?_
    refine a_get (.ref 61) ob_58 (by decide) fl_X9_16 rfl dX9_mayHave_15 ?_
    refine a_iload_n dX9_mayHave_18 rfl 1 rfl ?_
    obtain ⟨hb9, hf⟩ := grd_elim hf
    refine a_iald ia_61 hb9 dX9_mayHave_19 ?_
    refine a_iconst (1 : Int32) dX9_mayHave_20 rfl ?_
    refine a_iload_n dX9_mayHave_21 rfl 2 rfl ?_
    refine a_ishl dX9_mayHave_22 ?_
    refine a_iconst (-1 : Int32) dX9_mayHave_23 rfl ?_
    refine a_ixor dX9_mayHave_24 ?_
    refine a_iand dX9_mayHave_25 ?_
    have hq := Option.some.inj hf
    subst hq
    refine a_locs (loc' := [(0, .ref 58), (1, .int p1)]) [0, 1] rfl ?_
    exact hA6
set_option maxHeartbeats 4000000 in
set_option maxRecDepth 100000 in
theorem kX9_mayOf (e : Nat) (p1 : Int32) (σ : St)  (q : Int32) (hf : fX9_mayOf p1 σ = some q) : Sp (e + 1) MX9_mayOf [.ref 58, .int p1] σ (some (.int q)) σ := by
  refine sp_of rfl (Nat.le_of_ble_eq_true rfl) (loc := [(0, .ref 58), (1, .int p1)]) rfl ?_
  unfold fX9_mayOf at hf
  refine a_aload_n dX9_mayOf_0 rfl 0 rfl ?_
  refine a_aload_n dX9_mayOf_1 rfl 0 rfl ?_
  refine a_get (.ref 65) ob_58 (by decide) fl_X9_28 rfl dX9_mayOf_2 ?_
  refine a_bipush (8 : Int32) dX9_mayOf_5 rfl ?_
  refine a_iload_n dX9_mayOf_7 rfl 1 rfl ?_
  refine a_imul dX9_mayOf_8 ?_
  refine a_iconst (2 : Int32) dX9_mayOf_9 rfl ?_
  refine a_iadd dX9_mayOf_10 ?_
  obtain ⟨hb1, hf⟩ := grd_elim hf
  refine a_iald ia_65 hb1 dX9_mayOf_11 ?_
  refine a_aload_n dX9_mayOf_12 rfl 0 rfl ?_
  refine a_get (.ref 65) ob_58 (by decide) fl_X9_28 rfl dX9_mayOf_13 ?_
  refine a_bipush (8 : Int32) dX9_mayOf_16 rfl ?_
  refine a_iload_n dX9_mayOf_18 rfl 1 rfl ?_
  refine a_imul dX9_mayOf_19 ?_
  refine a_iconst (3 : Int32) dX9_mayOf_20 rfl ?_
  refine a_iadd dX9_mayOf_21 ?_
  obtain ⟨hb2, hf⟩ := grd_elim hf
  refine a_iald ia_65 hb2 dX9_mayOf_22 ?_
  obtain ⟨q3, hq3, hf⟩ := obind hf
  refine a_callV (as := [.int (σ.1 65 (((8 : Int32) * p1) + (2 : Int32)).toNatClampNeg), .int (σ.1 65 (((8 : Int32) * p1) + (3 : Int32)).toNatClampNeg)]) (stk := []) (q := some (.int q3)) (σ1 := σ) (kX9_mayHave e (σ.1 65 (((8 : Int32) * p1) + (2 : Int32)).toNatClampNeg) (σ.1 65 (((8 : Int32) * p1) + (3 : Int32)).toNatClampNeg) σ _ hq3) ob_58 vl_X9_188 rfl (Nat.le_of_ble_eq_true rfl) dX9_mayOf_23 ?_
  have hq := Option.some.inj hf
  subst hq
  exact a_iret rfl dX9_mayOf_26
set_option maxHeartbeats 4000000 in
set_option maxRecDepth 100000 in
theorem kX9_may (e : Nat) (p1 : Int32) (σ : St)  (q : Int32) (hf : fX9_may p1 σ = some q) : Sp (e + 2) MX9_may [.ref 58, .int p1] σ (some (.int q)) σ := by
  refine sp_of rfl (Nat.le_of_ble_eq_true rfl) (loc := [(0, .ref 58), (1, .int p1)]) rfl ?_
  unfold fX9_may at hf
  refine a_aload_n dX9_may_0 rfl 0 rfl ?_
  refine a_iload_n dX9_may_1 rfl 1 rfl ?_
  refine a_callV (as := [.int p1]) (stk := []) (q := some (.int (fX9_isGift p1 σ))) (σ1 := σ) (kX9_isGift e p1 σ) ob_58 vl_X9_182 rfl (Nat.le_of_ble_eq_true rfl) dX9_may_2 ?_
  by_cases hc1 : (fX9_isGift p1 σ) = 0
  · rw [if_pos hc1] at hf
    refine a_if_ne_f 11 dX9_may_5 (by decide) hc1 ?_
    refine a_bipush (-101 : Int32) dX9_may_8 rfl ?_
    have hq := Option.some.inj hf
    subst hq
    exact a_iret rfl dX9_may_10
  · rw [if_neg hc1] at hf
    refine a_if_ne_t 11 dX9_may_5 (by decide) hc1 ?_
    refine a_aload_n dX9_may_11 rfl 0 rfl ?_
    refine a_iload_n dX9_may_12 rfl 1 rfl ?_
    obtain ⟨q2, hq2, hf⟩ := obind hf
    refine a_callV (as := [.int p1]) (stk := []) (q := some (.int q2)) (σ1 := σ) (kX9_lives (e + 1) p1 σ _ hq2) ob_58 vl_X9_161 rfl (Nat.le_of_ble_eq_true rfl) dX9_may_13 ?_
    by_cases hc3 : q2 = 0
    · rw [if_pos hc3] at hf
      refine a_if_eq_t 27 dX9_may_16 (by decide) hc3 ?_
      refine a_bipush (-103 : Int32) dX9_may_27 rfl ?_
      have hq := Option.some.inj hf
      subst hq
      exact a_iret rfl dX9_may_29
    · rw [if_neg hc3] at hf
      refine a_if_eq_f 27 dX9_may_16 (by decide) hc3 ?_
      refine a_aload_n dX9_may_19 rfl 0 rfl ?_
      refine a_iload_n dX9_may_20 rfl 1 rfl ?_
      obtain ⟨q4, hq4, hf⟩ := obind hf
      refine a_callV (as := [.int p1]) (stk := []) (q := some (.int q4)) (σ1 := σ) (kX9_mayOf e p1 σ _ hq4) ob_58 vl_X9_191 rfl (Nat.le_of_ble_eq_true rfl) dX9_may_21 ?_
      refine a_goto 29 dX9_may_24 (by decide) ?_
      have hq := Option.some.inj hf
      subst hq
      exact a_iret rfl dX9_may_29
set_option maxHeartbeats 4000000 in
set_option maxRecDepth 100000 in
theorem kX9_goOn (e : Nat) (p1 : Int32) (p2 : Int32) (σ : St)  (q : Int32 × St) (hf : fX9_goOn p1 p2 σ = some q) : Sp (e + 1) MX9_goOn [.ref 58, .int p1, .int p2] σ (some (.int q.1)) q.2 := by
  refine sp_of rfl (Nat.le_of_ble_eq_true rfl) (loc := [(0, .ref 58), (1, .int p1), (2, .int p2)]) rfl ?_
  unfold fX9_goOn at hf
  refine a_bipush (8 : Int32) dX9_goOn_0 rfl ?_
  refine a_iload_n dX9_goOn_2 rfl 1 rfl ?_
  refine a_imul dX9_goOn_3 ?_
  refine a_istore_n dX9_goOn_4 rfl (by decide) (loc' := [(3, .int ((8 : Int32) * p1)), (0, .ref 58), (1, .int p1), (2, .int p2)]) rfl ?_
  refine a_aload_n dX9_goOn_5 rfl 1 rfl ?_
  refine a_get (.ref 65) ob_58 (by decide) fl_X9_28 rfl dX9_goOn_6 ?_
  refine a_iload_n dX9_goOn_9 rfl 0 rfl ?_
  refine a_iconst (2 : Int32) dX9_goOn_10 rfl ?_
  refine a_iadd dX9_goOn_11 ?_
  obtain ⟨hb1, hf⟩ := grd_elim hf
  refine a_iald ia_65 hb1 dX9_goOn_12 ?_
  obtain ⟨x2, hx2, hf⟩ := bnd_elim hf
  refine a_top (w := .int x2) (by rw [hx2]) ?_
  refine a_istore dX9_goOn_13 (by decide) (loc' := [(4, .int x2), (3, .int ((8 : Int32) * p1)), (0, .ref 58), (1, .int p1), (2, .int p2)]) rfl ?_
  refine a_aload_n dX9_goOn_15 rfl 2 rfl ?_
  refine a_get (.ref 65) ob_58 (by decide) fl_X9_28 rfl dX9_goOn_16 ?_
  refine a_iload_n dX9_goOn_19 rfl 1 rfl ?_
  obtain ⟨hb3, hf⟩ := grd_elim hf
  refine a_iald ia_65 hb3 dX9_goOn_20 ?_
  obtain ⟨x4, hx4, hf⟩ := bnd_elim hf
  refine a_top (w := .int x4) (by rw [hx4]) ?_
  refine a_istore dX9_goOn_21 (by decide) (loc' := [(5, .int x4), (4, .int x2), (3, .int ((8 : Int32) * p1)), (0, .ref 58), (1, .int p1), (2, .int p2)]) rfl ?_
  refine a_aload_n dX9_goOn_23 rfl 3 rfl ?_
  refine a_get (.ref 63) ob_58 (by decide) fl_X9_22 rfl dX9_goOn_24 ?_
  refine a_bipush (8 : Int32) dX9_goOn_27 rfl ?_
  refine a_iload_n dX9_goOn_29 rfl 5 rfl ?_
  refine a_imul dX9_goOn_30 ?_
  refine a_iload dX9_goOn_31 1 rfl ?_
  refine a_iadd dX9_goOn_33 ?_
  refine a_dup2 rfl rfl dX9_goOn_34 ?_
  obtain ⟨hb5, hf⟩ := grd_elim hf
  refine a_iald ia_63 hb5 dX9_goOn_35 ?_
  refine a_aload_n dX9_goOn_36 rfl 3 rfl ?_
  refine a_iload_n dX9_goOn_37 rfl 4 rfl ?_
  obtain ⟨q6, hq6, hf⟩ := obind hf
  refine a_callV (as := [.int p1]) (stk := [.int (σ.1 63 (((8 : Int32) * p2) + x2).toNatClampNeg), .int (((8 : Int32) * p2) + x2), .ref 63]) (q := some (.int q6)) (σ1 := σ) (kX9_worthOf e p1 σ _ hq6) ob_58 vl_X9_177 rfl (Nat.le_of_ble_eq_true rfl) dX9_goOn_38 ?_
  refine a_iadd dX9_goOn_41 ?_
  obtain ⟨hb7, hf⟩ := grd_elim hf
  refine a_iast ia_63 hb7 dX9_goOn_42 ?_
  obtain ⟨σ8, hσ8, hf⟩ := bnd_elim hf
  rw [← hσ8]
  refine a_aload_n dX9_goOn_43 rfl 3 rfl ?_
  refine a_get (.ref 65) ob_58 (by decide) fl_X9_28 rfl dX9_goOn_44 ?_
  refine a_iload_n dX9_goOn_47 rfl 2 rfl ?_
  refine a_iconst (3 : Int32) dX9_goOn_48 rfl ?_
  refine a_iadd dX9_goOn_49 ?_
  refine a_iload dX9_goOn_50 1 rfl ?_
  obtain ⟨hb9, hf⟩ := grd_elim hf
  refine a_iast ia_65 hb9 dX9_goOn_52 ?_
  obtain ⟨σ10, hσ10, hf⟩ := bnd_elim hf
  rw [← hσ10]
  refine a_aload_n dX9_goOn_53 rfl 3 rfl ?_
  refine a_get (.ref 65) ob_58 (by decide) fl_X9_28 rfl dX9_goOn_54 ?_
  refine a_iload_n dX9_goOn_57 rfl 2 rfl ?_
  refine a_iconst (2 : Int32) dX9_goOn_58 rfl ?_
  refine a_iadd dX9_goOn_59 ?_
  refine a_iload_n dX9_goOn_60 rfl 5 rfl ?_
  obtain ⟨hb11, hf⟩ := grd_elim hf
  refine a_iast ia_65 hb11 dX9_goOn_61 ?_
  obtain ⟨σ12, hσ12, hf⟩ := bnd_elim hf
  rw [← hσ12]
  refine a_aload_n dX9_goOn_62 rfl 3 rfl ?_
  refine a_get (.ref 65) ob_58 (by decide) fl_X9_28 rfl dX9_goOn_63 ?_
  refine a_iload_n dX9_goOn_66 rfl 2 rfl ?_
  refine a_iconst (5 : Int32) dX9_goOn_67 rfl ?_
  refine a_iadd dX9_goOn_68 ?_
  refine a_iconst (0 : Int32) dX9_goOn_69 rfl ?_
  obtain ⟨hb13, hf⟩ := grd_elim hf
  refine a_iast ia_65 hb13 dX9_goOn_70 ?_
  obtain ⟨σ14, hσ14, hf⟩ := bnd_elim hf
  rw [← hσ14]
  refine a_aload_n dX9_goOn_71 rfl 3 rfl ?_
  refine a_get (.ref 65) ob_58 (by decide) fl_X9_28 rfl dX9_goOn_72 ?_
  refine a_iload_n dX9_goOn_75 rfl 2 rfl ?_
  refine a_iconst (4 : Int32) dX9_goOn_76 rfl ?_
  refine a_iadd dX9_goOn_77 ?_
  refine a_dup2 rfl rfl dX9_goOn_78 ?_
  obtain ⟨hb15, hf⟩ := grd_elim hf
  refine a_iald ia_65 hb15 dX9_goOn_79 ?_
  refine a_iload dX9_goOn_80 0 rfl ?_
  refine a_iconst (2 : Int32) dX9_goOn_82 rfl ?_
  obtain ⟨x17, hx17, hf⟩ := bnd_elim hf
  have hA61 : A (e + 1) MX9_goOn 101 [(0, .ref 58), (2, .int p2), (3, .int ((8 : Int32) * p1)), (5, .int x4)] [.int x17, .int (σ14.1 65 (((8 : Int32) * p1) + (4 : Int32)).toNatClampNeg), .int (((8 : Int32) * p1) + (4 : Int32)), .ref 65] σ14 (some (.int q.1)) q.2 := by
    refine a_iadd dX9_goOn_101 ?_
    obtain ⟨hb18, hf⟩ := grd_elim hf
    refine a_iast ia_65 hb18 dX9_goOn_102 ?_
    obtain ⟨σ19, hσ19, hf⟩ := bnd_elim hf
    rw [← hσ19]
    refine a_aload_n dX9_goOn_103 rfl 0 rfl ?_
    refine a_get (.ref 65) ob_58 (by decide) fl_X9_28 rfl dX9_goOn_104 ?_
    refine a_iload_n dX9_goOn_107 rfl 2 rfl ?_
    refine a_bipush (7 : Int32) dX9_goOn_108 rfl ?_
    refine a_iadd dX9_goOn_110 ?_
    refine a_dup2 rfl rfl dX9_goOn_111 ?_
    obtain ⟨hb20, hf⟩ := grd_elim hf
    refine a_iald ia_65 hb20 dX9_goOn_112 ?_
    refine a_iconst (1 : Int32) dX9_goOn_113 rfl ?_
    refine a_iadd dX9_goOn_114 ?_
    obtain ⟨hb21, hf⟩ := grd_elim hf
    refine a_iast ia_65 hb21 dX9_goOn_115 ?_
    obtain ⟨σ22, hσ22, hf⟩ := bnd_elim hf
    rw [← hσ22]
    refine a_iload dX9_goOn_116 3 rfl ?_
    refine a_iconst (1 : Int32) dX9_goOn_118 rfl ?_
    obtain ⟨q24, hr27, hf⟩ := obind hf
    have hA26 : A (e + 1) MX9_goOn 198 [(0, .ref 58), (3, .int ((8 : Int32) * p1))] [] q24 (some (.int q.1)) q.2 := by
      refine a_aload_n dX9_goOn_198 rfl 0 rfl ?_
      refine a_get (.ref 65) ob_58 (by decide) fl_X9_28 rfl dX9_goOn_199 ?_
      refine a_iload_n dX9_goOn_202 rfl 1 rfl ?_
      refine a_bipush (6 : Int32) dX9_goOn_203 rfl ?_
      refine a_iadd dX9_goOn_205 ?_
      obtain ⟨hb25, hf⟩ := grd_elim hf
      refine a_iald ia_65 hb25 dX9_goOn_206 ?_
      have hq := Option.some.inj hf
      subst hq
      exact a_iret rfl dX9_goOn_207
    clear hf
    have hf := hr27
    clear hr27
    by_cases hc23 : x4 = (1 : Int32)
    · rw [if_pos hc23] at hf
      refine a_icmp_eq_t 128 dX9_goOn_119 (by decide) hc23 ?_
      refine a_aload_n dX9_goOn_128 rfl 0 rfl ?_
      refine a_get (.ref 65) ob_58 (by decide) fl_X9_28 rfl dX9_goOn_129 ?_
      refine a_iload_n dX9_goOn_132 rfl 2 rfl ?_
      refine a_iconst (4 : Int32) dX9_goOn_133 rfl ?_
      refine a_iadd dX9_goOn_134 ?_
      obtain ⟨hb28, hf⟩ := grd_elim hf
      refine a_iald ia_65 hb28 dX9_goOn_135 ?_
      refine a_aload_n dX9_goOn_136 rfl 0 rfl ?_
      refine a_get (.int (σ22.1 58 5)) ob_58 (by decide) fl_X9_87 rfl dX9_goOn_137 ?_
      by_cases hc29 : (σ22.1 65 (((8 : Int32) * p1) + (4 : Int32)).toNatClampNeg) < (σ22.1 58 5)
      · rw [if_pos hc29] at hf
        refine a_icmp_lt_t 156 dX9_goOn_140 (by decide) hc29 ?_
        refine a_iload_n dX9_goOn_156 rfl 1 rfl ?_
        refine a_aload_n dX9_goOn_157 rfl 0 rfl ?_
        refine a_get (.ref 65) ob_58 (by decide) fl_X9_28 rfl dX9_goOn_158 ?_
        refine a_iload_n dX9_goOn_161 rfl 2 rfl ?_
        refine a_iconst (1 : Int32) dX9_goOn_162 rfl ?_
        refine a_iadd dX9_goOn_163 ?_
        obtain ⟨hb30, hf⟩ := grd_elim hf
        refine a_iald ia_65 hb30 dX9_goOn_164 ?_
        by_cases hc31 : p2 = (σ22.1 65 (((8 : Int32) * p1) + (1 : Int32)).toNatClampNeg)
        · rw [if_pos hc31] at hf
          refine a_icmp_ne_f 198 dX9_goOn_165 (by decide) hc31 ?_
          refine a_aload_n dX9_goOn_168 rfl 0 rfl ?_
          refine a_get (.ref 65) ob_58 (by decide) fl_X9_28 rfl dX9_goOn_169 ?_
          refine a_iload_n dX9_goOn_172 rfl 2 rfl ?_
          refine a_bipush (6 : Int32) dX9_goOn_173 rfl ?_
          refine a_iadd dX9_goOn_175 ?_
          refine a_iconst (1 : Int32) dX9_goOn_176 rfl ?_
          obtain ⟨hb32, hf⟩ := grd_elim hf
          refine a_iast ia_65 hb32 dX9_goOn_177 ?_
          obtain ⟨σ33, hσ33, hf⟩ := bnd_elim hf
          rw [← hσ33]
          refine a_aload_n dX9_goOn_178 rfl 0 rfl ?_
          refine a_get (.ref 64) ob_58 (by decide) fl_X9_25 rfl dX9_goOn_179 ?_
          refine a_iload_n dX9_goOn_182 rfl 1 rfl ?_
          refine a_dup2 rfl rfl dX9_goOn_183 ?_
          obtain ⟨hb34, hf⟩ := grd_elim hf
          refine a_iald ia_64 hb34 dX9_goOn_184 ?_
          refine a_iconst (1 : Int32) dX9_goOn_185 rfl ?_
          refine a_iadd dX9_goOn_186 ?_
          obtain ⟨hb35, hf⟩ := grd_elim hf
          refine a_iast ia_64 hb35 dX9_goOn_187 ?_
          obtain ⟨σ36, hσ36, hf⟩ := bnd_elim hf
          rw [← hσ36]
          refine a_aload_n dX9_goOn_188 rfl 0 rfl ?_
          refine a_dup rfl dX9_goOn_189 ?_
          refine a_get (.int (σ36.1 58 18)) ob_58 (by decide) fl_X9_194 rfl dX9_goOn_190 ?_
          refine a_iconst (1 : Int32) dX9_goOn_193 rfl ?_
          refine a_iadd dX9_goOn_194 ?_
          refine a_putI ob_58 (by decide) fp_X9_194 (Or.inl rfl) dX9_goOn_195 ?_
          obtain ⟨σ37, hσ37, hf⟩ := bnd_elim hf
          rw [← hσ37]
          have hq := Option.some.inj hf
          subst hq
          refine a_locs (loc' := [(0, .ref 58), (3, .int ((8 : Int32) * p1))]) [0, 2] rfl ?_
          exact hA26
        · rw [if_neg hc31] at hf
          refine a_icmp_ne_t 198 dX9_goOn_165 (by decide) hc31 ?_
          have hq := Option.some.inj hf
          subst hq
          refine a_locs (loc' := [(0, .ref 58), (3, .int ((8 : Int32) * p1))]) [0, 2] rfl ?_
          exact hA26
      · rw [if_neg hc29] at hf
        refine a_icmp_lt_f 156 dX9_goOn_140 (by decide) hc29 ?_
        refine a_aload_n dX9_goOn_143 rfl 0 rfl ?_
        refine a_get (.ref 65) ob_58 (by decide) fl_X9_28 rfl dX9_goOn_144 ?_
        refine a_iload_n dX9_goOn_147 rfl 2 rfl ?_
        refine a_bipush (6 : Int32) dX9_goOn_148 rfl ?_
        refine a_iadd dX9_goOn_150 ?_
        refine a_iconst (2 : Int32) dX9_goOn_151 rfl ?_
        obtain ⟨hb38, hf⟩ := grd_elim hf
        refine a_iast ia_65 hb38 dX9_goOn_152 ?_
        obtain ⟨σ39, hσ39, hf⟩ := bnd_elim hf
        rw [← hσ39]
        refine a_goto 198 dX9_goOn_153 (by decide) ?_
        have hq := Option.some.inj hf
        subst hq
        refine a_locs (loc' := [(0, .ref 58), (3, .int ((8 : Int32) * p1))]) [0, 2] rfl ?_
        exact hA26
    · rw [if_neg hc23] at hf
      refine a_icmp_eq_f 128 dX9_goOn_119 (by decide) hc23 ?_
      refine a_iload dX9_goOn_122 3 rfl ?_
      refine a_iconst (4 : Int32) dX9_goOn_124 rfl ?_
      by_cases hc40 : x4 = (4 : Int32)
      · rw [if_pos hc40] at hf
        refine a_icmp_ne_f 156 dX9_goOn_125 (by decide) hc40 ?_
        refine a_aload_n dX9_goOn_128 rfl 0 rfl ?_
        refine a_get (.ref 65) ob_58 (by decide) fl_X9_28 rfl dX9_goOn_129 ?_
        refine a_iload_n dX9_goOn_132 rfl 2 rfl ?_
        refine a_iconst (4 : Int32) dX9_goOn_133 rfl ?_
        refine a_iadd dX9_goOn_134 ?_
        obtain ⟨hb41, hf⟩ := grd_elim hf
        refine a_iald ia_65 hb41 dX9_goOn_135 ?_
        refine a_aload_n dX9_goOn_136 rfl 0 rfl ?_
        refine a_get (.int (σ22.1 58 5)) ob_58 (by decide) fl_X9_87 rfl dX9_goOn_137 ?_
        by_cases hc42 : (σ22.1 65 (((8 : Int32) * p1) + (4 : Int32)).toNatClampNeg) < (σ22.1 58 5)
        · rw [if_pos hc42] at hf
          refine a_icmp_lt_t 156 dX9_goOn_140 (by decide) hc42 ?_
          refine a_iload_n dX9_goOn_156 rfl 1 rfl ?_
          refine a_aload_n dX9_goOn_157 rfl 0 rfl ?_
          refine a_get (.ref 65) ob_58 (by decide) fl_X9_28 rfl dX9_goOn_158 ?_
          refine a_iload_n dX9_goOn_161 rfl 2 rfl ?_
          refine a_iconst (1 : Int32) dX9_goOn_162 rfl ?_
          refine a_iadd dX9_goOn_163 ?_
          obtain ⟨hb43, hf⟩ := grd_elim hf
          refine a_iald ia_65 hb43 dX9_goOn_164 ?_
          by_cases hc44 : p2 = (σ22.1 65 (((8 : Int32) * p1) + (1 : Int32)).toNatClampNeg)
          · rw [if_pos hc44] at hf
            refine a_icmp_ne_f 198 dX9_goOn_165 (by decide) hc44 ?_
            refine a_aload_n dX9_goOn_168 rfl 0 rfl ?_
            refine a_get (.ref 65) ob_58 (by decide) fl_X9_28 rfl dX9_goOn_169 ?_
            refine a_iload_n dX9_goOn_172 rfl 2 rfl ?_
            refine a_bipush (6 : Int32) dX9_goOn_173 rfl ?_
            refine a_iadd dX9_goOn_175 ?_
            refine a_iconst (1 : Int32) dX9_goOn_176 rfl ?_
            obtain ⟨hb45, hf⟩ := grd_elim hf
            refine a_iast ia_65 hb45 dX9_goOn_177 ?_
            obtain ⟨σ46, hσ46, hf⟩ := bnd_elim hf
            rw [← hσ46]
            refine a_aload_n dX9_goOn_178 rfl 0 rfl ?_
            refine a_get (.ref 64) ob_58 (by decide) fl_X9_25 rfl dX9_goOn_179 ?_
            refine a_iload_n dX9_goOn_182 rfl 1 rfl ?_
            refine a_dup2 rfl rfl dX9_goOn_183 ?_
            obtain ⟨hb47, hf⟩ := grd_elim hf
            refine a_iald ia_64 hb47 dX9_goOn_184 ?_
            refine a_iconst (1 : Int32) dX9_goOn_185 rfl ?_
            refine a_iadd dX9_goOn_186 ?_
            obtain ⟨hb48, hf⟩ := grd_elim hf
            refine a_iast ia_64 hb48 dX9_goOn_187 ?_
            obtain ⟨σ49, hσ49, hf⟩ := bnd_elim hf
            rw [← hσ49]
            refine a_aload_n dX9_goOn_188 rfl 0 rfl ?_
            refine a_dup rfl dX9_goOn_189 ?_
            refine a_get (.int (σ49.1 58 18)) ob_58 (by decide) fl_X9_194 rfl dX9_goOn_190 ?_
            refine a_iconst (1 : Int32) dX9_goOn_193 rfl ?_
            refine a_iadd dX9_goOn_194 ?_
            refine a_putI ob_58 (by decide) fp_X9_194 (Or.inl rfl) dX9_goOn_195 ?_
            obtain ⟨σ50, hσ50, hf⟩ := bnd_elim hf
            rw [← hσ50]
            have hq := Option.some.inj hf
            subst hq
            refine a_locs (loc' := [(0, .ref 58), (3, .int ((8 : Int32) * p1))]) [0, 2] rfl ?_
            exact hA26
          · rw [if_neg hc44] at hf
            refine a_icmp_ne_t 198 dX9_goOn_165 (by decide) hc44 ?_
            have hq := Option.some.inj hf
            subst hq
            refine a_locs (loc' := [(0, .ref 58), (3, .int ((8 : Int32) * p1))]) [0, 2] rfl ?_
            exact hA26
        · rw [if_neg hc42] at hf
          refine a_icmp_lt_f 156 dX9_goOn_140 (by decide) hc42 ?_
          refine a_aload_n dX9_goOn_143 rfl 0 rfl ?_
          refine a_get (.ref 65) ob_58 (by decide) fl_X9_28 rfl dX9_goOn_144 ?_
          refine a_iload_n dX9_goOn_147 rfl 2 rfl ?_
          refine a_bipush (6 : Int32) dX9_goOn_148 rfl ?_
          refine a_iadd dX9_goOn_150 ?_
          refine a_iconst (2 : Int32) dX9_goOn_151 rfl ?_
          obtain ⟨hb51, hf⟩ := grd_elim hf
          refine a_iast ia_65 hb51 dX9_goOn_152 ?_
          obtain ⟨σ52, hσ52, hf⟩ := bnd_elim hf
          rw [← hσ52]
          refine a_goto 198 dX9_goOn_153 (by decide) ?_
          have hq := Option.some.inj hf
          subst hq
          refine a_locs (loc' := [(0, .ref 58), (3, .int ((8 : Int32) * p1))]) [0, 2] rfl ?_
          exact hA26
      · rw [if_neg hc40] at hf
        refine a_icmp_ne_t 156 dX9_goOn_125 (by decide) hc40 ?_
        refine a_iload_n dX9_goOn_156 rfl 1 rfl ?_
        refine a_aload_n dX9_goOn_157 rfl 0 rfl ?_
        refine a_get (.ref 65) ob_58 (by decide) fl_X9_28 rfl dX9_goOn_158 ?_
        refine a_iload_n dX9_goOn_161 rfl 2 rfl ?_
        refine a_iconst (1 : Int32) dX9_goOn_162 rfl ?_
        refine a_iadd dX9_goOn_163 ?_
        obtain ⟨hb53, hf⟩ := grd_elim hf
        refine a_iald ia_65 hb53 dX9_goOn_164 ?_
        by_cases hc54 : p2 = (σ22.1 65 (((8 : Int32) * p1) + (1 : Int32)).toNatClampNeg)
        · rw [if_pos hc54] at hf
          refine a_icmp_ne_f 198 dX9_goOn_165 (by decide) hc54 ?_
          refine a_aload_n dX9_goOn_168 rfl 0 rfl ?_
          refine a_get (.ref 65) ob_58 (by decide) fl_X9_28 rfl dX9_goOn_169 ?_
          refine a_iload_n dX9_goOn_172 rfl 2 rfl ?_
          refine a_bipush (6 : Int32) dX9_goOn_173 rfl ?_
          refine a_iadd dX9_goOn_175 ?_
          refine a_iconst (1 : Int32) dX9_goOn_176 rfl ?_
          obtain ⟨hb55, hf⟩ := grd_elim hf
          refine a_iast ia_65 hb55 dX9_goOn_177 ?_
          obtain ⟨σ56, hσ56, hf⟩ := bnd_elim hf
          rw [← hσ56]
          refine a_aload_n dX9_goOn_178 rfl 0 rfl ?_
          refine a_get (.ref 64) ob_58 (by decide) fl_X9_25 rfl dX9_goOn_179 ?_
          refine a_iload_n dX9_goOn_182 rfl 1 rfl ?_
          refine a_dup2 rfl rfl dX9_goOn_183 ?_
          obtain ⟨hb57, hf⟩ := grd_elim hf
          refine a_iald ia_64 hb57 dX9_goOn_184 ?_
          refine a_iconst (1 : Int32) dX9_goOn_185 rfl ?_
          refine a_iadd dX9_goOn_186 ?_
          obtain ⟨hb58, hf⟩ := grd_elim hf
          refine a_iast ia_64 hb58 dX9_goOn_187 ?_
          obtain ⟨σ59, hσ59, hf⟩ := bnd_elim hf
          rw [← hσ59]
          refine a_aload_n dX9_goOn_188 rfl 0 rfl ?_
          refine a_dup rfl dX9_goOn_189 ?_
          refine a_get (.int (σ59.1 58 18)) ob_58 (by decide) fl_X9_194 rfl dX9_goOn_190 ?_
          refine a_iconst (1 : Int32) dX9_goOn_193 rfl ?_
          refine a_iadd dX9_goOn_194 ?_
          refine a_putI ob_58 (by decide) fp_X9_194 (Or.inl rfl) dX9_goOn_195 ?_
          obtain ⟨σ60, hσ60, hf⟩ := bnd_elim hf
          rw [← hσ60]
          have hq := Option.some.inj hf
          subst hq
          refine a_locs (loc' := [(0, .ref 58), (3, .int ((8 : Int32) * p1))]) [0, 2] rfl ?_
          exact hA26
        · rw [if_neg hc54] at hf
          refine a_icmp_ne_t 198 dX9_goOn_165 (by decide) hc54 ?_
          have hq := Option.some.inj hf
          subst hq
          refine a_locs (loc' := [(0, .ref 58), (3, .int ((8 : Int32) * p1))]) [0, 2] rfl ?_
          exact hA26
  clear hf
  by_cases hc16 : x4 = (2 : Int32)
  · rw [if_pos hc16] at hx17
    refine a_icmp_ne_f 90 dX9_goOn_83 (by decide) hc16 ?_
    refine a_iconst (0 : Int32) dX9_goOn_86 rfl ?_
    refine a_goto 101 dX9_goOn_87 (by decide) ?_
    replace hx17 := hx17.symm; subst hx17
    refine a_locs (loc' := [(0, .ref 58), (2, .int p2), (3, .int ((8 : Int32) * p1)), (5, .int x4)]) [3, 5, 2, 0] rfl ?_
    exact hA61
  · rw [if_neg hc16] at hx17
    refine a_icmp_ne_t 90 dX9_goOn_83 (by decide) hc16 ?_
    refine a_iload dX9_goOn_90 0 rfl ?_
    refine a_iconst (4 : Int32) dX9_goOn_92 rfl ?_
    by_cases hc62 : x4 = (4 : Int32)
    · rw [if_pos hc62] at hx17
      refine a_icmp_ne_f 100 dX9_goOn_93 (by decide) hc62 ?_
      refine a_iconst (2 : Int32) dX9_goOn_96 rfl ?_
      refine a_goto 101 dX9_goOn_97 (by decide) ?_
      replace hx17 := hx17.symm; subst hx17
      refine a_locs (loc' := [(0, .ref 58), (2, .int p2), (3, .int ((8 : Int32) * p1)), (5, .int x4)]) [3, 5, 2, 0] rfl ?_
      exact hA61
    · rw [if_neg hc62] at hx17
      refine a_icmp_ne_t 100 dX9_goOn_93 (by decide) hc62 ?_
      refine a_iconst (1 : Int32) dX9_goOn_100 rfl ?_
      replace hx17 := hx17.symm; subst hx17
      refine a_locs (loc' := [(0, .ref 58), (2, .int p2), (3, .int ((8 : Int32) * p1)), (5, .int x4)]) [3, 5, 2, 0] rfl ?_
      exact hA61
set_option maxHeartbeats 4000000 in
set_option maxRecDepth 100000 in
theorem kX9_give (e : Nat) (p1 : Int32) (p2 : Int32) (σ : St)  (q : Int32 × St) (hf : fX9_give p1 p2 σ = some q) : Sp (e + 2) MX9_give [.ref 58, .int p1, .int p2] σ (some (.int q.1)) q.2 := by
  refine sp_of rfl (Nat.le_of_ble_eq_true rfl) (loc := [(0, .ref 58), (1, .int p1), (2, .int p2)]) rfl ?_
  unfold fX9_give at hf
  refine a_aload_n dX9_give_0 rfl 0 rfl ?_
  refine a_iload_n dX9_give_1 rfl 1 rfl ?_
  refine a_callV (as := [.int p1]) (stk := []) (q := some (.int (fX9_isGift p1 σ))) (σ1 := σ) (kX9_isGift e p1 σ) ob_58 vl_X9_182 rfl (Nat.le_of_ble_eq_true rfl) dX9_give_2 ?_
  by_cases hc1 : (fX9_isGift p1 σ) = 0
  · rw [if_pos hc1] at hf
    refine a_if_eq_t 16 dX9_give_5 (by decide) hc1 ?_
    refine a_bipush (-101 : Int32) dX9_give_16 rfl ?_
    have hq := Option.some.inj hf
    subst hq
    exact a_iret rfl dX9_give_18
  · rw [if_neg hc1] at hf
    refine a_if_eq_f 16 dX9_give_5 (by decide) hc1 ?_
    refine a_aload_n dX9_give_8 rfl 0 rfl ?_
    refine a_iload_n dX9_give_9 rfl 2 rfl ?_
    refine a_callV (as := [.int p2]) (stk := []) (q := some (.int (fX9_isPerson p2 σ))) (σ1 := σ) (kX9_isPerson e p2 σ) ob_58 vl_X9_147 rfl (Nat.le_of_ble_eq_true rfl) dX9_give_10 ?_
    by_cases hc2 : (fX9_isPerson p2 σ) = 0
    · rw [if_pos hc2] at hf
      refine a_if_ne_f 19 dX9_give_13 (by decide) hc2 ?_
      refine a_bipush (-101 : Int32) dX9_give_16 rfl ?_
      have hq := Option.some.inj hf
      subst hq
      exact a_iret rfl dX9_give_18
    · rw [if_neg hc2] at hf
      refine a_if_ne_t 19 dX9_give_13 (by decide) hc2 ?_
      refine a_aload_n dX9_give_19 rfl 0 rfl ?_
      refine a_iload_n dX9_give_20 rfl 1 rfl ?_
      obtain ⟨q3, hq3, hf⟩ := obind hf
      refine a_callV (as := [.int p1]) (stk := []) (q := some (.int q3)) (σ1 := σ) (kX9_lives (e + 1) p1 σ _ hq3) ob_58 vl_X9_161 rfl (Nat.le_of_ble_eq_true rfl) dX9_give_21 ?_
      by_cases hc4 : q3 = 0
      · rw [if_pos hc4] at hf
        refine a_if_eq_t 49 dX9_give_24 (by decide) hc4 ?_
        refine a_bipush (-103 : Int32) dX9_give_49 rfl ?_
        have hq := Option.some.inj hf
        subst hq
        exact a_iret rfl dX9_give_51
      · rw [if_neg hc4] at hf
        refine a_if_eq_f 49 dX9_give_24 (by decide) hc4 ?_
        refine a_aload_n dX9_give_27 rfl 0 rfl ?_
        refine a_iload_n dX9_give_28 rfl 1 rfl ?_
        obtain ⟨q5, hq5, hf⟩ := obind hf
        refine a_callV (as := [.int p1]) (stk := []) (q := some (.int q5)) (σ1 := σ) (kX9_mayOf e p1 σ _ hq5) ob_58 vl_X9_191 rfl (Nat.le_of_ble_eq_true rfl) dX9_give_29 ?_
        refine a_iload_n dX9_give_32 rfl 2 rfl ?_
        refine a_ishr dX9_give_33 ?_
        refine a_iconst (1 : Int32) dX9_give_34 rfl ?_
        refine a_iand dX9_give_35 ?_
        refine a_iconst (1 : Int32) dX9_give_36 rfl ?_
        by_cases hc6 : ((q5 >>> (p2 &&& 31)) &&& (1 : Int32)) = (1 : Int32)
        · rw [if_pos hc6] at hf
          refine a_icmp_ne_f 49 dX9_give_37 (by decide) hc6 ?_
          refine a_aload_n dX9_give_40 rfl 0 rfl ?_
          refine a_iload_n dX9_give_41 rfl 1 rfl ?_
          refine a_iload_n dX9_give_42 rfl 2 rfl ?_
          obtain ⟨q7, hq7, hf⟩ := obind hf
          refine a_callV (as := [.int p1, .int p2]) (stk := []) (q := some (.int q7.1)) (σ1 := q7.2) (kX9_goOn e p1 p2 σ _ hq7) ob_58 vl_X9_197 rfl (Nat.le_of_ble_eq_true rfl) dX9_give_43 ?_
          refine a_goto 51 dX9_give_46 (by decide) ?_
          have hq := Option.some.inj hf
          subst hq
          exact a_iret rfl dX9_give_51
        · rw [if_neg hc6] at hf
          refine a_icmp_ne_t 49 dX9_give_37 (by decide) hc6 ?_
          refine a_bipush (-103 : Int32) dX9_give_49 rfl ?_
          have hq := Option.some.inj hf
          subst hq
          exact a_iret rfl dX9_give_51
set_option maxHeartbeats 4000000 in
set_option maxRecDepth 100000 in
theorem kX9_ones_L4 (e : Nat) (c0 : Int32) (σ : St)  {r : Option Value} {τ : St} (q : (Int32)) : ∀ (n : Nat) (v1 : Int32) (v2 : Int32), fX9_ones_L4 c0 σ n v1 v2 = some q → A e MX9_ones 24 [(1, .int q)] [] σ r τ → A e MX9_ones 4 [(0, .int c0), (1, .int v1), (2, .int v2)] [] σ r τ := by
  intro n
  induction n with
  | zero =>
    intro v1 v2  hf
    simp only [fX9_ones_L4] at hf
    exact absurd hf (by simp)
  | succ n ih =>
    intro v1 v2  hf h2
    rw [fX9_ones_L4] at hf
    refine a_iload_n dX9_ones_4 rfl 2 rfl ?_
    refine a_bipush (8 : Int32) dX9_ones_5 rfl ?_
    by_cases hc1 : (8 : Int32) ≤ v2
    · rw [if_pos hc1] at hf
      refine a_icmp_ge_t 24 dX9_ones_7 (by decide) hc1 ?_
      have hq := Option.some.inj hf
      rw [← hq] at h2
      refine a_locs (loc' := [(1, .int v1)]) [1] rfl ?_
      exact h2
    · rw [if_neg hc1] at hf
      refine a_icmp_ge_f 24 dX9_ones_7 (by decide) hc1 ?_
      refine a_iload_n dX9_ones_10 rfl 1 rfl ?_
      refine a_iload_n dX9_ones_11 rfl 0 rfl ?_
      refine a_iload_n dX9_ones_12 rfl 2 rfl ?_
      refine a_ishr dX9_ones_13 ?_
      refine a_iconst (1 : Int32) dX9_ones_14 rfl ?_
      refine a_iand dX9_ones_15 ?_
      refine a_iadd dX9_ones_16 ?_
      obtain ⟨x2, hx2, hf⟩ := bnd_elim hf
      refine a_top (w := .int x2) (by rw [hx2]) ?_
      refine a_istore_n dX9_ones_17 rfl (by decide) (loc' := [(1, .int x2), (0, .int c0), (2, .int v2)]) rfl ?_
      refine a_iinc (v2 + (1 : Int32)) dX9_ones_18 2 rfl rfl (by decide) (loc' := [(2, .int (v2 + (1 : Int32))), (1, .int x2), (0, .int c0)]) rfl ?_
      refine a_goto 4 dX9_ones_21 (by decide) ?_
      refine a_locs (loc' := [(0, .int c0), (1, .int x2), (2, .int (v2 + (1 : Int32)))]) [2, 1, 0] rfl ?_
      exact ih x2 (v2 + (1 : Int32)) hf h2
set_option maxHeartbeats 4000000 in
set_option maxRecDepth 100000 in
theorem kX9_ones (e : Nat) (p0 : Int32) (σ : St)  (q : Int32) (hf : fX9_ones p0 σ = some q) : Sp e MX9_ones [.int p0] σ (some (.int q)) σ := by
  refine sp_of rfl (Nat.le_of_ble_eq_true rfl) (loc := [(0, .int p0)]) rfl ?_
  unfold fX9_ones at hf
  refine a_iconst (0 : Int32) dX9_ones_0 rfl ?_
  refine a_istore_n dX9_ones_1 rfl (by decide) (loc' := [(1, .int (0 : Int32)), (0, .int p0)]) rfl ?_
  refine a_iconst (0 : Int32) dX9_ones_2 rfl ?_
  refine a_istore_n dX9_ones_3 rfl (by decide) (loc' := [(2, .int (0 : Int32)), (1, .int (0 : Int32)), (0, .int p0)]) rfl ?_
  obtain ⟨q3, hr4, hf⟩ := obind hf
  have hA5 : A e MX9_ones 24 [(1, .int q3)] [] σ (some (.int q)) σ := by
    refine a_iload_n dX9_ones_24 rfl 0 rfl ?_
    have hq := Option.some.inj hf
    subst hq
    exact a_iret rfl dX9_ones_25
  refine a_locs (loc' := [(0, .int p0), (1, .int (0 : Int32)), (2, .int (0 : Int32))]) [2, 1, 0] rfl ?_
  exact kX9_ones_L4 e p0 σ q3 fu (0 : Int32) (0 : Int32) hr4 hA5
set_option maxHeartbeats 4000000 in
set_option maxRecDepth 100000 in
theorem kX9_byHabit_L13 (e : Nat) (c1 : Int32) (c2 : Int32) (c3 : Int32) (σ : St)  {r : Option Value} {τ : St} (q : (Int32)) : ∀ (n : Nat) (v4 : Int32) (v5 : Int32), fX9_byHabit_L13 c1 c2 c3 σ n v4 v5 = some q → A (e + 2) MX9_byHabit 146 [(4, .int q)] [] σ r τ → A (e + 2) MX9_byHabit 13 [(0, .ref 58), (1, .int c1), (2, .int c2), (3, .int c3), (4, .int v4), (5, .int v5)] [] σ r τ := by
  intro n
  induction n with
  | zero =>
    intro v4 v5  hf
    simp only [fX9_byHabit_L13] at hf
    exact absurd hf (by simp)
  | succ n ih =>
    intro v4 v5  hf h2
    rw [fX9_byHabit_L13] at hf
    refine a_iload dX9_byHabit_13 5 rfl ?_
    refine a_aload_n dX9_byHabit_15 rfl 0 rfl ?_
    refine a_get (.int (σ.1 58 12)) ob_58 (by decide) fl_X9_144 rfl dX9_byHabit_16 ?_
    by_cases hc3 : (σ.1 58 12) ≤ v5
    · rw [if_pos hc3] at hf
      refine a_icmp_ge_t 146 dX9_byHabit_19 (by decide) hc3 ?_
      have hq := Option.some.inj hf
      rw [← hq] at h2
      refine a_locs (loc' := [(4, .int v4)]) [4] rfl ?_
      exact h2
    · rw [if_neg hc3] at hf
      refine a_icmp_ge_f 146 dX9_byHabit_19 (by decide) hc3 ?_
      refine a_iload_n dX9_byHabit_22 rfl 2 rfl ?_
      refine a_iload dX9_byHabit_23 5 rfl ?_
      refine a_ishr dX9_byHabit_25 ?_
      refine a_iconst (1 : Int32) dX9_byHabit_26 rfl ?_
      refine a_iand dX9_byHabit_27 ?_
      refine a_iconst (1 : Int32) dX9_byHabit_28 rfl ?_
      by_cases hc4 : ((c2 >>> (v5 &&& 31)) &&& (1 : Int32)) = (1 : Int32)
      · rw [if_pos hc4] at hf
        refine a_icmp_ne_f 140 dX9_byHabit_29 (by decide) hc4 ?_
        refine a_iload dX9_byHabit_32 4 rfl ?_
        refine a_iconst (-1 : Int32) dX9_byHabit_34 rfl ?_
        obtain ⟨x6, hx6, hf⟩ := bnd_elim hf
        have hA24 : A (e + 2) MX9_byHabit 48 [(0, .ref 58), (1, .int c1), (2, .int c2), (3, .int c3), (4, .int v4), (5, .int v5)] [.int x6] σ r τ := by
          refine a_istore dX9_byHabit_48 (by decide) (loc' := [(6, .int x6), (0, .ref 58), (1, .int c1), (2, .int c2), (3, .int c3), (4, .int v4), (5, .int v5)]) rfl ?_
          refine a_iload dX9_byHabit_50 0 rfl ?_
          obtain ⟨q8, hr19, hf⟩ := obind hf
          have hA18 : A (e + 2) MX9_byHabit 92 [(0, .ref 58), (1, .int c1), (2, .int c2), (3, .int c3), (4, .int v4), (5, .int v5)] [.int q8] σ r τ := by
            refine a_istore dX9_byHabit_92 (by decide) (loc' := [(6, .int q8), (0, .ref 58), (1, .int c1), (2, .int c2), (3, .int c3), (4, .int v4), (5, .int v5)]) rfl ?_
            refine a_iload dX9_byHabit_94 0 rfl ?_
            obtain ⟨q10, hr13, hf⟩ := obind hf
            have hA12 : A (e + 2) MX9_byHabit 124 [(0, .ref 58), (1, .int c1), (2, .int c2), (3, .int c3), (4, .int v4), (5, .int v5)] [.int q10] σ r τ := by
              refine a_istore dX9_byHabit_124 (by decide) (loc' := [(6, .int q10), (0, .ref 58), (1, .int c1), (2, .int c2), (3, .int c3), (4, .int v4), (5, .int v5)]) rfl ?_
              refine a_iload dX9_byHabit_126 0 rfl ?_
              by_cases hc11 : q10 = 0
              · rw [if_pos hc11] at hf
                refine a_if_eq_t 136 dX9_byHabit_128 (by decide) hc11 ?_
                refine a_iload dX9_byHabit_136 5 rfl ?_
                refine a_istore dX9_byHabit_138 (by decide) (loc' := [(4, .int v4), (6, .int q10), (0, .ref 58), (1, .int c1), (2, .int c2), (3, .int c3), (5, .int v5)]) rfl ?_
                refine a_iinc (v5 + (1 : Int32)) dX9_byHabit_140 6 rfl rfl (by decide) (loc' := [(5, .int (v5 + (1 : Int32))), (4, .int v4), (6, .int q10), (0, .ref 58), (1, .int c1), (2, .int c2), (3, .int c3)]) rfl ?_
                refine a_goto 13 dX9_byHabit_143 (by decide) ?_
                refine a_locs (loc' := [(0, .ref 58), (1, .int c1), (2, .int c2), (3, .int c3), (4, .int v4), (5, .int (v5 + (1 : Int32)))]) [3, 4, 5, 6, 1, 0] rfl ?_
                exact ih v4 (v5 + (1 : Int32)) hf h2
              · rw [if_neg hc11] at hf
                refine a_if_eq_f 136 dX9_byHabit_128 (by decide) hc11 ?_
                refine a_iload dX9_byHabit_131 6 rfl ?_
                refine a_goto 138 dX9_byHabit_133 (by decide) ?_
                refine a_istore dX9_byHabit_138 (by decide) (loc' := [(4, .int v5), (6, .int q10), (0, .ref 58), (1, .int c1), (2, .int c2), (3, .int c3), (5, .int v5)]) rfl ?_
                refine a_iinc (v5 + (1 : Int32)) dX9_byHabit_140 6 rfl rfl (by decide) (loc' := [(5, .int (v5 + (1 : Int32))), (4, .int v5), (6, .int q10), (0, .ref 58), (1, .int c1), (2, .int c2), (3, .int c3)]) rfl ?_
                refine a_goto 13 dX9_byHabit_143 (by decide) ?_
                refine a_locs (loc' := [(0, .ref 58), (1, .int c1), (2, .int c2), (3, .int c3), (4, .int v5), (5, .int (v5 + (1 : Int32)))]) [3, 4, 5, 6, 1, 0] rfl ?_
                exact ih v5 (v5 + (1 : Int32)) hf h2
            clear hf
            have hf := hr13
            clear hr13
            by_cases hc9 : q8 = 0
            · rw [if_pos hc9] at hf
              refine a_if_ne_f 119 dX9_byHabit_96 (by decide) hc9 ?_
              refine a_iload_n dX9_byHabit_99 rfl 4 rfl ?_
              refine a_iconst (3 : Int32) dX9_byHabit_100 rfl ?_
              by_cases hc14 : c3 = (3 : Int32)
              · rw [if_pos hc14] at hf
                refine a_icmp_ne_f 123 dX9_byHabit_101 (by decide) hc14 ?_
                refine a_aload_n dX9_byHabit_104 rfl 1 rfl ?_
                refine a_iload dX9_byHabit_105 6 rfl ?_
                obtain ⟨q15, hq15, hf⟩ := obind hf
                refine a_callV (as := [.int v5]) (stk := []) (q := some (.int q15)) (σ1 := σ) (kX9_holds e v5 σ _ hq15) ob_58 vl_X9_164 rfl (Nat.le_of_ble_eq_true rfl) dX9_byHabit_107 ?_
                refine a_aload_n dX9_byHabit_110 rfl 1 rfl ?_
                refine a_iload dX9_byHabit_111 5 rfl ?_
                obtain ⟨q16, hq16, hf⟩ := obind hf
                refine a_callV (as := [.int v4]) (stk := [.int q15]) (q := some (.int q16)) (σ1 := σ) (kX9_holds e v4 σ _ hq16) ob_58 vl_X9_164 rfl (Nat.le_of_ble_eq_true rfl) dX9_byHabit_113 ?_
                by_cases hc17 : q16 ≤ q15
                · rw [if_pos hc17] at hf
                  refine a_icmp_ge_t 123 dX9_byHabit_116 (by decide) hc17 ?_
                  refine a_iconst (0 : Int32) dX9_byHabit_123 rfl ?_
                  have hq := Option.some.inj hf
                  subst hq
                  refine a_locs (loc' := [(0, .ref 58), (1, .int c1), (2, .int c2), (3, .int c3), (4, .int v4), (5, .int v5)]) [1, 2, 3, 4, 5, 6] rfl ?_
                  exact hA12
                · rw [if_neg hc17] at hf
                  refine a_icmp_ge_f 123 dX9_byHabit_116 (by decide) hc17 ?_
                  refine a_iconst (1 : Int32) dX9_byHabit_119 rfl ?_
                  refine a_goto 124 dX9_byHabit_120 (by decide) ?_
                  have hq := Option.some.inj hf
                  subst hq
                  refine a_locs (loc' := [(0, .ref 58), (1, .int c1), (2, .int c2), (3, .int c3), (4, .int v4), (5, .int v5)]) [1, 2, 3, 4, 5, 6] rfl ?_
                  exact hA12
              · rw [if_neg hc14] at hf
                refine a_icmp_ne_t 123 dX9_byHabit_101 (by decide) hc14 ?_
                refine a_iconst (0 : Int32) dX9_byHabit_123 rfl ?_
                have hq := Option.some.inj hf
                subst hq
                refine a_locs (loc' := [(0, .ref 58), (1, .int c1), (2, .int c2), (3, .int c3), (4, .int v4), (5, .int v5)]) [1, 2, 3, 4, 5, 6] rfl ?_
                exact hA12
            · rw [if_neg hc9] at hf
              refine a_if_ne_t 119 dX9_byHabit_96 (by decide) hc9 ?_
              refine a_iconst (1 : Int32) dX9_byHabit_119 rfl ?_
              refine a_goto 124 dX9_byHabit_120 (by decide) ?_
              have hq := Option.some.inj hf
              subst hq
              refine a_locs (loc' := [(0, .ref 58), (1, .int c1), (2, .int c2), (3, .int c3), (4, .int v4), (5, .int v5)]) [1, 2, 3, 4, 5, 6] rfl ?_
              exact hA12
          clear hf
          have hf := hr19
          clear hr19
          by_cases hc7 : x6 = 0
          · rw [if_pos hc7] at hf
            refine a_if_ne_f 87 dX9_byHabit_52 (by decide) hc7 ?_
            refine a_iload_n dX9_byHabit_55 rfl 4 rfl ?_
            refine a_iconst (2 : Int32) dX9_byHabit_56 rfl ?_
            by_cases hc20 : c3 = (2 : Int32)
            · rw [if_pos hc20] at hf
              refine a_icmp_ne_f 91 dX9_byHabit_57 (by decide) hc20 ?_
              refine a_aload_n dX9_byHabit_60 rfl 1 rfl ?_
              refine a_get (.ref 62) ob_58 (by decide) fl_X9_19 rfl dX9_byHabit_61 ?_
              refine a_bipush (8 : Int32) dX9_byHabit_64 rfl ?_
              refine a_iload_n dX9_byHabit_66 rfl 2 rfl ?_
              refine a_imul dX9_byHabit_67 ?_
              refine a_iload dX9_byHabit_68 6 rfl ?_
              refine a_iadd dX9_byHabit_70 ?_
              obtain ⟨hb21, hf⟩ := grd_elim hf
              refine a_iald ia_62 hb21 dX9_byHabit_71 ?_
              refine a_aload_n dX9_byHabit_72 rfl 1 rfl ?_
              refine a_get (.ref 62) ob_58 (by decide) fl_X9_19 rfl dX9_byHabit_73 ?_
              refine a_bipush (8 : Int32) dX9_byHabit_76 rfl ?_
              refine a_iload_n dX9_byHabit_78 rfl 2 rfl ?_
              refine a_imul dX9_byHabit_79 ?_
              refine a_iload dX9_byHabit_80 5 rfl ?_
              refine a_iadd dX9_byHabit_82 ?_
              obtain ⟨hb22, hf⟩ := grd_elim hf
              refine a_iald ia_62 hb22 dX9_byHabit_83 ?_
              by_cases hc23 : (σ.1 62 (((8 : Int32) * c1) + v5).toNatClampNeg) ≤ (σ.1 62 (((8 : Int32) * c1) + v4).toNatClampNeg)
              · rw [if_pos hc23] at hf
                refine a_icmp_le_t 91 dX9_byHabit_84 (by decide) hc23 ?_
                refine a_iconst (0 : Int32) dX9_byHabit_91 rfl ?_
                have hq := Option.some.inj hf
                subst hq
                refine a_locs (loc' := [(0, .ref 58), (1, .int c1), (2, .int c2), (3, .int c3), (4, .int v4), (5, .int v5)]) [1, 2, 3, 4, 5, 6] rfl ?_
                exact hA18
              · rw [if_neg hc23] at hf
                refine a_icmp_le_f 91 dX9_byHabit_84 (by decide) hc23 ?_
                refine a_iconst (1 : Int32) dX9_byHabit_87 rfl ?_
                refine a_goto 92 dX9_byHabit_88 (by decide) ?_
                have hq := Option.some.inj hf
                subst hq
                refine a_locs (loc' := [(0, .ref 58), (1, .int c1), (2, .int c2), (3, .int c3), (4, .int v4), (5, .int v5)]) [1, 2, 3, 4, 5, 6] rfl ?_
                exact hA18
            · rw [if_neg hc20] at hf
              refine a_icmp_ne_t 91 dX9_byHabit_57 (by decide) hc20 ?_
              refine a_iconst (0 : Int32) dX9_byHabit_91 rfl ?_
              have hq := Option.some.inj hf
              subst hq
              refine a_locs (loc' := [(0, .ref 58), (1, .int c1), (2, .int c2), (3, .int c3), (4, .int v4), (5, .int v5)]) [1, 2, 3, 4, 5, 6] rfl ?_
              exact hA18
          · rw [if_neg hc7] at hf
            refine a_if_ne_t 87 dX9_byHabit_52 (by decide) hc7 ?_
            refine a_iconst (1 : Int32) dX9_byHabit_87 rfl ?_
            refine a_goto 92 dX9_byHabit_88 (by decide) ?_
            have hq := Option.some.inj hf
            subst hq
            refine a_locs (loc' := [(0, .ref 58), (1, .int c1), (2, .int c2), (3, .int c3), (4, .int v4), (5, .int v5)]) [1, 2, 3, 4, 5, 6] rfl ?_
            exact hA18
        clear hf
        by_cases hc5 : v4 = (-1 : Int32)
        · rw [if_pos hc5] at hx6
          refine a_icmp_eq_t 43 dX9_byHabit_35 (by decide) hc5 ?_
          refine a_iconst (1 : Int32) dX9_byHabit_43 rfl ?_
          refine a_goto 48 dX9_byHabit_44 (by decide) ?_
          replace hx6 := hx6.symm; subst hx6
          exact hA24
        · rw [if_neg hc5] at hx6
          refine a_icmp_eq_f 43 dX9_byHabit_35 (by decide) hc5 ?_
          refine a_iload_n dX9_byHabit_38 rfl 3 rfl ?_
          refine a_iconst (1 : Int32) dX9_byHabit_39 rfl ?_
          by_cases hc25 : c3 = (1 : Int32)
          · rw [if_pos hc25] at hx6
            refine a_icmp_ne_f 47 dX9_byHabit_40 (by decide) hc25 ?_
            refine a_iconst (1 : Int32) dX9_byHabit_43 rfl ?_
            refine a_goto 48 dX9_byHabit_44 (by decide) ?_
            replace hx6 := hx6.symm; subst hx6
            exact hA24
          · rw [if_neg hc25] at hx6
            refine a_icmp_ne_t 47 dX9_byHabit_40 (by decide) hc25 ?_
            refine a_iconst (0 : Int32) dX9_byHabit_47 rfl ?_
            replace hx6 := hx6.symm; subst hx6
            exact hA24
      · rw [if_neg hc4] at hf
        refine a_icmp_ne_t 140 dX9_byHabit_29 (by decide) hc4 ?_
        refine a_iinc (v5 + (1 : Int32)) dX9_byHabit_140 5 rfl rfl (by decide) (loc' := [(5, .int (v5 + (1 : Int32))), (0, .ref 58), (1, .int c1), (2, .int c2), (3, .int c3), (4, .int v4)]) rfl ?_
        refine a_goto 13 dX9_byHabit_143 (by decide) ?_
        refine a_locs (loc' := [(0, .ref 58), (1, .int c1), (2, .int c2), (3, .int c3), (4, .int v4), (5, .int (v5 + (1 : Int32)))]) [1, 2, 3, 4, 5, 0] rfl ?_
        exact ih v4 (v5 + (1 : Int32)) hf h2
set_option maxHeartbeats 4000000 in
set_option maxRecDepth 100000 in
theorem kX9_byHabit (e : Nat) (p1 : Int32) (p2 : Int32) (σ : St)  (q : Int32) (hf : fX9_byHabit p1 p2 σ = some q) : Sp (e + 2) MX9_byHabit [.ref 58, .int p1, .int p2] σ (some (.int q)) σ := by
  refine sp_of rfl (Nat.le_of_ble_eq_true rfl) (loc := [(0, .ref 58), (1, .int p1), (2, .int p2)]) rfl ?_
  unfold fX9_byHabit at hf
  refine a_aload_n dX9_byHabit_0 rfl 0 rfl ?_
  refine a_get (.ref 60) ob_58 (by decide) fl_X9_13 rfl dX9_byHabit_1 ?_
  refine a_iload_n dX9_byHabit_4 rfl 1 rfl ?_
  obtain ⟨hb1, hf⟩ := grd_elim hf
  refine a_iald ia_60 hb1 dX9_byHabit_5 ?_
  obtain ⟨x2, hx2, hf⟩ := bnd_elim hf
  refine a_top (w := .int x2) (by rw [hx2]) ?_
  refine a_istore_n dX9_byHabit_6 rfl (by decide) (loc' := [(3, .int x2), (0, .ref 58), (1, .int p1), (2, .int p2)]) rfl ?_
  refine a_iconst (-1 : Int32) dX9_byHabit_7 rfl ?_
  refine a_istore dX9_byHabit_8 (by decide) (loc' := [(4, .int (-1 : Int32)), (3, .int x2), (0, .ref 58), (1, .int p1), (2, .int p2)]) rfl ?_
  refine a_iconst (0 : Int32) dX9_byHabit_10 rfl ?_
  refine a_istore dX9_byHabit_11 (by decide) (loc' := [(5, .int (0 : Int32)), (4, .int (-1 : Int32)), (3, .int x2), (0, .ref 58), (1, .int p1), (2, .int p2)]) rfl ?_
  obtain ⟨q26, hr27, hf⟩ := obind hf
  have hA28 : A (e + 2) MX9_byHabit 146 [(4, .int q26)] [] σ (some (.int q)) σ := by
    refine a_iload dX9_byHabit_146 0 rfl ?_
    have hq := Option.some.inj hf
    subst hq
    exact a_iret rfl dX9_byHabit_148
  refine a_locs (loc' := [(0, .ref 58), (1, .int p1), (2, .int p2), (3, .int x2), (4, .int (-1 : Int32)), (5, .int (0 : Int32))]) [3, 4, 5, 2, 1, 0] rfl ?_
  exact kX9_byHabit_L13 e p1 p2 x2 σ q26 fu (-1 : Int32) (0 : Int32) hr27 hA28
set_option maxHeartbeats 4000000 in
set_option maxRecDepth 100000 in
theorem kX9_draw (e : Nat) (p1 : Int32) (σ : St)  (q : Int32 × St) (hf : fX9_draw p1 σ = some q) : Sp e MX9_draw [.ref 58, .int p1] σ (some (.int q.1)) q.2 := by
  refine sp_of rfl (Nat.le_of_ble_eq_true rfl) (loc := [(0, .ref 58), (1, .int p1)]) rfl ?_
  unfold fX9_draw at hf
  refine a_aload_n dX9_draw_0 rfl 0 rfl ?_
  refine a_ldc2 rfl kc_X9_200 dX9_draw_1 ?_
  refine a_aload_n dX9_draw_4 rfl 0 rfl ?_
  refine a_get (.int (σ.1 58 22)) ob_58 (by decide) fl_X9_202 rfl dX9_draw_5 ?_
  refine a_i2l dX9_draw_8 ?_
  refine a_lmul dX9_draw_9 ?_
  refine a_ldc2 rfl kc_X9_205 dX9_draw_10 ?_
  refine a_ladd dX9_draw_13 ?_
  refine a_ldc2 rfl kc_X9_207 dX9_draw_14 ?_
  refine a_land dX9_draw_17 ?_
  refine a_l2i dX9_draw_18 ?_
  refine a_putI ob_58 (by decide) fp_X9_202 (Or.inl rfl) dX9_draw_19 ?_
  obtain ⟨σ1, hσ1, hf⟩ := bnd_elim hf
  rw [← hσ1]
  refine a_aload_n dX9_draw_22 rfl 0 rfl ?_
  refine a_get (.int (σ1.1 58 22)) ob_58 (by decide) fl_X9_202 rfl dX9_draw_23 ?_
  refine a_ldc rfl kc_X9_209 dX9_draw_26 ?_
  refine a_idiv (by decide) dX9_draw_28 ?_
  refine a_iload_n dX9_draw_29 rfl 1 rfl ?_
  obtain ⟨hb2, hf⟩ := grd_elim hf
  refine a_irem (of_decide_eq_true hb2) dX9_draw_30 ?_
  have hq := Option.some.inj hf
  subst hq
  exact a_iret rfl dX9_draw_31
set_option maxHeartbeats 4000000 in
set_option maxRecDepth 100000 in
theorem kX9_byDraw_L11 (e : Nat) (c1 : Int32) (σ : St)  {r : Option Value} {τ : St} (q : (Int32)) : ∀ (n : Nat) (v2 : Int32) (v3 : Int32), fX9_byDraw_L11 c1 σ n v2 v3 = some q → A (e + 1) MX9_byDraw 37 [(3, .int q)] [] σ r τ → A (e + 1) MX9_byDraw 11 [(1, .int c1), (2, .int v2), (3, .int v3)] [] σ r τ := by
  intro n
  induction n with
  | zero =>
    intro v2 v3  hf
    simp only [fX9_byDraw_L11] at hf
    exact absurd hf (by simp)
  | succ n ih =>
    intro v2 v3  hf h2
    rw [fX9_byDraw_L11] at hf
    refine a_iload_n dX9_byDraw_11 rfl 0 rfl ?_
    refine a_iload_n dX9_byDraw_12 rfl 2 rfl ?_
    refine a_ishr dX9_byDraw_13 ?_
    refine a_iconst (1 : Int32) dX9_byDraw_14 rfl ?_
    refine a_iand dX9_byDraw_15 ?_
    by_cases hc3 : ((c1 >>> (v3 &&& 31)) &&& (1 : Int32)) = 0
    · rw [if_pos hc3] at hf
      refine a_if_eq_t 23 dX9_byDraw_16 (by decide) hc3 ?_
      refine a_iload_n dX9_byDraw_23 rfl 1 rfl ?_
      refine a_iload_n dX9_byDraw_24 rfl 0 rfl ?_
      refine a_iload_n dX9_byDraw_25 rfl 2 rfl ?_
      refine a_ishr dX9_byDraw_26 ?_
      refine a_iconst (1 : Int32) dX9_byDraw_27 rfl ?_
      refine a_iand dX9_byDraw_28 ?_
      refine a_isub dX9_byDraw_29 ?_
      obtain ⟨x4, hx4, hf⟩ := bnd_elim hf
      refine a_top (w := .int x4) (by rw [hx4]) ?_
      refine a_istore_n dX9_byDraw_30 rfl (by decide) (loc' := [(2, .int x4), (1, .int c1), (3, .int v3)]) rfl ?_
      refine a_iinc (v3 + (1 : Int32)) dX9_byDraw_31 2 rfl rfl (by decide) (loc' := [(3, .int (v3 + (1 : Int32))), (2, .int x4), (1, .int c1)]) rfl ?_
      refine a_goto 11 dX9_byDraw_34 (by decide) ?_
      refine a_locs (loc' := [(1, .int c1), (2, .int x4), (3, .int (v3 + (1 : Int32)))]) [2, 1, 0] rfl ?_
      exact ih x4 (v3 + (1 : Int32)) hf h2
    · rw [if_neg hc3] at hf
      refine a_if_eq_f 23 dX9_byDraw_16 (by decide) hc3 ?_
      refine a_iload_n dX9_byDraw_19 rfl 1 rfl ?_
      by_cases hc5 : v2 ≤ 0
      · rw [if_pos hc5] at hf
        refine a_if_le_t 37 dX9_byDraw_20 (by decide) hc5 ?_
        have hq := Option.some.inj hf
        rw [← hq] at h2
        refine a_locs (loc' := [(3, .int v3)]) [2] rfl ?_
        exact h2
      · rw [if_neg hc5] at hf
        refine a_if_le_f 37 dX9_byDraw_20 (by decide) hc5 ?_
        refine a_iload_n dX9_byDraw_23 rfl 1 rfl ?_
        refine a_iload_n dX9_byDraw_24 rfl 0 rfl ?_
        refine a_iload_n dX9_byDraw_25 rfl 2 rfl ?_
        refine a_ishr dX9_byDraw_26 ?_
        refine a_iconst (1 : Int32) dX9_byDraw_27 rfl ?_
        refine a_iand dX9_byDraw_28 ?_
        refine a_isub dX9_byDraw_29 ?_
        obtain ⟨x6, hx6, hf⟩ := bnd_elim hf
        refine a_top (w := .int x6) (by rw [hx6]) ?_
        refine a_istore_n dX9_byDraw_30 rfl (by decide) (loc' := [(2, .int x6), (1, .int c1), (3, .int v3)]) rfl ?_
        refine a_iinc (v3 + (1 : Int32)) dX9_byDraw_31 2 rfl rfl (by decide) (loc' := [(3, .int (v3 + (1 : Int32))), (2, .int x6), (1, .int c1)]) rfl ?_
        refine a_goto 11 dX9_byDraw_34 (by decide) ?_
        refine a_locs (loc' := [(1, .int c1), (2, .int x6), (3, .int (v3 + (1 : Int32)))]) [2, 1, 0] rfl ?_
        exact ih x6 (v3 + (1 : Int32)) hf h2
set_option maxHeartbeats 4000000 in
set_option maxRecDepth 100000 in
theorem kX9_byDraw (e : Nat) (p1 : Int32) (σ : St)  (q : Int32 × St) (hf : fX9_byDraw p1 σ = some q) : Sp (e + 1) MX9_byDraw [.ref 58, .int p1] σ (some (.int q.1)) q.2 := by
  refine sp_of rfl (Nat.le_of_ble_eq_true rfl) (loc := [(0, .ref 58), (1, .int p1)]) rfl ?_
  unfold fX9_byDraw at hf
  refine a_aload_n dX9_byDraw_0 rfl 0 rfl ?_
  refine a_iload_n dX9_byDraw_1 rfl 1 rfl ?_
  obtain ⟨q1, hq1, hf⟩ := obind hf
  refine a_callS (as := [.int p1]) (stk := [.ref 58]) (q := some (.int q1)) (σ1 := σ) (kX9_ones e p1 σ _ hq1) sl_X9_210 rfl (Nat.le_of_ble_eq_true rfl) dX9_byDraw_2 ?_
  obtain ⟨q2, hq2, hf⟩ := obind hf
  refine a_callV (as := [.int q1]) (stk := []) (q := some (.int q2.1)) (σ1 := q2.2) (kX9_draw e q1 σ _ hq2) ob_58 vl_X9_213 rfl (Nat.le_of_ble_eq_true rfl) dX9_byDraw_5 ?_
  refine a_istore_n dX9_byDraw_8 rfl (by decide) (loc' := [(2, .int q2.1), (0, .ref 58), (1, .int p1)]) rfl ?_
  refine a_iconst (0 : Int32) dX9_byDraw_9 rfl ?_
  refine a_istore_n dX9_byDraw_10 rfl (by decide) (loc' := [(3, .int (0 : Int32)), (2, .int q2.1), (0, .ref 58), (1, .int p1)]) rfl ?_
  obtain ⟨q7, hr8, hf⟩ := obind hf
  have hA9 : A (e + 1) MX9_byDraw 37 [(3, .int q7)] [] q2.2 (some (.int q.1)) q.2 := by
    refine a_iload_n dX9_byDraw_37 rfl 0 rfl ?_
    have hq := Option.some.inj hf
    subst hq
    exact a_iret rfl dX9_byDraw_38
  refine a_locs (loc' := [(1, .int p1), (2, .int q2.1), (3, .int (0 : Int32))]) [3, 1, 0] rfl ?_
  exact kX9_byDraw_L11 e p1 q2.2 q7 fu q2.1 (0 : Int32) hr8 hA9
set_option maxHeartbeats 4000000 in
set_option maxRecDepth 100000 in
theorem kX9_year_L2 (e : Nat) (c1 : Int32)   {r : Option Value} {τ : St} (q : (St)) : ∀ (n : Nat) (v2 : Int32) (σ : St), fX9_year_L2 c1 n v2 σ = some q → A (e + 3) MX9_year 56 [(0, .ref 58), (1, .int c1)] [] q r τ → A (e + 3) MX9_year 2 [(0, .ref 58), (1, .int c1), (2, .int v2)] [] σ r τ := by
  intro n
  induction n with
  | zero =>
    intro v2 σ  hf
    simp only [fX9_year_L2] at hf
    exact absurd hf (by simp)
  | succ n ih =>
    intro v2 σ  hf h2
    rw [fX9_year_L2] at hf
    refine a_iload_n dX9_year_2 rfl 2 rfl ?_
    refine a_bipush (8 : Int32) dX9_year_3 rfl ?_
    by_cases hc1 : (8 : Int32) ≤ v2
    · rw [if_pos hc1] at hf
      refine a_icmp_ge_t 56 dX9_year_5 (by decide) hc1 ?_
      have hq := Option.some.inj hf
      rw [← hq] at h2
      refine a_locs (loc' := [(0, .ref 58), (1, .int c1)]) [0, 1] rfl ?_
      exact h2
    · rw [if_neg hc1] at hf
      refine a_icmp_ge_f 56 dX9_year_5 (by decide) hc1 ?_
      refine a_aload_n dX9_year_8 rfl 0 rfl ?_
      refine a_get (.ref 66) ob_58 (by decide) fl_X9_31 rfl dX9_year_9 ?_
      refine a_iload_n dX9_year_12 rfl 2 rfl ?_
      refine a_iconst (0 : Int32) dX9_year_13 rfl ?_
      obtain ⟨hb2, hf⟩ := grd_elim hf
      refine a_iast ia_66 hb2 dX9_year_14 ?_
      obtain ⟨σ3, hσ3, hf⟩ := bnd_elim hf
      rw [← hσ3]
      refine a_aload_n dX9_year_15 rfl 0 rfl ?_
      refine a_get (.ref 65) ob_58 (by decide) fl_X9_28 rfl dX9_year_16 ?_
      refine a_bipush (8 : Int32) dX9_year_19 rfl ?_
      refine a_iload_n dX9_year_21 rfl 2 rfl ?_
      refine a_imul dX9_year_22 ?_
      refine a_iconst (5 : Int32) dX9_year_23 rfl ?_
      refine a_iadd dX9_year_24 ?_
      refine a_dup2 rfl rfl dX9_year_25 ?_
      obtain ⟨hb4, hf⟩ := grd_elim hf
      refine a_iald ia_65 hb4 dX9_year_26 ?_
      refine a_iload_n dX9_year_27 rfl 2 rfl ?_
      refine a_aload_n dX9_year_28 rfl 0 rfl ?_
      refine a_get (.int (σ3.1 58 20)) ob_58 (by decide) fl_X9_158 rfl dX9_year_29 ?_
      obtain ⟨q6, hr10, hf⟩ := obind hf
      have hA9 : A (e + 3) MX9_year 48 [(0, .ref 58), (1, .int c1), (2, .int v2)] [.int q6, .int (σ3.1 65 (((8 : Int32) * v2) + (5 : Int32)).toNatClampNeg), .int (((8 : Int32) * v2) + (5 : Int32)), .ref 65] σ3 r τ := by
        refine a_iadd dX9_year_48 ?_
        obtain ⟨hb7, hf⟩ := grd_elim hf
        refine a_iast ia_65 hb7 dX9_year_49 ?_
        obtain ⟨σ8, hσ8, hf⟩ := bnd_elim hf
        rw [← hσ8]
        refine a_iinc (v2 + (1 : Int32)) dX9_year_50 2 rfl rfl (by decide) (loc' := [(2, .int (v2 + (1 : Int32))), (0, .ref 58), (1, .int c1)]) rfl ?_
        refine a_goto 2 dX9_year_53 (by decide) ?_
        refine a_locs (loc' := [(0, .ref 58), (1, .int c1), (2, .int (v2 + (1 : Int32)))]) [1, 2, 0] rfl ?_
        exact ih (v2 + (1 : Int32)) σ8 hf h2
      clear hf
      have hf := hr10
      clear hr10
      by_cases hc5 : (σ3.1 58 20) ≤ v2
      · rw [if_pos hc5] at hf
        refine a_icmp_ge_t 47 dX9_year_32 (by decide) hc5 ?_
        refine a_iconst (0 : Int32) dX9_year_47 rfl ?_
        have hq := Option.some.inj hf
        subst hq
        exact hA9
      · rw [if_neg hc5] at hf
        refine a_icmp_ge_f 47 dX9_year_32 (by decide) hc5 ?_
        refine a_aload_n dX9_year_35 rfl 0 rfl ?_
        refine a_iload_n dX9_year_36 rfl 2 rfl ?_
        obtain ⟨q11, hq11, hf⟩ := obind hf
        refine a_callV (as := [.int v2]) (stk := [.int (σ3.1 65 (((8 : Int32) * v2) + (5 : Int32)).toNatClampNeg), .int (((8 : Int32) * v2) + (5 : Int32)), .ref 65]) (q := some (.int q11)) (σ1 := σ3) (kX9_lives (e + 2) v2 σ3 _ hq11) ob_58 vl_X9_161 rfl (Nat.le_of_ble_eq_true rfl) dX9_year_37 ?_
        by_cases hc12 : q11 = 0
        · rw [if_pos hc12] at hf
          refine a_if_eq_t 47 dX9_year_40 (by decide) hc12 ?_
          refine a_iconst (0 : Int32) dX9_year_47 rfl ?_
          have hq := Option.some.inj hf
          subst hq
          exact hA9
        · rw [if_neg hc12] at hf
          refine a_if_eq_f 47 dX9_year_40 (by decide) hc12 ?_
          refine a_iconst (1 : Int32) dX9_year_43 rfl ?_
          refine a_goto 48 dX9_year_44 (by decide) ?_
          have hq := Option.some.inj hf
          subst hq
          exact hA9
set_option maxHeartbeats 4000000 in
set_option maxRecDepth 100000 in
theorem kX9_year_L60 (e : Nat) (c1 : Int32)   {r : Option Value} {τ : St} (q : (Int32 × St)) : ∀ (n : Nat) (v2 : Int32) (v3 : Int32) (σ : St), fX9_year_L60 c1 n v2 v3 σ = some q → A (e + 3) MX9_year 220 [(0, .ref 58), (2, .int q.1)] [] q.2 r τ → A (e + 3) MX9_year 60 [(0, .ref 58), (1, .int c1), (2, .int v2), (3, .int v3)] [] σ r τ := by
  intro n
  induction n with
  | zero =>
    intro v2 v3 σ  hf
    simp only [fX9_year_L60] at hf
    exact absurd hf (by simp)
  | succ n ih =>
    intro v2 v3 σ  hf h2
    rw [fX9_year_L60] at hf
    refine a_iload_n dX9_year_60 rfl 3 rfl ?_
    refine a_aload_n dX9_year_61 rfl 0 rfl ?_
    refine a_get (.int (σ.1 58 20)) ob_58 (by decide) fl_X9_158 rfl dX9_year_62 ?_
    by_cases hc14 : (σ.1 58 20) ≤ v3
    · rw [if_pos hc14] at hf
      refine a_icmp_ge_t 220 dX9_year_65 (by decide) hc14 ?_
      have hq := Option.some.inj hf
      rw [← hq] at h2
      refine a_locs (loc' := [(0, .ref 58), (2, .int v2)]) [0, 2] rfl ?_
      exact h2
    · rw [if_neg hc14] at hf
      refine a_icmp_ge_f 220 dX9_year_65 (by decide) hc14 ?_
      refine a_aload_n dX9_year_68 rfl 0 rfl ?_
      refine a_get (.ref 65) ob_58 (by decide) fl_X9_28 rfl dX9_year_69 ?_
      refine a_bipush (8 : Int32) dX9_year_72 rfl ?_
      refine a_iload_n dX9_year_74 rfl 3 rfl ?_
      refine a_imul dX9_year_75 ?_
      refine a_iconst (2 : Int32) dX9_year_76 rfl ?_
      refine a_iadd dX9_year_77 ?_
      obtain ⟨hb15, hf⟩ := grd_elim hf
      refine a_iald ia_65 hb15 dX9_year_78 ?_
      obtain ⟨x16, hx16, hf⟩ := bnd_elim hf
      refine a_top (w := .int x16) (by rw [hx16]) ?_
      refine a_istore dX9_year_79 (by decide) (loc' := [(4, .int x16), (0, .ref 58), (1, .int c1), (2, .int v2), (3, .int v3)]) rfl ?_
      refine a_aload_n dX9_year_81 rfl 1 rfl ?_
      refine a_iload_n dX9_year_82 rfl 4 rfl ?_
      obtain ⟨q17, hq17, hf⟩ := obind hf
      refine a_callV (as := [.int v3]) (stk := []) (q := some (.int q17)) (σ1 := σ) (kX9_lives (e + 2) v3 σ _ hq17) ob_58 vl_X9_161 rfl (Nat.le_of_ble_eq_true rfl) dX9_year_83 ?_
      obtain ⟨q19, hr48, hf⟩ := obind hf
      have hA47 : A (e + 3) MX9_year 131 [(0, .ref 58), (1, .int c1), (2, .int v2), (3, .int v3), (4, .int x16)] [.int q19] σ r τ := by
        refine a_istore dX9_year_131 (by decide) (loc' := [(5, .int q19), (0, .ref 58), (1, .int c1), (2, .int v2), (3, .int v3), (4, .int x16)]) rfl ?_
        refine a_iload dX9_year_133 0 rfl ?_
        obtain ⟨q21, hr45, hf⟩ := obind hf
        have hA44 : A (e + 3) MX9_year 147 [(0, .ref 58), (1, .int c1), (2, .int v2), (3, .int v3), (4, .int x16)] [.int q21] σ r τ := by
          refine a_istore dX9_year_147 (by decide) (loc' := [(6, .int q21), (0, .ref 58), (1, .int c1), (2, .int v2), (3, .int v3), (4, .int x16)]) rfl ?_
          refine a_iload dX9_year_149 0 rfl ?_
          by_cases hc22 : q21 = 0
          · rw [if_pos hc22] at hf
            refine a_if_eq_t 214 dX9_year_151 (by decide) hc22 ?_
            refine a_iinc (v3 + (1 : Int32)) dX9_year_214 4 rfl rfl (by decide) (loc' := [(3, .int (v3 + (1 : Int32))), (6, .int q21), (0, .ref 58), (1, .int c1), (2, .int v2), (4, .int x16)]) rfl ?_
            refine a_goto 60 dX9_year_217 (by decide) ?_
            refine a_locs (loc' := [(0, .ref 58), (1, .int c1), (2, .int v2), (3, .int (v3 + (1 : Int32)))]) [2, 3, 4, 0] rfl ?_
            exact ih v2 (v3 + (1 : Int32)) σ hf h2
          · rw [if_neg hc22] at hf
            refine a_if_eq_f 214 dX9_year_151 (by decide) hc22 ?_
            refine a_aload_n dX9_year_154 rfl 1 rfl ?_
            refine a_get (.int (σ.1 58 4)) ob_58 (by decide) fl_X9_134 rfl dX9_year_155 ?_
            by_cases hc23 : (σ.1 58 4) = 0
            · rw [if_pos hc23] at hf
              refine a_if_eq_t 171 dX9_year_158 (by decide) hc23 ?_
              refine a_iload_n dX9_year_171 rfl 2 rfl ?_
              obtain ⟨q25, hr30, hf⟩ := obind hf
              have hA29 : A (e + 3) MX9_year 192 [(0, .ref 58), (1, .int c1), (2, .int v2), (3, .int v3), (4, .int x16)] [.int q25.1] q25.2 r τ := by
                refine a_istore dX9_year_192 (by decide) (loc' := [(7, .int q25.1), (0, .ref 58), (1, .int c1), (2, .int v2), (3, .int v3), (4, .int x16)]) rfl ?_
                refine a_aload_n dX9_year_194 rfl 1 rfl ?_
                refine a_iload_n dX9_year_195 rfl 4 rfl ?_
                refine a_iload dX9_year_196 0 rfl ?_
                obtain ⟨q26, hq26, hf⟩ := obind hf
                refine a_callV (as := [.int v3, .int q25.1]) (stk := []) (q := some (.int q26.1)) (σ1 := q26.2) (kX9_goOn (e + 1) v3 q25.1 q25.2 _ hq26) ob_58 vl_X9_197 rfl (Nat.le_of_ble_eq_true rfl) dX9_year_198 ?_
                refine a_istore dX9_year_201 (by decide) (loc' := [(8, .int q26.1), (7, .int q25.1), (0, .ref 58), (1, .int c1), (2, .int v2), (3, .int v3), (4, .int x16)]) rfl ?_
                refine a_aload_n dX9_year_203 rfl 2 rfl ?_
                refine a_get (.ref 66) ob_58 (by decide) fl_X9_31 rfl dX9_year_204 ?_
                refine a_iload dX9_year_207 6 rfl ?_
                refine a_iconst (1 : Int32) dX9_year_209 rfl ?_
                obtain ⟨hb27, hf⟩ := grd_elim hf
                refine a_iast ia_66 hb27 dX9_year_210 ?_
                obtain ⟨σ28, hσ28, hf⟩ := bnd_elim hf
                rw [← hσ28]
                refine a_iinc (v2 + (1 : Int32)) dX9_year_211 4 rfl rfl (by decide) (loc' := [(2, .int (v2 + (1 : Int32))), (8, .int q26.1), (7, .int q25.1), (0, .ref 58), (1, .int c1), (3, .int v3), (4, .int x16)]) rfl ?_
                refine a_iinc (v3 + (1 : Int32)) dX9_year_214 5 rfl rfl (by decide) (loc' := [(3, .int (v3 + (1 : Int32))), (2, .int (v2 + (1 : Int32))), (8, .int q26.1), (7, .int q25.1), (0, .ref 58), (1, .int c1), (4, .int x16)]) rfl ?_
                refine a_goto 60 dX9_year_217 (by decide) ?_
                refine a_locs (loc' := [(0, .ref 58), (1, .int c1), (2, .int (v2 + (1 : Int32))), (3, .int (v3 + (1 : Int32)))]) [4, 5, 1, 0] rfl ?_
                exact ih (v2 + (1 : Int32)) (v3 + (1 : Int32)) σ28 hf h2
              clear hf
              have hf := hr30
              clear hr30
              by_cases hc24 : c1 = 0
              · rw [if_pos hc24] at hf
                refine a_if_eq_t 184 dX9_year_172 (by decide) hc24 ?_
                refine a_aload_n dX9_year_184 rfl 1 rfl ?_
                refine a_iload dX9_year_185 5 rfl ?_
                refine a_iload dX9_year_187 0 rfl ?_
                obtain ⟨q31, hq31, hf⟩ := obind hf
                refine a_callV (as := [.int x16, .int q21]) (stk := []) (q := some (.int q31)) (σ1 := σ) (kX9_byHabit e x16 q21 σ _ hq31) ob_58 vl_X9_219 rfl (Nat.le_of_ble_eq_true rfl) dX9_year_189 ?_
                have hq := Option.some.inj hf
                subst hq
                refine a_locs (loc' := [(0, .ref 58), (1, .int c1), (2, .int v2), (3, .int v3), (4, .int x16)]) [1, 2, 3, 4, 5] rfl ?_
                exact hA29
              · rw [if_neg hc24] at hf
                refine a_if_eq_f 184 dX9_year_172 (by decide) hc24 ?_
                refine a_aload_n dX9_year_175 rfl 1 rfl ?_
                refine a_iload dX9_year_176 0 rfl ?_
                obtain ⟨q32, hq32, hf⟩ := obind hf
                refine a_callV (as := [.int q21]) (stk := []) (q := some (.int q32.1)) (σ1 := q32.2) (kX9_byDraw (e + 1) q21 σ _ hq32) ob_58 vl_X9_216 rfl (Nat.le_of_ble_eq_true rfl) dX9_year_178 ?_
                refine a_goto 192 dX9_year_181 (by decide) ?_
                have hq := Option.some.inj hf
                subst hq
                refine a_locs (loc' := [(0, .ref 58), (1, .int c1), (2, .int v2), (3, .int v3), (4, .int x16)]) [1, 2, 3, 4, 5] rfl ?_
                exact hA29
            · rw [if_neg hc23] at hf
              refine a_if_eq_f 171 dX9_year_158 (by decide) hc23 ?_
              refine a_aload_n dX9_year_161 rfl 1 rfl ?_
              refine a_get (.ref 66) ob_58 (by decide) fl_X9_31 rfl dX9_year_162 ?_
              refine a_iload dX9_year_165 5 rfl ?_
              obtain ⟨hb33, hf⟩ := grd_elim hf
              refine a_iald ia_66 hb33 dX9_year_167 ?_
              by_cases hc34 : (σ.1 66 x16.toNatClampNeg) = 0
              · rw [if_pos hc34] at hf
                refine a_if_ne_f 214 dX9_year_168 (by decide) hc34 ?_
                refine a_iload_n dX9_year_171 rfl 2 rfl ?_
                obtain ⟨q36, hr41, hf⟩ := obind hf
                have hA40 : A (e + 3) MX9_year 192 [(0, .ref 58), (1, .int c1), (2, .int v2), (3, .int v3), (4, .int x16)] [.int q36.1] q36.2 r τ := by
                  refine a_istore dX9_year_192 (by decide) (loc' := [(7, .int q36.1), (0, .ref 58), (1, .int c1), (2, .int v2), (3, .int v3), (4, .int x16)]) rfl ?_
                  refine a_aload_n dX9_year_194 rfl 1 rfl ?_
                  refine a_iload_n dX9_year_195 rfl 4 rfl ?_
                  refine a_iload dX9_year_196 0 rfl ?_
                  obtain ⟨q37, hq37, hf⟩ := obind hf
                  refine a_callV (as := [.int v3, .int q36.1]) (stk := []) (q := some (.int q37.1)) (σ1 := q37.2) (kX9_goOn (e + 1) v3 q36.1 q36.2 _ hq37) ob_58 vl_X9_197 rfl (Nat.le_of_ble_eq_true rfl) dX9_year_198 ?_
                  refine a_istore dX9_year_201 (by decide) (loc' := [(8, .int q37.1), (7, .int q36.1), (0, .ref 58), (1, .int c1), (2, .int v2), (3, .int v3), (4, .int x16)]) rfl ?_
                  refine a_aload_n dX9_year_203 rfl 2 rfl ?_
                  refine a_get (.ref 66) ob_58 (by decide) fl_X9_31 rfl dX9_year_204 ?_
                  refine a_iload dX9_year_207 6 rfl ?_
                  refine a_iconst (1 : Int32) dX9_year_209 rfl ?_
                  obtain ⟨hb38, hf⟩ := grd_elim hf
                  refine a_iast ia_66 hb38 dX9_year_210 ?_
                  obtain ⟨σ39, hσ39, hf⟩ := bnd_elim hf
                  rw [← hσ39]
                  refine a_iinc (v2 + (1 : Int32)) dX9_year_211 4 rfl rfl (by decide) (loc' := [(2, .int (v2 + (1 : Int32))), (8, .int q37.1), (7, .int q36.1), (0, .ref 58), (1, .int c1), (3, .int v3), (4, .int x16)]) rfl ?_
                  refine a_iinc (v3 + (1 : Int32)) dX9_year_214 5 rfl rfl (by decide) (loc' := [(3, .int (v3 + (1 : Int32))), (2, .int (v2 + (1 : Int32))), (8, .int q37.1), (7, .int q36.1), (0, .ref 58), (1, .int c1), (4, .int x16)]) rfl ?_
                  refine a_goto 60 dX9_year_217 (by decide) ?_
                  refine a_locs (loc' := [(0, .ref 58), (1, .int c1), (2, .int (v2 + (1 : Int32))), (3, .int (v3 + (1 : Int32)))]) [4, 5, 1, 0] rfl ?_
                  exact ih (v2 + (1 : Int32)) (v3 + (1 : Int32)) σ39 hf h2
                clear hf
                have hf := hr41
                clear hr41
                by_cases hc35 : c1 = 0
                · rw [if_pos hc35] at hf
                  refine a_if_eq_t 184 dX9_year_172 (by decide) hc35 ?_
                  refine a_aload_n dX9_year_184 rfl 1 rfl ?_
                  refine a_iload dX9_year_185 5 rfl ?_
                  refine a_iload dX9_year_187 0 rfl ?_
                  obtain ⟨q42, hq42, hf⟩ := obind hf
                  refine a_callV (as := [.int x16, .int q21]) (stk := []) (q := some (.int q42)) (σ1 := σ) (kX9_byHabit e x16 q21 σ _ hq42) ob_58 vl_X9_219 rfl (Nat.le_of_ble_eq_true rfl) dX9_year_189 ?_
                  have hq := Option.some.inj hf
                  subst hq
                  refine a_locs (loc' := [(0, .ref 58), (1, .int c1), (2, .int v2), (3, .int v3), (4, .int x16)]) [1, 2, 3, 4, 5] rfl ?_
                  exact hA40
                · rw [if_neg hc35] at hf
                  refine a_if_eq_f 184 dX9_year_172 (by decide) hc35 ?_
                  refine a_aload_n dX9_year_175 rfl 1 rfl ?_
                  refine a_iload dX9_year_176 0 rfl ?_
                  obtain ⟨q43, hq43, hf⟩ := obind hf
                  refine a_callV (as := [.int q21]) (stk := []) (q := some (.int q43.1)) (σ1 := q43.2) (kX9_byDraw (e + 1) q21 σ _ hq43) ob_58 vl_X9_216 rfl (Nat.le_of_ble_eq_true rfl) dX9_year_178 ?_
                  refine a_goto 192 dX9_year_181 (by decide) ?_
                  have hq := Option.some.inj hf
                  subst hq
                  refine a_locs (loc' := [(0, .ref 58), (1, .int c1), (2, .int v2), (3, .int v3), (4, .int x16)]) [1, 2, 3, 4, 5] rfl ?_
                  exact hA40
              · rw [if_neg hc34] at hf
                refine a_if_ne_t 214 dX9_year_168 (by decide) hc34 ?_
                refine a_iinc (v3 + (1 : Int32)) dX9_year_214 4 rfl rfl (by decide) (loc' := [(3, .int (v3 + (1 : Int32))), (6, .int q21), (0, .ref 58), (1, .int c1), (2, .int v2), (4, .int x16)]) rfl ?_
                refine a_goto 60 dX9_year_217 (by decide) ?_
                refine a_locs (loc' := [(0, .ref 58), (1, .int c1), (2, .int v2), (3, .int (v3 + (1 : Int32)))]) [2, 3, 4, 0] rfl ?_
                exact ih v2 (v3 + (1 : Int32)) σ hf h2
        clear hf
        have hf := hr45
        clear hr45
        by_cases hc20 : q19 = 0
        · rw [if_pos hc20] at hf
          refine a_if_eq_t 146 dX9_year_135 (by decide) hc20 ?_
          refine a_iconst (0 : Int32) dX9_year_146 rfl ?_
          have hq := Option.some.inj hf
          subst hq
          refine a_locs (loc' := [(0, .ref 58), (1, .int c1), (2, .int v2), (3, .int v3), (4, .int x16)]) [1, 2, 3, 4, 5] rfl ?_
          exact hA44
        · rw [if_neg hc20] at hf
          refine a_if_eq_f 146 dX9_year_135 (by decide) hc20 ?_
          refine a_aload_n dX9_year_138 rfl 1 rfl ?_
          refine a_iload_n dX9_year_139 rfl 4 rfl ?_
          obtain ⟨q46, hq46, hf⟩ := obind hf
          refine a_callV (as := [.int v3]) (stk := []) (q := some (.int q46)) (σ1 := σ) (kX9_mayOf (e + 1) v3 σ _ hq46) ob_58 vl_X9_191 rfl (Nat.le_of_ble_eq_true rfl) dX9_year_140 ?_
          refine a_goto 147 dX9_year_143 (by decide) ?_
          have hq := Option.some.inj hf
          subst hq
          refine a_locs (loc' := [(0, .ref 58), (1, .int c1), (2, .int v2), (3, .int v3), (4, .int x16)]) [1, 2, 3, 4, 5] rfl ?_
          exact hA44
      clear hf
      have hf := hr48
      clear hr48
      by_cases hc18 : q17 = 0
      · rw [if_pos hc18] at hf
        refine a_if_eq_t 130 dX9_year_86 (by decide) hc18 ?_
        refine a_iconst (0 : Int32) dX9_year_130 rfl ?_
        have hq := Option.some.inj hf
        subst hq
        refine a_locs (loc' := [(0, .ref 58), (1, .int c1), (2, .int v2), (3, .int v3), (4, .int x16)]) [1, 2, 3, 4, 0] rfl ?_
        exact hA47
      · rw [if_neg hc18] at hf
        refine a_if_eq_f 130 dX9_year_86 (by decide) hc18 ?_
        refine a_aload_n dX9_year_89 rfl 1 rfl ?_
        refine a_get (.ref 65) ob_58 (by decide) fl_X9_28 rfl dX9_year_90 ?_
        refine a_bipush (8 : Int32) dX9_year_93 rfl ?_
        refine a_iload_n dX9_year_95 rfl 4 rfl ?_
        refine a_imul dX9_year_96 ?_
        refine a_iconst (5 : Int32) dX9_year_97 rfl ?_
        refine a_iadd dX9_year_98 ?_
        obtain ⟨hb49, hf⟩ := grd_elim hf
        refine a_iald ia_65 hb49 dX9_year_99 ?_
        refine a_aload_n dX9_year_100 rfl 1 rfl ?_
        refine a_get (.int (σ.1 58 2)) ob_58 (by decide) fl_X9_84 rfl dX9_year_101 ?_
        refine a_aload_n dX9_year_104 rfl 1 rfl ?_
        refine a_get (.ref 65) ob_58 (by decide) fl_X9_28 rfl dX9_year_105 ?_
        refine a_bipush (8 : Int32) dX9_year_108 rfl ?_
        refine a_iload_n dX9_year_110 rfl 4 rfl ?_
        refine a_imul dX9_year_111 ?_
        obtain ⟨hb50, hf⟩ := grd_elim hf
        refine a_iald ia_65 hb50 dX9_year_112 ?_
        refine a_iconst (3 : Int32) dX9_year_113 rfl ?_
        obtain ⟨x52, hx52, hf⟩ := bnd_elim hf
        have hA54 : A (e + 3) MX9_year 122 [(0, .ref 58), (1, .int c1), (2, .int v2), (3, .int v3), (4, .int x16)] [.int x52, .int (σ.1 58 2), .int (σ.1 65 (((8 : Int32) * v3) + (5 : Int32)).toNatClampNeg)] σ r τ := by
          refine a_iadd dX9_year_122 ?_
          by_cases hc53 : (σ.1 65 (((8 : Int32) * v3) + (5 : Int32)).toNatClampNeg) < ((σ.1 58 2) + x52)
          · rw [if_pos hc53] at hf
            refine a_icmp_lt_t 130 dX9_year_123 (by decide) hc53 ?_
            refine a_iconst (0 : Int32) dX9_year_130 rfl ?_
            have hq := Option.some.inj hf
            subst hq
            exact hA47
          · rw [if_neg hc53] at hf
            refine a_icmp_lt_f 130 dX9_year_123 (by decide) hc53 ?_
            refine a_iconst (1 : Int32) dX9_year_126 rfl ?_
            refine a_goto 131 dX9_year_127 (by decide) ?_
            have hq := Option.some.inj hf
            subst hq
            exact hA47
        clear hf
        by_cases hc51 : (σ.1 65 ((8 : Int32) * v3).toNatClampNeg) = (3 : Int32)
        · rw [if_pos hc51] at hx52
          refine a_icmp_ne_f 121 dX9_year_114 (by decide) hc51 ?_
          refine a_iconst (1 : Int32) dX9_year_117 rfl ?_
          refine a_goto 122 dX9_year_118 (by decide) ?_
          replace hx52 := hx52.symm; subst hx52
          refine a_locs (loc' := [(0, .ref 58), (1, .int c1), (2, .int v2), (3, .int v3), (4, .int x16)]) [1, 2, 3, 4, 0] rfl ?_
          exact hA54
        · rw [if_neg hc51] at hx52
          refine a_icmp_ne_t 121 dX9_year_114 (by decide) hc51 ?_
          refine a_iconst (0 : Int32) dX9_year_121 rfl ?_
          replace hx52 := hx52.symm; subst hx52
          refine a_locs (loc' := [(0, .ref 58), (1, .int c1), (2, .int v2), (3, .int v3), (4, .int x16)]) [1, 2, 3, 4, 0] rfl ?_
          exact hA54
set_option maxHeartbeats 4000000 in
set_option maxRecDepth 100000 in
theorem kX9_year (e : Nat) (p1 : Int32) (σ : St)  (q : Int32 × St) (hf : fX9_year p1 σ = some q) : Sp (e + 3) MX9_year [.ref 58, .int p1] σ (some (.int q.1)) q.2 := by
  refine sp_of rfl (Nat.le_of_ble_eq_true rfl) (loc := [(0, .ref 58), (1, .int p1)]) rfl ?_
  unfold fX9_year at hf
  refine a_iconst (0 : Int32) dX9_year_0 rfl ?_
  refine a_istore_n dX9_year_1 rfl (by decide) (loc' := [(2, .int (0 : Int32)), (0, .ref 58), (1, .int p1)]) rfl ?_
  obtain ⟨q13, hr59, hf⟩ := obind hf
  have hA60 : A (e + 3) MX9_year 56 [(0, .ref 58), (1, .int p1)] [] q13 (some (.int q.1)) q.2 := by
    refine a_iconst (0 : Int32) dX9_year_56 rfl ?_
    refine a_istore_n dX9_year_57 rfl (by decide) (loc' := [(2, .int (0 : Int32)), (0, .ref 58), (1, .int p1)]) rfl ?_
    refine a_iconst (0 : Int32) dX9_year_58 rfl ?_
    refine a_istore_n dX9_year_59 rfl (by decide) (loc' := [(3, .int (0 : Int32)), (2, .int (0 : Int32)), (0, .ref 58), (1, .int p1)]) rfl ?_
    obtain ⟨q55, hr57, hf⟩ := obind hf
    have hA58 : A (e + 3) MX9_year 220 [(0, .ref 58), (2, .int q55.1)] [] q55.2 (some (.int q.1)) q.2 := by
      refine a_aload_n dX9_year_220 rfl 0 rfl ?_
      refine a_dup rfl dX9_year_221 ?_
      refine a_get (.int (q55.2.1 58 19)) ob_58 (by decide) fl_X9_222 rfl dX9_year_222 ?_
      refine a_iconst (1 : Int32) dX9_year_225 rfl ?_
      refine a_iadd dX9_year_226 ?_
      refine a_putI ob_58 (by decide) fp_X9_222 (Or.inl rfl) dX9_year_227 ?_
      obtain ⟨σ56, hσ56, hf⟩ := bnd_elim hf
      rw [← hσ56]
      refine a_iload_n dX9_year_230 rfl 1 rfl ?_
      have hq := Option.some.inj hf
      subst hq
      exact a_iret rfl dX9_year_231
    refine a_locs (loc' := [(0, .ref 58), (1, .int p1), (2, .int (0 : Int32)), (3, .int (0 : Int32))]) [2, 3, 1, 0] rfl ?_
    exact kX9_year_L60 e p1 q55 fu (0 : Int32) (0 : Int32) q13 hr57 hA58
  refine a_locs (loc' := [(0, .ref 58), (1, .int p1), (2, .int (0 : Int32))]) [1, 2, 0] rfl ?_
  exact kX9_year_L2 e p1 q13 fu (0 : Int32) σ hr59 hA60
set_option maxHeartbeats 4000000 in
set_option maxRecDepth 100000 in
theorem kX9_years_L19 (e : Nat) (c1 : Int32)   {r : Option Value} {τ : St} (q : (Int32 × St)) : ∀ (n : Nat) (v2 : Int32) (v3 : Int32) (σ : St), fX9_years_L19 c1 n v2 v3 σ = some q → A (e + 4) MX9_years 42 [(2, .int q.1)] [] q.2 r τ → A (e + 4) MX9_years 19 [(0, .ref 58), (1, .int c1), (2, .int v2), (3, .int v3)] [] σ r τ := by
  intro n
  induction n with
  | zero =>
    intro v2 v3 σ  hf
    simp only [fX9_years_L19] at hf
    exact absurd hf (by simp)
  | succ n ih =>
    intro v2 v3 σ  hf h2
    rw [fX9_years_L19] at hf
    refine a_iload_n dX9_years_19 rfl 3 rfl ?_
    refine a_iload_n dX9_years_20 rfl 1 rfl ?_
    by_cases hc2 : c1 ≤ v3
    · rw [if_pos hc2] at hf
      refine a_icmp_ge_t 42 dX9_years_21 (by decide) hc2 ?_
      have hq := Option.some.inj hf
      rw [← hq] at h2
      refine a_locs (loc' := [(2, .int v2)]) [2] rfl ?_
      exact h2
    · rw [if_neg hc2] at hf
      refine a_icmp_ge_f 42 dX9_years_21 (by decide) hc2 ?_
      refine a_aload_n dX9_years_24 rfl 0 rfl ?_
      refine a_iconst (0 : Int32) dX9_years_25 rfl ?_
      obtain ⟨q3, hq3, hf⟩ := obind hf
      refine a_callV (as := [.int (0 : Int32)]) (stk := []) (q := some (.int q3.1)) (σ1 := q3.2) (kX9_year e (0 : Int32) σ _ hq3) ob_58 vl_X9_227 rfl (Nat.le_of_ble_eq_true rfl) dX9_years_26 ?_
      refine a_istore dX9_years_29 (by decide) (loc' := [(4, .int q3.1), (0, .ref 58), (1, .int c1), (2, .int v2), (3, .int v3)]) rfl ?_
      refine a_iload_n dX9_years_31 rfl 3 rfl ?_
      refine a_iload dX9_years_32 0 rfl ?_
      refine a_iadd dX9_years_34 ?_
      refine a_istore_n dX9_years_35 rfl (by decide) (loc' := [(2, .int (v2 + q3.1)), (4, .int q3.1), (0, .ref 58), (1, .int c1), (3, .int v3)]) rfl ?_
      refine a_iinc (v3 + (1 : Int32)) dX9_years_36 4 rfl rfl (by decide) (loc' := [(3, .int (v3 + (1 : Int32))), (2, .int (v2 + q3.1)), (4, .int q3.1), (0, .ref 58), (1, .int c1)]) rfl ?_
      refine a_goto 19 dX9_years_39 (by decide) ?_
      refine a_locs (loc' := [(0, .ref 58), (1, .int c1), (2, .int (v2 + q3.1)), (3, .int (v3 + (1 : Int32)))]) [3, 4, 1, 0] rfl ?_
      exact ih (v2 + q3.1) (v3 + (1 : Int32)) q3.2 hf h2
set_option maxHeartbeats 4000000 in
set_option maxRecDepth 100000 in
theorem kX9_years (e : Nat) (p1 : Int32) (σ : St)  (q : Int32 × St) (hf : fX9_years p1 σ = some q) : Sp (e + 4) MX9_years [.ref 58, .int p1] σ (some (.int q.1)) q.2 := by
  refine sp_of rfl (Nat.le_of_ble_eq_true rfl) (loc := [(0, .ref 58), (1, .int p1)]) rfl ?_
  unfold fX9_years at hf
  refine a_iload_n dX9_years_0 rfl 1 rfl ?_
  refine a_i2l dX9_years_1 ?_
  refine a_lconst (1 : Int64) dX9_years_2 rfl ?_
  refine a_ldc2 rfl kc_X9_225 dX9_years_3 ?_
  refine a_callS (as := [.long p1.toInt64, .long (1 : Int64), .long (30 : Int64)]) (stk := []) (q := some (.int (fX9_in p1.toInt64 (1 : Int64) (30 : Int64)))) (σ1 := σ) (kX9_in (e + 3) p1.toInt64 (1 : Int64) (30 : Int64) σ) sl_X9_108 rfl (Nat.le_of_ble_eq_true rfl) dX9_years_6 ?_
  by_cases hc1 : (fX9_in p1.toInt64 (1 : Int64) (30 : Int64)) = 0
  · rw [if_pos hc1] at hf
    refine a_if_ne_f 15 dX9_years_9 (by decide) hc1 ?_
    refine a_bipush (-102 : Int32) dX9_years_12 rfl ?_
    have hq := Option.some.inj hf
    subst hq
    exact a_iret rfl dX9_years_14
  · rw [if_neg hc1] at hf
    refine a_if_ne_t 15 dX9_years_9 (by decide) hc1 ?_
    refine a_iconst (0 : Int32) dX9_years_15 rfl ?_
    refine a_istore_n dX9_years_16 rfl (by decide) (loc' := [(2, .int (0 : Int32)), (0, .ref 58), (1, .int p1)]) rfl ?_
    refine a_iconst (0 : Int32) dX9_years_17 rfl ?_
    refine a_istore_n dX9_years_18 rfl (by decide) (loc' := [(3, .int (0 : Int32)), (2, .int (0 : Int32)), (0, .ref 58), (1, .int p1)]) rfl ?_
    obtain ⟨q4, hr5, hf⟩ := obind hf
    have hA6 : A (e + 4) MX9_years 42 [(2, .int q4.1)] [] q4.2 (some (.int q.1)) q.2 := by
      refine a_iload_n dX9_years_42 rfl 0 rfl ?_
      have hq := Option.some.inj hf
      subst hq
      exact a_iret rfl dX9_years_43
    refine a_locs (loc' := [(0, .ref 58), (1, .int p1), (2, .int (0 : Int32)), (3, .int (0 : Int32))]) [2, 3, 1, 0] rfl ?_
    exact kX9_years_L19 e p1 q4 fu (0 : Int32) (0 : Int32) σ hr5 hA6
set_option maxHeartbeats 4000000 in
set_option maxRecDepth 100000 in
theorem kX9_goAll_L2 (e : Nat) (c1 : Int32) (c2 : Int32)   {r : Option Value} {τ : St} (q : (St)) : ∀ (n : Nat) (v3 : Int32) (σ : St), fX9_goAll_L2 c1 c2 n v3 σ = some q → A (e + 1) MX9_goAll 21 [(0, .ref 58), (1, .int c1), (2, .int c2)] [] q r τ → A (e + 1) MX9_goAll 2 [(0, .ref 58), (1, .int c1), (2, .int c2), (3, .int v3)] [] σ r τ := by
  intro n
  induction n with
  | zero =>
    intro v3 σ  hf
    simp only [fX9_goAll_L2] at hf
    exact absurd hf (by simp)
  | succ n ih =>
    intro v3 σ  hf h2
    rw [fX9_goAll_L2] at hf
    refine a_iload_n dX9_goAll_2 rfl 3 rfl ?_
    refine a_bipush (72 : Int32) dX9_goAll_3 rfl ?_
    by_cases hc1 : (72 : Int32) ≤ v3
    · rw [if_pos hc1] at hf
      refine a_icmp_ge_t 21 dX9_goAll_5 (by decide) hc1 ?_
      have hq := Option.some.inj hf
      rw [← hq] at h2
      refine a_locs (loc' := [(0, .ref 58), (1, .int c1), (2, .int c2)]) [0, 1, 2] rfl ?_
      exact h2
    · rw [if_neg hc1] at hf
      refine a_icmp_ge_f 21 dX9_goAll_5 (by decide) hc1 ?_
      refine a_aload_n dX9_goAll_8 rfl 0 rfl ?_
      refine a_get (.ref 68) ob_58 (by decide) fl_X9_38 rfl dX9_goAll_9 ?_
      refine a_iload_n dX9_goAll_12 rfl 3 rfl ?_
      refine a_lconst (0 : Int64) dX9_goAll_13 rfl ?_
      obtain ⟨hb2, hf⟩ := grd_elim hf
      refine a_last la_68 hb2 dX9_goAll_14 ?_
      obtain ⟨σ3, hσ3, hf⟩ := bnd_elim hf
      rw [← hσ3]
      refine a_iinc (v3 + (1 : Int32)) dX9_goAll_15 3 rfl rfl (by decide) (loc' := [(3, .int (v3 + (1 : Int32))), (0, .ref 58), (1, .int c1), (2, .int c2)]) rfl ?_
      refine a_goto 2 dX9_goAll_18 (by decide) ?_
      refine a_locs (loc' := [(0, .ref 58), (1, .int c1), (2, .int c2), (3, .int (v3 + (1 : Int32)))]) [1, 2, 3, 0] rfl ?_
      exact ih (v3 + (1 : Int32)) σ3 hf h2
set_option maxHeartbeats 4000000 in
set_option maxRecDepth 100000 in
theorem kX9_goAll_L148 (e : Nat) (c1 : Int32) (c2 : Int32) (c5 : Int32) (c6 : Int32) (c7 : Int32) (c8 : Int64)   {r : Option Value} {τ : St} (q : (Int64 × St)) : ∀ (n : Nat) (v3 : Int64) (v10 : Int32) (σ : St), fX9_goAll_L148 c1 c2 c5 c6 c7 c8 n v3 v10 σ = some q → A (e + 1) MX9_goAll 217 [(0, .ref 58), (1, .int c1), (2, .int c2), (3, .long q.1), (5, .int c5)] [] q.2 r τ → A (e + 1) MX9_goAll 148 [(0, .ref 58), (1, .int c1), (2, .int c2), (3, .long v3), (5, .int c5), (6, .int c6), (7, .int c7), (8, .long c8), (10, .int v10)] [] σ r τ := by
  intro n
  induction n with
  | zero =>
    intro v3 v10 σ  hf
    simp only [fX9_goAll_L148] at hf
    exact absurd hf (by simp)
  | succ n ih =>
    intro v3 v10 σ  hf h2
    rw [fX9_goAll_L148] at hf
    refine a_iload dX9_goAll_148 8 rfl ?_
    refine a_aload_n dX9_goAll_150 rfl 0 rfl ?_
    refine a_get (.int (σ.1 58 12)) ob_58 (by decide) fl_X9_144 rfl dX9_goAll_151 ?_
    by_cases hc18 : (σ.1 58 12) ≤ v10
    · rw [if_pos hc18] at hf
      refine a_icmp_ge_t 217 dX9_goAll_154 (by decide) hc18 ?_
      have hq := Option.some.inj hf
      rw [← hq] at h2
      refine a_locs (loc' := [(0, .ref 58), (1, .int c1), (2, .int c2), (3, .long v3), (5, .int c5)]) [0, 1, 2, 3, 4] rfl ?_
      exact h2
    · rw [if_neg hc18] at hf
      refine a_icmp_ge_f 217 dX9_goAll_154 (by decide) hc18 ?_
      refine a_iload dX9_goAll_157 6 rfl ?_
      refine a_iload dX9_goAll_159 8 rfl ?_
      refine a_ishr dX9_goAll_161 ?_
      refine a_iconst (1 : Int32) dX9_goAll_162 rfl ?_
      refine a_iand dX9_goAll_163 ?_
      refine a_iconst (1 : Int32) dX9_goAll_164 rfl ?_
      by_cases hc19 : ((c7 >>> (v10 &&& 31)) &&& (1 : Int32)) = (1 : Int32)
      · rw [if_pos hc19] at hf
        refine a_icmp_ne_f 211 dX9_goAll_165 (by decide) hc19 ?_
        refine a_lload_n dX9_goAll_168 rfl 3 rfl ?_
        refine a_iload dX9_goAll_169 8 rfl ?_
        refine a_iload_n dX9_goAll_171 rfl 1 rfl ?_
        obtain ⟨x21, hx21, hf⟩ := bnd_elim hf
        have hA28 : A (e + 1) MX9_goAll 181 [(0, .ref 58), (1, .int c1), (2, .int c2), (5, .int c5), (6, .int c6), (7, .int c7), (8, .long c8), (10, .int v10)] [.long x21, .long v3] σ r τ := by
          refine a_ladd dX9_goAll_181 ?_
          refine a_lstore_n dX9_goAll_182 rfl (by decide) (loc' := [(3, .long (v3 + x21)), (0, .ref 58), (1, .int c1), (2, .int c2), (5, .int c5), (6, .int c6), (7, .int c7), (8, .long c8), (10, .int v10)]) rfl ?_
          refine a_aload_n dX9_goAll_183 rfl 1 rfl ?_
          refine a_get (.ref 68) ob_58 (by decide) fl_X9_38 rfl dX9_goAll_184 ?_
          refine a_bipush (9 : Int32) dX9_goAll_187 rfl ?_
          refine a_iload dX9_goAll_189 8 rfl ?_
          refine a_imul dX9_goAll_191 ?_
          refine a_iload dX9_goAll_192 5 rfl ?_
          refine a_iadd dX9_goAll_194 ?_
          refine a_dup2 rfl rfl dX9_goAll_195 ?_
          obtain ⟨hb22, hf⟩ := grd_elim hf
          refine a_lald la_68 hb22 dX9_goAll_196 ?_
          refine a_iload dX9_goAll_197 8 rfl ?_
          refine a_iload_n dX9_goAll_199 rfl 2 rfl ?_
          obtain ⟨x24, hx24, hf⟩ := bnd_elim hf
          have hA27 : A (e + 1) MX9_goAll 209 [(0, .ref 58), (1, .int c1), (2, .int c2), (3, .long (v3 + x21)), (5, .int c5), (6, .int c6), (7, .int c7), (8, .long c8), (10, .int v10)] [.long x24, .long (σ.2 68 (((9 : Int32) * v10) + c6).toNatClampNeg), .int (((9 : Int32) * v10) + c6), .ref 68] σ r τ := by
            refine a_ladd dX9_goAll_209 ?_
            obtain ⟨hb25, hf⟩ := grd_elim hf
            refine a_last la_68 hb25 dX9_goAll_210 ?_
            obtain ⟨σ26, hσ26, hf⟩ := bnd_elim hf
            rw [← hσ26]
            refine a_iinc (v10 + (1 : Int32)) dX9_goAll_211 8 rfl rfl (by decide) (loc' := [(10, .int (v10 + (1 : Int32))), (0, .ref 58), (1, .int c1), (2, .int c2), (3, .long (v3 + x21)), (5, .int c5), (6, .int c6), (7, .int c7), (8, .long c8)]) rfl ?_
            refine a_goto 148 dX9_goAll_214 (by decide) ?_
            refine a_locs (loc' := [(0, .ref 58), (1, .int c1), (2, .int c2), (3, .long (v3 + x21)), (5, .int c5), (6, .int c6), (7, .int c7), (8, .long c8), (10, .int (v10 + (1 : Int32)))]) [1, 2, 3, 4, 5, 6, 7, 8, 0] rfl ?_
            exact ih (v3 + x21) (v10 + (1 : Int32)) σ26 hf h2
          clear hf
          by_cases hc23 : v10 = c1
          · rw [if_pos hc23] at hx24
            refine a_icmp_ne_f 207 dX9_goAll_200 (by decide) hc23 ?_
            refine a_lconst (0 : Int64) dX9_goAll_203 rfl ?_
            refine a_goto 209 dX9_goAll_204 (by decide) ?_
            replace hx24 := hx24.symm; subst hx24
            refine a_locs (loc' := [(0, .ref 58), (1, .int c1), (2, .int c2), (3, .long (v3 + x21)), (5, .int c5), (6, .int c6), (7, .int c7), (8, .long c8), (10, .int v10)]) [1, 2, 3, 0, 4, 5, 6, 7, 8] rfl ?_
            exact hA27
          · rw [if_neg hc23] at hx24
            refine a_icmp_ne_t 207 dX9_goAll_200 (by decide) hc23 ?_
            refine a_lload dX9_goAll_207 7 rfl ?_
            replace hx24 := hx24.symm; subst hx24
            refine a_locs (loc' := [(0, .ref 58), (1, .int c1), (2, .int c2), (3, .long (v3 + x21)), (5, .int c5), (6, .int c6), (7, .int c7), (8, .long c8), (10, .int v10)]) [1, 2, 3, 0, 4, 5, 6, 7, 8] rfl ?_
            exact hA27
        clear hf
        by_cases hc20 : v10 = c1
        · rw [if_pos hc20] at hx21
          refine a_icmp_ne_f 180 dX9_goAll_172 (by decide) hc20 ?_
          refine a_lload dX9_goAll_175 7 rfl ?_
          refine a_goto 181 dX9_goAll_177 (by decide) ?_
          replace hx21 := hx21.symm; subst hx21
          refine a_locs (loc' := [(0, .ref 58), (1, .int c1), (2, .int c2), (5, .int c5), (6, .int c6), (7, .int c7), (8, .long c8), (10, .int v10)]) [0, 1, 2, 4, 5, 6, 7, 8] rfl ?_
          exact hA28
        · rw [if_neg hc20] at hx21
          refine a_icmp_ne_t 180 dX9_goAll_172 (by decide) hc20 ?_
          refine a_lconst (0 : Int64) dX9_goAll_180 rfl ?_
          replace hx21 := hx21.symm; subst hx21
          refine a_locs (loc' := [(0, .ref 58), (1, .int c1), (2, .int c2), (5, .int c5), (6, .int c6), (7, .int c7), (8, .long c8), (10, .int v10)]) [0, 1, 2, 4, 5, 6, 7, 8] rfl ?_
          exact hA28
      · rw [if_neg hc19] at hf
        refine a_icmp_ne_t 211 dX9_goAll_165 (by decide) hc19 ?_
        refine a_iinc (v10 + (1 : Int32)) dX9_goAll_211 8 rfl rfl (by decide) (loc' := [(10, .int (v10 + (1 : Int32))), (0, .ref 58), (1, .int c1), (2, .int c2), (3, .long v3), (5, .int c5), (6, .int c6), (7, .int c7), (8, .long c8)]) rfl ?_
        refine a_goto 148 dX9_goAll_214 (by decide) ?_
        refine a_locs (loc' := [(0, .ref 58), (1, .int c1), (2, .int c2), (3, .long v3), (5, .int c5), (6, .int c6), (7, .int c7), (8, .long c8), (10, .int (v10 + (1 : Int32)))]) [1, 2, 3, 4, 5, 6, 7, 8, 0] rfl ?_
        exact ih v3 (v10 + (1 : Int32)) σ hf h2
set_option maxHeartbeats 4000000 in
set_option maxRecDepth 100000 in
theorem kX9_goAll_L26 (e : Nat) (c1 : Int32) (c2 : Int32)   {r : Option Value} {τ : St} (q : (Int64 × St)) : ∀ (n : Nat) (v3 : Int64) (v5 : Int32) (σ : St), fX9_goAll_L26 c1 c2 n v3 v5 σ = some q → A (e + 1) MX9_goAll 223 [(0, .ref 58), (3, .long q.1)] [] q.2 r τ → A (e + 1) MX9_goAll 26 [(0, .ref 58), (1, .int c1), (2, .int c2), (3, .long v3), (5, .int v5)] [] σ r τ := by
  intro n
  induction n with
  | zero =>
    intro v3 v5 σ  hf
    simp only [fX9_goAll_L26] at hf
    exact absurd hf (by simp)
  | succ n ih =>
    intro v3 v5 σ  hf h2
    rw [fX9_goAll_L26] at hf
    refine a_iload dX9_goAll_26 4 rfl ?_
    refine a_bipush (72 : Int32) dX9_goAll_28 rfl ?_
    by_cases hc5 : (72 : Int32) ≤ v5
    · rw [if_pos hc5] at hf
      refine a_icmp_ge_t 223 dX9_goAll_30 (by decide) hc5 ?_
      have hq := Option.some.inj hf
      rw [← hq] at h2
      refine a_locs (loc' := [(0, .ref 58), (3, .long v3)]) [0, 3] rfl ?_
      exact h2
    · rw [if_neg hc5] at hf
      refine a_icmp_ge_f 223 dX9_goAll_30 (by decide) hc5 ?_
      refine a_iload dX9_goAll_33 4 rfl ?_
      refine a_bipush (9 : Int32) dX9_goAll_35 rfl ?_
      refine a_idiv (by decide) dX9_goAll_37 ?_
      refine a_istore dX9_goAll_38 (by decide) (loc' := [(6, .int (v5 / (9 : Int32))), (0, .ref 58), (1, .int c1), (2, .int c2), (3, .long v3), (5, .int v5)]) rfl ?_
      refine a_aload_n dX9_goAll_40 rfl 1 rfl ?_
      refine a_get (.ref 67) ob_58 (by decide) fl_X9_34 rfl dX9_goAll_41 ?_
      refine a_iload dX9_goAll_44 5 rfl ?_
      obtain ⟨hb6, hf⟩ := grd_elim hf
      refine a_lald la_67 hb6 dX9_goAll_46 ?_
      refine a_lconst (0 : Int64) dX9_goAll_47 rfl ?_
      refine a_lcmp dX9_goAll_48 ?_
      obtain ⟨q8, hr40, hf⟩ := obind hf
      have hA39 : A (e + 1) MX9_goAll 81 [(0, .ref 58), (1, .int c1), (2, .int c2), (3, .long v3), (5, .int v5), (6, .int (v5 / (9 : Int32)))] [.int q8] σ r τ := by
        refine a_istore dX9_goAll_81 (by decide) (loc' := [(7, .int q8), (0, .ref 58), (1, .int c1), (2, .int c2), (3, .long v3), (5, .int v5), (6, .int (v5 / (9 : Int32)))]) rfl ?_
        refine a_aload_n dX9_goAll_83 rfl 1 rfl ?_
        refine a_get (.ref 67) ob_58 (by decide) fl_X9_34 rfl dX9_goAll_84 ?_
        refine a_iload dX9_goAll_87 5 rfl ?_
        obtain ⟨hb9, hf⟩ := grd_elim hf
        refine a_lald la_67 hb9 dX9_goAll_89 ?_
        refine a_iload_n dX9_goAll_90 rfl 3 rfl ?_
        obtain ⟨q11, hr35, hf⟩ := obind hf
        have hA34 : A (e + 1) MX9_goAll 116 [(0, .ref 58), (1, .int c1), (2, .int c2), (3, .long v3), (5, .int v5), (6, .int (v5 / (9 : Int32))), (7, .int q8)] [.int q11, .long (σ.2 67 v5.toNatClampNeg)] σ r τ := by
          refine a_i2l dX9_goAll_116 ?_
          refine a_lmul dX9_goAll_117 ?_
          obtain ⟨x12, hx12, hf⟩ := bnd_elim hf
          refine a_top (w := .long x12) (by rw [hx12]) ?_
          refine a_lstore dX9_goAll_118 (by decide) (loc' := [(8, .long x12), (0, .ref 58), (1, .int c1), (2, .int c2), (3, .long v3), (5, .int v5), (6, .int (v5 / (9 : Int32))), (7, .int q8)]) rfl ?_
          refine a_aload_n dX9_goAll_120 rfl 1 rfl ?_
          refine a_get (.ref 68) ob_58 (by decide) fl_X9_38 rfl dX9_goAll_121 ?_
          refine a_iload dX9_goAll_124 5 rfl ?_
          refine a_dup2 rfl rfl dX9_goAll_126 ?_
          obtain ⟨hb13, hf⟩ := grd_elim hf
          refine a_lald la_68 hb13 dX9_goAll_127 ?_
          refine a_iload_n dX9_goAll_128 rfl 3 rfl ?_
          obtain ⟨x15, hx15, hf⟩ := bnd_elim hf
          have hA32 : A (e + 1) MX9_goAll 143 [(0, .ref 58), (1, .int c1), (2, .int c2), (3, .long v3), (5, .int v5), (6, .int (v5 / (9 : Int32))), (7, .int q8), (8, .long x12)] [.long x15, .long (σ.2 68 v5.toNatClampNeg), .int v5, .ref 68] σ r τ := by
            refine a_ladd dX9_goAll_143 ?_
            obtain ⟨hb16, hf⟩ := grd_elim hf
            refine a_last la_68 hb16 dX9_goAll_144 ?_
            obtain ⟨σ17, hσ17, hf⟩ := bnd_elim hf
            rw [← hσ17]
            refine a_iconst (0 : Int32) dX9_goAll_145 rfl ?_
            refine a_istore dX9_goAll_146 (by decide) (loc' := [(10, .int (0 : Int32)), (0, .ref 58), (1, .int c1), (2, .int c2), (3, .long v3), (5, .int v5), (6, .int (v5 / (9 : Int32))), (7, .int q8), (8, .long x12)]) rfl ?_
            obtain ⟨q29, hr30, hf⟩ := obind hf
            have hA31 : A (e + 1) MX9_goAll 217 [(0, .ref 58), (1, .int c1), (2, .int c2), (3, .long q29.1), (5, .int v5)] [] q29.2 r τ := by
              refine a_iinc (v5 + (1 : Int32)) dX9_goAll_217 4 rfl rfl (by decide) (loc' := [(5, .int (v5 + (1 : Int32))), (0, .ref 58), (1, .int c1), (2, .int c2), (3, .long q29.1)]) rfl ?_
              refine a_goto 26 dX9_goAll_220 (by decide) ?_
              refine a_locs (loc' := [(0, .ref 58), (1, .int c1), (2, .int c2), (3, .long q29.1), (5, .int (v5 + (1 : Int32)))]) [1, 2, 3, 4, 0] rfl ?_
              exact ih q29.1 (v5 + (1 : Int32)) q29.2 hf h2
            refine a_locs (loc' := [(0, .ref 58), (1, .int c1), (2, .int c2), (3, .long v3), (5, .int v5), (6, .int (v5 / (9 : Int32))), (7, .int q8), (8, .long x12), (10, .int (0 : Int32))]) [1, 2, 3, 4, 5, 6, 7, 8, 0] rfl ?_
            exact kX9_goAll_L148 e c1 c2 v5 (v5 / (9 : Int32)) q8 x12 q29 fu v3 (0 : Int32) σ17 hr30 hA31
          clear hf
          by_cases hc14 : c2 = 0
          · rw [if_pos hc14] at hx15
            refine a_if_eq_t 142 dX9_goAll_129 (by decide) hc14 ?_
            refine a_lconst (0 : Int64) dX9_goAll_142 rfl ?_
            replace hx15 := hx15.symm; subst hx15
            refine a_locs (loc' := [(0, .ref 58), (1, .int c1), (2, .int c2), (3, .long v3), (5, .int v5), (6, .int (v5 / (9 : Int32))), (7, .int q8), (8, .long x12)]) [1, 2, 3, 4, 5, 6, 7, 0] rfl ?_
            exact hA32
          · rw [if_neg hc14] at hx15
            refine a_if_eq_f 142 dX9_goAll_129 (by decide) hc14 ?_
            refine a_iload dX9_goAll_132 7 rfl ?_
            by_cases hc33 : q8 = 0
            · rw [if_pos hc33] at hx15
              refine a_if_ne_f 142 dX9_goAll_134 (by decide) hc33 ?_
              refine a_lload dX9_goAll_137 0 rfl ?_
              refine a_goto 143 dX9_goAll_139 (by decide) ?_
              replace hx15 := hx15.symm; subst hx15
              refine a_locs (loc' := [(0, .ref 58), (1, .int c1), (2, .int c2), (3, .long v3), (5, .int v5), (6, .int (v5 / (9 : Int32))), (7, .int q8), (8, .long x12)]) [1, 2, 3, 4, 5, 6, 7, 0] rfl ?_
              exact hA32
            · rw [if_neg hc33] at hx15
              refine a_if_ne_t 142 dX9_goAll_134 (by decide) hc33 ?_
              refine a_lconst (0 : Int64) dX9_goAll_142 rfl ?_
              replace hx15 := hx15.symm; subst hx15
              refine a_locs (loc' := [(0, .ref 58), (1, .int c1), (2, .int c2), (3, .long v3), (5, .int v5), (6, .int (v5 / (9 : Int32))), (7, .int q8), (8, .long x12)]) [1, 2, 3, 4, 5, 6, 7, 0] rfl ?_
              exact hA32
        clear hf
        have hf := hr35
        clear hr35
        by_cases hc10 : c2 = 0
        · rw [if_pos hc10] at hf
          refine a_if_eq_t 115 dX9_goAll_91 (by decide) hc10 ?_
          refine a_iconst (1 : Int32) dX9_goAll_115 rfl ?_
          have hq := Option.some.inj hf
          subst hq
          refine a_locs (loc' := [(0, .ref 58), (1, .int c1), (2, .int c2), (3, .long v3), (5, .int v5), (6, .int (v5 / (9 : Int32))), (7, .int q8)]) [1, 2, 3, 4, 5, 6, 0] rfl ?_
          exact hA34
        · rw [if_neg hc10] at hf
          refine a_if_eq_f 115 dX9_goAll_91 (by decide) hc10 ?_
          refine a_sipush (420 : Int32) dX9_goAll_94 rfl ?_
          refine a_iload dX9_goAll_97 0 rfl ?_
          by_cases hc36 : q8 = 0
          · rw [if_pos hc36] at hf
            refine a_if_ne_f 106 dX9_goAll_99 (by decide) hc36 ?_
            refine a_iconst (1 : Int32) dX9_goAll_102 rfl ?_
            refine a_goto 111 dX9_goAll_103 (by decide) ?_
            refine a_idiv (by decide) dX9_goAll_111 ?_
            refine a_goto 116 dX9_goAll_112 (by decide) ?_
            have hq := Option.some.inj hf
            subst hq
            refine a_locs (loc' := [(0, .ref 58), (1, .int c1), (2, .int c2), (3, .long v3), (5, .int v5), (6, .int (v5 / (9 : Int32))), (7, .int q8)]) [1, 2, 3, 4, 5, 6, 0] rfl ?_
            exact hA34
          · rw [if_neg hc36] at hf
            refine a_if_ne_t 106 dX9_goAll_99 (by decide) hc36 ?_
            refine a_iload dX9_goAll_106 0 rfl ?_
            obtain ⟨q37, hq37, hf⟩ := obind hf
            refine a_callS (as := [.int q8]) (stk := [.int (420 : Int32), .long (σ.2 67 v5.toNatClampNeg)]) (q := some (.int q37)) (σ1 := σ) (kX9_ones e q8 σ _ hq37) sl_X9_210 rfl (Nat.le_of_ble_eq_true rfl) dX9_goAll_108 ?_
            obtain ⟨hb38, hf⟩ := grd_elim hf
            refine a_idiv (of_decide_eq_true hb38) dX9_goAll_111 ?_
            refine a_goto 116 dX9_goAll_112 (by decide) ?_
            have hq := Option.some.inj hf
            subst hq
            refine a_locs (loc' := [(0, .ref 58), (1, .int c1), (2, .int c2), (3, .long v3), (5, .int v5), (6, .int (v5 / (9 : Int32))), (7, .int q8)]) [1, 2, 3, 4, 5, 6, 0] rfl ?_
            exact hA34
      clear hf
      have hf := hr40
      clear hr40
      by_cases hc7 : (lg_cmp (σ.2 67 v5.toNatClampNeg) (0 : Int64)) ≤ 0
      · rw [if_pos hc7] at hf
        refine a_if_le_t 80 dX9_goAll_49 (by decide) hc7 ?_
        refine a_iconst (0 : Int32) dX9_goAll_80 rfl ?_
        have hq := Option.some.inj hf
        subst hq
        refine a_locs (loc' := [(0, .ref 58), (1, .int c1), (2, .int c2), (3, .long v3), (5, .int v5), (6, .int (v5 / (9 : Int32)))]) [1, 2, 3, 4, 5, 0] rfl ?_
        exact hA39
      · rw [if_neg hc7] at hf
        refine a_if_le_f 80 dX9_goAll_49 (by decide) hc7 ?_
        refine a_aload_n dX9_goAll_52 rfl 1 rfl ?_
        refine a_iload dX9_goAll_53 0 rfl ?_
        refine a_iload dX9_goAll_55 5 rfl ?_
        refine a_bipush (9 : Int32) dX9_goAll_57 rfl ?_
        refine a_irem (by decide) dX9_goAll_59 ?_
        refine a_bipush (8 : Int32) dX9_goAll_60 rfl ?_
        obtain ⟨x42, hx42, hf⟩ := bnd_elim hf
        have hA44 : A (e + 1) MX9_goAll 74 [(0, .ref 58), (1, .int c1), (2, .int c2), (3, .long v3), (5, .int v5), (6, .int (v5 / (9 : Int32)))] [.int x42, .int (v5 / (9 : Int32)), .ref 58] σ r τ := by
          obtain ⟨q43, hq43, hf⟩ := obind hf
          refine a_callV (as := [.int (v5 / (9 : Int32)), .int x42]) (stk := []) (q := some (.int q43)) (σ1 := σ) (kX9_mayHave e (v5 / (9 : Int32)) x42 σ _ hq43) ob_58 vl_X9_188 rfl (Nat.le_of_ble_eq_true rfl) dX9_goAll_74 ?_
          refine a_goto 81 dX9_goAll_77 (by decide) ?_
          have hq := Option.some.inj hf
          subst hq
          exact hA39
        clear hf
        by_cases hc41 : (v5 - v5 / (9 : Int32) * (9 : Int32)) = (8 : Int32)
        · rw [if_pos hc41] at hx42
          refine a_icmp_ne_f 69 dX9_goAll_62 (by decide) hc41 ?_
          refine a_iconst (-1 : Int32) dX9_goAll_65 rfl ?_
          refine a_goto 74 dX9_goAll_66 (by decide) ?_
          replace hx42 := hx42.symm; subst hx42
          refine a_locs (loc' := [(0, .ref 58), (1, .int c1), (2, .int c2), (3, .long v3), (5, .int v5), (6, .int (v5 / (9 : Int32)))]) [1, 2, 3, 4, 5, 0] rfl ?_
          exact hA44
        · rw [if_neg hc41] at hx42
          refine a_icmp_ne_t 69 dX9_goAll_62 (by decide) hc41 ?_
          refine a_iload dX9_goAll_69 5 rfl ?_
          refine a_bipush (9 : Int32) dX9_goAll_71 rfl ?_
          refine a_irem (by decide) dX9_goAll_73 ?_
          replace hx42 := hx42.symm; subst hx42
          refine a_locs (loc' := [(0, .ref 58), (1, .int c1), (2, .int c2), (3, .long v3), (5, .int v5), (6, .int (v5 / (9 : Int32)))]) [1, 2, 3, 4, 5, 0] rfl ?_
          exact hA44
set_option maxHeartbeats 4000000 in
set_option maxRecDepth 100000 in
theorem kX9_goAll_L226 (e : Nat) (c3 : Int64)   {r : Option Value} {τ : St} (q : (St)) : ∀ (n : Nat) (v5 : Int32) (σ : St), fX9_goAll_L226 c3 n v5 σ = some q → A (e + 1) MX9_goAll 253 [(3, .long c3)] [] q r τ → A (e + 1) MX9_goAll 226 [(0, .ref 58), (3, .long c3), (5, .int v5)] [] σ r τ := by
  intro n
  induction n with
  | zero =>
    intro v5 σ  hf
    simp only [fX9_goAll_L226] at hf
    exact absurd hf (by simp)
  | succ n ih =>
    intro v5 σ  hf h2
    rw [fX9_goAll_L226] at hf
    refine a_iload dX9_goAll_226 2 rfl ?_
    refine a_bipush (72 : Int32) dX9_goAll_228 rfl ?_
    by_cases hc46 : (72 : Int32) ≤ v5
    · rw [if_pos hc46] at hf
      refine a_icmp_ge_t 253 dX9_goAll_230 (by decide) hc46 ?_
      have hq := Option.some.inj hf
      rw [← hq] at h2
      refine a_locs (loc' := [(3, .long c3)]) [1] rfl ?_
      exact h2
    · rw [if_neg hc46] at hf
      refine a_icmp_ge_f 253 dX9_goAll_230 (by decide) hc46 ?_
      refine a_aload_n dX9_goAll_233 rfl 0 rfl ?_
      refine a_get (.ref 67) ob_58 (by decide) fl_X9_34 rfl dX9_goAll_234 ?_
      refine a_iload dX9_goAll_237 2 rfl ?_
      refine a_aload_n dX9_goAll_239 rfl 0 rfl ?_
      refine a_get (.ref 68) ob_58 (by decide) fl_X9_38 rfl dX9_goAll_240 ?_
      refine a_iload dX9_goAll_243 2 rfl ?_
      obtain ⟨hb47, hf⟩ := grd_elim hf
      refine a_lald la_68 hb47 dX9_goAll_245 ?_
      obtain ⟨hb48, hf⟩ := grd_elim hf
      refine a_last la_67 hb48 dX9_goAll_246 ?_
      obtain ⟨σ49, hσ49, hf⟩ := bnd_elim hf
      rw [← hσ49]
      refine a_iinc (v5 + (1 : Int32)) dX9_goAll_247 2 rfl rfl (by decide) (loc' := [(5, .int (v5 + (1 : Int32))), (0, .ref 58), (3, .long c3)]) rfl ?_
      refine a_goto 226 dX9_goAll_250 (by decide) ?_
      refine a_locs (loc' := [(0, .ref 58), (3, .long c3), (5, .int (v5 + (1 : Int32)))]) [1, 2, 0] rfl ?_
      exact ih (v5 + (1 : Int32)) σ49 hf h2
set_option maxHeartbeats 4000000 in
set_option maxRecDepth 100000 in
theorem kX9_goAll (e : Nat) (p1 : Int32) (p2 : Int32) (σ : St)  (q : Int64 × St) (hf : fX9_goAll p1 p2 σ = some q) : Sp (e + 1) MX9_goAll [.ref 58, .int p1, .int p2] σ (some (.long q.1)) q.2 := by
  refine sp_of rfl (Nat.le_of_ble_eq_true rfl) (loc := [(0, .ref 58), (1, .int p1), (2, .int p2)]) rfl ?_
  unfold fX9_goAll at hf
  refine a_iconst (0 : Int32) dX9_goAll_0 rfl ?_
  refine a_istore_n dX9_goAll_1 rfl (by decide) (loc' := [(3, .int (0 : Int32)), (0, .ref 58), (1, .int p1), (2, .int p2)]) rfl ?_
  obtain ⟨q4, hr55, hf⟩ := obind hf
  have hA56 : A (e + 1) MX9_goAll 21 [(0, .ref 58), (1, .int p1), (2, .int p2)] [] q4 (some (.long q.1)) q.2 := by
    refine a_lconst (0 : Int64) dX9_goAll_21 rfl ?_
    refine a_lstore_n dX9_goAll_22 rfl (by decide) (loc' := [(3, .long (0 : Int64)), (0, .ref 58), (1, .int p1), (2, .int p2)]) rfl ?_
    refine a_iconst (0 : Int32) dX9_goAll_23 rfl ?_
    refine a_istore dX9_goAll_24 (by decide) (loc' := [(5, .int (0 : Int32)), (3, .long (0 : Int64)), (0, .ref 58), (1, .int p1), (2, .int p2)]) rfl ?_
    obtain ⟨q45, hr53, hf⟩ := obind hf
    have hA54 : A (e + 1) MX9_goAll 223 [(0, .ref 58), (3, .long q45.1)] [] q45.2 (some (.long q.1)) q.2 := by
      refine a_iconst (0 : Int32) dX9_goAll_223 rfl ?_
      refine a_istore dX9_goAll_224 (by decide) (loc' := [(5, .int (0 : Int32)), (0, .ref 58), (3, .long q45.1)]) rfl ?_
      obtain ⟨q50, hr51, hf⟩ := obind hf
      have hA52 : A (e + 1) MX9_goAll 253 [(3, .long q45.1)] [] q50 (some (.long q.1)) q.2 := by
        refine a_lload_n dX9_goAll_253 rfl 0 rfl ?_
        have hq := Option.some.inj hf
        subst hq
        exact a_lret rfl dX9_goAll_254
      refine a_locs (loc' := [(0, .ref 58), (3, .long q45.1), (5, .int (0 : Int32))]) [1, 2, 0] rfl ?_
      exact kX9_goAll_L226 e q45.1 q50 fu (0 : Int32) q45.2 hr51 hA52
    refine a_locs (loc' := [(0, .ref 58), (1, .int p1), (2, .int p2), (3, .long (0 : Int64)), (5, .int (0 : Int32))]) [2, 3, 4, 1, 0] rfl ?_
    exact kX9_goAll_L26 e p1 p2 q45 fu (0 : Int64) (0 : Int32) q4 hr53 hA54
  refine a_locs (loc' := [(0, .ref 58), (1, .int p1), (2, .int p2), (3, .int (0 : Int32))]) [1, 2, 3, 0] rfl ?_
  exact kX9_goAll_L2 e p1 p2 q4 fu (0 : Int32) σ hr55 hA56
set_option maxHeartbeats 4000000 in
set_option maxRecDepth 100000 in
theorem kX9_beginWays_L2 (e : Nat) (c1 : Int32)   {r : Option Value} {τ : St} (q : (St)) : ∀ (n : Nat) (v2 : Int32) (σ : St), fX9_beginWays_L2 c1 n v2 σ = some q → A e MX9_beginWays 21 [(0, .ref 58), (1, .int c1)] [] q r τ → A e MX9_beginWays 2 [(0, .ref 58), (1, .int c1), (2, .int v2)] [] σ r τ := by
  intro n
  induction n with
  | zero =>
    intro v2 σ  hf
    simp only [fX9_beginWays_L2] at hf
    exact absurd hf (by simp)
  | succ n ih =>
    intro v2 σ  hf h2
    rw [fX9_beginWays_L2] at hf
    refine a_iload_n dX9_beginWays_2 rfl 2 rfl ?_
    refine a_bipush (72 : Int32) dX9_beginWays_3 rfl ?_
    by_cases hc1 : (72 : Int32) ≤ v2
    · rw [if_pos hc1] at hf
      refine a_icmp_ge_t 21 dX9_beginWays_5 (by decide) hc1 ?_
      have hq := Option.some.inj hf
      rw [← hq] at h2
      refine a_locs (loc' := [(0, .ref 58), (1, .int c1)]) [0, 1] rfl ?_
      exact h2
    · rw [if_neg hc1] at hf
      refine a_icmp_ge_f 21 dX9_beginWays_5 (by decide) hc1 ?_
      refine a_aload_n dX9_beginWays_8 rfl 0 rfl ?_
      refine a_get (.ref 67) ob_58 (by decide) fl_X9_34 rfl dX9_beginWays_9 ?_
      refine a_iload_n dX9_beginWays_12 rfl 2 rfl ?_
      refine a_lconst (0 : Int64) dX9_beginWays_13 rfl ?_
      obtain ⟨hb2, hf⟩ := grd_elim hf
      refine a_last la_67 hb2 dX9_beginWays_14 ?_
      obtain ⟨σ3, hσ3, hf⟩ := bnd_elim hf
      rw [← hσ3]
      refine a_iinc (v2 + (1 : Int32)) dX9_beginWays_15 2 rfl rfl (by decide) (loc' := [(2, .int (v2 + (1 : Int32))), (0, .ref 58), (1, .int c1)]) rfl ?_
      refine a_goto 2 dX9_beginWays_18 (by decide) ?_
      refine a_locs (loc' := [(0, .ref 58), (1, .int c1), (2, .int (v2 + (1 : Int32)))]) [1, 2, 0] rfl ?_
      exact ih (v2 + (1 : Int32)) σ3 hf h2
set_option maxHeartbeats 4000000 in
set_option maxRecDepth 100000 in
theorem kX9_beginWays (e : Nat) (p1 : Int32) (σ : St)  (q : St) (hf : fX9_beginWays p1 σ = some q) : Sp e MX9_beginWays [.ref 58, .int p1] σ (none) q := by
  refine sp_of rfl (Nat.le_of_ble_eq_true rfl) (loc := [(0, .ref 58), (1, .int p1)]) rfl ?_
  unfold fX9_beginWays at hf
  refine a_iconst (0 : Int32) dX9_beginWays_0 rfl ?_
  refine a_istore_n dX9_beginWays_1 rfl (by decide) (loc' := [(2, .int (0 : Int32)), (0, .ref 58), (1, .int p1)]) rfl ?_
  obtain ⟨q4, hr13, hf⟩ := obind hf
  have hA14 : A e MX9_beginWays 21 [(0, .ref 58), (1, .int p1)] [] q4 none q := by
    refine a_aload_n dX9_beginWays_21 rfl 0 rfl ?_
    refine a_get (.ref 65) ob_58 (by decide) fl_X9_28 rfl dX9_beginWays_22 ?_
    refine a_bipush (8 : Int32) dX9_beginWays_25 rfl ?_
    refine a_iload_n dX9_beginWays_27 rfl 1 rfl ?_
    refine a_imul dX9_beginWays_28 ?_
    refine a_iconst (3 : Int32) dX9_beginWays_29 rfl ?_
    refine a_iadd dX9_beginWays_30 ?_
    obtain ⟨hb5, hf⟩ := grd_elim hf
    refine a_iald ia_65 hb5 dX9_beginWays_31 ?_
    obtain ⟨x6, hx6, hf⟩ := bnd_elim hf
    refine a_top (w := .int x6) (by rw [hx6]) ?_
    refine a_istore_n dX9_beginWays_32 rfl (by decide) (loc' := [(2, .int x6), (0, .ref 58), (1, .int p1)]) rfl ?_
    refine a_aload_n dX9_beginWays_33 rfl 1 rfl ?_
    refine a_get (.ref 67) ob_58 (by decide) fl_X9_34 rfl dX9_beginWays_34 ?_
    refine a_bipush (9 : Int32) dX9_beginWays_37 rfl ?_
    refine a_aload_n dX9_beginWays_39 rfl 1 rfl ?_
    refine a_get (.ref 65) ob_58 (by decide) fl_X9_28 rfl dX9_beginWays_40 ?_
    refine a_bipush (8 : Int32) dX9_beginWays_43 rfl ?_
    refine a_iload_n dX9_beginWays_45 rfl 2 rfl ?_
    refine a_imul dX9_beginWays_46 ?_
    refine a_iconst (2 : Int32) dX9_beginWays_47 rfl ?_
    refine a_iadd dX9_beginWays_48 ?_
    obtain ⟨hb7, hf⟩ := grd_elim hf
    refine a_iald ia_65 hb7 dX9_beginWays_49 ?_
    refine a_imul dX9_beginWays_50 ?_
    refine a_iload_n dX9_beginWays_51 rfl 0 rfl ?_
    refine a_iconst (-1 : Int32) dX9_beginWays_52 rfl ?_
    obtain ⟨x9, hx9, hf⟩ := bnd_elim hf
    have hA12 : A e MX9_beginWays 62 [] [.int x9, .int ((9 : Int32) * (q4.1 65 (((8 : Int32) * p1) + (2 : Int32)).toNatClampNeg)), .ref 67] q4 none q := by
      refine a_iadd dX9_beginWays_62 ?_
      refine a_lconst (1 : Int64) dX9_beginWays_63 rfl ?_
      obtain ⟨hb10, hf⟩ := grd_elim hf
      refine a_last la_67 hb10 dX9_beginWays_64 ?_
      obtain ⟨σ11, hσ11, hf⟩ := bnd_elim hf
      rw [← hσ11]
      have hq := Option.some.inj hf
      subst hq
      exact a_vret rfl dX9_beginWays_65
    clear hf
    by_cases hc8 : x6 = (-1 : Int32)
    · rw [if_pos hc8] at hx9
      refine a_icmp_ne_f 61 dX9_beginWays_53 (by decide) hc8 ?_
      refine a_bipush (8 : Int32) dX9_beginWays_56 rfl ?_
      refine a_goto 62 dX9_beginWays_58 (by decide) ?_
      replace hx9 := hx9.symm; subst hx9
      refine a_locs (loc' := []) [] rfl ?_
      exact hA12
    · rw [if_neg hc8] at hx9
      refine a_icmp_ne_t 61 dX9_beginWays_53 (by decide) hc8 ?_
      refine a_iload_n dX9_beginWays_61 rfl 0 rfl ?_
      replace hx9 := hx9.symm; subst hx9
      refine a_locs (loc' := []) [] rfl ?_
      exact hA12
  refine a_locs (loc' := [(0, .ref 58), (1, .int p1), (2, .int (0 : Int32))]) [1, 2, 0] rfl ?_
  exact kX9_beginWays_L2 e p1 q4 fu (0 : Int32) σ hr13 hA14
set_option maxHeartbeats 4000000 in
set_option maxRecDepth 100000 in
theorem kX9_layWays_L7 (e : Nat) (c1 : Int32)   {r : Option Value} {τ : St} (q : (St)) : ∀ (n : Nat) (v2 : Int32) (σ : St), fX9_layWays_L7 c1 n v2 σ = some q → A (e + 2) MX9_layWays 41 [] [] q r τ → A (e + 2) MX9_layWays 7 [(0, .ref 58), (1, .int c1), (2, .int v2)] [] σ r τ := by
  intro n
  induction n with
  | zero =>
    intro v2 σ  hf
    simp only [fX9_layWays_L7] at hf
    exact absurd hf (by simp)
  | succ n ih =>
    intro v2 σ  hf h2
    rw [fX9_layWays_L7] at hf
    refine a_iload_n dX9_layWays_7 rfl 2 rfl ?_
    refine a_bipush (9 : Int32) dX9_layWays_8 rfl ?_
    by_cases hc2 : (9 : Int32) ≤ v2
    · rw [if_pos hc2] at hf
      refine a_icmp_ge_t 41 dX9_layWays_10 (by decide) hc2 ?_
      have hq := Option.some.inj hf
      rw [← hq] at h2
      refine a_locs (loc' := []) [] rfl ?_
      exact h2
    · rw [if_neg hc2] at hf
      refine a_icmp_ge_f 41 dX9_layWays_10 (by decide) hc2 ?_
      refine a_aload_n dX9_layWays_13 rfl 0 rfl ?_
      refine a_get (.ref 69) ob_58 (by decide) fl_X9_41 rfl dX9_layWays_14 ?_
      refine a_iload_n dX9_layWays_17 rfl 2 rfl ?_
      refine a_aload_n dX9_layWays_18 rfl 0 rfl ?_
      refine a_aload_n dX9_layWays_19 rfl 0 rfl ?_
      refine a_get (.ref 65) ob_58 (by decide) fl_X9_28 rfl dX9_layWays_20 ?_
      refine a_bipush (8 : Int32) dX9_layWays_23 rfl ?_
      refine a_iload_n dX9_layWays_25 rfl 1 rfl ?_
      refine a_imul dX9_layWays_26 ?_
      refine a_iconst (1 : Int32) dX9_layWays_27 rfl ?_
      refine a_iadd dX9_layWays_28 ?_
      obtain ⟨hb3, hf⟩ := grd_elim hf
      refine a_iald ia_65 hb3 dX9_layWays_29 ?_
      refine a_iconst (0 : Int32) dX9_layWays_30 rfl ?_
      obtain ⟨q4, hq4, hf⟩ := obind hf
      refine a_callV (as := [.int (σ.1 65 (((8 : Int32) * c1) + (1 : Int32)).toNatClampNeg), .int (0 : Int32)]) (stk := [.int v2, .ref 69]) (q := some (.long q4.1)) (σ1 := q4.2) (kX9_goAll e (σ.1 65 (((8 : Int32) * c1) + (1 : Int32)).toNatClampNeg) (0 : Int32) σ _ hq4) ob_58 vl_X9_235 rfl (Nat.le_of_ble_eq_true rfl) dX9_layWays_31 ?_
      obtain ⟨hb5, hf⟩ := grd_elim hf
      refine a_last la_69 hb5 dX9_layWays_34 ?_
      obtain ⟨σ6, hσ6, hf⟩ := bnd_elim hf
      rw [← hσ6]
      refine a_iinc (v2 + (1 : Int32)) dX9_layWays_35 2 rfl rfl (by decide) (loc' := [(2, .int (v2 + (1 : Int32))), (0, .ref 58), (1, .int c1)]) rfl ?_
      refine a_goto 7 dX9_layWays_38 (by decide) ?_
      refine a_locs (loc' := [(0, .ref 58), (1, .int c1), (2, .int (v2 + (1 : Int32)))]) [1, 2, 0] rfl ?_
      exact ih (v2 + (1 : Int32)) σ6 hf h2
set_option maxHeartbeats 4000000 in
set_option maxRecDepth 100000 in
theorem kX9_layWays (e : Nat) (p1 : Int32) (σ : St)  (q : St) (hf : fX9_layWays p1 σ = some q) : Sp (e + 2) MX9_layWays [.ref 58, .int p1] σ (none) q := by
  refine sp_of rfl (Nat.le_of_ble_eq_true rfl) (loc := [(0, .ref 58), (1, .int p1)]) rfl ?_
  unfold fX9_layWays at hf
  refine a_aload_n dX9_layWays_0 rfl 0 rfl ?_
  refine a_iload_n dX9_layWays_1 rfl 1 rfl ?_
  obtain ⟨q1, hq1, hf⟩ := obind hf
  refine a_callV (as := [.int p1]) (stk := []) (q := none) (σ1 := q1) (kX9_beginWays (e + 1) p1 σ _ hq1) ob_58 vl_X9_231 rfl (Nat.le_of_ble_eq_true rfl) dX9_layWays_2 ?_
  refine a_iconst (1 : Int32) dX9_layWays_5 rfl ?_
  refine a_istore_n dX9_layWays_6 rfl (by decide) (loc' := [(2, .int (1 : Int32)), (0, .ref 58), (1, .int p1)]) rfl ?_
  obtain ⟨q7, hr8, hf⟩ := obind hf
  have hA9 : A (e + 2) MX9_layWays 41 [] [] q7 none q := by
    have hq := Option.some.inj hf
    subst hq
    exact a_vret rfl dX9_layWays_41
  refine a_locs (loc' := [(0, .ref 58), (1, .int p1), (2, .int (1 : Int32))]) [1, 2, 0] rfl ?_
  exact kX9_layWays_L7 e p1 q7 fu (1 : Int32) q1 hr8 hA9
set_option maxHeartbeats 4000000 in
set_option maxRecDepth 100000 in
theorem kX9_ways (e : Nat) (p1 : Int32) (p2 : Int32) (σ : St)  (q : Int32 × St) (hf : fX9_ways p1 p2 σ = some q) : Sp (e + 3) MX9_ways [.ref 58, .int p1, .int p2] σ (some (.int q.1)) q.2 := by
  refine sp_of rfl (Nat.le_of_ble_eq_true rfl) (loc := [(0, .ref 58), (1, .int p1), (2, .int p2)]) rfl ?_
  unfold fX9_ways at hf
  refine a_aload_n dX9_ways_0 rfl 0 rfl ?_
  refine a_iload_n dX9_ways_1 rfl 1 rfl ?_
  refine a_callV (as := [.int p1]) (stk := []) (q := some (.int (fX9_isGift p1 σ))) (σ1 := σ) (kX9_isGift (e + 1) p1 σ) ob_58 vl_X9_182 rfl (Nat.le_of_ble_eq_true rfl) dX9_ways_2 ?_
  by_cases hc1 : (fX9_isGift p1 σ) = 0
  · rw [if_pos hc1] at hf
    refine a_if_ne_f 11 dX9_ways_5 (by decide) hc1 ?_
    refine a_bipush (-101 : Int32) dX9_ways_8 rfl ?_
    have hq := Option.some.inj hf
    subst hq
    exact a_iret rfl dX9_ways_10
  · rw [if_neg hc1] at hf
    refine a_if_ne_t 11 dX9_ways_5 (by decide) hc1 ?_
    refine a_aload_n dX9_ways_11 rfl 0 rfl ?_
    refine a_iload_n dX9_ways_12 rfl 1 rfl ?_
    obtain ⟨q2, hq2, hf⟩ := obind hf
    refine a_callV (as := [.int p1]) (stk := []) (q := some (.int q2)) (σ1 := σ) (kX9_lives (e + 2) p1 σ _ hq2) ob_58 vl_X9_161 rfl (Nat.le_of_ble_eq_true rfl) dX9_ways_13 ?_
    by_cases hc3 : q2 = 0
    · rw [if_pos hc3] at hf
      refine a_if_ne_f 22 dX9_ways_16 (by decide) hc3 ?_
      refine a_bipush (-103 : Int32) dX9_ways_19 rfl ?_
      have hq := Option.some.inj hf
      subst hq
      exact a_iret rfl dX9_ways_21
    · rw [if_neg hc3] at hf
      refine a_if_ne_t 22 dX9_ways_16 (by decide) hc3 ?_
      refine a_iload_n dX9_ways_22 rfl 2 rfl ?_
      refine a_i2l dX9_ways_23 ?_
      refine a_lconst (1 : Int64) dX9_ways_24 rfl ?_
      refine a_ldc2 rfl kc_X9_180 dX9_ways_25 ?_
      refine a_callS (as := [.long p2.toInt64, .long (1 : Int64), .long (8 : Int64)]) (stk := []) (q := some (.int (fX9_in p2.toInt64 (1 : Int64) (8 : Int64)))) (σ1 := σ) (kX9_in (e + 2) p2.toInt64 (1 : Int64) (8 : Int64) σ) sl_X9_108 rfl (Nat.le_of_ble_eq_true rfl) dX9_ways_28 ?_
      by_cases hc4 : (fX9_in p2.toInt64 (1 : Int64) (8 : Int64)) = 0
      · rw [if_pos hc4] at hf
        refine a_if_ne_f 37 dX9_ways_31 (by decide) hc4 ?_
        refine a_bipush (-102 : Int32) dX9_ways_34 rfl ?_
        have hq := Option.some.inj hf
        subst hq
        exact a_iret rfl dX9_ways_36
      · rw [if_neg hc4] at hf
        refine a_if_ne_t 37 dX9_ways_31 (by decide) hc4 ?_
        refine a_aload_n dX9_ways_37 rfl 0 rfl ?_
        refine a_iload_n dX9_ways_38 rfl 1 rfl ?_
        obtain ⟨q5, hq5, hf⟩ := obind hf
        refine a_callV (as := [.int p1]) (stk := []) (q := none) (σ1 := q5) (kX9_layWays e p1 σ _ hq5) ob_58 vl_X9_239 rfl (Nat.le_of_ble_eq_true rfl) dX9_ways_39 ?_
        refine a_aload_n dX9_ways_42 rfl 0 rfl ?_
        refine a_get (.ref 69) ob_58 (by decide) fl_X9_41 rfl dX9_ways_43 ?_
        refine a_iload_n dX9_ways_46 rfl 2 rfl ?_
        obtain ⟨hb6, hf⟩ := grd_elim hf
        refine a_lald la_69 hb6 dX9_ways_47 ?_
        refine a_l2i dX9_ways_48 ?_
        have hq := Option.some.inj hf
        subst hq
        exact a_iret rfl dX9_ways_49
set_option maxHeartbeats 4000000 in
set_option maxRecDepth 100000 in
theorem kX9_soonestOf_L7 (e : Nat)  (σ : St)  {r : Option Value} {τ : St} (q : Sum (Int32 × St) (Unit)) : ∀ (n : Nat) (v2 : Int32), fX9_soonestOf_L7 σ n v2 = some q → (∀ z, q = .inl z → r = some (.int z.1) ∧ τ = z.2) → (∀ q1, q = .inr q1 → A (e + 3) MX9_soonestOf 32 [] [] σ r τ) → A (e + 3) MX9_soonestOf 7 [(0, .ref 58), (2, .int v2)] [] σ r τ := by
  intro n
  induction n with
  | zero =>
    intro v2  hf
    simp only [fX9_soonestOf_L7] at hf
    exact absurd hf (by simp)
  | succ n ih =>
    intro v2  hf h1 h2
    rw [fX9_soonestOf_L7] at hf
    refine a_iload_n dX9_soonestOf_7 rfl 1 rfl ?_
    refine a_bipush (9 : Int32) dX9_soonestOf_8 rfl ?_
    by_cases hc2 : (9 : Int32) ≤ v2
    · rw [if_pos hc2] at hf
      refine a_icmp_ge_t 32 dX9_soonestOf_10 (by decide) hc2 ?_
      have hq := Option.some.inj hf
      refine a_locs (loc' := []) [] rfl ?_
      exact h2 _ hq.symm
    · rw [if_neg hc2] at hf
      refine a_icmp_ge_f 32 dX9_soonestOf_10 (by decide) hc2 ?_
      refine a_aload_n dX9_soonestOf_13 rfl 0 rfl ?_
      refine a_get (.ref 69) ob_58 (by decide) fl_X9_41 rfl dX9_soonestOf_14 ?_
      refine a_iload_n dX9_soonestOf_17 rfl 1 rfl ?_
      obtain ⟨hb3, hf⟩ := grd_elim hf
      refine a_lald la_69 hb3 dX9_soonestOf_18 ?_
      refine a_lconst (0 : Int64) dX9_soonestOf_19 rfl ?_
      refine a_lcmp dX9_soonestOf_20 ?_
      by_cases hc4 : (lg_cmp (σ.2 69 v2.toNatClampNeg) (0 : Int64)) ≤ 0
      · rw [if_pos hc4] at hf
        refine a_if_le_t 26 dX9_soonestOf_21 (by decide) hc4 ?_
        refine a_iinc (v2 + (1 : Int32)) dX9_soonestOf_26 1 rfl rfl (by decide) (loc' := [(2, .int (v2 + (1 : Int32))), (0, .ref 58)]) rfl ?_
        refine a_goto 7 dX9_soonestOf_29 (by decide) ?_
        refine a_locs (loc' := [(0, .ref 58), (2, .int (v2 + (1 : Int32)))]) [1, 0] rfl ?_
        exact ih (v2 + (1 : Int32)) hf h1 h2
      · rw [if_neg hc4] at hf
        refine a_if_le_f 26 dX9_soonestOf_21 (by decide) hc4 ?_
        refine a_iload_n dX9_soonestOf_24 rfl 1 rfl ?_
        have hq := Option.some.inj hf
        obtain ⟨hr0, ht0⟩ := h1 _ hq.symm
        rw [hr0, ht0]
        exact a_iret rfl dX9_soonestOf_25
set_option maxHeartbeats 4000000 in
set_option maxRecDepth 100000 in
theorem kX9_soonestOf (e : Nat) (p1 : Int32) (σ : St)  (q : Int32 × St) (hf : fX9_soonestOf p1 σ = some q) : Sp (e + 3) MX9_soonestOf [.ref 58, .int p1] σ (some (.int q.1)) q.2 := by
  refine sp_of rfl (Nat.le_of_ble_eq_true rfl) (loc := [(0, .ref 58), (1, .int p1)]) rfl ?_
  unfold fX9_soonestOf at hf
  refine a_aload_n dX9_soonestOf_0 rfl 0 rfl ?_
  refine a_iload_n dX9_soonestOf_1 rfl 1 rfl ?_
  obtain ⟨q1, hq1, hf⟩ := obind hf
  refine a_callV (as := [.int p1]) (stk := []) (q := none) (σ1 := q1) (kX9_layWays e p1 σ _ hq1) ob_58 vl_X9_239 rfl (Nat.le_of_ble_eq_true rfl) dX9_soonestOf_2 ?_
  refine a_iconst (1 : Int32) dX9_soonestOf_5 rfl ?_
  refine a_istore_n dX9_soonestOf_6 rfl (by decide) (loc' := [(2, .int (1 : Int32)), (0, .ref 58), (1, .int p1)]) rfl ?_
  obtain ⟨s6, hr7, hf⟩ := obind hf
  refine a_locs (loc' := [(0, .ref 58), (2, .int (1 : Int32))]) [1, 0] rfl ?_
  refine kX9_soonestOf_L7 e q1 s6 fu (1 : Int32) hr7 ?_ ?_
  · intro z8 hz
    subst hz
    simp only [Sum.elim_inl] at hf
    have hq := Option.some.inj hf
    subst hq
    exact ⟨rfl, rfl⟩
  · intro q5 hz
    subst hz
    simp only [Sum.elim_inr] at hf
    refine a_iconst (-1 : Int32) dX9_soonestOf_32 rfl ?_
    have hq := Option.some.inj hf
    subst hq
    exact a_iret rfl dX9_soonestOf_33
set_option maxHeartbeats 4000000 in
set_option maxRecDepth 100000 in
theorem kX9_soonest (e : Nat) (p1 : Int32) (σ : St)  (q : Int32 × St) (hf : fX9_soonest p1 σ = some q) : Sp (e + 4) MX9_soonest [.ref 58, .int p1] σ (some (.int q.1)) q.2 := by
  refine sp_of rfl (Nat.le_of_ble_eq_true rfl) (loc := [(0, .ref 58), (1, .int p1)]) rfl ?_
  unfold fX9_soonest at hf
  refine a_aload_n dX9_soonest_0 rfl 0 rfl ?_
  refine a_iload_n dX9_soonest_1 rfl 1 rfl ?_
  refine a_callV (as := [.int p1]) (stk := []) (q := some (.int (fX9_isGift p1 σ))) (σ1 := σ) (kX9_isGift (e + 2) p1 σ) ob_58 vl_X9_182 rfl (Nat.le_of_ble_eq_true rfl) dX9_soonest_2 ?_
  by_cases hc1 : (fX9_isGift p1 σ) = 0
  · rw [if_pos hc1] at hf
    refine a_if_ne_f 11 dX9_soonest_5 (by decide) hc1 ?_
    refine a_bipush (-101 : Int32) dX9_soonest_8 rfl ?_
    have hq := Option.some.inj hf
    subst hq
    exact a_iret rfl dX9_soonest_10
  · rw [if_neg hc1] at hf
    refine a_if_ne_t 11 dX9_soonest_5 (by decide) hc1 ?_
    refine a_aload_n dX9_soonest_11 rfl 0 rfl ?_
    refine a_iload_n dX9_soonest_12 rfl 1 rfl ?_
    obtain ⟨q2, hq2, hf⟩ := obind hf
    refine a_callV (as := [.int p1]) (stk := []) (q := some (.int q2)) (σ1 := σ) (kX9_lives (e + 3) p1 σ _ hq2) ob_58 vl_X9_161 rfl (Nat.le_of_ble_eq_true rfl) dX9_soonest_13 ?_
    by_cases hc3 : q2 = 0
    · rw [if_pos hc3] at hf
      refine a_if_eq_t 27 dX9_soonest_16 (by decide) hc3 ?_
      refine a_bipush (-103 : Int32) dX9_soonest_27 rfl ?_
      have hq := Option.some.inj hf
      subst hq
      exact a_iret rfl dX9_soonest_29
    · rw [if_neg hc3] at hf
      refine a_if_eq_f 27 dX9_soonest_16 (by decide) hc3 ?_
      refine a_aload_n dX9_soonest_19 rfl 0 rfl ?_
      refine a_iload_n dX9_soonest_20 rfl 1 rfl ?_
      obtain ⟨q4, hq4, hf⟩ := obind hf
      refine a_callV (as := [.int p1]) (stk := []) (q := some (.int q4.1)) (σ1 := q4.2) (kX9_soonestOf e p1 σ _ hq4) ob_58 vl_X9_242 rfl (Nat.le_of_ble_eq_true rfl) dX9_soonest_21 ?_
      refine a_goto 29 dX9_soonest_24 (by decide) ?_
      have hq := Option.some.inj hf
      subst hq
      exact a_iret rfl dX9_soonest_29
set_option maxHeartbeats 4000000 in
set_option maxRecDepth 100000 in
theorem kX9_term_L6 (e : Nat) (c0 : Int64) (c2 : Int64) (c4 : Int32) (σ : St)  {r : Option Value} {τ : St} (q : (Int64)) : ∀ (n : Nat) (v5 : Int64) (v7 : Int64), fX9_term_L6 c0 c2 c4 σ n v5 v7 = some q → A e MX9_term 31 [(0, .long c0), (2, .long c2), (4, .int c4), (7, .long q)] [] σ r τ → A e MX9_term 6 [(0, .long c0), (2, .long c2), (4, .int c4), (5, .long v5), (7, .long v7)] [] σ r τ := by
  intro n
  induction n with
  | zero =>
    intro v5 v7  hf
    simp only [fX9_term_L6] at hf
    exact absurd hf (by simp)
  | succ n ih =>
    intro v5 v7  hf h2
    rw [fX9_term_L6] at hf
    refine a_lload dX9_term_6 3 rfl ?_
    refine a_lconst (0 : Int64) dX9_term_8 rfl ?_
    refine a_lcmp dX9_term_9 ?_
    by_cases hc1 : (lg_cmp v5 (0 : Int64)) = 0
    · rw [if_pos hc1] at hf
      refine a_if_eq_t 31 dX9_term_10 (by decide) hc1 ?_
      have hq := Option.some.inj hf
      rw [← hq] at h2
      refine a_locs (loc' := [(0, .long c0), (2, .long c2), (4, .int c4), (7, .long v7)]) [0, 1, 2, 4] rfl ?_
      exact h2
    · rw [if_neg hc1] at hf
      refine a_if_eq_f 31 dX9_term_10 (by decide) hc1 ?_
      refine a_lload dX9_term_13 4 rfl ?_
      refine a_lload dX9_term_15 3 rfl ?_
      obtain ⟨hb2, hf⟩ := grd_elim hf
      refine a_lrem (of_decide_eq_true hb2) dX9_term_17 ?_
      refine a_lstore dX9_term_18 (by decide) (loc' := [(9, .long (v7 - v7 / v5 * v5)), (0, .long c0), (2, .long c2), (4, .int c4), (5, .long v5), (7, .long v7)]) rfl ?_
      refine a_lload dX9_term_20 4 rfl ?_
      refine a_lstore dX9_term_22 (by decide) (loc' := [(7, .long v5), (9, .long (v7 - v7 / v5 * v5)), (0, .long c0), (2, .long c2), (4, .int c4), (5, .long v5)]) rfl ?_
      refine a_lload dX9_term_24 1 rfl ?_
      refine a_lstore dX9_term_26 (by decide) (loc' := [(5, .long (v7 - v7 / v5 * v5)), (7, .long v5), (9, .long (v7 - v7 / v5 * v5)), (0, .long c0), (2, .long c2), (4, .int c4)]) rfl ?_
      refine a_goto 6 dX9_term_28 (by decide) ?_
      refine a_locs (loc' := [(0, .long c0), (2, .long c2), (4, .int c4), (5, .long (v7 - v7 / v5 * v5)), (7, .long v5)]) [3, 4, 5, 0, 1] rfl ?_
      exact ih (v7 - v7 / v5 * v5) v5 hf h2
set_option maxHeartbeats 4000000 in
set_option maxRecDepth 100000 in
theorem kX9_term (e : Nat) (p0 : Int64) (p2 : Int64) (p4 : Int32) (σ : St)  (q : Int64) (hf : fX9_term p0 p2 p4 σ = some q) : Sp e MX9_term [.long p0, .long p2, .int p4] σ (some (.long q)) σ := by
  refine sp_of rfl (Nat.le_of_ble_eq_true rfl) (loc := [(0, .long p0), (2, .long p2), (4, .int p4)]) rfl ?_
  unfold fX9_term at hf
  refine a_lload_n dX9_term_0 rfl 0 rfl ?_
  refine a_lstore dX9_term_1 (by decide) (loc' := [(5, .long p0), (0, .long p0), (2, .long p2), (4, .int p4)]) rfl ?_
  refine a_lload_n dX9_term_3 rfl 2 rfl ?_
  refine a_lstore dX9_term_4 (by decide) (loc' := [(7, .long p2), (5, .long p0), (0, .long p0), (2, .long p2), (4, .int p4)]) rfl ?_
  obtain ⟨q3, hr7, hf⟩ := obind hf
  have hA8 : A e MX9_term 31 [(0, .long p0), (2, .long p2), (4, .int p4), (7, .long q3)] [] σ (some (.long q)) σ := by
    refine a_iload dX9_term_31 2 rfl ?_
    by_cases hc4 : p4 = 0
    · rw [if_pos hc4] at hf
      refine a_if_ne_f 43 dX9_term_33 (by decide) hc4 ?_
      refine a_lload_n dX9_term_36 rfl 0 rfl ?_
      refine a_lload dX9_term_37 3 rfl ?_
      obtain ⟨hb5, hf⟩ := grd_elim hf
      refine a_ldiv (of_decide_eq_true hb5) dX9_term_39 ?_
      refine a_goto 47 dX9_term_40 (by decide) ?_
      have hq := Option.some.inj hf
      subst hq
      exact a_lret rfl dX9_term_47
    · rw [if_neg hc4] at hf
      refine a_if_ne_t 43 dX9_term_33 (by decide) hc4 ?_
      refine a_lload_n dX9_term_43 rfl 1 rfl ?_
      refine a_lload dX9_term_44 3 rfl ?_
      obtain ⟨hb6, hf⟩ := grd_elim hf
      refine a_ldiv (of_decide_eq_true hb6) dX9_term_46 ?_
      have hq := Option.some.inj hf
      subst hq
      exact a_lret rfl dX9_term_47
  refine a_locs (loc' := [(0, .long p0), (2, .long p2), (4, .int p4), (5, .long p0), (7, .long p2)]) [2, 3, 4, 1, 0] rfl ?_
  exact kX9_term_L6 e p0 p2 p4 σ q3 fu p0 p2 hr7 hA8
set_option maxHeartbeats 4000000 in
set_option maxRecDepth 100000 in
theorem kX9_likely_L64 (e : Nat) (c1 : Int32) (c2 : Int32) (c3 : Int32)   {r : Option Value} {τ : St} (q : (Int64 × Int64 × St)) : ∀ (n : Nat) (v4 : Int64) (v6 : Int64) (v8 : Int32) (σ : St), fX9_likely_L64 c1 c2 c3 n v4 v6 v8 σ = some q → A (e + 2) MX9_likely 113 [(3, .int c3), (4, .long q.1), (6, .long q.2.1)] [] q.2.2 r τ → A (e + 2) MX9_likely 64 [(0, .ref 58), (1, .int c1), (2, .int c2), (3, .int c3), (4, .long v4), (6, .long v6), (8, .int v8)] [] σ r τ := by
  intro n
  induction n with
  | zero =>
    intro v4 v6 v8 σ  hf
    simp only [fX9_likely_L64] at hf
    exact absurd hf (by simp)
  | succ n ih =>
    intro v4 v6 v8 σ  hf h2
    rw [fX9_likely_L64] at hf
    refine a_iload dX9_likely_64 6 rfl ?_
    refine a_iload_n dX9_likely_66 rfl 2 rfl ?_
    by_cases hc7 : c2 ≤ v8
    · rw [if_pos hc7] at hf
      refine a_icmp_ge_t 113 dX9_likely_67 (by decide) hc7 ?_
      have hq := Option.some.inj hf
      rw [← hq] at h2
      refine a_locs (loc' := [(3, .int c3), (4, .long v4), (6, .long v6)]) [3, 4, 5] rfl ?_
      exact h2
    · rw [if_neg hc7] at hf
      refine a_icmp_ge_f 113 dX9_likely_67 (by decide) hc7 ?_
      refine a_aload_n dX9_likely_70 rfl 0 rfl ?_
      refine a_aload_n dX9_likely_71 rfl 0 rfl ?_
      refine a_get (.ref 65) ob_58 (by decide) fl_X9_28 rfl dX9_likely_72 ?_
      refine a_bipush (8 : Int32) dX9_likely_75 rfl ?_
      refine a_iload_n dX9_likely_77 rfl 1 rfl ?_
      refine a_imul dX9_likely_78 ?_
      refine a_iconst (1 : Int32) dX9_likely_79 rfl ?_
      refine a_iadd dX9_likely_80 ?_
      obtain ⟨hb8, hf⟩ := grd_elim hf
      refine a_iald ia_65 hb8 dX9_likely_81 ?_
      refine a_iconst (1 : Int32) dX9_likely_82 rfl ?_
      obtain ⟨q9, hq9, hf⟩ := obind hf
      refine a_callV (as := [.int (σ.1 65 (((8 : Int32) * c1) + (1 : Int32)).toNatClampNeg), .int (1 : Int32)]) (stk := []) (q := some (.long q9.1)) (σ1 := q9.2) (kX9_goAll e (σ.1 65 (((8 : Int32) * c1) + (1 : Int32)).toNatClampNeg) (1 : Int32) σ _ hq9) ob_58 vl_X9_235 rfl (Nat.le_of_ble_eq_true rfl) dX9_likely_83 ?_
      refine a_lstore dX9_likely_86 (by decide) (loc' := [(9, .long q9.1), (0, .ref 58), (1, .int c1), (2, .int c2), (3, .int c3), (4, .long v4), (6, .long v6), (8, .int v8)]) rfl ?_
      refine a_ldc2 rfl kc_X9_253 dX9_likely_88 ?_
      refine a_lload dX9_likely_91 5 rfl ?_
      refine a_lmul dX9_likely_93 ?_
      refine a_lload dX9_likely_94 0 rfl ?_
      refine a_ladd dX9_likely_96 ?_
      obtain ⟨x10, hx10, hf⟩ := bnd_elim hf
      refine a_top (w := .long x10) (by rw [hx10]) ?_
      refine a_lstore dX9_likely_97 (by decide) (loc' := [(4, .long x10), (9, .long q9.1), (0, .ref 58), (1, .int c1), (2, .int c2), (3, .int c3), (6, .long v6), (8, .int v8)]) rfl ?_
      refine a_lload dX9_likely_99 6 rfl ?_
      refine a_ldc2 rfl kc_X9_253 dX9_likely_101 ?_
      refine a_lmul dX9_likely_104 ?_
      refine a_lstore dX9_likely_105 (by decide) (loc' := [(6, .long (v6 * (420 : Int64))), (4, .long x10), (9, .long q9.1), (0, .ref 58), (1, .int c1), (2, .int c2), (3, .int c3), (8, .int v8)]) rfl ?_
      refine a_iinc (v8 + (1 : Int32)) dX9_likely_107 7 rfl rfl (by decide) (loc' := [(8, .int (v8 + (1 : Int32))), (6, .long (v6 * (420 : Int64))), (4, .long x10), (9, .long q9.1), (0, .ref 58), (1, .int c1), (2, .int c2), (3, .int c3)]) rfl ?_
      refine a_goto 64 dX9_likely_110 (by decide) ?_
      refine a_locs (loc' := [(0, .ref 58), (1, .int c1), (2, .int c2), (3, .int c3), (4, .long x10), (6, .long (v6 * (420 : Int64))), (8, .int (v8 + (1 : Int32)))]) [4, 5, 6, 7, 2, 1, 0] rfl ?_
      exact ih x10 (v6 * (420 : Int64)) (v8 + (1 : Int32)) q9.2 hf h2
set_option maxHeartbeats 4000000 in
set_option maxRecDepth 100000 in
theorem kX9_likely (e : Nat) (p1 : Int32) (p2 : Int32) (p3 : Int32) (σ : St)  (q : Int64 × St) (hf : fX9_likely p1 p2 p3 σ = some q) : Sp (e + 2) MX9_likely [.ref 58, .int p1, .int p2, .int p3] σ (some (.long q.1)) q.2 := by
  refine sp_of rfl (Nat.le_of_ble_eq_true rfl) (loc := [(0, .ref 58), (1, .int p1), (2, .int p2), (3, .int p3)]) rfl ?_
  unfold fX9_likely at hf
  refine a_aload_n dX9_likely_0 rfl 0 rfl ?_
  refine a_iload_n dX9_likely_1 rfl 1 rfl ?_
  refine a_callV (as := [.int p1]) (stk := []) (q := some (.int (fX9_isGift p1 σ))) (σ1 := σ) (kX9_isGift e p1 σ) ob_58 vl_X9_182 rfl (Nat.le_of_ble_eq_true rfl) dX9_likely_2 ?_
  by_cases hc1 : (fX9_isGift p1 σ) = 0
  · rw [if_pos hc1] at hf
    refine a_if_ne_f 12 dX9_likely_5 (by decide) hc1 ?_
    refine a_ldc2 rfl kc_X9_245 dX9_likely_8 ?_
    have hq := Option.some.inj hf
    subst hq
    exact a_lret rfl dX9_likely_11
  · rw [if_neg hc1] at hf
    refine a_if_ne_t 12 dX9_likely_5 (by decide) hc1 ?_
    refine a_aload_n dX9_likely_12 rfl 0 rfl ?_
    refine a_iload_n dX9_likely_13 rfl 1 rfl ?_
    obtain ⟨q2, hq2, hf⟩ := obind hf
    refine a_callV (as := [.int p1]) (stk := []) (q := some (.int q2)) (σ1 := σ) (kX9_lives (e + 1) p1 σ _ hq2) ob_58 vl_X9_161 rfl (Nat.le_of_ble_eq_true rfl) dX9_likely_14 ?_
    by_cases hc3 : q2 = 0
    · rw [if_pos hc3] at hf
      refine a_if_ne_f 24 dX9_likely_17 (by decide) hc3 ?_
      refine a_ldc2 rfl kc_X9_247 dX9_likely_20 ?_
      have hq := Option.some.inj hf
      subst hq
      exact a_lret rfl dX9_likely_23
    · rw [if_neg hc3] at hf
      refine a_if_ne_t 24 dX9_likely_17 (by decide) hc3 ?_
      refine a_iload_n dX9_likely_24 rfl 2 rfl ?_
      refine a_i2l dX9_likely_25 ?_
      refine a_lconst (1 : Int64) dX9_likely_26 rfl ?_
      refine a_ldc2 rfl kc_X9_249 dX9_likely_27 ?_
      refine a_callS (as := [.long p2.toInt64, .long (1 : Int64), .long (7 : Int64)]) (stk := []) (q := some (.int (fX9_in p2.toInt64 (1 : Int64) (7 : Int64)))) (σ1 := σ) (kX9_in (e + 1) p2.toInt64 (1 : Int64) (7 : Int64) σ) sl_X9_108 rfl (Nat.le_of_ble_eq_true rfl) dX9_likely_30 ?_
      by_cases hc4 : (fX9_in p2.toInt64 (1 : Int64) (7 : Int64)) = 0
      · rw [if_pos hc4] at hf
        refine a_if_eq_t 46 dX9_likely_33 (by decide) hc4 ?_
        refine a_ldc2 rfl kc_X9_251 dX9_likely_46 ?_
        have hq := Option.some.inj hf
        subst hq
        exact a_lret rfl dX9_likely_49
      · rw [if_neg hc4] at hf
        refine a_if_eq_f 46 dX9_likely_33 (by decide) hc4 ?_
        refine a_iload_n dX9_likely_36 rfl 3 rfl ?_
        refine a_i2l dX9_likely_37 ?_
        refine a_lconst (0 : Int64) dX9_likely_38 rfl ?_
        refine a_lconst (1 : Int64) dX9_likely_39 rfl ?_
        refine a_callS (as := [.long p3.toInt64, .long (0 : Int64), .long (1 : Int64)]) (stk := []) (q := some (.int (fX9_in p3.toInt64 (0 : Int64) (1 : Int64)))) (σ1 := σ) (kX9_in (e + 1) p3.toInt64 (0 : Int64) (1 : Int64) σ) sl_X9_108 rfl (Nat.le_of_ble_eq_true rfl) dX9_likely_40 ?_
        by_cases hc5 : (fX9_in p3.toInt64 (0 : Int64) (1 : Int64)) = 0
        · rw [if_pos hc5] at hf
          refine a_if_ne_f 50 dX9_likely_43 (by decide) hc5 ?_
          refine a_ldc2 rfl kc_X9_251 dX9_likely_46 ?_
          have hq := Option.some.inj hf
          subst hq
          exact a_lret rfl dX9_likely_49
        · rw [if_neg hc5] at hf
          refine a_if_ne_t 50 dX9_likely_43 (by decide) hc5 ?_
          refine a_aload_n dX9_likely_50 rfl 0 rfl ?_
          refine a_iload_n dX9_likely_51 rfl 1 rfl ?_
          obtain ⟨q6, hq6, hf⟩ := obind hf
          refine a_callV (as := [.int p1]) (stk := []) (q := none) (σ1 := q6) (kX9_beginWays (e + 1) p1 σ _ hq6) ob_58 vl_X9_231 rfl (Nat.le_of_ble_eq_true rfl) dX9_likely_52 ?_
          refine a_lconst (0 : Int64) dX9_likely_55 rfl ?_
          refine a_lstore dX9_likely_56 (by decide) (loc' := [(4, .long (0 : Int64)), (0, .ref 58), (1, .int p1), (2, .int p2), (3, .int p3)]) rfl ?_
          refine a_lconst (1 : Int64) dX9_likely_58 rfl ?_
          refine a_lstore dX9_likely_59 (by decide) (loc' := [(6, .long (1 : Int64)), (4, .long (0 : Int64)), (0, .ref 58), (1, .int p1), (2, .int p2), (3, .int p3)]) rfl ?_
          refine a_iconst (0 : Int32) dX9_likely_61 rfl ?_
          refine a_istore dX9_likely_62 (by decide) (loc' := [(8, .int (0 : Int32)), (6, .long (1 : Int64)), (4, .long (0 : Int64)), (0, .ref 58), (1, .int p1), (2, .int p2), (3, .int p3)]) rfl ?_
          obtain ⟨q11, hr13, hf⟩ := obind hf
          have hA14 : A (e + 2) MX9_likely 113 [(3, .int p3), (4, .long q11.1), (6, .long q11.2.1)] [] q11.2.2 (some (.long q.1)) q.2 := by
            refine a_lload dX9_likely_113 1 rfl ?_
            refine a_lload dX9_likely_115 2 rfl ?_
            refine a_iload_n dX9_likely_117 rfl 0 rfl ?_
            obtain ⟨q12, hq12, hf⟩ := obind hf
            refine a_callS (as := [.long q11.1, .long q11.2.1, .int p3]) (stk := []) (q := some (.long q12)) (σ1 := q11.2.2) (kX9_term (e + 1) q11.1 q11.2.1 p3 q11.2.2 _ hq12) sl_X9_255 rfl (Nat.le_of_ble_eq_true rfl) dX9_likely_118 ?_
            have hq := Option.some.inj hf
            subst hq
            exact a_lret rfl dX9_likely_121
          refine a_locs (loc' := [(0, .ref 58), (1, .int p1), (2, .int p2), (3, .int p3), (4, .long (0 : Int64)), (6, .long (1 : Int64)), (8, .int (0 : Int32))]) [3, 4, 5, 6, 2, 1, 0] rfl ?_
          exact kX9_likely_L64 e p1 p2 p3 q11 fu (0 : Int64) (1 : Int64) (0 : Int32) q6 hr13 hA14
set_option maxHeartbeats 4000000 in
set_option maxRecDepth 100000 in
theorem kX9_trapsOf_L4 (e : Nat)  (σ : St)  {r : Option Value} {τ : St} (q : (Int32)) : ∀ (n : Nat) (v1 : Int32) (v2 : Int32), fX9_trapsOf_L4 σ n v1 v2 = some q → A (e + 1) MX9_trapsOf 41 [(1, .int q)] [] σ r τ → A (e + 1) MX9_trapsOf 4 [(0, .ref 58), (1, .int v1), (2, .int v2)] [] σ r τ := by
  intro n
  induction n with
  | zero =>
    intro v1 v2  hf
    simp only [fX9_trapsOf_L4] at hf
    exact absurd hf (by simp)
  | succ n ih =>
    intro v1 v2  hf h2
    rw [fX9_trapsOf_L4] at hf
    refine a_iload_n dX9_trapsOf_4 rfl 2 rfl ?_
    refine a_aload_n dX9_trapsOf_5 rfl 0 rfl ?_
    refine a_get (.int (σ.1 58 12)) ob_58 (by decide) fl_X9_144 rfl dX9_trapsOf_6 ?_
    by_cases hc1 : (σ.1 58 12) ≤ v2
    · rw [if_pos hc1] at hf
      refine a_icmp_ge_t 41 dX9_trapsOf_9 (by decide) hc1 ?_
      have hq := Option.some.inj hf
      rw [← hq] at h2
      refine a_locs (loc' := [(1, .int v1)]) [1] rfl ?_
      exact h2
    · rw [if_neg hc1] at hf
      refine a_icmp_ge_f 41 dX9_trapsOf_9 (by decide) hc1 ?_
      refine a_iload_n dX9_trapsOf_12 rfl 1 rfl ?_
      refine a_aload_n dX9_trapsOf_13 rfl 0 rfl ?_
      refine a_get (.ref 61) ob_58 (by decide) fl_X9_16 rfl dX9_trapsOf_14 ?_
      refine a_iload_n dX9_trapsOf_17 rfl 2 rfl ?_
      obtain ⟨hb2, hf⟩ := grd_elim hf
      refine a_iald ia_61 hb2 dX9_trapsOf_18 ?_
      obtain ⟨q3, hq3, hf⟩ := obind hf
      refine a_callS (as := [.int (σ.1 61 v2.toNatClampNeg)]) (stk := [.int v1]) (q := some (.int q3)) (σ1 := σ) (kX9_ones e (σ.1 61 v2.toNatClampNeg) σ _ hq3) sl_X9_210 rfl (Nat.le_of_ble_eq_true rfl) dX9_trapsOf_19 ?_
      refine a_iconst (1 : Int32) dX9_trapsOf_22 rfl ?_
      obtain ⟨x5, hx5, hf⟩ := bnd_elim hf
      have hA6 : A (e + 1) MX9_trapsOf 33 [(0, .ref 58), (2, .int v2)] [.int x5, .int v1] σ r τ := by
        refine a_ior dX9_trapsOf_33 ?_
        refine a_istore_n dX9_trapsOf_34 rfl (by decide) (loc' := [(1, .int (v1 ||| x5)), (0, .ref 58), (2, .int v2)]) rfl ?_
        refine a_iinc (v2 + (1 : Int32)) dX9_trapsOf_35 2 rfl rfl (by decide) (loc' := [(2, .int (v2 + (1 : Int32))), (1, .int (v1 ||| x5)), (0, .ref 58)]) rfl ?_
        refine a_goto 4 dX9_trapsOf_38 (by decide) ?_
        refine a_locs (loc' := [(0, .ref 58), (1, .int (v1 ||| x5)), (2, .int (v2 + (1 : Int32)))]) [2, 1, 0] rfl ?_
        exact ih (v1 ||| x5) (v2 + (1 : Int32)) hf h2
      clear hf
      by_cases hc4 : q3 = (1 : Int32)
      · rw [if_pos hc4] at hx5
        refine a_icmp_ne_f 32 dX9_trapsOf_23 (by decide) hc4 ?_
        refine a_iconst (1 : Int32) dX9_trapsOf_26 rfl ?_
        refine a_iload_n dX9_trapsOf_27 rfl 2 rfl ?_
        refine a_ishl dX9_trapsOf_28 ?_
        refine a_goto 33 dX9_trapsOf_29 (by decide) ?_
        replace hx5 := hx5.symm; subst hx5
        refine a_locs (loc' := [(0, .ref 58), (2, .int v2)]) [0, 2] rfl ?_
        exact hA6
      · rw [if_neg hc4] at hx5
        refine a_icmp_ne_t 32 dX9_trapsOf_23 (by decide) hc4 ?_
        refine a_iconst (0 : Int32) dX9_trapsOf_32 rfl ?_
        replace hx5 := hx5.symm; subst hx5
        refine a_locs (loc' := [(0, .ref 58), (2, .int v2)]) [0, 2] rfl ?_
        exact hA6
set_option maxHeartbeats 4000000 in
set_option maxRecDepth 100000 in
theorem kX9_trapsOf (e : Nat)  (σ : St)  (q : Int32) (hf : fX9_trapsOf σ = some q) : Sp (e + 1) MX9_trapsOf [.ref 58] σ (some (.int q)) σ := by
  refine sp_of rfl (Nat.le_of_ble_eq_true rfl) (loc := [(0, .ref 58)]) rfl ?_
  unfold fX9_trapsOf at hf
  refine a_iconst (0 : Int32) dX9_trapsOf_0 rfl ?_
  refine a_istore_n dX9_trapsOf_1 rfl (by decide) (loc' := [(1, .int (0 : Int32)), (0, .ref 58)]) rfl ?_
  refine a_iconst (0 : Int32) dX9_trapsOf_2 rfl ?_
  refine a_istore_n dX9_trapsOf_3 rfl (by decide) (loc' := [(2, .int (0 : Int32)), (1, .int (0 : Int32)), (0, .ref 58)]) rfl ?_
  obtain ⟨q7, hr8, hf⟩ := obind hf
  have hA9 : A (e + 1) MX9_trapsOf 41 [(1, .int q7)] [] σ (some (.int q)) σ := by
    refine a_iload_n dX9_trapsOf_41 rfl 0 rfl ?_
    have hq := Option.some.inj hf
    subst hq
    exact a_iret rfl dX9_trapsOf_42
  refine a_locs (loc' := [(0, .ref 58), (1, .int (0 : Int32)), (2, .int (0 : Int32))]) [2, 1, 0] rfl ?_
  exact kX9_trapsOf_L4 e σ q7 fu (0 : Int32) (0 : Int32) hr8 hA9
set_option maxHeartbeats 4000000 in
set_option maxRecDepth 100000 in
theorem kX9_traps (e : Nat)  (σ : St)  (q : Int32) (hf : fX9_traps σ = some q) : Sp (e + 2) MX9_traps [.ref 58] σ (some (.int q)) σ := by
  refine sp_of rfl (Nat.le_of_ble_eq_true rfl) (loc := [(0, .ref 58)]) rfl ?_
  unfold fX9_traps at hf
  refine a_aload_n dX9_traps_0 rfl 0 rfl ?_
  obtain ⟨q1, hq1, hf⟩ := obind hf
  refine a_callV (as := []) (stk := []) (q := some (.int q1)) (σ1 := σ) (kX9_trapsOf e σ _ hq1) ob_58 vl_X9_259 rfl (Nat.le_of_ble_eq_true rfl) dX9_traps_1 ?_
  have hq := Option.some.inj hf
  subst hq
  exact a_iret rfl dX9_traps_4
set_option maxHeartbeats 4000000 in
set_option maxRecDepth 100000 in
theorem kX9_layRound_L9 (e : Nat) (c1 : Int32)   {r : Option Value} {τ : St} (q : (St)) : ∀ (n : Nat) (v2 : Int32) (σ : St), fX9_layRound_L9 c1 n v2 σ = some q → A e MX9_layRound 47 [(0, .ref 58), (1, .int c1)] [] q r τ → A e MX9_layRound 9 [(0, .ref 58), (1, .int c1), (2, .int v2)] [] σ r τ := by
  intro n
  induction n with
  | zero =>
    intro v2 σ  hf
    simp only [fX9_layRound_L9] at hf
    exact absurd hf (by simp)
  | succ n ih =>
    intro v2 σ  hf h2
    rw [fX9_layRound_L9] at hf
    refine a_iload_n dX9_layRound_9 rfl 2 rfl ?_
    refine a_iload_n dX9_layRound_10 rfl 1 rfl ?_
    by_cases hc2 : c1 ≤ v2
    · rw [if_pos hc2] at hf
      refine a_icmp_ge_t 47 dX9_layRound_11 (by decide) hc2 ?_
      have hq := Option.some.inj hf
      rw [← hq] at h2
      refine a_locs (loc' := [(0, .ref 58), (1, .int c1)]) [0, 1] rfl ?_
      exact h2
    · rw [if_neg hc2] at hf
      refine a_icmp_ge_f 47 dX9_layRound_11 (by decide) hc2 ?_
      refine a_aload_n dX9_layRound_14 rfl 0 rfl ?_
      refine a_get (.ref 70) ob_58 (by decide) fl_X9_44 rfl dX9_layRound_15 ?_
      refine a_sipush (256 : Int32) dX9_layRound_18 rfl ?_
      refine a_aload_n dX9_layRound_21 rfl 0 rfl ?_
      refine a_get (.int (σ.1 58 12)) ob_58 (by decide) fl_X9_144 rfl dX9_layRound_22 ?_
      refine a_imul dX9_layRound_25 ?_
      refine a_iload_n dX9_layRound_26 rfl 2 rfl ?_
      refine a_iadd dX9_layRound_27 ?_
      refine a_iload_n dX9_layRound_28 rfl 2 rfl ?_
      refine a_iload_n dX9_layRound_29 rfl 1 rfl ?_
      refine a_iconst (1 : Int32) dX9_layRound_30 rfl ?_
      refine a_isub dX9_layRound_31 ?_
      obtain ⟨x4, hx4, hf⟩ := bnd_elim hf
      have hA7 : A e MX9_layRound 40 [(0, .ref 58), (1, .int c1), (2, .int v2)] [.int x4, .int (((256 : Int32) * (σ.1 58 12)) + v2), .ref 70] σ r τ := by
        obtain ⟨hb5, hf⟩ := grd_elim hf
        refine a_iast ia_70 hb5 dX9_layRound_40 ?_
        obtain ⟨σ6, hσ6, hf⟩ := bnd_elim hf
        rw [← hσ6]
        refine a_iinc (v2 + (1 : Int32)) dX9_layRound_41 2 rfl rfl (by decide) (loc' := [(2, .int (v2 + (1 : Int32))), (0, .ref 58), (1, .int c1)]) rfl ?_
        refine a_goto 9 dX9_layRound_44 (by decide) ?_
        refine a_locs (loc' := [(0, .ref 58), (1, .int c1), (2, .int (v2 + (1 : Int32)))]) [1, 2, 0] rfl ?_
        exact ih (v2 + (1 : Int32)) σ6 hf h2
      clear hf
      by_cases hc3 : v2 = (c1 - (1 : Int32))
      · rw [if_pos hc3] at hx4
        refine a_icmp_ne_f 39 dX9_layRound_32 (by decide) hc3 ?_
        refine a_iconst (0 : Int32) dX9_layRound_35 rfl ?_
        refine a_goto 40 dX9_layRound_36 (by decide) ?_
        replace hx4 := hx4.symm; subst hx4
        exact hA7
      · rw [if_neg hc3] at hx4
        refine a_icmp_ne_t 39 dX9_layRound_32 (by decide) hc3 ?_
        refine a_iconst (-1 : Int32) dX9_layRound_39 rfl ?_
        replace hx4 := hx4.symm; subst hx4
        exact hA7
set_option maxHeartbeats 4000000 in
set_option maxRecDepth 100000 in
theorem kX9_layRound_L71 (e : Nat) (c1 : Int32) (c2 : Int32) (c3 : Int32) (σ : St)  {r : Option Value} {τ : St} (q : (Int32)) : ∀ (n : Nat) (v4 : Int32) (v5 : Int32), fX9_layRound_L71 c1 c2 c3 σ n v4 v5 = some q → A e MX9_layRound 195 [(0, .ref 58), (1, .int c1), (2, .int c2), (3, .int c3), (4, .int q)] [] σ r τ → A e MX9_layRound 71 [(0, .ref 58), (1, .int c1), (2, .int c2), (3, .int c3), (4, .int v4), (5, .int v5)] [] σ r τ := by
  intro n
  induction n with
  | zero =>
    intro v4 v5  hf
    simp only [fX9_layRound_L71] at hf
    exact absurd hf (by simp)
  | succ n ih =>
    intro v4 v5  hf h2
    rw [fX9_layRound_L71] at hf
    refine a_iload dX9_layRound_71 5 rfl ?_
    refine a_aload_n dX9_layRound_73 rfl 0 rfl ?_
    refine a_get (.int (σ.1 58 12)) ob_58 (by decide) fl_X9_144 rfl dX9_layRound_74 ?_
    by_cases hc12 : (σ.1 58 12) ≤ v5
    · rw [if_pos hc12] at hf
      refine a_icmp_ge_t 195 dX9_layRound_77 (by decide) hc12 ?_
      have hq := Option.some.inj hf
      rw [← hq] at h2
      refine a_locs (loc' := [(0, .ref 58), (1, .int c1), (2, .int c2), (3, .int c3), (4, .int v4)]) [0, 1, 2, 3, 4] rfl ?_
      exact h2
    · rw [if_neg hc12] at hf
      refine a_icmp_ge_f 195 dX9_layRound_77 (by decide) hc12 ?_
      refine a_aload_n dX9_layRound_80 rfl 0 rfl ?_
      refine a_get (.ref 61) ob_58 (by decide) fl_X9_16 rfl dX9_layRound_81 ?_
      refine a_iload_n dX9_layRound_84 rfl 2 rfl ?_
      obtain ⟨hb13, hf⟩ := grd_elim hf
      refine a_iald ia_61 hb13 dX9_layRound_85 ?_
      refine a_iload dX9_layRound_86 5 rfl ?_
      refine a_ishr dX9_layRound_88 ?_
      refine a_iconst (1 : Int32) dX9_layRound_89 rfl ?_
      refine a_iand dX9_layRound_90 ?_
      refine a_iconst (1 : Int32) dX9_layRound_91 rfl ?_
      obtain ⟨x15, hx15, hf⟩ := bnd_elim hf
      have hA26 : A e MX9_layRound 109 [(0, .ref 58), (1, .int c1), (2, .int c2), (3, .int c3), (4, .int v4), (5, .int v5)] [.int x15] σ r τ := by
        refine a_istore dX9_layRound_109 (by decide) (loc' := [(6, .int x15), (0, .ref 58), (1, .int c1), (2, .int c2), (3, .int c3), (4, .int v4), (5, .int v5)]) rfl ?_
        refine a_iload dX9_layRound_111 0 rfl ?_
        obtain ⟨q17, hr24, hf⟩ := obind hf
        have hA23 : A e MX9_layRound 139 [(0, .ref 58), (1, .int c1), (2, .int c2), (3, .int c3), (4, .int v4), (5, .int v5)] [.int q17] σ r τ := by
          refine a_istore dX9_layRound_139 (by decide) (loc' := [(7, .int q17), (0, .ref 58), (1, .int c1), (2, .int c2), (3, .int c3), (4, .int v4), (5, .int v5)]) rfl ?_
          refine a_iload dX9_layRound_141 0 rfl ?_
          refine a_iconst (-1 : Int32) dX9_layRound_143 rfl ?_
          by_cases hc18 : q17 = (-1 : Int32)
          · rw [if_pos hc18] at hf
            refine a_icmp_eq_t 185 dX9_layRound_144 (by decide) hc18 ?_
            refine a_iload dX9_layRound_185 5 rfl ?_
            refine a_istore dX9_layRound_187 (by decide) (loc' := [(4, .int v4), (7, .int q17), (0, .ref 58), (1, .int c1), (2, .int c2), (3, .int c3), (5, .int v5)]) rfl ?_
            refine a_iinc (v5 + (1 : Int32)) dX9_layRound_189 6 rfl rfl (by decide) (loc' := [(5, .int (v5 + (1 : Int32))), (4, .int v4), (7, .int q17), (0, .ref 58), (1, .int c1), (2, .int c2), (3, .int c3)]) rfl ?_
            refine a_goto 71 dX9_layRound_192 (by decide) ?_
            refine a_locs (loc' := [(0, .ref 58), (1, .int c1), (2, .int c2), (3, .int c3), (4, .int v4), (5, .int (v5 + (1 : Int32)))]) [3, 4, 5, 6, 1, 0] rfl ?_
            exact ih v4 (v5 + (1 : Int32)) hf h2
          · rw [if_neg hc18] at hf
            refine a_icmp_eq_f 185 dX9_layRound_144 (by decide) hc18 ?_
            refine a_iload dX9_layRound_147 0 rfl ?_
            refine a_aload_n dX9_layRound_149 rfl 1 rfl ?_
            refine a_get (.ref 62) ob_58 (by decide) fl_X9_19 rfl dX9_layRound_150 ?_
            refine a_bipush (8 : Int32) dX9_layRound_153 rfl ?_
            refine a_iload_n dX9_layRound_155 rfl 3 rfl ?_
            refine a_imul dX9_layRound_156 ?_
            refine a_iload dX9_layRound_157 6 rfl ?_
            refine a_iadd dX9_layRound_159 ?_
            obtain ⟨hb19, hf⟩ := grd_elim hf
            refine a_iald ia_62 hb19 dX9_layRound_160 ?_
            refine a_iadd dX9_layRound_161 ?_
            refine a_iload dX9_layRound_162 5 rfl ?_
            by_cases hc20 : (q17 + (σ.1 62 (((8 : Int32) * c2) + v5).toNatClampNeg)) ≤ v4
            · rw [if_pos hc20] at hf
              refine a_icmp_le_t 185 dX9_layRound_164 (by decide) hc20 ?_
              refine a_iload dX9_layRound_185 5 rfl ?_
              refine a_istore dX9_layRound_187 (by decide) (loc' := [(4, .int v4), (7, .int q17), (0, .ref 58), (1, .int c1), (2, .int c2), (3, .int c3), (5, .int v5)]) rfl ?_
              refine a_iinc (v5 + (1 : Int32)) dX9_layRound_189 6 rfl rfl (by decide) (loc' := [(5, .int (v5 + (1 : Int32))), (4, .int v4), (7, .int q17), (0, .ref 58), (1, .int c1), (2, .int c2), (3, .int c3)]) rfl ?_
              refine a_goto 71 dX9_layRound_192 (by decide) ?_
              refine a_locs (loc' := [(0, .ref 58), (1, .int c1), (2, .int c2), (3, .int c3), (4, .int v4), (5, .int (v5 + (1 : Int32)))]) [3, 4, 5, 6, 1, 0] rfl ?_
              exact ih v4 (v5 + (1 : Int32)) hf h2
            · rw [if_neg hc20] at hf
              refine a_icmp_le_f 185 dX9_layRound_164 (by decide) hc20 ?_
              refine a_iload dX9_layRound_167 0 rfl ?_
              refine a_aload_n dX9_layRound_169 rfl 1 rfl ?_
              refine a_get (.ref 62) ob_58 (by decide) fl_X9_19 rfl dX9_layRound_170 ?_
              refine a_bipush (8 : Int32) dX9_layRound_173 rfl ?_
              refine a_iload_n dX9_layRound_175 rfl 3 rfl ?_
              refine a_imul dX9_layRound_176 ?_
              refine a_iload dX9_layRound_177 6 rfl ?_
              refine a_iadd dX9_layRound_179 ?_
              obtain ⟨hb21, hf⟩ := grd_elim hf
              refine a_iald ia_62 hb21 dX9_layRound_180 ?_
              refine a_iadd dX9_layRound_181 ?_
              refine a_goto 187 dX9_layRound_182 (by decide) ?_
              obtain ⟨x22, hx22, hf⟩ := bnd_elim hf
              refine a_top (w := .int x22) (by rw [hx22]) ?_
              refine a_istore dX9_layRound_187 (by decide) (loc' := [(4, .int x22), (7, .int q17), (0, .ref 58), (1, .int c1), (2, .int c2), (3, .int c3), (5, .int v5)]) rfl ?_
              refine a_iinc (v5 + (1 : Int32)) dX9_layRound_189 6 rfl rfl (by decide) (loc' := [(5, .int (v5 + (1 : Int32))), (4, .int x22), (7, .int q17), (0, .ref 58), (1, .int c1), (2, .int c2), (3, .int c3)]) rfl ?_
              refine a_goto 71 dX9_layRound_192 (by decide) ?_
              refine a_locs (loc' := [(0, .ref 58), (1, .int c1), (2, .int c2), (3, .int c3), (4, .int x22), (5, .int (v5 + (1 : Int32)))]) [3, 4, 5, 6, 1, 0] rfl ?_
              exact ih x22 (v5 + (1 : Int32)) hf h2
        clear hf
        have hf := hr24
        clear hr24
        by_cases hc16 : x15 = 0
        · rw [if_pos hc16] at hf
          refine a_if_eq_t 138 dX9_layRound_113 (by decide) hc16 ?_
          refine a_iconst (-1 : Int32) dX9_layRound_138 rfl ?_
          have hq := Option.some.inj hf
          subst hq
          refine a_locs (loc' := [(0, .ref 58), (1, .int c1), (2, .int c2), (3, .int c3), (4, .int v4), (5, .int v5)]) [1, 2, 3, 4, 5, 6] rfl ?_
          exact hA23
        · rw [if_neg hc16] at hf
          refine a_if_eq_f 138 dX9_layRound_113 (by decide) hc16 ?_
          refine a_aload_n dX9_layRound_116 rfl 1 rfl ?_
          refine a_get (.ref 70) ob_58 (by decide) fl_X9_44 rfl dX9_layRound_117 ?_
          refine a_sipush (256 : Int32) dX9_layRound_120 rfl ?_
          refine a_iload_n dX9_layRound_123 rfl 3 rfl ?_
          refine a_iconst (1 : Int32) dX9_layRound_124 rfl ?_
          refine a_iadd dX9_layRound_125 ?_
          refine a_imul dX9_layRound_126 ?_
          refine a_iload_n dX9_layRound_127 rfl 4 rfl ?_
          refine a_iconst (1 : Int32) dX9_layRound_128 rfl ?_
          refine a_iload dX9_layRound_129 6 rfl ?_
          refine a_ishl dX9_layRound_131 ?_
          refine a_ior dX9_layRound_132 ?_
          refine a_iadd dX9_layRound_133 ?_
          obtain ⟨hb25, hf⟩ := grd_elim hf
          refine a_iald ia_70 hb25 dX9_layRound_134 ?_
          refine a_goto 139 dX9_layRound_135 (by decide) ?_
          have hq := Option.some.inj hf
          subst hq
          refine a_locs (loc' := [(0, .ref 58), (1, .int c1), (2, .int c2), (3, .int c3), (4, .int v4), (5, .int v5)]) [1, 2, 3, 4, 5, 6] rfl ?_
          exact hA23
      clear hf
      by_cases hc14 : (((σ.1 61 c2.toNatClampNeg) >>> (v5 &&& 31)) &&& (1 : Int32)) = (1 : Int32)
      · rw [if_pos hc14] at hx15
        refine a_icmp_ne_f 108 dX9_layRound_92 (by decide) hc14 ?_
        refine a_iload_n dX9_layRound_95 rfl 3 rfl ?_
        refine a_iload dX9_layRound_96 5 rfl ?_
        refine a_ishr dX9_layRound_98 ?_
        refine a_iconst (1 : Int32) dX9_layRound_99 rfl ?_
        refine a_iand dX9_layRound_100 ?_
        by_cases hc27 : ((c3 >>> (v5 &&& 31)) &&& (1 : Int32)) = 0
        · rw [if_pos hc27] at hx15
          refine a_if_ne_f 108 dX9_layRound_101 (by decide) hc27 ?_
          refine a_iconst (1 : Int32) dX9_layRound_104 rfl ?_
          refine a_goto 109 dX9_layRound_105 (by decide) ?_
          replace hx15 := hx15.symm; subst hx15
          exact hA26
        · rw [if_neg hc27] at hx15
          refine a_if_ne_t 108 dX9_layRound_101 (by decide) hc27 ?_
          refine a_iconst (0 : Int32) dX9_layRound_108 rfl ?_
          replace hx15 := hx15.symm; subst hx15
          exact hA26
      · rw [if_neg hc14] at hx15
        refine a_icmp_ne_t 108 dX9_layRound_92 (by decide) hc14 ?_
        refine a_iconst (0 : Int32) dX9_layRound_108 rfl ?_
        replace hx15 := hx15.symm; subst hx15
        exact hA26
set_option maxHeartbeats 4000000 in
set_option maxRecDepth 100000 in
theorem kX9_layRound_L60 (e : Nat) (c1 : Int32) (c2 : Int32)   {r : Option Value} {τ : St} (q : (St)) : ∀ (n : Nat) (v3 : Int32) (σ : St), fX9_layRound_L60 c1 c2 n v3 σ = some q → A e MX9_layRound 215 [(0, .ref 58), (1, .int c1), (2, .int c2)] [] q r τ → A e MX9_layRound 60 [(0, .ref 58), (1, .int c1), (2, .int c2), (3, .int v3)] [] σ r τ := by
  intro n
  induction n with
  | zero =>
    intro v3 σ  hf
    simp only [fX9_layRound_L60] at hf
    exact absurd hf (by simp)
  | succ n ih =>
    intro v3 σ  hf h2
    rw [fX9_layRound_L60] at hf
    refine a_iload_n dX9_layRound_60 rfl 3 rfl ?_
    refine a_iload_n dX9_layRound_61 rfl 1 rfl ?_
    by_cases hc11 : c1 ≤ v3
    · rw [if_pos hc11] at hf
      refine a_icmp_ge_t 215 dX9_layRound_62 (by decide) hc11 ?_
      have hq := Option.some.inj hf
      rw [← hq] at h2
      refine a_locs (loc' := [(0, .ref 58), (1, .int c1), (2, .int c2)]) [0, 1, 2] rfl ?_
      exact h2
    · rw [if_neg hc11] at hf
      refine a_icmp_ge_f 215 dX9_layRound_62 (by decide) hc11 ?_
      refine a_iconst (-1 : Int32) dX9_layRound_65 rfl ?_
      refine a_istore dX9_layRound_66 (by decide) (loc' := [(4, .int (-1 : Int32)), (0, .ref 58), (1, .int c1), (2, .int c2), (3, .int v3)]) rfl ?_
      refine a_iconst (0 : Int32) dX9_layRound_68 rfl ?_
      refine a_istore dX9_layRound_69 (by decide) (loc' := [(5, .int (0 : Int32)), (4, .int (-1 : Int32)), (0, .ref 58), (1, .int c1), (2, .int c2), (3, .int v3)]) rfl ?_
      obtain ⟨q28, hr31, hf⟩ := obind hf
      have hA32 : A e MX9_layRound 195 [(0, .ref 58), (1, .int c1), (2, .int c2), (3, .int v3), (4, .int q28)] [] σ r τ := by
        refine a_aload_n dX9_layRound_195 rfl 0 rfl ?_
        refine a_get (.ref 70) ob_58 (by decide) fl_X9_44 rfl dX9_layRound_196 ?_
        refine a_sipush (256 : Int32) dX9_layRound_199 rfl ?_
        refine a_iload_n dX9_layRound_202 rfl 2 rfl ?_
        refine a_imul dX9_layRound_203 ?_
        refine a_iload_n dX9_layRound_204 rfl 3 rfl ?_
        refine a_iadd dX9_layRound_205 ?_
        refine a_iload dX9_layRound_206 4 rfl ?_
        obtain ⟨hb29, hf⟩ := grd_elim hf
        refine a_iast ia_70 hb29 dX9_layRound_208 ?_
        obtain ⟨σ30, hσ30, hf⟩ := bnd_elim hf
        rw [← hσ30]
        refine a_iinc (v3 + (1 : Int32)) dX9_layRound_209 3 rfl rfl (by decide) (loc' := [(3, .int (v3 + (1 : Int32))), (0, .ref 58), (1, .int c1), (2, .int c2), (4, .int q28)]) rfl ?_
        refine a_goto 60 dX9_layRound_212 (by decide) ?_
        refine a_locs (loc' := [(0, .ref 58), (1, .int c1), (2, .int c2), (3, .int (v3 + (1 : Int32)))]) [1, 2, 3, 0] rfl ?_
        exact ih (v3 + (1 : Int32)) σ30 hf h2
      refine a_locs (loc' := [(0, .ref 58), (1, .int c1), (2, .int c2), (3, .int v3), (4, .int (-1 : Int32)), (5, .int (0 : Int32))]) [2, 3, 4, 5, 1, 0] rfl ?_
      exact kX9_layRound_L71 e c1 c2 v3 σ q28 fu (-1 : Int32) (0 : Int32) hr31 hA32
set_option maxHeartbeats 4000000 in
set_option maxRecDepth 100000 in
theorem kX9_layRound_L54 (e : Nat) (c1 : Int32)   {r : Option Value} {τ : St} (q : (St)) : ∀ (n : Nat) (v2 : Int32) (σ : St), fX9_layRound_L54 c1 n v2 σ = some q → A e MX9_layRound 221 [(0, .ref 58)] [] q r τ → A e MX9_layRound 54 [(0, .ref 58), (1, .int c1), (2, .int v2)] [] σ r τ := by
  intro n
  induction n with
  | zero =>
    intro v2 σ  hf
    simp only [fX9_layRound_L54] at hf
    exact absurd hf (by simp)
  | succ n ih =>
    intro v2 σ  hf h2
    rw [fX9_layRound_L54] at hf
    refine a_iload_n dX9_layRound_54 rfl 2 rfl ?_
    by_cases hc10 : v2 < 0
    · rw [if_pos hc10] at hf
      refine a_if_lt_t 221 dX9_layRound_55 (by decide) hc10 ?_
      have hq := Option.some.inj hf
      rw [← hq] at h2
      refine a_locs (loc' := [(0, .ref 58)]) [0] rfl ?_
      exact h2
    · rw [if_neg hc10] at hf
      refine a_if_lt_f 221 dX9_layRound_55 (by decide) hc10 ?_
      refine a_iconst (0 : Int32) dX9_layRound_58 rfl ?_
      refine a_istore_n dX9_layRound_59 rfl (by decide) (loc' := [(3, .int (0 : Int32)), (0, .ref 58), (1, .int c1), (2, .int v2)]) rfl ?_
      obtain ⟨q33, hr34, hf⟩ := obind hf
      have hA35 : A e MX9_layRound 215 [(0, .ref 58), (1, .int c1), (2, .int v2)] [] q33 r τ := by
        refine a_iinc (v2 + (-1 : Int32)) dX9_layRound_215 2 rfl rfl (by decide) (loc' := [(2, .int (v2 + (-1 : Int32))), (0, .ref 58), (1, .int c1)]) rfl ?_
        refine a_goto 54 dX9_layRound_218 (by decide) ?_
        refine a_locs (loc' := [(0, .ref 58), (1, .int c1), (2, .int (v2 + (-1 : Int32)))]) [1, 2, 0] rfl ?_
        exact ih (v2 + (-1 : Int32)) q33 hf h2
      refine a_locs (loc' := [(0, .ref 58), (1, .int c1), (2, .int v2), (3, .int (0 : Int32))]) [1, 2, 3, 0] rfl ?_
      exact kX9_layRound_L60 e c1 v2 q33 fu (0 : Int32) σ hr34 hA35
set_option maxHeartbeats 4000000 in
set_option maxRecDepth 100000 in
theorem kX9_layRound_L248 (e : Nat) (c2 : Int32) (c3 : Int32)   {r : Option Value} {τ : St} (q : (St)) : ∀ (n : Nat) (v4 : Int32) (σ : St), fX9_layRound_L248 c2 c3 n v4 σ = some q → A e MX9_layRound 383 [(0, .ref 58), (2, .int c2), (3, .int c3)] [] q r τ → A e MX9_layRound 248 [(0, .ref 58), (2, .int c2), (3, .int c3), (4, .int v4)] [] σ r τ := by
  intro n
  induction n with
  | zero =>
    intro v4 σ  hf
    simp only [fX9_layRound_L248] at hf
    exact absurd hf (by simp)
  | succ n ih =>
    intro v4 σ  hf h2
    rw [fX9_layRound_L248] at hf
    refine a_iload dX9_layRound_248 3 rfl ?_
    by_cases hc41 : v4 < 0
    · rw [if_pos hc41] at hf
      refine a_if_lt_t 383 dX9_layRound_250 (by decide) hc41 ?_
      have hq := Option.some.inj hf
      rw [← hq] at h2
      refine a_locs (loc' := [(0, .ref 58), (2, .int c2), (3, .int c3)]) [0, 1, 2] rfl ?_
      exact h2
    · rw [if_neg hc41] at hf
      refine a_if_lt_f 383 dX9_layRound_250 (by decide) hc41 ?_
      refine a_aload_n dX9_layRound_253 rfl 0 rfl ?_
      refine a_get (.ref 70) ob_58 (by decide) fl_X9_44 rfl dX9_layRound_254 ?_
      refine a_iconst (0 : Int32) dX9_layRound_257 rfl ?_
      obtain ⟨hb42, hf⟩ := grd_elim hf
      refine a_iald ia_70 hb42 dX9_layRound_258 ?_
      refine a_iconst (-1 : Int32) dX9_layRound_259 rfl ?_
      by_cases hc43 : (σ.1 70 (0 : Int32).toNatClampNeg) = (-1 : Int32)
      · rw [if_pos hc43] at hf
        refine a_icmp_eq_t 383 dX9_layRound_260 (by decide) hc43 ?_
        have hq := Option.some.inj hf
        rw [← hq] at h2
        refine a_locs (loc' := [(0, .ref 58), (2, .int c2), (3, .int c3)]) [0, 1, 2] rfl ?_
        exact h2
      · rw [if_neg hc43] at hf
        refine a_icmp_eq_f 383 dX9_layRound_260 (by decide) hc43 ?_
        refine a_aload_n dX9_layRound_263 rfl 0 rfl ?_
        refine a_get (.ref 61) ob_58 (by decide) fl_X9_16 rfl dX9_layRound_264 ?_
        refine a_iload_n dX9_layRound_267 rfl 2 rfl ?_
        obtain ⟨hb44, hf⟩ := grd_elim hf
        refine a_iald ia_61 hb44 dX9_layRound_268 ?_
        refine a_iload dX9_layRound_269 3 rfl ?_
        refine a_ishr dX9_layRound_271 ?_
        refine a_iconst (1 : Int32) dX9_layRound_272 rfl ?_
        refine a_iand dX9_layRound_273 ?_
        refine a_iconst (1 : Int32) dX9_layRound_274 rfl ?_
        obtain ⟨x46, hx46, hf⟩ := bnd_elim hf
        have hA63 : A e MX9_layRound 292 [(0, .ref 58), (2, .int c2), (3, .int c3), (4, .int v4)] [.int x46] σ r τ := by
          refine a_istore dX9_layRound_292 (by decide) (loc' := [(5, .int x46), (0, .ref 58), (2, .int c2), (3, .int c3), (4, .int v4)]) rfl ?_
          refine a_iload dX9_layRound_294 0 rfl ?_
          obtain ⟨q48, hr61, hf⟩ := obind hf
          have hA60 : A e MX9_layRound 322 [(0, .ref 58), (2, .int c2), (3, .int c3), (4, .int v4)] [.int q48] σ r τ := by
            refine a_istore dX9_layRound_322 (by decide) (loc' := [(6, .int q48), (0, .ref 58), (2, .int c2), (3, .int c3), (4, .int v4)]) rfl ?_
            refine a_aload_n dX9_layRound_324 rfl 1 rfl ?_
            refine a_get (.ref 71) ob_58 (by decide) fl_X9_47 rfl dX9_layRound_325 ?_
            refine a_iload_n dX9_layRound_328 rfl 3 rfl ?_
            refine a_iload dX9_layRound_329 0 rfl ?_
            refine a_iconst (-1 : Int32) dX9_layRound_331 rfl ?_
            obtain ⟨q50, hr54, hf⟩ := obind hf
            have hA53 : A e MX9_layRound 376 [(0, .ref 58), (2, .int c2), (3, .int c3), (4, .int v4)] [.int q50, .int c3, .ref 71] σ r τ := by
              obtain ⟨hb51, hf⟩ := grd_elim hf
              refine a_iast ia_71 hb51 dX9_layRound_376 ?_
              obtain ⟨σ52, hσ52, hf⟩ := bnd_elim hf
              rw [← hσ52]
              refine a_iinc (v4 + (-1 : Int32)) dX9_layRound_377 3 rfl rfl (by decide) (loc' := [(4, .int (v4 + (-1 : Int32))), (0, .ref 58), (2, .int c2), (3, .int c3)]) rfl ?_
              refine a_goto 248 dX9_layRound_380 (by decide) ?_
              refine a_locs (loc' := [(0, .ref 58), (2, .int c2), (3, .int c3), (4, .int (v4 + (-1 : Int32)))]) [1, 2, 3, 0] rfl ?_
              exact ih (v4 + (-1 : Int32)) σ52 hf h2
            clear hf
            have hf := hr54
            clear hr54
            by_cases hc49 : q48 = (-1 : Int32)
            · rw [if_pos hc49] at hf
              refine a_icmp_eq_t 370 dX9_layRound_332 (by decide) hc49 ?_
              refine a_aload_n dX9_layRound_370 rfl 1 rfl ?_
              refine a_get (.ref 71) ob_58 (by decide) fl_X9_47 rfl dX9_layRound_371 ?_
              refine a_iload_n dX9_layRound_374 rfl 3 rfl ?_
              obtain ⟨hb55, hf⟩ := grd_elim hf
              refine a_iald ia_71 hb55 dX9_layRound_375 ?_
              have hq := Option.some.inj hf
              subst hq
              refine a_locs (loc' := [(0, .ref 58), (2, .int c2), (3, .int c3), (4, .int v4)]) [1, 2, 3, 4] rfl ?_
              exact hA53
            · rw [if_neg hc49] at hf
              refine a_icmp_eq_f 370 dX9_layRound_332 (by decide) hc49 ?_
              refine a_iload dX9_layRound_335 0 rfl ?_
              refine a_aload_n dX9_layRound_337 rfl 1 rfl ?_
              refine a_get (.ref 62) ob_58 (by decide) fl_X9_19 rfl dX9_layRound_338 ?_
              refine a_bipush (8 : Int32) dX9_layRound_341 rfl ?_
              refine a_iload_n dX9_layRound_343 rfl 3 rfl ?_
              refine a_imul dX9_layRound_344 ?_
              refine a_iload dX9_layRound_345 4 rfl ?_
              refine a_iadd dX9_layRound_347 ?_
              obtain ⟨hb56, hf⟩ := grd_elim hf
              refine a_iald ia_62 hb56 dX9_layRound_348 ?_
              refine a_iadd dX9_layRound_349 ?_
              refine a_aload_n dX9_layRound_350 rfl 1 rfl ?_
              refine a_get (.ref 70) ob_58 (by decide) fl_X9_44 rfl dX9_layRound_351 ?_
              refine a_sipush (256 : Int32) dX9_layRound_354 rfl ?_
              refine a_iload_n dX9_layRound_357 rfl 3 rfl ?_
              refine a_imul dX9_layRound_358 ?_
              refine a_iload_n dX9_layRound_359 rfl 2 rfl ?_
              refine a_iadd dX9_layRound_360 ?_
              obtain ⟨hb57, hf⟩ := grd_elim hf
              refine a_iald ia_70 hb57 dX9_layRound_361 ?_
              by_cases hc58 : (q48 + (σ.1 62 (((8 : Int32) * c3) + v4).toNatClampNeg)) = (σ.1 70 (((256 : Int32) * c3) + c2).toNatClampNeg)
              · rw [if_pos hc58] at hf
                refine a_icmp_ne_f 370 dX9_layRound_362 (by decide) hc58 ?_
                refine a_iload dX9_layRound_365 4 rfl ?_
                refine a_goto 376 dX9_layRound_367 (by decide) ?_
                have hq := Option.some.inj hf
                subst hq
                refine a_locs (loc' := [(0, .ref 58), (2, .int c2), (3, .int c3), (4, .int v4)]) [1, 2, 3, 4] rfl ?_
                exact hA53
              · rw [if_neg hc58] at hf
                refine a_icmp_ne_t 370 dX9_layRound_362 (by decide) hc58 ?_
                refine a_aload_n dX9_layRound_370 rfl 1 rfl ?_
                refine a_get (.ref 71) ob_58 (by decide) fl_X9_47 rfl dX9_layRound_371 ?_
                refine a_iload_n dX9_layRound_374 rfl 3 rfl ?_
                obtain ⟨hb59, hf⟩ := grd_elim hf
                refine a_iald ia_71 hb59 dX9_layRound_375 ?_
                have hq := Option.some.inj hf
                subst hq
                refine a_locs (loc' := [(0, .ref 58), (2, .int c2), (3, .int c3), (4, .int v4)]) [1, 2, 3, 4] rfl ?_
                exact hA53
          clear hf
          have hf := hr61
          clear hr61
          by_cases hc47 : x46 = 0
          · rw [if_pos hc47] at hf
            refine a_if_eq_t 321 dX9_layRound_296 (by decide) hc47 ?_
            refine a_iconst (-1 : Int32) dX9_layRound_321 rfl ?_
            have hq := Option.some.inj hf
            subst hq
            refine a_locs (loc' := [(0, .ref 58), (2, .int c2), (3, .int c3), (4, .int v4)]) [1, 2, 3, 4] rfl ?_
            exact hA60
          · rw [if_neg hc47] at hf
            refine a_if_eq_f 321 dX9_layRound_296 (by decide) hc47 ?_
            refine a_aload_n dX9_layRound_299 rfl 1 rfl ?_
            refine a_get (.ref 70) ob_58 (by decide) fl_X9_44 rfl dX9_layRound_300 ?_
            refine a_sipush (256 : Int32) dX9_layRound_303 rfl ?_
            refine a_iload_n dX9_layRound_306 rfl 3 rfl ?_
            refine a_iconst (1 : Int32) dX9_layRound_307 rfl ?_
            refine a_iadd dX9_layRound_308 ?_
            refine a_imul dX9_layRound_309 ?_
            refine a_iload_n dX9_layRound_310 rfl 2 rfl ?_
            refine a_iconst (1 : Int32) dX9_layRound_311 rfl ?_
            refine a_iload dX9_layRound_312 4 rfl ?_
            refine a_ishl dX9_layRound_314 ?_
            refine a_ior dX9_layRound_315 ?_
            refine a_iadd dX9_layRound_316 ?_
            obtain ⟨hb62, hf⟩ := grd_elim hf
            refine a_iald ia_70 hb62 dX9_layRound_317 ?_
            refine a_goto 322 dX9_layRound_318 (by decide) ?_
            have hq := Option.some.inj hf
            subst hq
            refine a_locs (loc' := [(0, .ref 58), (2, .int c2), (3, .int c3), (4, .int v4)]) [1, 2, 3, 4] rfl ?_
            exact hA60
        clear hf
        by_cases hc45 : (((σ.1 61 c3.toNatClampNeg) >>> (v4 &&& 31)) &&& (1 : Int32)) = (1 : Int32)
        · rw [if_pos hc45] at hx46
          refine a_icmp_ne_f 291 dX9_layRound_275 (by decide) hc45 ?_
          refine a_iload_n dX9_layRound_278 rfl 1 rfl ?_
          refine a_iload dX9_layRound_279 3 rfl ?_
          refine a_ishr dX9_layRound_281 ?_
          refine a_iconst (1 : Int32) dX9_layRound_282 rfl ?_
          refine a_iand dX9_layRound_283 ?_
          by_cases hc64 : ((c2 >>> (v4 &&& 31)) &&& (1 : Int32)) = 0
          · rw [if_pos hc64] at hx46
            refine a_if_ne_f 291 dX9_layRound_284 (by decide) hc64 ?_
            refine a_iconst (1 : Int32) dX9_layRound_287 rfl ?_
            refine a_goto 292 dX9_layRound_288 (by decide) ?_
            replace hx46 := hx46.symm; subst hx46
            exact hA63
          · rw [if_neg hc64] at hx46
            refine a_if_ne_t 291 dX9_layRound_284 (by decide) hc64 ?_
            refine a_iconst (0 : Int32) dX9_layRound_291 rfl ?_
            replace hx46 := hx46.symm; subst hx46
            exact hA63
        · rw [if_neg hc45] at hx46
          refine a_icmp_ne_t 291 dX9_layRound_275 (by decide) hc45 ?_
          refine a_iconst (0 : Int32) dX9_layRound_291 rfl ?_
          replace hx46 := hx46.symm; subst hx46
          exact hA63
set_option maxHeartbeats 4000000 in
set_option maxRecDepth 100000 in
theorem kX9_layRound_L225 (e : Nat)    {r : Option Value} {τ : St} (q : (St)) : ∀ (n : Nat) (v2 : Int32) (v3 : Int32) (σ : St), fX9_layRound_L225 n v2 v3 σ = some q → A e MX9_layRound 414 [] [] q r τ → A e MX9_layRound 225 [(0, .ref 58), (2, .int v2), (3, .int v3)] [] σ r τ := by
  intro n
  induction n with
  | zero =>
    intro v2 v3 σ  hf
    simp only [fX9_layRound_L225] at hf
    exact absurd hf (by simp)
  | succ n ih =>
    intro v2 v3 σ  hf h2
    rw [fX9_layRound_L225] at hf
    refine a_iload_n dX9_layRound_225 rfl 2 rfl ?_
    refine a_aload_n dX9_layRound_226 rfl 0 rfl ?_
    refine a_get (.int (σ.1 58 12)) ob_58 (by decide) fl_X9_144 rfl dX9_layRound_227 ?_
    by_cases hc37 : (σ.1 58 12) ≤ v3
    · rw [if_pos hc37] at hf
      refine a_icmp_ge_t 414 dX9_layRound_230 (by decide) hc37 ?_
      have hq := Option.some.inj hf
      rw [← hq] at h2
      refine a_locs (loc' := []) [] rfl ?_
      exact h2
    · rw [if_neg hc37] at hf
      refine a_icmp_ge_f 414 dX9_layRound_230 (by decide) hc37 ?_
      refine a_aload_n dX9_layRound_233 rfl 0 rfl ?_
      refine a_get (.ref 71) ob_58 (by decide) fl_X9_47 rfl dX9_layRound_234 ?_
      refine a_iload_n dX9_layRound_237 rfl 2 rfl ?_
      refine a_iconst (-1 : Int32) dX9_layRound_238 rfl ?_
      obtain ⟨hb38, hf⟩ := grd_elim hf
      refine a_iast ia_71 hb38 dX9_layRound_239 ?_
      obtain ⟨σ39, hσ39, hf⟩ := bnd_elim hf
      rw [← hσ39]
      refine a_aload_n dX9_layRound_240 rfl 0 rfl ?_
      refine a_get (.int (σ39.1 58 12)) ob_58 (by decide) fl_X9_144 rfl dX9_layRound_241 ?_
      refine a_iconst (1 : Int32) dX9_layRound_244 rfl ?_
      refine a_isub dX9_layRound_245 ?_
      obtain ⟨x40, hx40, hf⟩ := bnd_elim hf
      refine a_top (w := .int x40) (by rw [hx40]) ?_
      refine a_istore dX9_layRound_246 (by decide) (loc' := [(4, .int x40), (0, .ref 58), (2, .int v2), (3, .int v3)]) rfl ?_
      obtain ⟨q65, hr72, hf⟩ := obind hf
      have hA73 : A e MX9_layRound 383 [(0, .ref 58), (2, .int v2), (3, .int v3)] [] q65 r τ := by
        refine a_iload_n dX9_layRound_383 rfl 1 rfl ?_
        refine a_aload_n dX9_layRound_384 rfl 0 rfl ?_
        refine a_get (.ref 71) ob_58 (by decide) fl_X9_47 rfl dX9_layRound_385 ?_
        refine a_iload_n dX9_layRound_388 rfl 2 rfl ?_
        obtain ⟨hb66, hf⟩ := grd_elim hf
        refine a_iald ia_71 hb66 dX9_layRound_389 ?_
        refine a_iconst (-1 : Int32) dX9_layRound_390 rfl ?_
        obtain ⟨q68, hr70, hf⟩ := obind hf
        have hA69 : A e MX9_layRound 406 [(0, .ref 58), (3, .int v3)] [.int q68, .int v2] q65 r τ := by
          refine a_ior dX9_layRound_406 ?_
          refine a_istore_n dX9_layRound_407 rfl (by decide) (loc' := [(2, .int (v2 ||| q68)), (0, .ref 58), (3, .int v3)]) rfl ?_
          refine a_iinc (v3 + (1 : Int32)) dX9_layRound_408 2 rfl rfl (by decide) (loc' := [(3, .int (v3 + (1 : Int32))), (2, .int (v2 ||| q68)), (0, .ref 58)]) rfl ?_
          refine a_goto 225 dX9_layRound_411 (by decide) ?_
          refine a_locs (loc' := [(0, .ref 58), (2, .int (v2 ||| q68)), (3, .int (v3 + (1 : Int32)))]) [2, 1, 0] rfl ?_
          exact ih (v2 ||| q68) (v3 + (1 : Int32)) q65 hf h2
        clear hf
        have hf := hr70
        clear hr70
        by_cases hc67 : (q65.1 71 v3.toNatClampNeg) = (-1 : Int32)
        · rw [if_pos hc67] at hf
          refine a_icmp_ne_f 398 dX9_layRound_391 (by decide) hc67 ?_
          refine a_iconst (0 : Int32) dX9_layRound_394 rfl ?_
          refine a_goto 406 dX9_layRound_395 (by decide) ?_
          have hq := Option.some.inj hf
          subst hq
          refine a_locs (loc' := [(0, .ref 58), (3, .int v3)]) [0, 2] rfl ?_
          exact hA69
        · rw [if_neg hc67] at hf
          refine a_icmp_ne_t 398 dX9_layRound_391 (by decide) hc67 ?_
          refine a_iconst (1 : Int32) dX9_layRound_398 rfl ?_
          refine a_aload_n dX9_layRound_399 rfl 0 rfl ?_
          refine a_get (.ref 71) ob_58 (by decide) fl_X9_47 rfl dX9_layRound_400 ?_
          refine a_iload_n dX9_layRound_403 rfl 2 rfl ?_
          obtain ⟨hb71, hf⟩ := grd_elim hf
          refine a_iald ia_71 hb71 dX9_layRound_404 ?_
          refine a_ishl dX9_layRound_405 ?_
          have hq := Option.some.inj hf
          subst hq
          refine a_locs (loc' := [(0, .ref 58), (3, .int v3)]) [0, 2] rfl ?_
          exact hA69
      refine a_locs (loc' := [(0, .ref 58), (2, .int v2), (3, .int v3), (4, .int x40)]) [1, 2, 3, 0] rfl ?_
      exact kX9_layRound_L248 e v2 v3 q65 fu x40 σ39 hr72 hA73
set_option maxHeartbeats 4000000 in
set_option maxRecDepth 100000 in
theorem kX9_layRound (e : Nat)  (σ : St)  (q : St) (hf : fX9_layRound σ = some q) : Sp e MX9_layRound [.ref 58] σ (none) q := by
  refine sp_of rfl (Nat.le_of_ble_eq_true rfl) (loc := [(0, .ref 58)]) rfl ?_
  unfold fX9_layRound at hf
  refine a_iconst (1 : Int32) dX9_layRound_0 rfl ?_
  refine a_aload_n dX9_layRound_1 rfl 0 rfl ?_
  refine a_get (.int (σ.1 58 12)) ob_58 (by decide) fl_X9_144 rfl dX9_layRound_2 ?_
  refine a_ishl dX9_layRound_5 ?_
  obtain ⟨x1, hx1, hf⟩ := bnd_elim hf
  refine a_top (w := .int x1) (by rw [hx1]) ?_
  refine a_istore_n dX9_layRound_6 rfl (by decide) (loc' := [(1, .int x1), (0, .ref 58)]) rfl ?_
  refine a_iconst (0 : Int32) dX9_layRound_7 rfl ?_
  refine a_istore_n dX9_layRound_8 rfl (by decide) (loc' := [(2, .int (0 : Int32)), (1, .int x1), (0, .ref 58)]) rfl ?_
  obtain ⟨q8, hr79, hf⟩ := obind hf
  have hA80 : A e MX9_layRound 47 [(0, .ref 58), (1, .int x1)] [] q8 none q := by
    refine a_aload_n dX9_layRound_47 rfl 0 rfl ?_
    refine a_get (.int (q8.1 58 12)) ob_58 (by decide) fl_X9_144 rfl dX9_layRound_48 ?_
    refine a_iconst (1 : Int32) dX9_layRound_51 rfl ?_
    refine a_isub dX9_layRound_52 ?_
    obtain ⟨x9, hx9, hf⟩ := bnd_elim hf
    refine a_top (w := .int x9) (by rw [hx9]) ?_
    refine a_istore_n dX9_layRound_53 rfl (by decide) (loc' := [(2, .int x9), (0, .ref 58), (1, .int x1)]) rfl ?_
    obtain ⟨q36, hr77, hf⟩ := obind hf
    have hA78 : A e MX9_layRound 221 [(0, .ref 58)] [] q36 none q := by
      refine a_iconst (0 : Int32) dX9_layRound_221 rfl ?_
      refine a_istore_n dX9_layRound_222 rfl (by decide) (loc' := [(2, .int (0 : Int32)), (0, .ref 58)]) rfl ?_
      refine a_iconst (0 : Int32) dX9_layRound_223 rfl ?_
      refine a_istore_n dX9_layRound_224 rfl (by decide) (loc' := [(3, .int (0 : Int32)), (2, .int (0 : Int32)), (0, .ref 58)]) rfl ?_
      obtain ⟨q74, hr75, hf⟩ := obind hf
      have hA76 : A e MX9_layRound 414 [] [] q74 none q := by
        have hq := Option.some.inj hf
        subst hq
        exact a_vret rfl dX9_layRound_414
      refine a_locs (loc' := [(0, .ref 58), (2, .int (0 : Int32)), (3, .int (0 : Int32))]) [2, 1, 0] rfl ?_
      exact kX9_layRound_L225 e q74 fu (0 : Int32) (0 : Int32) q36 hr75 hA76
    refine a_locs (loc' := [(0, .ref 58), (1, .int x1), (2, .int x9)]) [1, 2, 0] rfl ?_
    exact kX9_layRound_L54 e x1 q36 fu x9 q8 hr77 hA78
  refine a_locs (loc' := [(0, .ref 58), (1, .int x1), (2, .int (0 : Int32))]) [2, 1, 0] rfl ?_
  exact kX9_layRound_L9 e x1 q8 fu (0 : Int32) σ hr79 hA80
set_option maxHeartbeats 4000000 in
set_option maxRecDepth 100000 in
theorem kX9_tellRound (e : Nat) (p1 : Int32) (σ : St)  (q : Int32 × St) (hf : fX9_tellRound p1 σ = some q) : Sp (e + 1) MX9_tellRound [.ref 58, .int p1] σ (some (.int q.1)) q.2 := by
  refine sp_of rfl (Nat.le_of_ble_eq_true rfl) (loc := [(0, .ref 58), (1, .int p1)]) rfl ?_
  unfold fX9_tellRound at hf
  refine a_aload_n dX9_tellRound_0 rfl 0 rfl ?_
  obtain ⟨q1, hq1, hf⟩ := obind hf
  refine a_callV (as := []) (stk := []) (q := none) (σ1 := q1) (kX9_layRound e σ _ hq1) ob_58 vl_X9_262 rfl (Nat.le_of_ble_eq_true rfl) dX9_tellRound_1 ?_
  refine a_aload_n dX9_tellRound_4 rfl 0 rfl ?_
  refine a_get (.ref 70) ob_58 (by decide) fl_X9_44 rfl dX9_tellRound_5 ?_
  refine a_iconst (0 : Int32) dX9_tellRound_8 rfl ?_
  obtain ⟨hb2, hf⟩ := grd_elim hf
  refine a_iald ia_70 hb2 dX9_tellRound_9 ?_
  obtain ⟨x3, hx3, hf⟩ := bnd_elim hf
  refine a_top (w := .int x3) (by rw [hx3]) ?_
  refine a_istore_n dX9_tellRound_10 rfl (by decide) (loc' := [(2, .int x3), (0, .ref 58), (1, .int p1)]) rfl ?_
  refine a_iload_n dX9_tellRound_11 rfl 2 rfl ?_
  refine a_iconst (2 : Int32) dX9_tellRound_12 rfl ?_
  by_cases hc4 : (2 : Int32) ≤ p1
  · rw [if_pos hc4] at hf
    refine a_icmp_ge_t 36 dX9_tellRound_13 (by decide) hc4 ?_
    refine a_iload_n dX9_tellRound_36 rfl 2 rfl ?_
    refine a_bipush (10 : Int32) dX9_tellRound_37 rfl ?_
    refine a_isub dX9_tellRound_39 ?_
    refine a_aload_n dX9_tellRound_40 rfl 1 rfl ?_
    refine a_get (.int (q1.1 58 12)) ob_58 (by decide) fl_X9_144 rfl dX9_tellRound_41 ?_
    by_cases hc5 : (q1.1 58 12) ≤ (p1 - (10 : Int32))
    · rw [if_pos hc5] at hf
      refine a_icmp_ge_t 59 dX9_tellRound_44 (by decide) hc5 ?_
      refine a_iconst (-1 : Int32) dX9_tellRound_59 rfl ?_
      have hq := Option.some.inj hf
      subst hq
      exact a_iret rfl dX9_tellRound_60
    · rw [if_neg hc5] at hf
      refine a_icmp_ge_f 59 dX9_tellRound_44 (by decide) hc5 ?_
      refine a_aload_n dX9_tellRound_47 rfl 1 rfl ?_
      refine a_get (.ref 71) ob_58 (by decide) fl_X9_47 rfl dX9_tellRound_48 ?_
      refine a_iload_n dX9_tellRound_51 rfl 2 rfl ?_
      refine a_bipush (10 : Int32) dX9_tellRound_52 rfl ?_
      refine a_isub dX9_tellRound_54 ?_
      obtain ⟨hb6, hf⟩ := grd_elim hf
      refine a_iald ia_71 hb6 dX9_tellRound_55 ?_
      refine a_goto 60 dX9_tellRound_56 (by decide) ?_
      have hq := Option.some.inj hf
      subst hq
      exact a_iret rfl dX9_tellRound_60
  · rw [if_neg hc4] at hf
    refine a_icmp_ge_f 36 dX9_tellRound_13 (by decide) hc4 ?_
    refine a_iload_n dX9_tellRound_16 rfl 2 rfl ?_
    refine a_iconst (1 : Int32) dX9_tellRound_17 rfl ?_
    by_cases hc7 : p1 = (1 : Int32)
    · rw [if_pos hc7] at hf
      refine a_icmp_ne_f 25 dX9_tellRound_18 (by decide) hc7 ?_
      refine a_iload_n dX9_tellRound_21 rfl 0 rfl ?_
      refine a_goto 35 dX9_tellRound_22 (by decide) ?_
      have hq := Option.some.inj hf
      subst hq
      exact a_iret rfl dX9_tellRound_35
    · rw [if_neg hc7] at hf
      refine a_icmp_ne_t 25 dX9_tellRound_18 (by decide) hc7 ?_
      refine a_iload_n dX9_tellRound_25 rfl 0 rfl ?_
      refine a_iconst (-1 : Int32) dX9_tellRound_26 rfl ?_
      by_cases hc8 : x3 = (-1 : Int32)
      · rw [if_pos hc8] at hf
        refine a_icmp_ne_f 34 dX9_tellRound_27 (by decide) hc8 ?_
        refine a_iconst (0 : Int32) dX9_tellRound_30 rfl ?_
        refine a_goto 35 dX9_tellRound_31 (by decide) ?_
        have hq := Option.some.inj hf
        subst hq
        exact a_iret rfl dX9_tellRound_35
      · rw [if_neg hc8] at hf
        refine a_icmp_ne_t 34 dX9_tellRound_27 (by decide) hc8 ?_
        refine a_iconst (1 : Int32) dX9_tellRound_34 rfl ?_
        have hq := Option.some.inj hf
        subst hq
        exact a_iret rfl dX9_tellRound_35
set_option maxHeartbeats 4000000 in
set_option maxRecDepth 100000 in
theorem kX9_round (e : Nat) (p1 : Int32) (σ : St)  (q : Int32 × St) (hf : fX9_round p1 σ = some q) : Sp (e + 2) MX9_round [.ref 58, .int p1] σ (some (.int q.1)) q.2 := by
  refine sp_of rfl (Nat.le_of_ble_eq_true rfl) (loc := [(0, .ref 58), (1, .int p1)]) rfl ?_
  unfold fX9_round at hf
  refine a_iload_n dX9_round_0 rfl 1 rfl ?_
  refine a_i2l dX9_round_1 ?_
  refine a_lconst (0 : Int64) dX9_round_2 rfl ?_
  refine a_lconst (1 : Int64) dX9_round_3 rfl ?_
  refine a_callS (as := [.long p1.toInt64, .long (0 : Int64), .long (1 : Int64)]) (stk := []) (q := some (.int (fX9_in p1.toInt64 (0 : Int64) (1 : Int64)))) (σ1 := σ) (kX9_in (e + 1) p1.toInt64 (0 : Int64) (1 : Int64) σ) sl_X9_108 rfl (Nat.le_of_ble_eq_true rfl) dX9_round_4 ?_
  by_cases hc1 : (fX9_in p1.toInt64 (0 : Int64) (1 : Int64)) = 0
  · rw [if_pos hc1] at hf
    refine a_if_ne_f 24 dX9_round_7 (by decide) hc1 ?_
    refine a_iload_n dX9_round_10 rfl 1 rfl ?_
    refine a_i2l dX9_round_11 ?_
    refine a_ldc2 rfl kc_X9_265 dX9_round_12 ?_
    refine a_ldc2 rfl kc_X9_267 dX9_round_15 ?_
    refine a_callS (as := [.long p1.toInt64, .long (10 : Int64), .long (17 : Int64)]) (stk := []) (q := some (.int (fX9_in p1.toInt64 (10 : Int64) (17 : Int64)))) (σ1 := σ) (kX9_in (e + 1) p1.toInt64 (10 : Int64) (17 : Int64) σ) sl_X9_108 rfl (Nat.le_of_ble_eq_true rfl) dX9_round_18 ?_
    by_cases hc2 : (fX9_in p1.toInt64 (10 : Int64) (17 : Int64)) = 0
    · rw [if_pos hc2] at hf
      refine a_if_eq_t 32 dX9_round_21 (by decide) hc2 ?_
      refine a_bipush (-102 : Int32) dX9_round_32 rfl ?_
      have hq := Option.some.inj hf
      subst hq
      exact a_iret rfl dX9_round_34
    · rw [if_neg hc2] at hf
      refine a_if_eq_f 32 dX9_round_21 (by decide) hc2 ?_
      refine a_aload_n dX9_round_24 rfl 0 rfl ?_
      refine a_iload_n dX9_round_25 rfl 1 rfl ?_
      obtain ⟨q3, hq3, hf⟩ := obind hf
      refine a_callV (as := [.int p1]) (stk := []) (q := some (.int q3.1)) (σ1 := q3.2) (kX9_tellRound e p1 σ _ hq3) ob_58 vl_X9_269 rfl (Nat.le_of_ble_eq_true rfl) dX9_round_26 ?_
      refine a_goto 34 dX9_round_29 (by decide) ?_
      have hq := Option.some.inj hf
      subst hq
      exact a_iret rfl dX9_round_34
  · rw [if_neg hc1] at hf
    refine a_if_ne_t 24 dX9_round_7 (by decide) hc1 ?_
    refine a_aload_n dX9_round_24 rfl 0 rfl ?_
    refine a_iload_n dX9_round_25 rfl 1 rfl ?_
    obtain ⟨q4, hq4, hf⟩ := obind hf
    refine a_callV (as := [.int p1]) (stk := []) (q := some (.int q4.1)) (σ1 := q4.2) (kX9_tellRound e p1 σ _ hq4) ob_58 vl_X9_269 rfl (Nat.le_of_ble_eq_true rfl) dX9_round_26 ?_
    refine a_goto 34 dX9_round_29 (by decide) ?_
    have hq := Option.some.inj hf
    subst hq
    exact a_iret rfl dX9_round_34
set_option maxHeartbeats 4000000 in
set_option maxRecDepth 100000 in
theorem kX9_layFar_L2 (e : Nat) (c1 : Int32)   {r : Option Value} {τ : St} (q : (St)) : ∀ (n : Nat) (v2 : Int32) (σ : St), fX9_layFar_L2 c1 n v2 σ = some q → A e MX9_layFar 31 [(0, .ref 58)] [] q r τ → A e MX9_layFar 2 [(0, .ref 58), (1, .int c1), (2, .int v2)] [] σ r τ := by
  intro n
  induction n with
  | zero =>
    intro v2 σ  hf
    simp only [fX9_layFar_L2] at hf
    exact absurd hf (by simp)
  | succ n ih =>
    intro v2 σ  hf h2
    rw [fX9_layFar_L2] at hf
    refine a_iload_n dX9_layFar_2 rfl 2 rfl ?_
    refine a_bipush (8 : Int32) dX9_layFar_3 rfl ?_
    by_cases hc1 : (8 : Int32) ≤ v2
    · rw [if_pos hc1] at hf
      refine a_icmp_ge_t 31 dX9_layFar_5 (by decide) hc1 ?_
      have hq := Option.some.inj hf
      rw [← hq] at h2
      refine a_locs (loc' := [(0, .ref 58)]) [0] rfl ?_
      exact h2
    · rw [if_neg hc1] at hf
      refine a_icmp_ge_f 31 dX9_layFar_5 (by decide) hc1 ?_
      refine a_aload_n dX9_layFar_8 rfl 0 rfl ?_
      refine a_get (.ref 72) ob_58 (by decide) fl_X9_50 rfl dX9_layFar_9 ?_
      refine a_iload_n dX9_layFar_12 rfl 2 rfl ?_
      refine a_iload_n dX9_layFar_13 rfl 2 rfl ?_
      refine a_iload_n dX9_layFar_14 rfl 1 rfl ?_
      obtain ⟨x3, hx3, hf⟩ := bnd_elim hf
      have hA6 : A e MX9_layFar 24 [(0, .ref 58), (1, .int c1), (2, .int v2)] [.int x3, .int v2, .ref 72] σ r τ := by
        obtain ⟨hb4, hf⟩ := grd_elim hf
        refine a_iast ia_72 hb4 dX9_layFar_24 ?_
        obtain ⟨σ5, hσ5, hf⟩ := bnd_elim hf
        rw [← hσ5]
        refine a_iinc (v2 + (1 : Int32)) dX9_layFar_25 2 rfl rfl (by decide) (loc' := [(2, .int (v2 + (1 : Int32))), (0, .ref 58), (1, .int c1)]) rfl ?_
        refine a_goto 2 dX9_layFar_28 (by decide) ?_
        refine a_locs (loc' := [(0, .ref 58), (1, .int c1), (2, .int (v2 + (1 : Int32)))]) [1, 2, 0] rfl ?_
        exact ih (v2 + (1 : Int32)) σ5 hf h2
      clear hf
      by_cases hc2 : v2 = c1
      · rw [if_pos hc2] at hx3
        refine a_icmp_ne_f 22 dX9_layFar_15 (by decide) hc2 ?_
        refine a_iconst (0 : Int32) dX9_layFar_18 rfl ?_
        refine a_goto 24 dX9_layFar_19 (by decide) ?_
        replace hx3 := hx3.symm; subst hx3
        exact hA6
      · rw [if_neg hc2] at hx3
        refine a_icmp_ne_t 22 dX9_layFar_15 (by decide) hc2 ?_
        refine a_bipush (100 : Int32) dX9_layFar_22 rfl ?_
        replace hx3 := hx3.symm; subst hx3
        exact hA6
set_option maxHeartbeats 4000000 in
set_option maxRecDepth 100000 in
theorem kX9_layFar_L52 (e : Nat) (c2 : Int32) (c3 : Int32)   {r : Option Value} {τ : St} (q : (St)) : ∀ (n : Nat) (v4 : Int32) (σ : St), fX9_layFar_L52 c2 c3 n v4 σ = some q → A e MX9_layFar 136 [(0, .ref 58), (2, .int c2), (3, .int c3)] [] q r τ → A e MX9_layFar 52 [(0, .ref 58), (2, .int c2), (3, .int c3), (4, .int v4)] [] σ r τ := by
  intro n
  induction n with
  | zero =>
    intro v4 σ  hf
    simp only [fX9_layFar_L52] at hf
    exact absurd hf (by simp)
  | succ n ih =>
    intro v4 σ  hf h2
    rw [fX9_layFar_L52] at hf
    refine a_iload dX9_layFar_52 3 rfl ?_
    refine a_aload_n dX9_layFar_54 rfl 0 rfl ?_
    refine a_get (.int (σ.1 58 12)) ob_58 (by decide) fl_X9_144 rfl dX9_layFar_55 ?_
    by_cases hc10 : (σ.1 58 12) ≤ v4
    · rw [if_pos hc10] at hf
      refine a_icmp_ge_t 136 dX9_layFar_58 (by decide) hc10 ?_
      have hq := Option.some.inj hf
      rw [← hq] at h2
      refine a_locs (loc' := [(0, .ref 58), (2, .int c2), (3, .int c3)]) [0, 1, 2] rfl ?_
      exact h2
    · rw [if_neg hc10] at hf
      refine a_icmp_ge_f 136 dX9_layFar_58 (by decide) hc10 ?_
      refine a_aload_n dX9_layFar_61 rfl 0 rfl ?_
      refine a_get (.ref 61) ob_58 (by decide) fl_X9_16 rfl dX9_layFar_62 ?_
      refine a_iload_n dX9_layFar_65 rfl 2 rfl ?_
      obtain ⟨hb11, hf⟩ := grd_elim hf
      refine a_iald ia_61 hb11 dX9_layFar_66 ?_
      refine a_iload dX9_layFar_67 3 rfl ?_
      refine a_ishr dX9_layFar_69 ?_
      refine a_iconst (1 : Int32) dX9_layFar_70 rfl ?_
      refine a_iand dX9_layFar_71 ?_
      refine a_iconst (1 : Int32) dX9_layFar_72 rfl ?_
      obtain ⟨q13, hr23, hf⟩ := obind hf
      have hA22 : A e MX9_layFar 99 [(0, .ref 58), (2, .int c2), (3, .int c3), (4, .int v4)] [.int q13] σ r τ := by
        refine a_istore dX9_layFar_99 (by decide) (loc' := [(5, .int q13), (0, .ref 58), (2, .int c2), (3, .int c3), (4, .int v4)]) rfl ?_
        refine a_aload_n dX9_layFar_101 rfl 1 rfl ?_
        refine a_get (.ref 72) ob_58 (by decide) fl_X9_50 rfl dX9_layFar_102 ?_
        refine a_iload_n dX9_layFar_105 rfl 3 rfl ?_
        refine a_iload dX9_layFar_106 0 rfl ?_
        obtain ⟨q15, hr19, hf⟩ := obind hf
        have hA18 : A e MX9_layFar 129 [(0, .ref 58), (2, .int c2), (3, .int c3), (4, .int v4)] [.int q15, .int c3, .ref 72] σ r τ := by
          obtain ⟨hb16, hf⟩ := grd_elim hf
          refine a_iast ia_72 hb16 dX9_layFar_129 ?_
          obtain ⟨σ17, hσ17, hf⟩ := bnd_elim hf
          rw [← hσ17]
          refine a_iinc (v4 + (1 : Int32)) dX9_layFar_130 3 rfl rfl (by decide) (loc' := [(4, .int (v4 + (1 : Int32))), (0, .ref 58), (2, .int c2), (3, .int c3)]) rfl ?_
          refine a_goto 52 dX9_layFar_133 (by decide) ?_
          refine a_locs (loc' := [(0, .ref 58), (2, .int c2), (3, .int c3), (4, .int (v4 + (1 : Int32)))]) [1, 2, 3, 0] rfl ?_
          exact ih (v4 + (1 : Int32)) σ17 hf h2
        clear hf
        have hf := hr19
        clear hr19
        by_cases hc14 : q13 = 0
        · rw [if_pos hc14] at hf
          refine a_if_eq_t 123 dX9_layFar_108 (by decide) hc14 ?_
          refine a_aload_n dX9_layFar_123 rfl 1 rfl ?_
          refine a_get (.ref 72) ob_58 (by decide) fl_X9_50 rfl dX9_layFar_124 ?_
          refine a_iload_n dX9_layFar_127 rfl 3 rfl ?_
          obtain ⟨hb20, hf⟩ := grd_elim hf
          refine a_iald ia_72 hb20 dX9_layFar_128 ?_
          have hq := Option.some.inj hf
          subst hq
          refine a_locs (loc' := [(0, .ref 58), (2, .int c2), (3, .int c3), (4, .int v4)]) [1, 2, 3, 4] rfl ?_
          exact hA18
        · rw [if_neg hc14] at hf
          refine a_if_eq_f 123 dX9_layFar_108 (by decide) hc14 ?_
          refine a_aload_n dX9_layFar_111 rfl 1 rfl ?_
          refine a_get (.ref 72) ob_58 (by decide) fl_X9_50 rfl dX9_layFar_112 ?_
          refine a_iload dX9_layFar_115 4 rfl ?_
          obtain ⟨hb21, hf⟩ := grd_elim hf
          refine a_iald ia_72 hb21 dX9_layFar_117 ?_
          refine a_iconst (1 : Int32) dX9_layFar_118 rfl ?_
          refine a_iadd dX9_layFar_119 ?_
          refine a_goto 129 dX9_layFar_120 (by decide) ?_
          have hq := Option.some.inj hf
          subst hq
          refine a_locs (loc' := [(0, .ref 58), (2, .int c2), (3, .int c3), (4, .int v4)]) [1, 2, 3, 4] rfl ?_
          exact hA18
      clear hf
      have hf := hr23
      clear hr23
      by_cases hc12 : (((σ.1 61 c3.toNatClampNeg) >>> (v4 &&& 31)) &&& (1 : Int32)) = (1 : Int32)
      · rw [if_pos hc12] at hf
        refine a_icmp_ne_f 98 dX9_layFar_73 (by decide) hc12 ?_
        refine a_aload_n dX9_layFar_76 rfl 0 rfl ?_
        refine a_get (.ref 72) ob_58 (by decide) fl_X9_50 rfl dX9_layFar_77 ?_
        refine a_iload dX9_layFar_80 3 rfl ?_
        obtain ⟨hb24, hf⟩ := grd_elim hf
        refine a_iald ia_72 hb24 dX9_layFar_82 ?_
        refine a_iconst (1 : Int32) dX9_layFar_83 rfl ?_
        refine a_iadd dX9_layFar_84 ?_
        refine a_aload_n dX9_layFar_85 rfl 0 rfl ?_
        refine a_get (.ref 72) ob_58 (by decide) fl_X9_50 rfl dX9_layFar_86 ?_
        refine a_iload_n dX9_layFar_89 rfl 2 rfl ?_
        obtain ⟨hb25, hf⟩ := grd_elim hf
        refine a_iald ia_72 hb25 dX9_layFar_90 ?_
        by_cases hc26 : (σ.1 72 c3.toNatClampNeg) ≤ ((σ.1 72 v4.toNatClampNeg) + (1 : Int32))
        · rw [if_pos hc26] at hf
          refine a_icmp_ge_t 98 dX9_layFar_91 (by decide) hc26 ?_
          refine a_iconst (0 : Int32) dX9_layFar_98 rfl ?_
          have hq := Option.some.inj hf
          subst hq
          exact hA22
        · rw [if_neg hc26] at hf
          refine a_icmp_ge_f 98 dX9_layFar_91 (by decide) hc26 ?_
          refine a_iconst (1 : Int32) dX9_layFar_94 rfl ?_
          refine a_goto 99 dX9_layFar_95 (by decide) ?_
          have hq := Option.some.inj hf
          subst hq
          exact hA22
      · rw [if_neg hc12] at hf
        refine a_icmp_ne_t 98 dX9_layFar_73 (by decide) hc12 ?_
        refine a_iconst (0 : Int32) dX9_layFar_98 rfl ?_
        have hq := Option.some.inj hf
        subst hq
        exact hA22
set_option maxHeartbeats 4000000 in
set_option maxRecDepth 100000 in
theorem kX9_layFar_L41 (e : Nat) (c2 : Int32)   {r : Option Value} {τ : St} (q : (St)) : ∀ (n : Nat) (v3 : Int32) (σ : St), fX9_layFar_L41 c2 n v3 σ = some q → A e MX9_layFar 142 [(0, .ref 58), (2, .int c2)] [] q r τ → A e MX9_layFar 41 [(0, .ref 58), (2, .int c2), (3, .int v3)] [] σ r τ := by
  intro n
  induction n with
  | zero =>
    intro v3 σ  hf
    simp only [fX9_layFar_L41] at hf
    exact absurd hf (by simp)
  | succ n ih =>
    intro v3 σ  hf h2
    rw [fX9_layFar_L41] at hf
    refine a_iload_n dX9_layFar_41 rfl 2 rfl ?_
    refine a_aload_n dX9_layFar_42 rfl 0 rfl ?_
    refine a_get (.int (σ.1 58 12)) ob_58 (by decide) fl_X9_144 rfl dX9_layFar_43 ?_
    by_cases hc9 : (σ.1 58 12) ≤ v3
    · rw [if_pos hc9] at hf
      refine a_icmp_ge_t 142 dX9_layFar_46 (by decide) hc9 ?_
      have hq := Option.some.inj hf
      rw [← hq] at h2
      refine a_locs (loc' := [(0, .ref 58), (2, .int c2)]) [0, 1] rfl ?_
      exact h2
    · rw [if_neg hc9] at hf
      refine a_icmp_ge_f 142 dX9_layFar_46 (by decide) hc9 ?_
      refine a_iconst (0 : Int32) dX9_layFar_49 rfl ?_
      refine a_istore dX9_layFar_50 (by decide) (loc' := [(4, .int (0 : Int32)), (0, .ref 58), (2, .int c2), (3, .int v3)]) rfl ?_
      obtain ⟨q27, hr28, hf⟩ := obind hf
      have hA29 : A e MX9_layFar 136 [(0, .ref 58), (2, .int c2), (3, .int v3)] [] q27 r τ := by
        refine a_iinc (v3 + (1 : Int32)) dX9_layFar_136 2 rfl rfl (by decide) (loc' := [(3, .int (v3 + (1 : Int32))), (0, .ref 58), (2, .int c2)]) rfl ?_
        refine a_goto 41 dX9_layFar_139 (by decide) ?_
        refine a_locs (loc' := [(0, .ref 58), (2, .int c2), (3, .int (v3 + (1 : Int32)))]) [1, 2, 0] rfl ?_
        exact ih (v3 + (1 : Int32)) q27 hf h2
      refine a_locs (loc' := [(0, .ref 58), (2, .int c2), (3, .int v3), (4, .int (0 : Int32))]) [1, 2, 3, 0] rfl ?_
      exact kX9_layFar_L52 e c2 v3 q27 fu (0 : Int32) σ hr28 hA29
set_option maxHeartbeats 4000000 in
set_option maxRecDepth 100000 in
theorem kX9_layFar_L33 (e : Nat)    {r : Option Value} {τ : St} (q : (St)) : ∀ (n : Nat) (v2 : Int32) (σ : St), fX9_layFar_L33 n v2 σ = some q → A e MX9_layFar 148 [] [] q r τ → A e MX9_layFar 33 [(0, .ref 58), (2, .int v2)] [] σ r τ := by
  intro n
  induction n with
  | zero =>
    intro v2 σ  hf
    simp only [fX9_layFar_L33] at hf
    exact absurd hf (by simp)
  | succ n ih =>
    intro v2 σ  hf h2
    rw [fX9_layFar_L33] at hf
    refine a_iload_n dX9_layFar_33 rfl 1 rfl ?_
    refine a_bipush (8 : Int32) dX9_layFar_34 rfl ?_
    by_cases hc8 : (8 : Int32) ≤ v2
    · rw [if_pos hc8] at hf
      refine a_icmp_ge_t 148 dX9_layFar_36 (by decide) hc8 ?_
      have hq := Option.some.inj hf
      rw [← hq] at h2
      refine a_locs (loc' := []) [] rfl ?_
      exact h2
    · rw [if_neg hc8] at hf
      refine a_icmp_ge_f 148 dX9_layFar_36 (by decide) hc8 ?_
      refine a_iconst (0 : Int32) dX9_layFar_39 rfl ?_
      refine a_istore_n dX9_layFar_40 rfl (by decide) (loc' := [(3, .int (0 : Int32)), (0, .ref 58), (2, .int v2)]) rfl ?_
      obtain ⟨q30, hr31, hf⟩ := obind hf
      have hA32 : A e MX9_layFar 142 [(0, .ref 58), (2, .int v2)] [] q30 r τ := by
        refine a_iinc (v2 + (1 : Int32)) dX9_layFar_142 1 rfl rfl (by decide) (loc' := [(2, .int (v2 + (1 : Int32))), (0, .ref 58)]) rfl ?_
        refine a_goto 33 dX9_layFar_145 (by decide) ?_
        refine a_locs (loc' := [(0, .ref 58), (2, .int (v2 + (1 : Int32)))]) [1, 0] rfl ?_
        exact ih (v2 + (1 : Int32)) q30 hf h2
      refine a_locs (loc' := [(0, .ref 58), (2, .int v2), (3, .int (0 : Int32))]) [1, 2, 0] rfl ?_
      exact kX9_layFar_L41 e v2 q30 fu (0 : Int32) σ hr31 hA32
set_option maxHeartbeats 4000000 in
set_option maxRecDepth 100000 in
theorem kX9_layFar (e : Nat) (p1 : Int32) (σ : St)  (q : St) (hf : fX9_layFar p1 σ = some q) : Sp e MX9_layFar [.ref 58, .int p1] σ (none) q := by
  refine sp_of rfl (Nat.le_of_ble_eq_true rfl) (loc := [(0, .ref 58), (1, .int p1)]) rfl ?_
  unfold fX9_layFar at hf
  refine a_iconst (0 : Int32) dX9_layFar_0 rfl ?_
  refine a_istore_n dX9_layFar_1 rfl (by decide) (loc' := [(2, .int (0 : Int32)), (0, .ref 58), (1, .int p1)]) rfl ?_
  obtain ⟨q7, hr36, hf⟩ := obind hf
  have hA37 : A e MX9_layFar 31 [(0, .ref 58)] [] q7 none q := by
    refine a_iconst (0 : Int32) dX9_layFar_31 rfl ?_
    refine a_istore_n dX9_layFar_32 rfl (by decide) (loc' := [(2, .int (0 : Int32)), (0, .ref 58)]) rfl ?_
    obtain ⟨q33, hr34, hf⟩ := obind hf
    have hA35 : A e MX9_layFar 148 [] [] q33 none q := by
      have hq := Option.some.inj hf
      subst hq
      exact a_vret rfl dX9_layFar_148
    refine a_locs (loc' := [(0, .ref 58), (2, .int (0 : Int32))]) [1, 0] rfl ?_
    exact kX9_layFar_L33 e q33 fu (0 : Int32) q7 hr34 hA35
  refine a_locs (loc' := [(0, .ref 58), (1, .int p1), (2, .int (0 : Int32))]) [1, 2, 0] rfl ?_
  exact kX9_layFar_L2 e p1 q7 fu (0 : Int32) σ hr36 hA37
set_option maxHeartbeats 4000000 in
set_option maxRecDepth 100000 in
theorem kX9_tellStranger_L54 (e : Nat) (c1 : Int32) (σ : St)  {r : Option Value} {τ : St} (q : (Int32)) : ∀ (n : Nat) (v4 : Int32), fX9_tellStranger_L54 c1 σ n v4 = some q → A (e + 1) MX9_tellStranger 92 [(4, .int q)] [] σ r τ → A (e + 1) MX9_tellStranger 54 [(0, .ref 58), (1, .int c1), (4, .int v4)] [] σ r τ := by
  intro n
  induction n with
  | zero =>
    intro v4  hf
    simp only [fX9_tellStranger_L54] at hf
    exact absurd hf (by simp)
  | succ n ih =>
    intro v4  hf h2
    rw [fX9_tellStranger_L54] at hf
    refine a_aload_n dX9_tellStranger_54 rfl 0 rfl ?_
    refine a_get (.ref 61) ob_58 (by decide) fl_X9_16 rfl dX9_tellStranger_55 ?_
    refine a_iload_n dX9_tellStranger_58 rfl 1 rfl ?_
    obtain ⟨hb18, hf⟩ := grd_elim hf
    refine a_iald ia_61 hb18 dX9_tellStranger_59 ?_
    refine a_iload dX9_tellStranger_60 2 rfl ?_
    refine a_ishr dX9_tellStranger_62 ?_
    refine a_iconst (1 : Int32) dX9_tellStranger_63 rfl ?_
    refine a_iand dX9_tellStranger_64 ?_
    by_cases hc19 : (((σ.1 61 c1.toNatClampNeg) >>> (v4 &&& 31)) &&& (1 : Int32)) = 0
    · rw [if_pos hc19] at hf
      refine a_if_eq_t 86 dX9_tellStranger_65 (by decide) hc19 ?_
      refine a_iinc (v4 + (1 : Int32)) dX9_tellStranger_86 2 rfl rfl (by decide) (loc' := [(4, .int (v4 + (1 : Int32))), (0, .ref 58), (1, .int c1)]) rfl ?_
      refine a_goto 54 dX9_tellStranger_89 (by decide) ?_
      refine a_locs (loc' := [(0, .ref 58), (1, .int c1), (4, .int (v4 + (1 : Int32)))]) [1, 2, 0] rfl ?_
      exact ih (v4 + (1 : Int32)) hf h2
    · rw [if_neg hc19] at hf
      refine a_if_eq_f 86 dX9_tellStranger_65 (by decide) hc19 ?_
      refine a_aload_n dX9_tellStranger_68 rfl 0 rfl ?_
      refine a_get (.ref 72) ob_58 (by decide) fl_X9_50 rfl dX9_tellStranger_69 ?_
      refine a_iload dX9_tellStranger_72 2 rfl ?_
      obtain ⟨hb20, hf⟩ := grd_elim hf
      refine a_iald ia_72 hb20 dX9_tellStranger_74 ?_
      refine a_iconst (1 : Int32) dX9_tellStranger_75 rfl ?_
      refine a_iadd dX9_tellStranger_76 ?_
      refine a_aload_n dX9_tellStranger_77 rfl 0 rfl ?_
      refine a_get (.ref 72) ob_58 (by decide) fl_X9_50 rfl dX9_tellStranger_78 ?_
      refine a_iload_n dX9_tellStranger_81 rfl 1 rfl ?_
      obtain ⟨hb21, hf⟩ := grd_elim hf
      refine a_iald ia_72 hb21 dX9_tellStranger_82 ?_
      by_cases hc22 : ((σ.1 72 v4.toNatClampNeg) + (1 : Int32)) = (σ.1 72 c1.toNatClampNeg)
      · rw [if_pos hc22] at hf
        refine a_icmp_eq_t 92 dX9_tellStranger_83 (by decide) hc22 ?_
        have hq := Option.some.inj hf
        rw [← hq] at h2
        refine a_locs (loc' := [(4, .int v4)]) [2] rfl ?_
        exact h2
      · rw [if_neg hc22] at hf
        refine a_icmp_eq_f 92 dX9_tellStranger_83 (by decide) hc22 ?_
        refine a_iinc (v4 + (1 : Int32)) dX9_tellStranger_86 2 rfl rfl (by decide) (loc' := [(4, .int (v4 + (1 : Int32))), (0, .ref 58), (1, .int c1)]) rfl ?_
        refine a_goto 54 dX9_tellStranger_89 (by decide) ?_
        refine a_locs (loc' := [(0, .ref 58), (1, .int c1), (4, .int (v4 + (1 : Int32)))]) [1, 2, 0] rfl ?_
        exact ih (v4 + (1 : Int32)) hf h2
set_option maxHeartbeats 4000000 in
set_option maxRecDepth 100000 in
theorem kX9_tellStranger (e : Nat) (p1 : Int32) (p2 : Int32) (p3 : Int32) (σ : St)  (q : Int32 × St) (hf : fX9_tellStranger p1 p2 p3 σ = some q) : Sp (e + 1) MX9_tellStranger [.ref 58, .int p1, .int p2, .int p3] σ (some (.int q.1)) q.2 := by
  refine sp_of rfl (Nat.le_of_ble_eq_true rfl) (loc := [(0, .ref 58), (1, .int p1), (2, .int p2), (3, .int p3)]) rfl ?_
  unfold fX9_tellStranger at hf
  refine a_aload_n dX9_tellStranger_0 rfl 0 rfl ?_
  refine a_iload_n dX9_tellStranger_1 rfl 2 rfl ?_
  obtain ⟨q1, hq1, hf⟩ := obind hf
  refine a_callV (as := [.int p2]) (stk := []) (q := none) (σ1 := q1) (kX9_layFar e p2 σ _ hq1) ob_58 vl_X9_272 rfl (Nat.le_of_ble_eq_true rfl) dX9_tellStranger_2 ?_
  refine a_iload_n dX9_tellStranger_5 rfl 3 rfl ?_
  by_cases hc2 : p3 = 0
  · rw [if_pos hc2] at hf
    refine a_if_eq_t 25 dX9_tellStranger_6 (by decide) hc2 ?_
    refine a_iload_n dX9_tellStranger_25 rfl 3 rfl ?_
    by_cases hc3 : p3 = 0
    · rw [if_pos hc3] at hf
      refine a_if_ne_f 49 dX9_tellStranger_26 (by decide) hc3 ?_
      refine a_aload_n dX9_tellStranger_29 rfl 0 rfl ?_
      refine a_get (.ref 72) ob_58 (by decide) fl_X9_50 rfl dX9_tellStranger_30 ?_
      refine a_iload_n dX9_tellStranger_33 rfl 1 rfl ?_
      obtain ⟨hb4, hf⟩ := grd_elim hf
      refine a_iald ia_72 hb4 dX9_tellStranger_34 ?_
      refine a_bipush (100 : Int32) dX9_tellStranger_35 rfl ?_
      by_cases hc5 : (100 : Int32) ≤ (q1.1 72 p1.toNatClampNeg)
      · rw [if_pos hc5] at hf
        refine a_icmp_ge_t 49 dX9_tellStranger_37 (by decide) hc5 ?_
        refine a_iconst (-1 : Int32) dX9_tellStranger_49 rfl ?_
        have hq := Option.some.inj hf
        subst hq
        exact a_iret rfl dX9_tellStranger_50
      · rw [if_neg hc5] at hf
        refine a_icmp_ge_f 49 dX9_tellStranger_37 (by decide) hc5 ?_
        refine a_aload_n dX9_tellStranger_40 rfl 0 rfl ?_
        refine a_get (.ref 72) ob_58 (by decide) fl_X9_50 rfl dX9_tellStranger_41 ?_
        refine a_iload_n dX9_tellStranger_44 rfl 1 rfl ?_
        obtain ⟨hb6, hf⟩ := grd_elim hf
        refine a_iald ia_72 hb6 dX9_tellStranger_45 ?_
        refine a_goto 50 dX9_tellStranger_46 (by decide) ?_
        have hq := Option.some.inj hf
        subst hq
        exact a_iret rfl dX9_tellStranger_50
    · rw [if_neg hc3] at hf
      refine a_if_ne_t 49 dX9_tellStranger_26 (by decide) hc3 ?_
      refine a_iconst (-1 : Int32) dX9_tellStranger_49 rfl ?_
      have hq := Option.some.inj hf
      subst hq
      exact a_iret rfl dX9_tellStranger_50
  · rw [if_neg hc2] at hf
    refine a_if_eq_f 25 dX9_tellStranger_6 (by decide) hc2 ?_
    refine a_iload_n dX9_tellStranger_9 rfl 1 rfl ?_
    refine a_iload_n dX9_tellStranger_10 rfl 2 rfl ?_
    by_cases hc7 : p1 = p2
    · rw [if_pos hc7] at hf
      refine a_icmp_eq_t 25 dX9_tellStranger_11 (by decide) hc7 ?_
      refine a_iload_n dX9_tellStranger_25 rfl 3 rfl ?_
      by_cases hc8 : p3 = 0
      · rw [if_pos hc8] at hf
        refine a_if_ne_f 49 dX9_tellStranger_26 (by decide) hc8 ?_
        refine a_aload_n dX9_tellStranger_29 rfl 0 rfl ?_
        refine a_get (.ref 72) ob_58 (by decide) fl_X9_50 rfl dX9_tellStranger_30 ?_
        refine a_iload_n dX9_tellStranger_33 rfl 1 rfl ?_
        obtain ⟨hb9, hf⟩ := grd_elim hf
        refine a_iald ia_72 hb9 dX9_tellStranger_34 ?_
        refine a_bipush (100 : Int32) dX9_tellStranger_35 rfl ?_
        by_cases hc10 : (100 : Int32) ≤ (q1.1 72 p1.toNatClampNeg)
        · rw [if_pos hc10] at hf
          refine a_icmp_ge_t 49 dX9_tellStranger_37 (by decide) hc10 ?_
          refine a_iconst (-1 : Int32) dX9_tellStranger_49 rfl ?_
          have hq := Option.some.inj hf
          subst hq
          exact a_iret rfl dX9_tellStranger_50
        · rw [if_neg hc10] at hf
          refine a_icmp_ge_f 49 dX9_tellStranger_37 (by decide) hc10 ?_
          refine a_aload_n dX9_tellStranger_40 rfl 0 rfl ?_
          refine a_get (.ref 72) ob_58 (by decide) fl_X9_50 rfl dX9_tellStranger_41 ?_
          refine a_iload_n dX9_tellStranger_44 rfl 1 rfl ?_
          obtain ⟨hb11, hf⟩ := grd_elim hf
          refine a_iald ia_72 hb11 dX9_tellStranger_45 ?_
          refine a_goto 50 dX9_tellStranger_46 (by decide) ?_
          have hq := Option.some.inj hf
          subst hq
          exact a_iret rfl dX9_tellStranger_50
      · rw [if_neg hc8] at hf
        refine a_if_ne_t 49 dX9_tellStranger_26 (by decide) hc8 ?_
        refine a_iconst (-1 : Int32) dX9_tellStranger_49 rfl ?_
        have hq := Option.some.inj hf
        subst hq
        exact a_iret rfl dX9_tellStranger_50
    · rw [if_neg hc7] at hf
      refine a_icmp_eq_f 25 dX9_tellStranger_11 (by decide) hc7 ?_
      refine a_aload_n dX9_tellStranger_14 rfl 0 rfl ?_
      refine a_get (.ref 72) ob_58 (by decide) fl_X9_50 rfl dX9_tellStranger_15 ?_
      refine a_iload_n dX9_tellStranger_18 rfl 1 rfl ?_
      obtain ⟨hb12, hf⟩ := grd_elim hf
      refine a_iald ia_72 hb12 dX9_tellStranger_19 ?_
      refine a_bipush (100 : Int32) dX9_tellStranger_20 rfl ?_
      by_cases hc13 : (q1.1 72 p1.toNatClampNeg) = (100 : Int32)
      · rw [if_pos hc13] at hf
        refine a_icmp_ne_f 51 dX9_tellStranger_22 (by decide) hc13 ?_
        refine a_iload_n dX9_tellStranger_25 rfl 3 rfl ?_
        by_cases hc14 : p3 = 0
        · rw [if_pos hc14] at hf
          refine a_if_ne_f 49 dX9_tellStranger_26 (by decide) hc14 ?_
          refine a_aload_n dX9_tellStranger_29 rfl 0 rfl ?_
          refine a_get (.ref 72) ob_58 (by decide) fl_X9_50 rfl dX9_tellStranger_30 ?_
          refine a_iload_n dX9_tellStranger_33 rfl 1 rfl ?_
          obtain ⟨hb15, hf⟩ := grd_elim hf
          refine a_iald ia_72 hb15 dX9_tellStranger_34 ?_
          refine a_bipush (100 : Int32) dX9_tellStranger_35 rfl ?_
          by_cases hc16 : (100 : Int32) ≤ (q1.1 72 p1.toNatClampNeg)
          · rw [if_pos hc16] at hf
            refine a_icmp_ge_t 49 dX9_tellStranger_37 (by decide) hc16 ?_
            refine a_iconst (-1 : Int32) dX9_tellStranger_49 rfl ?_
            have hq := Option.some.inj hf
            subst hq
            exact a_iret rfl dX9_tellStranger_50
          · rw [if_neg hc16] at hf
            refine a_icmp_ge_f 49 dX9_tellStranger_37 (by decide) hc16 ?_
            refine a_aload_n dX9_tellStranger_40 rfl 0 rfl ?_
            refine a_get (.ref 72) ob_58 (by decide) fl_X9_50 rfl dX9_tellStranger_41 ?_
            refine a_iload_n dX9_tellStranger_44 rfl 1 rfl ?_
            obtain ⟨hb17, hf⟩ := grd_elim hf
            refine a_iald ia_72 hb17 dX9_tellStranger_45 ?_
            refine a_goto 50 dX9_tellStranger_46 (by decide) ?_
            have hq := Option.some.inj hf
            subst hq
            exact a_iret rfl dX9_tellStranger_50
        · rw [if_neg hc14] at hf
          refine a_if_ne_t 49 dX9_tellStranger_26 (by decide) hc14 ?_
          refine a_iconst (-1 : Int32) dX9_tellStranger_49 rfl ?_
          have hq := Option.some.inj hf
          subst hq
          exact a_iret rfl dX9_tellStranger_50
      · rw [if_neg hc13] at hf
        refine a_icmp_ne_t 51 dX9_tellStranger_22 (by decide) hc13 ?_
        refine a_iconst (0 : Int32) dX9_tellStranger_51 rfl ?_
        refine a_istore dX9_tellStranger_52 (by decide) (loc' := [(4, .int (0 : Int32)), (0, .ref 58), (1, .int p1), (2, .int p2), (3, .int p3)]) rfl ?_
        obtain ⟨q23, hr24, hf⟩ := obind hf
        have hA25 : A (e + 1) MX9_tellStranger 92 [(4, .int q23)] [] q1 (some (.int q.1)) q.2 := by
          refine a_iload dX9_tellStranger_92 0 rfl ?_
          have hq := Option.some.inj hf
          subst hq
          exact a_iret rfl dX9_tellStranger_94
        refine a_locs (loc' := [(0, .ref 58), (1, .int p1), (4, .int (0 : Int32))]) [1, 2, 0] rfl ?_
        exact kX9_tellStranger_L54 e p1 q1 q23 fu (0 : Int32) hr24 hA25
set_option maxHeartbeats 4000000 in
set_option maxRecDepth 100000 in
theorem kX9_stranger (e : Nat) (p1 : Int32) (p2 : Int32) (p3 : Int32) (σ : St)  (q : Int32 × St) (hf : fX9_stranger p1 p2 p3 σ = some q) : Sp (e + 2) MX9_stranger [.ref 58, .int p1, .int p2, .int p3] σ (some (.int q.1)) q.2 := by
  refine sp_of rfl (Nat.le_of_ble_eq_true rfl) (loc := [(0, .ref 58), (1, .int p1), (2, .int p2), (3, .int p3)]) rfl ?_
  unfold fX9_stranger at hf
  refine a_aload_n dX9_stranger_0 rfl 0 rfl ?_
  refine a_iload_n dX9_stranger_1 rfl 1 rfl ?_
  refine a_callV (as := [.int p1]) (stk := []) (q := some (.int (fX9_isPerson p1 σ))) (σ1 := σ) (kX9_isPerson e p1 σ) ob_58 vl_X9_147 rfl (Nat.le_of_ble_eq_true rfl) dX9_stranger_2 ?_
  by_cases hc1 : (fX9_isPerson p1 σ) = 0
  · rw [if_pos hc1] at hf
    refine a_if_eq_t 16 dX9_stranger_5 (by decide) hc1 ?_
    refine a_bipush (-101 : Int32) dX9_stranger_16 rfl ?_
    have hq := Option.some.inj hf
    subst hq
    exact a_iret rfl dX9_stranger_18
  · rw [if_neg hc1] at hf
    refine a_if_eq_f 16 dX9_stranger_5 (by decide) hc1 ?_
    refine a_aload_n dX9_stranger_8 rfl 0 rfl ?_
    refine a_iload_n dX9_stranger_9 rfl 2 rfl ?_
    refine a_callV (as := [.int p2]) (stk := []) (q := some (.int (fX9_isPerson p2 σ))) (σ1 := σ) (kX9_isPerson e p2 σ) ob_58 vl_X9_147 rfl (Nat.le_of_ble_eq_true rfl) dX9_stranger_10 ?_
    by_cases hc2 : (fX9_isPerson p2 σ) = 0
    · rw [if_pos hc2] at hf
      refine a_if_ne_f 19 dX9_stranger_13 (by decide) hc2 ?_
      refine a_bipush (-101 : Int32) dX9_stranger_16 rfl ?_
      have hq := Option.some.inj hf
      subst hq
      exact a_iret rfl dX9_stranger_18
    · rw [if_neg hc2] at hf
      refine a_if_ne_t 19 dX9_stranger_13 (by decide) hc2 ?_
      refine a_iload_n dX9_stranger_19 rfl 3 rfl ?_
      refine a_i2l dX9_stranger_20 ?_
      refine a_lconst (0 : Int64) dX9_stranger_21 rfl ?_
      refine a_lconst (1 : Int64) dX9_stranger_22 rfl ?_
      refine a_callS (as := [.long p3.toInt64, .long (0 : Int64), .long (1 : Int64)]) (stk := []) (q := some (.int (fX9_in p3.toInt64 (0 : Int64) (1 : Int64)))) (σ1 := σ) (kX9_in (e + 1) p3.toInt64 (0 : Int64) (1 : Int64) σ) sl_X9_108 rfl (Nat.le_of_ble_eq_true rfl) dX9_stranger_23 ?_
      by_cases hc3 : (fX9_in p3.toInt64 (0 : Int64) (1 : Int64)) = 0
      · rw [if_pos hc3] at hf
        refine a_if_eq_t 39 dX9_stranger_26 (by decide) hc3 ?_
        refine a_bipush (-102 : Int32) dX9_stranger_39 rfl ?_
        have hq := Option.some.inj hf
        subst hq
        exact a_iret rfl dX9_stranger_41
      · rw [if_neg hc3] at hf
        refine a_if_eq_f 39 dX9_stranger_26 (by decide) hc3 ?_
        refine a_aload_n dX9_stranger_29 rfl 0 rfl ?_
        refine a_iload_n dX9_stranger_30 rfl 1 rfl ?_
        refine a_iload_n dX9_stranger_31 rfl 2 rfl ?_
        refine a_iload_n dX9_stranger_32 rfl 3 rfl ?_
        obtain ⟨q4, hq4, hf⟩ := obind hf
        refine a_callV (as := [.int p1, .int p2, .int p3]) (stk := []) (q := some (.int q4.1)) (σ1 := q4.2) (kX9_tellStranger e p1 p2 p3 σ _ hq4) ob_58 vl_X9_275 rfl (Nat.le_of_ble_eq_true rfl) dX9_stranger_33 ?_
        refine a_goto 41 dX9_stranger_36 (by decide) ?_
        have hq := Option.some.inj hf
        subst hq
        exact a_iret rfl dX9_stranger_41
set_option maxHeartbeats 4000000 in
set_option maxRecDepth 100000 in
theorem kX9_livesMany_L4 (e : Nat)  (σ : St)  {r : Option Value} {τ : St} (q : (Int32)) : ∀ (n : Nat) (v1 : Int32) (v2 : Int32), fX9_livesMany_L4 σ n v1 v2 = some q → A (e + 1) MX9_livesMany 34 [(1, .int q)] [] σ r τ → A (e + 1) MX9_livesMany 4 [(0, .ref 58), (1, .int v1), (2, .int v2)] [] σ r τ := by
  intro n
  induction n with
  | zero =>
    intro v1 v2  hf
    simp only [fX9_livesMany_L4] at hf
    exact absurd hf (by simp)
  | succ n ih =>
    intro v1 v2  hf h2
    rw [fX9_livesMany_L4] at hf
    refine a_iload_n dX9_livesMany_4 rfl 2 rfl ?_
    refine a_aload_n dX9_livesMany_5 rfl 0 rfl ?_
    refine a_get (.int (σ.1 58 20)) ob_58 (by decide) fl_X9_158 rfl dX9_livesMany_6 ?_
    by_cases hc1 : (σ.1 58 20) ≤ v2
    · rw [if_pos hc1] at hf
      refine a_icmp_ge_t 34 dX9_livesMany_9 (by decide) hc1 ?_
      have hq := Option.some.inj hf
      rw [← hq] at h2
      refine a_locs (loc' := [(1, .int v1)]) [1] rfl ?_
      exact h2
    · rw [if_neg hc1] at hf
      refine a_icmp_ge_f 34 dX9_livesMany_9 (by decide) hc1 ?_
      refine a_iload_n dX9_livesMany_12 rfl 1 rfl ?_
      refine a_aload_n dX9_livesMany_13 rfl 0 rfl ?_
      refine a_iload_n dX9_livesMany_14 rfl 2 rfl ?_
      obtain ⟨q2, hq2, hf⟩ := obind hf
      refine a_callV (as := [.int v2]) (stk := [.int v1]) (q := some (.int q2)) (σ1 := σ) (kX9_lives e v2 σ _ hq2) ob_58 vl_X9_161 rfl (Nat.le_of_ble_eq_true rfl) dX9_livesMany_15 ?_
      obtain ⟨x4, hx4, hf⟩ := bnd_elim hf
      have hA5 : A (e + 1) MX9_livesMany 26 [(0, .ref 58), (2, .int v2)] [.int x4, .int v1] σ r τ := by
        refine a_iadd dX9_livesMany_26 ?_
        refine a_istore_n dX9_livesMany_27 rfl (by decide) (loc' := [(1, .int (v1 + x4)), (0, .ref 58), (2, .int v2)]) rfl ?_
        refine a_iinc (v2 + (1 : Int32)) dX9_livesMany_28 2 rfl rfl (by decide) (loc' := [(2, .int (v2 + (1 : Int32))), (1, .int (v1 + x4)), (0, .ref 58)]) rfl ?_
        refine a_goto 4 dX9_livesMany_31 (by decide) ?_
        refine a_locs (loc' := [(0, .ref 58), (1, .int (v1 + x4)), (2, .int (v2 + (1 : Int32)))]) [2, 1, 0] rfl ?_
        exact ih (v1 + x4) (v2 + (1 : Int32)) hf h2
      clear hf
      by_cases hc3 : q2 = 0
      · rw [if_pos hc3] at hx4
        refine a_if_eq_t 25 dX9_livesMany_18 (by decide) hc3 ?_
        refine a_iconst (0 : Int32) dX9_livesMany_25 rfl ?_
        replace hx4 := hx4.symm; subst hx4
        refine a_locs (loc' := [(0, .ref 58), (2, .int v2)]) [0, 2] rfl ?_
        exact hA5
      · rw [if_neg hc3] at hx4
        refine a_if_eq_f 25 dX9_livesMany_18 (by decide) hc3 ?_
        refine a_iconst (1 : Int32) dX9_livesMany_21 rfl ?_
        refine a_goto 26 dX9_livesMany_22 (by decide) ?_
        replace hx4 := hx4.symm; subst hx4
        refine a_locs (loc' := [(0, .ref 58), (2, .int v2)]) [0, 2] rfl ?_
        exact hA5
set_option maxHeartbeats 4000000 in
set_option maxRecDepth 100000 in
theorem kX9_livesMany (e : Nat)  (σ : St)  (q : Int32) (hf : fX9_livesMany σ = some q) : Sp (e + 1) MX9_livesMany [.ref 58] σ (some (.int q)) σ := by
  refine sp_of rfl (Nat.le_of_ble_eq_true rfl) (loc := [(0, .ref 58)]) rfl ?_
  unfold fX9_livesMany at hf
  refine a_iconst (0 : Int32) dX9_livesMany_0 rfl ?_
  refine a_istore_n dX9_livesMany_1 rfl (by decide) (loc' := [(1, .int (0 : Int32)), (0, .ref 58)]) rfl ?_
  refine a_iconst (0 : Int32) dX9_livesMany_2 rfl ?_
  refine a_istore_n dX9_livesMany_3 rfl (by decide) (loc' := [(2, .int (0 : Int32)), (1, .int (0 : Int32)), (0, .ref 58)]) rfl ?_
  obtain ⟨q6, hr7, hf⟩ := obind hf
  have hA8 : A (e + 1) MX9_livesMany 34 [(1, .int q6)] [] σ (some (.int q)) σ := by
    refine a_iload_n dX9_livesMany_34 rfl 0 rfl ?_
    have hq := Option.some.inj hf
    subst hq
    exact a_iret rfl dX9_livesMany_35
  refine a_locs (loc' := [(0, .ref 58), (1, .int (0 : Int32)), (2, .int (0 : Int32))]) [2, 1, 0] rfl ?_
  exact kX9_livesMany_L4 e σ q6 fu (0 : Int32) (0 : Int32) hr7 hA8
set_option maxHeartbeats 4000000 in
set_option maxRecDepth 100000 in
theorem kX9_copy_L2 (e : Nat) (a0 n0 : Nat) (a1 n1 : Nat) (c2 : Int32)  (ha0 : IA a0 n0) (ha1 : IA a1 n1) {r : Option Value} {τ : St} (q : (St)) : ∀ (n : Nat) (v3 : Int32) (σ : St), fX9_copy_L2 a0 n0 a1 n1 c2 n v3 σ = some q → A e MX9_copy 19 [] [] q r τ → A e MX9_copy 2 [(0, .ref a0), (1, .ref a1), (2, .int c2), (3, .int v3)] [] σ r τ := by
  intro n
  induction n with
  | zero =>
    intro v3 σ  hf
    simp only [fX9_copy_L2] at hf
    exact absurd hf (by simp)
  | succ n ih =>
    intro v3 σ  hf h2
    rw [fX9_copy_L2] at hf
    refine a_iload_n dX9_copy_2 rfl 3 rfl ?_
    refine a_iload_n dX9_copy_3 rfl 2 rfl ?_
    by_cases hc1 : c2 ≤ v3
    · rw [if_pos hc1] at hf
      refine a_icmp_ge_t 19 dX9_copy_4 (by decide) hc1 ?_
      have hq := Option.some.inj hf
      rw [← hq] at h2
      refine a_locs (loc' := []) [] rfl ?_
      exact h2
    · rw [if_neg hc1] at hf
      refine a_icmp_ge_f 19 dX9_copy_4 (by decide) hc1 ?_
      refine a_aload_n dX9_copy_7 rfl 1 rfl ?_
      refine a_iload_n dX9_copy_8 rfl 3 rfl ?_
      refine a_aload_n dX9_copy_9 rfl 0 rfl ?_
      refine a_iload_n dX9_copy_10 rfl 3 rfl ?_
      obtain ⟨hb2, hf⟩ := grd_elim hf
      refine a_iald ha0 hb2 dX9_copy_11 ?_
      obtain ⟨hb3, hf⟩ := grd_elim hf
      refine a_iast ha1 hb3 dX9_copy_12 ?_
      obtain ⟨σ4, hσ4, hf⟩ := bnd_elim hf
      rw [← hσ4]
      refine a_iinc (v3 + (1 : Int32)) dX9_copy_13 3 rfl rfl (by decide) (loc' := [(3, .int (v3 + (1 : Int32))), (0, .ref a0), (1, .ref a1), (2, .int c2)]) rfl ?_
      refine a_goto 2 dX9_copy_16 (by decide) ?_
      refine a_locs (loc' := [(0, .ref a0), (1, .ref a1), (2, .int c2), (3, .int (v3 + (1 : Int32)))]) [1, 2, 3, 0] rfl ?_
      exact ih (v3 + (1 : Int32)) σ4 hf h2
set_option maxHeartbeats 4000000 in
set_option maxRecDepth 100000 in
theorem kX9_copy (e : Nat) (a0 n0 : Nat) (a1 n1 : Nat) (p2 : Int32) (σ : St) (ha0 : IA a0 n0) (ha1 : IA a1 n1) (q : St) (hf : fX9_copy a0 n0 a1 n1 p2 σ = some q) : Sp e MX9_copy [.ref a0, .ref a1, .int p2] σ (none) q := by
  refine sp_of rfl (Nat.le_of_ble_eq_true rfl) (loc := [(0, .ref a0), (1, .ref a1), (2, .int p2)]) rfl ?_
  unfold fX9_copy at hf
  refine a_iconst (0 : Int32) dX9_copy_0 rfl ?_
  refine a_istore_n dX9_copy_1 rfl (by decide) (loc' := [(3, .int (0 : Int32)), (0, .ref a0), (1, .ref a1), (2, .int p2)]) rfl ?_
  obtain ⟨q5, hr6, hf⟩ := obind hf
  have hA7 : A e MX9_copy 19 [] [] q5 none q := by
    have hq := Option.some.inj hf
    subst hq
    exact a_vret rfl dX9_copy_19
  refine a_locs (loc' := [(0, .ref a0), (1, .ref a1), (2, .int p2), (3, .int (0 : Int32))]) [1, 2, 3, 0] rfl ?_
  exact kX9_copy_L2 e a0 n0 a1 n1 p2 ha0 ha1 q5 fu (0 : Int32) σ hr6 hA7
set_option maxHeartbeats 4000000 in
set_option maxRecDepth 100000 in
theorem kX9_drawn_L87 (e : Nat) (c1 : Int32) (c3 : Int32) (c4 : Int32)   {r : Option Value} {τ : St} (q : (Int32 × St)) : ∀ (n : Nat) (v5 : Int32) (v6 : Int32) (σ : St), fX9_drawn_L87 c1 c3 c4 n v5 v6 σ = some q → A (e + 4) MX9_drawn 113 [(0, .ref 58), (1, .int c1), (3, .int c3), (4, .int c4), (5, .int q.1)] [] q.2 r τ → A (e + 4) MX9_drawn 87 [(0, .ref 58), (1, .int c1), (3, .int c3), (4, .int c4), (5, .int v5), (6, .int v6)] [] σ r τ := by
  intro n
  induction n with
  | zero =>
    intro v5 v6 σ  hf
    simp only [fX9_drawn_L87] at hf
    exact absurd hf (by simp)
  | succ n ih =>
    intro v5 v6 σ  hf h2
    rw [fX9_drawn_L87] at hf
    refine a_iload dX9_drawn_87 5 rfl ?_
    refine a_iload_n dX9_drawn_89 rfl 1 rfl ?_
    by_cases hc8 : c1 ≤ v6
    · rw [if_pos hc8] at hf
      refine a_icmp_ge_t 113 dX9_drawn_90 (by decide) hc8 ?_
      have hq := Option.some.inj hf
      rw [← hq] at h2
      refine a_locs (loc' := [(0, .ref 58), (1, .int c1), (3, .int c3), (4, .int c4), (5, .int v5)]) [0, 1, 2, 3, 4] rfl ?_
      exact h2
    · rw [if_neg hc8] at hf
      refine a_icmp_ge_f 113 dX9_drawn_90 (by decide) hc8 ?_
      refine a_aload_n dX9_drawn_93 rfl 0 rfl ?_
      refine a_iconst (1 : Int32) dX9_drawn_94 rfl ?_
      obtain ⟨q9, hq9, hf⟩ := obind hf
      refine a_callV (as := [.int (1 : Int32)]) (stk := []) (q := some (.int q9.1)) (σ1 := q9.2) (kX9_year e (1 : Int32) σ _ hq9) ob_58 vl_X9_227 rfl (Nat.le_of_ble_eq_true rfl) dX9_drawn_95 ?_
      refine a_istore dX9_drawn_98 (by decide) (loc' := [(7, .int q9.1), (0, .ref 58), (1, .int c1), (3, .int c3), (4, .int c4), (5, .int v5), (6, .int v6)]) rfl ?_
      refine a_iload dX9_drawn_100 5 rfl ?_
      refine a_iload dX9_drawn_102 0 rfl ?_
      refine a_iadd dX9_drawn_104 ?_
      refine a_istore dX9_drawn_105 (by decide) (loc' := [(5, .int (v5 + q9.1)), (7, .int q9.1), (0, .ref 58), (1, .int c1), (3, .int c3), (4, .int c4), (6, .int v6)]) rfl ?_
      refine a_iinc (v6 + (1 : Int32)) dX9_drawn_107 6 rfl rfl (by decide) (loc' := [(6, .int (v6 + (1 : Int32))), (5, .int (v5 + q9.1)), (7, .int q9.1), (0, .ref 58), (1, .int c1), (3, .int c3), (4, .int c4)]) rfl ?_
      refine a_goto 87 dX9_drawn_110 (by decide) ?_
      refine a_locs (loc' := [(0, .ref 58), (1, .int c1), (3, .int c3), (4, .int c4), (5, .int (v5 + q9.1)), (6, .int (v6 + (1 : Int32)))]) [3, 4, 5, 6, 1, 0] rfl ?_
      exact ih (v5 + q9.1) (v6 + (1 : Int32)) q9.2 hf h2
set_option maxHeartbeats 4000000 in
set_option maxRecDepth 100000 in
theorem kX9_drawn (e : Nat) (p1 : Int32) (p2 : Int32) (p3 : Int32) (σ : St)  (q : Int32 × St) (hf : fX9_drawn p1 p2 p3 σ = some q) : Sp (e + 4) MX9_drawn [.ref 58, .int p1, .int p2, .int p3] σ (some (.int q.1)) q.2 := by
  refine sp_of rfl (Nat.le_of_ble_eq_true rfl) (loc := [(0, .ref 58), (1, .int p1), (2, .int p2), (3, .int p3)]) rfl ?_
  unfold fX9_drawn at hf
  refine a_iload_n dX9_drawn_0 rfl 1 rfl ?_
  refine a_i2l dX9_drawn_1 ?_
  refine a_lconst (1 : Int64) dX9_drawn_2 rfl ?_
  refine a_ldc2 rfl kc_X9_225 dX9_drawn_3 ?_
  refine a_callS (as := [.long p1.toInt64, .long (1 : Int64), .long (30 : Int64)]) (stk := []) (q := some (.int (fX9_in p1.toInt64 (1 : Int64) (30 : Int64)))) (σ1 := σ) (kX9_in (e + 3) p1.toInt64 (1 : Int64) (30 : Int64) σ) sl_X9_108 rfl (Nat.le_of_ble_eq_true rfl) dX9_drawn_6 ?_
  by_cases hc1 : (fX9_in p1.toInt64 (1 : Int64) (30 : Int64)) = 0
  · rw [if_pos hc1] at hf
    refine a_if_eq_t 28 dX9_drawn_9 (by decide) hc1 ?_
    refine a_bipush (-102 : Int32) dX9_drawn_28 rfl ?_
    have hq := Option.some.inj hf
    subst hq
    exact a_iret rfl dX9_drawn_30
  · rw [if_neg hc1] at hf
    refine a_if_eq_f 28 dX9_drawn_9 (by decide) hc1 ?_
    refine a_iload_n dX9_drawn_12 rfl 2 rfl ?_
    by_cases hc2 : p2 < 0
    · rw [if_pos hc2] at hf
      refine a_if_lt_t 28 dX9_drawn_13 (by decide) hc2 ?_
      refine a_bipush (-102 : Int32) dX9_drawn_28 rfl ?_
      have hq := Option.some.inj hf
      subst hq
      exact a_iret rfl dX9_drawn_30
    · rw [if_neg hc2] at hf
      refine a_if_lt_f 28 dX9_drawn_13 (by decide) hc2 ?_
      refine a_iload_n dX9_drawn_16 rfl 3 rfl ?_
      refine a_i2l dX9_drawn_17 ?_
      refine a_lconst (0 : Int64) dX9_drawn_18 rfl ?_
      refine a_ldc2 rfl kc_X9_150 dX9_drawn_19 ?_
      refine a_callS (as := [.long p3.toInt64, .long (0 : Int64), .long (3 : Int64)]) (stk := []) (q := some (.int (fX9_in p3.toInt64 (0 : Int64) (3 : Int64)))) (σ1 := σ) (kX9_in (e + 3) p3.toInt64 (0 : Int64) (3 : Int64) σ) sl_X9_108 rfl (Nat.le_of_ble_eq_true rfl) dX9_drawn_22 ?_
      by_cases hc3 : (fX9_in p3.toInt64 (0 : Int64) (3 : Int64)) = 0
      · rw [if_pos hc3] at hf
        refine a_if_ne_f 31 dX9_drawn_25 (by decide) hc3 ?_
        refine a_bipush (-102 : Int32) dX9_drawn_28 rfl ?_
        have hq := Option.some.inj hf
        subst hq
        exact a_iret rfl dX9_drawn_30
      · rw [if_neg hc3] at hf
        refine a_if_ne_t 31 dX9_drawn_25 (by decide) hc3 ?_
        refine a_aload_n dX9_drawn_31 rfl 0 rfl ?_
        refine a_get (.ref 65) ob_58 (by decide) fl_X9_28 rfl dX9_drawn_32 ?_
        refine a_aload_n dX9_drawn_35 rfl 0 rfl ?_
        refine a_get (.ref 73) ob_58 (by decide) fl_X9_53 rfl dX9_drawn_36 ?_
        refine a_bipush (64 : Int32) dX9_drawn_39 rfl ?_
        obtain ⟨q4, hq4, hf⟩ := obind hf
        refine a_callS (as := [.ref 65, .ref 73, .int (64 : Int32)]) (stk := []) (q := none) (σ1 := q4) (kX9_copy (e + 3) 65 64 73 64 (64 : Int32) σ ia_65 ia_73 _ hq4) sl_X9_279 rfl (Nat.le_of_ble_eq_true rfl) dX9_drawn_41 ?_
        refine a_aload_n dX9_drawn_44 rfl 0 rfl ?_
        refine a_get (.ref 63) ob_58 (by decide) fl_X9_22 rfl dX9_drawn_45 ?_
        refine a_aload_n dX9_drawn_48 rfl 0 rfl ?_
        refine a_get (.ref 74) ob_58 (by decide) fl_X9_56 rfl dX9_drawn_49 ?_
        refine a_bipush (64 : Int32) dX9_drawn_52 rfl ?_
        obtain ⟨q5, hq5, hf⟩ := obind hf
        refine a_callS (as := [.ref 63, .ref 74, .int (64 : Int32)]) (stk := []) (q := none) (σ1 := q5) (kX9_copy (e + 3) 63 64 74 64 (64 : Int32) q4 ia_63 ia_74 _ hq5) sl_X9_279 rfl (Nat.le_of_ble_eq_true rfl) dX9_drawn_54 ?_
        refine a_aload_n dX9_drawn_57 rfl 0 rfl ?_
        refine a_get (.ref 64) ob_58 (by decide) fl_X9_25 rfl dX9_drawn_58 ?_
        refine a_aload_n dX9_drawn_61 rfl 0 rfl ?_
        refine a_get (.ref 75) ob_58 (by decide) fl_X9_59 rfl dX9_drawn_62 ?_
        refine a_bipush (8 : Int32) dX9_drawn_65 rfl ?_
        obtain ⟨q6, hq6, hf⟩ := obind hf
        refine a_callS (as := [.ref 64, .ref 75, .int (8 : Int32)]) (stk := []) (q := none) (σ1 := q6) (kX9_copy (e + 3) 64 8 75 8 (8 : Int32) q5 ia_64 ia_75 _ hq6) sl_X9_279 rfl (Nat.le_of_ble_eq_true rfl) dX9_drawn_67 ?_
        refine a_aload_n dX9_drawn_70 rfl 0 rfl ?_
        refine a_get (.int (q6.1 58 18)) ob_58 (by decide) fl_X9_194 rfl dX9_drawn_71 ?_
        refine a_istore dX9_drawn_74 (by decide) (loc' := [(4, .int (q6.1 58 18)), (0, .ref 58), (1, .int p1), (2, .int p2), (3, .int p3)]) rfl ?_
        refine a_aload_n dX9_drawn_76 rfl 1 rfl ?_
        refine a_iload_n dX9_drawn_77 rfl 3 rfl ?_
        refine a_putI ob_58 (by decide) fp_X9_202 (Or.inl rfl) dX9_drawn_78 ?_
        obtain ⟨σ7, hσ7, hf⟩ := bnd_elim hf
        rw [← hσ7]
        refine a_iconst (0 : Int32) dX9_drawn_81 rfl ?_
        refine a_istore dX9_drawn_82 (by decide) (loc' := [(5, .int (0 : Int32)), (4, .int (q6.1 58 18)), (0, .ref 58), (1, .int p1), (2, .int p2), (3, .int p3)]) rfl ?_
        refine a_iconst (0 : Int32) dX9_drawn_84 rfl ?_
        refine a_istore dX9_drawn_85 (by decide) (loc' := [(6, .int (0 : Int32)), (5, .int (0 : Int32)), (4, .int (q6.1 58 18)), (0, .ref 58), (1, .int p1), (2, .int p2), (3, .int p3)]) rfl ?_
        obtain ⟨q10, hr21, hf⟩ := obind hf
        have hA22 : A (e + 4) MX9_drawn 113 [(0, .ref 58), (1, .int p1), (3, .int p3), (4, .int (q6.1 58 18)), (5, .int q10.1)] [] q10.2 (some (.int q.1)) q.2 := by
          refine a_aload_n dX9_drawn_113 rfl 0 rfl ?_
          obtain ⟨q11, hq11, hf⟩ := obind hf
          refine a_callV (as := []) (stk := []) (q := some (.int q11)) (σ1 := q10.2) (kX9_livesMany (e + 2) q10.2 _ hq11) ob_58 vl_X9_283 rfl (Nat.le_of_ble_eq_true rfl) dX9_drawn_114 ?_
          refine a_istore dX9_drawn_117 (by decide) (loc' := [(6, .int q11), (0, .ref 58), (1, .int p1), (3, .int p3), (4, .int (q6.1 58 18)), (5, .int q10.1)]) rfl ?_
          refine a_aload_n dX9_drawn_119 rfl 1 rfl ?_
          refine a_get (.int (q10.2.1 58 18)) ob_58 (by decide) fl_X9_194 rfl dX9_drawn_120 ?_
          refine a_iload dX9_drawn_123 4 rfl ?_
          refine a_isub dX9_drawn_125 ?_
          obtain ⟨x12, hx12, hf⟩ := bnd_elim hf
          refine a_top (w := .int x12) (by rw [hx12]) ?_
          refine a_istore dX9_drawn_126 (by decide) (loc' := [(7, .int x12), (6, .int q11), (0, .ref 58), (1, .int p1), (3, .int p3), (4, .int (q6.1 58 18)), (5, .int q10.1)]) rfl ?_
          refine a_aload_n dX9_drawn_128 rfl 2 rfl ?_
          refine a_get (.ref 73) ob_58 (by decide) fl_X9_53 rfl dX9_drawn_129 ?_
          refine a_aload_n dX9_drawn_132 rfl 2 rfl ?_
          refine a_get (.ref 65) ob_58 (by decide) fl_X9_28 rfl dX9_drawn_133 ?_
          refine a_bipush (64 : Int32) dX9_drawn_136 rfl ?_
          obtain ⟨q13, hq13, hf⟩ := obind hf
          refine a_callS (as := [.ref 73, .ref 65, .int (64 : Int32)]) (stk := []) (q := none) (σ1 := q13) (kX9_copy (e + 3) 73 64 65 64 (64 : Int32) q10.2 ia_73 ia_65 _ hq13) sl_X9_279 rfl (Nat.le_of_ble_eq_true rfl) dX9_drawn_138 ?_
          refine a_aload_n dX9_drawn_141 rfl 2 rfl ?_
          refine a_get (.ref 74) ob_58 (by decide) fl_X9_56 rfl dX9_drawn_142 ?_
          refine a_aload_n dX9_drawn_145 rfl 2 rfl ?_
          refine a_get (.ref 63) ob_58 (by decide) fl_X9_22 rfl dX9_drawn_146 ?_
          refine a_bipush (64 : Int32) dX9_drawn_149 rfl ?_
          obtain ⟨q14, hq14, hf⟩ := obind hf
          refine a_callS (as := [.ref 74, .ref 63, .int (64 : Int32)]) (stk := []) (q := none) (σ1 := q14) (kX9_copy (e + 3) 74 64 63 64 (64 : Int32) q13 ia_74 ia_63 _ hq14) sl_X9_279 rfl (Nat.le_of_ble_eq_true rfl) dX9_drawn_151 ?_
          refine a_aload_n dX9_drawn_154 rfl 2 rfl ?_
          refine a_get (.ref 75) ob_58 (by decide) fl_X9_59 rfl dX9_drawn_155 ?_
          refine a_aload_n dX9_drawn_158 rfl 2 rfl ?_
          refine a_get (.ref 64) ob_58 (by decide) fl_X9_25 rfl dX9_drawn_159 ?_
          refine a_bipush (8 : Int32) dX9_drawn_162 rfl ?_
          obtain ⟨q15, hq15, hf⟩ := obind hf
          refine a_callS (as := [.ref 75, .ref 64, .int (8 : Int32)]) (stk := []) (q := none) (σ1 := q15) (kX9_copy (e + 3) 75 8 64 8 (8 : Int32) q14 ia_75 ia_64 _ hq15) sl_X9_279 rfl (Nat.le_of_ble_eq_true rfl) dX9_drawn_164 ?_
          refine a_aload_n dX9_drawn_167 rfl 2 rfl ?_
          refine a_iload dX9_drawn_168 5 rfl ?_
          refine a_putI ob_58 (by decide) fp_X9_194 (Or.inl rfl) dX9_drawn_170 ?_
          obtain ⟨σ16, hσ16, hf⟩ := bnd_elim hf
          rw [← hσ16]
          refine a_aload_n dX9_drawn_173 rfl 2 rfl ?_
          refine a_dup rfl dX9_drawn_174 ?_
          refine a_get (.int (σ16.1 58 19)) ob_58 (by decide) fl_X9_222 rfl dX9_drawn_175 ?_
          refine a_iload_n dX9_drawn_178 rfl 3 rfl ?_
          refine a_isub dX9_drawn_179 ?_
          refine a_putI ob_58 (by decide) fp_X9_222 (Or.inl rfl) dX9_drawn_180 ?_
          obtain ⟨σ17, hσ17, hf⟩ := bnd_elim hf
          rw [← hσ17]
          refine a_iload_n dX9_drawn_183 rfl 4 rfl ?_
          by_cases hc18 : p3 = 0
          · rw [if_pos hc18] at hf
            refine a_if_ne_f 192 dX9_drawn_184 (by decide) hc18 ?_
            refine a_iload dX9_drawn_187 6 rfl ?_
            refine a_goto 216 dX9_drawn_189 (by decide) ?_
            have hq := Option.some.inj hf
            subst hq
            exact a_iret rfl dX9_drawn_216
          · rw [if_neg hc18] at hf
            refine a_if_ne_t 192 dX9_drawn_184 (by decide) hc18 ?_
            refine a_iload_n dX9_drawn_192 rfl 4 rfl ?_
            refine a_iconst (1 : Int32) dX9_drawn_193 rfl ?_
            by_cases hc19 : p3 = (1 : Int32)
            · rw [if_pos hc19] at hf
              refine a_icmp_ne_f 202 dX9_drawn_194 (by decide) hc19 ?_
              refine a_iload dX9_drawn_197 1 rfl ?_
              refine a_goto 216 dX9_drawn_199 (by decide) ?_
              have hq := Option.some.inj hf
              subst hq
              exact a_iret rfl dX9_drawn_216
            · rw [if_neg hc19] at hf
              refine a_icmp_ne_t 202 dX9_drawn_194 (by decide) hc19 ?_
              refine a_iload_n dX9_drawn_202 rfl 4 rfl ?_
              refine a_iconst (2 : Int32) dX9_drawn_203 rfl ?_
              by_cases hc20 : p3 = (2 : Int32)
              · rw [if_pos hc20] at hf
                refine a_icmp_ne_f 212 dX9_drawn_204 (by decide) hc20 ?_
                refine a_iload dX9_drawn_207 0 rfl ?_
                refine a_goto 216 dX9_drawn_209 (by decide) ?_
                have hq := Option.some.inj hf
                subst hq
                exact a_iret rfl dX9_drawn_216
              · rw [if_neg hc20] at hf
                refine a_icmp_ne_t 212 dX9_drawn_204 (by decide) hc20 ?_
                refine a_aload_n dX9_drawn_212 rfl 2 rfl ?_
                refine a_get (.int (σ17.1 58 22)) ob_58 (by decide) fl_X9_202 rfl dX9_drawn_213 ?_
                have hq := Option.some.inj hf
                subst hq
                exact a_iret rfl dX9_drawn_216
        refine a_locs (loc' := [(0, .ref 58), (1, .int p1), (3, .int p3), (4, .int (q6.1 58 18)), (5, .int (0 : Int32)), (6, .int (0 : Int32))]) [3, 4, 6, 2, 1, 0] rfl ?_
        exact kX9_drawn_L87 e p1 p3 (q6.1 58 18) q10 fu (0 : Int32) (0 : Int32) σ7 hr21 hA22
set_option maxHeartbeats 4000000 in
set_option maxRecDepth 100000 in
theorem kX9_open_L38 (e : Nat)    {r : Option Value} {τ : St} (q : (St)) : ∀ (n : Nat) (v3 : Int32) (σ : St), fX9_open_L38 n v3 σ = some q → A (e + 2) MX9_open 57 [(0, .ref 58)] [] q r τ → A (e + 2) MX9_open 38 [(0, .ref 58), (3, .int v3)] [] σ r τ := by
  intro n
  induction n with
  | zero =>
    intro v3 σ  hf
    simp only [fX9_open_L38] at hf
    exact absurd hf (by simp)
  | succ n ih =>
    intro v3 σ  hf h2
    rw [fX9_open_L38] at hf
    refine a_iload_n dX9_open_38 rfl 1 rfl ?_
    refine a_bipush (8 : Int32) dX9_open_39 rfl ?_
    by_cases hc5 : (8 : Int32) ≤ v3
    · rw [if_pos hc5] at hf
      refine a_icmp_ge_t 57 dX9_open_41 (by decide) hc5 ?_
      have hq := Option.some.inj hf
      rw [← hq] at h2
      refine a_locs (loc' := [(0, .ref 58)]) [0] rfl ?_
      exact h2
    · rw [if_neg hc5] at hf
      refine a_icmp_ge_f 57 dX9_open_41 (by decide) hc5 ?_
      refine a_aload_n dX9_open_44 rfl 0 rfl ?_
      refine a_get (.ref 76) ob_58 (by decide) fl_X9_62 rfl dX9_open_45 ?_
      refine a_iload_n dX9_open_48 rfl 1 rfl ?_
      refine a_iconst (-1 : Int32) dX9_open_49 rfl ?_
      obtain ⟨hb6, hf⟩ := grd_elim hf
      refine a_iast ia_76 hb6 dX9_open_50 ?_
      obtain ⟨σ7, hσ7, hf⟩ := bnd_elim hf
      rw [← hσ7]
      refine a_iinc (v3 + (1 : Int32)) dX9_open_51 1 rfl rfl (by decide) (loc' := [(3, .int (v3 + (1 : Int32))), (0, .ref 58)]) rfl ?_
      refine a_goto 38 dX9_open_54 (by decide) ?_
      refine a_locs (loc' := [(0, .ref 58), (3, .int (v3 + (1 : Int32)))]) [1, 0] rfl ?_
      exact ih (v3 + (1 : Int32)) σ7 hf h2
set_option maxHeartbeats 4000000 in
set_option maxRecDepth 100000 in
theorem kX9_open (e : Nat) (p1 : Int32) (p2 : Int32) (σ : St)  (q : Int32 × St) (hf : fX9_open p1 p2 σ = some q) : Sp (e + 2) MX9_open [.ref 58, .int p1, .int p2] σ (some (.int q.1)) q.2 := by
  refine sp_of rfl (Nat.le_of_ble_eq_true rfl) (loc := [(0, .ref 58), (1, .int p1), (2, .int p2)]) rfl ?_
  unfold fX9_open at hf
  refine a_aload_n dX9_open_0 rfl 0 rfl ?_
  refine a_iload_n dX9_open_1 rfl 1 rfl ?_
  refine a_callV (as := [.int p1]) (stk := []) (q := some (.int (fX9_isPerson p1 σ))) (σ1 := σ) (kX9_isPerson e p1 σ) ob_58 vl_X9_147 rfl (Nat.le_of_ble_eq_true rfl) dX9_open_2 ?_
  by_cases hc1 : (fX9_isPerson p1 σ) = 0
  · rw [if_pos hc1] at hf
    refine a_if_ne_f 11 dX9_open_5 (by decide) hc1 ?_
    refine a_bipush (-101 : Int32) dX9_open_8 rfl ?_
    have hq := Option.some.inj hf
    subst hq
    exact a_iret rfl dX9_open_10
  · rw [if_neg hc1] at hf
    refine a_if_ne_t 11 dX9_open_5 (by decide) hc1 ?_
    refine a_iload_n dX9_open_11 rfl 2 rfl ?_
    refine a_i2l dX9_open_12 ?_
    refine a_lconst (1 : Int64) dX9_open_13 rfl ?_
    refine a_ldc2 rfl kc_X9_249 dX9_open_14 ?_
    refine a_callS (as := [.long p2.toInt64, .long (1 : Int64), .long (7 : Int64)]) (stk := []) (q := some (.int (fX9_in p2.toInt64 (1 : Int64) (7 : Int64)))) (σ1 := σ) (kX9_in (e + 1) p2.toInt64 (1 : Int64) (7 : Int64) σ) sl_X9_108 rfl (Nat.le_of_ble_eq_true rfl) dX9_open_17 ?_
    by_cases hc2 : (fX9_in p2.toInt64 (1 : Int64) (7 : Int64)) = 0
    · rw [if_pos hc2] at hf
      refine a_if_ne_f 26 dX9_open_20 (by decide) hc2 ?_
      refine a_bipush (-102 : Int32) dX9_open_23 rfl ?_
      have hq := Option.some.inj hf
      subst hq
      exact a_iret rfl dX9_open_25
    · rw [if_neg hc2] at hf
      refine a_if_ne_t 26 dX9_open_20 (by decide) hc2 ?_
      refine a_aload_n dX9_open_26 rfl 0 rfl ?_
      refine a_iload_n dX9_open_27 rfl 1 rfl ?_
      refine a_putI ob_58 (by decide) fp_X9_90 (Or.inl rfl) dX9_open_28 ?_
      obtain ⟨σ3, hσ3, hf⟩ := bnd_elim hf
      rw [← hσ3]
      refine a_aload_n dX9_open_31 rfl 0 rfl ?_
      refine a_iload_n dX9_open_32 rfl 2 rfl ?_
      refine a_putI ob_58 (by decide) fp_X9_286 (Or.inl rfl) dX9_open_33 ?_
      obtain ⟨σ4, hσ4, hf⟩ := bnd_elim hf
      rw [← hσ4]
      refine a_iconst (0 : Int32) dX9_open_36 rfl ?_
      refine a_istore_n dX9_open_37 rfl (by decide) (loc' := [(3, .int (0 : Int32)), (0, .ref 58), (1, .int p1), (2, .int p2)]) rfl ?_
      obtain ⟨q8, hr9, hf⟩ := obind hf
      have hA10 : A (e + 2) MX9_open 57 [(0, .ref 58)] [] q8 (some (.int q.1)) q.2 := by
        refine a_aload_n dX9_open_57 rfl 0 rfl ?_
        refine a_get (.int (q8.1 58 12)) ob_58 (by decide) fl_X9_144 rfl dX9_open_58 ?_
        have hq := Option.some.inj hf
        subst hq
        exact a_iret rfl dX9_open_61
      refine a_locs (loc' := [(0, .ref 58), (3, .int (0 : Int32))]) [1, 0] rfl ?_
      exact kX9_open_L38 e q8 fu (0 : Int32) σ4 hr9 hA10
theorem bX9_isYear (p1 : Int32) (σ : St) : fX9_isYear p1 σ = 0 ∨ fX9_isYear p1 σ = 1 := by
  obtain ⟨z, hf⟩ : ∃ z, fX9_isYear p1 σ = z := ⟨_, rfl⟩
  rw [hf]
  unfold fX9_isYear at hf
  subst hf
  exact (bX9_in p1.toInt64 (1 : Int64) ((σ.1 58 34).toInt64))
set_option maxHeartbeats 4000000 in
set_option maxRecDepth 100000 in
theorem kX9_isYear (e : Nat) (p1 : Int32) (σ : St)  : Sp (e + 1) MX9_isYear [.ref 58, .int p1] σ (some (.int (fX9_isYear p1 σ))) σ := by
  refine sp_of rfl (Nat.le_of_ble_eq_true rfl) (loc := [(0, .ref 58), (1, .int p1)]) rfl ?_
  obtain ⟨z, hf⟩ : ∃ z, fX9_isYear p1 σ = z := ⟨_, rfl⟩
  rw [hf]
  unfold fX9_isYear at hf
  refine a_iload_n dX9_isYear_0 rfl 1 rfl ?_
  refine a_i2l dX9_isYear_1 ?_
  refine a_lconst (1 : Int64) dX9_isYear_2 rfl ?_
  refine a_aload_n dX9_isYear_3 rfl 0 rfl ?_
  refine a_get (.int (σ.1 58 34)) ob_58 (by decide) fl_X9_286 rfl dX9_isYear_4 ?_
  refine a_i2l dX9_isYear_7 ?_
  refine a_callS (as := [.long p1.toInt64, .long (1 : Int64), .long ((σ.1 58 34).toInt64)]) (stk := []) (q := some (.int (fX9_in p1.toInt64 (1 : Int64) ((σ.1 58 34).toInt64)))) (σ1 := σ) (kX9_in e p1.toInt64 (1 : Int64) ((σ.1 58 34).toInt64) σ) sl_X9_108 rfl (Nat.le_of_ble_eq_true rfl) dX9_isYear_8 ?_
  subst hf
  exact a_zret rfl (bX9_in p1.toInt64 (1 : Int64) ((σ.1 58 34).toInt64)) dX9_isYear_11
set_option maxHeartbeats 4000000 in
set_option maxRecDepth 100000 in
theorem kX9_write (e : Nat) (p1 : Int32) (p2 : Int32) (σ : St)  (q : Int32 × St) (hf : fX9_write p1 p2 σ = some q) : Sp (e + 2) MX9_write [.ref 58, .int p1, .int p2] σ (some (.int q.1)) q.2 := by
  refine sp_of rfl (Nat.le_of_ble_eq_true rfl) (loc := [(0, .ref 58), (1, .int p1), (2, .int p2)]) rfl ?_
  unfold fX9_write at hf
  refine a_aload_n dX9_write_0 rfl 0 rfl ?_
  refine a_get (.int (σ.1 58 33)) ob_58 (by decide) fl_X9_90 rfl dX9_write_1 ?_
  refine a_iconst (-1 : Int32) dX9_write_4 rfl ?_
  by_cases hc1 : (σ.1 58 33) = (-1 : Int32)
  · rw [if_pos hc1] at hf
    refine a_icmp_ne_f 11 dX9_write_5 (by decide) hc1 ?_
    refine a_bipush (-103 : Int32) dX9_write_8 rfl ?_
    have hq := Option.some.inj hf
    subst hq
    exact a_iret rfl dX9_write_10
  · rw [if_neg hc1] at hf
    refine a_icmp_ne_t 11 dX9_write_5 (by decide) hc1 ?_
    refine a_aload_n dX9_write_11 rfl 0 rfl ?_
    refine a_iload_n dX9_write_12 rfl 1 rfl ?_
    refine a_callV (as := [.int p1]) (stk := []) (q := some (.int (fX9_isYear p1 σ))) (σ1 := σ) (kX9_isYear e p1 σ) ob_58 vl_X9_289 rfl (Nat.le_of_ble_eq_true rfl) dX9_write_13 ?_
    by_cases hc2 : (fX9_isYear p1 σ) = 0
    · rw [if_pos hc2] at hf
      refine a_if_eq_t 32 dX9_write_16 (by decide) hc2 ?_
      refine a_bipush (-101 : Int32) dX9_write_32 rfl ?_
      have hq := Option.some.inj hf
      subst hq
      exact a_iret rfl dX9_write_34
    · rw [if_neg hc2] at hf
      refine a_if_eq_f 32 dX9_write_16 (by decide) hc2 ?_
      refine a_iload_n dX9_write_19 rfl 2 rfl ?_
      refine a_iconst (-1 : Int32) dX9_write_20 rfl ?_
      by_cases hc3 : p2 = (-1 : Int32)
      · rw [if_pos hc3] at hf
        refine a_icmp_eq_t 35 dX9_write_21 (by decide) hc3 ?_
        refine a_aload_n dX9_write_35 rfl 0 rfl ?_
        refine a_get (.ref 76) ob_58 (by decide) fl_X9_62 rfl dX9_write_36 ?_
        refine a_iload_n dX9_write_39 rfl 1 rfl ?_
        obtain ⟨hb4, hf⟩ := grd_elim hf
        refine a_iald ia_76 hb4 dX9_write_40 ?_
        obtain ⟨x5, hx5, hf⟩ := bnd_elim hf
        refine a_top (w := .int x5) (by rw [hx5]) ?_
        refine a_istore_n dX9_write_41 rfl (by decide) (loc' := [(3, .int x5), (0, .ref 58), (1, .int p1), (2, .int p2)]) rfl ?_
        refine a_aload_n dX9_write_42 rfl 1 rfl ?_
        refine a_get (.ref 76) ob_58 (by decide) fl_X9_62 rfl dX9_write_43 ?_
        refine a_iload_n dX9_write_46 rfl 2 rfl ?_
        refine a_iload_n dX9_write_47 rfl 3 rfl ?_
        obtain ⟨hb6, hf⟩ := grd_elim hf
        refine a_iast ia_76 hb6 dX9_write_48 ?_
        obtain ⟨σ7, hσ7, hf⟩ := bnd_elim hf
        rw [← hσ7]
        refine a_iload_n dX9_write_49 rfl 0 rfl ?_
        have hq := Option.some.inj hf
        subst hq
        exact a_iret rfl dX9_write_50
      · rw [if_neg hc3] at hf
        refine a_icmp_eq_f 35 dX9_write_21 (by decide) hc3 ?_
        refine a_aload_n dX9_write_24 rfl 0 rfl ?_
        refine a_iload_n dX9_write_25 rfl 2 rfl ?_
        refine a_callV (as := [.int p2]) (stk := []) (q := some (.int (fX9_isPerson p2 σ))) (σ1 := σ) (kX9_isPerson e p2 σ) ob_58 vl_X9_147 rfl (Nat.le_of_ble_eq_true rfl) dX9_write_26 ?_
        by_cases hc8 : (fX9_isPerson p2 σ) = 0
        · rw [if_pos hc8] at hf
          refine a_if_ne_f 35 dX9_write_29 (by decide) hc8 ?_
          refine a_bipush (-101 : Int32) dX9_write_32 rfl ?_
          have hq := Option.some.inj hf
          subst hq
          exact a_iret rfl dX9_write_34
        · rw [if_neg hc8] at hf
          refine a_if_ne_t 35 dX9_write_29 (by decide) hc8 ?_
          refine a_aload_n dX9_write_35 rfl 0 rfl ?_
          refine a_get (.ref 76) ob_58 (by decide) fl_X9_62 rfl dX9_write_36 ?_
          refine a_iload_n dX9_write_39 rfl 1 rfl ?_
          obtain ⟨hb9, hf⟩ := grd_elim hf
          refine a_iald ia_76 hb9 dX9_write_40 ?_
          obtain ⟨x10, hx10, hf⟩ := bnd_elim hf
          refine a_top (w := .int x10) (by rw [hx10]) ?_
          refine a_istore_n dX9_write_41 rfl (by decide) (loc' := [(3, .int x10), (0, .ref 58), (1, .int p1), (2, .int p2)]) rfl ?_
          refine a_aload_n dX9_write_42 rfl 1 rfl ?_
          refine a_get (.ref 76) ob_58 (by decide) fl_X9_62 rfl dX9_write_43 ?_
          refine a_iload_n dX9_write_46 rfl 2 rfl ?_
          refine a_iload_n dX9_write_47 rfl 3 rfl ?_
          obtain ⟨hb11, hf⟩ := grd_elim hf
          refine a_iast ia_76 hb11 dX9_write_48 ?_
          obtain ⟨σ12, hσ12, hf⟩ := bnd_elim hf
          rw [← hσ12]
          refine a_iload_n dX9_write_49 rfl 0 rfl ?_
          have hq := Option.some.inj hf
          subst hq
          exact a_iret rfl dX9_write_50
set_option maxHeartbeats 4000000 in
set_option maxRecDepth 100000 in
theorem kX9_filledOf_L2 (e : Nat)    {r : Option Value} {τ : St} (q : (St)) : ∀ (n : Nat) (v1 : Int32) (σ : St), fX9_filledOf_L2 n v1 σ = some q → A e MX9_filledOf 39 [(0, .ref 58)] [] q r τ → A e MX9_filledOf 2 [(0, .ref 58), (1, .int v1)] [] σ r τ := by
  intro n
  induction n with
  | zero =>
    intro v1 σ  hf
    simp only [fX9_filledOf_L2] at hf
    exact absurd hf (by simp)
  | succ n ih =>
    intro v1 σ  hf h2
    rw [fX9_filledOf_L2] at hf
    refine a_iload_n dX9_filledOf_2 rfl 1 rfl ?_
    refine a_bipush (72 : Int32) dX9_filledOf_3 rfl ?_
    by_cases hc1 : (72 : Int32) ≤ v1
    · rw [if_pos hc1] at hf
      refine a_icmp_ge_t 39 dX9_filledOf_5 (by decide) hc1 ?_
      have hq := Option.some.inj hf
      rw [← hq] at h2
      refine a_locs (loc' := [(0, .ref 58)]) [0] rfl ?_
      exact h2
    · rw [if_neg hc1] at hf
      refine a_icmp_ge_f 39 dX9_filledOf_5 (by decide) hc1 ?_
      refine a_aload_n dX9_filledOf_8 rfl 0 rfl ?_
      refine a_get (.ref 67) ob_58 (by decide) fl_X9_34 rfl dX9_filledOf_9 ?_
      refine a_iload_n dX9_filledOf_12 rfl 1 rfl ?_
      refine a_iload_n dX9_filledOf_13 rfl 1 rfl ?_
      refine a_bipush (9 : Int32) dX9_filledOf_14 rfl ?_
      refine a_aload_n dX9_filledOf_16 rfl 0 rfl ?_
      refine a_get (.int (σ.1 58 33)) ob_58 (by decide) fl_X9_90 rfl dX9_filledOf_17 ?_
      refine a_imul dX9_filledOf_20 ?_
      refine a_bipush (8 : Int32) dX9_filledOf_21 rfl ?_
      refine a_iadd dX9_filledOf_23 ?_
      obtain ⟨x3, hx3, hf⟩ := bnd_elim hf
      have hA6 : A e MX9_filledOf 32 [(0, .ref 58), (1, .int v1)] [.long x3, .int v1, .ref 67] σ r τ := by
        obtain ⟨hb4, hf⟩ := grd_elim hf
        refine a_last la_67 hb4 dX9_filledOf_32 ?_
        obtain ⟨σ5, hσ5, hf⟩ := bnd_elim hf
        rw [← hσ5]
        refine a_iinc (v1 + (1 : Int32)) dX9_filledOf_33 1 rfl rfl (by decide) (loc' := [(1, .int (v1 + (1 : Int32))), (0, .ref 58)]) rfl ?_
        refine a_goto 2 dX9_filledOf_36 (by decide) ?_
        refine a_locs (loc' := [(0, .ref 58), (1, .int (v1 + (1 : Int32)))]) [1, 0] rfl ?_
        exact ih (v1 + (1 : Int32)) σ5 hf h2
      clear hf
      by_cases hc2 : v1 = (((9 : Int32) * (σ.1 58 33)) + (8 : Int32))
      · rw [if_pos hc2] at hx3
        refine a_icmp_ne_f 31 dX9_filledOf_24 (by decide) hc2 ?_
        refine a_lconst (1 : Int64) dX9_filledOf_27 rfl ?_
        refine a_goto 32 dX9_filledOf_28 (by decide) ?_
        replace hx3 := hx3.symm; subst hx3
        exact hA6
      · rw [if_neg hc2] at hx3
        refine a_icmp_ne_t 31 dX9_filledOf_24 (by decide) hc2 ?_
        refine a_lconst (0 : Int64) dX9_filledOf_31 rfl ?_
        replace hx3 := hx3.symm; subst hx3
        exact hA6
set_option maxHeartbeats 4000000 in
set_option maxRecDepth 100000 in
theorem kX9_filledOf_L51 (e : Nat) (c1 : Int32)   {r : Option Value} {τ : St} (q : (St)) : ∀ (n : Nat) (v2 : Int32) (σ : St), fX9_filledOf_L51 c1 n v2 σ = some q → A e MX9_filledOf 70 [(0, .ref 58), (1, .int c1)] [] q r τ → A e MX9_filledOf 51 [(0, .ref 58), (1, .int c1), (2, .int v2)] [] σ r τ := by
  intro n
  induction n with
  | zero =>
    intro v2 σ  hf
    simp only [fX9_filledOf_L51] at hf
    exact absurd hf (by simp)
  | succ n ih =>
    intro v2 σ  hf h2
    rw [fX9_filledOf_L51] at hf
    refine a_iload_n dX9_filledOf_51 rfl 2 rfl ?_
    refine a_bipush (72 : Int32) dX9_filledOf_52 rfl ?_
    by_cases hc9 : (72 : Int32) ≤ v2
    · rw [if_pos hc9] at hf
      refine a_icmp_ge_t 70 dX9_filledOf_54 (by decide) hc9 ?_
      have hq := Option.some.inj hf
      rw [← hq] at h2
      refine a_locs (loc' := [(0, .ref 58), (1, .int c1)]) [0, 1] rfl ?_
      exact h2
    · rw [if_neg hc9] at hf
      refine a_icmp_ge_f 70 dX9_filledOf_54 (by decide) hc9 ?_
      refine a_aload_n dX9_filledOf_57 rfl 0 rfl ?_
      refine a_get (.ref 68) ob_58 (by decide) fl_X9_38 rfl dX9_filledOf_58 ?_
      refine a_iload_n dX9_filledOf_61 rfl 2 rfl ?_
      refine a_lconst (0 : Int64) dX9_filledOf_62 rfl ?_
      obtain ⟨hb10, hf⟩ := grd_elim hf
      refine a_last la_68 hb10 dX9_filledOf_63 ?_
      obtain ⟨σ11, hσ11, hf⟩ := bnd_elim hf
      rw [← hσ11]
      refine a_iinc (v2 + (1 : Int32)) dX9_filledOf_64 2 rfl rfl (by decide) (loc' := [(2, .int (v2 + (1 : Int32))), (0, .ref 58), (1, .int c1)]) rfl ?_
      refine a_goto 51 dX9_filledOf_67 (by decide) ?_
      refine a_locs (loc' := [(0, .ref 58), (1, .int c1), (2, .int (v2 + (1 : Int32)))]) [1, 2, 0] rfl ?_
      exact ih (v2 + (1 : Int32)) σ11 hf h2
set_option maxHeartbeats 4000000 in
set_option maxRecDepth 100000 in
theorem kX9_filledOf_L86 (e : Nat) (c1 : Int32) (c2 : Int32) (c3 : Int32)   {r : Option Value} {τ : St} (q : (St)) : ∀ (n : Nat) (v4 : Int32) (σ : St), fX9_filledOf_L86 c1 c2 c3 n v4 σ = some q → A e MX9_filledOf 215 [(0, .ref 58), (1, .int c1), (2, .int c2)] [] q r τ → A e MX9_filledOf 86 [(0, .ref 58), (1, .int c1), (2, .int c2), (3, .int c3), (4, .int v4)] [] σ r τ := by
  intro n
  induction n with
  | zero =>
    intro v4 σ  hf
    simp only [fX9_filledOf_L86] at hf
    exact absurd hf (by simp)
  | succ n ih =>
    intro v4 σ  hf h2
    rw [fX9_filledOf_L86] at hf
    refine a_iload dX9_filledOf_86 4 rfl ?_
    refine a_aload_n dX9_filledOf_88 rfl 0 rfl ?_
    refine a_get (.int (σ.1 58 12)) ob_58 (by decide) fl_X9_144 rfl dX9_filledOf_89 ?_
    by_cases hc14 : (σ.1 58 12) ≤ v4
    · rw [if_pos hc14] at hf
      refine a_icmp_ge_t 215 dX9_filledOf_92 (by decide) hc14 ?_
      have hq := Option.some.inj hf
      rw [← hq] at h2
      refine a_locs (loc' := [(0, .ref 58), (1, .int c1), (2, .int c2)]) [0, 1, 2] rfl ?_
      exact h2
    · rw [if_neg hc14] at hf
      refine a_icmp_ge_f 215 dX9_filledOf_92 (by decide) hc14 ?_
      refine a_aload_n dX9_filledOf_95 rfl 0 rfl ?_
      refine a_get (.ref 67) ob_58 (by decide) fl_X9_34 rfl dX9_filledOf_96 ?_
      refine a_iload_n dX9_filledOf_99 rfl 2 rfl ?_
      obtain ⟨hb15, hf⟩ := grd_elim hf
      refine a_lald la_67 hb15 dX9_filledOf_100 ?_
      refine a_lconst (0 : Int64) dX9_filledOf_101 rfl ?_
      refine a_lcmp dX9_filledOf_102 ?_
      by_cases hc16 : (lg_cmp (σ.2 67 c2.toNatClampNeg) (0 : Int64)) ≤ 0
      · rw [if_pos hc16] at hf
        refine a_if_le_t 215 dX9_filledOf_103 (by decide) hc16 ?_
        have hq := Option.some.inj hf
        rw [← hq] at h2
        refine a_locs (loc' := [(0, .ref 58), (1, .int c1), (2, .int c2)]) [0, 1, 2] rfl ?_
        exact h2
      · rw [if_neg hc16] at hf
        refine a_if_le_f 215 dX9_filledOf_103 (by decide) hc16 ?_
        refine a_aload_n dX9_filledOf_106 rfl 0 rfl ?_
        refine a_get (.ref 61) ob_58 (by decide) fl_X9_16 rfl dX9_filledOf_107 ?_
        refine a_iload_n dX9_filledOf_110 rfl 3 rfl ?_
        obtain ⟨hb17, hf⟩ := grd_elim hf
        refine a_iald ia_61 hb17 dX9_filledOf_111 ?_
        refine a_iload dX9_filledOf_112 4 rfl ?_
        refine a_ishr dX9_filledOf_114 ?_
        refine a_iconst (1 : Int32) dX9_filledOf_115 rfl ?_
        refine a_iand dX9_filledOf_116 ?_
        refine a_iconst (1 : Int32) dX9_filledOf_117 rfl ?_
        obtain ⟨x19, hx19, hf⟩ := bnd_elim hf
        have hA36 : A e MX9_filledOf 144 [(0, .ref 58), (1, .int c1), (2, .int c2), (3, .int c3), (4, .int v4)] [.int x19] σ r τ := by
          refine a_istore dX9_filledOf_144 (by decide) (loc' := [(5, .int x19), (0, .ref 58), (1, .int c1), (2, .int c2), (3, .int c3), (4, .int v4)]) rfl ?_
          refine a_iload dX9_filledOf_146 0 rfl ?_
          obtain ⟨q21, hr31, hf⟩ := obind hf
          have hA30 : A e MX9_filledOf 177 [(0, .ref 58), (1, .int c1), (2, .int c2), (3, .int c3), (4, .int v4)] [.int q21] σ r τ := by
            refine a_istore dX9_filledOf_177 (by decide) (loc' := [(5, .int q21), (0, .ref 58), (1, .int c1), (2, .int c2), (3, .int c3), (4, .int v4)]) rfl ?_
            refine a_aload_n dX9_filledOf_179 rfl 1 rfl ?_
            refine a_get (.ref 68) ob_58 (by decide) fl_X9_38 rfl dX9_filledOf_180 ?_
            refine a_bipush (9 : Int32) dX9_filledOf_183 rfl ?_
            refine a_iload dX9_filledOf_185 5 rfl ?_
            refine a_imul dX9_filledOf_187 ?_
            refine a_iload_n dX9_filledOf_188 rfl 4 rfl ?_
            refine a_iadd dX9_filledOf_189 ?_
            refine a_dup2 rfl rfl dX9_filledOf_190 ?_
            obtain ⟨hb22, hf⟩ := grd_elim hf
            refine a_lald la_68 hb22 dX9_filledOf_191 ?_
            refine a_iload dX9_filledOf_192 0 rfl ?_
            obtain ⟨q24, hr28, hf⟩ := obind hf
            have hA27 : A e MX9_filledOf 207 [(0, .ref 58), (1, .int c1), (2, .int c2), (3, .int c3), (4, .int v4)] [.long q24, .long (σ.2 68 (((9 : Int32) * v4) + c3).toNatClampNeg), .int (((9 : Int32) * v4) + c3), .ref 68] σ r τ := by
              refine a_ladd dX9_filledOf_207 ?_
              obtain ⟨hb25, hf⟩ := grd_elim hf
              refine a_last la_68 hb25 dX9_filledOf_208 ?_
              obtain ⟨σ26, hσ26, hf⟩ := bnd_elim hf
              rw [← hσ26]
              refine a_iinc (v4 + (1 : Int32)) dX9_filledOf_209 4 rfl rfl (by decide) (loc' := [(4, .int (v4 + (1 : Int32))), (0, .ref 58), (1, .int c1), (2, .int c2), (3, .int c3)]) rfl ?_
              refine a_goto 86 dX9_filledOf_212 (by decide) ?_
              refine a_locs (loc' := [(0, .ref 58), (1, .int c1), (2, .int c2), (3, .int c3), (4, .int (v4 + (1 : Int32)))]) [1, 2, 3, 4, 0] rfl ?_
              exact ih (v4 + (1 : Int32)) σ26 hf h2
            clear hf
            have hf := hr28
            clear hr28
            by_cases hc23 : q21 = 0
            · rw [if_pos hc23] at hf
              refine a_if_eq_t 206 dX9_filledOf_194 (by decide) hc23 ?_
              refine a_lconst (0 : Int64) dX9_filledOf_206 rfl ?_
              have hq := Option.some.inj hf
              subst hq
              refine a_locs (loc' := [(0, .ref 58), (1, .int c1), (2, .int c2), (3, .int c3), (4, .int v4)]) [1, 2, 3, 4, 5] rfl ?_
              exact hA27
            · rw [if_neg hc23] at hf
              refine a_if_eq_f 206 dX9_filledOf_194 (by decide) hc23 ?_
              refine a_aload_n dX9_filledOf_197 rfl 1 rfl ?_
              refine a_get (.ref 67) ob_58 (by decide) fl_X9_34 rfl dX9_filledOf_198 ?_
              refine a_iload_n dX9_filledOf_201 rfl 3 rfl ?_
              obtain ⟨hb29, hf⟩ := grd_elim hf
              refine a_lald la_67 hb29 dX9_filledOf_202 ?_
              refine a_goto 207 dX9_filledOf_203 (by decide) ?_
              have hq := Option.some.inj hf
              subst hq
              refine a_locs (loc' := [(0, .ref 58), (1, .int c1), (2, .int c2), (3, .int c3), (4, .int v4)]) [1, 2, 3, 4, 5] rfl ?_
              exact hA27
          clear hf
          have hf := hr31
          clear hr31
          by_cases hc20 : x19 = 0
          · rw [if_pos hc20] at hf
            refine a_if_eq_t 176 dX9_filledOf_148 (by decide) hc20 ?_
            refine a_iconst (0 : Int32) dX9_filledOf_176 rfl ?_
            have hq := Option.some.inj hf
            subst hq
            refine a_locs (loc' := [(0, .ref 58), (1, .int c1), (2, .int c2), (3, .int c3), (4, .int v4)]) [1, 2, 3, 4, 5] rfl ?_
            exact hA30
          · rw [if_neg hc20] at hf
            refine a_if_eq_f 176 dX9_filledOf_148 (by decide) hc20 ?_
            refine a_aload_n dX9_filledOf_151 rfl 1 rfl ?_
            refine a_get (.ref 76) ob_58 (by decide) fl_X9_62 rfl dX9_filledOf_152 ?_
            refine a_iload_n dX9_filledOf_155 rfl 2 rfl ?_
            obtain ⟨hb32, hf⟩ := grd_elim hf
            refine a_iald ia_76 hb32 dX9_filledOf_156 ?_
            refine a_iconst (-1 : Int32) dX9_filledOf_157 rfl ?_
            by_cases hc33 : (σ.1 76 c1.toNatClampNeg) = (-1 : Int32)
            · rw [if_pos hc33] at hf
              refine a_icmp_eq_t 172 dX9_filledOf_158 (by decide) hc33 ?_
              refine a_iconst (1 : Int32) dX9_filledOf_172 rfl ?_
              refine a_goto 177 dX9_filledOf_173 (by decide) ?_
              have hq := Option.some.inj hf
              subst hq
              refine a_locs (loc' := [(0, .ref 58), (1, .int c1), (2, .int c2), (3, .int c3), (4, .int v4)]) [1, 2, 3, 4, 5] rfl ?_
              exact hA30
            · rw [if_neg hc33] at hf
              refine a_icmp_eq_f 172 dX9_filledOf_158 (by decide) hc33 ?_
              refine a_aload_n dX9_filledOf_161 rfl 1 rfl ?_
              refine a_get (.ref 76) ob_58 (by decide) fl_X9_62 rfl dX9_filledOf_162 ?_
              refine a_iload_n dX9_filledOf_165 rfl 2 rfl ?_
              obtain ⟨hb34, hf⟩ := grd_elim hf
              refine a_iald ia_76 hb34 dX9_filledOf_166 ?_
              refine a_iload dX9_filledOf_167 5 rfl ?_
              by_cases hc35 : (σ.1 76 c1.toNatClampNeg) = v4
              · rw [if_pos hc35] at hf
                refine a_icmp_ne_f 176 dX9_filledOf_169 (by decide) hc35 ?_
                refine a_iconst (1 : Int32) dX9_filledOf_172 rfl ?_
                refine a_goto 177 dX9_filledOf_173 (by decide) ?_
                have hq := Option.some.inj hf
                subst hq
                refine a_locs (loc' := [(0, .ref 58), (1, .int c1), (2, .int c2), (3, .int c3), (4, .int v4)]) [1, 2, 3, 4, 5] rfl ?_
                exact hA30
              · rw [if_neg hc35] at hf
                refine a_icmp_ne_t 176 dX9_filledOf_169 (by decide) hc35 ?_
                refine a_iconst (0 : Int32) dX9_filledOf_176 rfl ?_
                have hq := Option.some.inj hf
                subst hq
                refine a_locs (loc' := [(0, .ref 58), (1, .int c1), (2, .int c2), (3, .int c3), (4, .int v4)]) [1, 2, 3, 4, 5] rfl ?_
                exact hA30
        clear hf
        by_cases hc18 : (((σ.1 61 c3.toNatClampNeg) >>> (v4 &&& 31)) &&& (1 : Int32)) = (1 : Int32)
        · rw [if_pos hc18] at hx19
          refine a_icmp_ne_f 143 dX9_filledOf_118 (by decide) hc18 ?_
          refine a_iload dX9_filledOf_121 4 rfl ?_
          refine a_iload_n dX9_filledOf_123 rfl 2 rfl ?_
          refine a_bipush (9 : Int32) dX9_filledOf_124 rfl ?_
          refine a_irem (by decide) dX9_filledOf_126 ?_
          by_cases hc37 : v4 = (c2 - c2 / (9 : Int32) * (9 : Int32))
          · rw [if_pos hc37] at hx19
            refine a_icmp_eq_t 143 dX9_filledOf_127 (by decide) hc37 ?_
            refine a_iconst (0 : Int32) dX9_filledOf_143 rfl ?_
            replace hx19 := hx19.symm; subst hx19
            exact hA36
          · rw [if_neg hc37] at hx19
            refine a_icmp_eq_f 143 dX9_filledOf_127 (by decide) hc37 ?_
            refine a_iload dX9_filledOf_130 4 rfl ?_
            refine a_aload_n dX9_filledOf_132 rfl 0 rfl ?_
            refine a_get (.int (σ.1 58 33)) ob_58 (by decide) fl_X9_90 rfl dX9_filledOf_133 ?_
            by_cases hc38 : v4 = (σ.1 58 33)
            · rw [if_pos hc38] at hx19
              refine a_icmp_eq_t 143 dX9_filledOf_136 (by decide) hc38 ?_
              refine a_iconst (0 : Int32) dX9_filledOf_143 rfl ?_
              replace hx19 := hx19.symm; subst hx19
              exact hA36
            · rw [if_neg hc38] at hx19
              refine a_icmp_eq_f 143 dX9_filledOf_136 (by decide) hc38 ?_
              refine a_iconst (1 : Int32) dX9_filledOf_139 rfl ?_
              refine a_goto 144 dX9_filledOf_140 (by decide) ?_
              replace hx19 := hx19.symm; subst hx19
              exact hA36
        · rw [if_neg hc18] at hx19
          refine a_icmp_ne_t 143 dX9_filledOf_118 (by decide) hc18 ?_
          refine a_iconst (0 : Int32) dX9_filledOf_143 rfl ?_
          replace hx19 := hx19.symm; subst hx19
          exact hA36
set_option maxHeartbeats 4000000 in
set_option maxRecDepth 100000 in
theorem kX9_filledOf_L72 (e : Nat) (c1 : Int32)   {r : Option Value} {τ : St} (q : (St)) : ∀ (n : Nat) (v2 : Int32) (σ : St), fX9_filledOf_L72 c1 n v2 σ = some q → A e MX9_filledOf 221 [(0, .ref 58), (1, .int c1)] [] q r τ → A e MX9_filledOf 72 [(0, .ref 58), (1, .int c1), (2, .int v2)] [] σ r τ := by
  intro n
  induction n with
  | zero =>
    intro v2 σ  hf
    simp only [fX9_filledOf_L72] at hf
    exact absurd hf (by simp)
  | succ n ih =>
    intro v2 σ  hf h2
    rw [fX9_filledOf_L72] at hf
    refine a_iload_n dX9_filledOf_72 rfl 2 rfl ?_
    refine a_bipush (72 : Int32) dX9_filledOf_73 rfl ?_
    by_cases hc13 : (72 : Int32) ≤ v2
    · rw [if_pos hc13] at hf
      refine a_icmp_ge_t 221 dX9_filledOf_75 (by decide) hc13 ?_
      have hq := Option.some.inj hf
      rw [← hq] at h2
      refine a_locs (loc' := [(0, .ref 58), (1, .int c1)]) [0, 1] rfl ?_
      exact h2
    · rw [if_neg hc13] at hf
      refine a_icmp_ge_f 221 dX9_filledOf_75 (by decide) hc13 ?_
      refine a_iload_n dX9_filledOf_78 rfl 2 rfl ?_
      refine a_bipush (9 : Int32) dX9_filledOf_79 rfl ?_
      refine a_idiv (by decide) dX9_filledOf_81 ?_
      refine a_istore_n dX9_filledOf_82 rfl (by decide) (loc' := [(3, .int (v2 / (9 : Int32))), (0, .ref 58), (1, .int c1), (2, .int v2)]) rfl ?_
      refine a_iconst (0 : Int32) dX9_filledOf_83 rfl ?_
      refine a_istore dX9_filledOf_84 (by decide) (loc' := [(4, .int (0 : Int32)), (3, .int (v2 / (9 : Int32))), (0, .ref 58), (1, .int c1), (2, .int v2)]) rfl ?_
      obtain ⟨q39, hr40, hf⟩ := obind hf
      have hA41 : A e MX9_filledOf 215 [(0, .ref 58), (1, .int c1), (2, .int v2)] [] q39 r τ := by
        refine a_iinc (v2 + (1 : Int32)) dX9_filledOf_215 2 rfl rfl (by decide) (loc' := [(2, .int (v2 + (1 : Int32))), (0, .ref 58), (1, .int c1)]) rfl ?_
        refine a_goto 72 dX9_filledOf_218 (by decide) ?_
        refine a_locs (loc' := [(0, .ref 58), (1, .int c1), (2, .int (v2 + (1 : Int32)))]) [1, 2, 0] rfl ?_
        exact ih (v2 + (1 : Int32)) q39 hf h2
      refine a_locs (loc' := [(0, .ref 58), (1, .int c1), (2, .int v2), (3, .int (v2 / (9 : Int32))), (4, .int (0 : Int32))]) [2, 3, 4, 1, 0] rfl ?_
      exact kX9_filledOf_L86 e c1 v2 (v2 / (9 : Int32)) q39 fu (0 : Int32) σ hr40 hA41
set_option maxHeartbeats 4000000 in
set_option maxRecDepth 100000 in
theorem kX9_filledOf_L223 (e : Nat) (c1 : Int32)   {r : Option Value} {τ : St} (q : (St)) : ∀ (n : Nat) (v2 : Int32) (σ : St), fX9_filledOf_L223 c1 n v2 σ = some q → A e MX9_filledOf 247 [(0, .ref 58), (1, .int c1)] [] q r τ → A e MX9_filledOf 223 [(0, .ref 58), (1, .int c1), (2, .int v2)] [] σ r τ := by
  intro n
  induction n with
  | zero =>
    intro v2 σ  hf
    simp only [fX9_filledOf_L223] at hf
    exact absurd hf (by simp)
  | succ n ih =>
    intro v2 σ  hf h2
    rw [fX9_filledOf_L223] at hf
    refine a_iload_n dX9_filledOf_223 rfl 2 rfl ?_
    refine a_bipush (72 : Int32) dX9_filledOf_224 rfl ?_
    by_cases hc43 : (72 : Int32) ≤ v2
    · rw [if_pos hc43] at hf
      refine a_icmp_ge_t 247 dX9_filledOf_226 (by decide) hc43 ?_
      have hq := Option.some.inj hf
      rw [← hq] at h2
      refine a_locs (loc' := [(0, .ref 58), (1, .int c1)]) [0, 1] rfl ?_
      exact h2
    · rw [if_neg hc43] at hf
      refine a_icmp_ge_f 247 dX9_filledOf_226 (by decide) hc43 ?_
      refine a_aload_n dX9_filledOf_229 rfl 0 rfl ?_
      refine a_get (.ref 67) ob_58 (by decide) fl_X9_34 rfl dX9_filledOf_230 ?_
      refine a_iload_n dX9_filledOf_233 rfl 2 rfl ?_
      refine a_aload_n dX9_filledOf_234 rfl 0 rfl ?_
      refine a_get (.ref 68) ob_58 (by decide) fl_X9_38 rfl dX9_filledOf_235 ?_
      refine a_iload_n dX9_filledOf_238 rfl 2 rfl ?_
      obtain ⟨hb44, hf⟩ := grd_elim hf
      refine a_lald la_68 hb44 dX9_filledOf_239 ?_
      obtain ⟨hb45, hf⟩ := grd_elim hf
      refine a_last la_67 hb45 dX9_filledOf_240 ?_
      obtain ⟨σ46, hσ46, hf⟩ := bnd_elim hf
      rw [← hσ46]
      refine a_iinc (v2 + (1 : Int32)) dX9_filledOf_241 2 rfl rfl (by decide) (loc' := [(2, .int (v2 + (1 : Int32))), (0, .ref 58), (1, .int c1)]) rfl ?_
      refine a_goto 223 dX9_filledOf_244 (by decide) ?_
      refine a_locs (loc' := [(0, .ref 58), (1, .int c1), (2, .int (v2 + (1 : Int32)))]) [1, 2, 0] rfl ?_
      exact ih (v2 + (1 : Int32)) σ46 hf h2
set_option maxHeartbeats 4000000 in
set_option maxRecDepth 100000 in
theorem kX9_filledOf_L41 (e : Nat)    {r : Option Value} {τ : St} (q : (St)) : ∀ (n : Nat) (v1 : Int32) (σ : St), fX9_filledOf_L41 n v1 σ = some q → A e MX9_filledOf 253 [(0, .ref 58)] [] q r τ → A e MX9_filledOf 41 [(0, .ref 58), (1, .int v1)] [] σ r τ := by
  intro n
  induction n with
  | zero =>
    intro v1 σ  hf
    simp only [fX9_filledOf_L41] at hf
    exact absurd hf (by simp)
  | succ n ih =>
    intro v1 σ  hf h2
    rw [fX9_filledOf_L41] at hf
    refine a_iload_n dX9_filledOf_41 rfl 1 rfl ?_
    refine a_aload_n dX9_filledOf_42 rfl 0 rfl ?_
    refine a_get (.int (σ.1 58 34)) ob_58 (by decide) fl_X9_286 rfl dX9_filledOf_43 ?_
    by_cases hc8 : (σ.1 58 34) < v1
    · rw [if_pos hc8] at hf
      refine a_icmp_gt_t 253 dX9_filledOf_46 (by decide) hc8 ?_
      have hq := Option.some.inj hf
      rw [← hq] at h2
      refine a_locs (loc' := [(0, .ref 58)]) [0] rfl ?_
      exact h2
    · rw [if_neg hc8] at hf
      refine a_icmp_gt_f 253 dX9_filledOf_46 (by decide) hc8 ?_
      refine a_iconst (0 : Int32) dX9_filledOf_49 rfl ?_
      refine a_istore_n dX9_filledOf_50 rfl (by decide) (loc' := [(2, .int (0 : Int32)), (0, .ref 58), (1, .int v1)]) rfl ?_
      obtain ⟨q12, hr52, hf⟩ := obind hf
      have hA53 : A e MX9_filledOf 70 [(0, .ref 58), (1, .int v1)] [] q12 r τ := by
        refine a_iconst (0 : Int32) dX9_filledOf_70 rfl ?_
        refine a_istore_n dX9_filledOf_71 rfl (by decide) (loc' := [(2, .int (0 : Int32)), (0, .ref 58), (1, .int v1)]) rfl ?_
        obtain ⟨q42, hr50, hf⟩ := obind hf
        have hA51 : A e MX9_filledOf 221 [(0, .ref 58), (1, .int v1)] [] q42 r τ := by
          refine a_iconst (0 : Int32) dX9_filledOf_221 rfl ?_
          refine a_istore_n dX9_filledOf_222 rfl (by decide) (loc' := [(2, .int (0 : Int32)), (0, .ref 58), (1, .int v1)]) rfl ?_
          obtain ⟨q47, hr48, hf⟩ := obind hf
          have hA49 : A e MX9_filledOf 247 [(0, .ref 58), (1, .int v1)] [] q47 r τ := by
            refine a_iinc (v1 + (1 : Int32)) dX9_filledOf_247 1 rfl rfl (by decide) (loc' := [(1, .int (v1 + (1 : Int32))), (0, .ref 58)]) rfl ?_
            refine a_goto 41 dX9_filledOf_250 (by decide) ?_
            refine a_locs (loc' := [(0, .ref 58), (1, .int (v1 + (1 : Int32)))]) [1, 0] rfl ?_
            exact ih (v1 + (1 : Int32)) q47 hf h2
          refine a_locs (loc' := [(0, .ref 58), (1, .int v1), (2, .int (0 : Int32))]) [1, 2, 0] rfl ?_
          exact kX9_filledOf_L223 e v1 q47 fu (0 : Int32) q42 hr48 hA49
        refine a_locs (loc' := [(0, .ref 58), (1, .int v1), (2, .int (0 : Int32))]) [1, 2, 0] rfl ?_
        exact kX9_filledOf_L72 e v1 q42 fu (0 : Int32) q12 hr50 hA51
      refine a_locs (loc' := [(0, .ref 58), (1, .int v1), (2, .int (0 : Int32))]) [1, 2, 0] rfl ?_
      exact kX9_filledOf_L51 e v1 q12 fu (0 : Int32) σ hr52 hA53
set_option maxHeartbeats 4000000 in
set_option maxRecDepth 100000 in
theorem kX9_filledOf_L257 (e : Nat)  (σ : St)  {r : Option Value} {τ : St} (q : (Int64)) : ∀ (n : Nat) (v1 : Int64) (v3 : Int32), fX9_filledOf_L257 σ n v1 v3 = some q → A e MX9_filledOf 278 [(1, .long q)] [] σ r τ → A e MX9_filledOf 257 [(0, .ref 58), (1, .long v1), (3, .int v3)] [] σ r τ := by
  intro n
  induction n with
  | zero =>
    intro v1 v3  hf
    simp only [fX9_filledOf_L257] at hf
    exact absurd hf (by simp)
  | succ n ih =>
    intro v1 v3  hf h2
    rw [fX9_filledOf_L257] at hf
    refine a_iload_n dX9_filledOf_257 rfl 2 rfl ?_
    refine a_bipush (72 : Int32) dX9_filledOf_258 rfl ?_
    by_cases hc55 : (72 : Int32) ≤ v3
    · rw [if_pos hc55] at hf
      refine a_icmp_ge_t 278 dX9_filledOf_260 (by decide) hc55 ?_
      have hq := Option.some.inj hf
      rw [← hq] at h2
      refine a_locs (loc' := [(1, .long v1)]) [1] rfl ?_
      exact h2
    · rw [if_neg hc55] at hf
      refine a_icmp_ge_f 278 dX9_filledOf_260 (by decide) hc55 ?_
      refine a_lload_n dX9_filledOf_263 rfl 1 rfl ?_
      refine a_aload_n dX9_filledOf_264 rfl 0 rfl ?_
      refine a_get (.ref 67) ob_58 (by decide) fl_X9_34 rfl dX9_filledOf_265 ?_
      refine a_iload_n dX9_filledOf_268 rfl 2 rfl ?_
      obtain ⟨hb56, hf⟩ := grd_elim hf
      refine a_lald la_67 hb56 dX9_filledOf_269 ?_
      refine a_ladd dX9_filledOf_270 ?_
      obtain ⟨x57, hx57, hf⟩ := bnd_elim hf
      refine a_top (w := .long x57) (by rw [hx57]) ?_
      refine a_lstore_n dX9_filledOf_271 rfl (by decide) (loc' := [(1, .long x57), (0, .ref 58), (3, .int v3)]) rfl ?_
      refine a_iinc (v3 + (1 : Int32)) dX9_filledOf_272 2 rfl rfl (by decide) (loc' := [(3, .int (v3 + (1 : Int32))), (1, .long x57), (0, .ref 58)]) rfl ?_
      refine a_goto 257 dX9_filledOf_275 (by decide) ?_
      refine a_locs (loc' := [(0, .ref 58), (1, .long x57), (3, .int (v3 + (1 : Int32)))]) [2, 1, 0] rfl ?_
      exact ih x57 (v3 + (1 : Int32)) hf h2
set_option maxHeartbeats 4000000 in
set_option maxRecDepth 100000 in
theorem kX9_filledOf (e : Nat)  (σ : St)  (q : Int32 × St) (hf : fX9_filledOf σ = some q) : Sp e MX9_filledOf [.ref 58] σ (some (.int q.1)) q.2 := by
  refine sp_of rfl (Nat.le_of_ble_eq_true rfl) (loc := [(0, .ref 58)]) rfl ?_
  unfold fX9_filledOf at hf
  refine a_iconst (0 : Int32) dX9_filledOf_0 rfl ?_
  refine a_istore_n dX9_filledOf_1 rfl (by decide) (loc' := [(1, .int (0 : Int32)), (0, .ref 58)]) rfl ?_
  obtain ⟨q7, hr63, hf⟩ := obind hf
  have hA64 : A e MX9_filledOf 39 [(0, .ref 58)] [] q7 (some (.int q.1)) q.2 := by
    refine a_iconst (1 : Int32) dX9_filledOf_39 rfl ?_
    refine a_istore_n dX9_filledOf_40 rfl (by decide) (loc' := [(1, .int (1 : Int32)), (0, .ref 58)]) rfl ?_
    obtain ⟨q54, hr61, hf⟩ := obind hf
    have hA62 : A e MX9_filledOf 253 [(0, .ref 58)] [] q54 (some (.int q.1)) q.2 := by
      refine a_lconst (0 : Int64) dX9_filledOf_253 rfl ?_
      refine a_lstore_n dX9_filledOf_254 rfl (by decide) (loc' := [(1, .long (0 : Int64)), (0, .ref 58)]) rfl ?_
      refine a_iconst (0 : Int32) dX9_filledOf_255 rfl ?_
      refine a_istore_n dX9_filledOf_256 rfl (by decide) (loc' := [(3, .int (0 : Int32)), (1, .long (0 : Int64)), (0, .ref 58)]) rfl ?_
      obtain ⟨q58, hr59, hf⟩ := obind hf
      have hA60 : A e MX9_filledOf 278 [(1, .long q58)] [] q54 (some (.int q.1)) q.2 := by
        refine a_lload_n dX9_filledOf_278 rfl 0 rfl ?_
        refine a_l2i dX9_filledOf_279 ?_
        have hq := Option.some.inj hf
        subst hq
        exact a_iret rfl dX9_filledOf_280
      refine a_locs (loc' := [(0, .ref 58), (1, .long (0 : Int64)), (3, .int (0 : Int32))]) [2, 1, 0] rfl ?_
      exact kX9_filledOf_L257 e q54 q58 fu (0 : Int64) (0 : Int32) hr59 hA60
    refine a_locs (loc' := [(0, .ref 58), (1, .int (1 : Int32))]) [1, 0] rfl ?_
    exact kX9_filledOf_L41 e q54 fu (1 : Int32) q7 hr61 hA62
  refine a_locs (loc' := [(0, .ref 58), (1, .int (0 : Int32))]) [1, 0] rfl ?_
  exact kX9_filledOf_L2 e q7 fu (0 : Int32) σ hr63 hA64
set_option maxHeartbeats 4000000 in
set_option maxRecDepth 100000 in
theorem kX9_filled (e : Nat)  (σ : St)  (q : Int32 × St) (hf : fX9_filled σ = some q) : Sp (e + 1) MX9_filled [.ref 58] σ (some (.int q.1)) q.2 := by
  refine sp_of rfl (Nat.le_of_ble_eq_true rfl) (loc := [(0, .ref 58)]) rfl ?_
  unfold fX9_filled at hf
  refine a_aload_n dX9_filled_0 rfl 0 rfl ?_
  refine a_get (.int (σ.1 58 33)) ob_58 (by decide) fl_X9_90 rfl dX9_filled_1 ?_
  refine a_iconst (-1 : Int32) dX9_filled_4 rfl ?_
  by_cases hc1 : (σ.1 58 33) = (-1 : Int32)
  · rw [if_pos hc1] at hf
    refine a_icmp_ne_f 13 dX9_filled_5 (by decide) hc1 ?_
    refine a_bipush (-103 : Int32) dX9_filled_8 rfl ?_
    refine a_goto 17 dX9_filled_10 (by decide) ?_
    have hq := Option.some.inj hf
    subst hq
    exact a_iret rfl dX9_filled_17
  · rw [if_neg hc1] at hf
    refine a_icmp_ne_t 13 dX9_filled_5 (by decide) hc1 ?_
    refine a_aload_n dX9_filled_13 rfl 0 rfl ?_
    obtain ⟨q2, hq2, hf⟩ := obind hf
    refine a_callV (as := []) (stk := []) (q := some (.int q2.1)) (σ1 := q2.2) (kX9_filledOf e σ _ hq2) ob_58 vl_X9_292 rfl (Nat.le_of_ble_eq_true rfl) dX9_filled_14 ?_
    have hq := Option.some.inj hf
    subst hq
    exact a_iret rfl dX9_filled_17
set_option maxHeartbeats 4000000 in
set_option maxRecDepth 100000 in
theorem kX9_sure_L37 (e : Nat) (c1 : Int32) (c2 : Int32)   {r : Option Value} {τ : St} (q : (Int32 × Int32 × St)) : ∀ (n : Nat) (v3 : Int32) (v4 : Int32) (v5 : Int32) (σ : St), fX9_sure_L37 c1 c2 n v3 v4 v5 σ = some q → A (e + 2) MX9_sure 112 [(0, .ref 58), (1, .int c1), (2, .int c2), (3, .int q.1), (4, .int q.2.1)] [] q.2.2 r τ → A (e + 2) MX9_sure 37 [(0, .ref 58), (1, .int c1), (2, .int c2), (3, .int v3), (4, .int v4), (5, .int v5)] [] σ r τ := by
  intro n
  induction n with
  | zero =>
    intro v3 v4 v5 σ  hf
    simp only [fX9_sure_L37] at hf
    exact absurd hf (by simp)
  | succ n ih =>
    intro v3 v4 v5 σ  hf h2
    rw [fX9_sure_L37] at hf
    refine a_iload dX9_sure_37 5 rfl ?_
    refine a_aload_n dX9_sure_39 rfl 0 rfl ?_
    refine a_get (.int (σ.1 58 12)) ob_58 (by decide) fl_X9_144 rfl dX9_sure_40 ?_
    by_cases hc5 : (σ.1 58 12) ≤ v5
    · rw [if_pos hc5] at hf
      refine a_icmp_ge_t 112 dX9_sure_43 (by decide) hc5 ?_
      have hq := Option.some.inj hf
      rw [← hq] at h2
      refine a_locs (loc' := [(0, .ref 58), (1, .int c1), (2, .int c2), (3, .int v3), (4, .int v4)]) [0, 1, 2, 3, 4] rfl ?_
      exact h2
    · rw [if_neg hc5] at hf
      refine a_icmp_ge_f 112 dX9_sure_43 (by decide) hc5 ?_
      refine a_aload_n dX9_sure_46 rfl 0 rfl ?_
      refine a_get (.ref 76) ob_58 (by decide) fl_X9_62 rfl dX9_sure_47 ?_
      refine a_iload_n dX9_sure_50 rfl 1 rfl ?_
      refine a_iload dX9_sure_51 5 rfl ?_
      obtain ⟨hb6, hf⟩ := grd_elim hf
      refine a_iast ia_76 hb6 dX9_sure_53 ?_
      obtain ⟨σ7, hσ7, hf⟩ := bnd_elim hf
      rw [← hσ7]
      refine a_iload_n dX9_sure_54 rfl 2 rfl ?_
      refine a_iconst (-1 : Int32) dX9_sure_55 rfl ?_
      obtain ⟨q9, hr17, hf⟩ := obind hf
      have hA16 : A (e + 2) MX9_sure 77 [(0, .ref 58), (1, .int c1), (2, .int c2), (3, .int v3), (4, .int v4), (5, .int v5)] [.int q9.1] q9.2 r τ := by
        refine a_istore dX9_sure_77 (by decide) (loc' := [(6, .int q9.1), (0, .ref 58), (1, .int c1), (2, .int c2), (3, .int v3), (4, .int v4), (5, .int v5)]) rfl ?_
        refine a_iload dX9_sure_79 0 rfl ?_
        obtain ⟨x11, hx11, hf⟩ := bnd_elim hf
        have hA15 : A (e + 2) MX9_sure 90 [(0, .ref 58), (1, .int c1), (2, .int c2), (4, .int v4), (5, .int v5), (6, .int q9.1)] [.int x11] q9.2 r τ := by
          refine a_istore_n dX9_sure_90 rfl (by decide) (loc' := [(3, .int x11), (0, .ref 58), (1, .int c1), (2, .int c2), (4, .int v4), (5, .int v5), (6, .int q9.1)]) rfl ?_
          refine a_iload dX9_sure_91 4 rfl ?_
          refine a_iload dX9_sure_93 6 rfl ?_
          obtain ⟨x13, hx13, hf⟩ := bnd_elim hf
          have hA14 : A (e + 2) MX9_sure 103 [(0, .ref 58), (1, .int c1), (2, .int c2), (3, .int x11), (5, .int v5)] [.int x13, .int v4] q9.2 r τ := by
            refine a_iadd dX9_sure_103 ?_
            refine a_istore dX9_sure_104 (by decide) (loc' := [(4, .int (v4 + x13)), (0, .ref 58), (1, .int c1), (2, .int c2), (3, .int x11), (5, .int v5)]) rfl ?_
            refine a_iinc (v5 + (1 : Int32)) dX9_sure_106 5 rfl rfl (by decide) (loc' := [(5, .int (v5 + (1 : Int32))), (4, .int (v4 + x13)), (0, .ref 58), (1, .int c1), (2, .int c2), (3, .int x11)]) rfl ?_
            refine a_goto 37 dX9_sure_109 (by decide) ?_
            refine a_locs (loc' := [(0, .ref 58), (1, .int c1), (2, .int c2), (3, .int x11), (4, .int (v4 + x13)), (5, .int (v5 + (1 : Int32)))]) [2, 3, 4, 5, 1, 0] rfl ?_
            exact ih x11 (v4 + x13) (v5 + (1 : Int32)) q9.2 hf h2
          clear hf
          by_cases hc12 : q9.1 = 0
          · rw [if_pos hc12] at hx13
            refine a_if_eq_t 102 dX9_sure_95 (by decide) hc12 ?_
            refine a_iconst (0 : Int32) dX9_sure_102 rfl ?_
            replace hx13 := hx13.symm; subst hx13
            refine a_locs (loc' := [(0, .ref 58), (1, .int c1), (2, .int c2), (3, .int x11), (5, .int v5)]) [1, 2, 3, 0, 5] rfl ?_
            exact hA14
          · rw [if_neg hc12] at hx13
            refine a_if_eq_f 102 dX9_sure_95 (by decide) hc12 ?_
            refine a_iconst (1 : Int32) dX9_sure_98 rfl ?_
            refine a_goto 103 dX9_sure_99 (by decide) ?_
            replace hx13 := hx13.symm; subst hx13
            refine a_locs (loc' := [(0, .ref 58), (1, .int c1), (2, .int c2), (3, .int x11), (5, .int v5)]) [1, 2, 3, 0, 5] rfl ?_
            exact hA14
        clear hf
        by_cases hc10 : q9.1 = 0
        · rw [if_pos hc10] at hx11
          refine a_if_eq_t 89 dX9_sure_81 (by decide) hc10 ?_
          refine a_iload_n dX9_sure_89 rfl 4 rfl ?_
          replace hx11 := hx11.symm; subst hx11
          refine a_locs (loc' := [(0, .ref 58), (1, .int c1), (2, .int c2), (4, .int v4), (5, .int v5), (6, .int q9.1)]) [1, 2, 3, 5, 6, 0] rfl ?_
          exact hA15
        · rw [if_neg hc10] at hx11
          refine a_if_eq_f 89 dX9_sure_81 (by decide) hc10 ?_
          refine a_iload dX9_sure_84 6 rfl ?_
          refine a_goto 90 dX9_sure_86 (by decide) ?_
          replace hx11 := hx11.symm; subst hx11
          refine a_locs (loc' := [(0, .ref 58), (1, .int c1), (2, .int c2), (4, .int v4), (5, .int v5), (6, .int q9.1)]) [1, 2, 3, 5, 6, 0] rfl ?_
          exact hA15
      clear hf
      have hf := hr17
      clear hr17
      by_cases hc8 : c2 = (-1 : Int32)
      · rw [if_pos hc8] at hf
        refine a_icmp_eq_t 65 dX9_sure_56 (by decide) hc8 ?_
        refine a_aload_n dX9_sure_65 rfl 0 rfl ?_
        obtain ⟨q18, hq18, hf⟩ := obind hf
        refine a_callV (as := []) (stk := []) (q := some (.int q18.1)) (σ1 := q18.2) (kX9_filledOf (e + 1) σ7 _ hq18) ob_58 vl_X9_292 rfl (Nat.le_of_ble_eq_true rfl) dX9_sure_66 ?_
        by_cases hc19 : q18.1 ≤ 0
        · rw [if_pos hc19] at hf
          refine a_if_le_t 76 dX9_sure_69 (by decide) hc19 ?_
          refine a_iconst (0 : Int32) dX9_sure_76 rfl ?_
          have hq := Option.some.inj hf
          subst hq
          exact hA16
        · rw [if_neg hc19] at hf
          refine a_if_le_f 76 dX9_sure_69 (by decide) hc19 ?_
          refine a_iconst (1 : Int32) dX9_sure_72 rfl ?_
          refine a_goto 77 dX9_sure_73 (by decide) ?_
          have hq := Option.some.inj hf
          subst hq
          exact hA16
      · rw [if_neg hc8] at hf
        refine a_icmp_eq_f 65 dX9_sure_56 (by decide) hc8 ?_
        refine a_iload_n dX9_sure_59 rfl 2 rfl ?_
        refine a_iload dX9_sure_60 5 rfl ?_
        by_cases hc20 : c2 = v5
        · rw [if_pos hc20] at hf
          refine a_icmp_ne_f 76 dX9_sure_62 (by decide) hc20 ?_
          refine a_aload_n dX9_sure_65 rfl 0 rfl ?_
          obtain ⟨q21, hq21, hf⟩ := obind hf
          refine a_callV (as := []) (stk := []) (q := some (.int q21.1)) (σ1 := q21.2) (kX9_filledOf (e + 1) σ7 _ hq21) ob_58 vl_X9_292 rfl (Nat.le_of_ble_eq_true rfl) dX9_sure_66 ?_
          by_cases hc22 : q21.1 ≤ 0
          · rw [if_pos hc22] at hf
            refine a_if_le_t 76 dX9_sure_69 (by decide) hc22 ?_
            refine a_iconst (0 : Int32) dX9_sure_76 rfl ?_
            have hq := Option.some.inj hf
            subst hq
            exact hA16
          · rw [if_neg hc22] at hf
            refine a_if_le_f 76 dX9_sure_69 (by decide) hc22 ?_
            refine a_iconst (1 : Int32) dX9_sure_72 rfl ?_
            refine a_goto 77 dX9_sure_73 (by decide) ?_
            have hq := Option.some.inj hf
            subst hq
            exact hA16
        · rw [if_neg hc20] at hf
          refine a_icmp_ne_t 76 dX9_sure_62 (by decide) hc20 ?_
          refine a_iconst (0 : Int32) dX9_sure_76 rfl ?_
          have hq := Option.some.inj hf
          subst hq
          exact hA16
set_option maxHeartbeats 4000000 in
set_option maxRecDepth 100000 in
theorem kX9_sure (e : Nat) (p1 : Int32) (σ : St)  (q : Int32 × St) (hf : fX9_sure p1 σ = some q) : Sp (e + 2) MX9_sure [.ref 58, .int p1] σ (some (.int q.1)) q.2 := by
  refine sp_of rfl (Nat.le_of_ble_eq_true rfl) (loc := [(0, .ref 58), (1, .int p1)]) rfl ?_
  unfold fX9_sure at hf
  refine a_aload_n dX9_sure_0 rfl 0 rfl ?_
  refine a_get (.int (σ.1 58 33)) ob_58 (by decide) fl_X9_90 rfl dX9_sure_1 ?_
  refine a_iconst (-1 : Int32) dX9_sure_4 rfl ?_
  by_cases hc1 : (σ.1 58 33) = (-1 : Int32)
  · rw [if_pos hc1] at hf
    refine a_icmp_ne_f 11 dX9_sure_5 (by decide) hc1 ?_
    refine a_bipush (-103 : Int32) dX9_sure_8 rfl ?_
    have hq := Option.some.inj hf
    subst hq
    exact a_iret rfl dX9_sure_10
  · rw [if_neg hc1] at hf
    refine a_icmp_ne_t 11 dX9_sure_5 (by decide) hc1 ?_
    refine a_aload_n dX9_sure_11 rfl 0 rfl ?_
    refine a_iload_n dX9_sure_12 rfl 1 rfl ?_
    refine a_callV (as := [.int p1]) (stk := []) (q := some (.int (fX9_isYear p1 σ))) (σ1 := σ) (kX9_isYear e p1 σ) ob_58 vl_X9_289 rfl (Nat.le_of_ble_eq_true rfl) dX9_sure_13 ?_
    by_cases hc2 : (fX9_isYear p1 σ) = 0
    · rw [if_pos hc2] at hf
      refine a_if_ne_f 22 dX9_sure_16 (by decide) hc2 ?_
      refine a_bipush (-101 : Int32) dX9_sure_19 rfl ?_
      have hq := Option.some.inj hf
      subst hq
      exact a_iret rfl dX9_sure_21
    · rw [if_neg hc2] at hf
      refine a_if_ne_t 22 dX9_sure_16 (by decide) hc2 ?_
      refine a_aload_n dX9_sure_22 rfl 0 rfl ?_
      refine a_get (.ref 76) ob_58 (by decide) fl_X9_62 rfl dX9_sure_23 ?_
      refine a_iload_n dX9_sure_26 rfl 1 rfl ?_
      obtain ⟨hb3, hf⟩ := grd_elim hf
      refine a_iald ia_76 hb3 dX9_sure_27 ?_
      obtain ⟨x4, hx4, hf⟩ := bnd_elim hf
      refine a_top (w := .int x4) (by rw [hx4]) ?_
      refine a_istore_n dX9_sure_28 rfl (by decide) (loc' := [(2, .int x4), (0, .ref 58), (1, .int p1)]) rfl ?_
      refine a_iconst (-1 : Int32) dX9_sure_29 rfl ?_
      refine a_istore_n dX9_sure_30 rfl (by decide) (loc' := [(3, .int (-1 : Int32)), (2, .int x4), (0, .ref 58), (1, .int p1)]) rfl ?_
      refine a_iconst (0 : Int32) dX9_sure_31 rfl ?_
      refine a_istore dX9_sure_32 (by decide) (loc' := [(4, .int (0 : Int32)), (3, .int (-1 : Int32)), (2, .int x4), (0, .ref 58), (1, .int p1)]) rfl ?_
      refine a_iconst (0 : Int32) dX9_sure_34 rfl ?_
      refine a_istore dX9_sure_35 (by decide) (loc' := [(5, .int (0 : Int32)), (4, .int (0 : Int32)), (3, .int (-1 : Int32)), (2, .int x4), (0, .ref 58), (1, .int p1)]) rfl ?_
      obtain ⟨q23, hr27, hf⟩ := obind hf
      have hA28 : A (e + 2) MX9_sure 112 [(0, .ref 58), (1, .int p1), (2, .int x4), (3, .int q23.1), (4, .int q23.2.1)] [] q23.2.2 (some (.int q.1)) q.2 := by
        refine a_aload_n dX9_sure_112 rfl 0 rfl ?_
        refine a_get (.ref 76) ob_58 (by decide) fl_X9_62 rfl dX9_sure_113 ?_
        refine a_iload_n dX9_sure_116 rfl 1 rfl ?_
        refine a_iload_n dX9_sure_117 rfl 2 rfl ?_
        obtain ⟨hb24, hf⟩ := grd_elim hf
        refine a_iast ia_76 hb24 dX9_sure_118 ?_
        obtain ⟨σ25, hσ25, hf⟩ := bnd_elim hf
        rw [← hσ25]
        refine a_iload dX9_sure_119 4 rfl ?_
        refine a_iconst (1 : Int32) dX9_sure_121 rfl ?_
        by_cases hc26 : q23.2.1 = (1 : Int32)
        · rw [if_pos hc26] at hf
          refine a_icmp_ne_f 129 dX9_sure_122 (by decide) hc26 ?_
          refine a_iload_n dX9_sure_125 rfl 3 rfl ?_
          refine a_goto 130 dX9_sure_126 (by decide) ?_
          have hq := Option.some.inj hf
          subst hq
          exact a_iret rfl dX9_sure_130
        · rw [if_neg hc26] at hf
          refine a_icmp_ne_t 129 dX9_sure_122 (by decide) hc26 ?_
          refine a_iconst (-1 : Int32) dX9_sure_129 rfl ?_
          have hq := Option.some.inj hf
          subst hq
          exact a_iret rfl dX9_sure_130
      refine a_locs (loc' := [(0, .ref 58), (1, .int p1), (2, .int x4), (3, .int (-1 : Int32)), (4, .int (0 : Int32)), (5, .int (0 : Int32))]) [4, 5, 3, 2, 1, 0] rfl ?_
      exact kX9_sure_L37 e p1 x4 q23 fu (-1 : Int32) (0 : Int32) (0 : Int32) σ hr27 hA28
set_option maxHeartbeats 4000000 in
set_option maxRecDepth 100000 in
theorem kX9_image (e : Nat)  (σ : St)  (q : Int32 × St) (hf : fX9_image σ = some q) : Sp (e + 1) MX9_image [.ref 58] σ (some (.int q.1)) q.2 := by
  refine sp_of rfl (Nat.le_of_ble_eq_true rfl) (loc := [(0, .ref 58)]) rfl ?_
  unfold fX9_image at hf
  refine a_aload_n dX9_image_0 rfl 0 rfl ?_
  refine a_get (.ref 65) ob_58 (by decide) fl_X9_28 rfl dX9_image_1 ?_
  refine a_aload_n dX9_image_4 rfl 0 rfl ?_
  refine a_get (.ref 77) ob_58 (by decide) fl_X9_65 rfl dX9_image_5 ?_
  refine a_bipush (64 : Int32) dX9_image_8 rfl ?_
  obtain ⟨q1, hq1, hf⟩ := obind hf
  refine a_callS (as := [.ref 65, .ref 77, .int (64 : Int32)]) (stk := []) (q := none) (σ1 := q1) (kX9_copy e 65 64 77 64 (64 : Int32) σ ia_65 ia_77 _ hq1) sl_X9_279 rfl (Nat.le_of_ble_eq_true rfl) dX9_image_10 ?_
  refine a_aload_n dX9_image_13 rfl 0 rfl ?_
  refine a_get (.ref 63) ob_58 (by decide) fl_X9_22 rfl dX9_image_14 ?_
  refine a_aload_n dX9_image_17 rfl 0 rfl ?_
  refine a_get (.ref 78) ob_58 (by decide) fl_X9_68 rfl dX9_image_18 ?_
  refine a_bipush (64 : Int32) dX9_image_21 rfl ?_
  obtain ⟨q2, hq2, hf⟩ := obind hf
  refine a_callS (as := [.ref 63, .ref 78, .int (64 : Int32)]) (stk := []) (q := none) (σ1 := q2) (kX9_copy e 63 64 78 64 (64 : Int32) q1 ia_63 ia_78 _ hq2) sl_X9_279 rfl (Nat.le_of_ble_eq_true rfl) dX9_image_23 ?_
  refine a_aload_n dX9_image_26 rfl 0 rfl ?_
  refine a_get (.ref 62) ob_58 (by decide) fl_X9_19 rfl dX9_image_27 ?_
  refine a_aload_n dX9_image_30 rfl 0 rfl ?_
  refine a_get (.ref 79) ob_58 (by decide) fl_X9_71 rfl dX9_image_31 ?_
  refine a_bipush (64 : Int32) dX9_image_34 rfl ?_
  obtain ⟨q3, hq3, hf⟩ := obind hf
  refine a_callS (as := [.ref 62, .ref 79, .int (64 : Int32)]) (stk := []) (q := none) (σ1 := q3) (kX9_copy e 62 64 79 64 (64 : Int32) q2 ia_62 ia_79 _ hq3) sl_X9_279 rfl (Nat.le_of_ble_eq_true rfl) dX9_image_36 ?_
  refine a_aload_n dX9_image_39 rfl 0 rfl ?_
  refine a_get (.ref 61) ob_58 (by decide) fl_X9_16 rfl dX9_image_40 ?_
  refine a_aload_n dX9_image_43 rfl 0 rfl ?_
  refine a_get (.ref 80) ob_58 (by decide) fl_X9_74 rfl dX9_image_44 ?_
  refine a_bipush (8 : Int32) dX9_image_47 rfl ?_
  obtain ⟨q4, hq4, hf⟩ := obind hf
  refine a_callS (as := [.ref 61, .ref 80, .int (8 : Int32)]) (stk := []) (q := none) (σ1 := q4) (kX9_copy e 61 8 80 8 (8 : Int32) q3 ia_61 ia_80 _ hq4) sl_X9_279 rfl (Nat.le_of_ble_eq_true rfl) dX9_image_49 ?_
  refine a_aload_n dX9_image_52 rfl 0 rfl ?_
  refine a_get (.ref 64) ob_58 (by decide) fl_X9_25 rfl dX9_image_53 ?_
  refine a_aload_n dX9_image_56 rfl 0 rfl ?_
  refine a_get (.ref 81) ob_58 (by decide) fl_X9_77 rfl dX9_image_57 ?_
  refine a_bipush (8 : Int32) dX9_image_60 rfl ?_
  obtain ⟨q5, hq5, hf⟩ := obind hf
  refine a_callS (as := [.ref 64, .ref 81, .int (8 : Int32)]) (stk := []) (q := none) (σ1 := q5) (kX9_copy e 64 8 81 8 (8 : Int32) q4 ia_64 ia_81 _ hq5) sl_X9_279 rfl (Nat.le_of_ble_eq_true rfl) dX9_image_62 ?_
  refine a_aload_n dX9_image_65 rfl 0 rfl ?_
  refine a_aload_n dX9_image_66 rfl 0 rfl ?_
  refine a_get (.int (q5.1 58 20)) ob_58 (by decide) fl_X9_158 rfl dX9_image_67 ?_
  refine a_putI ob_58 (by decide) fp_X9_80 (Or.inl rfl) dX9_image_70 ?_
  obtain ⟨σ6, hσ6, hf⟩ := bnd_elim hf
  rw [← hσ6]
  refine a_aload_n dX9_image_73 rfl 0 rfl ?_
  refine a_aload_n dX9_image_74 rfl 0 rfl ?_
  refine a_get (.int (σ6.1 58 12)) ob_58 (by decide) fl_X9_144 rfl dX9_image_75 ?_
  refine a_putI ob_58 (by decide) fp_X9_295 (Or.inl rfl) dX9_image_78 ?_
  obtain ⟨σ7, hσ7, hf⟩ := bnd_elim hf
  rw [← hσ7]
  refine a_aload_n dX9_image_81 rfl 0 rfl ?_
  refine a_aload_n dX9_image_82 rfl 0 rfl ?_
  refine a_get (.int (σ7.1 58 18)) ob_58 (by decide) fl_X9_194 rfl dX9_image_83 ?_
  refine a_putI ob_58 (by decide) fp_X9_298 (Or.inl rfl) dX9_image_86 ?_
  obtain ⟨σ8, hσ8, hf⟩ := bnd_elim hf
  rw [← hσ8]
  refine a_aload_n dX9_image_89 rfl 0 rfl ?_
  refine a_aload_n dX9_image_90 rfl 0 rfl ?_
  refine a_get (.int (σ8.1 58 19)) ob_58 (by decide) fl_X9_222 rfl dX9_image_91 ?_
  refine a_putI ob_58 (by decide) fp_X9_301 (Or.inl rfl) dX9_image_94 ?_
  obtain ⟨σ9, hσ9, hf⟩ := bnd_elim hf
  rw [← hσ9]
  refine a_aload_n dX9_image_97 rfl 0 rfl ?_
  refine a_get (.int (σ9.1 58 20)) ob_58 (by decide) fl_X9_158 rfl dX9_image_98 ?_
  have hq := Option.some.inj hf
  subst hq
  exact a_iret rfl dX9_image_101
set_option maxHeartbeats 4000000 in
set_option maxRecDepth 100000 in
theorem kX9_restore (e : Nat)  (σ : St)  (q : Int32 × St) (hf : fX9_restore σ = some q) : Sp (e + 1) MX9_restore [.ref 58] σ (some (.int q.1)) q.2 := by
  refine sp_of rfl (Nat.le_of_ble_eq_true rfl) (loc := [(0, .ref 58)]) rfl ?_
  unfold fX9_restore at hf
  refine a_aload_n dX9_restore_0 rfl 0 rfl ?_
  refine a_get (.int (σ.1 58 36)) ob_58 (by decide) fl_X9_80 rfl dX9_restore_1 ?_
  refine a_iconst (-1 : Int32) dX9_restore_4 rfl ?_
  by_cases hc1 : (σ.1 58 36) = (-1 : Int32)
  · rw [if_pos hc1] at hf
    refine a_icmp_eq_t 19 dX9_restore_5 (by decide) hc1 ?_
    refine a_bipush (-103 : Int32) dX9_restore_19 rfl ?_
    have hq := Option.some.inj hf
    subst hq
    exact a_iret rfl dX9_restore_21
  · rw [if_neg hc1] at hf
    refine a_icmp_eq_f 19 dX9_restore_5 (by decide) hc1 ?_
    refine a_aload_n dX9_restore_8 rfl 0 rfl ?_
    refine a_get (.int (σ.1 58 37)) ob_58 (by decide) fl_X9_295 rfl dX9_restore_9 ?_
    refine a_aload_n dX9_restore_12 rfl 0 rfl ?_
    refine a_get (.int (σ.1 58 12)) ob_58 (by decide) fl_X9_144 rfl dX9_restore_13 ?_
    by_cases hc2 : (σ.1 58 37) = (σ.1 58 12)
    · rw [if_pos hc2] at hf
      refine a_icmp_eq_t 22 dX9_restore_16 (by decide) hc2 ?_
      refine a_aload_n dX9_restore_22 rfl 0 rfl ?_
      refine a_get (.ref 77) ob_58 (by decide) fl_X9_65 rfl dX9_restore_23 ?_
      refine a_aload_n dX9_restore_26 rfl 0 rfl ?_
      refine a_get (.ref 65) ob_58 (by decide) fl_X9_28 rfl dX9_restore_27 ?_
      refine a_bipush (64 : Int32) dX9_restore_30 rfl ?_
      obtain ⟨q3, hq3, hf⟩ := obind hf
      refine a_callS (as := [.ref 77, .ref 65, .int (64 : Int32)]) (stk := []) (q := none) (σ1 := q3) (kX9_copy e 77 64 65 64 (64 : Int32) σ ia_77 ia_65 _ hq3) sl_X9_279 rfl (Nat.le_of_ble_eq_true rfl) dX9_restore_32 ?_
      refine a_aload_n dX9_restore_35 rfl 0 rfl ?_
      refine a_get (.ref 78) ob_58 (by decide) fl_X9_68 rfl dX9_restore_36 ?_
      refine a_aload_n dX9_restore_39 rfl 0 rfl ?_
      refine a_get (.ref 63) ob_58 (by decide) fl_X9_22 rfl dX9_restore_40 ?_
      refine a_bipush (64 : Int32) dX9_restore_43 rfl ?_
      obtain ⟨q4, hq4, hf⟩ := obind hf
      refine a_callS (as := [.ref 78, .ref 63, .int (64 : Int32)]) (stk := []) (q := none) (σ1 := q4) (kX9_copy e 78 64 63 64 (64 : Int32) q3 ia_78 ia_63 _ hq4) sl_X9_279 rfl (Nat.le_of_ble_eq_true rfl) dX9_restore_45 ?_
      refine a_aload_n dX9_restore_48 rfl 0 rfl ?_
      refine a_get (.ref 79) ob_58 (by decide) fl_X9_71 rfl dX9_restore_49 ?_
      refine a_aload_n dX9_restore_52 rfl 0 rfl ?_
      refine a_get (.ref 62) ob_58 (by decide) fl_X9_19 rfl dX9_restore_53 ?_
      refine a_bipush (64 : Int32) dX9_restore_56 rfl ?_
      obtain ⟨q5, hq5, hf⟩ := obind hf
      refine a_callS (as := [.ref 79, .ref 62, .int (64 : Int32)]) (stk := []) (q := none) (σ1 := q5) (kX9_copy e 79 64 62 64 (64 : Int32) q4 ia_79 ia_62 _ hq5) sl_X9_279 rfl (Nat.le_of_ble_eq_true rfl) dX9_restore_58 ?_
      refine a_aload_n dX9_restore_61 rfl 0 rfl ?_
      refine a_get (.ref 80) ob_58 (by decide) fl_X9_74 rfl dX9_restore_62 ?_
      refine a_aload_n dX9_restore_65 rfl 0 rfl ?_
      refine a_get (.ref 61) ob_58 (by decide) fl_X9_16 rfl dX9_restore_66 ?_
      refine a_bipush (8 : Int32) dX9_restore_69 rfl ?_
      obtain ⟨q6, hq6, hf⟩ := obind hf
      refine a_callS (as := [.ref 80, .ref 61, .int (8 : Int32)]) (stk := []) (q := none) (σ1 := q6) (kX9_copy e 80 8 61 8 (8 : Int32) q5 ia_80 ia_61 _ hq6) sl_X9_279 rfl (Nat.le_of_ble_eq_true rfl) dX9_restore_71 ?_
      refine a_aload_n dX9_restore_74 rfl 0 rfl ?_
      refine a_get (.ref 81) ob_58 (by decide) fl_X9_77 rfl dX9_restore_75 ?_
      refine a_aload_n dX9_restore_78 rfl 0 rfl ?_
      refine a_get (.ref 64) ob_58 (by decide) fl_X9_25 rfl dX9_restore_79 ?_
      refine a_bipush (8 : Int32) dX9_restore_82 rfl ?_
      obtain ⟨q7, hq7, hf⟩ := obind hf
      refine a_callS (as := [.ref 81, .ref 64, .int (8 : Int32)]) (stk := []) (q := none) (σ1 := q7) (kX9_copy e 81 8 64 8 (8 : Int32) q6 ia_81 ia_64 _ hq7) sl_X9_279 rfl (Nat.le_of_ble_eq_true rfl) dX9_restore_84 ?_
      refine a_aload_n dX9_restore_87 rfl 0 rfl ?_
      refine a_aload_n dX9_restore_88 rfl 0 rfl ?_
      refine a_get (.int (q7.1 58 36)) ob_58 (by decide) fl_X9_80 rfl dX9_restore_89 ?_
      refine a_putI ob_58 (by decide) fp_X9_158 (Or.inl rfl) dX9_restore_92 ?_
      obtain ⟨σ8, hσ8, hf⟩ := bnd_elim hf
      rw [← hσ8]
      refine a_aload_n dX9_restore_95 rfl 0 rfl ?_
      refine a_aload_n dX9_restore_96 rfl 0 rfl ?_
      refine a_get (.int (σ8.1 58 38)) ob_58 (by decide) fl_X9_298 rfl dX9_restore_97 ?_
      refine a_putI ob_58 (by decide) fp_X9_194 (Or.inl rfl) dX9_restore_100 ?_
      obtain ⟨σ9, hσ9, hf⟩ := bnd_elim hf
      rw [← hσ9]
      refine a_aload_n dX9_restore_103 rfl 0 rfl ?_
      refine a_aload_n dX9_restore_104 rfl 0 rfl ?_
      refine a_get (.int (σ9.1 58 39)) ob_58 (by decide) fl_X9_301 rfl dX9_restore_105 ?_
      refine a_putI ob_58 (by decide) fp_X9_222 (Or.inl rfl) dX9_restore_108 ?_
      obtain ⟨σ10, hσ10, hf⟩ := bnd_elim hf
      rw [← hσ10]
      refine a_aload_n dX9_restore_111 rfl 0 rfl ?_
      refine a_get (.int (σ10.1 58 20)) ob_58 (by decide) fl_X9_158 rfl dX9_restore_112 ?_
      have hq := Option.some.inj hf
      subst hq
      exact a_iret rfl dX9_restore_115
    · rw [if_neg hc2] at hf
      refine a_icmp_eq_f 22 dX9_restore_16 (by decide) hc2 ?_
      refine a_bipush (-103 : Int32) dX9_restore_19 rfl ?_
      have hq := Option.some.inj hf
      subst hq
      exact a_iret rfl dX9_restore_21
set_option maxHeartbeats 4000000 in
set_option maxRecDepth 100000 in
theorem kX9_countOf (e : Nat) (p1 : Int32) (σ : St)  (q : Int32) (hf : fX9_countOf p1 σ = some q) : Sp (e + 2) MX9_countOf [.ref 58, .int p1] σ (some (.int q)) σ := by
  refine sp_of rfl (Nat.le_of_ble_eq_true rfl) (loc := [(0, .ref 58), (1, .int p1)]) rfl ?_
  unfold fX9_countOf at hf
  refine a_iload_n dX9_countOf_0 rfl 1 rfl ?_
  by_cases hc1 : p1 = (0 : Int32)
  · rw [if_pos hc1] at hf
    refine a_tabIn (0 : Int32) 44 dX9_countOf_1 hc1 (by decide) (by decide) rfl (by decide) ?_
    refine a_aload_n dX9_countOf_44 rfl 0 rfl ?_
    refine a_get (.int (σ.1 58 12)) ob_58 (by decide) fl_X9_144 rfl dX9_countOf_45 ?_
    have hq := Option.some.inj hf
    subst hq
    exact a_iret rfl dX9_countOf_48
  · rw [if_neg hc1] at hf
    by_cases hc2 : p1 = (1 : Int32)
    · rw [if_pos hc2] at hf
      refine a_tabIn (1 : Int32) 49 dX9_countOf_1 hc2 (by decide) (by decide) rfl (by decide) ?_
      refine a_aload_n dX9_countOf_49 rfl 0 rfl ?_
      refine a_get (.int (σ.1 58 20)) ob_58 (by decide) fl_X9_158 rfl dX9_countOf_50 ?_
      have hq := Option.some.inj hf
      subst hq
      exact a_iret rfl dX9_countOf_53
    · rw [if_neg hc2] at hf
      by_cases hc3 : p1 = (2 : Int32)
      · rw [if_pos hc3] at hf
        refine a_tabIn (2 : Int32) 54 dX9_countOf_1 hc3 (by decide) (by decide) rfl (by decide) ?_
        refine a_aload_n dX9_countOf_54 rfl 0 rfl ?_
        obtain ⟨q4, hq4, hf⟩ := obind hf
        refine a_callV (as := []) (stk := []) (q := some (.int q4)) (σ1 := σ) (kX9_livesMany e σ _ hq4) ob_58 vl_X9_283 rfl (Nat.le_of_ble_eq_true rfl) dX9_countOf_55 ?_
        have hq := Option.some.inj hf
        subst hq
        exact a_iret rfl dX9_countOf_58
      · rw [if_neg hc3] at hf
        by_cases hc5 : p1 = (3 : Int32)
        · rw [if_pos hc5] at hf
          refine a_tabIn (3 : Int32) 59 dX9_countOf_1 hc5 (by decide) (by decide) rfl (by decide) ?_
          refine a_aload_n dX9_countOf_59 rfl 0 rfl ?_
          refine a_get (.int (σ.1 58 19)) ob_58 (by decide) fl_X9_222 rfl dX9_countOf_60 ?_
          have hq := Option.some.inj hf
          subst hq
          exact a_iret rfl dX9_countOf_63
        · rw [if_neg hc5] at hf
          by_cases hc6 : p1 = (4 : Int32)
          · rw [if_pos hc6] at hf
            refine a_tabIn (4 : Int32) 64 dX9_countOf_1 hc6 (by decide) (by decide) rfl (by decide) ?_
            refine a_aload_n dX9_countOf_64 rfl 0 rfl ?_
            refine a_get (.int (σ.1 58 18)) ob_58 (by decide) fl_X9_194 rfl dX9_countOf_65 ?_
            have hq := Option.some.inj hf
            subst hq
            exact a_iret rfl dX9_countOf_68
          · rw [if_neg hc6] at hf
            by_cases hc7 : p1 = (5 : Int32)
            · rw [if_pos hc7] at hf
              refine a_tabIn (5 : Int32) 69 dX9_countOf_1 hc7 (by decide) (by decide) rfl (by decide) ?_
              refine a_aload_n dX9_countOf_69 rfl 0 rfl ?_
              refine a_get (.int (σ.1 58 1)) ob_58 (by decide) fl_X9_95 rfl dX9_countOf_70 ?_
              have hq := Option.some.inj hf
              subst hq
              exact a_iret rfl dX9_countOf_73
            · rw [if_neg hc7] at hf
              by_cases hc8 : p1 = (6 : Int32)
              · rw [if_pos hc8] at hf
                refine a_tabIn (6 : Int32) 74 dX9_countOf_1 hc8 (by decide) (by decide) rfl (by decide) ?_
                refine a_aload_n dX9_countOf_74 rfl 0 rfl ?_
                refine a_get (.int (σ.1 58 6)) ob_58 (by decide) fl_X9_137 rfl dX9_countOf_75 ?_
                have hq := Option.some.inj hf
                subst hq
                exact a_iret rfl dX9_countOf_78
              · rw [if_neg hc8] at hf
                refine a_tabOut 79 dX9_countOf_1 (by have q0 := lv_neT hc1 (show Int32.toInt (0 : Int32) = 0 from rfl); have q1 := lv_neT hc2 (show Int32.toInt (1 : Int32) = 1 from rfl); have q2 := lv_neT hc3 (show Int32.toInt (2 : Int32) = 2 from rfl); have q3 := lv_neT hc5 (show Int32.toInt (3 : Int32) = 3 from rfl); have q4 := lv_neT hc6 (show Int32.toInt (4 : Int32) = 4 from rfl); have q5 := lv_neT hc7 (show Int32.toInt (5 : Int32) = 5 from rfl); have q6 := lv_neT hc8 (show Int32.toInt (6 : Int32) = 6 from rfl); omega) (by decide) ?_
                refine a_bipush (-102 : Int32) dX9_countOf_79 rfl ?_
                have hq := Option.some.inj hf
                subst hq
                exact a_iret rfl dX9_countOf_81
set_option maxHeartbeats 4000000 in
set_option maxRecDepth 100000 in
theorem kX9_count (e : Nat) (p1 : Int32) (σ : St)  (q : Int32) (hf : fX9_count p1 σ = some q) : Sp (e + 3) MX9_count [.ref 58, .int p1] σ (some (.int q)) σ := by
  refine sp_of rfl (Nat.le_of_ble_eq_true rfl) (loc := [(0, .ref 58), (1, .int p1)]) rfl ?_
  unfold fX9_count at hf
  refine a_aload_n dX9_count_0 rfl 0 rfl ?_
  refine a_iload_n dX9_count_1 rfl 1 rfl ?_
  obtain ⟨q1, hq1, hf⟩ := obind hf
  refine a_callV (as := [.int p1]) (stk := []) (q := some (.int q1)) (σ1 := σ) (kX9_countOf e p1 σ _ hq1) ob_58 vl_X9_304 rfl (Nat.le_of_ble_eq_true rfl) dX9_count_2 ?_
  have hq := Option.some.inj hf
  subst hq
  exact a_iret rfl dX9_count_5
set_option maxHeartbeats 4000000 in
set_option maxRecDepth 100000 in
theorem kX9_say (e : Nat) (p1 : Int64) (σ : St)  (q : St) (hf : fX9_say p1 σ = some q) : Sp e MX9_say [.ref 58, .long p1] σ (none) q := by
  refine sp_of rfl (Nat.le_of_ble_eq_true rfl) (loc := [(0, .ref 58), (1, .long p1)]) rfl ?_
  unfold fX9_say at hf
  refine a_aload_n dX9_say_0 rfl 0 rfl ?_
  refine a_ldc2 rfl kc_X9_307 dX9_say_1 ?_
  refine a_aload_n dX9_say_4 rfl 0 rfl ?_
  refine a_get (.long (σ.2 58 45)) ob_58 (by decide) fl_X9_309 rfl dX9_say_5 ?_
  refine a_lmul dX9_say_8 ?_
  refine a_lload_n dX9_say_9 rfl 1 rfl ?_
  refine a_ladd dX9_say_10 ?_
  refine a_putL ob_58 (by decide) fp_X9_309 rfl dX9_say_11 ?_
  obtain ⟨σ1, hσ1, hf⟩ := bnd_elim hf
  rw [← hσ1]
  have hq := Option.some.inj hf
  subst hq
  exact a_vret rfl dX9_say_14
set_option maxHeartbeats 4000000 in
set_option maxRecDepth 100000 in
theorem kX9_sayGift_L2 (e : Nat) (c1 : Int32)   {r : Option Value} {τ : St} (q : (St)) : ∀ (n : Nat) (v2 : Int32) (σ : St), fX9_sayGift_L2 c1 n v2 σ = some q → A (e + 4) MX9_sayGift 25 [(0, .ref 58), (1, .int c1)] [] q r τ → A (e + 4) MX9_sayGift 2 [(0, .ref 58), (1, .int c1), (2, .int v2)] [] σ r τ := by
  intro n
  induction n with
  | zero =>
    intro v2 σ  hf
    simp only [fX9_sayGift_L2] at hf
    exact absurd hf (by simp)
  | succ n ih =>
    intro v2 σ  hf h2
    rw [fX9_sayGift_L2] at hf
    refine a_iload_n dX9_sayGift_2 rfl 2 rfl ?_
    refine a_bipush (9 : Int32) dX9_sayGift_3 rfl ?_
    by_cases hc1 : (9 : Int32) ≤ v2
    · rw [if_pos hc1] at hf
      refine a_icmp_ge_t 25 dX9_sayGift_5 (by decide) hc1 ?_
      have hq := Option.some.inj hf
      rw [← hq] at h2
      refine a_locs (loc' := [(0, .ref 58), (1, .int c1)]) [0, 1] rfl ?_
      exact h2
    · rw [if_neg hc1] at hf
      refine a_icmp_ge_f 25 dX9_sayGift_5 (by decide) hc1 ?_
      refine a_aload_n dX9_sayGift_8 rfl 0 rfl ?_
      refine a_aload_n dX9_sayGift_9 rfl 0 rfl ?_
      refine a_iload_n dX9_sayGift_10 rfl 1 rfl ?_
      refine a_iload_n dX9_sayGift_11 rfl 2 rfl ?_
      obtain ⟨q2, hq2, hf⟩ := obind hf
      refine a_callV (as := [.int c1, .int v2]) (stk := [.ref 58]) (q := some (.int q2)) (σ1 := σ) (kX9_tellGift (e + 2) c1 v2 σ _ hq2) ob_58 vl_X9_185 rfl (Nat.le_of_ble_eq_true rfl) dX9_sayGift_12 ?_
      refine a_i2l dX9_sayGift_15 ?_
      obtain ⟨q3, hq3, hf⟩ := obind hf
      refine a_callV (as := [.long q2.toInt64]) (stk := []) (q := none) (σ1 := q3) (kX9_say (e + 3) q2.toInt64 σ _ hq3) ob_58 vl_X9_313 rfl (Nat.le_of_ble_eq_true rfl) dX9_sayGift_16 ?_
      refine a_iinc (v2 + (1 : Int32)) dX9_sayGift_19 2 rfl rfl (by decide) (loc' := [(2, .int (v2 + (1 : Int32))), (0, .ref 58), (1, .int c1)]) rfl ?_
      refine a_goto 2 dX9_sayGift_22 (by decide) ?_
      refine a_locs (loc' := [(0, .ref 58), (1, .int c1), (2, .int (v2 + (1 : Int32)))]) [1, 2, 0] rfl ?_
      exact ih (v2 + (1 : Int32)) q3 hf h2
set_option maxHeartbeats 4000000 in
set_option maxRecDepth 100000 in
theorem kX9_sayGift (e : Nat) (p1 : Int32) (σ : St)  (q : St) (hf : fX9_sayGift p1 σ = some q) : Sp (e + 4) MX9_sayGift [.ref 58, .int p1] σ (none) q := by
  refine sp_of rfl (Nat.le_of_ble_eq_true rfl) (loc := [(0, .ref 58), (1, .int p1)]) rfl ?_
  unfold fX9_sayGift at hf
  refine a_iconst (0 : Int32) dX9_sayGift_0 rfl ?_
  refine a_istore_n dX9_sayGift_1 rfl (by decide) (loc' := [(2, .int (0 : Int32)), (0, .ref 58), (1, .int p1)]) rfl ?_
  obtain ⟨q4, hr11, hf⟩ := obind hf
  have hA12 : A (e + 4) MX9_sayGift 25 [(0, .ref 58), (1, .int p1)] [] q4 none q := by
    refine a_aload_n dX9_sayGift_25 rfl 0 rfl ?_
    refine a_iload_n dX9_sayGift_26 rfl 1 rfl ?_
    obtain ⟨q5, hq5, hf⟩ := obind hf
    refine a_callV (as := [.int p1]) (stk := []) (q := some (.int q5)) (σ1 := q4) (kX9_lives (e + 3) p1 q4 _ hq5) ob_58 vl_X9_161 rfl (Nat.le_of_ble_eq_true rfl) dX9_sayGift_27 ?_
    by_cases hc6 : q5 = 0
    · rw [if_pos hc6] at hf
      refine a_if_eq_t 53 dX9_sayGift_30 (by decide) hc6 ?_
      have hq := Option.some.inj hf
      subst hq
      exact a_vret rfl dX9_sayGift_53
    · rw [if_neg hc6] at hf
      refine a_if_eq_f 53 dX9_sayGift_30 (by decide) hc6 ?_
      refine a_aload_n dX9_sayGift_33 rfl 0 rfl ?_
      refine a_aload_n dX9_sayGift_34 rfl 0 rfl ?_
      refine a_iload_n dX9_sayGift_35 rfl 1 rfl ?_
      obtain ⟨q7, hq7, hf⟩ := obind hf
      refine a_callV (as := [.int p1]) (stk := [.ref 58]) (q := some (.int q7)) (σ1 := q4) (kX9_mayOf (e + 2) p1 q4 _ hq7) ob_58 vl_X9_191 rfl (Nat.le_of_ble_eq_true rfl) dX9_sayGift_36 ?_
      refine a_i2l dX9_sayGift_39 ?_
      obtain ⟨q8, hq8, hf⟩ := obind hf
      refine a_callV (as := [.long q7.toInt64]) (stk := []) (q := none) (σ1 := q8) (kX9_say (e + 3) q7.toInt64 q4 _ hq8) ob_58 vl_X9_313 rfl (Nat.le_of_ble_eq_true rfl) dX9_sayGift_40 ?_
      refine a_aload_n dX9_sayGift_43 rfl 0 rfl ?_
      refine a_aload_n dX9_sayGift_44 rfl 0 rfl ?_
      refine a_iload_n dX9_sayGift_45 rfl 1 rfl ?_
      obtain ⟨q9, hq9, hf⟩ := obind hf
      refine a_callV (as := [.int p1]) (stk := [.ref 58]) (q := some (.int q9.1)) (σ1 := q9.2) (kX9_soonestOf e p1 q8 _ hq9) ob_58 vl_X9_242 rfl (Nat.le_of_ble_eq_true rfl) dX9_sayGift_46 ?_
      refine a_i2l dX9_sayGift_49 ?_
      obtain ⟨q10, hq10, hf⟩ := obind hf
      refine a_callV (as := [.long q9.1.toInt64]) (stk := []) (q := none) (σ1 := q10) (kX9_say (e + 3) q9.1.toInt64 q9.2 _ hq10) ob_58 vl_X9_313 rfl (Nat.le_of_ble_eq_true rfl) dX9_sayGift_50 ?_
      have hq := Option.some.inj hf
      subst hq
      exact a_vret rfl dX9_sayGift_53
  refine a_locs (loc' := [(0, .ref 58), (1, .int p1), (2, .int (0 : Int32))]) [1, 2, 0] rfl ?_
  exact kX9_sayGift_L2 e p1 q4 fu (0 : Int32) σ hr11 hA12
set_option maxHeartbeats 4000000 in
set_option maxRecDepth 100000 in
theorem kX9_digest_L9 (e : Nat)    {r : Option Value} {τ : St} (q : (St)) : ∀ (n : Nat) (v1 : Int32) (σ : St), fX9_digest_L9 n v1 σ = some q → A (e + 5) MX9_digest 30 [(0, .ref 58)] [] q r τ → A (e + 5) MX9_digest 9 [(0, .ref 58), (1, .int v1)] [] σ r τ := by
  intro n
  induction n with
  | zero =>
    intro v1 σ  hf
    simp only [fX9_digest_L9] at hf
    exact absurd hf (by simp)
  | succ n ih =>
    intro v1 σ  hf h2
    rw [fX9_digest_L9] at hf
    refine a_iload_n dX9_digest_9 rfl 1 rfl ?_
    refine a_iconst (4 : Int32) dX9_digest_10 rfl ?_
    by_cases hc2 : (4 : Int32) ≤ v1
    · rw [if_pos hc2] at hf
      refine a_icmp_ge_t 30 dX9_digest_11 (by decide) hc2 ?_
      have hq := Option.some.inj hf
      rw [← hq] at h2
      refine a_locs (loc' := [(0, .ref 58)]) [0] rfl ?_
      exact h2
    · rw [if_neg hc2] at hf
      refine a_icmp_ge_f 30 dX9_digest_11 (by decide) hc2 ?_
      refine a_aload_n dX9_digest_14 rfl 0 rfl ?_
      refine a_aload_n dX9_digest_15 rfl 0 rfl ?_
      refine a_iload_n dX9_digest_16 rfl 1 rfl ?_
      refine a_callV (as := [.int v1]) (stk := [.ref 58]) (q := some (.int (fX9_tellLaw v1 σ))) (σ1 := σ) (kX9_tellLaw (e + 4) v1 σ) ob_58 vl_X9_140 rfl (Nat.le_of_ble_eq_true rfl) dX9_digest_17 ?_
      refine a_i2l dX9_digest_20 ?_
      obtain ⟨q3, hq3, hf⟩ := obind hf
      refine a_callV (as := [.long ((fX9_tellLaw v1 σ).toInt64)]) (stk := []) (q := none) (σ1 := q3) (kX9_say (e + 4) ((fX9_tellLaw v1 σ).toInt64) σ _ hq3) ob_58 vl_X9_313 rfl (Nat.le_of_ble_eq_true rfl) dX9_digest_21 ?_
      refine a_iinc (v1 + (1 : Int32)) dX9_digest_24 1 rfl rfl (by decide) (loc' := [(1, .int (v1 + (1 : Int32))), (0, .ref 58)]) rfl ?_
      refine a_goto 9 dX9_digest_27 (by decide) ?_
      refine a_locs (loc' := [(0, .ref 58), (1, .int (v1 + (1 : Int32)))]) [1, 0] rfl ?_
      exact ih (v1 + (1 : Int32)) q3 hf h2
set_option maxHeartbeats 4000000 in
set_option maxRecDepth 100000 in
theorem kX9_digest_L42 (e : Nat) (c1 : Int32)   {r : Option Value} {τ : St} (q : (St)) : ∀ (n : Nat) (v2 : Int32) (σ : St), fX9_digest_L42 c1 n v2 σ = some q → A (e + 5) MX9_digest 64 [(0, .ref 58), (1, .int c1)] [] q r τ → A (e + 5) MX9_digest 42 [(0, .ref 58), (1, .int c1), (2, .int v2)] [] σ r τ := by
  intro n
  induction n with
  | zero =>
    intro v2 σ  hf
    simp only [fX9_digest_L42] at hf
    exact absurd hf (by simp)
  | succ n ih =>
    intro v2 σ  hf h2
    rw [fX9_digest_L42] at hf
    refine a_iload_n dX9_digest_42 rfl 2 rfl ?_
    refine a_iconst (4 : Int32) dX9_digest_43 rfl ?_
    by_cases hc6 : (4 : Int32) ≤ v2
    · rw [if_pos hc6] at hf
      refine a_icmp_ge_t 64 dX9_digest_44 (by decide) hc6 ?_
      have hq := Option.some.inj hf
      rw [← hq] at h2
      refine a_locs (loc' := [(0, .ref 58), (1, .int c1)]) [0, 1] rfl ?_
      exact h2
    · rw [if_neg hc6] at hf
      refine a_icmp_ge_f 64 dX9_digest_44 (by decide) hc6 ?_
      refine a_aload_n dX9_digest_47 rfl 0 rfl ?_
      refine a_aload_n dX9_digest_48 rfl 0 rfl ?_
      refine a_iload_n dX9_digest_49 rfl 1 rfl ?_
      refine a_iload_n dX9_digest_50 rfl 2 rfl ?_
      obtain ⟨q7, hq7, hf⟩ := obind hf
      refine a_callV (as := [.int c1, .int v2]) (stk := [.ref 58]) (q := some (.int q7)) (σ1 := σ) (kX9_tellPerson (e + 2) c1 v2 σ _ hq7) ob_58 vl_X9_167 rfl (Nat.le_of_ble_eq_true rfl) dX9_digest_51 ?_
      refine a_i2l dX9_digest_54 ?_
      obtain ⟨q8, hq8, hf⟩ := obind hf
      refine a_callV (as := [.long q7.toInt64]) (stk := []) (q := none) (σ1 := q8) (kX9_say (e + 4) q7.toInt64 σ _ hq8) ob_58 vl_X9_313 rfl (Nat.le_of_ble_eq_true rfl) dX9_digest_55 ?_
      refine a_iinc (v2 + (1 : Int32)) dX9_digest_58 2 rfl rfl (by decide) (loc' := [(2, .int (v2 + (1 : Int32))), (0, .ref 58), (1, .int c1)]) rfl ?_
      refine a_goto 42 dX9_digest_61 (by decide) ?_
      refine a_locs (loc' := [(0, .ref 58), (1, .int c1), (2, .int (v2 + (1 : Int32)))]) [1, 2, 0] rfl ?_
      exact ih (v2 + (1 : Int32)) q8 hf h2
set_option maxHeartbeats 4000000 in
set_option maxRecDepth 100000 in
theorem kX9_digest_L32 (e : Nat)    {r : Option Value} {τ : St} (q : (St)) : ∀ (n : Nat) (v1 : Int32) (σ : St), fX9_digest_L32 n v1 σ = some q → A (e + 5) MX9_digest 80 [(0, .ref 58)] [] q r τ → A (e + 5) MX9_digest 32 [(0, .ref 58), (1, .int v1)] [] σ r τ := by
  intro n
  induction n with
  | zero =>
    intro v1 σ  hf
    simp only [fX9_digest_L32] at hf
    exact absurd hf (by simp)
  | succ n ih =>
    intro v1 σ  hf h2
    rw [fX9_digest_L32] at hf
    refine a_iload_n dX9_digest_32 rfl 1 rfl ?_
    refine a_aload_n dX9_digest_33 rfl 0 rfl ?_
    refine a_get (.int (σ.1 58 12)) ob_58 (by decide) fl_X9_144 rfl dX9_digest_34 ?_
    by_cases hc5 : (σ.1 58 12) ≤ v1
    · rw [if_pos hc5] at hf
      refine a_icmp_ge_t 80 dX9_digest_37 (by decide) hc5 ?_
      have hq := Option.some.inj hf
      rw [← hq] at h2
      refine a_locs (loc' := [(0, .ref 58)]) [0] rfl ?_
      exact h2
    · rw [if_neg hc5] at hf
      refine a_icmp_ge_f 80 dX9_digest_37 (by decide) hc5 ?_
      refine a_iconst (0 : Int32) dX9_digest_40 rfl ?_
      refine a_istore_n dX9_digest_41 rfl (by decide) (loc' := [(2, .int (0 : Int32)), (0, .ref 58), (1, .int v1)]) rfl ?_
      obtain ⟨q9, hr12, hf⟩ := obind hf
      have hA13 : A (e + 5) MX9_digest 64 [(0, .ref 58), (1, .int v1)] [] q9 r τ := by
        refine a_aload_n dX9_digest_64 rfl 0 rfl ?_
        refine a_aload_n dX9_digest_65 rfl 0 rfl ?_
        refine a_iload_n dX9_digest_66 rfl 1 rfl ?_
        obtain ⟨q10, hq10, hf⟩ := obind hf
        refine a_callV (as := [.int v1]) (stk := [.ref 58]) (q := some (.int q10)) (σ1 := q9) (kX9_restOf (e + 4) v1 q9 _ hq10) ob_58 vl_X9_171 rfl (Nat.le_of_ble_eq_true rfl) dX9_digest_67 ?_
        refine a_i2l dX9_digest_70 ?_
        obtain ⟨q11, hq11, hf⟩ := obind hf
        refine a_callV (as := [.long q10.toInt64]) (stk := []) (q := none) (σ1 := q11) (kX9_say (e + 4) q10.toInt64 q9 _ hq11) ob_58 vl_X9_313 rfl (Nat.le_of_ble_eq_true rfl) dX9_digest_71 ?_
        refine a_iinc (v1 + (1 : Int32)) dX9_digest_74 1 rfl rfl (by decide) (loc' := [(1, .int (v1 + (1 : Int32))), (0, .ref 58)]) rfl ?_
        refine a_goto 32 dX9_digest_77 (by decide) ?_
        refine a_locs (loc' := [(0, .ref 58), (1, .int (v1 + (1 : Int32)))]) [1, 0] rfl ?_
        exact ih (v1 + (1 : Int32)) q11 hf h2
      refine a_locs (loc' := [(0, .ref 58), (1, .int v1), (2, .int (0 : Int32))]) [1, 2, 0] rfl ?_
      exact kX9_digest_L42 e v1 q9 fu (0 : Int32) σ hr12 hA13
set_option maxHeartbeats 4000000 in
set_option maxRecDepth 100000 in
theorem kX9_digest_L82 (e : Nat)    {r : Option Value} {τ : St} (q : (St)) : ∀ (n : Nat) (v1 : Int32) (σ : St), fX9_digest_L82 n v1 σ = some q → A (e + 5) MX9_digest 101 [(0, .ref 58)] [] q r τ → A (e + 5) MX9_digest 82 [(0, .ref 58), (1, .int v1)] [] σ r τ := by
  intro n
  induction n with
  | zero =>
    intro v1 σ  hf
    simp only [fX9_digest_L82] at hf
    exact absurd hf (by simp)
  | succ n ih =>
    intro v1 σ  hf h2
    rw [fX9_digest_L82] at hf
    refine a_iload_n dX9_digest_82 rfl 1 rfl ?_
    refine a_aload_n dX9_digest_83 rfl 0 rfl ?_
    refine a_get (.int (σ.1 58 20)) ob_58 (by decide) fl_X9_158 rfl dX9_digest_84 ?_
    by_cases hc15 : (σ.1 58 20) ≤ v1
    · rw [if_pos hc15] at hf
      refine a_icmp_ge_t 101 dX9_digest_87 (by decide) hc15 ?_
      have hq := Option.some.inj hf
      rw [← hq] at h2
      refine a_locs (loc' := [(0, .ref 58)]) [0] rfl ?_
      exact h2
    · rw [if_neg hc15] at hf
      refine a_icmp_ge_f 101 dX9_digest_87 (by decide) hc15 ?_
      refine a_aload_n dX9_digest_90 rfl 0 rfl ?_
      refine a_iload_n dX9_digest_91 rfl 1 rfl ?_
      obtain ⟨q16, hq16, hf⟩ := obind hf
      refine a_callV (as := [.int v1]) (stk := []) (q := none) (σ1 := q16) (kX9_sayGift e v1 σ _ hq16) ob_58 vl_X9_319 rfl (Nat.le_of_ble_eq_true rfl) dX9_digest_92 ?_
      refine a_iinc (v1 + (1 : Int32)) dX9_digest_95 1 rfl rfl (by decide) (loc' := [(1, .int (v1 + (1 : Int32))), (0, .ref 58)]) rfl ?_
      refine a_goto 82 dX9_digest_98 (by decide) ?_
      refine a_locs (loc' := [(0, .ref 58), (1, .int (v1 + (1 : Int32)))]) [1, 0] rfl ?_
      exact ih (v1 + (1 : Int32)) q16 hf h2
set_option maxHeartbeats 4000000 in
set_option maxRecDepth 100000 in
theorem kX9_digest_L149 (e : Nat)    {r : Option Value} {τ : St} (q : (St)) : ∀ (n : Nat) (v1 : Int32) (σ : St), fX9_digest_L149 n v1 σ = some q → A (e + 5) MX9_digest 174 [(0, .ref 58)] [] q r τ → A (e + 5) MX9_digest 149 [(0, .ref 58), (1, .int v1)] [] σ r τ := by
  intro n
  induction n with
  | zero =>
    intro v1 σ  hf
    simp only [fX9_digest_L149] at hf
    exact absurd hf (by simp)
  | succ n ih =>
    intro v1 σ  hf h2
    rw [fX9_digest_L149] at hf
    refine a_iload_n dX9_digest_149 rfl 1 rfl ?_
    refine a_aload_n dX9_digest_150 rfl 0 rfl ?_
    refine a_get (.int (σ.1 58 1)) ob_58 (by decide) fl_X9_95 rfl dX9_digest_151 ?_
    by_cases hc26 : (σ.1 58 1) ≤ v1
    · rw [if_pos hc26] at hf
      refine a_icmp_ge_t 174 dX9_digest_154 (by decide) hc26 ?_
      have hq := Option.some.inj hf
      rw [← hq] at h2
      refine a_locs (loc' := [(0, .ref 58)]) [0] rfl ?_
      exact h2
    · rw [if_neg hc26] at hf
      refine a_icmp_ge_f 174 dX9_digest_154 (by decide) hc26 ?_
      refine a_aload_n dX9_digest_157 rfl 0 rfl ?_
      refine a_aload_n dX9_digest_158 rfl 0 rfl ?_
      refine a_get (.ref 59) ob_58 (by decide) fl_X9_7 rfl dX9_digest_159 ?_
      refine a_iload_n dX9_digest_162 rfl 1 rfl ?_
      obtain ⟨hb27, hf⟩ := grd_elim hf
      refine a_iald ia_59 hb27 dX9_digest_163 ?_
      refine a_i2l dX9_digest_164 ?_
      obtain ⟨q28, hq28, hf⟩ := obind hf
      refine a_callV (as := [.long ((σ.1 59 v1.toNatClampNeg).toInt64)]) (stk := []) (q := none) (σ1 := q28) (kX9_say (e + 4) ((σ.1 59 v1.toNatClampNeg).toInt64) σ _ hq28) ob_58 vl_X9_313 rfl (Nat.le_of_ble_eq_true rfl) dX9_digest_165 ?_
      refine a_iinc (v1 + (1 : Int32)) dX9_digest_168 1 rfl rfl (by decide) (loc' := [(1, .int (v1 + (1 : Int32))), (0, .ref 58)]) rfl ?_
      refine a_goto 149 dX9_digest_171 (by decide) ?_
      refine a_locs (loc' := [(0, .ref 58), (1, .int (v1 + (1 : Int32)))]) [1, 0] rfl ?_
      exact ih (v1 + (1 : Int32)) q28 hf h2
set_option maxHeartbeats 4000000 in
set_option maxRecDepth 100000 in
theorem kX9_digest_L176 (e : Nat)    {r : Option Value} {τ : St} (q : (St)) : ∀ (n : Nat) (v1 : Int32) (σ : St), fX9_digest_L176 n v1 σ = some q → A (e + 5) MX9_digest 198 [(0, .ref 58)] [] q r τ → A (e + 5) MX9_digest 176 [(0, .ref 58), (1, .int v1)] [] σ r τ := by
  intro n
  induction n with
  | zero =>
    intro v1 σ  hf
    simp only [fX9_digest_L176] at hf
    exact absurd hf (by simp)
  | succ n ih =>
    intro v1 σ  hf h2
    rw [fX9_digest_L176] at hf
    refine a_iload_n dX9_digest_176 rfl 1 rfl ?_
    refine a_bipush (7 : Int32) dX9_digest_177 rfl ?_
    by_cases hc30 : (7 : Int32) ≤ v1
    · rw [if_pos hc30] at hf
      refine a_icmp_ge_t 198 dX9_digest_179 (by decide) hc30 ?_
      have hq := Option.some.inj hf
      rw [← hq] at h2
      refine a_locs (loc' := [(0, .ref 58)]) [0] rfl ?_
      exact h2
    · rw [if_neg hc30] at hf
      refine a_icmp_ge_f 198 dX9_digest_179 (by decide) hc30 ?_
      refine a_aload_n dX9_digest_182 rfl 0 rfl ?_
      refine a_aload_n dX9_digest_183 rfl 0 rfl ?_
      refine a_iload_n dX9_digest_184 rfl 1 rfl ?_
      obtain ⟨q31, hq31, hf⟩ := obind hf
      refine a_callV (as := [.int v1]) (stk := [.ref 58]) (q := some (.int q31)) (σ1 := σ) (kX9_countOf (e + 2) v1 σ _ hq31) ob_58 vl_X9_304 rfl (Nat.le_of_ble_eq_true rfl) dX9_digest_185 ?_
      refine a_i2l dX9_digest_188 ?_
      obtain ⟨q32, hq32, hf⟩ := obind hf
      refine a_callV (as := [.long q31.toInt64]) (stk := []) (q := none) (σ1 := q32) (kX9_say (e + 4) q31.toInt64 σ _ hq32) ob_58 vl_X9_313 rfl (Nat.le_of_ble_eq_true rfl) dX9_digest_189 ?_
      refine a_iinc (v1 + (1 : Int32)) dX9_digest_192 1 rfl rfl (by decide) (loc' := [(1, .int (v1 + (1 : Int32))), (0, .ref 58)]) rfl ?_
      refine a_goto 176 dX9_digest_195 (by decide) ?_
      refine a_locs (loc' := [(0, .ref 58), (1, .int (v1 + (1 : Int32)))]) [1, 0] rfl ?_
      exact ih (v1 + (1 : Int32)) q32 hf h2
set_option maxHeartbeats 4000000 in
set_option maxRecDepth 100000 in
theorem kX9_digest (e : Nat)  (σ : St)  (q : Int64 × St) (hf : fX9_digest σ = some q) : Sp (e + 5) MX9_digest [.ref 58] σ (some (.long q.1)) q.2 := by
  refine sp_of rfl (Nat.le_of_ble_eq_true rfl) (loc := [(0, .ref 58)]) rfl ?_
  unfold fX9_digest at hf
  refine a_aload_n dX9_digest_0 rfl 0 rfl ?_
  refine a_ldc2 rfl kc_X9_317 dX9_digest_1 ?_
  refine a_putL ob_58 (by decide) fp_X9_309 rfl dX9_digest_4 ?_
  obtain ⟨σ1, hσ1, hf⟩ := bnd_elim hf
  rw [← hσ1]
  refine a_iconst (0 : Int32) dX9_digest_7 rfl ?_
  refine a_istore_n dX9_digest_8 rfl (by decide) (loc' := [(1, .int (0 : Int32)), (0, .ref 58)]) rfl ?_
  obtain ⟨q4, hr46, hf⟩ := obind hf
  have hA47 : A (e + 5) MX9_digest 30 [(0, .ref 58)] [] q4 (some (.long q.1)) q.2 := by
    refine a_iconst (0 : Int32) dX9_digest_30 rfl ?_
    refine a_istore_n dX9_digest_31 rfl (by decide) (loc' := [(1, .int (0 : Int32)), (0, .ref 58)]) rfl ?_
    obtain ⟨q14, hr44, hf⟩ := obind hf
    have hA45 : A (e + 5) MX9_digest 80 [(0, .ref 58)] [] q14 (some (.long q.1)) q.2 := by
      refine a_iconst (0 : Int32) dX9_digest_80 rfl ?_
      refine a_istore_n dX9_digest_81 rfl (by decide) (loc' := [(1, .int (0 : Int32)), (0, .ref 58)]) rfl ?_
      obtain ⟨q17, hr42, hf⟩ := obind hf
      have hA43 : A (e + 5) MX9_digest 101 [(0, .ref 58)] [] q17 (some (.long q.1)) q.2 := by
        refine a_aload_n dX9_digest_101 rfl 0 rfl ?_
        refine a_aload_n dX9_digest_102 rfl 0 rfl ?_
        obtain ⟨q18, hq18, hf⟩ := obind hf
        refine a_callV (as := []) (stk := [.ref 58]) (q := some (.int q18)) (σ1 := q17) (kX9_trapsOf (e + 3) q17 _ hq18) ob_58 vl_X9_259 rfl (Nat.le_of_ble_eq_true rfl) dX9_digest_103 ?_
        refine a_i2l dX9_digest_106 ?_
        obtain ⟨q19, hq19, hf⟩ := obind hf
        refine a_callV (as := [.long q18.toInt64]) (stk := []) (q := none) (σ1 := q19) (kX9_say (e + 4) q18.toInt64 q17 _ hq19) ob_58 vl_X9_313 rfl (Nat.le_of_ble_eq_true rfl) dX9_digest_107 ?_
        refine a_aload_n dX9_digest_110 rfl 0 rfl ?_
        refine a_aload_n dX9_digest_111 rfl 0 rfl ?_
        refine a_iconst (0 : Int32) dX9_digest_112 rfl ?_
        obtain ⟨q20, hq20, hf⟩ := obind hf
        refine a_callV (as := [.int (0 : Int32)]) (stk := [.ref 58]) (q := some (.int q20.1)) (σ1 := q20.2) (kX9_tellRound (e + 3) (0 : Int32) q19 _ hq20) ob_58 vl_X9_269 rfl (Nat.le_of_ble_eq_true rfl) dX9_digest_113 ?_
        refine a_i2l dX9_digest_116 ?_
        obtain ⟨q21, hq21, hf⟩ := obind hf
        refine a_callV (as := [.long q20.1.toInt64]) (stk := []) (q := none) (σ1 := q21) (kX9_say (e + 4) q20.1.toInt64 q20.2 _ hq21) ob_58 vl_X9_313 rfl (Nat.le_of_ble_eq_true rfl) dX9_digest_117 ?_
        refine a_aload_n dX9_digest_120 rfl 0 rfl ?_
        refine a_aload_n dX9_digest_121 rfl 0 rfl ?_
        refine a_iconst (1 : Int32) dX9_digest_122 rfl ?_
        obtain ⟨q22, hq22, hf⟩ := obind hf
        refine a_callV (as := [.int (1 : Int32)]) (stk := [.ref 58]) (q := some (.int q22.1)) (σ1 := q22.2) (kX9_tellRound (e + 3) (1 : Int32) q21 _ hq22) ob_58 vl_X9_269 rfl (Nat.le_of_ble_eq_true rfl) dX9_digest_123 ?_
        refine a_i2l dX9_digest_126 ?_
        obtain ⟨q23, hq23, hf⟩ := obind hf
        refine a_callV (as := [.long q22.1.toInt64]) (stk := []) (q := none) (σ1 := q23) (kX9_say (e + 4) q22.1.toInt64 q22.2 _ hq23) ob_58 vl_X9_313 rfl (Nat.le_of_ble_eq_true rfl) dX9_digest_127 ?_
        refine a_aload_n dX9_digest_130 rfl 0 rfl ?_
        refine a_get (.int (q23.1 58 33)) ob_58 (by decide) fl_X9_90 rfl dX9_digest_131 ?_
        refine a_iconst (-1 : Int32) dX9_digest_134 rfl ?_
        obtain ⟨q25, hr39, hf⟩ := obind hf
        have hA38 : A (e + 5) MX9_digest 147 [(0, .ref 58)] [] q25 (some (.long q.1)) q.2 := by
          refine a_iconst (0 : Int32) dX9_digest_147 rfl ?_
          refine a_istore_n dX9_digest_148 rfl (by decide) (loc' := [(1, .int (0 : Int32)), (0, .ref 58)]) rfl ?_
          obtain ⟨q29, hr36, hf⟩ := obind hf
          have hA37 : A (e + 5) MX9_digest 174 [(0, .ref 58)] [] q29 (some (.long q.1)) q.2 := by
            refine a_iconst (0 : Int32) dX9_digest_174 rfl ?_
            refine a_istore_n dX9_digest_175 rfl (by decide) (loc' := [(1, .int (0 : Int32)), (0, .ref 58)]) rfl ?_
            obtain ⟨q33, hr34, hf⟩ := obind hf
            have hA35 : A (e + 5) MX9_digest 198 [(0, .ref 58)] [] q33 (some (.long q.1)) q.2 := by
              refine a_aload_n dX9_digest_198 rfl 0 rfl ?_
              refine a_get (.long (q33.2 58 45)) ob_58 (by decide) fl_X9_309 rfl dX9_digest_199 ?_
              have hq := Option.some.inj hf
              subst hq
              exact a_lret rfl dX9_digest_202
            refine a_locs (loc' := [(0, .ref 58), (1, .int (0 : Int32))]) [1, 0] rfl ?_
            exact kX9_digest_L176 e q33 fu (0 : Int32) q29 hr34 hA35
          refine a_locs (loc' := [(0, .ref 58), (1, .int (0 : Int32))]) [1, 0] rfl ?_
          exact kX9_digest_L149 e q29 fu (0 : Int32) q25 hr36 hA37
        clear hf
        have hf := hr39
        clear hr39
        by_cases hc24 : (q23.1 58 33) = (-1 : Int32)
        · rw [if_pos hc24] at hf
          refine a_icmp_eq_t 147 dX9_digest_135 (by decide) hc24 ?_
          have hq := Option.some.inj hf
          subst hq
          exact hA38
        · rw [if_neg hc24] at hf
          refine a_icmp_eq_f 147 dX9_digest_135 (by decide) hc24 ?_
          refine a_aload_n dX9_digest_138 rfl 0 rfl ?_
          refine a_aload_n dX9_digest_139 rfl 0 rfl ?_
          obtain ⟨q40, hq40, hf⟩ := obind hf
          refine a_callV (as := []) (stk := [.ref 58]) (q := some (.int q40.1)) (σ1 := q40.2) (kX9_filledOf (e + 4) q23 _ hq40) ob_58 vl_X9_292 rfl (Nat.le_of_ble_eq_true rfl) dX9_digest_140 ?_
          refine a_i2l dX9_digest_143 ?_
          obtain ⟨q41, hq41, hf⟩ := obind hf
          refine a_callV (as := [.long q40.1.toInt64]) (stk := []) (q := none) (σ1 := q41) (kX9_say (e + 4) q40.1.toInt64 q40.2 _ hq41) ob_58 vl_X9_313 rfl (Nat.le_of_ble_eq_true rfl) dX9_digest_144 ?_
          have hq := Option.some.inj hf
          subst hq
          exact hA38
      refine a_locs (loc' := [(0, .ref 58), (1, .int (0 : Int32))]) [1, 0] rfl ?_
      exact kX9_digest_L82 e q17 fu (0 : Int32) q14 hr42 hA43
    refine a_locs (loc' := [(0, .ref 58), (1, .int (0 : Int32))]) [1, 0] rfl ?_
    exact kX9_digest_L32 e q14 fu (0 : Int32) q4 hr44 hA45
  refine a_locs (loc' := [(0, .ref 58), (1, .int (0 : Int32))]) [1, 0] rfl ?_
  exact kX9_digest_L9 e q4 fu (0 : Int32) σ1 hr46 hA47
