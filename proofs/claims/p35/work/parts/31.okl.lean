set_option maxHeartbeats 4000000 in
set_option maxRecDepth 100000 in
theorem kL_cell (e : Nat) {K : Nat → Prop} (p1 : Int32) (σ : St)  (q : Int32) (hf : fL_cell p1 σ = some q) : SpK K e ML_cell [.ref 68, .int p1] σ (some (.int q)) σ := by
  refine sp_of rfl (Nat.le_of_ble_eq_true rfl) (loc := [(0, .ref 68), (1, .int p1)]) rfl ?_
  unfold fL_cell at hf
  refine a_iload_n dL_cell_0 rfl 1 rfl ?_
  refine a_aload_n dL_cell_1 rfl 0 rfl ?_
  refine a_slen dL_cell_2 ?_
  by_cases hc1 : (σ.1 69 0) ≤ p1
  · rw [if_pos hc1] at hf
    refine a_icmp_ge_t 12 dL_cell_3 (by decide) hc1 ?_
    refine a_ldc rfl kc_L_7 dL_cell_12 ?_
    refine a_iload_n dL_cell_14 rfl 1 rfl ?_
    refine a_iconst (1 : Int32) dL_cell_15 rfl ?_
    refine a_iadd dL_cell_16 ?_
    refine a_imul dL_cell_17 ?_
    have hq := Option.some.inj hf
    subst hq
    exact a_iret rfl dL_cell_18
  · rw [if_neg hc1] at hf
    refine a_icmp_ge_f 12 dL_cell_3 (by decide) hc1 ?_
    refine a_aload_n dL_cell_6 rfl 0 rfl ?_
    refine a_iload_n dL_cell_7 rfl 1 rfl ?_
    obtain ⟨hb2, hf⟩ := grd_elim hf
    refine a_sld hb2 dL_cell_8 ?_
    refine a_goto 18 dL_cell_9 (by decide) ?_
    have hq := Option.some.inj hf
    subst hq
    exact a_iret rfl dL_cell_18
set_option maxHeartbeats 4000000 in
set_option maxRecDepth 100000 in
theorem kL_at (e : Nat) {K : Nat → Prop} (p0 : Int32) (p1 : Int32) (σ : St)  (q : Int32) (hf : fL_at p0 p1 = some q) : SpK K e ML_at [.int p0, .int p1] σ (some (.int q)) σ := by
  refine sp_of rfl (Nat.le_of_ble_eq_true rfl) (loc := [(0, .int p0), (1, .int p1)]) rfl ?_
  unfold fL_at at hf
  refine a_iload_n dL_at_0 rfl 0 rfl ?_
  refine a_iconst (1 : Int32) dL_at_1 rfl ?_
  refine a_iushr dL_at_2 ?_
  refine a_iload_n dL_at_3 rfl 1 rfl ?_
  obtain ⟨hb1, hf⟩ := grd_elim hf
  refine a_irem (of_decide_eq_true hb1) dL_at_4 ?_
  have hq := Option.some.inj hf
  subst hq
  exact a_iret rfl dL_at_5
set_option maxHeartbeats 4000000 in
set_option maxRecDepth 100000 in
theorem kL_lawText (e : Nat) {K : Nat → Prop} (p0 : Int32) (a1 n1 : Nat) (a2 n2 : Nat) (σ : St) (ha1 : IA K a1 n1) (ha2 : IA K a2 n2) (q : Int32 × St) (hf : fL_lawText p0 a1 n1 a2 n2 σ = some q) : SpK K (e + 1) ML_lawText [.int p0, .ref a1, .ref a2] σ (some (.int q.1)) q.2 := by
  refine sp_of rfl (Nat.le_of_ble_eq_true rfl) (loc := [(0, .int p0), (1, .ref a1), (2, .ref a2)]) rfl ?_
  unfold fL_lawText at hf
  refine a_iconst (0 : Int32) dL_lawText_0 rfl ?_
  refine a_istore_n dL_lawText_1 rfl (by decide) (loc' := [(3, .int (0 : Int32)), (0, .int p0), (1, .ref a1), (2, .ref a2)]) rfl ?_
  refine a_aload_n dL_lawText_2 rfl 2 rfl ?_
  refine a_iconst (0 : Int32) dL_lawText_3 rfl ?_
  refine a_iload_n dL_lawText_4 rfl 1 rfl ?_
  refine a_iconst (2 : Int32) dL_lawText_5 rfl ?_
  obtain ⟨q1, hq1, hf⟩ := obind hf
  refine a_callS (as := [.int p0, .int (2 : Int32)]) (stk := [.int (0 : Int32), .ref a1]) (q := some (.int q1)) (σ1 := σ) (kL_at e p0 (2 : Int32) σ _ hq1) sl_L_8 rfl (Nat.le_of_ble_eq_true rfl) dL_lawText_6 ?_
  obtain ⟨q3, hr55, hf⟩ := obind hf
  have hA54 : AL K (e + 1) ML_lawText 25 [(0, .int p0), (1, .ref a1), (2, .ref a2), (3, .int (0 : Int32))] [.int q3, .int (0 : Int32), .ref a1] σ (some (.int q.1)) q.2 := by
    obtain ⟨hb4, hf⟩ := grd_elim hf
    refine a_iast ha1 hb4 dL_lawText_25 ?_
    obtain ⟨σ5, hσ5, hf⟩ := bnd_elim hf
    rw [← hσ5]
    refine a_aload_n dL_lawText_26 rfl 1 rfl ?_
    refine a_iconst (1 : Int32) dL_lawText_27 rfl ?_
    refine a_iload_n dL_lawText_28 rfl 0 rfl ?_
    refine a_iconst (4 : Int32) dL_lawText_29 rfl ?_
    refine a_ishr dL_lawText_30 ?_
    refine a_iconst (2 : Int32) dL_lawText_31 rfl ?_
    obtain ⟨q6, hq6, hf⟩ := obind hf
    refine a_callS (as := [.int (p0 >>> ((4 : Int32) &&& 31)), .int (2 : Int32)]) (stk := [.int (1 : Int32), .ref a1]) (q := some (.int q6)) (σ1 := σ5) (kL_at e (p0 >>> ((4 : Int32) &&& 31)) (2 : Int32) σ5 _ hq6) sl_L_8 rfl (Nat.le_of_ble_eq_true rfl) dL_lawText_32 ?_
    obtain ⟨hb7, hf⟩ := grd_elim hf
    refine a_iast ha1 hb7 dL_lawText_35 ?_
    obtain ⟨σ8, hσ8, hf⟩ := bnd_elim hf
    rw [← hσ8]
    refine a_aload_n dL_lawText_36 rfl 1 rfl ?_
    refine a_iconst (2 : Int32) dL_lawText_37 rfl ?_
    refine a_iload_n dL_lawText_38 rfl 0 rfl ?_
    refine a_iconst (5 : Int32) dL_lawText_39 rfl ?_
    refine a_ishr dL_lawText_40 ?_
    refine a_iconst (3 : Int32) dL_lawText_41 rfl ?_
    obtain ⟨q9, hq9, hf⟩ := obind hf
    refine a_callS (as := [.int (p0 >>> ((5 : Int32) &&& 31)), .int (3 : Int32)]) (stk := [.int (2 : Int32), .ref a1]) (q := some (.int q9)) (σ1 := σ8) (kL_at e (p0 >>> ((5 : Int32) &&& 31)) (3 : Int32) σ8 _ hq9) sl_L_8 rfl (Nat.le_of_ble_eq_true rfl) dL_lawText_42 ?_
    obtain ⟨x11, hx11, hf⟩ := bnd_elim hf
    have hA53 : AL K (e + 1) ML_lawText 53 [(0, .int p0), (1, .ref a1), (2, .ref a2), (3, .int (0 : Int32))] [.int x11, .int (2 : Int32), .ref a1] σ8 (some (.int q.1)) q.2 := by
      obtain ⟨hb12, hf⟩ := grd_elim hf
      refine a_iast ha1 hb12 dL_lawText_53 ?_
      obtain ⟨σ13, hσ13, hf⟩ := bnd_elim hf
      rw [← hσ13]
      refine a_aload_n dL_lawText_54 rfl 1 rfl ?_
      refine a_iconst (3 : Int32) dL_lawText_55 rfl ?_
      refine a_iload_n dL_lawText_56 rfl 0 rfl ?_
      refine a_bipush (7 : Int32) dL_lawText_57 rfl ?_
      refine a_ishr dL_lawText_59 ?_
      refine a_iconst (2 : Int32) dL_lawText_60 rfl ?_
      obtain ⟨q14, hq14, hf⟩ := obind hf
      refine a_callS (as := [.int (p0 >>> ((7 : Int32) &&& 31)), .int (2 : Int32)]) (stk := [.int (3 : Int32), .ref a1]) (q := some (.int q14)) (σ1 := σ13) (kL_at e (p0 >>> ((7 : Int32) &&& 31)) (2 : Int32) σ13 _ hq14) sl_L_8 rfl (Nat.le_of_ble_eq_true rfl) dL_lawText_61 ?_
      obtain ⟨q16, hr51, hf⟩ := obind hf
      have hA50 : AL K (e + 1) ML_lawText 82 [(0, .int p0), (1, .ref a1), (2, .ref a2), (3, .int (0 : Int32))] [.int q16, .int (3 : Int32), .ref a1] σ13 (some (.int q.1)) q.2 := by
        obtain ⟨hb17, hf⟩ := grd_elim hf
        refine a_iast ha1 hb17 dL_lawText_82 ?_
        obtain ⟨σ18, hσ18, hf⟩ := bnd_elim hf
        rw [← hσ18]
        refine a_iload_n dL_lawText_83 rfl 0 rfl ?_
        refine a_iconst (2 : Int32) dL_lawText_84 rfl ?_
        obtain ⟨q19, hq19, hf⟩ := obind hf
        refine a_callS (as := [.int p0, .int (2 : Int32)]) (stk := []) (q := some (.int q19)) (σ1 := σ18) (kL_at e p0 (2 : Int32) σ18 _ hq19) sl_L_8 rfl (Nat.le_of_ble_eq_true rfl) dL_lawText_85 ?_
        obtain ⟨q21, hr44, hf⟩ := obind hf
        have hA43 : AL K (e + 1) ML_lawText 111 [(0, .int p0), (1, .ref a1), (2, .ref a2), (3, .int q21.1)] [] q21.2 (some (.int q.1)) q.2 := by
          refine a_aload_n dL_lawText_111 rfl 1 rfl ?_
          refine a_iconst (1 : Int32) dL_lawText_112 rfl ?_
          obtain ⟨hb22, hf⟩ := grd_elim hf
          refine a_iald ha1 hb22 dL_lawText_113 ?_
          refine a_iconst (1 : Int32) dL_lawText_114 rfl ?_
          obtain ⟨q24, hr40, hf⟩ := obind hf
          have hA39 : AL K (e + 1) ML_lawText 126 [(0, .int p0), (1, .ref a1), (2, .ref a2), (3, .int q24.1)] [] q24.2 (some (.int q.1)) q.2 := by
            refine a_aload_n dL_lawText_126 rfl 1 rfl ?_
            refine a_iconst (2 : Int32) dL_lawText_127 rfl ?_
            obtain ⟨hb25, hf⟩ := grd_elim hf
            refine a_iald ha1 hb25 dL_lawText_128 ?_
            refine a_iconst (1 : Int32) dL_lawText_129 rfl ?_
            obtain ⟨q27, hr36, hf⟩ := obind hf
            have hA35 : AL K (e + 1) ML_lawText 141 [(0, .int p0), (1, .ref a1), (2, .ref a2), (3, .int q27.1)] [] q27.2 (some (.int q.1)) q.2 := by
              refine a_iload_n dL_lawText_141 rfl 0 rfl ?_
              refine a_bipush (7 : Int32) dL_lawText_142 rfl ?_
              refine a_ishr dL_lawText_144 ?_
              refine a_iconst (2 : Int32) dL_lawText_145 rfl ?_
              obtain ⟨q28, hq28, hf⟩ := obind hf
              refine a_callS (as := [.int (p0 >>> ((7 : Int32) &&& 31)), .int (2 : Int32)]) (stk := []) (q := some (.int q28)) (σ1 := q27.2) (kL_at e (p0 >>> ((7 : Int32) &&& 31)) (2 : Int32) q27.2 _ hq28) sl_L_8 rfl (Nat.le_of_ble_eq_true rfl) dL_lawText_146 ?_
              by_cases hc29 : q28 ≤ 0
              · rw [if_pos hc29] at hf
                refine a_if_le_t 172 dL_lawText_149 (by decide) hc29 ?_
                refine a_iload_n dL_lawText_172 rfl 3 rfl ?_
                have hq := Option.some.inj hf
                subst hq
                exact a_iret rfl dL_lawText_173
              · rw [if_neg hc29] at hf
                refine a_if_le_f 172 dL_lawText_149 (by decide) hc29 ?_
                refine a_aload_n dL_lawText_152 rfl 2 rfl ?_
                refine a_iload_n dL_lawText_153 rfl 3 rfl ?_
                refine a_iinc (q27.1 + (1 : Int32)) dL_lawText_154 3 rfl rfl (by decide) (loc' := [(3, .int (q27.1 + (1 : Int32))), (0, .int p0), (1, .ref a1), (2, .ref a2)]) rfl ?_
                refine a_bipush (119 : Int32) dL_lawText_157 rfl ?_
                obtain ⟨hb30, hf⟩ := grd_elim hf
                refine a_iast ha2 hb30 dL_lawText_159 ?_
                obtain ⟨σ31, hσ31, hf⟩ := bnd_elim hf
                rw [← hσ31]
                refine a_aload_n dL_lawText_160 rfl 3 rfl ?_
                refine a_iload_n dL_lawText_161 rfl 0 rfl ?_
                refine a_iinc ((q27.1 + (1 : Int32)) + (1 : Int32)) dL_lawText_162 0 rfl rfl (by decide) (loc' := [(3, .int ((q27.1 + (1 : Int32)) + (1 : Int32))), (0, .int p0), (1, .ref a1), (2, .ref a2)]) rfl ?_
                refine a_bipush (48 : Int32) dL_lawText_165 rfl ?_
                refine a_aload_n dL_lawText_167 rfl 2 rfl ?_
                refine a_iconst (3 : Int32) dL_lawText_168 rfl ?_
                obtain ⟨hb32, hf⟩ := grd_elim hf
                refine a_iald ha1 hb32 dL_lawText_169 ?_
                refine a_iadd dL_lawText_170 ?_
                obtain ⟨hb33, hf⟩ := grd_elim hf
                refine a_iast ha2 hb33 dL_lawText_171 ?_
                obtain ⟨σ34, hσ34, hf⟩ := bnd_elim hf
                rw [← hσ34]
                refine a_iload_n dL_lawText_172 rfl 0 rfl ?_
                have hq := Option.some.inj hf
                subst hq
                exact a_iret rfl dL_lawText_173
            clear hf
            have hf := hr36
            clear hr36
            by_cases hc26 : (q24.2.1 a1 (2 : Int32).toNatClampNeg) = (1 : Int32)
            · rw [if_pos hc26] at hf
              refine a_icmp_ne_f 141 dL_lawText_130 (by decide) hc26 ?_
              refine a_aload_n dL_lawText_133 rfl 2 rfl ?_
              refine a_iload_n dL_lawText_134 rfl 3 rfl ?_
              refine a_iinc (q24.1 + (1 : Int32)) dL_lawText_135 3 rfl rfl (by decide) (loc' := [(3, .int (q24.1 + (1 : Int32))), (0, .int p0), (1, .ref a1), (2, .ref a2)]) rfl ?_
              refine a_bipush (111 : Int32) dL_lawText_138 rfl ?_
              obtain ⟨hb37, hf⟩ := grd_elim hf
              refine a_iast ha2 hb37 dL_lawText_140 ?_
              obtain ⟨σ38, hσ38, hf⟩ := bnd_elim hf
              rw [← hσ38]
              have hq := Option.some.inj hf
              subst hq
              refine a_locs (loc' := [(0, .int p0), (1, .ref a1), (2, .ref a2), (3, .int (q24.1 + (1 : Int32)))]) [1, 2, 3, 0] rfl ?_
              exact hA35
            · rw [if_neg hc26] at hf
              refine a_icmp_ne_t 141 dL_lawText_130 (by decide) hc26 ?_
              have hq := Option.some.inj hf
              subst hq
              exact hA35
          clear hf
          have hf := hr40
          clear hr40
          by_cases hc23 : (q21.2.1 a1 (1 : Int32).toNatClampNeg) = (1 : Int32)
          · rw [if_pos hc23] at hf
            refine a_icmp_ne_f 126 dL_lawText_115 (by decide) hc23 ?_
            refine a_aload_n dL_lawText_118 rfl 2 rfl ?_
            refine a_iload_n dL_lawText_119 rfl 3 rfl ?_
            refine a_iinc (q21.1 + (1 : Int32)) dL_lawText_120 3 rfl rfl (by decide) (loc' := [(3, .int (q21.1 + (1 : Int32))), (0, .int p0), (1, .ref a1), (2, .ref a2)]) rfl ?_
            refine a_bipush (98 : Int32) dL_lawText_123 rfl ?_
            obtain ⟨hb41, hf⟩ := grd_elim hf
            refine a_iast ha2 hb41 dL_lawText_125 ?_
            obtain ⟨σ42, hσ42, hf⟩ := bnd_elim hf
            rw [← hσ42]
            have hq := Option.some.inj hf
            subst hq
            refine a_locs (loc' := [(0, .int p0), (1, .ref a1), (2, .ref a2), (3, .int (q21.1 + (1 : Int32)))]) [1, 2, 3, 0] rfl ?_
            exact hA39
          · rw [if_neg hc23] at hf
            refine a_icmp_ne_t 126 dL_lawText_115 (by decide) hc23 ?_
            have hq := Option.some.inj hf
            subst hq
            exact hA39
        clear hf
        have hf := hr44
        clear hr44
        by_cases hc20 : q19 ≤ 0
        · rw [if_pos hc20] at hf
          refine a_if_le_t 111 dL_lawText_88 (by decide) hc20 ?_
          have hq := Option.some.inj hf
          subst hq
          exact hA43
        · rw [if_neg hc20] at hf
          refine a_if_le_f 111 dL_lawText_88 (by decide) hc20 ?_
          refine a_aload_n dL_lawText_91 rfl 2 rfl ?_
          refine a_iload_n dL_lawText_92 rfl 3 rfl ?_
          refine a_iinc ((0 : Int32) + (1 : Int32)) dL_lawText_93 3 rfl rfl (by decide) (loc' := [(3, .int ((0 : Int32) + (1 : Int32))), (0, .int p0), (1, .ref a1), (2, .ref a2)]) rfl ?_
          refine a_bipush (107 : Int32) dL_lawText_96 rfl ?_
          obtain ⟨hb45, hf⟩ := grd_elim hf
          refine a_iast ha2 hb45 dL_lawText_98 ?_
          obtain ⟨σ46, hσ46, hf⟩ := bnd_elim hf
          rw [← hσ46]
          refine a_aload_n dL_lawText_99 rfl 3 rfl ?_
          refine a_iload_n dL_lawText_100 rfl 0 rfl ?_
          refine a_iinc (((0 : Int32) + (1 : Int32)) + (1 : Int32)) dL_lawText_101 0 rfl rfl (by decide) (loc' := [(3, .int (((0 : Int32) + (1 : Int32)) + (1 : Int32))), (0, .int p0), (1, .ref a1), (2, .ref a2)]) rfl ?_
          refine a_bipush (48 : Int32) dL_lawText_104 rfl ?_
          refine a_aload_n dL_lawText_106 rfl 2 rfl ?_
          refine a_iconst (0 : Int32) dL_lawText_107 rfl ?_
          obtain ⟨hb47, hf⟩ := grd_elim hf
          refine a_iald ha1 hb47 dL_lawText_108 ?_
          refine a_iadd dL_lawText_109 ?_
          obtain ⟨hb48, hf⟩ := grd_elim hf
          refine a_iast ha2 hb48 dL_lawText_110 ?_
          obtain ⟨σ49, hσ49, hf⟩ := bnd_elim hf
          rw [← hσ49]
          have hq := Option.some.inj hf
          subst hq
          refine a_locs (loc' := [(0, .int p0), (1, .ref a1), (2, .ref a2), (3, .int (((0 : Int32) + (1 : Int32)) + (1 : Int32)))]) [1, 2, 3, 0] rfl ?_
          exact hA43
      clear hf
      have hf := hr51
      clear hr51
      by_cases hc15 : q14 = 0
      · rw [if_pos hc15] at hf
        refine a_if_ne_f 71 dL_lawText_64 (by decide) hc15 ?_
        refine a_iconst (3 : Int32) dL_lawText_67 rfl ?_
        refine a_goto 82 dL_lawText_68 (by decide) ?_
        have hq := Option.some.inj hf
        subst hq
        exact hA50
      · rw [if_neg hc15] at hf
        refine a_if_ne_t 71 dL_lawText_64 (by decide) hc15 ?_
        refine a_iconst (1 : Int32) dL_lawText_71 rfl ?_
        refine a_iload_n dL_lawText_72 rfl 0 rfl ?_
        refine a_bipush (8 : Int32) dL_lawText_73 rfl ?_
        refine a_ishr dL_lawText_75 ?_
        refine a_bipush (9 : Int32) dL_lawText_76 rfl ?_
        obtain ⟨q52, hq52, hf⟩ := obind hf
        refine a_callS (as := [.int (p0 >>> ((8 : Int32) &&& 31)), .int (9 : Int32)]) (stk := [.int (1 : Int32), .int (3 : Int32), .ref a1]) (q := some (.int q52)) (σ1 := σ13) (kL_at e (p0 >>> ((8 : Int32) &&& 31)) (9 : Int32) σ13 _ hq52) sl_L_8 rfl (Nat.le_of_ble_eq_true rfl) dL_lawText_78 ?_
        refine a_iadd dL_lawText_81 ?_
        have hq := Option.some.inj hf
        subst hq
        exact hA50
    clear hf
    by_cases hc10 : q9 = 0
    · rw [if_pos hc10] at hx11
      refine a_if_ne_f 52 dL_lawText_45 (by decide) hc10 ?_
      refine a_iconst (1 : Int32) dL_lawText_48 rfl ?_
      refine a_goto 53 dL_lawText_49 (by decide) ?_
      replace hx11 := hx11.symm; subst hx11
      exact hA53
    · rw [if_neg hc10] at hx11
      refine a_if_ne_t 52 dL_lawText_45 (by decide) hc10 ?_
      refine a_iconst (0 : Int32) dL_lawText_52 rfl ?_
      replace hx11 := hx11.symm; subst hx11
      exact hA53
  clear hf
  have hf := hr55
  clear hr55
  by_cases hc2 : q1 = 0
  · rw [if_pos hc2] at hf
    refine a_if_ne_f 16 dL_lawText_9 (by decide) hc2 ?_
    refine a_iconst (1 : Int32) dL_lawText_12 rfl ?_
    refine a_goto 25 dL_lawText_13 (by decide) ?_
    have hq := Option.some.inj hf
    subst hq
    refine a_locs (loc' := [(0, .int p0), (1, .ref a1), (2, .ref a2), (3, .int (0 : Int32))]) [1, 2, 3, 0] rfl ?_
    exact hA54
  · rw [if_neg hc2] at hf
    refine a_if_ne_t 16 dL_lawText_9 (by decide) hc2 ?_
    refine a_iconst (1 : Int32) dL_lawText_16 rfl ?_
    refine a_iload_n dL_lawText_17 rfl 1 rfl ?_
    refine a_iconst (1 : Int32) dL_lawText_18 rfl ?_
    refine a_ishr dL_lawText_19 ?_
    refine a_iconst (3 : Int32) dL_lawText_20 rfl ?_
    obtain ⟨q56, hq56, hf⟩ := obind hf
    refine a_callS (as := [.int (p0 >>> ((1 : Int32) &&& 31)), .int (3 : Int32)]) (stk := [.int (1 : Int32), .int (0 : Int32), .ref a1]) (q := some (.int q56)) (σ1 := σ) (kL_at e (p0 >>> ((1 : Int32) &&& 31)) (3 : Int32) σ _ hq56) sl_L_8 rfl (Nat.le_of_ble_eq_true rfl) dL_lawText_21 ?_
    refine a_iadd dL_lawText_24 ?_
    have hq := Option.some.inj hf
    subst hq
    refine a_locs (loc' := [(0, .int p0), (1, .ref a1), (2, .ref a2), (3, .int (0 : Int32))]) [1, 2, 3, 0] rfl ?_
    exact hA54
set_option maxHeartbeats 4000000 in
set_option maxRecDepth 100000 in
theorem kL_write_L2 (e : Nat) {K : Nat → Prop} (a1 n1 : Nat) (c2 : Int32)  (hk : ∀ n, K n → 58 ≤ n) (ha1 : IA K a1 n1) {r : Option Value} {τ : St} (q : Sum (Int32 × St) (St)) : ∀ (n : Nat) (v3 : Int32) (σ : St), fL_write_L2 a1 n1 c2 n v3 σ = some q → (∀ z, q = .inl z → r = some (.int z.1) ∧ τ = z.2) → (∀ q1, q = .inr q1 → AL K (e + 3) ML_write 29 [] [] q1 r τ) → AL K (e + 3) ML_write 2 [(0, .ref 0), (1, .ref a1), (2, .int c2), (3, .int v3)] [] σ r τ := by
  intro n
  induction n with
  | zero =>
    intro v3 σ  hf
    simp only [fL_write_L2] at hf
    exact absurd hf (by simp)
  | succ n ih =>
    intro v3 σ  hf h1 h2
    rw [fL_write_L2] at hf
    refine a_iload_n dL_write_2 rfl 3 rfl ?_
    refine a_iload_n dL_write_3 rfl 2 rfl ?_
    by_cases hc1 : c2 ≤ v3
    · rw [if_pos hc1] at hf
      refine a_icmp_ge_t 29 dL_write_4 (by decide) hc1 ?_
      have hq := Option.some.inj hf
      refine a_locs (loc' := []) [] rfl ?_
      exact h2 _ hq.symm
    · rw [if_neg hc1] at hf
      refine a_icmp_ge_f 29 dL_write_4 (by decide) hc1 ?_
      refine a_aload_n dL_write_7 rfl 0 rfl ?_
      refine a_aload_n dL_write_8 rfl 1 rfl ?_
      refine a_iload_n dL_write_9 rfl 3 rfl ?_
      obtain ⟨hb2, hf⟩ := grd_elim hf
      refine a_iald ha1 hb2 dL_write_10 ?_
      refine a_i2l dL_write_11 ?_
      obtain ⟨q3, hq3, hf⟩ := obind hf
      refine a_callV (as := [.long ((σ.1 a1 v3.toNatClampNeg).toInt64)]) (stk := []) (q := some (.int q3.1)) (σ1 := q3.2) (SpK.mono (kX8_letters e ((σ.1 a1 v3.toNatClampNeg).toInt64) σ _ hq3) hk) (ob_0.mono hk) vl_L_14 rfl (Nat.le_of_ble_eq_true rfl) dL_write_12 ?_
      refine a_iload_n dL_write_15 rfl 3 rfl ?_
      refine a_iconst (1 : Int32) dL_write_16 rfl ?_
      refine a_iadd dL_write_17 ?_
      by_cases hc4 : q3.1 = (v3 + (1 : Int32))
      · rw [if_pos hc4] at hf
        refine a_icmp_eq_t 23 dL_write_18 (by decide) hc4 ?_
        refine a_iinc (v3 + (1 : Int32)) dL_write_23 3 rfl rfl (by decide) (loc' := [(3, .int (v3 + (1 : Int32))), (0, .ref 0), (1, .ref a1), (2, .int c2)]) rfl ?_
        refine a_goto 2 dL_write_26 (by decide) ?_
        refine a_locs (loc' := [(0, .ref 0), (1, .ref a1), (2, .int c2), (3, .int (v3 + (1 : Int32)))]) [1, 2, 3, 0] rfl ?_
        exact ih (v3 + (1 : Int32)) q3.2 hf h1 h2
      · rw [if_neg hc4] at hf
        refine a_icmp_eq_f 23 dL_write_18 (by decide) hc4 ?_
        refine a_iconst (0 : Int32) dL_write_21 rfl ?_
        have hq := Option.some.inj hf
        obtain ⟨hr0, ht0⟩ := h1 _ hq.symm
        rw [hr0, ht0]
        exact a_zret rfl (Or.inl rfl) dL_write_22
set_option maxHeartbeats 4000000 in
set_option maxRecDepth 100000 in
theorem kL_write (e : Nat) {K : Nat → Prop} (a1 n1 : Nat) (p2 : Int32) (σ : St) (hk : ∀ n, K n → 58 ≤ n) (ha1 : IA K a1 n1) (q : Int32 × St) (hf : fL_write a1 n1 p2 σ = some q) : SpK K (e + 3) ML_write [.ref 0, .ref a1, .int p2] σ (some (.int q.1)) q.2 := by
  refine sp_of rfl (Nat.le_of_ble_eq_true rfl) (loc := [(0, .ref 0), (1, .ref a1), (2, .int p2)]) rfl ?_
  unfold fL_write at hf
  refine a_iconst (0 : Int32) dL_write_0 rfl ?_
  refine a_istore_n dL_write_1 rfl (by decide) (loc' := [(3, .int (0 : Int32)), (0, .ref 0), (1, .ref a1), (2, .int p2)]) rfl ?_
  obtain ⟨s6, hr7, hf⟩ := obind hf
  refine a_locs (loc' := [(0, .ref 0), (1, .ref a1), (2, .int p2), (3, .int (0 : Int32))]) [1, 2, 3, 0] rfl ?_
  refine kL_write_L2 e a1 n1 p2 hk ha1 s6 fu (0 : Int32) σ hr7 ?_ ?_
  · intro z8 hz
    subst hz
    simp only [Sum.elim_inl] at hf
    have hq := Option.some.inj hf
    subst hq
    exact ⟨rfl, rfl⟩
  · intro q5 hz
    subst hz
    simp only [Sum.elim_inr] at hf
    refine a_iconst (1 : Int32) dL_write_29 rfl ?_
    have hq := Option.some.inj hf
    subst hq
    exact a_zret rfl (Or.inr rfl) dL_write_30
set_option maxHeartbeats 4000000 in
set_option maxRecDepth 100000 in
theorem kL_people_L24 (e : Nat) {K : Nat → Prop} (c2 : Int32) (a4 n4 : Nat) (a5 n5 : Nat) (c6 : Int32)  (hk : ∀ n, K n → 58 ≤ n) (ha4 : IA K a4 n4) (ha5 : IA K a5 n5) {r : Option Value} {τ : St} (q : Sum (Int32 × St) (St)) : ∀ (n : Nat) (v7 : Int32) (σ : St), fL_people_L24 c2 a4 n4 a5 n5 c6 n v7 σ = some q → (∀ z, q = .inl z → r = some (.int z.1) ∧ τ = z.2) → (∀ q1, q = .inr q1 → AL K (e + 3) ML_people 77 [(0, .ref 0), (1, .ref 68), (2, .int c2), (4, .ref a4), (5, .ref a5)] [] q1 r τ) → AL K (e + 3) ML_people 24 [(0, .ref 0), (1, .ref 68), (2, .int c2), (4, .ref a4), (5, .ref a5), (6, .int c6), (7, .int v7)] [] σ r τ := by
  intro n
  induction n with
  | zero =>
    intro v7 σ  hf
    simp only [fL_people_L24] at hf
    exact absurd hf (by simp)
  | succ n ih =>
    intro v7 σ  hf h1 h2
    rw [fL_people_L24] at hf
    refine a_iload dL_people_24 6 rfl ?_
    refine a_aload dL_people_26 3 rfl ?_
    refine a_iconst (0 : Int32) dL_people_28 rfl ?_
    obtain ⟨hb5, hf⟩ := grd_elim hf
    refine a_iald ha4 hb5 dL_people_29 ?_
    by_cases hc6 : (σ.1 a4 (0 : Int32).toNatClampNeg) ≤ v7
    · rw [if_pos hc6] at hf
      refine a_icmp_ge_t 77 dL_people_30 (by decide) hc6 ?_
      have hq := Option.some.inj hf
      refine a_locs (loc' := [(0, .ref 0), (1, .ref 68), (2, .int c2), (4, .ref a4), (5, .ref a5)]) [0, 1, 2, 3, 4] rfl ?_
      exact h2 _ hq.symm
    · rw [if_neg hc6] at hf
      refine a_icmp_ge_f 77 dL_people_30 (by decide) hc6 ?_
      refine a_aload dL_people_33 3 rfl ?_
      refine a_iconst (1 : Int32) dL_people_35 rfl ?_
      refine a_iload dL_people_36 6 rfl ?_
      refine a_iadd dL_people_38 ?_
      refine a_iload dL_people_39 5 rfl ?_
      refine a_iconst (3 : Int32) dL_people_41 rfl ?_
      refine a_iconst (2 : Int32) dL_people_42 rfl ?_
      refine a_iload dL_people_43 6 rfl ?_
      refine a_imul dL_people_45 ?_
      refine a_iadd dL_people_46 ?_
      refine a_ishr dL_people_47 ?_
      refine a_iconst (4 : Int32) dL_people_48 rfl ?_
      obtain ⟨q7, hq7, hf⟩ := obind hf
      refine a_callS (as := [.int (c6 >>> (((3 : Int32) + ((2 : Int32) * v7)) &&& 31)), .int (4 : Int32)]) (stk := [.int ((1 : Int32) + v7), .ref a4]) (q := some (.int q7)) (σ1 := σ) (kL_at (e + 2) (c6 >>> (((3 : Int32) + ((2 : Int32) * v7)) &&& 31)) (4 : Int32) σ _ hq7) sl_L_8 rfl (Nat.le_of_ble_eq_true rfl) dL_people_49 ?_
      obtain ⟨hb8, hf⟩ := grd_elim hf
      refine a_iast ha4 hb8 dL_people_52 ?_
      obtain ⟨σ9, hσ9, hf⟩ := bnd_elim hf
      rw [← hσ9]
      refine a_aload_n dL_people_53 rfl 0 rfl ?_
      refine a_aload dL_people_54 3 rfl ?_
      refine a_iconst (1 : Int32) dL_people_56 rfl ?_
      refine a_iload dL_people_57 6 rfl ?_
      refine a_iadd dL_people_59 ?_
      obtain ⟨hb10, hf⟩ := grd_elim hf
      refine a_iald ha4 hb10 dL_people_60 ?_
      obtain ⟨q11, hq11, hf⟩ := obind hf
      refine a_callV (as := [.int (σ9.1 a4 ((1 : Int32) + v7).toNatClampNeg)]) (stk := []) (q := some (.int q11.1)) (σ1 := q11.2) (SpK.mono (kX8_person (e + 1) (σ9.1 a4 ((1 : Int32) + v7).toNatClampNeg) σ9 _ hq11) hk) (ob_0.mono hk) vl_L_24 rfl (Nat.le_of_ble_eq_true rfl) dL_people_61 ?_
      refine a_iload dL_people_64 6 rfl ?_
      by_cases hc12 : q11.1 = v7
      · rw [if_pos hc12] at hf
        refine a_icmp_eq_t 71 dL_people_66 (by decide) hc12 ?_
        refine a_iinc (v7 + (1 : Int32)) dL_people_71 6 rfl rfl (by decide) (loc' := [(7, .int (v7 + (1 : Int32))), (0, .ref 0), (1, .ref 68), (2, .int c2), (4, .ref a4), (5, .ref a5), (6, .int c6)]) rfl ?_
        refine a_goto 24 dL_people_74 (by decide) ?_
        refine a_locs (loc' := [(0, .ref 0), (1, .ref 68), (2, .int c2), (4, .ref a4), (5, .ref a5), (6, .int c6), (7, .int (v7 + (1 : Int32)))]) [1, 2, 3, 4, 5, 6, 0] rfl ?_
        exact ih (v7 + (1 : Int32)) q11.2 hf h1 h2
      · rw [if_neg hc12] at hf
        refine a_icmp_eq_f 71 dL_people_66 (by decide) hc12 ?_
        refine a_iconst (0 : Int32) dL_people_69 rfl ?_
        have hq := Option.some.inj hf
        obtain ⟨hr0, ht0⟩ := h1 _ hq.symm
        rw [hr0, ht0]
        exact a_zret rfl (Or.inl rfl) dL_people_70
set_option maxHeartbeats 4000000 in
set_option maxRecDepth 100000 in
theorem kL_people_L92 (e : Nat) {K : Nat → Prop} (c2 : Int32) (a4 n4 : Nat) (a5 n5 : Nat) (c7 : Int32)  (hk : ∀ n, K n → 58 ≤ n) (ha4 : IA K a4 n4) (ha5 : IA K a5 n5) {r : Option Value} {τ : St} (q : Sum (Int32 × St) (St)) : ∀ (n : Nat) (v8 : Int32) (σ : St), fL_people_L92 c2 a4 n4 a5 n5 c7 n v8 σ = some q → (∀ z, q = .inl z → r = some (.int z.1) ∧ τ = z.2) → (∀ q1, q = .inr q1 → AL K (e + 3) ML_people 186 [(0, .ref 0), (1, .ref 68), (2, .int c2), (4, .ref a4), (5, .ref a5), (7, .int c7)] [] q1 r τ) → AL K (e + 3) ML_people 92 [(0, .ref 0), (1, .ref 68), (2, .int c2), (4, .ref a4), (5, .ref a5), (7, .int c7), (8, .int v8)] [] σ r τ := by
  intro n
  induction n with
  | zero =>
    intro v8 σ  hf
    simp only [fL_people_L92] at hf
    exact absurd hf (by simp)
  | succ n ih =>
    intro v8 σ  hf h1 h2
    rw [fL_people_L92] at hf
    refine a_iload dL_people_92 6 rfl ?_
    refine a_iload dL_people_94 5 rfl ?_
    by_cases hc19 : c7 ≤ v8
    · rw [if_pos hc19] at hf
      refine a_icmp_ge_t 186 dL_people_96 (by decide) hc19 ?_
      have hq := Option.some.inj hf
      refine a_locs (loc' := [(0, .ref 0), (1, .ref 68), (2, .int c2), (4, .ref a4), (5, .ref a5), (7, .int c7)]) [0, 1, 2, 3, 4, 5] rfl ?_
      exact h2 _ hq.symm
    · rw [if_neg hc19] at hf
      refine a_icmp_ge_f 186 dL_people_96 (by decide) hc19 ?_
      refine a_aload_n dL_people_99 rfl 1 rfl ?_
      refine a_iload_n dL_people_100 rfl 2 rfl ?_
      refine a_iconst (1 : Int32) dL_people_101 rfl ?_
      refine a_iadd dL_people_102 ?_
      refine a_iload dL_people_103 5 rfl ?_
      refine a_iconst (4 : Int32) dL_people_105 rfl ?_
      refine a_irem (by decide) dL_people_106 ?_
      refine a_iadd dL_people_107 ?_
      obtain ⟨q20, hq20, hf⟩ := obind hf
      refine a_callS (as := [.ref 68, .int ((c2 + (1 : Int32)) + (c7 - c7 / (4 : Int32) * (4 : Int32)))]) (stk := []) (q := some (.int q20)) (σ1 := σ) (kL_cell (e + 2) ((c2 + (1 : Int32)) + (c7 - c7 / (4 : Int32) * (4 : Int32))) σ _ hq20) sl_L_20 rfl (Nat.le_of_ble_eq_true rfl) dL_people_108 ?_
      refine a_iconst (3 : Int32) dL_people_111 rfl ?_
      refine a_iload dL_people_112 6 rfl ?_
      refine a_imul dL_people_114 ?_
      refine a_iload dL_people_115 5 rfl ?_
      refine a_iconst (4 : Int32) dL_people_117 rfl ?_
      refine a_idiv (by decide) dL_people_118 ?_
      refine a_iadd dL_people_119 ?_
      refine a_ishr dL_people_120 ?_
      obtain ⟨x21, hx21, hf⟩ := bnd_elim hf
      refine a_top (w := .int x21) (by rw [hx21]) ?_
      refine a_istore dL_people_121 (by decide) (loc' := [(9, .int x21), (0, .ref 0), (1, .ref 68), (2, .int c2), (4, .ref a4), (5, .ref a5), (7, .int c7), (8, .int v8)]) rfl ?_
      refine a_iload dL_people_123 0 rfl ?_
      refine a_iconst (5 : Int32) dL_people_125 rfl ?_
      obtain ⟨q22, hq22, hf⟩ := obind hf
      refine a_callS (as := [.int x21, .int (5 : Int32)]) (stk := []) (q := some (.int q22)) (σ1 := σ) (kL_at (e + 2) x21 (5 : Int32) σ _ hq22) sl_L_8 rfl (Nat.le_of_ble_eq_true rfl) dL_people_126 ?_
      refine a_iconst (2 : Int32) dL_people_129 rfl ?_
      by_cases hc23 : q22 ≤ (2 : Int32)
      · rw [if_pos hc23] at hf
        refine a_icmp_le_t 136 dL_people_130 (by decide) hc23 ?_
        refine a_aload_n dL_people_136 rfl 1 rfl ?_
        refine a_iload dL_people_137 6 rfl ?_
        refine a_iload dL_people_139 7 rfl ?_
        refine a_iconst (1 : Int32) dL_people_141 rfl ?_
        obtain ⟨q24, hq24, hf⟩ := obind hf
        refine a_callV (as := [.int c7, .int v8, .int (1 : Int32)]) (stk := []) (q := some (.int q24.1)) (σ1 := q24.2) (SpK.mono (kX8_know e c7 v8 (1 : Int32) σ _ hq24) hk) (ob_0.mono hk) vl_L_28 rfl (Nat.le_of_ble_eq_true rfl) dL_people_142 ?_
        by_cases hc25 : q24.1 = 0
        · rw [if_pos hc25] at hf
          refine a_if_eq_t 150 dL_people_145 (by decide) hc25 ?_
          refine a_aload dL_people_150 4 rfl ?_
          refine a_bipush (9 : Int32) dL_people_152 rfl ?_
          refine a_iload dL_people_154 6 rfl ?_
          refine a_iadd dL_people_156 ?_
          refine a_dup2 rfl rfl dL_people_157 ?_
          obtain ⟨hb26, hf⟩ := grd_elim hf
          refine a_iald ha4 hb26 dL_people_158 ?_
          refine a_iconst (1 : Int32) dL_people_159 rfl ?_
          refine a_iload dL_people_160 7 rfl ?_
          refine a_ishl dL_people_162 ?_
          refine a_ior dL_people_163 ?_
          obtain ⟨hb27, hf⟩ := grd_elim hf
          refine a_iast ha4 hb27 dL_people_164 ?_
          obtain ⟨σ28, hσ28, hf⟩ := bnd_elim hf
          rw [← hσ28]
          refine a_aload dL_people_165 4 rfl ?_
          refine a_bipush (9 : Int32) dL_people_167 rfl ?_
          refine a_iload dL_people_169 7 rfl ?_
          refine a_iadd dL_people_171 ?_
          refine a_dup2 rfl rfl dL_people_172 ?_
          obtain ⟨hb29, hf⟩ := grd_elim hf
          refine a_iald ha4 hb29 dL_people_173 ?_
          refine a_iconst (1 : Int32) dL_people_174 rfl ?_
          refine a_iload dL_people_175 6 rfl ?_
          refine a_ishl dL_people_177 ?_
          refine a_ior dL_people_178 ?_
          obtain ⟨hb30, hf⟩ := grd_elim hf
          refine a_iast ha4 hb30 dL_people_179 ?_
          obtain ⟨σ31, hσ31, hf⟩ := bnd_elim hf
          rw [← hσ31]
          refine a_iinc (v8 + (1 : Int32)) dL_people_180 7 rfl rfl (by decide) (loc' := [(8, .int (v8 + (1 : Int32))), (9, .int x21), (0, .ref 0), (1, .ref 68), (2, .int c2), (4, .ref a4), (5, .ref a5), (7, .int c7)]) rfl ?_
          refine a_goto 92 dL_people_183 (by decide) ?_
          refine a_locs (loc' := [(0, .ref 0), (1, .ref 68), (2, .int c2), (4, .ref a4), (5, .ref a5), (7, .int c7), (8, .int (v8 + (1 : Int32)))]) [2, 3, 4, 5, 6, 7, 0] rfl ?_
          exact ih (v8 + (1 : Int32)) σ31 hf h1 h2
        · rw [if_neg hc25] at hf
          refine a_if_eq_f 150 dL_people_145 (by decide) hc25 ?_
          refine a_iconst (0 : Int32) dL_people_148 rfl ?_
          have hq := Option.some.inj hf
          obtain ⟨hr0, ht0⟩ := h1 _ hq.symm
          rw [hr0, ht0]
          exact a_zret rfl (Or.inl rfl) dL_people_149
      · rw [if_neg hc23] at hf
        refine a_icmp_le_f 136 dL_people_130 (by decide) hc23 ?_
        refine a_goto 180 dL_people_133 (by decide) ?_
        refine a_iinc (v8 + (1 : Int32)) dL_people_180 7 rfl rfl (by decide) (loc' := [(8, .int (v8 + (1 : Int32))), (9, .int x21), (0, .ref 0), (1, .ref 68), (2, .int c2), (4, .ref a4), (5, .ref a5), (7, .int c7)]) rfl ?_
        refine a_goto 92 dL_people_183 (by decide) ?_
        refine a_locs (loc' := [(0, .ref 0), (1, .ref 68), (2, .int c2), (4, .ref a4), (5, .ref a5), (7, .int c7), (8, .int (v8 + (1 : Int32)))]) [2, 3, 4, 5, 6, 7, 0] rfl ?_
        exact ih (v8 + (1 : Int32)) σ hf h1 h2
set_option maxHeartbeats 4000000 in
set_option maxRecDepth 100000 in
theorem kL_people_L80 (e : Nat) {K : Nat → Prop} (c2 : Int32) (a4 n4 : Nat) (a5 n5 : Nat)  (hk : ∀ n, K n → 58 ≤ n) (ha4 : IA K a4 n4) (ha5 : IA K a5 n5) {r : Option Value} {τ : St} (q : Sum (Int32 × St) (St)) : ∀ (n : Nat) (v7 : Int32) (σ : St), fL_people_L80 c2 a4 n4 a5 n5 n v7 σ = some q → (∀ z, q = .inl z → r = some (.int z.1) ∧ τ = z.2) → (∀ q1, q = .inr q1 → AL K (e + 3) ML_people 192 [(0, .ref 0), (1, .ref 68), (2, .int c2), (4, .ref a4), (5, .ref a5)] [] q1 r τ) → AL K (e + 3) ML_people 80 [(0, .ref 0), (1, .ref 68), (2, .int c2), (4, .ref a4), (5, .ref a5), (7, .int v7)] [] σ r τ := by
  intro n
  induction n with
  | zero =>
    intro v7 σ  hf
    simp only [fL_people_L80] at hf
    exact absurd hf (by simp)
  | succ n ih =>
    intro v7 σ  hf h1 h2
    rw [fL_people_L80] at hf
    refine a_iload dL_people_80 5 rfl ?_
    refine a_aload dL_people_82 3 rfl ?_
    refine a_iconst (0 : Int32) dL_people_84 rfl ?_
    obtain ⟨hb17, hf⟩ := grd_elim hf
    refine a_iald ha4 hb17 dL_people_85 ?_
    by_cases hc18 : (σ.1 a4 (0 : Int32).toNatClampNeg) ≤ v7
    · rw [if_pos hc18] at hf
      refine a_icmp_ge_t 192 dL_people_86 (by decide) hc18 ?_
      have hq := Option.some.inj hf
      refine a_locs (loc' := [(0, .ref 0), (1, .ref 68), (2, .int c2), (4, .ref a4), (5, .ref a5)]) [0, 1, 2, 3, 4] rfl ?_
      exact h2 _ hq.symm
    · rw [if_neg hc18] at hf
      refine a_icmp_ge_f 192 dL_people_86 (by decide) hc18 ?_
      refine a_iconst (0 : Int32) dL_people_89 rfl ?_
      refine a_istore dL_people_90 (by decide) (loc' := [(8, .int (0 : Int32)), (0, .ref 0), (1, .ref 68), (2, .int c2), (4, .ref a4), (5, .ref a5), (7, .int v7)]) rfl ?_
      obtain ⟨s33, hr34, hf⟩ := obind hf
      refine a_locs (loc' := [(0, .ref 0), (1, .ref 68), (2, .int c2), (4, .ref a4), (5, .ref a5), (7, .int v7), (8, .int (0 : Int32))]) [1, 2, 3, 4, 5, 6, 0] rfl ?_
      refine kL_people_L92 e c2 a4 n4 a5 n5 v7 hk ha4 ha5 s33 fu (0 : Int32) σ hr34 ?_ ?_
      · intro z35 hz
        subst hz
        simp only [Sum.elim_inl] at hf
        have hq := Option.some.inj hf
        exact h1 _ hq.symm
      · intro q32 hz
        subst hz
        simp only [Sum.elim_inr] at hf
        refine a_iinc (v7 + (1 : Int32)) dL_people_186 5 rfl rfl (by decide) (loc' := [(7, .int (v7 + (1 : Int32))), (0, .ref 0), (1, .ref 68), (2, .int c2), (4, .ref a4), (5, .ref a5)]) rfl ?_
        refine a_goto 80 dL_people_189 (by decide) ?_
        refine a_locs (loc' := [(0, .ref 0), (1, .ref 68), (2, .int c2), (4, .ref a4), (5, .ref a5), (7, .int (v7 + (1 : Int32)))]) [1, 2, 3, 4, 5, 0] rfl ?_
        exact ih (v7 + (1 : Int32)) q32 hf h1 h2
set_option maxHeartbeats 4000000 in
set_option maxRecDepth 100000 in
theorem kL_people_L195 (e : Nat) {K : Nat → Prop} (c2 : Int32) (a4 n4 : Nat) (a5 n5 : Nat)  (hk : ∀ n, K n → 58 ≤ n) (ha4 : IA K a4 n4) (ha5 : IA K a5 n5) {r : Option Value} {τ : St} (q : Sum (Int32 × St) (St)) : ∀ (n : Nat) (v7 : Int32) (σ : St), fL_people_L195 c2 a4 n4 a5 n5 n v7 σ = some q → (∀ z, q = .inl z → r = some (.int z.1) ∧ τ = z.2) → (∀ q1, q = .inr q1 → AL K (e + 3) ML_people 317 [] [] q1 r τ) → AL K (e + 3) ML_people 195 [(0, .ref 0), (1, .ref 68), (2, .int c2), (4, .ref a4), (5, .ref a5), (7, .int v7)] [] σ r τ := by
  intro n
  induction n with
  | zero =>
    intro v7 σ  hf
    simp only [fL_people_L195] at hf
    exact absurd hf (by simp)
  | succ n ih =>
    intro v7 σ  hf h1 h2
    rw [fL_people_L195] at hf
    refine a_iload dL_people_195 5 rfl ?_
    refine a_bipush (8 : Int32) dL_people_197 rfl ?_
    by_cases hc40 : (8 : Int32) ≤ v7
    · rw [if_pos hc40] at hf
      refine a_icmp_ge_t 317 dL_people_199 (by decide) hc40 ?_
      have hq := Option.some.inj hf
      refine a_locs (loc' := []) [] rfl ?_
      exact h2 _ hq.symm
    · rw [if_neg hc40] at hf
      refine a_icmp_ge_f 317 dL_people_199 (by decide) hc40 ?_
      refine a_aload_n dL_people_202 rfl 1 rfl ?_
      refine a_iload_n dL_people_203 rfl 2 rfl ?_
      refine a_iconst (5 : Int32) dL_people_204 rfl ?_
      refine a_iadd dL_people_205 ?_
      refine a_iload dL_people_206 5 rfl ?_
      refine a_iconst (4 : Int32) dL_people_208 rfl ?_
      refine a_irem (by decide) dL_people_209 ?_
      refine a_iadd dL_people_210 ?_
      obtain ⟨q41, hq41, hf⟩ := obind hf
      refine a_callS (as := [.ref 68, .int ((c2 + (5 : Int32)) + (v7 - v7 / (4 : Int32) * (4 : Int32)))]) (stk := []) (q := some (.int q41)) (σ1 := σ) (kL_cell (e + 2) ((c2 + (5 : Int32)) + (v7 - v7 / (4 : Int32) * (4 : Int32))) σ _ hq41) sl_L_20 rfl (Nat.le_of_ble_eq_true rfl) dL_people_211 ?_
      refine a_bipush (12 : Int32) dL_people_214 rfl ?_
      refine a_iload dL_people_216 5 rfl ?_
      refine a_iconst (4 : Int32) dL_people_218 rfl ?_
      refine a_idiv (by decide) dL_people_219 ?_
      refine a_imul dL_people_220 ?_
      refine a_ishr dL_people_221 ?_
      obtain ⟨x42, hx42, hf⟩ := bnd_elim hf
      refine a_top (w := .int x42) (by rw [hx42]) ?_
      refine a_istore dL_people_222 (by decide) (loc' := [(8, .int x42), (0, .ref 0), (1, .ref 68), (2, .int c2), (4, .ref a4), (5, .ref a5), (7, .int v7)]) rfl ?_
      refine a_iload dL_people_224 0 rfl ?_
      refine a_aload dL_people_226 4 rfl ?_
      refine a_iconst (0 : Int32) dL_people_228 rfl ?_
      obtain ⟨hb43, hf⟩ := grd_elim hf
      refine a_iald ha4 hb43 dL_people_229 ?_
      obtain ⟨q44, hq44, hf⟩ := obind hf
      refine a_callS (as := [.int x42, .int (σ.1 a4 (0 : Int32).toNatClampNeg)]) (stk := []) (q := some (.int q44)) (σ1 := σ) (kL_at (e + 2) x42 (σ.1 a4 (0 : Int32).toNatClampNeg) σ _ hq44) sl_L_8 rfl (Nat.le_of_ble_eq_true rfl) dL_people_230 ?_
      refine a_istore dL_people_233 (by decide) (loc' := [(9, .int q44), (8, .int x42), (0, .ref 0), (1, .ref 68), (2, .int c2), (4, .ref a4), (5, .ref a5), (7, .int v7)]) rfl ?_
      refine a_iload dL_people_235 0 rfl ?_
      refine a_iconst (1 : Int32) dL_people_237 rfl ?_
      refine a_iadd dL_people_238 ?_
      refine a_iload dL_people_239 1 rfl ?_
      refine a_iconst (3 : Int32) dL_people_241 rfl ?_
      refine a_ishr dL_people_242 ?_
      refine a_aload dL_people_243 5 rfl ?_
      refine a_iconst (0 : Int32) dL_people_245 rfl ?_
      obtain ⟨hb45, hf⟩ := grd_elim hf
      refine a_iald ha4 hb45 dL_people_246 ?_
      refine a_iconst (1 : Int32) dL_people_247 rfl ?_
      refine a_isub dL_people_248 ?_
      obtain ⟨q46, hq46, hf⟩ := obind hf
      refine a_callS (as := [.int (x42 >>> ((3 : Int32) &&& 31)), .int ((σ.1 a4 (0 : Int32).toNatClampNeg) - (1 : Int32))]) (stk := [.int (q44 + (1 : Int32))]) (q := some (.int q46)) (σ1 := σ) (kL_at (e + 2) (x42 >>> ((3 : Int32) &&& 31)) ((σ.1 a4 (0 : Int32).toNatClampNeg) - (1 : Int32)) σ _ hq46) sl_L_8 rfl (Nat.le_of_ble_eq_true rfl) dL_people_249 ?_
      refine a_iadd dL_people_252 ?_
      refine a_aload dL_people_253 5 rfl ?_
      refine a_iconst (0 : Int32) dL_people_255 rfl ?_
      obtain ⟨hb47, hf⟩ := grd_elim hf
      refine a_iald ha4 hb47 dL_people_256 ?_
      obtain ⟨hb48, hf⟩ := grd_elim hf
      refine a_irem (of_decide_eq_true hb48) dL_people_257 ?_
      obtain ⟨x49, hx49, hf⟩ := bnd_elim hf
      refine a_top (w := .int x49) (by rw [hx49]) ?_
      refine a_istore dL_people_258 (by decide) (loc' := [(10, .int x49), (9, .int q44), (8, .int x42), (0, .ref 0), (1, .ref 68), (2, .int c2), (4, .ref a4), (5, .ref a5), (7, .int v7)]) rfl ?_
      refine a_iload dL_people_260 2 rfl ?_
      refine a_bipush (6 : Int32) dL_people_262 rfl ?_
      refine a_ishr dL_people_264 ?_
      refine a_bipush (10 : Int32) dL_people_265 rfl ?_
      obtain ⟨q50, hq50, hf⟩ := obind hf
      refine a_callS (as := [.int (x42 >>> ((6 : Int32) &&& 31)), .int (10 : Int32)]) (stk := []) (q := some (.int q50)) (σ1 := σ) (kL_at (e + 2) (x42 >>> ((6 : Int32) &&& 31)) (10 : Int32) σ _ hq50) sl_L_8 rfl (Nat.le_of_ble_eq_true rfl) dL_people_267 ?_
      refine a_istore dL_people_270 (by decide) (loc' := [(11, .int q50), (10, .int x49), (9, .int q44), (8, .int x42), (0, .ref 0), (1, .ref 68), (2, .int c2), (4, .ref a4), (5, .ref a5), (7, .int v7)]) rfl ?_
      refine a_aload_n dL_people_272 rfl 4 rfl ?_
      refine a_iload dL_people_273 2 rfl ?_
      refine a_iload dL_people_275 1 rfl ?_
      refine a_iload dL_people_277 0 rfl ?_
      obtain ⟨q51, hq51, hf⟩ := obind hf
      refine a_callV (as := [.int q44, .int x49, .int q50]) (stk := []) (q := some (.int q51.1)) (σ1 := q51.2) (SpK.mono (kX8_like e q44 x49 q50 σ _ hq51) hk) (ob_0.mono hk) vl_L_32 rfl (Nat.le_of_ble_eq_true rfl) dL_people_279 ?_
      refine a_aload dL_people_282 8 rfl ?_
      refine a_bipush (8 : Int32) dL_people_284 rfl ?_
      refine a_iload dL_people_286 2 rfl ?_
      refine a_imul dL_people_288 ?_
      refine a_iload dL_people_289 1 rfl ?_
      refine a_iadd dL_people_291 ?_
      obtain ⟨hb52, hf⟩ := grd_elim hf
      refine a_iald ha5 hb52 dL_people_292 ?_
      by_cases hc53 : q51.1 = (q51.2.1 a5 (((8 : Int32) * q44) + x49).toNatClampNeg)
      · rw [if_pos hc53] at hf
        refine a_icmp_eq_t 298 dL_people_293 (by decide) hc53 ?_
        refine a_aload dL_people_298 8 rfl ?_
        refine a_bipush (8 : Int32) dL_people_300 rfl ?_
        refine a_iload dL_people_302 2 rfl ?_
        refine a_imul dL_people_304 ?_
        refine a_iload dL_people_305 1 rfl ?_
        refine a_iadd dL_people_307 ?_
        refine a_iload dL_people_308 0 rfl ?_
        obtain ⟨hb54, hf⟩ := grd_elim hf
        refine a_iast ha5 hb54 dL_people_310 ?_
        obtain ⟨σ55, hσ55, hf⟩ := bnd_elim hf
        rw [← hσ55]
        refine a_iinc (v7 + (1 : Int32)) dL_people_311 9 rfl rfl (by decide) (loc' := [(7, .int (v7 + (1 : Int32))), (11, .int q50), (10, .int x49), (9, .int q44), (8, .int x42), (0, .ref 0), (1, .ref 68), (2, .int c2), (4, .ref a4), (5, .ref a5)]) rfl ?_
        refine a_goto 195 dL_people_314 (by decide) ?_
        refine a_locs (loc' := [(0, .ref 0), (1, .ref 68), (2, .int c2), (4, .ref a4), (5, .ref a5), (7, .int (v7 + (1 : Int32)))]) [5, 6, 7, 8, 9, 0] rfl ?_
        exact ih (v7 + (1 : Int32)) σ55 hf h1 h2
      · rw [if_neg hc53] at hf
        refine a_icmp_eq_f 298 dL_people_293 (by decide) hc53 ?_
        refine a_iconst (0 : Int32) dL_people_296 rfl ?_
        have hq := Option.some.inj hf
        obtain ⟨hr0, ht0⟩ := h1 _ hq.symm
        rw [hr0, ht0]
        exact a_zret rfl (Or.inl rfl) dL_people_297
set_option maxHeartbeats 4000000 in
set_option maxRecDepth 100000 in
theorem kL_people (e : Nat) {K : Nat → Prop} (p2 : Int32) (p3 : Int32) (a4 n4 : Nat) (a5 n5 : Nat) (σ : St) (hk : ∀ n, K n → 58 ≤ n) (ha4 : IA K a4 n4) (ha5 : IA K a5 n5) (q : Int32 × St) (hf : fL_people p2 p3 a4 n4 a5 n5 σ = some q) : SpK K (e + 3) ML_people [.ref 0, .ref 68, .int p2, .int p3, .ref a4, .ref a5] σ (some (.int q.1)) q.2 := by
  refine sp_of rfl (Nat.le_of_ble_eq_true rfl) (loc := [(0, .ref 0), (1, .ref 68), (2, .int p2), (3, .int p3), (4, .ref a4), (5, .ref a5)]) rfl ?_
  unfold fL_people at hf
  refine a_aload_n dL_people_0 rfl 1 rfl ?_
  refine a_iload_n dL_people_1 rfl 2 rfl ?_
  obtain ⟨q1, hq1, hf⟩ := obind hf
  refine a_callS (as := [.ref 68, .int p2]) (stk := []) (q := some (.int q1)) (σ1 := σ) (kL_cell (e + 2) p2 σ _ hq1) sl_L_20 rfl (Nat.le_of_ble_eq_true rfl) dL_people_2 ?_
  refine a_istore dL_people_5 (by decide) (loc' := [(6, .int q1), (0, .ref 0), (1, .ref 68), (2, .int p2), (3, .int p3), (4, .ref a4), (5, .ref a5)]) rfl ?_
  refine a_aload dL_people_7 5 rfl ?_
  refine a_iconst (0 : Int32) dL_people_9 rfl ?_
  refine a_iconst (2 : Int32) dL_people_10 rfl ?_
  refine a_iload dL_people_11 0 rfl ?_
  refine a_iload_n dL_people_13 rfl 4 rfl ?_
  refine a_iconst (1 : Int32) dL_people_14 rfl ?_
  refine a_isub dL_people_15 ?_
  obtain ⟨q2, hq2, hf⟩ := obind hf
  refine a_callS (as := [.int q1, .int (p3 - (1 : Int32))]) (stk := [.int (2 : Int32), .int (0 : Int32), .ref a4]) (q := some (.int q2)) (σ1 := σ) (kL_at (e + 2) q1 (p3 - (1 : Int32)) σ _ hq2) sl_L_8 rfl (Nat.le_of_ble_eq_true rfl) dL_people_16 ?_
  refine a_iadd dL_people_19 ?_
  obtain ⟨hb3, hf⟩ := grd_elim hf
  refine a_iast ha4 hb3 dL_people_20 ?_
  obtain ⟨σ4, hσ4, hf⟩ := bnd_elim hf
  rw [← hσ4]
  refine a_iconst (0 : Int32) dL_people_21 rfl ?_
  refine a_istore dL_people_22 (by decide) (loc' := [(7, .int (0 : Int32)), (6, .int q1), (0, .ref 0), (1, .ref 68), (2, .int p2), (3, .int p3), (4, .ref a4), (5, .ref a5)]) rfl ?_
  obtain ⟨s14, hr15, hf⟩ := obind hf
  refine a_locs (loc' := [(0, .ref 0), (1, .ref 68), (2, .int p2), (4, .ref a4), (5, .ref a5), (6, .int q1), (7, .int (0 : Int32))]) [2, 3, 4, 6, 7, 1, 0] rfl ?_
  refine kL_people_L24 e p2 a4 n4 a5 n5 q1 hk ha4 ha5 s14 fu (0 : Int32) σ4 hr15 ?_ ?_
  · intro z16 hz
    subst hz
    simp only [Sum.elim_inl] at hf
    have hq := Option.some.inj hf
    subst hq
    exact ⟨rfl, rfl⟩
  · intro q13 hz
    subst hz
    simp only [Sum.elim_inr] at hf
    refine a_iconst (0 : Int32) dL_people_77 rfl ?_
    refine a_istore dL_people_78 (by decide) (loc' := [(7, .int (0 : Int32)), (0, .ref 0), (1, .ref 68), (2, .int p2), (4, .ref a4), (5, .ref a5)]) rfl ?_
    obtain ⟨s37, hr38, hf⟩ := obind hf
    refine a_locs (loc' := [(0, .ref 0), (1, .ref 68), (2, .int p2), (4, .ref a4), (5, .ref a5), (7, .int (0 : Int32))]) [1, 2, 3, 4, 5, 0] rfl ?_
    refine kL_people_L80 e p2 a4 n4 a5 n5 hk ha4 ha5 s37 fu (0 : Int32) q13 hr38 ?_ ?_
    · intro z39 hz
      subst hz
      simp only [Sum.elim_inl] at hf
      have hq := Option.some.inj hf
      subst hq
      exact ⟨rfl, rfl⟩
    · intro q36 hz
      subst hz
      simp only [Sum.elim_inr] at hf
      refine a_iconst (0 : Int32) dL_people_192 rfl ?_
      refine a_istore dL_people_193 (by decide) (loc' := [(7, .int (0 : Int32)), (0, .ref 0), (1, .ref 68), (2, .int p2), (4, .ref a4), (5, .ref a5)]) rfl ?_
      obtain ⟨s57, hr58, hf⟩ := obind hf
      refine a_locs (loc' := [(0, .ref 0), (1, .ref 68), (2, .int p2), (4, .ref a4), (5, .ref a5), (7, .int (0 : Int32))]) [1, 2, 3, 4, 5, 0] rfl ?_
      refine kL_people_L195 e p2 a4 n4 a5 n5 hk ha4 ha5 s57 fu (0 : Int32) q36 hr58 ?_ ?_
      · intro z59 hz
        subst hz
        simp only [Sum.elim_inl] at hf
        have hq := Option.some.inj hf
        subst hq
        exact ⟨rfl, rfl⟩
      · intro q56 hz
        subst hz
        simp only [Sum.elim_inr] at hf
        refine a_iconst (1 : Int32) dL_people_317 rfl ?_
        have hq := Option.some.inj hf
        subst hq
        exact a_zret rfl (Or.inr rfl) dL_people_318
set_option maxHeartbeats 4000000 in
set_option maxRecDepth 100000 in
theorem kL_gifts_L19 (e : Nat) {K : Nat → Prop} (c2 : Int32) (a4 n4 : Nat) (a5 n5 : Nat)  (hk : ∀ n, K n → 58 ≤ n) (ha4 : IA K a4 n4) (ha5 : IA K a5 n5) {r : Option Value} {τ : St} (q : Sum (Int32 × St) (St)) : ∀ (n : Nat) (v6 : Int32) (σ : St), fL_gifts_L19 c2 a4 n4 a5 n5 n v6 σ = some q → (∀ z, q = .inl z → r = some (.int z.1) ∧ τ = z.2) → (∀ q1, q = .inr q1 → AL K (e + 3) ML_gifts 152 [] [] q1 r τ) → AL K (e + 3) ML_gifts 19 [(0, .ref 0), (1, .ref 68), (2, .int c2), (4, .ref a4), (5, .ref a5), (6, .int v6)] [] σ r τ := by
  intro n
  induction n with
  | zero =>
    intro v6 σ  hf
    simp only [fL_gifts_L19] at hf
    exact absurd hf (by simp)
  | succ n ih =>
    intro v6 σ  hf h1 h2
    rw [fL_gifts_L19] at hf
    refine a_iload dL_gifts_19 5 rfl ?_
    refine a_aload dL_gifts_21 3 rfl ?_
    refine a_bipush (25 : Int32) dL_gifts_23 rfl ?_
    obtain ⟨hb5, hf⟩ := grd_elim hf
    refine a_iald ha4 hb5 dL_gifts_25 ?_
    by_cases hc6 : (σ.1 a4 (25 : Int32).toNatClampNeg) ≤ v6
    · rw [if_pos hc6] at hf
      refine a_icmp_ge_t 152 dL_gifts_26 (by decide) hc6 ?_
      have hq := Option.some.inj hf
      refine a_locs (loc' := []) [] rfl ?_
      exact h2 _ hq.symm
    · rw [if_neg hc6] at hf
      refine a_icmp_ge_f 152 dL_gifts_26 (by decide) hc6 ?_
      refine a_aload_n dL_gifts_29 rfl 1 rfl ?_
      refine a_iload_n dL_gifts_30 rfl 2 rfl ?_
      refine a_iconst (1 : Int32) dL_gifts_31 rfl ?_
      refine a_iadd dL_gifts_32 ?_
      refine a_iload dL_gifts_33 5 rfl ?_
      refine a_iconst (3 : Int32) dL_gifts_35 rfl ?_
      refine a_irem (by decide) dL_gifts_36 ?_
      refine a_iadd dL_gifts_37 ?_
      obtain ⟨q7, hq7, hf⟩ := obind hf
      refine a_callS (as := [.ref 68, .int ((c2 + (1 : Int32)) + (v6 - v6 / (3 : Int32) * (3 : Int32)))]) (stk := []) (q := some (.int q7)) (σ1 := σ) (kL_cell (e + 2) ((c2 + (1 : Int32)) + (v6 - v6 / (3 : Int32) * (3 : Int32))) σ _ hq7) sl_L_20 rfl (Nat.le_of_ble_eq_true rfl) dL_gifts_38 ?_
      refine a_bipush (9 : Int32) dL_gifts_41 rfl ?_
      refine a_iload dL_gifts_43 5 rfl ?_
      refine a_iconst (3 : Int32) dL_gifts_45 rfl ?_
      refine a_idiv (by decide) dL_gifts_46 ?_
      refine a_imul dL_gifts_47 ?_
      refine a_ishr dL_gifts_48 ?_
      obtain ⟨x8, hx8, hf⟩ := bnd_elim hf
      refine a_top (w := .int x8) (by rw [hx8]) ?_
      refine a_istore dL_gifts_49 (by decide) (loc' := [(7, .int x8), (0, .ref 0), (1, .ref 68), (2, .int c2), (4, .ref a4), (5, .ref a5), (6, .int v6)]) rfl ?_
      refine a_aload dL_gifts_51 5 rfl ?_
      refine a_bipush (8 : Int32) dL_gifts_53 rfl ?_
      refine a_iload dL_gifts_55 6 rfl ?_
      refine a_imul dL_gifts_57 ?_
      refine a_iload dL_gifts_58 0 rfl ?_
      refine a_iconst (5 : Int32) dL_gifts_60 rfl ?_
      obtain ⟨q9, hq9, hf⟩ := obind hf
      refine a_callS (as := [.int x8, .int (5 : Int32)]) (stk := [.int ((8 : Int32) * v6), .ref a5]) (q := some (.int q9)) (σ1 := σ) (kL_at (e + 2) x8 (5 : Int32) σ _ hq9) sl_L_8 rfl (Nat.le_of_ble_eq_true rfl) dL_gifts_61 ?_
      obtain ⟨hb10, hf⟩ := grd_elim hf
      refine a_iast ha5 hb10 dL_gifts_64 ?_
      obtain ⟨σ11, hσ11, hf⟩ := bnd_elim hf
      rw [← hσ11]
      refine a_aload dL_gifts_65 5 rfl ?_
      refine a_bipush (8 : Int32) dL_gifts_67 rfl ?_
      refine a_iload dL_gifts_69 6 rfl ?_
      refine a_imul dL_gifts_71 ?_
      refine a_iconst (1 : Int32) dL_gifts_72 rfl ?_
      refine a_iadd dL_gifts_73 ?_
      refine a_iload dL_gifts_74 0 rfl ?_
      refine a_iconst (3 : Int32) dL_gifts_76 rfl ?_
      refine a_ishr dL_gifts_77 ?_
      refine a_aload dL_gifts_78 4 rfl ?_
      refine a_iconst (0 : Int32) dL_gifts_80 rfl ?_
      obtain ⟨hb12, hf⟩ := grd_elim hf
      refine a_iald ha4 hb12 dL_gifts_81 ?_
      obtain ⟨q13, hq13, hf⟩ := obind hf
      refine a_callS (as := [.int (x8 >>> ((3 : Int32) &&& 31)), .int (σ11.1 a4 (0 : Int32).toNatClampNeg)]) (stk := [.int (((8 : Int32) * v6) + (1 : Int32)), .ref a5]) (q := some (.int q13)) (σ1 := σ11) (kL_at (e + 2) (x8 >>> ((3 : Int32) &&& 31)) (σ11.1 a4 (0 : Int32).toNatClampNeg) σ11 _ hq13) sl_L_8 rfl (Nat.le_of_ble_eq_true rfl) dL_gifts_82 ?_
      obtain ⟨hb14, hf⟩ := grd_elim hf
      refine a_iast ha5 hb14 dL_gifts_85 ?_
      obtain ⟨σ15, hσ15, hf⟩ := bnd_elim hf
      rw [← hσ15]
      refine a_aload dL_gifts_86 5 rfl ?_
      refine a_bipush (8 : Int32) dL_gifts_88 rfl ?_
      refine a_iload dL_gifts_90 6 rfl ?_
      refine a_imul dL_gifts_92 ?_
      refine a_iconst (2 : Int32) dL_gifts_93 rfl ?_
      refine a_iadd dL_gifts_94 ?_
      refine a_aload dL_gifts_95 5 rfl ?_
      refine a_bipush (8 : Int32) dL_gifts_97 rfl ?_
      refine a_iload dL_gifts_99 6 rfl ?_
      refine a_imul dL_gifts_101 ?_
      refine a_iconst (1 : Int32) dL_gifts_102 rfl ?_
      refine a_iadd dL_gifts_103 ?_
      obtain ⟨hb16, hf⟩ := grd_elim hf
      refine a_iald ha5 hb16 dL_gifts_104 ?_
      obtain ⟨hb17, hf⟩ := grd_elim hf
      refine a_iast ha5 hb17 dL_gifts_105 ?_
      obtain ⟨σ18, hσ18, hf⟩ := bnd_elim hf
      rw [← hσ18]
      refine a_aload dL_gifts_106 5 rfl ?_
      refine a_bipush (8 : Int32) dL_gifts_108 rfl ?_
      refine a_iload dL_gifts_110 6 rfl ?_
      refine a_imul dL_gifts_112 ?_
      refine a_iconst (3 : Int32) dL_gifts_113 rfl ?_
      refine a_iadd dL_gifts_114 ?_
      refine a_iconst (-1 : Int32) dL_gifts_115 rfl ?_
      obtain ⟨hb19, hf⟩ := grd_elim hf
      refine a_iast ha5 hb19 dL_gifts_116 ?_
      obtain ⟨σ20, hσ20, hf⟩ := bnd_elim hf
      rw [← hσ20]
      refine a_aload_n dL_gifts_117 rfl 1 rfl ?_
      refine a_aload dL_gifts_118 5 rfl ?_
      refine a_bipush (8 : Int32) dL_gifts_120 rfl ?_
      refine a_iload dL_gifts_122 6 rfl ?_
      refine a_imul dL_gifts_124 ?_
      obtain ⟨hb21, hf⟩ := grd_elim hf
      refine a_iald ha5 hb21 dL_gifts_125 ?_
      refine a_aload dL_gifts_126 5 rfl ?_
      refine a_bipush (8 : Int32) dL_gifts_128 rfl ?_
      refine a_iload dL_gifts_130 6 rfl ?_
      refine a_imul dL_gifts_132 ?_
      refine a_iconst (1 : Int32) dL_gifts_133 rfl ?_
      refine a_iadd dL_gifts_134 ?_
      obtain ⟨hb22, hf⟩ := grd_elim hf
      refine a_iald ha5 hb22 dL_gifts_135 ?_
      obtain ⟨q23, hq23, hf⟩ := obind hf
      refine a_callV (as := [.int (σ20.1 a5 ((8 : Int32) * v6).toNatClampNeg), .int (σ20.1 a5 (((8 : Int32) * v6) + (1 : Int32)).toNatClampNeg)]) (stk := []) (q := some (.int q23.1)) (σ1 := q23.2) (SpK.mono (kX8_gift e (σ20.1 a5 ((8 : Int32) * v6).toNatClampNeg) (σ20.1 a5 (((8 : Int32) * v6) + (1 : Int32)).toNatClampNeg) σ20 _ hq23) hk) (ob_0.mono hk) vl_L_36 rfl (Nat.le_of_ble_eq_true rfl) dL_gifts_136 ?_
      refine a_iload dL_gifts_139 6 rfl ?_
      by_cases hc24 : q23.1 = v6
      · rw [if_pos hc24] at hf
        refine a_icmp_eq_t 146 dL_gifts_141 (by decide) hc24 ?_
        refine a_iinc (v6 + (1 : Int32)) dL_gifts_146 6 rfl rfl (by decide) (loc' := [(6, .int (v6 + (1 : Int32))), (7, .int x8), (0, .ref 0), (1, .ref 68), (2, .int c2), (4, .ref a4), (5, .ref a5)]) rfl ?_
        refine a_goto 19 dL_gifts_149 (by decide) ?_
        refine a_locs (loc' := [(0, .ref 0), (1, .ref 68), (2, .int c2), (4, .ref a4), (5, .ref a5), (6, .int (v6 + (1 : Int32)))]) [2, 3, 4, 5, 6, 0] rfl ?_
        exact ih (v6 + (1 : Int32)) q23.2 hf h1 h2
      · rw [if_neg hc24] at hf
        refine a_icmp_eq_f 146 dL_gifts_141 (by decide) hc24 ?_
        refine a_iconst (0 : Int32) dL_gifts_144 rfl ?_
        have hq := Option.some.inj hf
        obtain ⟨hr0, ht0⟩ := h1 _ hq.symm
        rw [hr0, ht0]
        exact a_zret rfl (Or.inl rfl) dL_gifts_145
set_option maxHeartbeats 4000000 in
set_option maxRecDepth 100000 in
theorem kL_gifts (e : Nat) {K : Nat → Prop} (p2 : Int32) (p3 : Int32) (a4 n4 : Nat) (a5 n5 : Nat) (σ : St) (hk : ∀ n, K n → 58 ≤ n) (ha4 : IA K a4 n4) (ha5 : IA K a5 n5) (q : Int32 × St) (hf : fL_gifts p2 p3 a4 n4 a5 n5 σ = some q) : SpK K (e + 3) ML_gifts [.ref 0, .ref 68, .int p2, .int p3, .ref a4, .ref a5] σ (some (.int q.1)) q.2 := by
  refine sp_of rfl (Nat.le_of_ble_eq_true rfl) (loc := [(0, .ref 0), (1, .ref 68), (2, .int p2), (3, .int p3), (4, .ref a4), (5, .ref a5)]) rfl ?_
  unfold fL_gifts at hf
  refine a_aload dL_gifts_0 4 rfl ?_
  refine a_bipush (25 : Int32) dL_gifts_2 rfl ?_
  refine a_iconst (1 : Int32) dL_gifts_4 rfl ?_
  refine a_aload_n dL_gifts_5 rfl 1 rfl ?_
  refine a_iload_n dL_gifts_6 rfl 2 rfl ?_
  obtain ⟨q1, hq1, hf⟩ := obind hf
  refine a_callS (as := [.ref 68, .int p2]) (stk := [.int (1 : Int32), .int (25 : Int32), .ref a4]) (q := some (.int q1)) (σ1 := σ) (kL_cell (e + 2) p2 σ _ hq1) sl_L_20 rfl (Nat.le_of_ble_eq_true rfl) dL_gifts_7 ?_
  refine a_iload_n dL_gifts_10 rfl 3 rfl ?_
  obtain ⟨q2, hq2, hf⟩ := obind hf
  refine a_callS (as := [.int q1, .int p3]) (stk := [.int (1 : Int32), .int (25 : Int32), .ref a4]) (q := some (.int q2)) (σ1 := σ) (kL_at (e + 2) q1 p3 σ _ hq2) sl_L_8 rfl (Nat.le_of_ble_eq_true rfl) dL_gifts_11 ?_
  refine a_iadd dL_gifts_14 ?_
  obtain ⟨hb3, hf⟩ := grd_elim hf
  refine a_iast ha4 hb3 dL_gifts_15 ?_
  obtain ⟨σ4, hσ4, hf⟩ := bnd_elim hf
  rw [← hσ4]
  refine a_iconst (0 : Int32) dL_gifts_16 rfl ?_
  refine a_istore dL_gifts_17 (by decide) (loc' := [(6, .int (0 : Int32)), (0, .ref 0), (1, .ref 68), (2, .int p2), (3, .int p3), (4, .ref a4), (5, .ref a5)]) rfl ?_
  obtain ⟨s26, hr27, hf⟩ := obind hf
  refine a_locs (loc' := [(0, .ref 0), (1, .ref 68), (2, .int p2), (4, .ref a4), (5, .ref a5), (6, .int (0 : Int32))]) [1, 2, 3, 5, 6, 0] rfl ?_
  refine kL_gifts_L19 e p2 a4 n4 a5 n5 hk ha4 ha5 s26 fu (0 : Int32) σ4 hr27 ?_ ?_
  · intro z28 hz
    subst hz
    simp only [Sum.elim_inl] at hf
    have hq := Option.some.inj hf
    subst hq
    exact ⟨rfl, rfl⟩
  · intro q25 hz
    subst hz
    simp only [Sum.elim_inr] at hf
    refine a_iconst (1 : Int32) dL_gifts_152 rfl ?_
    have hq := Option.some.inj hf
    subst hq
    exact a_zret rfl (Or.inr rfl) dL_gifts_153
set_option maxHeartbeats 4000000 in
set_option maxRecDepth 100000 in
theorem kL_may (e : Nat) {K : Nat → Prop} (a0 n0 : Nat) (a1 n1 : Nat) (p2 : Int32) (p3 : Int32) (σ : St) (ha0 : IA K a0 n0) (ha1 : IA K a1 n1) (q : Int32) (hf : fL_may a0 n0 a1 n1 p2 p3 σ = some q) : SpK K e ML_may [.ref a0, .ref a1, .int p2, .int p3] σ (some (.int q)) σ := by
  refine sp_of rfl (Nat.le_of_ble_eq_true rfl) (loc := [(0, .ref a0), (1, .ref a1), (2, .int p2), (3, .int p3)]) rfl ?_
  unfold fL_may at hf
  refine a_aload_n dL_may_0 rfl 0 rfl ?_
  refine a_bipush (9 : Int32) dL_may_1 rfl ?_
  refine a_iload_n dL_may_3 rfl 2 rfl ?_
  refine a_iadd dL_may_4 ?_
  obtain ⟨hb1, hf⟩ := grd_elim hf
  refine a_iald ha0 hb1 dL_may_5 ?_
  obtain ⟨x2, hx2, hf⟩ := bnd_elim hf
  refine a_top (w := .int x2) (by rw [hx2]) ?_
  refine a_istore dL_may_6 (by decide) (loc' := [(4, .int x2), (0, .ref a0), (1, .ref a1), (2, .int p2), (3, .int p3)]) rfl ?_
  refine a_iload_n dL_may_8 rfl 4 rfl ?_
  obtain ⟨x4, hx4, hf⟩ := bnd_elim hf
  have hA11 : AL K e ML_may 22 [(0, .ref a0), (1, .ref a1), (2, .int p2), (3, .int p3), (4, .int x4)] [] σ (some (.int q)) σ := by
    refine a_iload dL_may_22 4 rfl ?_
    by_cases hc5 : x4 = 0
    · rw [if_pos hc5] at hf
      refine a_if_ne_f 50 dL_may_24 (by decide) hc5 ?_
      refine a_aload_n dL_may_27 rfl 1 rfl ?_
      refine a_iconst (1 : Int32) dL_may_28 rfl ?_
      obtain ⟨hb6, hf⟩ := grd_elim hf
      refine a_iald ha1 hb6 dL_may_29 ?_
      refine a_iconst (1 : Int32) dL_may_30 rfl ?_
      by_cases hc7 : (σ.1 a1 (1 : Int32).toNatClampNeg) = (1 : Int32)
      · rw [if_pos hc7] at hf
        refine a_icmp_ne_f 50 dL_may_31 (by decide) hc7 ?_
        refine a_iload_n dL_may_34 rfl 3 rfl ?_
        by_cases hc8 : p3 < 0
        · rw [if_pos hc8] at hf
          refine a_if_lt_t 50 dL_may_35 (by decide) hc8 ?_
          refine a_iload dL_may_50 4 rfl ?_
          have hq := Option.some.inj hf
          subst hq
          exact a_iret rfl dL_may_52
        · rw [if_neg hc8] at hf
          refine a_if_lt_f 50 dL_may_35 (by decide) hc8 ?_
          refine a_aload_n dL_may_38 rfl 0 rfl ?_
          refine a_bipush (9 : Int32) dL_may_39 rfl ?_
          refine a_iload_n dL_may_41 rfl 2 rfl ?_
          refine a_iadd dL_may_42 ?_
          obtain ⟨hb9, hf⟩ := grd_elim hf
          refine a_iald ha0 hb9 dL_may_43 ?_
          refine a_iconst (1 : Int32) dL_may_44 rfl ?_
          refine a_iload_n dL_may_45 rfl 3 rfl ?_
          refine a_ishl dL_may_46 ?_
          refine a_iand dL_may_47 ?_
          obtain ⟨x10, hx10, hf⟩ := bnd_elim hf
          refine a_top (w := .int x10) (by rw [hx10]) ?_
          refine a_istore dL_may_48 (by decide) (loc' := [(4, .int x10), (0, .ref a0), (1, .ref a1), (2, .int p2), (3, .int p3)]) rfl ?_
          refine a_iload dL_may_50 0 rfl ?_
          have hq := Option.some.inj hf
          subst hq
          exact a_iret rfl dL_may_52
      · rw [if_neg hc7] at hf
        refine a_icmp_ne_t 50 dL_may_31 (by decide) hc7 ?_
        refine a_iload dL_may_50 4 rfl ?_
        have hq := Option.some.inj hf
        subst hq
        exact a_iret rfl dL_may_52
    · rw [if_neg hc5] at hf
      refine a_if_ne_t 50 dL_may_24 (by decide) hc5 ?_
      refine a_iload dL_may_50 4 rfl ?_
      have hq := Option.some.inj hf
      subst hq
      exact a_iret rfl dL_may_52
  clear hf
  by_cases hc3 : p3 < 0
  · rw [if_pos hc3] at hx4
    refine a_if_lt_t 22 dL_may_9 (by decide) hc3 ?_
    replace hx4 := hx4.symm; subst hx4
    refine a_locs (loc' := [(0, .ref a0), (1, .ref a1), (2, .int p2), (3, .int p3), (4, .int x2)]) [1, 2, 3, 4, 0] rfl ?_
    exact hA11
  · rw [if_neg hc3] at hx4
    refine a_if_lt_f 22 dL_may_9 (by decide) hc3 ?_
    refine a_iload dL_may_12 0 rfl ?_
    refine a_iconst (1 : Int32) dL_may_14 rfl ?_
    refine a_iload_n dL_may_15 rfl 4 rfl ?_
    refine a_ishl dL_may_16 ?_
    refine a_iconst (-1 : Int32) dL_may_17 rfl ?_
    refine a_ixor dL_may_18 ?_
    refine a_iand dL_may_19 ?_
    refine a_istore dL_may_20 (by decide) (loc' := [(4, .int (x2 &&& (((1 : Int32) <<< (p3 &&& 31)) ^^^ (-1 : Int32)))), (0, .ref a0), (1, .ref a1), (2, .int p2), (3, .int p3)]) rfl ?_
    replace hx4 := hx4.symm; subst hx4
    refine a_locs (loc' := [(0, .ref a0), (1, .ref a1), (2, .int p2), (3, .int p3), (4, .int (x2 &&& (((1 : Int32) <<< (p3 &&& 31)) ^^^ (-1 : Int32))))]) [1, 2, 3, 4, 0] rfl ?_
    exact hA11
set_option maxHeartbeats 4000000 in
set_option maxRecDepth 100000 in
theorem kL_worth (e : Nat) {K : Nat → Prop} (a0 n0 : Nat) (p1 : Int32) (σ : St) (ha0 : IA K a0 n0) (q : Int32) (hf : fL_worth a0 n0 p1 σ = some q) : SpK K e ML_worth [.ref a0, .int p1] σ (some (.int q)) σ := by
  refine sp_of rfl (Nat.le_of_ble_eq_true rfl) (loc := [(0, .ref a0), (1, .int p1)]) rfl ?_
  unfold fL_worth at hf
  refine a_aload_n dL_worth_0 rfl 0 rfl ?_
  refine a_iload_n dL_worth_1 rfl 1 rfl ?_
  refine a_iconst (4 : Int32) dL_worth_2 rfl ?_
  refine a_iadd dL_worth_3 ?_
  obtain ⟨hb1, hf⟩ := grd_elim hf
  refine a_iald ha0 hb1 dL_worth_4 ?_
  refine a_bipush (9 : Int32) dL_worth_5 rfl ?_
  obtain ⟨q3, hr10, hf⟩ := obind hf
  have hA9 : AL K e ML_worth 22 [(0, .ref a0), (1, .int p1)] [.int q3] σ (some (.int q)) σ := by
    refine a_istore_n dL_worth_22 rfl (by decide) (loc' := [(2, .int q3), (0, .ref a0), (1, .int p1)]) rfl ?_
    refine a_aload_n dL_worth_23 rfl 1 rfl ?_
    refine a_iload_n dL_worth_24 rfl 2 rfl ?_
    obtain ⟨hb4, hf⟩ := grd_elim hf
    refine a_iald ha0 hb4 dL_worth_25 ?_
    refine a_iconst (2 : Int32) dL_worth_26 rfl ?_
    by_cases hc5 : (σ.1 a0 p1.toNatClampNeg) = (2 : Int32)
    · rw [if_pos hc5] at hf
      refine a_icmp_ne_f 57 dL_worth_27 (by decide) hc5 ?_
      refine a_iload_n dL_worth_30 rfl 0 rfl ?_
      refine a_aload_n dL_worth_31 rfl 1 rfl ?_
      refine a_iload_n dL_worth_32 rfl 2 rfl ?_
      refine a_bipush (6 : Int32) dL_worth_33 rfl ?_
      refine a_iadd dL_worth_35 ?_
      obtain ⟨hb6, hf⟩ := grd_elim hf
      refine a_iald ha0 hb6 dL_worth_36 ?_
      refine a_bipush (9 : Int32) dL_worth_37 rfl ?_
      by_cases hc7 : (9 : Int32) ≤ (σ.1 a0 (p1 + (6 : Int32)).toNatClampNeg)
      · rw [if_pos hc7] at hf
        refine a_icmp_ge_t 51 dL_worth_39 (by decide) hc7 ?_
        refine a_bipush (9 : Int32) dL_worth_51 rfl ?_
        refine a_iadd dL_worth_53 ?_
        refine a_goto 58 dL_worth_54 (by decide) ?_
        have hq := Option.some.inj hf
        subst hq
        exact a_iret rfl dL_worth_58
      · rw [if_neg hc7] at hf
        refine a_icmp_ge_f 51 dL_worth_39 (by decide) hc7 ?_
        refine a_aload_n dL_worth_42 rfl 1 rfl ?_
        refine a_iload_n dL_worth_43 rfl 2 rfl ?_
        refine a_bipush (6 : Int32) dL_worth_44 rfl ?_
        refine a_iadd dL_worth_46 ?_
        obtain ⟨hb8, hf⟩ := grd_elim hf
        refine a_iald ha0 hb8 dL_worth_47 ?_
        refine a_goto 53 dL_worth_48 (by decide) ?_
        refine a_iadd dL_worth_53 ?_
        refine a_goto 58 dL_worth_54 (by decide) ?_
        have hq := Option.some.inj hf
        subst hq
        exact a_iret rfl dL_worth_58
    · rw [if_neg hc5] at hf
      refine a_icmp_ne_t 57 dL_worth_27 (by decide) hc5 ?_
      refine a_iload_n dL_worth_57 rfl 0 rfl ?_
      have hq := Option.some.inj hf
      subst hq
      exact a_iret rfl dL_worth_58
  clear hf
  have hf := hr10
  clear hr10
  by_cases hc2 : (9 : Int32) ≤ (σ.1 a0 (p1 + (4 : Int32)).toNatClampNeg)
  · rw [if_pos hc2] at hf
    refine a_icmp_ge_t 21 dL_worth_7 (by decide) hc2 ?_
    refine a_iconst (1 : Int32) dL_worth_21 rfl ?_
    have hq := Option.some.inj hf
    subst hq
    exact hA9
  · rw [if_neg hc2] at hf
    refine a_icmp_ge_f 21 dL_worth_7 (by decide) hc2 ?_
    refine a_bipush (10 : Int32) dL_worth_10 rfl ?_
    refine a_aload_n dL_worth_12 rfl 0 rfl ?_
    refine a_iload_n dL_worth_13 rfl 1 rfl ?_
    refine a_iconst (4 : Int32) dL_worth_14 rfl ?_
    refine a_iadd dL_worth_15 ?_
    obtain ⟨hb11, hf⟩ := grd_elim hf
    refine a_iald ha0 hb11 dL_worth_16 ?_
    refine a_isub dL_worth_17 ?_
    refine a_goto 22 dL_worth_18 (by decide) ?_
    have hq := Option.some.inj hf
    subst hq
    exact hA9
set_option maxHeartbeats 4000000 in
set_option maxRecDepth 100000 in
theorem kL_give (e : Nat) {K : Nat → Prop} (a0 n0 : Nat) (a1 n1 : Nat) (a2 n2 : Nat) (a3 n3 : Nat) (p4 : Int32) (p5 : Int32) (σ : St) (ha0 : IA K a0 n0) (ha1 : IA K a1 n1) (ha2 : IA K a2 n2) (ha3 : IA K a3 n3) (q : Int32 × St) (hf : fL_give a0 n0 a1 n1 a2 n2 a3 n3 p4 p5 σ = some q) : SpK K (e + 1) ML_give [.ref a0, .ref a1, .ref a2, .ref a3, .int p4, .int p5] σ (some (.int q.1)) q.2 := by
  refine sp_of rfl (Nat.le_of_ble_eq_true rfl) (loc := [(0, .ref a0), (1, .ref a1), (2, .ref a2), (3, .ref a3), (4, .int p4), (5, .int p5)]) rfl ?_
  unfold fL_give at hf
  refine a_bipush (8 : Int32) dL_give_0 rfl ?_
  refine a_iload dL_give_2 4 rfl ?_
  refine a_imul dL_give_4 ?_
  refine a_istore dL_give_5 (by decide) (loc' := [(6, .int ((8 : Int32) * p4)), (0, .ref a0), (1, .ref a1), (2, .ref a2), (3, .ref a3), (4, .int p4), (5, .int p5)]) rfl ?_
  refine a_aload_n dL_give_7 rfl 3 rfl ?_
  refine a_iload dL_give_8 0 rfl ?_
  refine a_iconst (2 : Int32) dL_give_10 rfl ?_
  refine a_iadd dL_give_11 ?_
  obtain ⟨hb1, hf⟩ := grd_elim hf
  refine a_iald ha2 hb1 dL_give_12 ?_
  obtain ⟨x2, hx2, hf⟩ := bnd_elim hf
  refine a_top (w := .int x2) (by rw [hx2]) ?_
  refine a_istore dL_give_13 (by decide) (loc' := [(7, .int x2), (6, .int ((8 : Int32) * p4)), (0, .ref a0), (1, .ref a1), (2, .ref a2), (3, .ref a3), (4, .int p4), (5, .int p5)]) rfl ?_
  refine a_aload_n dL_give_15 rfl 5 rfl ?_
  refine a_bipush (8 : Int32) dL_give_16 rfl ?_
  refine a_iload dL_give_18 7 rfl ?_
  refine a_imul dL_give_20 ?_
  refine a_iload dL_give_21 0 rfl ?_
  refine a_iadd dL_give_23 ?_
  refine a_dup2 rfl rfl dL_give_24 ?_
  obtain ⟨hb3, hf⟩ := grd_elim hf
  refine a_iald ha3 hb3 dL_give_25 ?_
  refine a_aload_n dL_give_26 rfl 4 rfl ?_
  refine a_iload dL_give_27 1 rfl ?_
  obtain ⟨q4, hq4, hf⟩ := obind hf
  refine a_callS (as := [.ref a2, .int ((8 : Int32) * p4)]) (stk := [.int (σ.1 a3 (((8 : Int32) * p5) + x2).toNatClampNeg), .int (((8 : Int32) * p5) + x2), .ref a3]) (q := some (.int q4)) (σ1 := σ) (kL_worth e a2 n2 ((8 : Int32) * p4) σ ha2 _ hq4) sl_L_39 rfl (Nat.le_of_ble_eq_true rfl) dL_give_29 ?_
  refine a_iadd dL_give_32 ?_
  obtain ⟨hb5, hf⟩ := grd_elim hf
  refine a_iast ha3 hb5 dL_give_33 ?_
  obtain ⟨σ6, hσ6, hf⟩ := bnd_elim hf
  rw [← hσ6]
  refine a_aload_n dL_give_34 rfl 4 rfl ?_
  refine a_iload dL_give_35 1 rfl ?_
  refine a_iconst (2 : Int32) dL_give_37 rfl ?_
  refine a_iadd dL_give_38 ?_
  refine a_iload dL_give_39 7 rfl ?_
  obtain ⟨hb7, hf⟩ := grd_elim hf
  refine a_iast ha2 hb7 dL_give_41 ?_
  obtain ⟨σ8, hσ8, hf⟩ := bnd_elim hf
  rw [← hσ8]
  refine a_aload_n dL_give_42 rfl 4 rfl ?_
  refine a_iload dL_give_43 1 rfl ?_
  refine a_iconst (3 : Int32) dL_give_45 rfl ?_
  refine a_iadd dL_give_46 ?_
  refine a_iload dL_give_47 0 rfl ?_
  obtain ⟨hb9, hf⟩ := grd_elim hf
  refine a_iast ha2 hb9 dL_give_49 ?_
  obtain ⟨σ10, hσ10, hf⟩ := bnd_elim hf
  rw [← hσ10]
  refine a_aload_n dL_give_50 rfl 4 rfl ?_
  refine a_iload dL_give_51 1 rfl ?_
  refine a_iconst (4 : Int32) dL_give_53 rfl ?_
  refine a_iadd dL_give_54 ?_
  refine a_dup2 rfl rfl dL_give_55 ?_
  obtain ⟨hb11, hf⟩ := grd_elim hf
  refine a_iald ha2 hb11 dL_give_56 ?_
  refine a_aload_n dL_give_57 rfl 4 rfl ?_
  refine a_iload dL_give_58 1 rfl ?_
  obtain ⟨hb12, hf⟩ := grd_elim hf
  refine a_iald ha2 hb12 dL_give_60 ?_
  refine a_iconst (2 : Int32) dL_give_61 rfl ?_
  obtain ⟨q14, hr62, hf⟩ := obind hf
  have hA61 : AL K (e + 1) ML_give 82 [(0, .ref a0), (1, .ref a1), (2, .ref a2), (5, .int p5), (6, .int ((8 : Int32) * p4))] [.int q14, .int (σ10.1 a2 (((8 : Int32) * p4) + (4 : Int32)).toNatClampNeg), .int (((8 : Int32) * p4) + (4 : Int32)), .ref a2] σ10 (some (.int q.1)) q.2 := by
    refine a_iadd dL_give_82 ?_
    obtain ⟨hb15, hf⟩ := grd_elim hf
    refine a_iast ha2 hb15 dL_give_83 ?_
    obtain ⟨σ16, hσ16, hf⟩ := bnd_elim hf
    rw [← hσ16]
    refine a_aload_n dL_give_84 rfl 2 rfl ?_
    refine a_iload dL_give_85 4 rfl ?_
    refine a_iconst (5 : Int32) dL_give_87 rfl ?_
    refine a_iadd dL_give_88 ?_
    refine a_iconst (0 : Int32) dL_give_89 rfl ?_
    obtain ⟨hb17, hf⟩ := grd_elim hf
    refine a_iast ha2 hb17 dL_give_90 ?_
    obtain ⟨σ18, hσ18, hf⟩ := bnd_elim hf
    rw [← hσ18]
    refine a_aload_n dL_give_91 rfl 2 rfl ?_
    refine a_iload dL_give_92 4 rfl ?_
    refine a_bipush (6 : Int32) dL_give_94 rfl ?_
    refine a_iadd dL_give_96 ?_
    refine a_dup2 rfl rfl dL_give_97 ?_
    obtain ⟨hb19, hf⟩ := grd_elim hf
    refine a_iald ha2 hb19 dL_give_98 ?_
    refine a_iconst (1 : Int32) dL_give_99 rfl ?_
    refine a_iadd dL_give_100 ?_
    obtain ⟨hb20, hf⟩ := grd_elim hf
    refine a_iast ha2 hb20 dL_give_101 ?_
    obtain ⟨σ21, hσ21, hf⟩ := bnd_elim hf
    rw [← hσ21]
    refine a_aload_n dL_give_102 rfl 2 rfl ?_
    refine a_iload dL_give_103 4 rfl ?_
    obtain ⟨hb22, hf⟩ := grd_elim hf
    refine a_iald ha2 hb22 dL_give_105 ?_
    refine a_iconst (1 : Int32) dL_give_106 rfl ?_
    obtain ⟨q24, hr27, hf⟩ := obind hf
    have hA26 : AL K (e + 1) ML_give 171 [(2, .ref a2), (6, .int ((8 : Int32) * p4))] [] q24 (some (.int q.1)) q.2 := by
      refine a_aload_n dL_give_171 rfl 0 rfl ?_
      refine a_iload dL_give_172 1 rfl ?_
      refine a_bipush (7 : Int32) dL_give_174 rfl ?_
      refine a_iadd dL_give_176 ?_
      obtain ⟨hb25, hf⟩ := grd_elim hf
      refine a_iald ha2 hb25 dL_give_177 ?_
      have hq := Option.some.inj hf
      subst hq
      exact a_iret rfl dL_give_178
    clear hf
    have hf := hr27
    clear hr27
    by_cases hc23 : (σ21.1 a2 ((8 : Int32) * p4).toNatClampNeg) = (1 : Int32)
    · rw [if_pos hc23] at hf
      refine a_icmp_eq_t 118 dL_give_107 (by decide) hc23 ?_
      refine a_aload_n dL_give_118 rfl 2 rfl ?_
      refine a_iload dL_give_119 4 rfl ?_
      refine a_iconst (4 : Int32) dL_give_121 rfl ?_
      refine a_iadd dL_give_122 ?_
      obtain ⟨hb28, hf⟩ := grd_elim hf
      refine a_iald ha2 hb28 dL_give_123 ?_
      refine a_aload_n dL_give_124 rfl 1 rfl ?_
      refine a_iconst (3 : Int32) dL_give_125 rfl ?_
      obtain ⟨hb29, hf⟩ := grd_elim hf
      refine a_iald ha1 hb29 dL_give_126 ?_
      by_cases hc30 : (σ21.1 a2 (((8 : Int32) * p4) + (4 : Int32)).toNatClampNeg) < (σ21.1 a1 (3 : Int32).toNatClampNeg)
      · rw [if_pos hc30] at hf
        refine a_icmp_lt_t 141 dL_give_127 (by decide) hc30 ?_
        refine a_iload dL_give_141 3 rfl ?_
        refine a_aload_n dL_give_143 rfl 2 rfl ?_
        refine a_iload dL_give_144 4 rfl ?_
        refine a_iconst (1 : Int32) dL_give_146 rfl ?_
        refine a_iadd dL_give_147 ?_
        obtain ⟨hb31, hf⟩ := grd_elim hf
        refine a_iald ha2 hb31 dL_give_148 ?_
        by_cases hc32 : p5 = (σ21.1 a2 (((8 : Int32) * p4) + (1 : Int32)).toNatClampNeg)
        · rw [if_pos hc32] at hf
          refine a_icmp_ne_f 171 dL_give_149 (by decide) hc32 ?_
          refine a_aload_n dL_give_152 rfl 2 rfl ?_
          refine a_iload dL_give_153 4 rfl ?_
          refine a_bipush (7 : Int32) dL_give_155 rfl ?_
          refine a_iadd dL_give_157 ?_
          refine a_iconst (1 : Int32) dL_give_158 rfl ?_
          obtain ⟨hb33, hf⟩ := grd_elim hf
          refine a_iast ha2 hb33 dL_give_159 ?_
          obtain ⟨σ34, hσ34, hf⟩ := bnd_elim hf
          rw [← hσ34]
          refine a_aload_n dL_give_160 rfl 0 rfl ?_
          refine a_bipush (17 : Int32) dL_give_161 rfl ?_
          refine a_iload dL_give_163 3 rfl ?_
          refine a_iadd dL_give_165 ?_
          refine a_dup2 rfl rfl dL_give_166 ?_
          obtain ⟨hb35, hf⟩ := grd_elim hf
          refine a_iald ha0 hb35 dL_give_167 ?_
          refine a_iconst (1 : Int32) dL_give_168 rfl ?_
          refine a_iadd dL_give_169 ?_
          obtain ⟨hb36, hf⟩ := grd_elim hf
          refine a_iast ha0 hb36 dL_give_170 ?_
          obtain ⟨σ37, hσ37, hf⟩ := bnd_elim hf
          rw [← hσ37]
          have hq := Option.some.inj hf
          subst hq
          refine a_locs (loc' := [(2, .ref a2), (6, .int ((8 : Int32) * p4))]) [2, 4] rfl ?_
          exact hA26
        · rw [if_neg hc32] at hf
          refine a_icmp_ne_t 171 dL_give_149 (by decide) hc32 ?_
          have hq := Option.some.inj hf
          subst hq
          refine a_locs (loc' := [(2, .ref a2), (6, .int ((8 : Int32) * p4))]) [2, 4] rfl ?_
          exact hA26
      · rw [if_neg hc30] at hf
        refine a_icmp_lt_f 141 dL_give_127 (by decide) hc30 ?_
        refine a_aload_n dL_give_130 rfl 2 rfl ?_
        refine a_iload dL_give_131 4 rfl ?_
        refine a_bipush (7 : Int32) dL_give_133 rfl ?_
        refine a_iadd dL_give_135 ?_
        refine a_iconst (2 : Int32) dL_give_136 rfl ?_
        obtain ⟨hb38, hf⟩ := grd_elim hf
        refine a_iast ha2 hb38 dL_give_137 ?_
        obtain ⟨σ39, hσ39, hf⟩ := bnd_elim hf
        rw [← hσ39]
        refine a_goto 171 dL_give_138 (by decide) ?_
        have hq := Option.some.inj hf
        subst hq
        refine a_locs (loc' := [(2, .ref a2), (6, .int ((8 : Int32) * p4))]) [2, 4] rfl ?_
        exact hA26
    · rw [if_neg hc23] at hf
      refine a_icmp_eq_f 118 dL_give_107 (by decide) hc23 ?_
      refine a_aload_n dL_give_110 rfl 2 rfl ?_
      refine a_iload dL_give_111 4 rfl ?_
      obtain ⟨hb40, hf⟩ := grd_elim hf
      refine a_iald ha2 hb40 dL_give_113 ?_
      refine a_iconst (4 : Int32) dL_give_114 rfl ?_
      by_cases hc41 : (σ21.1 a2 ((8 : Int32) * p4).toNatClampNeg) = (4 : Int32)
      · rw [if_pos hc41] at hf
        refine a_icmp_ne_f 141 dL_give_115 (by decide) hc41 ?_
        refine a_aload_n dL_give_118 rfl 2 rfl ?_
        refine a_iload dL_give_119 4 rfl ?_
        refine a_iconst (4 : Int32) dL_give_121 rfl ?_
        refine a_iadd dL_give_122 ?_
        obtain ⟨hb42, hf⟩ := grd_elim hf
        refine a_iald ha2 hb42 dL_give_123 ?_
        refine a_aload_n dL_give_124 rfl 1 rfl ?_
        refine a_iconst (3 : Int32) dL_give_125 rfl ?_
        obtain ⟨hb43, hf⟩ := grd_elim hf
        refine a_iald ha1 hb43 dL_give_126 ?_
        by_cases hc44 : (σ21.1 a2 (((8 : Int32) * p4) + (4 : Int32)).toNatClampNeg) < (σ21.1 a1 (3 : Int32).toNatClampNeg)
        · rw [if_pos hc44] at hf
          refine a_icmp_lt_t 141 dL_give_127 (by decide) hc44 ?_
          refine a_iload dL_give_141 3 rfl ?_
          refine a_aload_n dL_give_143 rfl 2 rfl ?_
          refine a_iload dL_give_144 4 rfl ?_
          refine a_iconst (1 : Int32) dL_give_146 rfl ?_
          refine a_iadd dL_give_147 ?_
          obtain ⟨hb45, hf⟩ := grd_elim hf
          refine a_iald ha2 hb45 dL_give_148 ?_
          by_cases hc46 : p5 = (σ21.1 a2 (((8 : Int32) * p4) + (1 : Int32)).toNatClampNeg)
          · rw [if_pos hc46] at hf
            refine a_icmp_ne_f 171 dL_give_149 (by decide) hc46 ?_
            refine a_aload_n dL_give_152 rfl 2 rfl ?_
            refine a_iload dL_give_153 4 rfl ?_
            refine a_bipush (7 : Int32) dL_give_155 rfl ?_
            refine a_iadd dL_give_157 ?_
            refine a_iconst (1 : Int32) dL_give_158 rfl ?_
            obtain ⟨hb47, hf⟩ := grd_elim hf
            refine a_iast ha2 hb47 dL_give_159 ?_
            obtain ⟨σ48, hσ48, hf⟩ := bnd_elim hf
            rw [← hσ48]
            refine a_aload_n dL_give_160 rfl 0 rfl ?_
            refine a_bipush (17 : Int32) dL_give_161 rfl ?_
            refine a_iload dL_give_163 3 rfl ?_
            refine a_iadd dL_give_165 ?_
            refine a_dup2 rfl rfl dL_give_166 ?_
            obtain ⟨hb49, hf⟩ := grd_elim hf
            refine a_iald ha0 hb49 dL_give_167 ?_
            refine a_iconst (1 : Int32) dL_give_168 rfl ?_
            refine a_iadd dL_give_169 ?_
            obtain ⟨hb50, hf⟩ := grd_elim hf
            refine a_iast ha0 hb50 dL_give_170 ?_
            obtain ⟨σ51, hσ51, hf⟩ := bnd_elim hf
            rw [← hσ51]
            have hq := Option.some.inj hf
            subst hq
            refine a_locs (loc' := [(2, .ref a2), (6, .int ((8 : Int32) * p4))]) [2, 4] rfl ?_
            exact hA26
          · rw [if_neg hc46] at hf
            refine a_icmp_ne_t 171 dL_give_149 (by decide) hc46 ?_
            have hq := Option.some.inj hf
            subst hq
            refine a_locs (loc' := [(2, .ref a2), (6, .int ((8 : Int32) * p4))]) [2, 4] rfl ?_
            exact hA26
        · rw [if_neg hc44] at hf
          refine a_icmp_lt_f 141 dL_give_127 (by decide) hc44 ?_
          refine a_aload_n dL_give_130 rfl 2 rfl ?_
          refine a_iload dL_give_131 4 rfl ?_
          refine a_bipush (7 : Int32) dL_give_133 rfl ?_
          refine a_iadd dL_give_135 ?_
          refine a_iconst (2 : Int32) dL_give_136 rfl ?_
          obtain ⟨hb52, hf⟩ := grd_elim hf
          refine a_iast ha2 hb52 dL_give_137 ?_
          obtain ⟨σ53, hσ53, hf⟩ := bnd_elim hf
          rw [← hσ53]
          refine a_goto 171 dL_give_138 (by decide) ?_
          have hq := Option.some.inj hf
          subst hq
          refine a_locs (loc' := [(2, .ref a2), (6, .int ((8 : Int32) * p4))]) [2, 4] rfl ?_
          exact hA26
      · rw [if_neg hc41] at hf
        refine a_icmp_ne_t 141 dL_give_115 (by decide) hc41 ?_
        refine a_iload dL_give_141 3 rfl ?_
        refine a_aload_n dL_give_143 rfl 2 rfl ?_
        refine a_iload dL_give_144 4 rfl ?_
        refine a_iconst (1 : Int32) dL_give_146 rfl ?_
        refine a_iadd dL_give_147 ?_
        obtain ⟨hb54, hf⟩ := grd_elim hf
        refine a_iald ha2 hb54 dL_give_148 ?_
        by_cases hc55 : p5 = (σ21.1 a2 (((8 : Int32) * p4) + (1 : Int32)).toNatClampNeg)
        · rw [if_pos hc55] at hf
          refine a_icmp_ne_f 171 dL_give_149 (by decide) hc55 ?_
          refine a_aload_n dL_give_152 rfl 2 rfl ?_
          refine a_iload dL_give_153 4 rfl ?_
          refine a_bipush (7 : Int32) dL_give_155 rfl ?_
          refine a_iadd dL_give_157 ?_
          refine a_iconst (1 : Int32) dL_give_158 rfl ?_
          obtain ⟨hb56, hf⟩ := grd_elim hf
          refine a_iast ha2 hb56 dL_give_159 ?_
          obtain ⟨σ57, hσ57, hf⟩ := bnd_elim hf
          rw [← hσ57]
          refine a_aload_n dL_give_160 rfl 0 rfl ?_
          refine a_bipush (17 : Int32) dL_give_161 rfl ?_
          refine a_iload dL_give_163 3 rfl ?_
          refine a_iadd dL_give_165 ?_
          refine a_dup2 rfl rfl dL_give_166 ?_
          obtain ⟨hb58, hf⟩ := grd_elim hf
          refine a_iald ha0 hb58 dL_give_167 ?_
          refine a_iconst (1 : Int32) dL_give_168 rfl ?_
          refine a_iadd dL_give_169 ?_
          obtain ⟨hb59, hf⟩ := grd_elim hf
          refine a_iast ha0 hb59 dL_give_170 ?_
          obtain ⟨σ60, hσ60, hf⟩ := bnd_elim hf
          rw [← hσ60]
          have hq := Option.some.inj hf
          subst hq
          refine a_locs (loc' := [(2, .ref a2), (6, .int ((8 : Int32) * p4))]) [2, 4] rfl ?_
          exact hA26
        · rw [if_neg hc55] at hf
          refine a_icmp_ne_t 171 dL_give_149 (by decide) hc55 ?_
          have hq := Option.some.inj hf
          subst hq
          refine a_locs (loc' := [(2, .ref a2), (6, .int ((8 : Int32) * p4))]) [2, 4] rfl ?_
          exact hA26
  clear hf
  have hf := hr62
  clear hr62
  by_cases hc13 : (σ10.1 a2 ((8 : Int32) * p4).toNatClampNeg) = (2 : Int32)
  · rw [if_pos hc13] at hf
    refine a_icmp_ne_f 69 dL_give_62 (by decide) hc13 ?_
    refine a_iconst (0 : Int32) dL_give_65 rfl ?_
    refine a_goto 82 dL_give_66 (by decide) ?_
    have hq := Option.some.inj hf
    subst hq
    refine a_locs (loc' := [(0, .ref a0), (1, .ref a1), (2, .ref a2), (5, .int p5), (6, .int ((8 : Int32) * p4))]) [2, 3, 4, 7, 1] rfl ?_
    exact hA61
  · rw [if_neg hc13] at hf
    refine a_icmp_ne_t 69 dL_give_62 (by decide) hc13 ?_
    refine a_aload_n dL_give_69 rfl 4 rfl ?_
    refine a_iload dL_give_70 1 rfl ?_
    obtain ⟨hb63, hf⟩ := grd_elim hf
    refine a_iald ha2 hb63 dL_give_72 ?_
    refine a_iconst (4 : Int32) dL_give_73 rfl ?_
    by_cases hc64 : (σ10.1 a2 ((8 : Int32) * p4).toNatClampNeg) = (4 : Int32)
    · rw [if_pos hc64] at hf
      refine a_icmp_ne_f 81 dL_give_74 (by decide) hc64 ?_
      refine a_iconst (2 : Int32) dL_give_77 rfl ?_
      refine a_goto 82 dL_give_78 (by decide) ?_
      have hq := Option.some.inj hf
      subst hq
      refine a_locs (loc' := [(0, .ref a0), (1, .ref a1), (2, .ref a2), (5, .int p5), (6, .int ((8 : Int32) * p4))]) [2, 3, 4, 7, 1] rfl ?_
      exact hA61
    · rw [if_neg hc64] at hf
      refine a_icmp_ne_t 81 dL_give_74 (by decide) hc64 ?_
      refine a_iconst (1 : Int32) dL_give_81 rfl ?_
      have hq := Option.some.inj hf
      subst hq
      refine a_locs (loc' := [(0, .ref a0), (1, .ref a1), (2, .ref a2), (5, .int p5), (6, .int ((8 : Int32) * p4))]) [2, 3, 4, 7, 1] rfl ?_
      exact hA61
set_option maxHeartbeats 4000000 in
set_option maxRecDepth 100000 in
theorem kL_holds_L5 (e : Nat) {K : Nat → Prop} (a0 n0 : Nat) (a1 n1 : Nat) (c2 : Int32) (σ : St) (ha0 : IA K a0 n0) (ha1 : IA K a1 n1) {r : Option Value} {τ : St} (q : (Int32)) : ∀ (n : Nat) (v3 : Int32) (v4 : Int32), fL_holds_L5 a0 n0 a1 n1 c2 σ n v3 v4 = some q → AL K e ML_holds 54 [(3, .int q)] [] σ r τ → AL K e ML_holds 5 [(0, .ref a0), (1, .ref a1), (2, .int c2), (3, .int v3), (4, .int v4)] [] σ r τ := by
  intro n
  induction n with
  | zero =>
    intro v3 v4  hf
    simp only [fL_holds_L5] at hf
    exact absurd hf (by simp)
  | succ n ih =>
    intro v3 v4  hf h2
    rw [fL_holds_L5] at hf
    refine a_iload dL_holds_5 4 rfl ?_
    refine a_aload_n dL_holds_7 rfl 0 rfl ?_
    refine a_bipush (25 : Int32) dL_holds_8 rfl ?_
    obtain ⟨hb1, hf⟩ := grd_elim hf
    refine a_iald ha0 hb1 dL_holds_10 ?_
    by_cases hc2 : (σ.1 a0 (25 : Int32).toNatClampNeg) ≤ v4
    · rw [if_pos hc2] at hf
      refine a_icmp_ge_t 54 dL_holds_11 (by decide) hc2 ?_
      have hq := Option.some.inj hf
      rw [← hq] at h2
      refine a_locs (loc' := [(3, .int v3)]) [3] rfl ?_
      exact h2
    · rw [if_neg hc2] at hf
      refine a_icmp_ge_f 54 dL_holds_11 (by decide) hc2 ?_
      refine a_iload_n dL_holds_14 rfl 3 rfl ?_
      refine a_aload_n dL_holds_15 rfl 1 rfl ?_
      refine a_bipush (8 : Int32) dL_holds_16 rfl ?_
      refine a_iload dL_holds_18 4 rfl ?_
      refine a_imul dL_holds_20 ?_
      refine a_bipush (7 : Int32) dL_holds_21 rfl ?_
      refine a_iadd dL_holds_23 ?_
      obtain ⟨hb3, hf⟩ := grd_elim hf
      refine a_iald ha1 hb3 dL_holds_24 ?_
      obtain ⟨q5, hr7, hf⟩ := obind hf
      have hA6 : AL K e ML_holds 46 [(0, .ref a0), (1, .ref a1), (2, .int c2), (4, .int v4)] [.int q5, .int v3] σ r τ := by
        refine a_iadd dL_holds_46 ?_
        refine a_istore_n dL_holds_47 rfl (by decide) (loc' := [(3, .int (v3 + q5)), (0, .ref a0), (1, .ref a1), (2, .int c2), (4, .int v4)]) rfl ?_
        refine a_iinc (v4 + (1 : Int32)) dL_holds_48 4 rfl rfl (by decide) (loc' := [(4, .int (v4 + (1 : Int32))), (3, .int (v3 + q5)), (0, .ref a0), (1, .ref a1), (2, .int c2)]) rfl ?_
        refine a_goto 5 dL_holds_51 (by decide) ?_
        refine a_locs (loc' := [(0, .ref a0), (1, .ref a1), (2, .int c2), (3, .int (v3 + q5)), (4, .int (v4 + (1 : Int32)))]) [2, 3, 4, 1, 0] rfl ?_
        exact ih (v3 + q5) (v4 + (1 : Int32)) hf h2
      clear hf
      have hf := hr7
      clear hr7
      by_cases hc4 : (σ.1 a1 (((8 : Int32) * v4) + (7 : Int32)).toNatClampNeg) = 0
      · rw [if_pos hc4] at hf
        refine a_if_ne_f 45 dL_holds_25 (by decide) hc4 ?_
        refine a_aload_n dL_holds_28 rfl 1 rfl ?_
        refine a_bipush (8 : Int32) dL_holds_29 rfl ?_
        refine a_iload dL_holds_31 4 rfl ?_
        refine a_imul dL_holds_33 ?_
        refine a_iconst (2 : Int32) dL_holds_34 rfl ?_
        refine a_iadd dL_holds_35 ?_
        obtain ⟨hb8, hf⟩ := grd_elim hf
        refine a_iald ha1 hb8 dL_holds_36 ?_
        refine a_iload_n dL_holds_37 rfl 2 rfl ?_
        by_cases hc9 : (σ.1 a1 (((8 : Int32) * v4) + (2 : Int32)).toNatClampNeg) = c2
        · rw [if_pos hc9] at hf
          refine a_icmp_ne_f 45 dL_holds_38 (by decide) hc9 ?_
          refine a_iconst (1 : Int32) dL_holds_41 rfl ?_
          refine a_goto 46 dL_holds_42 (by decide) ?_
          have hq := Option.some.inj hf
          subst hq
          refine a_locs (loc' := [(0, .ref a0), (1, .ref a1), (2, .int c2), (4, .int v4)]) [0, 1, 2, 4] rfl ?_
          exact hA6
        · rw [if_neg hc9] at hf
          refine a_icmp_ne_t 45 dL_holds_38 (by decide) hc9 ?_
          refine a_iconst (0 : Int32) dL_holds_45 rfl ?_
          have hq := Option.some.inj hf
          subst hq
          refine a_locs (loc' := [(0, .ref a0), (1, .ref a1), (2, .int c2), (4, .int v4)]) [0, 1, 2, 4] rfl ?_
          exact hA6
      · rw [if_neg hc4] at hf
        refine a_if_ne_t 45 dL_holds_25 (by decide) hc4 ?_
        refine a_iconst (0 : Int32) dL_holds_45 rfl ?_
        have hq := Option.some.inj hf
        subst hq
        refine a_locs (loc' := [(0, .ref a0), (1, .ref a1), (2, .int c2), (4, .int v4)]) [0, 1, 2, 4] rfl ?_
        exact hA6
set_option maxHeartbeats 4000000 in
set_option maxRecDepth 100000 in
theorem kL_holds (e : Nat) {K : Nat → Prop} (a0 n0 : Nat) (a1 n1 : Nat) (p2 : Int32) (σ : St) (ha0 : IA K a0 n0) (ha1 : IA K a1 n1) (q : Int32) (hf : fL_holds a0 n0 a1 n1 p2 σ = some q) : SpK K e ML_holds [.ref a0, .ref a1, .int p2] σ (some (.int q)) σ := by
  refine sp_of rfl (Nat.le_of_ble_eq_true rfl) (loc := [(0, .ref a0), (1, .ref a1), (2, .int p2)]) rfl ?_
  unfold fL_holds at hf
  refine a_iconst (0 : Int32) dL_holds_0 rfl ?_
  refine a_istore_n dL_holds_1 rfl (by decide) (loc' := [(3, .int (0 : Int32)), (0, .ref a0), (1, .ref a1), (2, .int p2)]) rfl ?_
  refine a_iconst (0 : Int32) dL_holds_2 rfl ?_
  refine a_istore dL_holds_3 (by decide) (loc' := [(4, .int (0 : Int32)), (3, .int (0 : Int32)), (0, .ref a0), (1, .ref a1), (2, .int p2)]) rfl ?_
  obtain ⟨q10, hr11, hf⟩ := obind hf
  have hA12 : AL K e ML_holds 54 [(3, .int q10)] [] σ (some (.int q)) σ := by
    refine a_iload_n dL_holds_54 rfl 0 rfl ?_
    have hq := Option.some.inj hf
    subst hq
    exact a_iret rfl dL_holds_55
  refine a_locs (loc' := [(0, .ref a0), (1, .ref a1), (2, .int p2), (3, .int (0 : Int32)), (4, .int (0 : Int32))]) [2, 3, 4, 1, 0] rfl ?_
  exact kL_holds_L5 e a0 n0 a1 n1 p2 σ ha0 ha1 q10 fu (0 : Int32) (0 : Int32) hr11 hA12
set_option maxHeartbeats 4000000 in
set_option maxRecDepth 100000 in
theorem kL_habit_L6 (e : Nat) {K : Nat → Prop} (a0 n0 : Nat) (a1 n1 : Nat) (a2 n2 : Nat) (c3 : Int32) (c4 : Int32) (σ : St) (ha0 : IA K a0 n0) (ha1 : IA K a1 n1) (ha2 : IA K a2 n2) {r : Option Value} {τ : St} (q : (Int32)) : ∀ (n : Nat) (v5 : Int32) (v6 : Int32), fL_habit_L6 a0 n0 a1 n1 a2 n2 c3 c4 σ n v5 v6 = some q → AL K (e + 1) ML_habit 105 [(5, .int q)] [] σ r τ → AL K (e + 1) ML_habit 6 [(0, .ref a0), (1, .ref a1), (2, .ref a2), (3, .int c3), (4, .int c4), (5, .int v5), (6, .int v6)] [] σ r τ := by
  intro n
  induction n with
  | zero =>
    intro v5 v6  hf
    simp only [fL_habit_L6] at hf
    exact absurd hf (by simp)
  | succ n ih =>
    intro v5 v6  hf h2
    rw [fL_habit_L6] at hf
    refine a_iload dL_habit_6 6 rfl ?_
    refine a_aload_n dL_habit_8 rfl 0 rfl ?_
    refine a_iconst (0 : Int32) dL_habit_9 rfl ?_
    obtain ⟨hb1, hf⟩ := grd_elim hf
    refine a_iald ha0 hb1 dL_habit_10 ?_
    by_cases hc2 : (σ.1 a0 (0 : Int32).toNatClampNeg) ≤ v6
    · rw [if_pos hc2] at hf
      refine a_icmp_ge_t 105 dL_habit_11 (by decide) hc2 ?_
      have hq := Option.some.inj hf
      rw [← hq] at h2
      refine a_locs (loc' := [(5, .int v5)]) [5] rfl ?_
      exact h2
    · rw [if_neg hc2] at hf
      refine a_icmp_ge_f 105 dL_habit_11 (by decide) hc2 ?_
      refine a_iload dL_habit_14 4 rfl ?_
      refine a_iload dL_habit_16 6 rfl ?_
      refine a_ishr dL_habit_18 ?_
      refine a_iconst (1 : Int32) dL_habit_19 rfl ?_
      refine a_iand dL_habit_20 ?_
      by_cases hc3 : ((c4 >>> (v6 &&& 31)) &&& (1 : Int32)) = 0
      · rw [if_pos hc3] at hf
        refine a_if_ne_f 27 dL_habit_21 (by decide) hc3 ?_
        refine a_goto 99 dL_habit_24 (by decide) ?_
        refine a_iinc (v6 + (1 : Int32)) dL_habit_99 6 rfl rfl (by decide) (loc' := [(6, .int (v6 + (1 : Int32))), (0, .ref a0), (1, .ref a1), (2, .ref a2), (3, .int c3), (4, .int c4), (5, .int v5)]) rfl ?_
        refine a_goto 6 dL_habit_102 (by decide) ?_
        refine a_locs (loc' := [(0, .ref a0), (1, .ref a1), (2, .ref a2), (3, .int c3), (4, .int c4), (5, .int v5), (6, .int (v6 + (1 : Int32)))]) [1, 2, 3, 4, 5, 6, 0] rfl ?_
        exact ih v5 (v6 + (1 : Int32)) hf h2
      · rw [if_neg hc3] at hf
        refine a_if_ne_t 27 dL_habit_21 (by decide) hc3 ?_
        refine a_aload_n dL_habit_27 rfl 0 rfl ?_
        refine a_iconst (1 : Int32) dL_habit_28 rfl ?_
        refine a_iload_n dL_habit_29 rfl 3 rfl ?_
        refine a_iadd dL_habit_30 ?_
        obtain ⟨hb4, hf⟩ := grd_elim hf
        refine a_iald ha0 hb4 dL_habit_31 ?_
        obtain ⟨x5, hx5, hf⟩ := bnd_elim hf
        refine a_top (w := .int x5) (by rw [hx5]) ?_
        refine a_istore dL_habit_32 (by decide) (loc' := [(7, .int x5), (0, .ref a0), (1, .ref a1), (2, .ref a2), (3, .int c3), (4, .int c4), (5, .int v5), (6, .int v6)]) rfl ?_
        refine a_iload dL_habit_34 6 rfl ?_
        by_cases hc6 : v5 < 0
        · rw [if_pos hc6] at hf
          refine a_if_lt_t 95 dL_habit_36 (by decide) hc6 ?_
          refine a_iload dL_habit_95 7 rfl ?_
          refine a_istore dL_habit_97 (by decide) (loc' := [(5, .int v6), (7, .int x5), (0, .ref a0), (1, .ref a1), (2, .ref a2), (3, .int c3), (4, .int c4), (6, .int v6)]) rfl ?_
          refine a_iinc (v6 + (1 : Int32)) dL_habit_99 7 rfl rfl (by decide) (loc' := [(6, .int (v6 + (1 : Int32))), (5, .int v6), (7, .int x5), (0, .ref a0), (1, .ref a1), (2, .ref a2), (3, .int c3), (4, .int c4)]) rfl ?_
          refine a_goto 6 dL_habit_102 (by decide) ?_
          refine a_locs (loc' := [(0, .ref a0), (1, .ref a1), (2, .ref a2), (3, .int c3), (4, .int c4), (5, .int v6), (6, .int (v6 + (1 : Int32)))]) [3, 4, 5, 6, 7, 1, 0] rfl ?_
          exact ih v6 (v6 + (1 : Int32)) hf h2
        · rw [if_neg hc6] at hf
          refine a_if_lt_f 95 dL_habit_36 (by decide) hc6 ?_
          refine a_iload dL_habit_39 0 rfl ?_
          refine a_iconst (1 : Int32) dL_habit_41 rfl ?_
          by_cases hc7 : x5 = (1 : Int32)
          · rw [if_pos hc7] at hf
            refine a_icmp_eq_t 95 dL_habit_42 (by decide) hc7 ?_
            refine a_iload dL_habit_95 7 rfl ?_
            refine a_istore dL_habit_97 (by decide) (loc' := [(5, .int v6), (7, .int x5), (0, .ref a0), (1, .ref a1), (2, .ref a2), (3, .int c3), (4, .int c4), (6, .int v6)]) rfl ?_
            refine a_iinc (v6 + (1 : Int32)) dL_habit_99 7 rfl rfl (by decide) (loc' := [(6, .int (v6 + (1 : Int32))), (5, .int v6), (7, .int x5), (0, .ref a0), (1, .ref a1), (2, .ref a2), (3, .int c3), (4, .int c4)]) rfl ?_
            refine a_goto 6 dL_habit_102 (by decide) ?_
            refine a_locs (loc' := [(0, .ref a0), (1, .ref a1), (2, .ref a2), (3, .int c3), (4, .int c4), (5, .int v6), (6, .int (v6 + (1 : Int32)))]) [3, 4, 5, 6, 7, 1, 0] rfl ?_
            exact ih v6 (v6 + (1 : Int32)) hf h2
          · rw [if_neg hc7] at hf
            refine a_icmp_eq_f 95 dL_habit_42 (by decide) hc7 ?_
            refine a_iload dL_habit_45 0 rfl ?_
            refine a_iconst (2 : Int32) dL_habit_47 rfl ?_
            by_cases hc8 : x5 = (2 : Int32)
            · rw [if_pos hc8] at hf
              refine a_icmp_ne_f 72 dL_habit_48 (by decide) hc8 ?_
              refine a_aload_n dL_habit_51 rfl 3 rfl ?_
              refine a_bipush (8 : Int32) dL_habit_52 rfl ?_
              refine a_iload_n dL_habit_54 rfl 4 rfl ?_
              refine a_imul dL_habit_55 ?_
              refine a_iload dL_habit_56 7 rfl ?_
              refine a_iadd dL_habit_58 ?_
              obtain ⟨hb9, hf⟩ := grd_elim hf
              refine a_iald ha2 hb9 dL_habit_59 ?_
              refine a_aload_n dL_habit_60 rfl 3 rfl ?_
              refine a_bipush (8 : Int32) dL_habit_61 rfl ?_
              refine a_iload_n dL_habit_63 rfl 4 rfl ?_
              refine a_imul dL_habit_64 ?_
              refine a_iload dL_habit_65 6 rfl ?_
              refine a_iadd dL_habit_67 ?_
              obtain ⟨hb10, hf⟩ := grd_elim hf
              refine a_iald ha2 hb10 dL_habit_68 ?_
              by_cases hc11 : (σ.1 a2 (((8 : Int32) * c3) + v5).toNatClampNeg) < (σ.1 a2 (((8 : Int32) * c3) + v6).toNatClampNeg)
              · rw [if_pos hc11] at hf
                refine a_icmp_gt_t 95 dL_habit_69 (by decide) hc11 ?_
                refine a_iload dL_habit_95 7 rfl ?_
                refine a_istore dL_habit_97 (by decide) (loc' := [(5, .int v6), (7, .int x5), (0, .ref a0), (1, .ref a1), (2, .ref a2), (3, .int c3), (4, .int c4), (6, .int v6)]) rfl ?_
                refine a_iinc (v6 + (1 : Int32)) dL_habit_99 7 rfl rfl (by decide) (loc' := [(6, .int (v6 + (1 : Int32))), (5, .int v6), (7, .int x5), (0, .ref a0), (1, .ref a1), (2, .ref a2), (3, .int c3), (4, .int c4)]) rfl ?_
                refine a_goto 6 dL_habit_102 (by decide) ?_
                refine a_locs (loc' := [(0, .ref a0), (1, .ref a1), (2, .ref a2), (3, .int c3), (4, .int c4), (5, .int v6), (6, .int (v6 + (1 : Int32)))]) [3, 4, 5, 6, 7, 1, 0] rfl ?_
                exact ih v6 (v6 + (1 : Int32)) hf h2
              · rw [if_neg hc11] at hf
                refine a_icmp_gt_f 95 dL_habit_69 (by decide) hc11 ?_
                refine a_iload dL_habit_72 0 rfl ?_
                refine a_iconst (3 : Int32) dL_habit_74 rfl ?_
                by_cases hc12 : x5 = (3 : Int32)
                · rw [if_pos hc12] at hf
                  refine a_icmp_ne_f 99 dL_habit_75 (by decide) hc12 ?_
                  refine a_aload_n dL_habit_78 rfl 1 rfl ?_
                  refine a_aload_n dL_habit_79 rfl 2 rfl ?_
                  refine a_iload dL_habit_80 7 rfl ?_
                  obtain ⟨q13, hq13, hf⟩ := obind hf
                  refine a_callS (as := [.ref a0, .ref a1, .int v6]) (stk := []) (q := some (.int q13)) (σ1 := σ) (kL_holds e a0 n0 a1 n1 v6 σ ha0 ha1 _ hq13) sl_L_42 rfl (Nat.le_of_ble_eq_true rfl) dL_habit_82 ?_
                  refine a_aload_n dL_habit_85 rfl 1 rfl ?_
                  refine a_aload_n dL_habit_86 rfl 2 rfl ?_
                  refine a_iload dL_habit_87 6 rfl ?_
                  obtain ⟨q14, hq14, hf⟩ := obind hf
                  refine a_callS (as := [.ref a0, .ref a1, .int v5]) (stk := [.int q13]) (q := some (.int q14)) (σ1 := σ) (kL_holds e a0 n0 a1 n1 v5 σ ha0 ha1 _ hq14) sl_L_42 rfl (Nat.le_of_ble_eq_true rfl) dL_habit_89 ?_
                  by_cases hc15 : q14 ≤ q13
                  · rw [if_pos hc15] at hf
                    refine a_icmp_ge_t 99 dL_habit_92 (by decide) hc15 ?_
                    refine a_iinc (v6 + (1 : Int32)) dL_habit_99 7 rfl rfl (by decide) (loc' := [(6, .int (v6 + (1 : Int32))), (7, .int x5), (0, .ref a0), (1, .ref a1), (2, .ref a2), (3, .int c3), (4, .int c4), (5, .int v5)]) rfl ?_
                    refine a_goto 6 dL_habit_102 (by decide) ?_
                    refine a_locs (loc' := [(0, .ref a0), (1, .ref a1), (2, .ref a2), (3, .int c3), (4, .int c4), (5, .int v5), (6, .int (v6 + (1 : Int32)))]) [2, 3, 4, 5, 6, 7, 0] rfl ?_
                    exact ih v5 (v6 + (1 : Int32)) hf h2
                  · rw [if_neg hc15] at hf
                    refine a_icmp_ge_f 99 dL_habit_92 (by decide) hc15 ?_
                    refine a_iload dL_habit_95 7 rfl ?_
                    refine a_istore dL_habit_97 (by decide) (loc' := [(5, .int v6), (7, .int x5), (0, .ref a0), (1, .ref a1), (2, .ref a2), (3, .int c3), (4, .int c4), (6, .int v6)]) rfl ?_
                    refine a_iinc (v6 + (1 : Int32)) dL_habit_99 7 rfl rfl (by decide) (loc' := [(6, .int (v6 + (1 : Int32))), (5, .int v6), (7, .int x5), (0, .ref a0), (1, .ref a1), (2, .ref a2), (3, .int c3), (4, .int c4)]) rfl ?_
                    refine a_goto 6 dL_habit_102 (by decide) ?_
                    refine a_locs (loc' := [(0, .ref a0), (1, .ref a1), (2, .ref a2), (3, .int c3), (4, .int c4), (5, .int v6), (6, .int (v6 + (1 : Int32)))]) [3, 4, 5, 6, 7, 1, 0] rfl ?_
                    exact ih v6 (v6 + (1 : Int32)) hf h2
                · rw [if_neg hc12] at hf
                  refine a_icmp_ne_t 99 dL_habit_75 (by decide) hc12 ?_
                  refine a_iinc (v6 + (1 : Int32)) dL_habit_99 7 rfl rfl (by decide) (loc' := [(6, .int (v6 + (1 : Int32))), (7, .int x5), (0, .ref a0), (1, .ref a1), (2, .ref a2), (3, .int c3), (4, .int c4), (5, .int v5)]) rfl ?_
                  refine a_goto 6 dL_habit_102 (by decide) ?_
                  refine a_locs (loc' := [(0, .ref a0), (1, .ref a1), (2, .ref a2), (3, .int c3), (4, .int c4), (5, .int v5), (6, .int (v6 + (1 : Int32)))]) [2, 3, 4, 5, 6, 7, 0] rfl ?_
                  exact ih v5 (v6 + (1 : Int32)) hf h2
            · rw [if_neg hc8] at hf
              refine a_icmp_ne_t 72 dL_habit_48 (by decide) hc8 ?_
              refine a_iload dL_habit_72 0 rfl ?_
              refine a_iconst (3 : Int32) dL_habit_74 rfl ?_
              by_cases hc16 : x5 = (3 : Int32)
              · rw [if_pos hc16] at hf
                refine a_icmp_ne_f 99 dL_habit_75 (by decide) hc16 ?_
                refine a_aload_n dL_habit_78 rfl 1 rfl ?_
                refine a_aload_n dL_habit_79 rfl 2 rfl ?_
                refine a_iload dL_habit_80 7 rfl ?_
                obtain ⟨q17, hq17, hf⟩ := obind hf
                refine a_callS (as := [.ref a0, .ref a1, .int v6]) (stk := []) (q := some (.int q17)) (σ1 := σ) (kL_holds e a0 n0 a1 n1 v6 σ ha0 ha1 _ hq17) sl_L_42 rfl (Nat.le_of_ble_eq_true rfl) dL_habit_82 ?_
                refine a_aload_n dL_habit_85 rfl 1 rfl ?_
                refine a_aload_n dL_habit_86 rfl 2 rfl ?_
                refine a_iload dL_habit_87 6 rfl ?_
                obtain ⟨q18, hq18, hf⟩ := obind hf
                refine a_callS (as := [.ref a0, .ref a1, .int v5]) (stk := [.int q17]) (q := some (.int q18)) (σ1 := σ) (kL_holds e a0 n0 a1 n1 v5 σ ha0 ha1 _ hq18) sl_L_42 rfl (Nat.le_of_ble_eq_true rfl) dL_habit_89 ?_
                by_cases hc19 : q18 ≤ q17
                · rw [if_pos hc19] at hf
                  refine a_icmp_ge_t 99 dL_habit_92 (by decide) hc19 ?_
                  refine a_iinc (v6 + (1 : Int32)) dL_habit_99 7 rfl rfl (by decide) (loc' := [(6, .int (v6 + (1 : Int32))), (7, .int x5), (0, .ref a0), (1, .ref a1), (2, .ref a2), (3, .int c3), (4, .int c4), (5, .int v5)]) rfl ?_
                  refine a_goto 6 dL_habit_102 (by decide) ?_
                  refine a_locs (loc' := [(0, .ref a0), (1, .ref a1), (2, .ref a2), (3, .int c3), (4, .int c4), (5, .int v5), (6, .int (v6 + (1 : Int32)))]) [2, 3, 4, 5, 6, 7, 0] rfl ?_
                  exact ih v5 (v6 + (1 : Int32)) hf h2
                · rw [if_neg hc19] at hf
                  refine a_icmp_ge_f 99 dL_habit_92 (by decide) hc19 ?_
                  refine a_iload dL_habit_95 7 rfl ?_
                  refine a_istore dL_habit_97 (by decide) (loc' := [(5, .int v6), (7, .int x5), (0, .ref a0), (1, .ref a1), (2, .ref a2), (3, .int c3), (4, .int c4), (6, .int v6)]) rfl ?_
                  refine a_iinc (v6 + (1 : Int32)) dL_habit_99 7 rfl rfl (by decide) (loc' := [(6, .int (v6 + (1 : Int32))), (5, .int v6), (7, .int x5), (0, .ref a0), (1, .ref a1), (2, .ref a2), (3, .int c3), (4, .int c4)]) rfl ?_
                  refine a_goto 6 dL_habit_102 (by decide) ?_
                  refine a_locs (loc' := [(0, .ref a0), (1, .ref a1), (2, .ref a2), (3, .int c3), (4, .int c4), (5, .int v6), (6, .int (v6 + (1 : Int32)))]) [3, 4, 5, 6, 7, 1, 0] rfl ?_
                  exact ih v6 (v6 + (1 : Int32)) hf h2
              · rw [if_neg hc16] at hf
                refine a_icmp_ne_t 99 dL_habit_75 (by decide) hc16 ?_
                refine a_iinc (v6 + (1 : Int32)) dL_habit_99 7 rfl rfl (by decide) (loc' := [(6, .int (v6 + (1 : Int32))), (7, .int x5), (0, .ref a0), (1, .ref a1), (2, .ref a2), (3, .int c3), (4, .int c4), (5, .int v5)]) rfl ?_
                refine a_goto 6 dL_habit_102 (by decide) ?_
                refine a_locs (loc' := [(0, .ref a0), (1, .ref a1), (2, .ref a2), (3, .int c3), (4, .int c4), (5, .int v5), (6, .int (v6 + (1 : Int32)))]) [2, 3, 4, 5, 6, 7, 0] rfl ?_
                exact ih v5 (v6 + (1 : Int32)) hf h2
set_option maxHeartbeats 4000000 in
set_option maxRecDepth 100000 in
theorem kL_habit (e : Nat) {K : Nat → Prop} (a0 n0 : Nat) (a1 n1 : Nat) (a2 n2 : Nat) (p3 : Int32) (p4 : Int32) (σ : St) (ha0 : IA K a0 n0) (ha1 : IA K a1 n1) (ha2 : IA K a2 n2) (q : Int32) (hf : fL_habit a0 n0 a1 n1 a2 n2 p3 p4 σ = some q) : SpK K (e + 1) ML_habit [.ref a0, .ref a1, .ref a2, .int p3, .int p4] σ (some (.int q)) σ := by
  refine sp_of rfl (Nat.le_of_ble_eq_true rfl) (loc := [(0, .ref a0), (1, .ref a1), (2, .ref a2), (3, .int p3), (4, .int p4)]) rfl ?_
  unfold fL_habit at hf
  refine a_iconst (-1 : Int32) dL_habit_0 rfl ?_
  refine a_istore dL_habit_1 (by decide) (loc' := [(5, .int (-1 : Int32)), (0, .ref a0), (1, .ref a1), (2, .ref a2), (3, .int p3), (4, .int p4)]) rfl ?_
  refine a_iconst (0 : Int32) dL_habit_3 rfl ?_
  refine a_istore dL_habit_4 (by decide) (loc' := [(6, .int (0 : Int32)), (5, .int (-1 : Int32)), (0, .ref a0), (1, .ref a1), (2, .ref a2), (3, .int p3), (4, .int p4)]) rfl ?_
  obtain ⟨q20, hr21, hf⟩ := obind hf
  have hA22 : AL K (e + 1) ML_habit 105 [(5, .int q20)] [] σ (some (.int q)) σ := by
    refine a_iload dL_habit_105 0 rfl ?_
    have hq := Option.some.inj hf
    subst hq
    exact a_iret rfl dL_habit_107
  refine a_locs (loc' := [(0, .ref a0), (1, .ref a1), (2, .ref a2), (3, .int p3), (4, .int p4), (5, .int (-1 : Int32)), (6, .int (0 : Int32))]) [2, 3, 4, 5, 6, 1, 0] rfl ?_
  exact kL_habit_L6 e a0 n0 a1 n1 a2 n2 p3 p4 σ ha0 ha1 ha2 q20 fu (-1 : Int32) (0 : Int32) hr21 hA22
set_option maxHeartbeats 4000000 in
set_option maxRecDepth 100000 in
theorem kL_year_L9 (e : Nat) {K : Nat → Prop} (a0 n0 : Nat) (a1 n1 : Nat) (a2 n2 : Nat) (a3 n3 : Nat) (a4 n4 : Nat) (a5 n5 : Nat) (c6 : Int32) (c7 : Int32)  (ha0 : IA K a0 n0) (ha1 : IA K a1 n1) (ha2 : IA K a2 n2) (ha3 : IA K a3 n3) (ha4 : IA K a4 n4) (ha5 : LA K a5 n5) {r : Option Value} {τ : St} (q : (St)) : ∀ (n : Nat) (v8 : Int32) (σ : St), fL_year_L9 a0 n0 a1 n1 a2 n2 a3 n3 a4 n4 a5 n5 c6 c7 n v8 σ = some q → AL K (e + 2) ML_year 54 [(0, .ref a0), (1, .ref a1), (2, .ref a2), (3, .ref a3), (4, .ref a4), (5, .ref a5), (6, .int c6), (7, .int c7)] [] q r τ → AL K (e + 2) ML_year 9 [(0, .ref a0), (1, .ref a1), (2, .ref a2), (3, .ref a3), (4, .ref a4), (5, .ref a5), (6, .int c6), (7, .int c7), (8, .int v8)] [] σ r τ := by
  intro n
  induction n with
  | zero =>
    intro v8 σ  hf
    simp only [fL_year_L9] at hf
    exact absurd hf (by simp)
  | succ n ih =>
    intro v8 σ  hf h2
    rw [fL_year_L9] at hf
    refine a_iload dL_year_9 8 rfl ?_
    refine a_aload_n dL_year_11 rfl 0 rfl ?_
    refine a_bipush (25 : Int32) dL_year_12 rfl ?_
    obtain ⟨hb1, hf⟩ := grd_elim hf
    refine a_iald ha0 hb1 dL_year_14 ?_
    by_cases hc2 : (σ.1 a0 (25 : Int32).toNatClampNeg) ≤ v8
    · rw [if_pos hc2] at hf
      refine a_icmp_ge_t 54 dL_year_15 (by decide) hc2 ?_
      have hq := Option.some.inj hf
      rw [← hq] at h2
      refine a_locs (loc' := [(0, .ref a0), (1, .ref a1), (2, .ref a2), (3, .ref a3), (4, .ref a4), (5, .ref a5), (6, .int c6), (7, .int c7)]) [0, 1, 2, 3, 4, 5, 6, 7] rfl ?_
      exact h2
    · rw [if_neg hc2] at hf
      refine a_icmp_ge_f 54 dL_year_15 (by decide) hc2 ?_
      refine a_aload_n dL_year_18 rfl 2 rfl ?_
      refine a_bipush (8 : Int32) dL_year_19 rfl ?_
      refine a_iload dL_year_21 8 rfl ?_
      refine a_imul dL_year_23 ?_
      refine a_iconst (5 : Int32) dL_year_24 rfl ?_
      refine a_iadd dL_year_25 ?_
      refine a_dup2 rfl rfl dL_year_26 ?_
      obtain ⟨hb3, hf⟩ := grd_elim hf
      refine a_iald ha2 hb3 dL_year_27 ?_
      refine a_aload_n dL_year_28 rfl 2 rfl ?_
      refine a_bipush (8 : Int32) dL_year_29 rfl ?_
      refine a_iload dL_year_31 8 rfl ?_
      refine a_imul dL_year_33 ?_
      refine a_bipush (7 : Int32) dL_year_34 rfl ?_
      refine a_iadd dL_year_36 ?_
      obtain ⟨hb4, hf⟩ := grd_elim hf
      refine a_iald ha2 hb4 dL_year_37 ?_
      obtain ⟨x6, hx6, hf⟩ := bnd_elim hf
      have hA9 : AL K (e + 2) ML_year 46 [(0, .ref a0), (1, .ref a1), (2, .ref a2), (3, .ref a3), (4, .ref a4), (5, .ref a5), (6, .int c6), (7, .int c7), (8, .int v8)] [.int x6, .int (σ.1 a2 (((8 : Int32) * v8) + (5 : Int32)).toNatClampNeg), .int (((8 : Int32) * v8) + (5 : Int32)), .ref a2] σ r τ := by
        refine a_iadd dL_year_46 ?_
        obtain ⟨hb7, hf⟩ := grd_elim hf
        refine a_iast ha2 hb7 dL_year_47 ?_
        obtain ⟨σ8, hσ8, hf⟩ := bnd_elim hf
        rw [← hσ8]
        refine a_iinc (v8 + (1 : Int32)) dL_year_48 8 rfl rfl (by decide) (loc' := [(8, .int (v8 + (1 : Int32))), (0, .ref a0), (1, .ref a1), (2, .ref a2), (3, .ref a3), (4, .ref a4), (5, .ref a5), (6, .int c6), (7, .int c7)]) rfl ?_
        refine a_goto 9 dL_year_51 (by decide) ?_
        refine a_locs (loc' := [(0, .ref a0), (1, .ref a1), (2, .ref a2), (3, .ref a3), (4, .ref a4), (5, .ref a5), (6, .int c6), (7, .int c7), (8, .int (v8 + (1 : Int32)))]) [1, 2, 3, 4, 5, 6, 7, 8, 0] rfl ?_
        exact ih (v8 + (1 : Int32)) σ8 hf h2
      clear hf
      by_cases hc5 : (σ.1 a2 (((8 : Int32) * v8) + (7 : Int32)).toNatClampNeg) = 0
      · rw [if_pos hc5] at hx6
        refine a_if_ne_f 45 dL_year_38 (by decide) hc5 ?_
        refine a_iconst (1 : Int32) dL_year_41 rfl ?_
        refine a_goto 46 dL_year_42 (by decide) ?_
        replace hx6 := hx6.symm; subst hx6
        exact hA9
      · rw [if_neg hc5] at hx6
        refine a_if_ne_t 45 dL_year_38 (by decide) hc5 ?_
        refine a_iconst (0 : Int32) dL_year_45 rfl ?_
        replace hx6 := hx6.symm; subst hx6
        exact hA9
set_option maxHeartbeats 4000000 in
set_option maxRecDepth 100000 in
theorem kL_year_L214 (e : Nat) {K : Nat → Prop} (a0 n0 : Nat) (a1 n1 : Nat) (a2 n2 : Nat) (a3 n3 : Nat) (a4 n4 : Nat) (a5 n5 : Nat) (c6 : Int32) (c7 : Int32) (c8 : Int32) (c10 : Int32) (c11 : Int32) (c12 : Int32) (σ : St) (ha0 : IA K a0 n0) (ha1 : IA K a1 n1) (ha2 : IA K a2 n2) (ha3 : IA K a3 n3) (ha4 : IA K a4 n4) (ha5 : LA K a5 n5) {r : Option Value} {τ : St} (q : (Int32)) : ∀ (n : Nat) (v13 : Int32) (v14 : Int32), fL_year_L214 a0 n0 a1 n1 a2 n2 a3 n3 a4 n4 a5 n5 c6 c7 c8 c10 c11 c12 σ n v13 v14 = some q → AL K (e + 2) ML_year 240 [(0, .ref a0), (1, .ref a1), (2, .ref a2), (3, .ref a3), (4, .ref a4), (5, .ref a5), (6, .int c6), (7, .int c7), (8, .int c8), (10, .int c10), (11, .int c11), (12, .int c12), (13, .int q)] [] σ r τ → AL K (e + 2) ML_year 214 [(0, .ref a0), (1, .ref a1), (2, .ref a2), (3, .ref a3), (4, .ref a4), (5, .ref a5), (6, .int c6), (7, .int c7), (8, .int c8), (10, .int c10), (11, .int c11), (12, .int c12), (13, .int v13), (14, .int v14)] [] σ r τ := by
  intro n
  induction n with
  | zero =>
    intro v13 v14  hf
    simp only [fL_year_L214] at hf
    exact absurd hf (by simp)
  | succ n ih =>
    intro v13 v14  hf h2
    rw [fL_year_L214] at hf
    refine a_iload dL_year_214 13 rfl ?_
    refine a_aload_n dL_year_216 rfl 0 rfl ?_
    refine a_iconst (0 : Int32) dL_year_217 rfl ?_
    obtain ⟨hb39, hf⟩ := grd_elim hf
    refine a_iald ha0 hb39 dL_year_218 ?_
    by_cases hc40 : (σ.1 a0 (0 : Int32).toNatClampNeg) ≤ v14
    · rw [if_pos hc40] at hf
      refine a_icmp_ge_t 240 dL_year_219 (by decide) hc40 ?_
      have hq := Option.some.inj hf
      rw [← hq] at h2
      refine a_locs (loc' := [(0, .ref a0), (1, .ref a1), (2, .ref a2), (3, .ref a3), (4, .ref a4), (5, .ref a5), (6, .int c6), (7, .int c7), (8, .int c8), (10, .int c10), (11, .int c11), (12, .int c12), (13, .int v13)]) [0, 1, 2, 3, 4, 5, 6, 7, 8, 9, 10, 11, 12] rfl ?_
      exact h2
    · rw [if_neg hc40] at hf
      refine a_icmp_ge_f 240 dL_year_219 (by decide) hc40 ?_
      refine a_iload dL_year_222 12 rfl ?_
      refine a_iload dL_year_224 10 rfl ?_
      refine a_iload dL_year_226 13 rfl ?_
      refine a_ishr dL_year_228 ?_
      refine a_iconst (1 : Int32) dL_year_229 rfl ?_
      refine a_iand dL_year_230 ?_
      refine a_iadd dL_year_231 ?_
      obtain ⟨x41, hx41, hf⟩ := bnd_elim hf
      refine a_top (w := .int x41) (by rw [hx41]) ?_
      refine a_istore dL_year_232 (by decide) (loc' := [(13, .int x41), (0, .ref a0), (1, .ref a1), (2, .ref a2), (3, .ref a3), (4, .ref a4), (5, .ref a5), (6, .int c6), (7, .int c7), (8, .int c8), (10, .int c10), (11, .int c11), (12, .int c12), (14, .int v14)]) rfl ?_
      refine a_iinc (v14 + (1 : Int32)) dL_year_234 13 rfl rfl (by decide) (loc' := [(14, .int (v14 + (1 : Int32))), (13, .int x41), (0, .ref a0), (1, .ref a1), (2, .ref a2), (3, .ref a3), (4, .ref a4), (5, .ref a5), (6, .int c6), (7, .int c7), (8, .int c8), (10, .int c10), (11, .int c11), (12, .int c12)]) rfl ?_
      refine a_goto 214 dL_year_237 (by decide) ?_
      refine a_locs (loc' := [(0, .ref a0), (1, .ref a1), (2, .ref a2), (3, .ref a3), (4, .ref a4), (5, .ref a5), (6, .int c6), (7, .int c7), (8, .int c8), (10, .int c10), (11, .int c11), (12, .int c12), (13, .int x41), (14, .int (v14 + (1 : Int32)))]) [2, 3, 4, 5, 6, 7, 8, 9, 10, 11, 12, 13, 1, 0] rfl ?_
      exact ih x41 (v14 + (1 : Int32)) hf h2
set_option maxHeartbeats 4000000 in
set_option maxRecDepth 100000 in
theorem kL_year_L258 (e : Nat) {K : Nat → Prop} (a0 n0 : Nat) (a1 n1 : Nat) (a2 n2 : Nat) (a3 n3 : Nat) (a4 n4 : Nat) (a5 n5 : Nat) (c6 : Int32) (c7 : Int32) (c8 : Int32) (c10 : Int32) (c11 : Int32) (σ : St) (ha0 : IA K a0 n0) (ha1 : IA K a1 n1) (ha2 : IA K a2 n2) (ha3 : IA K a3 n3) (ha4 : IA K a4 n4) (ha5 : LA K a5 n5) {r : Option Value} {τ : St} (q : (Int32)) : ∀ (n : Nat) (v12 : Int32) (v14 : Int32) (v15 : Int32), fL_year_L258 a0 n0 a1 n1 a2 n2 a3 n3 a4 n4 a5 n5 c6 c7 c8 c10 c11 σ n v12 v14 v15 = some q → AL K (e + 2) ML_year 300 [(0, .ref a0), (1, .ref a1), (2, .ref a2), (3, .ref a3), (4, .ref a4), (5, .ref a5), (6, .int c6), (7, .int c7), (8, .int c8), (10, .int c10), (12, .int q)] [] σ r τ → AL K (e + 2) ML_year 258 [(0, .ref a0), (1, .ref a1), (2, .ref a2), (3, .ref a3), (4, .ref a4), (5, .ref a5), (6, .int c6), (7, .int c7), (8, .int c8), (10, .int c10), (11, .int c11), (12, .int v12), (14, .int v14), (15, .int v15)] [] σ r τ := by
  intro n
  induction n with
  | zero =>
    intro v12 v14 v15  hf
    simp only [fL_year_L258] at hf
    exact absurd hf (by simp)
  | succ n ih =>
    intro v12 v14 v15  hf h2
    rw [fL_year_L258] at hf
    refine a_iload dL_year_258 13 rfl ?_
    refine a_aload_n dL_year_260 rfl 0 rfl ?_
    refine a_iconst (0 : Int32) dL_year_261 rfl ?_
    obtain ⟨hb46, hf⟩ := grd_elim hf
    refine a_iald ha0 hb46 dL_year_262 ?_
    by_cases hc47 : (σ.1 a0 (0 : Int32).toNatClampNeg) ≤ v15
    · rw [if_pos hc47] at hf
      refine a_icmp_ge_t 300 dL_year_263 (by decide) hc47 ?_
      have hq := Option.some.inj hf
      rw [← hq] at h2
      refine a_locs (loc' := [(0, .ref a0), (1, .ref a1), (2, .ref a2), (3, .ref a3), (4, .ref a4), (5, .ref a5), (6, .int c6), (7, .int c7), (8, .int c8), (10, .int c10), (12, .int v12)]) [0, 1, 2, 3, 4, 5, 6, 7, 8, 9, 11] rfl ?_
      exact h2
    · rw [if_neg hc47] at hf
      refine a_icmp_ge_f 300 dL_year_263 (by decide) hc47 ?_
      refine a_iload dL_year_266 11 rfl ?_
      by_cases hc48 : 0 ≤ v12
      · rw [if_pos hc48] at hf
        refine a_if_ge_t 300 dL_year_268 (by decide) hc48 ?_
        have hq := Option.some.inj hf
        rw [← hq] at h2
        refine a_locs (loc' := [(0, .ref a0), (1, .ref a1), (2, .ref a2), (3, .ref a3), (4, .ref a4), (5, .ref a5), (6, .int c6), (7, .int c7), (8, .int c8), (10, .int c10), (12, .int v12)]) [0, 1, 2, 3, 4, 5, 6, 7, 8, 9, 11] rfl ?_
        exact h2
      · rw [if_neg hc48] at hf
        refine a_if_ge_f 300 dL_year_268 (by decide) hc48 ?_
        refine a_iload dL_year_271 10 rfl ?_
        refine a_iload dL_year_273 13 rfl ?_
        refine a_ishr dL_year_275 ?_
        refine a_iconst (1 : Int32) dL_year_276 rfl ?_
        refine a_iand dL_year_277 ?_
        refine a_iconst (1 : Int32) dL_year_278 rfl ?_
        by_cases hc49 : ((c11 >>> (v15 &&& 31)) &&& (1 : Int32)) = (1 : Int32)
        · rw [if_pos hc49] at hf
          refine a_icmp_ne_f 294 dL_year_279 (by decide) hc49 ?_
          refine a_iload dL_year_282 12 rfl ?_
          refine a_iinc (v14 + (-1 : Int32)) dL_year_284 12 rfl rfl (by decide) (loc' := [(14, .int (v14 + (-1 : Int32))), (0, .ref a0), (1, .ref a1), (2, .ref a2), (3, .ref a3), (4, .ref a4), (5, .ref a5), (6, .int c6), (7, .int c7), (8, .int c8), (10, .int c10), (11, .int c11), (12, .int v12), (15, .int v15)]) rfl ?_
          by_cases hc50 : v14 = 0
          · rw [if_pos hc50] at hf
            refine a_if_ne_f 294 dL_year_287 (by decide) hc50 ?_
            refine a_iload dL_year_290 13 rfl ?_
            refine a_istore dL_year_292 (by decide) (loc' := [(12, .int v15), (14, .int (v14 + (-1 : Int32))), (0, .ref a0), (1, .ref a1), (2, .ref a2), (3, .ref a3), (4, .ref a4), (5, .ref a5), (6, .int c6), (7, .int c7), (8, .int c8), (10, .int c10), (11, .int c11), (15, .int v15)]) rfl ?_
            refine a_iinc (v15 + (1 : Int32)) dL_year_294 13 rfl rfl (by decide) (loc' := [(15, .int (v15 + (1 : Int32))), (12, .int v15), (14, .int (v14 + (-1 : Int32))), (0, .ref a0), (1, .ref a1), (2, .ref a2), (3, .ref a3), (4, .ref a4), (5, .ref a5), (6, .int c6), (7, .int c7), (8, .int c8), (10, .int c10), (11, .int c11)]) rfl ?_
            refine a_goto 258 dL_year_297 (by decide) ?_
            refine a_locs (loc' := [(0, .ref a0), (1, .ref a1), (2, .ref a2), (3, .ref a3), (4, .ref a4), (5, .ref a5), (6, .int c6), (7, .int c7), (8, .int c8), (10, .int c10), (11, .int c11), (12, .int v15), (14, .int (v14 + (-1 : Int32))), (15, .int (v15 + (1 : Int32)))]) [3, 4, 5, 6, 7, 8, 9, 10, 11, 12, 13, 1, 2, 0] rfl ?_
            exact ih v15 (v14 + (-1 : Int32)) (v15 + (1 : Int32)) hf h2
          · rw [if_neg hc50] at hf
            refine a_if_ne_t 294 dL_year_287 (by decide) hc50 ?_
            refine a_iinc (v15 + (1 : Int32)) dL_year_294 13 rfl rfl (by decide) (loc' := [(15, .int (v15 + (1 : Int32))), (14, .int (v14 + (-1 : Int32))), (0, .ref a0), (1, .ref a1), (2, .ref a2), (3, .ref a3), (4, .ref a4), (5, .ref a5), (6, .int c6), (7, .int c7), (8, .int c8), (10, .int c10), (11, .int c11), (12, .int v12)]) rfl ?_
            refine a_goto 258 dL_year_297 (by decide) ?_
            refine a_locs (loc' := [(0, .ref a0), (1, .ref a1), (2, .ref a2), (3, .ref a3), (4, .ref a4), (5, .ref a5), (6, .int c6), (7, .int c7), (8, .int c8), (10, .int c10), (11, .int c11), (12, .int v12), (14, .int (v14 + (-1 : Int32))), (15, .int (v15 + (1 : Int32)))]) [2, 3, 4, 5, 6, 7, 8, 9, 10, 11, 12, 13, 1, 0] rfl ?_
            exact ih v12 (v14 + (-1 : Int32)) (v15 + (1 : Int32)) hf h2
        · rw [if_neg hc49] at hf
          refine a_icmp_ne_t 294 dL_year_279 (by decide) hc49 ?_
          refine a_iinc (v15 + (1 : Int32)) dL_year_294 13 rfl rfl (by decide) (loc' := [(15, .int (v15 + (1 : Int32))), (0, .ref a0), (1, .ref a1), (2, .ref a2), (3, .ref a3), (4, .ref a4), (5, .ref a5), (6, .int c6), (7, .int c7), (8, .int c8), (10, .int c10), (11, .int c11), (12, .int v12), (14, .int v14)]) rfl ?_
          refine a_goto 258 dL_year_297 (by decide) ?_
          refine a_locs (loc' := [(0, .ref a0), (1, .ref a1), (2, .ref a2), (3, .ref a3), (4, .ref a4), (5, .ref a5), (6, .int c6), (7, .int c7), (8, .int c8), (10, .int c10), (11, .int c11), (12, .int v12), (14, .int v14), (15, .int (v15 + (1 : Int32)))]) [1, 2, 3, 4, 5, 6, 7, 8, 9, 10, 11, 12, 13, 0] rfl ?_
          exact ih v12 v14 (v15 + (1 : Int32)) hf h2
set_option maxHeartbeats 4000000 in
set_option maxRecDepth 100000 in
theorem kL_year_L57 (e : Nat) {K : Nat → Prop} (a0 n0 : Nat) (a1 n1 : Nat) (a2 n2 : Nat) (a3 n3 : Nat) (a4 n4 : Nat) (a5 n5 : Nat)  (ha0 : IA K a0 n0) (ha1 : IA K a1 n1) (ha2 : IA K a2 n2) (ha3 : IA K a3 n3) (ha4 : IA K a4 n4) (ha5 : LA K a5 n5) {r : Option Value} {τ : St} (q : (Int32 × St)) : ∀ (n : Nat) (v6 : Int32) (v7 : Int32) (v8 : Int32) (σ : St), fL_year_L57 a0 n0 a1 n1 a2 n2 a3 n3 a4 n4 a5 n5 n v6 v7 v8 σ = some q → AL K (e + 2) ML_year 331 [(6, .int q.1)] [] q.2 r τ → AL K (e + 2) ML_year 57 [(0, .ref a0), (1, .ref a1), (2, .ref a2), (3, .ref a3), (4, .ref a4), (5, .ref a5), (6, .int v6), (7, .int v7), (8, .int v8)] [] σ r τ := by
  intro n
  induction n with
  | zero =>
    intro v6 v7 v8 σ  hf
    simp only [fL_year_L57] at hf
    exact absurd hf (by simp)
  | succ n ih =>
    intro v6 v7 v8 σ  hf h2
    rw [fL_year_L57] at hf
    refine a_iload dL_year_57 8 rfl ?_
    refine a_aload_n dL_year_59 rfl 0 rfl ?_
    refine a_bipush (25 : Int32) dL_year_60 rfl ?_
    obtain ⟨hb11, hf⟩ := grd_elim hf
    refine a_iald ha0 hb11 dL_year_62 ?_
    by_cases hc12 : (σ.1 a0 (25 : Int32).toNatClampNeg) ≤ v8
    · rw [if_pos hc12] at hf
      refine a_icmp_ge_t 331 dL_year_63 (by decide) hc12 ?_
      have hq := Option.some.inj hf
      rw [← hq] at h2
      refine a_locs (loc' := [(6, .int v6)]) [6] rfl ?_
      exact h2
    · rw [if_neg hc12] at hf
      refine a_icmp_ge_f 331 dL_year_63 (by decide) hc12 ?_
      refine a_bipush (8 : Int32) dL_year_66 rfl ?_
      refine a_iload dL_year_68 8 rfl ?_
      refine a_imul dL_year_70 ?_
      refine a_istore dL_year_71 (by decide) (loc' := [(9, .int ((8 : Int32) * v8)), (0, .ref a0), (1, .ref a1), (2, .ref a2), (3, .ref a3), (4, .ref a4), (5, .ref a5), (6, .int v6), (7, .int v7), (8, .int v8)]) rfl ?_
      refine a_aload_n dL_year_73 rfl 3 rfl ?_
      refine a_iload dL_year_74 0 rfl ?_
      refine a_iconst (2 : Int32) dL_year_76 rfl ?_
      refine a_iadd dL_year_77 ?_
      obtain ⟨hb13, hf⟩ := grd_elim hf
      refine a_iald ha2 hb13 dL_year_78 ?_
      obtain ⟨x14, hx14, hf⟩ := bnd_elim hf
      refine a_top (w := .int x14) (by rw [hx14]) ?_
      refine a_istore dL_year_79 (by decide) (loc' := [(10, .int x14), (9, .int ((8 : Int32) * v8)), (0, .ref a0), (1, .ref a1), (2, .ref a2), (3, .ref a3), (4, .ref a4), (5, .ref a5), (6, .int v6), (7, .int v7), (8, .int v8)]) rfl ?_
      refine a_aload_n dL_year_81 rfl 4 rfl ?_
      refine a_iload dL_year_82 1 rfl ?_
      refine a_bipush (7 : Int32) dL_year_84 rfl ?_
      refine a_iadd dL_year_86 ?_
      obtain ⟨hb15, hf⟩ := grd_elim hf
      refine a_iald ha2 hb15 dL_year_87 ?_
      by_cases hc16 : 0 < (σ.1 a2 (((8 : Int32) * v8) + (7 : Int32)).toNatClampNeg)
      · rw [if_pos hc16] at hf
        refine a_if_gt_t 325 dL_year_88 (by decide) hc16 ?_
        refine a_iinc (v8 + (1 : Int32)) dL_year_325 10 rfl rfl (by decide) (loc' := [(8, .int (v8 + (1 : Int32))), (10, .int x14), (9, .int ((8 : Int32) * v8)), (0, .ref a0), (1, .ref a1), (2, .ref a2), (3, .ref a3), (4, .ref a4), (5, .ref a5), (6, .int v6), (7, .int v7)]) rfl ?_
        refine a_goto 57 dL_year_328 (by decide) ?_
        refine a_locs (loc' := [(0, .ref a0), (1, .ref a1), (2, .ref a2), (3, .ref a3), (4, .ref a4), (5, .ref a5), (6, .int v6), (7, .int v7), (8, .int (v8 + (1 : Int32)))]) [3, 4, 5, 6, 7, 8, 9, 10, 0] rfl ?_
        exact ih v6 v7 (v8 + (1 : Int32)) σ hf h2
      · rw [if_neg hc16] at hf
        refine a_if_gt_f 325 dL_year_88 (by decide) hc16 ?_
        refine a_aload_n dL_year_91 rfl 4 rfl ?_
        refine a_iload dL_year_92 1 rfl ?_
        refine a_iconst (5 : Int32) dL_year_94 rfl ?_
        refine a_iadd dL_year_95 ?_
        obtain ⟨hb17, hf⟩ := grd_elim hf
        refine a_iald ha2 hb17 dL_year_96 ?_
        refine a_aload_n dL_year_97 rfl 3 rfl ?_
        refine a_iconst (0 : Int32) dL_year_98 rfl ?_
        obtain ⟨hb18, hf⟩ := grd_elim hf
        refine a_iald ha1 hb18 dL_year_99 ?_
        refine a_aload_n dL_year_100 rfl 4 rfl ?_
        refine a_iload dL_year_101 1 rfl ?_
        obtain ⟨hb19, hf⟩ := grd_elim hf
        refine a_iald ha2 hb19 dL_year_103 ?_
        refine a_iconst (3 : Int32) dL_year_104 rfl ?_
        obtain ⟨x21, hx21, hf⟩ := bnd_elim hf
        have hA80 : AL K (e + 2) ML_year 113 [(0, .ref a0), (1, .ref a1), (2, .ref a2), (3, .ref a3), (4, .ref a4), (5, .ref a5), (6, .int v6), (7, .int v7), (8, .int v8), (9, .int ((8 : Int32) * v8)), (10, .int x14)] [.int x21, .int (σ.1 a1 (0 : Int32).toNatClampNeg), .int (σ.1 a2 (((8 : Int32) * v8) + (5 : Int32)).toNatClampNeg)] σ r τ := by
          refine a_iadd dL_year_113 ?_
          by_cases hc22 : (σ.1 a2 (((8 : Int32) * v8) + (5 : Int32)).toNatClampNeg) < ((σ.1 a1 (0 : Int32).toNatClampNeg) + x21)
          · rw [if_pos hc22] at hf
            refine a_icmp_lt_t 325 dL_year_114 (by decide) hc22 ?_
            refine a_iinc (v8 + (1 : Int32)) dL_year_325 8 rfl rfl (by decide) (loc' := [(8, .int (v8 + (1 : Int32))), (0, .ref a0), (1, .ref a1), (2, .ref a2), (3, .ref a3), (4, .ref a4), (5, .ref a5), (6, .int v6), (7, .int v7), (9, .int ((8 : Int32) * v8)), (10, .int x14)]) rfl ?_
            refine a_goto 57 dL_year_328 (by decide) ?_
            refine a_locs (loc' := [(0, .ref a0), (1, .ref a1), (2, .ref a2), (3, .ref a3), (4, .ref a4), (5, .ref a5), (6, .int v6), (7, .int v7), (8, .int (v8 + (1 : Int32)))]) [1, 2, 3, 4, 5, 6, 7, 8, 0] rfl ?_
            exact ih v6 v7 (v8 + (1 : Int32)) σ hf h2
          · rw [if_neg hc22] at hf
            refine a_icmp_lt_f 325 dL_year_114 (by decide) hc22 ?_
            refine a_aload_n dL_year_117 rfl 1 rfl ?_
            refine a_iconst (2 : Int32) dL_year_118 rfl ?_
            obtain ⟨hb23, hf⟩ := grd_elim hf
            refine a_iald ha1 hb23 dL_year_119 ?_
            refine a_iconst (1 : Int32) dL_year_120 rfl ?_
            by_cases hc24 : (σ.1 a1 (2 : Int32).toNatClampNeg) = (1 : Int32)
            · rw [if_pos hc24] at hf
              refine a_icmp_ne_f 138 dL_year_121 (by decide) hc24 ?_
              refine a_iload dL_year_124 7 rfl ?_
              refine a_iload dL_year_126 10 rfl ?_
              refine a_ishr dL_year_128 ?_
              refine a_iconst (1 : Int32) dL_year_129 rfl ?_
              refine a_iand dL_year_130 ?_
              refine a_iconst (1 : Int32) dL_year_131 rfl ?_
              by_cases hc25 : ((v7 >>> (x14 &&& 31)) &&& (1 : Int32)) = (1 : Int32)
              · rw [if_pos hc25] at hf
                refine a_icmp_ne_f 138 dL_year_132 (by decide) hc25 ?_
                refine a_goto 325 dL_year_135 (by decide) ?_
                refine a_iinc (v8 + (1 : Int32)) dL_year_325 8 rfl rfl (by decide) (loc' := [(8, .int (v8 + (1 : Int32))), (0, .ref a0), (1, .ref a1), (2, .ref a2), (3, .ref a3), (4, .ref a4), (5, .ref a5), (6, .int v6), (7, .int v7), (9, .int ((8 : Int32) * v8)), (10, .int x14)]) rfl ?_
                refine a_goto 57 dL_year_328 (by decide) ?_
                refine a_locs (loc' := [(0, .ref a0), (1, .ref a1), (2, .ref a2), (3, .ref a3), (4, .ref a4), (5, .ref a5), (6, .int v6), (7, .int v7), (8, .int (v8 + (1 : Int32)))]) [1, 2, 3, 4, 5, 6, 7, 8, 0] rfl ?_
                exact ih v6 v7 (v8 + (1 : Int32)) σ hf h2
              · rw [if_neg hc25] at hf
                refine a_icmp_ne_t 138 dL_year_132 (by decide) hc25 ?_
                refine a_aload_n dL_year_138 rfl 0 rfl ?_
                refine a_aload_n dL_year_139 rfl 1 rfl ?_
                refine a_iload dL_year_140 10 rfl ?_
                refine a_aload_n dL_year_142 rfl 2 rfl ?_
                refine a_iload dL_year_143 9 rfl ?_
                refine a_iconst (3 : Int32) dL_year_145 rfl ?_
                refine a_iadd dL_year_146 ?_
                obtain ⟨hb26, hf⟩ := grd_elim hf
                refine a_iald ha2 hb26 dL_year_147 ?_
                obtain ⟨q27, hq27, hf⟩ := obind hf
                refine a_callS (as := [.ref a0, .ref a1, .int x14, .int (σ.1 a2 (((8 : Int32) * v8) + (3 : Int32)).toNatClampNeg)]) (stk := []) (q := some (.int q27)) (σ1 := σ) (kL_may (e + 1) a0 n0 a1 n1 x14 (σ.1 a2 (((8 : Int32) * v8) + (3 : Int32)).toNatClampNeg) σ ha0 ha1 _ hq27) sl_L_46 rfl (Nat.le_of_ble_eq_true rfl) dL_year_148 ?_
                refine a_istore dL_year_151 (by decide) (loc' := [(11, .int q27), (0, .ref a0), (1, .ref a1), (2, .ref a2), (3, .ref a3), (4, .ref a4), (5, .ref a5), (6, .int v6), (7, .int v7), (8, .int v8), (9, .int ((8 : Int32) * v8)), (10, .int x14)]) rfl ?_
                refine a_iload dL_year_153 0 rfl ?_
                by_cases hc28 : q27 = 0
                · rw [if_pos hc28] at hf
                  refine a_if_ne_f 161 dL_year_155 (by decide) hc28 ?_
                  refine a_goto 325 dL_year_158 (by decide) ?_
                  refine a_iinc (v8 + (1 : Int32)) dL_year_325 9 rfl rfl (by decide) (loc' := [(8, .int (v8 + (1 : Int32))), (11, .int q27), (0, .ref a0), (1, .ref a1), (2, .ref a2), (3, .ref a3), (4, .ref a4), (5, .ref a5), (6, .int v6), (7, .int v7), (9, .int ((8 : Int32) * v8)), (10, .int x14)]) rfl ?_
                  refine a_goto 57 dL_year_328 (by decide) ?_
                  refine a_locs (loc' := [(0, .ref a0), (1, .ref a1), (2, .ref a2), (3, .ref a3), (4, .ref a4), (5, .ref a5), (6, .int v6), (7, .int v7), (8, .int (v8 + (1 : Int32)))]) [2, 3, 4, 5, 6, 7, 8, 9, 0] rfl ?_
                  exact ih v6 v7 (v8 + (1 : Int32)) σ hf h2
                · rw [if_neg hc28] at hf
                  refine a_if_ne_t 161 dL_year_155 (by decide) hc28 ?_
                  refine a_iconst (-1 : Int32) dL_year_161 rfl ?_
                  refine a_istore dL_year_162 (by decide) (loc' := [(12, .int (-1 : Int32)), (11, .int q27), (0, .ref a0), (1, .ref a1), (2, .ref a2), (3, .ref a3), (4, .ref a4), (5, .ref a5), (6, .int v6), (7, .int v7), (8, .int v8), (9, .int ((8 : Int32) * v8)), (10, .int x14)]) rfl ?_
                  refine a_aload dL_year_164 7 rfl ?_
                  refine a_iconst (0 : Int32) dL_year_166 rfl ?_
                  obtain ⟨hb29, hf⟩ := grd_elim hf
                  refine a_lald ha5 hb29 dL_year_167 ?_
                  refine a_lconst (0 : Int64) dL_year_168 rfl ?_
                  refine a_lcmp dL_year_169 ?_
                  obtain ⟨q31, hr35, hf⟩ := obind hf
                  have hA34 : AL K (e + 2) ML_year 300 [(0, .ref a0), (1, .ref a1), (2, .ref a2), (3, .ref a3), (4, .ref a4), (5, .ref a5), (6, .int v6), (7, .int v7), (8, .int v8), (10, .int x14), (12, .int q31.1)] [] q31.2 r τ := by
                    refine a_aload_n dL_year_300 rfl 0 rfl ?_
                    refine a_aload_n dL_year_301 rfl 1 rfl ?_
                    refine a_aload_n dL_year_302 rfl 2 rfl ?_
                    refine a_aload dL_year_303 4 rfl ?_
                    refine a_iload dL_year_305 8 rfl ?_
                    refine a_iload dL_year_307 10 rfl ?_
                    obtain ⟨q32, hq32, hf⟩ := obind hf
                    refine a_callS (as := [.ref a0, .ref a1, .ref a2, .ref a4, .int v8, .int q31.1]) (stk := []) (q := some (.int q32.1)) (σ1 := q32.2) (kL_give e a0 n0 a1 n1 a2 n2 a4 n4 v8 q31.1 q31.2 ha0 ha1 ha2 ha4 _ hq32) sl_L_62 rfl (Nat.le_of_ble_eq_true rfl) dL_year_309 ?_
                    refine a_pop rfl dL_year_312 ?_
                    refine a_iload dL_year_313 7 rfl ?_
                    refine a_iconst (1 : Int32) dL_year_315 rfl ?_
                    refine a_iload dL_year_316 9 rfl ?_
                    refine a_ishl dL_year_318 ?_
                    refine a_ior dL_year_319 ?_
                    obtain ⟨x33, hx33, hf⟩ := bnd_elim hf
                    refine a_top (w := .int x33) (by rw [hx33]) ?_
                    refine a_istore dL_year_320 (by decide) (loc' := [(7, .int x33), (0, .ref a0), (1, .ref a1), (2, .ref a2), (3, .ref a3), (4, .ref a4), (5, .ref a5), (6, .int v6), (8, .int v8), (10, .int x14), (12, .int q31.1)]) rfl ?_
                    refine a_iinc (v6 + (1 : Int32)) dL_year_322 7 rfl rfl (by decide) (loc' := [(6, .int (v6 + (1 : Int32))), (7, .int x33), (0, .ref a0), (1, .ref a1), (2, .ref a2), (3, .ref a3), (4, .ref a4), (5, .ref a5), (8, .int v8), (10, .int x14), (12, .int q31.1)]) rfl ?_
                    refine a_iinc (v8 + (1 : Int32)) dL_year_325 8 rfl rfl (by decide) (loc' := [(8, .int (v8 + (1 : Int32))), (6, .int (v6 + (1 : Int32))), (7, .int x33), (0, .ref a0), (1, .ref a1), (2, .ref a2), (3, .ref a3), (4, .ref a4), (5, .ref a5), (10, .int x14), (12, .int q31.1)]) rfl ?_
                    refine a_goto 57 dL_year_328 (by decide) ?_
                    refine a_locs (loc' := [(0, .ref a0), (1, .ref a1), (2, .ref a2), (3, .ref a3), (4, .ref a4), (5, .ref a5), (6, .int (v6 + (1 : Int32))), (7, .int x33), (8, .int (v8 + (1 : Int32)))]) [3, 4, 5, 6, 7, 8, 1, 2, 0] rfl ?_
                    exact ih (v6 + (1 : Int32)) x33 (v8 + (1 : Int32)) q32.2 hf h2
                  clear hf
                  have hf := hr35
                  clear hr35
                  by_cases hc30 : 0 ≤ (lg_cmp (σ.2 a5 (0 : Int32).toNatClampNeg) (0 : Int64))
                  · rw [if_pos hc30] at hf
                    refine a_if_ge_t 188 dL_year_170 (by decide) hc30 ?_
                    refine a_aload dL_year_188 7 rfl ?_
                    refine a_iconst (0 : Int32) dL_year_190 rfl ?_
                    refine a_aload dL_year_191 7 rfl ?_
                    refine a_iconst (0 : Int32) dL_year_193 rfl ?_
                    obtain ⟨hb36, hf⟩ := grd_elim hf
                    refine a_lald ha5 hb36 dL_year_194 ?_
                    refine a_ldc2 rfl kc_L_54 dL_year_195 ?_
                    refine a_lmul dL_year_198 ?_
                    refine a_ldc2 rfl kc_L_56 dL_year_199 ?_
                    refine a_ladd dL_year_202 ?_
                    refine a_ldc2 rfl kc_L_58 dL_year_203 ?_
                    refine a_lrem (by decide) dL_year_206 ?_
                    obtain ⟨hb37, hf⟩ := grd_elim hf
                    refine a_last ha5 hb37 dL_year_207 ?_
                    obtain ⟨σ38, hσ38, hf⟩ := bnd_elim hf
                    rw [← hσ38]
                    refine a_iconst (0 : Int32) dL_year_208 rfl ?_
                    refine a_istore dL_year_209 (by decide) (loc' := [(13, .int (0 : Int32)), (12, .int (-1 : Int32)), (11, .int q27), (0, .ref a0), (1, .ref a1), (2, .ref a2), (3, .ref a3), (4, .ref a4), (5, .ref a5), (6, .int v6), (7, .int v7), (8, .int v8), (9, .int ((8 : Int32) * v8)), (10, .int x14)]) rfl ?_
                    refine a_iconst (0 : Int32) dL_year_211 rfl ?_
                    refine a_istore dL_year_212 (by decide) (loc' := [(14, .int (0 : Int32)), (13, .int (0 : Int32)), (12, .int (-1 : Int32)), (11, .int q27), (0, .ref a0), (1, .ref a1), (2, .ref a2), (3, .ref a3), (4, .ref a4), (5, .ref a5), (6, .int v6), (7, .int v7), (8, .int v8), (9, .int ((8 : Int32) * v8)), (10, .int x14)]) rfl ?_
                    obtain ⟨q42, hr54, hf⟩ := obind hf
                    have hA55 : AL K (e + 2) ML_year 240 [(0, .ref a0), (1, .ref a1), (2, .ref a2), (3, .ref a3), (4, .ref a4), (5, .ref a5), (6, .int v6), (7, .int v7), (8, .int v8), (10, .int x14), (11, .int q27), (12, .int (-1 : Int32)), (13, .int q42)] [] σ38 r τ := by
                      refine a_aload dL_year_240 5 rfl ?_
                      refine a_iconst (0 : Int32) dL_year_242 rfl ?_
                      obtain ⟨hb43, hf⟩ := grd_elim hf
                      refine a_lald ha5 hb43 dL_year_243 ?_
                      refine a_ldc2 rfl kc_L_60 dL_year_244 ?_
                      refine a_ldiv (by decide) dL_year_247 ?_
                      refine a_iload dL_year_248 12 rfl ?_
                      refine a_i2l dL_year_250 ?_
                      obtain ⟨hb44, hf⟩ := grd_elim hf
                      refine a_lrem (of_decide_eq_true hb44) dL_year_251 ?_
                      refine a_l2i dL_year_252 ?_
                      obtain ⟨x45, hx45, hf⟩ := bnd_elim hf
                      refine a_top (w := .int x45) (by rw [hx45]) ?_
                      refine a_istore dL_year_253 (by decide) (loc' := [(14, .int x45), (0, .ref a0), (1, .ref a1), (2, .ref a2), (3, .ref a3), (4, .ref a4), (5, .ref a5), (6, .int v6), (7, .int v7), (8, .int v8), (10, .int x14), (11, .int q27), (12, .int (-1 : Int32)), (13, .int q42)]) rfl ?_
                      refine a_iconst (0 : Int32) dL_year_255 rfl ?_
                      refine a_istore dL_year_256 (by decide) (loc' := [(15, .int (0 : Int32)), (14, .int x45), (0, .ref a0), (1, .ref a1), (2, .ref a2), (3, .ref a3), (4, .ref a4), (5, .ref a5), (6, .int v6), (7, .int v7), (8, .int v8), (10, .int x14), (11, .int q27), (12, .int (-1 : Int32)), (13, .int q42)]) rfl ?_
                      obtain ⟨q51, hr52, hf⟩ := obind hf
                      have hA53 : AL K (e + 2) ML_year 300 [(0, .ref a0), (1, .ref a1), (2, .ref a2), (3, .ref a3), (4, .ref a4), (5, .ref a5), (6, .int v6), (7, .int v7), (8, .int v8), (10, .int x14), (12, .int q51)] [] σ38 r τ := by
                        have hq := Option.some.inj hf
                        subst hq
                        exact hA34
                      refine a_locs (loc' := [(0, .ref a0), (1, .ref a1), (2, .ref a2), (3, .ref a3), (4, .ref a4), (5, .ref a5), (6, .int v6), (7, .int v7), (8, .int v8), (10, .int x14), (11, .int q27), (12, .int (-1 : Int32)), (14, .int x45), (15, .int (0 : Int32))]) [2, 3, 4, 5, 6, 7, 8, 9, 10, 11, 12, 13, 1, 0] rfl ?_
                      exact kL_year_L258 e a0 n0 a1 n1 a2 n2 a3 n3 a4 n4 a5 n5 v6 v7 v8 x14 q27 σ38 ha0 ha1 ha2 ha3 ha4 ha5 q51 fu (-1 : Int32) x45 (0 : Int32) hr52 hA53
                    refine a_locs (loc' := [(0, .ref a0), (1, .ref a1), (2, .ref a2), (3, .ref a3), (4, .ref a4), (5, .ref a5), (6, .int v6), (7, .int v7), (8, .int v8), (10, .int x14), (11, .int q27), (12, .int (-1 : Int32)), (13, .int (0 : Int32)), (14, .int (0 : Int32))]) [4, 5, 6, 7, 8, 9, 10, 11, 12, 14, 3, 2, 1, 0] rfl ?_
                    exact kL_year_L214 e a0 n0 a1 n1 a2 n2 a3 n3 a4 n4 a5 n5 v6 v7 v8 x14 q27 (-1 : Int32) σ38 ha0 ha1 ha2 ha3 ha4 ha5 q42 fu (0 : Int32) (0 : Int32) hr54 hA55
                  · rw [if_neg hc30] at hf
                    refine a_if_ge_f 188 dL_year_170 (by decide) hc30 ?_
                    refine a_aload_n dL_year_173 rfl 2 rfl ?_
                    refine a_aload_n dL_year_174 rfl 4 rfl ?_
                    refine a_aload_n dL_year_175 rfl 5 rfl ?_
                    refine a_iload dL_year_176 12 rfl ?_
                    refine a_iload dL_year_178 1 rfl ?_
                    obtain ⟨q56, hq56, hf⟩ := obind hf
                    refine a_callS (as := [.ref a0, .ref a2, .ref a3, .int x14, .int q27]) (stk := []) (q := some (.int q56)) (σ1 := σ) (kL_habit e a0 n0 a2 n2 a3 n3 x14 q27 σ ha0 ha2 ha3 _ hq56) sl_L_50 rfl (Nat.le_of_ble_eq_true rfl) dL_year_180 ?_
                    refine a_istore dL_year_183 (by decide) (loc' := [(12, .int q56), (11, .int q27), (0, .ref a0), (1, .ref a1), (2, .ref a2), (3, .ref a3), (4, .ref a4), (5, .ref a5), (6, .int v6), (7, .int v7), (8, .int v8), (9, .int ((8 : Int32) * v8)), (10, .int x14)]) rfl ?_
                    refine a_goto 300 dL_year_185 (by decide) ?_
                    have hq := Option.some.inj hf
                    subst hq
                    refine a_locs (loc' := [(0, .ref a0), (1, .ref a1), (2, .ref a2), (3, .ref a3), (4, .ref a4), (5, .ref a5), (6, .int v6), (7, .int v7), (8, .int v8), (10, .int x14), (12, .int q56)]) [2, 3, 4, 5, 6, 7, 8, 9, 10, 12, 0] rfl ?_
                    exact hA34
            · rw [if_neg hc24] at hf
              refine a_icmp_ne_t 138 dL_year_121 (by decide) hc24 ?_
              refine a_aload_n dL_year_138 rfl 0 rfl ?_
              refine a_aload_n dL_year_139 rfl 1 rfl ?_
              refine a_iload dL_year_140 10 rfl ?_
              refine a_aload_n dL_year_142 rfl 2 rfl ?_
              refine a_iload dL_year_143 9 rfl ?_
              refine a_iconst (3 : Int32) dL_year_145 rfl ?_
              refine a_iadd dL_year_146 ?_
              obtain ⟨hb57, hf⟩ := grd_elim hf
              refine a_iald ha2 hb57 dL_year_147 ?_
              obtain ⟨q58, hq58, hf⟩ := obind hf
              refine a_callS (as := [.ref a0, .ref a1, .int x14, .int (σ.1 a2 (((8 : Int32) * v8) + (3 : Int32)).toNatClampNeg)]) (stk := []) (q := some (.int q58)) (σ1 := σ) (kL_may (e + 1) a0 n0 a1 n1 x14 (σ.1 a2 (((8 : Int32) * v8) + (3 : Int32)).toNatClampNeg) σ ha0 ha1 _ hq58) sl_L_46 rfl (Nat.le_of_ble_eq_true rfl) dL_year_148 ?_
              refine a_istore dL_year_151 (by decide) (loc' := [(11, .int q58), (0, .ref a0), (1, .ref a1), (2, .ref a2), (3, .ref a3), (4, .ref a4), (5, .ref a5), (6, .int v6), (7, .int v7), (8, .int v8), (9, .int ((8 : Int32) * v8)), (10, .int x14)]) rfl ?_
              refine a_iload dL_year_153 0 rfl ?_
              by_cases hc59 : q58 = 0
              · rw [if_pos hc59] at hf
                refine a_if_ne_f 161 dL_year_155 (by decide) hc59 ?_
                refine a_goto 325 dL_year_158 (by decide) ?_
                refine a_iinc (v8 + (1 : Int32)) dL_year_325 9 rfl rfl (by decide) (loc' := [(8, .int (v8 + (1 : Int32))), (11, .int q58), (0, .ref a0), (1, .ref a1), (2, .ref a2), (3, .ref a3), (4, .ref a4), (5, .ref a5), (6, .int v6), (7, .int v7), (9, .int ((8 : Int32) * v8)), (10, .int x14)]) rfl ?_
                refine a_goto 57 dL_year_328 (by decide) ?_
                refine a_locs (loc' := [(0, .ref a0), (1, .ref a1), (2, .ref a2), (3, .ref a3), (4, .ref a4), (5, .ref a5), (6, .int v6), (7, .int v7), (8, .int (v8 + (1 : Int32)))]) [2, 3, 4, 5, 6, 7, 8, 9, 0] rfl ?_
                exact ih v6 v7 (v8 + (1 : Int32)) σ hf h2
              · rw [if_neg hc59] at hf
                refine a_if_ne_t 161 dL_year_155 (by decide) hc59 ?_
                refine a_iconst (-1 : Int32) dL_year_161 rfl ?_
                refine a_istore dL_year_162 (by decide) (loc' := [(12, .int (-1 : Int32)), (11, .int q58), (0, .ref a0), (1, .ref a1), (2, .ref a2), (3, .ref a3), (4, .ref a4), (5, .ref a5), (6, .int v6), (7, .int v7), (8, .int v8), (9, .int ((8 : Int32) * v8)), (10, .int x14)]) rfl ?_
                refine a_aload dL_year_164 7 rfl ?_
                refine a_iconst (0 : Int32) dL_year_166 rfl ?_
                obtain ⟨hb60, hf⟩ := grd_elim hf
                refine a_lald ha5 hb60 dL_year_167 ?_
                refine a_lconst (0 : Int64) dL_year_168 rfl ?_
                refine a_lcmp dL_year_169 ?_
                obtain ⟨q62, hr66, hf⟩ := obind hf
                have hA65 : AL K (e + 2) ML_year 300 [(0, .ref a0), (1, .ref a1), (2, .ref a2), (3, .ref a3), (4, .ref a4), (5, .ref a5), (6, .int v6), (7, .int v7), (8, .int v8), (10, .int x14), (12, .int q62.1)] [] q62.2 r τ := by
                  refine a_aload_n dL_year_300 rfl 0 rfl ?_
                  refine a_aload_n dL_year_301 rfl 1 rfl ?_
                  refine a_aload_n dL_year_302 rfl 2 rfl ?_
                  refine a_aload dL_year_303 4 rfl ?_
                  refine a_iload dL_year_305 8 rfl ?_
                  refine a_iload dL_year_307 10 rfl ?_
                  obtain ⟨q63, hq63, hf⟩ := obind hf
                  refine a_callS (as := [.ref a0, .ref a1, .ref a2, .ref a4, .int v8, .int q62.1]) (stk := []) (q := some (.int q63.1)) (σ1 := q63.2) (kL_give e a0 n0 a1 n1 a2 n2 a4 n4 v8 q62.1 q62.2 ha0 ha1 ha2 ha4 _ hq63) sl_L_62 rfl (Nat.le_of_ble_eq_true rfl) dL_year_309 ?_
                  refine a_pop rfl dL_year_312 ?_
                  refine a_iload dL_year_313 7 rfl ?_
                  refine a_iconst (1 : Int32) dL_year_315 rfl ?_
                  refine a_iload dL_year_316 9 rfl ?_
                  refine a_ishl dL_year_318 ?_
                  refine a_ior dL_year_319 ?_
                  obtain ⟨x64, hx64, hf⟩ := bnd_elim hf
                  refine a_top (w := .int x64) (by rw [hx64]) ?_
                  refine a_istore dL_year_320 (by decide) (loc' := [(7, .int x64), (0, .ref a0), (1, .ref a1), (2, .ref a2), (3, .ref a3), (4, .ref a4), (5, .ref a5), (6, .int v6), (8, .int v8), (10, .int x14), (12, .int q62.1)]) rfl ?_
                  refine a_iinc (v6 + (1 : Int32)) dL_year_322 7 rfl rfl (by decide) (loc' := [(6, .int (v6 + (1 : Int32))), (7, .int x64), (0, .ref a0), (1, .ref a1), (2, .ref a2), (3, .ref a3), (4, .ref a4), (5, .ref a5), (8, .int v8), (10, .int x14), (12, .int q62.1)]) rfl ?_
                  refine a_iinc (v8 + (1 : Int32)) dL_year_325 8 rfl rfl (by decide) (loc' := [(8, .int (v8 + (1 : Int32))), (6, .int (v6 + (1 : Int32))), (7, .int x64), (0, .ref a0), (1, .ref a1), (2, .ref a2), (3, .ref a3), (4, .ref a4), (5, .ref a5), (10, .int x14), (12, .int q62.1)]) rfl ?_
                  refine a_goto 57 dL_year_328 (by decide) ?_
                  refine a_locs (loc' := [(0, .ref a0), (1, .ref a1), (2, .ref a2), (3, .ref a3), (4, .ref a4), (5, .ref a5), (6, .int (v6 + (1 : Int32))), (7, .int x64), (8, .int (v8 + (1 : Int32)))]) [3, 4, 5, 6, 7, 8, 1, 2, 0] rfl ?_
                  exact ih (v6 + (1 : Int32)) x64 (v8 + (1 : Int32)) q63.2 hf h2
                clear hf
                have hf := hr66
                clear hr66
                by_cases hc61 : 0 ≤ (lg_cmp (σ.2 a5 (0 : Int32).toNatClampNeg) (0 : Int64))
                · rw [if_pos hc61] at hf
                  refine a_if_ge_t 188 dL_year_170 (by decide) hc61 ?_
                  refine a_aload dL_year_188 7 rfl ?_
                  refine a_iconst (0 : Int32) dL_year_190 rfl ?_
                  refine a_aload dL_year_191 7 rfl ?_
                  refine a_iconst (0 : Int32) dL_year_193 rfl ?_
                  obtain ⟨hb67, hf⟩ := grd_elim hf
                  refine a_lald ha5 hb67 dL_year_194 ?_
                  refine a_ldc2 rfl kc_L_54 dL_year_195 ?_
                  refine a_lmul dL_year_198 ?_
                  refine a_ldc2 rfl kc_L_56 dL_year_199 ?_
                  refine a_ladd dL_year_202 ?_
                  refine a_ldc2 rfl kc_L_58 dL_year_203 ?_
                  refine a_lrem (by decide) dL_year_206 ?_
                  obtain ⟨hb68, hf⟩ := grd_elim hf
                  refine a_last ha5 hb68 dL_year_207 ?_
                  obtain ⟨σ69, hσ69, hf⟩ := bnd_elim hf
                  rw [← hσ69]
                  refine a_iconst (0 : Int32) dL_year_208 rfl ?_
                  refine a_istore dL_year_209 (by decide) (loc' := [(13, .int (0 : Int32)), (12, .int (-1 : Int32)), (11, .int q58), (0, .ref a0), (1, .ref a1), (2, .ref a2), (3, .ref a3), (4, .ref a4), (5, .ref a5), (6, .int v6), (7, .int v7), (8, .int v8), (9, .int ((8 : Int32) * v8)), (10, .int x14)]) rfl ?_
                  refine a_iconst (0 : Int32) dL_year_211 rfl ?_
                  refine a_istore dL_year_212 (by decide) (loc' := [(14, .int (0 : Int32)), (13, .int (0 : Int32)), (12, .int (-1 : Int32)), (11, .int q58), (0, .ref a0), (1, .ref a1), (2, .ref a2), (3, .ref a3), (4, .ref a4), (5, .ref a5), (6, .int v6), (7, .int v7), (8, .int v8), (9, .int ((8 : Int32) * v8)), (10, .int x14)]) rfl ?_
                  obtain ⟨q70, hr77, hf⟩ := obind hf
                  have hA78 : AL K (e + 2) ML_year 240 [(0, .ref a0), (1, .ref a1), (2, .ref a2), (3, .ref a3), (4, .ref a4), (5, .ref a5), (6, .int v6), (7, .int v7), (8, .int v8), (10, .int x14), (11, .int q58), (12, .int (-1 : Int32)), (13, .int q70)] [] σ69 r τ := by
                    refine a_aload dL_year_240 5 rfl ?_
                    refine a_iconst (0 : Int32) dL_year_242 rfl ?_
                    obtain ⟨hb71, hf⟩ := grd_elim hf
                    refine a_lald ha5 hb71 dL_year_243 ?_
                    refine a_ldc2 rfl kc_L_60 dL_year_244 ?_
                    refine a_ldiv (by decide) dL_year_247 ?_
                    refine a_iload dL_year_248 12 rfl ?_
                    refine a_i2l dL_year_250 ?_
                    obtain ⟨hb72, hf⟩ := grd_elim hf
                    refine a_lrem (of_decide_eq_true hb72) dL_year_251 ?_
                    refine a_l2i dL_year_252 ?_
                    obtain ⟨x73, hx73, hf⟩ := bnd_elim hf
                    refine a_top (w := .int x73) (by rw [hx73]) ?_
                    refine a_istore dL_year_253 (by decide) (loc' := [(14, .int x73), (0, .ref a0), (1, .ref a1), (2, .ref a2), (3, .ref a3), (4, .ref a4), (5, .ref a5), (6, .int v6), (7, .int v7), (8, .int v8), (10, .int x14), (11, .int q58), (12, .int (-1 : Int32)), (13, .int q70)]) rfl ?_
                    refine a_iconst (0 : Int32) dL_year_255 rfl ?_
                    refine a_istore dL_year_256 (by decide) (loc' := [(15, .int (0 : Int32)), (14, .int x73), (0, .ref a0), (1, .ref a1), (2, .ref a2), (3, .ref a3), (4, .ref a4), (5, .ref a5), (6, .int v6), (7, .int v7), (8, .int v8), (10, .int x14), (11, .int q58), (12, .int (-1 : Int32)), (13, .int q70)]) rfl ?_
                    obtain ⟨q74, hr75, hf⟩ := obind hf
                    have hA76 : AL K (e + 2) ML_year 300 [(0, .ref a0), (1, .ref a1), (2, .ref a2), (3, .ref a3), (4, .ref a4), (5, .ref a5), (6, .int v6), (7, .int v7), (8, .int v8), (10, .int x14), (12, .int q74)] [] σ69 r τ := by
                      have hq := Option.some.inj hf
                      subst hq
                      exact hA65
                    refine a_locs (loc' := [(0, .ref a0), (1, .ref a1), (2, .ref a2), (3, .ref a3), (4, .ref a4), (5, .ref a5), (6, .int v6), (7, .int v7), (8, .int v8), (10, .int x14), (11, .int q58), (12, .int (-1 : Int32)), (14, .int x73), (15, .int (0 : Int32))]) [2, 3, 4, 5, 6, 7, 8, 9, 10, 11, 12, 13, 1, 0] rfl ?_
                    exact kL_year_L258 e a0 n0 a1 n1 a2 n2 a3 n3 a4 n4 a5 n5 v6 v7 v8 x14 q58 σ69 ha0 ha1 ha2 ha3 ha4 ha5 q74 fu (-1 : Int32) x73 (0 : Int32) hr75 hA76
                  refine a_locs (loc' := [(0, .ref a0), (1, .ref a1), (2, .ref a2), (3, .ref a3), (4, .ref a4), (5, .ref a5), (6, .int v6), (7, .int v7), (8, .int v8), (10, .int x14), (11, .int q58), (12, .int (-1 : Int32)), (13, .int (0 : Int32)), (14, .int (0 : Int32))]) [4, 5, 6, 7, 8, 9, 10, 11, 12, 14, 3, 2, 1, 0] rfl ?_
                  exact kL_year_L214 e a0 n0 a1 n1 a2 n2 a3 n3 a4 n4 a5 n5 v6 v7 v8 x14 q58 (-1 : Int32) σ69 ha0 ha1 ha2 ha3 ha4 ha5 q70 fu (0 : Int32) (0 : Int32) hr77 hA78
                · rw [if_neg hc61] at hf
                  refine a_if_ge_f 188 dL_year_170 (by decide) hc61 ?_
                  refine a_aload_n dL_year_173 rfl 2 rfl ?_
                  refine a_aload_n dL_year_174 rfl 4 rfl ?_
                  refine a_aload_n dL_year_175 rfl 5 rfl ?_
                  refine a_iload dL_year_176 12 rfl ?_
                  refine a_iload dL_year_178 1 rfl ?_
                  obtain ⟨q79, hq79, hf⟩ := obind hf
                  refine a_callS (as := [.ref a0, .ref a2, .ref a3, .int x14, .int q58]) (stk := []) (q := some (.int q79)) (σ1 := σ) (kL_habit e a0 n0 a2 n2 a3 n3 x14 q58 σ ha0 ha2 ha3 _ hq79) sl_L_50 rfl (Nat.le_of_ble_eq_true rfl) dL_year_180 ?_
                  refine a_istore dL_year_183 (by decide) (loc' := [(12, .int q79), (11, .int q58), (0, .ref a0), (1, .ref a1), (2, .ref a2), (3, .ref a3), (4, .ref a4), (5, .ref a5), (6, .int v6), (7, .int v7), (8, .int v8), (9, .int ((8 : Int32) * v8)), (10, .int x14)]) rfl ?_
                  refine a_goto 300 dL_year_185 (by decide) ?_
                  have hq := Option.some.inj hf
                  subst hq
                  refine a_locs (loc' := [(0, .ref a0), (1, .ref a1), (2, .ref a2), (3, .ref a3), (4, .ref a4), (5, .ref a5), (6, .int v6), (7, .int v7), (8, .int v8), (10, .int x14), (12, .int q79)]) [2, 3, 4, 5, 6, 7, 8, 9, 10, 12, 0] rfl ?_
                  exact hA65
        clear hf
        by_cases hc20 : (σ.1 a2 ((8 : Int32) * v8).toNatClampNeg) = (3 : Int32)
        · rw [if_pos hc20] at hx21
          refine a_icmp_ne_f 112 dL_year_105 (by decide) hc20 ?_
          refine a_iconst (1 : Int32) dL_year_108 rfl ?_
          refine a_goto 113 dL_year_109 (by decide) ?_
          replace hx21 := hx21.symm; subst hx21
          refine a_locs (loc' := [(0, .ref a0), (1, .ref a1), (2, .ref a2), (3, .ref a3), (4, .ref a4), (5, .ref a5), (6, .int v6), (7, .int v7), (8, .int v8), (9, .int ((8 : Int32) * v8)), (10, .int x14)]) [2, 3, 4, 5, 6, 7, 8, 9, 10, 1, 0] rfl ?_
          exact hA80
        · rw [if_neg hc20] at hx21
          refine a_icmp_ne_t 112 dL_year_105 (by decide) hc20 ?_
          refine a_iconst (0 : Int32) dL_year_112 rfl ?_
          replace hx21 := hx21.symm; subst hx21
          refine a_locs (loc' := [(0, .ref a0), (1, .ref a1), (2, .ref a2), (3, .ref a3), (4, .ref a4), (5, .ref a5), (6, .int v6), (7, .int v7), (8, .int v8), (9, .int ((8 : Int32) * v8)), (10, .int x14)]) [2, 3, 4, 5, 6, 7, 8, 9, 10, 1, 0] rfl ?_
          exact hA80
set_option maxHeartbeats 4000000 in
set_option maxRecDepth 100000 in
theorem kL_year (e : Nat) {K : Nat → Prop} (a0 n0 : Nat) (a1 n1 : Nat) (a2 n2 : Nat) (a3 n3 : Nat) (a4 n4 : Nat) (a5 n5 : Nat) (σ : St) (ha0 : IA K a0 n0) (ha1 : IA K a1 n1) (ha2 : IA K a2 n2) (ha3 : IA K a3 n3) (ha4 : IA K a4 n4) (ha5 : LA K a5 n5) (q : Int32 × St) (hf : fL_year a0 n0 a1 n1 a2 n2 a3 n3 a4 n4 a5 n5 σ = some q) : SpK K (e + 2) ML_year [.ref a0, .ref a1, .ref a2, .ref a3, .ref a4, .ref a5] σ (some (.int q.1)) q.2 := by
  refine sp_of rfl (Nat.le_of_ble_eq_true rfl) (loc := [(0, .ref a0), (1, .ref a1), (2, .ref a2), (3, .ref a3), (4, .ref a4), (5, .ref a5)]) rfl ?_
  unfold fL_year at hf
  refine a_iconst (0 : Int32) dL_year_0 rfl ?_
  refine a_istore dL_year_1 (by decide) (loc' := [(6, .int (0 : Int32)), (0, .ref a0), (1, .ref a1), (2, .ref a2), (3, .ref a3), (4, .ref a4), (5, .ref a5)]) rfl ?_
  refine a_iconst (0 : Int32) dL_year_3 rfl ?_
  refine a_istore dL_year_4 (by decide) (loc' := [(7, .int (0 : Int32)), (6, .int (0 : Int32)), (0, .ref a0), (1, .ref a1), (2, .ref a2), (3, .ref a3), (4, .ref a4), (5, .ref a5)]) rfl ?_
  refine a_iconst (0 : Int32) dL_year_6 rfl ?_
  refine a_istore dL_year_7 (by decide) (loc' := [(8, .int (0 : Int32)), (7, .int (0 : Int32)), (6, .int (0 : Int32)), (0, .ref a0), (1, .ref a1), (2, .ref a2), (3, .ref a3), (4, .ref a4), (5, .ref a5)]) rfl ?_
  obtain ⟨q10, hr84, hf⟩ := obind hf
  have hA85 : AL K (e + 2) ML_year 54 [(0, .ref a0), (1, .ref a1), (2, .ref a2), (3, .ref a3), (4, .ref a4), (5, .ref a5), (6, .int (0 : Int32)), (7, .int (0 : Int32))] [] q10 (some (.int q.1)) q.2 := by
    refine a_iconst (0 : Int32) dL_year_54 rfl ?_
    refine a_istore dL_year_55 (by decide) (loc' := [(8, .int (0 : Int32)), (0, .ref a0), (1, .ref a1), (2, .ref a2), (3, .ref a3), (4, .ref a4), (5, .ref a5), (6, .int (0 : Int32)), (7, .int (0 : Int32))]) rfl ?_
    obtain ⟨q81, hr82, hf⟩ := obind hf
    have hA83 : AL K (e + 2) ML_year 331 [(6, .int q81.1)] [] q81.2 (some (.int q.1)) q.2 := by
      refine a_iload dL_year_331 0 rfl ?_
      have hq := Option.some.inj hf
      subst hq
      exact a_iret rfl dL_year_333
    refine a_locs (loc' := [(0, .ref a0), (1, .ref a1), (2, .ref a2), (3, .ref a3), (4, .ref a4), (5, .ref a5), (6, .int (0 : Int32)), (7, .int (0 : Int32)), (8, .int (0 : Int32))]) [1, 2, 3, 4, 5, 6, 7, 8, 0] rfl ?_
    exact kL_year_L57 e a0 n0 a1 n1 a2 n2 a3 n3 a4 n4 a5 n5 ha0 ha1 ha2 ha3 ha4 ha5 q81 fu (0 : Int32) (0 : Int32) (0 : Int32) q10 hr82 hA83
  refine a_locs (loc' := [(0, .ref a0), (1, .ref a1), (2, .ref a2), (3, .ref a3), (4, .ref a4), (5, .ref a5), (6, .int (0 : Int32)), (7, .int (0 : Int32)), (8, .int (0 : Int32))]) [3, 4, 5, 6, 7, 8, 2, 1, 0] rfl ?_
  exact kL_year_L9 e a0 n0 a1 n1 a2 n2 a3 n3 a4 n4 a5 n5 (0 : Int32) (0 : Int32) ha0 ha1 ha2 ha3 ha4 ha5 q10 fu (0 : Int32) σ hr84 hA85
set_option maxHeartbeats 4000000 in
set_option maxRecDepth 100000 in
theorem kL_stands_L23 (e : Nat) {K : Nat → Prop} (a1 n1 : Nat) (a2 n2 : Nat) (a3 n3 : Nat) (c4 : Int32) (c5 : Int32) (c6 : Int32) (σ : St) (hk : ∀ n, K n → 58 ≤ n) (ha1 : IA K a1 n1) (ha2 : IA K a2 n2) (ha3 : IA K a3 n3) {r : Option Value} {τ : St} (q : Sum (Int32) (Int32)) : ∀ (n : Nat) (v7 : Int32) (v8 : Int32), fL_stands_L23 a1 n1 a2 n2 a3 n3 c4 c5 c6 σ n v7 v8 = some q → (∀ z, q = .inl z → r = some (.int z) ∧ τ = σ) → (∀ q1, q = .inr q1 → AL K (e + 3) ML_stands 96 [(0, .ref 0), (1, .ref a1), (2, .ref a2), (3, .ref a3), (4, .int c4), (5, .int c5), (6, .int c6), (7, .int q1)] [] σ r τ) → AL K (e + 3) ML_stands 23 [(0, .ref 0), (1, .ref a1), (2, .ref a2), (3, .ref a3), (4, .int c4), (5, .int c5), (6, .int c6), (7, .int v7), (8, .int v8)] [] σ r τ := by
  intro n
  induction n with
  | zero =>
    intro v7 v8  hf
    simp only [fL_stands_L23] at hf
    exact absurd hf (by simp)
  | succ n ih =>
    intro v7 v8  hf h1 h2
    rw [fL_stands_L23] at hf
    refine a_iload dL_stands_23 8 rfl ?_
    refine a_aload_n dL_stands_25 rfl 1 rfl ?_
    refine a_iconst (0 : Int32) dL_stands_26 rfl ?_
    obtain ⟨hb3, hf⟩ := grd_elim hf
    refine a_iald ha1 hb3 dL_stands_27 ?_
    by_cases hc4 : (σ.1 a1 (0 : Int32).toNatClampNeg) ≤ v8
    · rw [if_pos hc4] at hf
      refine a_icmp_ge_t 96 dL_stands_28 (by decide) hc4 ?_
      have hq := Option.some.inj hf
      refine a_locs (loc' := [(0, .ref 0), (1, .ref a1), (2, .ref a2), (3, .ref a3), (4, .int c4), (5, .int c5), (6, .int c6), (7, .int v7)]) [0, 1, 2, 3, 4, 5, 6, 7] rfl ?_
      exact h2 _ hq.symm
    · rw [if_neg hc4] at hf
      refine a_icmp_ge_f 96 dL_stands_28 (by decide) hc4 ?_
      refine a_iload dL_stands_31 6 rfl ?_
      refine a_iload dL_stands_33 8 rfl ?_
      by_cases hc5 : c6 = v8
      · rw [if_pos hc5] at hf
        refine a_icmp_ne_f 41 dL_stands_35 (by decide) hc5 ?_
        refine a_goto 90 dL_stands_38 (by decide) ?_
        refine a_iinc (v8 + (1 : Int32)) dL_stands_90 8 rfl rfl (by decide) (loc' := [(8, .int (v8 + (1 : Int32))), (0, .ref 0), (1, .ref a1), (2, .ref a2), (3, .ref a3), (4, .int c4), (5, .int c5), (6, .int c6), (7, .int v7)]) rfl ?_
        refine a_goto 23 dL_stands_93 (by decide) ?_
        refine a_locs (loc' := [(0, .ref 0), (1, .ref a1), (2, .ref a2), (3, .ref a3), (4, .int c4), (5, .int c5), (6, .int c6), (7, .int v7), (8, .int (v8 + (1 : Int32)))]) [1, 2, 3, 4, 5, 6, 7, 8, 0] rfl ?_
        exact ih v7 (v8 + (1 : Int32)) hf h1 h2
      · rw [if_neg hc5] at hf
        refine a_icmp_ne_t 41 dL_stands_35 (by decide) hc5 ?_
        refine a_aload_n dL_stands_41 rfl 0 rfl ?_
        refine a_iload dL_stands_42 6 rfl ?_
        refine a_iload dL_stands_44 8 rfl ?_
        obtain ⟨q6, hq6, hf⟩ := obind hf
        refine a_callV (as := [.int c6, .int v8]) (stk := []) (q := some (.int q6)) (σ1 := σ) (SpK.mono (kX8_owes e c6 v8 σ _ hq6) hk) (ob_0.mono hk) vl_L_66 rfl (Nat.le_of_ble_eq_true rfl) dL_stands_46 ?_
        refine a_aload_n dL_stands_49 rfl 3 rfl ?_
        refine a_bipush (8 : Int32) dL_stands_50 rfl ?_
        refine a_iload dL_stands_52 6 rfl ?_
        refine a_imul dL_stands_54 ?_
        refine a_iload dL_stands_55 8 rfl ?_
        refine a_iadd dL_stands_57 ?_
        obtain ⟨hb7, hf⟩ := grd_elim hf
        refine a_iald ha3 hb7 dL_stands_58 ?_
        by_cases hc8 : q6 = (σ.1 a3 (((8 : Int32) * c6) + v8).toNatClampNeg)
        · rw [if_pos hc8] at hf
          refine a_icmp_eq_t 64 dL_stands_59 (by decide) hc8 ?_
          refine a_iload dL_stands_64 7 rfl ?_
          refine a_aload_n dL_stands_66 rfl 3 rfl ?_
          refine a_bipush (8 : Int32) dL_stands_67 rfl ?_
          refine a_iload dL_stands_69 8 rfl ?_
          refine a_imul dL_stands_71 ?_
          refine a_iload dL_stands_72 6 rfl ?_
          refine a_iadd dL_stands_74 ?_
          obtain ⟨hb9, hf⟩ := grd_elim hf
          refine a_iald ha3 hb9 dL_stands_75 ?_
          refine a_aload_n dL_stands_76 rfl 3 rfl ?_
          refine a_bipush (8 : Int32) dL_stands_77 rfl ?_
          refine a_iload dL_stands_79 6 rfl ?_
          refine a_imul dL_stands_81 ?_
          refine a_iload dL_stands_82 8 rfl ?_
          refine a_iadd dL_stands_84 ?_
          obtain ⟨hb10, hf⟩ := grd_elim hf
          refine a_iald ha3 hb10 dL_stands_85 ?_
          refine a_isub dL_stands_86 ?_
          refine a_iadd dL_stands_87 ?_
          obtain ⟨x11, hx11, hf⟩ := bnd_elim hf
          refine a_top (w := .int x11) (by rw [hx11]) ?_
          refine a_istore dL_stands_88 (by decide) (loc' := [(7, .int x11), (0, .ref 0), (1, .ref a1), (2, .ref a2), (3, .ref a3), (4, .int c4), (5, .int c5), (6, .int c6), (8, .int v8)]) rfl ?_
          refine a_iinc (v8 + (1 : Int32)) dL_stands_90 8 rfl rfl (by decide) (loc' := [(8, .int (v8 + (1 : Int32))), (7, .int x11), (0, .ref 0), (1, .ref a1), (2, .ref a2), (3, .ref a3), (4, .int c4), (5, .int c5), (6, .int c6)]) rfl ?_
          refine a_goto 23 dL_stands_93 (by decide) ?_
          refine a_locs (loc' := [(0, .ref 0), (1, .ref a1), (2, .ref a2), (3, .ref a3), (4, .int c4), (5, .int c5), (6, .int c6), (7, .int x11), (8, .int (v8 + (1 : Int32)))]) [2, 3, 4, 5, 6, 7, 8, 1, 0] rfl ?_
          exact ih x11 (v8 + (1 : Int32)) hf h1 h2
        · rw [if_neg hc8] at hf
          refine a_icmp_eq_f 64 dL_stands_59 (by decide) hc8 ?_
          refine a_iconst (0 : Int32) dL_stands_62 rfl ?_
          have hq := Option.some.inj hf
          obtain ⟨hr0, ht0⟩ := h1 _ hq.symm
          rw [hr0, ht0]
          exact a_zret rfl (Or.inl rfl) dL_stands_63
set_option maxHeartbeats 4000000 in
set_option maxRecDepth 100000 in
theorem kL_stands_L9 (e : Nat) {K : Nat → Prop} (a1 n1 : Nat) (a2 n2 : Nat) (a3 n3 : Nat) (c5 : Int32) (σ : St) (hk : ∀ n, K n → 58 ≤ n) (ha1 : IA K a1 n1) (ha2 : IA K a2 n2) (ha3 : IA K a3 n3) {r : Option Value} {τ : St} (q : Sum (Int32) (Int32)) : ∀ (n : Nat) (v4 : Int32) (v6 : Int32), fL_stands_L9 a1 n1 a2 n2 a3 n3 c5 σ n v4 v6 = some q → (∀ z, q = .inl z → r = some (.int z) ∧ τ = σ) → (∀ q1, q = .inr q1 → AL K (e + 3) ML_stands 194 [(0, .ref 0), (1, .ref a1), (2, .ref a2), (4, .int q1), (5, .int c5)] [] σ r τ) → AL K (e + 3) ML_stands 9 [(0, .ref 0), (1, .ref a1), (2, .ref a2), (3, .ref a3), (4, .int v4), (5, .int c5), (6, .int v6)] [] σ r τ := by
  intro n
  induction n with
  | zero =>
    intro v4 v6  hf
    simp only [fL_stands_L9] at hf
    exact absurd hf (by simp)
  | succ n ih =>
    intro v4 v6  hf h1 h2
    rw [fL_stands_L9] at hf
    refine a_iload dL_stands_9 6 rfl ?_
    refine a_aload_n dL_stands_11 rfl 1 rfl ?_
    refine a_iconst (0 : Int32) dL_stands_12 rfl ?_
    obtain ⟨hb1, hf⟩ := grd_elim hf
    refine a_iald ha1 hb1 dL_stands_13 ?_
    by_cases hc2 : (σ.1 a1 (0 : Int32).toNatClampNeg) ≤ v6
    · rw [if_pos hc2] at hf
      refine a_icmp_ge_t 194 dL_stands_14 (by decide) hc2 ?_
      have hq := Option.some.inj hf
      refine a_locs (loc' := [(0, .ref 0), (1, .ref a1), (2, .ref a2), (4, .int v4), (5, .int c5)]) [0, 1, 2, 4, 5] rfl ?_
      exact h2 _ hq.symm
    · rw [if_neg hc2] at hf
      refine a_icmp_ge_f 194 dL_stands_14 (by decide) hc2 ?_
      refine a_iconst (0 : Int32) dL_stands_17 rfl ?_
      refine a_istore dL_stands_18 (by decide) (loc' := [(7, .int (0 : Int32)), (0, .ref 0), (1, .ref a1), (2, .ref a2), (3, .ref a3), (4, .int v4), (5, .int c5), (6, .int v6)]) rfl ?_
      refine a_iconst (0 : Int32) dL_stands_20 rfl ?_
      refine a_istore dL_stands_21 (by decide) (loc' := [(8, .int (0 : Int32)), (7, .int (0 : Int32)), (0, .ref 0), (1, .ref a1), (2, .ref a2), (3, .ref a3), (4, .int v4), (5, .int c5), (6, .int v6)]) rfl ?_
      obtain ⟨s13, hr14, hf⟩ := obind hf
      refine a_locs (loc' := [(0, .ref 0), (1, .ref a1), (2, .ref a2), (3, .ref a3), (4, .int v4), (5, .int c5), (6, .int v6), (7, .int (0 : Int32)), (8, .int (0 : Int32))]) [2, 3, 4, 5, 6, 7, 8, 1, 0] rfl ?_
      refine kL_stands_L23 e a1 n1 a2 n2 a3 n3 v4 c5 v6 σ hk ha1 ha2 ha3 s13 fu (0 : Int32) (0 : Int32) hr14 ?_ ?_
      · intro z15 hz
        subst hz
        simp only [Sum.elim_inl] at hf
        have hq := Option.some.inj hf
        exact h1 _ hq.symm
      · intro q12 hz
        subst hz
        simp only [Sum.elim_inr] at hf
        refine a_aload_n dL_stands_96 rfl 0 rfl ?_
        refine a_iload dL_stands_97 6 rfl ?_
        obtain ⟨q16, hq16, hf⟩ := obind hf
        refine a_callV (as := [.int v6]) (stk := []) (q := some (.int q16)) (σ1 := σ) (SpK.mono (kX8_rest e v6 σ _ hq16) hk) (ob_0.mono hk) vl_L_69 rfl (Nat.le_of_ble_eq_true rfl) dL_stands_99 ?_
        refine a_iload dL_stands_102 7 rfl ?_
        by_cases hc17 : q16 = q12
        · rw [if_pos hc17] at hf
          refine a_icmp_ne_f 174 dL_stands_104 (by decide) hc17 ?_
          refine a_aload_n dL_stands_107 rfl 0 rfl ?_
          refine a_iload dL_stands_108 6 rfl ?_
          refine a_iconst (0 : Int32) dL_stands_110 rfl ?_
          obtain ⟨q18, hq18, hf⟩ := obind hf
          refine a_callV (as := [.int v6, .int (0 : Int32)]) (stk := []) (q := some (.int q18)) (σ1 := σ) (SpK.mono (kX8_about e v6 (0 : Int32) σ _ hq18) hk) (ob_0.mono hk) vl_L_72 rfl (Nat.le_of_ble_eq_true rfl) dL_stands_111 ?_
          refine a_aload_n dL_stands_114 rfl 1 rfl ?_
          refine a_iconst (1 : Int32) dL_stands_115 rfl ?_
          refine a_iload dL_stands_116 6 rfl ?_
          refine a_iadd dL_stands_118 ?_
          obtain ⟨hb19, hf⟩ := grd_elim hf
          refine a_iald ha1 hb19 dL_stands_119 ?_
          by_cases hc20 : q18 = (σ.1 a1 ((1 : Int32) + v6).toNatClampNeg)
          · rw [if_pos hc20] at hf
            refine a_icmp_ne_f 174 dL_stands_120 (by decide) hc20 ?_
            refine a_aload_n dL_stands_123 rfl 0 rfl ?_
            refine a_iload dL_stands_124 6 rfl ?_
            refine a_iconst (1 : Int32) dL_stands_126 rfl ?_
            obtain ⟨q21, hq21, hf⟩ := obind hf
            refine a_callV (as := [.int v6, .int (1 : Int32)]) (stk := []) (q := some (.int q21)) (σ1 := σ) (SpK.mono (kX8_about e v6 (1 : Int32) σ _ hq21) hk) (ob_0.mono hk) vl_L_72 rfl (Nat.le_of_ble_eq_true rfl) dL_stands_127 ?_
            refine a_aload_n dL_stands_130 rfl 1 rfl ?_
            refine a_aload_n dL_stands_131 rfl 2 rfl ?_
            refine a_iload dL_stands_132 6 rfl ?_
            obtain ⟨q22, hq22, hf⟩ := obind hf
            refine a_callS (as := [.ref a1, .ref a2, .int v6]) (stk := [.int q21]) (q := some (.int q22)) (σ1 := σ) (kL_holds (e + 2) a1 n1 a2 n2 v6 σ ha1 ha2 _ hq22) sl_L_42 rfl (Nat.le_of_ble_eq_true rfl) dL_stands_134 ?_
            by_cases hc23 : q21 = q22
            · rw [if_pos hc23] at hf
              refine a_icmp_ne_f 174 dL_stands_137 (by decide) hc23 ?_
              refine a_aload_n dL_stands_140 rfl 0 rfl ?_
              refine a_iload dL_stands_141 6 rfl ?_
              refine a_iconst (2 : Int32) dL_stands_143 rfl ?_
              obtain ⟨q24, hq24, hf⟩ := obind hf
              refine a_callV (as := [.int v6, .int (2 : Int32)]) (stk := []) (q := some (.int q24)) (σ1 := σ) (SpK.mono (kX8_about e v6 (2 : Int32) σ _ hq24) hk) (ob_0.mono hk) vl_L_72 rfl (Nat.le_of_ble_eq_true rfl) dL_stands_144 ?_
              refine a_aload_n dL_stands_147 rfl 1 rfl ?_
              refine a_bipush (9 : Int32) dL_stands_148 rfl ?_
              refine a_iload dL_stands_150 6 rfl ?_
              refine a_iadd dL_stands_152 ?_
              obtain ⟨hb25, hf⟩ := grd_elim hf
              refine a_iald ha1 hb25 dL_stands_153 ?_
              by_cases hc26 : q24 = (σ.1 a1 ((9 : Int32) + v6).toNatClampNeg)
              · rw [if_pos hc26] at hf
                refine a_icmp_ne_f 174 dL_stands_154 (by decide) hc26 ?_
                refine a_aload_n dL_stands_157 rfl 0 rfl ?_
                refine a_iload dL_stands_158 6 rfl ?_
                refine a_iconst (3 : Int32) dL_stands_160 rfl ?_
                obtain ⟨q27, hq27, hf⟩ := obind hf
                refine a_callV (as := [.int v6, .int (3 : Int32)]) (stk := []) (q := some (.int q27)) (σ1 := σ) (SpK.mono (kX8_about e v6 (3 : Int32) σ _ hq27) hk) (ob_0.mono hk) vl_L_72 rfl (Nat.le_of_ble_eq_true rfl) dL_stands_161 ?_
                refine a_aload_n dL_stands_164 rfl 1 rfl ?_
                refine a_bipush (17 : Int32) dL_stands_165 rfl ?_
                refine a_iload dL_stands_167 6 rfl ?_
                refine a_iadd dL_stands_169 ?_
                obtain ⟨hb28, hf⟩ := grd_elim hf
                refine a_iald ha1 hb28 dL_stands_170 ?_
                by_cases hc29 : q27 = (σ.1 a1 ((17 : Int32) + v6).toNatClampNeg)
                · rw [if_pos hc29] at hf
                  refine a_icmp_eq_t 176 dL_stands_171 (by decide) hc29 ?_
                  refine a_iload dL_stands_176 4 rfl ?_
                  refine a_aload_n dL_stands_178 rfl 1 rfl ?_
                  refine a_bipush (17 : Int32) dL_stands_179 rfl ?_
                  refine a_iload dL_stands_181 6 rfl ?_
                  refine a_iadd dL_stands_183 ?_
                  obtain ⟨hb30, hf⟩ := grd_elim hf
                  refine a_iald ha1 hb30 dL_stands_184 ?_
                  refine a_iadd dL_stands_185 ?_
                  obtain ⟨x31, hx31, hf⟩ := bnd_elim hf
                  refine a_top (w := .int x31) (by rw [hx31]) ?_
                  refine a_istore dL_stands_186 (by decide) (loc' := [(4, .int x31), (0, .ref 0), (1, .ref a1), (2, .ref a2), (3, .ref a3), (5, .int c5), (6, .int v6), (7, .int q12)]) rfl ?_
                  refine a_iinc (v6 + (1 : Int32)) dL_stands_188 6 rfl rfl (by decide) (loc' := [(6, .int (v6 + (1 : Int32))), (4, .int x31), (0, .ref 0), (1, .ref a1), (2, .ref a2), (3, .ref a3), (5, .int c5), (7, .int q12)]) rfl ?_
                  refine a_goto 9 dL_stands_191 (by decide) ?_
                  refine a_locs (loc' := [(0, .ref 0), (1, .ref a1), (2, .ref a2), (3, .ref a3), (4, .int x31), (5, .int c5), (6, .int (v6 + (1 : Int32)))]) [2, 3, 4, 5, 1, 6, 0] rfl ?_
                  exact ih x31 (v6 + (1 : Int32)) hf h1 h2
                · rw [if_neg hc29] at hf
                  refine a_icmp_eq_f 176 dL_stands_171 (by decide) hc29 ?_
                  refine a_iconst (0 : Int32) dL_stands_174 rfl ?_
                  have hq := Option.some.inj hf
                  obtain ⟨hr0, ht0⟩ := h1 _ hq.symm
                  rw [hr0, ht0]
                  exact a_zret rfl (Or.inl rfl) dL_stands_175
              · rw [if_neg hc26] at hf
                refine a_icmp_ne_t 174 dL_stands_154 (by decide) hc26 ?_
                refine a_iconst (0 : Int32) dL_stands_174 rfl ?_
                have hq := Option.some.inj hf
                obtain ⟨hr0, ht0⟩ := h1 _ hq.symm
                rw [hr0, ht0]
                exact a_zret rfl (Or.inl rfl) dL_stands_175
            · rw [if_neg hc23] at hf
              refine a_icmp_ne_t 174 dL_stands_137 (by decide) hc23 ?_
              refine a_iconst (0 : Int32) dL_stands_174 rfl ?_
              have hq := Option.some.inj hf
              obtain ⟨hr0, ht0⟩ := h1 _ hq.symm
              rw [hr0, ht0]
              exact a_zret rfl (Or.inl rfl) dL_stands_175
          · rw [if_neg hc20] at hf
            refine a_icmp_ne_t 174 dL_stands_120 (by decide) hc20 ?_
            refine a_iconst (0 : Int32) dL_stands_174 rfl ?_
            have hq := Option.some.inj hf
            obtain ⟨hr0, ht0⟩ := h1 _ hq.symm
            rw [hr0, ht0]
            exact a_zret rfl (Or.inl rfl) dL_stands_175
        · rw [if_neg hc17] at hf
          refine a_icmp_ne_t 174 dL_stands_104 (by decide) hc17 ?_
          refine a_iconst (0 : Int32) dL_stands_174 rfl ?_
          have hq := Option.some.inj hf
          obtain ⟨hr0, ht0⟩ := h1 _ hq.symm
          rw [hr0, ht0]
          exact a_zret rfl (Or.inl rfl) dL_stands_175
set_option maxHeartbeats 4000000 in
set_option maxRecDepth 100000 in
theorem kL_stands_L216 (e : Nat) {K : Nat → Prop} (a1 n1 : Nat) (a2 n2 : Nat) (c4 : Int32) (c5 : Int32) (c6 : Int32) (c7 : Int32) (σ : St) (hk : ∀ n, K n → 58 ≤ n) (ha1 : IA K a1 n1) (ha2 : IA K a2 n2) {r : Option Value} {τ : St} (q : Sum (Int32) (Unit)) : ∀ (n : Nat) (v8 : Int32), fL_stands_L216 a1 n1 a2 n2 c4 c5 c6 c7 σ n v8 = some q → (∀ z, q = .inl z → r = some (.int z) ∧ τ = σ) → (∀ q1, q = .inr q1 → AL K (e + 3) ML_stands 249 [(0, .ref 0), (1, .ref a1), (2, .ref a2), (4, .int c4), (5, .int c5), (6, .int c6), (7, .int c7)] [] σ r τ) → AL K (e + 3) ML_stands 216 [(0, .ref 0), (1, .ref a1), (2, .ref a2), (4, .int c4), (5, .int c5), (6, .int c6), (7, .int c7), (8, .int v8)] [] σ r τ := by
  intro n
  induction n with
  | zero =>
    intro v8  hf
    simp only [fL_stands_L216] at hf
    exact absurd hf (by simp)
  | succ n ih =>
    intro v8  hf h1 h2
    rw [fL_stands_L216] at hf
    refine a_iload dL_stands_216 7 rfl ?_
    refine a_bipush (6 : Int32) dL_stands_218 rfl ?_
    by_cases hc38 : (6 : Int32) ≤ v8
    · rw [if_pos hc38] at hf
      refine a_icmp_ge_t 249 dL_stands_220 (by decide) hc38 ?_
      have hq := Option.some.inj hf
      refine a_locs (loc' := [(0, .ref 0), (1, .ref a1), (2, .ref a2), (4, .int c4), (5, .int c5), (6, .int c6), (7, .int c7)]) [0, 1, 2, 3, 4, 5, 6] rfl ?_
      exact h2 _ hq.symm
    · rw [if_neg hc38] at hf
      refine a_icmp_ge_f 249 dL_stands_220 (by decide) hc38 ?_
      refine a_aload_n dL_stands_223 rfl 0 rfl ?_
      refine a_iload dL_stands_224 5 rfl ?_
      refine a_iload dL_stands_226 7 rfl ?_
      obtain ⟨q39, hq39, hf⟩ := obind hf
      refine a_callV (as := [.int c6, .int v8]) (stk := []) (q := some (.int q39)) (σ1 := σ) (SpK.mono (kX8_told e c6 v8 σ _ hq39) hk) (ob_0.mono hk) vl_L_75 rfl (Nat.le_of_ble_eq_true rfl) dL_stands_228 ?_
      refine a_aload_n dL_stands_231 rfl 2 rfl ?_
      refine a_iload dL_stands_232 6 rfl ?_
      refine a_iload dL_stands_234 7 rfl ?_
      refine a_iadd dL_stands_236 ?_
      obtain ⟨hb40, hf⟩ := grd_elim hf
      refine a_iald ha2 hb40 dL_stands_237 ?_
      by_cases hc41 : q39 = (σ.1 a2 (c7 + v8).toNatClampNeg)
      · rw [if_pos hc41] at hf
        refine a_icmp_eq_t 243 dL_stands_238 (by decide) hc41 ?_
        refine a_iinc (v8 + (1 : Int32)) dL_stands_243 7 rfl rfl (by decide) (loc' := [(8, .int (v8 + (1 : Int32))), (0, .ref 0), (1, .ref a1), (2, .ref a2), (4, .int c4), (5, .int c5), (6, .int c6), (7, .int c7)]) rfl ?_
        refine a_goto 216 dL_stands_246 (by decide) ?_
        refine a_locs (loc' := [(0, .ref 0), (1, .ref a1), (2, .ref a2), (4, .int c4), (5, .int c5), (6, .int c6), (7, .int c7), (8, .int (v8 + (1 : Int32)))]) [1, 2, 3, 4, 5, 6, 7, 0] rfl ?_
        exact ih (v8 + (1 : Int32)) hf h1 h2
      · rw [if_neg hc41] at hf
        refine a_icmp_eq_f 243 dL_stands_238 (by decide) hc41 ?_
        refine a_iconst (0 : Int32) dL_stands_241 rfl ?_
        have hq := Option.some.inj hf
        obtain ⟨hr0, ht0⟩ := h1 _ hq.symm
        rw [hr0, ht0]
        exact a_zret rfl (Or.inl rfl) dL_stands_242
set_option maxHeartbeats 4000000 in
set_option maxRecDepth 100000 in
theorem kL_stands_L197 (e : Nat) {K : Nat → Prop} (a1 n1 : Nat) (a2 n2 : Nat) (c4 : Int32) (σ : St) (hk : ∀ n, K n → 58 ≤ n) (ha1 : IA K a1 n1) (ha2 : IA K a2 n2) {r : Option Value} {τ : St} (q : Sum (Int32) (Int32)) : ∀ (n : Nat) (v5 : Int32) (v6 : Int32), fL_stands_L197 a1 n1 a2 n2 c4 σ n v5 v6 = some q → (∀ z, q = .inl z → r = some (.int z) ∧ τ = σ) → (∀ q1, q = .inr q1 → AL K (e + 3) ML_stands 330 [(0, .ref 0), (1, .ref a1), (4, .int c4), (5, .int q1)] [] σ r τ) → AL K (e + 3) ML_stands 197 [(0, .ref 0), (1, .ref a1), (2, .ref a2), (4, .int c4), (5, .int v5), (6, .int v6)] [] σ r τ := by
  intro n
  induction n with
  | zero =>
    intro v5 v6  hf
    simp only [fL_stands_L197] at hf
    exact absurd hf (by simp)
  | succ n ih =>
    intro v5 v6  hf h1 h2
    rw [fL_stands_L197] at hf
    refine a_iload dL_stands_197 5 rfl ?_
    refine a_aload_n dL_stands_199 rfl 1 rfl ?_
    refine a_bipush (25 : Int32) dL_stands_200 rfl ?_
    obtain ⟨hb36, hf⟩ := grd_elim hf
    refine a_iald ha1 hb36 dL_stands_202 ?_
    by_cases hc37 : (σ.1 a1 (25 : Int32).toNatClampNeg) ≤ v6
    · rw [if_pos hc37] at hf
      refine a_icmp_ge_t 330 dL_stands_203 (by decide) hc37 ?_
      have hq := Option.some.inj hf
      refine a_locs (loc' := [(0, .ref 0), (1, .ref a1), (4, .int c4), (5, .int v5)]) [0, 1, 3, 4] rfl ?_
      exact h2 _ hq.symm
    · rw [if_neg hc37] at hf
      refine a_icmp_ge_f 330 dL_stands_203 (by decide) hc37 ?_
      refine a_bipush (8 : Int32) dL_stands_206 rfl ?_
      refine a_iload dL_stands_208 5 rfl ?_
      refine a_imul dL_stands_210 ?_
      refine a_istore dL_stands_211 (by decide) (loc' := [(7, .int ((8 : Int32) * v6)), (0, .ref 0), (1, .ref a1), (2, .ref a2), (4, .int c4), (5, .int v5), (6, .int v6)]) rfl ?_
      refine a_iconst (0 : Int32) dL_stands_213 rfl ?_
      refine a_istore dL_stands_214 (by decide) (loc' := [(8, .int (0 : Int32)), (7, .int ((8 : Int32) * v6)), (0, .ref 0), (1, .ref a1), (2, .ref a2), (4, .int c4), (5, .int v5), (6, .int v6)]) rfl ?_
      obtain ⟨s43, hr44, hf⟩ := obind hf
      refine a_locs (loc' := [(0, .ref 0), (1, .ref a1), (2, .ref a2), (4, .int c4), (5, .int v5), (6, .int v6), (7, .int ((8 : Int32) * v6)), (8, .int (0 : Int32))]) [2, 3, 4, 5, 6, 7, 1, 0] rfl ?_
      refine kL_stands_L216 e a1 n1 a2 n2 c4 v5 v6 ((8 : Int32) * v6) σ hk ha1 ha2 s43 fu (0 : Int32) hr44 ?_ ?_
      · intro z45 hz
        subst hz
        simp only [Sum.elim_inl] at hf
        have hq := Option.some.inj hf
        exact h1 _ hq.symm
      · intro q42 hz
        subst hz
        simp only [Sum.elim_inr] at hf
        refine a_aload_n dL_stands_249 rfl 0 rfl ?_
        refine a_iload dL_stands_250 5 rfl ?_
        refine a_bipush (6 : Int32) dL_stands_252 rfl ?_
        obtain ⟨q46, hq46, hf⟩ := obind hf
        refine a_callV (as := [.int v6, .int (6 : Int32)]) (stk := []) (q := some (.int q46)) (σ1 := σ) (SpK.mono (kX8_told e v6 (6 : Int32) σ _ hq46) hk) (ob_0.mono hk) vl_L_75 rfl (Nat.le_of_ble_eq_true rfl) dL_stands_254 ?_
        refine a_aload_n dL_stands_257 rfl 2 rfl ?_
        refine a_iload dL_stands_258 6 rfl ?_
        obtain ⟨q47, hq47, hf⟩ := obind hf
        refine a_callS (as := [.ref a2, .int ((8 : Int32) * v6)]) (stk := [.int q46]) (q := some (.int q47)) (σ1 := σ) (kL_worth (e + 2) a2 n2 ((8 : Int32) * v6) σ ha2 _ hq47) sl_L_39 rfl (Nat.le_of_ble_eq_true rfl) dL_stands_260 ?_
        by_cases hc48 : q46 = q47
        · rw [if_pos hc48] at hf
          refine a_icmp_ne_f 302 dL_stands_263 (by decide) hc48 ?_
          refine a_aload_n dL_stands_266 rfl 0 rfl ?_
          refine a_iload dL_stands_267 5 rfl ?_
          refine a_bipush (7 : Int32) dL_stands_269 rfl ?_
          obtain ⟨q49, hq49, hf⟩ := obind hf
          refine a_callV (as := [.int v6, .int (7 : Int32)]) (stk := []) (q := some (.int q49)) (σ1 := σ) (SpK.mono (kX8_told e v6 (7 : Int32) σ _ hq49) hk) (ob_0.mono hk) vl_L_75 rfl (Nat.le_of_ble_eq_true rfl) dL_stands_271 ?_
          refine a_aload_n dL_stands_274 rfl 2 rfl ?_
          refine a_iload dL_stands_275 6 rfl ?_
          refine a_bipush (7 : Int32) dL_stands_277 rfl ?_
          refine a_iadd dL_stands_279 ?_
          obtain ⟨hb50, hf⟩ := grd_elim hf
          refine a_iald ha2 hb50 dL_stands_280 ?_
          by_cases hc51 : q49 = (σ.1 a2 (((8 : Int32) * v6) + (7 : Int32)).toNatClampNeg)
          · rw [if_pos hc51] at hf
            refine a_icmp_ne_f 302 dL_stands_281 (by decide) hc51 ?_
            refine a_aload_n dL_stands_284 rfl 0 rfl ?_
            refine a_iload dL_stands_285 5 rfl ?_
            refine a_bipush (8 : Int32) dL_stands_287 rfl ?_
            obtain ⟨q52, hq52, hf⟩ := obind hf
            refine a_callV (as := [.int v6, .int (8 : Int32)]) (stk := []) (q := some (.int q52)) (σ1 := σ) (SpK.mono (kX8_told e v6 (8 : Int32) σ _ hq52) hk) (ob_0.mono hk) vl_L_75 rfl (Nat.le_of_ble_eq_true rfl) dL_stands_289 ?_
            refine a_aload_n dL_stands_292 rfl 2 rfl ?_
            refine a_iload dL_stands_293 6 rfl ?_
            refine a_bipush (6 : Int32) dL_stands_295 rfl ?_
            refine a_iadd dL_stands_297 ?_
            obtain ⟨hb53, hf⟩ := grd_elim hf
            refine a_iald ha2 hb53 dL_stands_298 ?_
            by_cases hc54 : q52 = (σ.1 a2 (((8 : Int32) * v6) + (6 : Int32)).toNatClampNeg)
            · rw [if_pos hc54] at hf
              refine a_icmp_eq_t 304 dL_stands_299 (by decide) hc54 ?_
              refine a_iload dL_stands_304 4 rfl ?_
              refine a_aload_n dL_stands_306 rfl 2 rfl ?_
              refine a_iload dL_stands_307 6 rfl ?_
              refine a_bipush (7 : Int32) dL_stands_309 rfl ?_
              refine a_iadd dL_stands_311 ?_
              obtain ⟨hb55, hf⟩ := grd_elim hf
              refine a_iald ha2 hb55 dL_stands_312 ?_
              obtain ⟨x57, hx57, hf⟩ := bnd_elim hf
              have hA58 : AL K (e + 3) ML_stands 321 [(0, .ref 0), (1, .ref a1), (2, .ref a2), (4, .int c4), (6, .int v6)] [.int x57, .int v5] σ r τ := by
                refine a_iadd dL_stands_321 ?_
                refine a_istore dL_stands_322 (by decide) (loc' := [(5, .int (v5 + x57)), (0, .ref 0), (1, .ref a1), (2, .ref a2), (4, .int c4), (6, .int v6)]) rfl ?_
                refine a_iinc (v6 + (1 : Int32)) dL_stands_324 5 rfl rfl (by decide) (loc' := [(6, .int (v6 + (1 : Int32))), (5, .int (v5 + x57)), (0, .ref 0), (1, .ref a1), (2, .ref a2), (4, .int c4)]) rfl ?_
                refine a_goto 197 dL_stands_327 (by decide) ?_
                refine a_locs (loc' := [(0, .ref 0), (1, .ref a1), (2, .ref a2), (4, .int c4), (5, .int (v5 + x57)), (6, .int (v6 + (1 : Int32)))]) [2, 3, 4, 5, 1, 0] rfl ?_
                exact ih (v5 + x57) (v6 + (1 : Int32)) hf h1 h2
              clear hf
              by_cases hc56 : (σ.1 a2 (((8 : Int32) * v6) + (7 : Int32)).toNatClampNeg) = 0
              · rw [if_pos hc56] at hx57
                refine a_if_ne_f 320 dL_stands_313 (by decide) hc56 ?_
                refine a_iconst (1 : Int32) dL_stands_316 rfl ?_
                refine a_goto 321 dL_stands_317 (by decide) ?_
                replace hx57 := hx57.symm; subst hx57
                refine a_locs (loc' := [(0, .ref 0), (1, .ref a1), (2, .ref a2), (4, .int c4), (6, .int v6)]) [0, 1, 2, 3, 5] rfl ?_
                exact hA58
              · rw [if_neg hc56] at hx57
                refine a_if_ne_t 320 dL_stands_313 (by decide) hc56 ?_
                refine a_iconst (0 : Int32) dL_stands_320 rfl ?_
                replace hx57 := hx57.symm; subst hx57
                refine a_locs (loc' := [(0, .ref 0), (1, .ref a1), (2, .ref a2), (4, .int c4), (6, .int v6)]) [0, 1, 2, 3, 5] rfl ?_
                exact hA58
            · rw [if_neg hc54] at hf
              refine a_icmp_eq_f 304 dL_stands_299 (by decide) hc54 ?_
              refine a_iconst (0 : Int32) dL_stands_302 rfl ?_
              have hq := Option.some.inj hf
              obtain ⟨hr0, ht0⟩ := h1 _ hq.symm
              rw [hr0, ht0]
              exact a_zret rfl (Or.inl rfl) dL_stands_303
          · rw [if_neg hc51] at hf
            refine a_icmp_ne_t 302 dL_stands_281 (by decide) hc51 ?_
            refine a_iconst (0 : Int32) dL_stands_302 rfl ?_
            have hq := Option.some.inj hf
            obtain ⟨hr0, ht0⟩ := h1 _ hq.symm
            rw [hr0, ht0]
            exact a_zret rfl (Or.inl rfl) dL_stands_303
        · rw [if_neg hc48] at hf
          refine a_icmp_ne_t 302 dL_stands_263 (by decide) hc48 ?_
          refine a_iconst (0 : Int32) dL_stands_302 rfl ?_
          have hq := Option.some.inj hf
          obtain ⟨hr0, ht0⟩ := h1 _ hq.symm
          rw [hr0, ht0]
          exact a_zret rfl (Or.inl rfl) dL_stands_303
set_option maxHeartbeats 4000000 in
set_option maxRecDepth 100000 in
theorem kL_stands (e : Nat) {K : Nat → Prop} (a1 n1 : Nat) (a2 n2 : Nat) (a3 n3 : Nat) (σ : St) (hk : ∀ n, K n → 58 ≤ n) (ha1 : IA K a1 n1) (ha2 : IA K a2 n2) (ha3 : IA K a3 n3) (q : Int32) (hf : fL_stands a1 n1 a2 n2 a3 n3 σ = some q) : SpK K (e + 3) ML_stands [.ref 0, .ref a1, .ref a2, .ref a3] σ (some (.int q)) σ := by
  refine sp_of rfl (Nat.le_of_ble_eq_true rfl) (loc := [(0, .ref 0), (1, .ref a1), (2, .ref a2), (3, .ref a3)]) rfl ?_
  unfold fL_stands at hf
  refine a_iconst (0 : Int32) dL_stands_0 rfl ?_
  refine a_istore dL_stands_1 (by decide) (loc' := [(4, .int (0 : Int32)), (0, .ref 0), (1, .ref a1), (2, .ref a2), (3, .ref a3)]) rfl ?_
  refine a_iconst (0 : Int32) dL_stands_3 rfl ?_
  refine a_istore dL_stands_4 (by decide) (loc' := [(5, .int (0 : Int32)), (4, .int (0 : Int32)), (0, .ref 0), (1, .ref a1), (2, .ref a2), (3, .ref a3)]) rfl ?_
  refine a_iconst (0 : Int32) dL_stands_6 rfl ?_
  refine a_istore dL_stands_7 (by decide) (loc' := [(6, .int (0 : Int32)), (5, .int (0 : Int32)), (4, .int (0 : Int32)), (0, .ref 0), (1, .ref a1), (2, .ref a2), (3, .ref a3)]) rfl ?_
  obtain ⟨s33, hr34, hf⟩ := obind hf
  refine a_locs (loc' := [(0, .ref 0), (1, .ref a1), (2, .ref a2), (3, .ref a3), (4, .int (0 : Int32)), (5, .int (0 : Int32)), (6, .int (0 : Int32))]) [3, 4, 5, 6, 2, 1, 0] rfl ?_
  refine kL_stands_L9 e a1 n1 a2 n2 a3 n3 (0 : Int32) σ hk ha1 ha2 ha3 s33 fu (0 : Int32) (0 : Int32) hr34 ?_ ?_
  · intro z35 hz
    subst hz
    simp only [Sum.elim_inl] at hf
    have hq := Option.some.inj hf
    subst hq
    exact ⟨rfl, rfl⟩
  · intro q32 hz
    subst hz
    simp only [Sum.elim_inr] at hf
    refine a_iconst (0 : Int32) dL_stands_194 rfl ?_
    refine a_istore dL_stands_195 (by decide) (loc' := [(6, .int (0 : Int32)), (0, .ref 0), (1, .ref a1), (2, .ref a2), (4, .int q32), (5, .int (0 : Int32))]) rfl ?_
    obtain ⟨s60, hr61, hf⟩ := obind hf
    refine a_locs (loc' := [(0, .ref 0), (1, .ref a1), (2, .ref a2), (4, .int q32), (5, .int (0 : Int32)), (6, .int (0 : Int32))]) [1, 2, 3, 4, 5, 0] rfl ?_
    refine kL_stands_L197 e a1 n1 a2 n2 q32 σ hk ha1 ha2 s60 fu (0 : Int32) (0 : Int32) hr61 ?_ ?_
    · intro z62 hz
      subst hz
      simp only [Sum.elim_inl] at hf
      have hq := Option.some.inj hf
      subst hq
      exact ⟨rfl, rfl⟩
    · intro q59 hz
      subst hz
      simp only [Sum.elim_inr] at hf
      refine a_aload_n dL_stands_330 rfl 0 rfl ?_
      refine a_iconst (0 : Int32) dL_stands_331 rfl ?_
      obtain ⟨q63, hq63, hf⟩ := obind hf
      refine a_callV (as := [.int (0 : Int32)]) (stk := []) (q := some (.int q63)) (σ1 := σ) (SpK.mono (kX8_count e (0 : Int32) σ _ hq63) hk) (ob_0.mono hk) vl_L_78 rfl (Nat.le_of_ble_eq_true rfl) dL_stands_332 ?_
      refine a_aload_n dL_stands_335 rfl 1 rfl ?_
      refine a_iconst (0 : Int32) dL_stands_336 rfl ?_
      obtain ⟨hb64, hf⟩ := grd_elim hf
      refine a_iald ha1 hb64 dL_stands_337 ?_
      by_cases hc65 : q63 = (σ.1 a1 (0 : Int32).toNatClampNeg)
      · rw [if_pos hc65] at hf
        refine a_icmp_ne_f 389 dL_stands_338 (by decide) hc65 ?_
        refine a_aload_n dL_stands_341 rfl 0 rfl ?_
        refine a_iconst (1 : Int32) dL_stands_342 rfl ?_
        obtain ⟨q66, hq66, hf⟩ := obind hf
        refine a_callV (as := [.int (1 : Int32)]) (stk := []) (q := some (.int q66)) (σ1 := σ) (SpK.mono (kX8_count e (1 : Int32) σ _ hq66) hk) (ob_0.mono hk) vl_L_78 rfl (Nat.le_of_ble_eq_true rfl) dL_stands_343 ?_
        refine a_aload_n dL_stands_346 rfl 1 rfl ?_
        refine a_bipush (25 : Int32) dL_stands_347 rfl ?_
        obtain ⟨hb67, hf⟩ := grd_elim hf
        refine a_iald ha1 hb67 dL_stands_349 ?_
        by_cases hc68 : q66 = (σ.1 a1 (25 : Int32).toNatClampNeg)
        · rw [if_pos hc68] at hf
          refine a_icmp_ne_f 389 dL_stands_350 (by decide) hc68 ?_
          refine a_aload_n dL_stands_353 rfl 0 rfl ?_
          refine a_iconst (2 : Int32) dL_stands_354 rfl ?_
          obtain ⟨q69, hq69, hf⟩ := obind hf
          refine a_callV (as := [.int (2 : Int32)]) (stk := []) (q := some (.int q69)) (σ1 := σ) (SpK.mono (kX8_count e (2 : Int32) σ _ hq69) hk) (ob_0.mono hk) vl_L_78 rfl (Nat.le_of_ble_eq_true rfl) dL_stands_355 ?_
          refine a_iload dL_stands_358 3 rfl ?_
          by_cases hc70 : q69 = q59
          · rw [if_pos hc70] at hf
            refine a_icmp_ne_f 389 dL_stands_360 (by decide) hc70 ?_
            refine a_aload_n dL_stands_363 rfl 0 rfl ?_
            refine a_iconst (3 : Int32) dL_stands_364 rfl ?_
            obtain ⟨q71, hq71, hf⟩ := obind hf
            refine a_callV (as := [.int (3 : Int32)]) (stk := []) (q := some (.int q71)) (σ1 := σ) (SpK.mono (kX8_count e (3 : Int32) σ _ hq71) hk) (ob_0.mono hk) vl_L_78 rfl (Nat.le_of_ble_eq_true rfl) dL_stands_365 ?_
            refine a_aload_n dL_stands_368 rfl 1 rfl ?_
            refine a_bipush (26 : Int32) dL_stands_369 rfl ?_
            obtain ⟨hb72, hf⟩ := grd_elim hf
            refine a_iald ha1 hb72 dL_stands_371 ?_
            by_cases hc73 : q71 = (σ.1 a1 (26 : Int32).toNatClampNeg)
            · rw [if_pos hc73] at hf
              refine a_icmp_ne_f 389 dL_stands_372 (by decide) hc73 ?_
              refine a_aload_n dL_stands_375 rfl 0 rfl ?_
              refine a_iconst (4 : Int32) dL_stands_376 rfl ?_
              obtain ⟨q74, hq74, hf⟩ := obind hf
              refine a_callV (as := [.int (4 : Int32)]) (stk := []) (q := some (.int q74)) (σ1 := σ) (SpK.mono (kX8_count e (4 : Int32) σ _ hq74) hk) (ob_0.mono hk) vl_L_78 rfl (Nat.le_of_ble_eq_true rfl) dL_stands_377 ?_
              refine a_iload dL_stands_380 2 rfl ?_
              by_cases hc75 : q74 = q32
              · rw [if_pos hc75] at hf
                refine a_icmp_ne_f 389 dL_stands_382 (by decide) hc75 ?_
                refine a_iconst (1 : Int32) dL_stands_385 rfl ?_
                refine a_goto 390 dL_stands_386 (by decide) ?_
                have hq := Option.some.inj hf
                subst hq
                exact a_zret rfl (Or.inr rfl) dL_stands_390
              · rw [if_neg hc75] at hf
                refine a_icmp_ne_t 389 dL_stands_382 (by decide) hc75 ?_
                refine a_iconst (0 : Int32) dL_stands_389 rfl ?_
                have hq := Option.some.inj hf
                subst hq
                exact a_zret rfl (Or.inl rfl) dL_stands_390
            · rw [if_neg hc73] at hf
              refine a_icmp_ne_t 389 dL_stands_372 (by decide) hc73 ?_
              refine a_iconst (0 : Int32) dL_stands_389 rfl ?_
              have hq := Option.some.inj hf
              subst hq
              exact a_zret rfl (Or.inl rfl) dL_stands_390
          · rw [if_neg hc70] at hf
            refine a_icmp_ne_t 389 dL_stands_360 (by decide) hc70 ?_
            refine a_iconst (0 : Int32) dL_stands_389 rfl ?_
            have hq := Option.some.inj hf
            subst hq
            exact a_zret rfl (Or.inl rfl) dL_stands_390
        · rw [if_neg hc68] at hf
          refine a_icmp_ne_t 389 dL_stands_350 (by decide) hc68 ?_
          refine a_iconst (0 : Int32) dL_stands_389 rfl ?_
          have hq := Option.some.inj hf
          subst hq
          exact a_zret rfl (Or.inl rfl) dL_stands_390
      · rw [if_neg hc65] at hf
        refine a_icmp_ne_t 389 dL_stands_338 (by decide) hc65 ?_
        refine a_iconst (0 : Int32) dL_stands_389 rfl ?_
        have hq := Option.some.inj hf
        subst hq
        exact a_zret rfl (Or.inl rfl) dL_stands_390
