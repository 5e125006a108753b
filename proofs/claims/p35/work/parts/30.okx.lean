set_option maxHeartbeats 4000000 in
set_option maxRecDepth 100000 in
theorem kX5_byteOf (e : Nat) (p0 : Int64) (p2 : Int32) (σ : St)  : Sp e MX5_byteOf [.long p0, .int p2] σ (some (.int (fX5_byteOf p0 p2))) σ := by
  refine sp_of rfl (Nat.le_of_ble_eq_true rfl) (loc := [(0, .long p0), (2, .int p2)]) rfl ?_
  obtain ⟨z, hf⟩ : ∃ z, fX5_byteOf p0 p2 = z := ⟨_, rfl⟩
  rw [hf]
  unfold fX5_byteOf at hf
  refine a_lload_n dX5_byteOf_0 rfl 0 rfl ?_
  refine a_bipush (8 : Int32) dX5_byteOf_1 rfl ?_
  refine a_iload_n dX5_byteOf_3 rfl 1 rfl ?_
  refine a_imul dX5_byteOf_4 ?_
  refine a_lushr dX5_byteOf_5 ?_
  refine a_ldc2 rfl kc_X5_19 dX5_byteOf_6 ?_
  refine a_land dX5_byteOf_9 ?_
  refine a_l2i dX5_byteOf_10 ?_
  subst hf
  exact a_iret rfl dX5_byteOf_11
set_option maxHeartbeats 4000000 in
set_option maxRecDepth 100000 in
theorem kX5_lettersIn_L7 (e : Nat) (c0 : Int64) (σ : St)  {r : Option Value} {τ : St} (q : Sum (Int32) (Int32)) : ∀ (n : Nat) (v2 : Int32) (v3 : Int32) (v4 : Int32), fX5_lettersIn_L7 c0 σ n v2 v3 v4 = some q → (∀ z, q = .inl z → r = some (.int z) ∧ τ = σ) → (∀ q1, q = .inr q1 → A (e + 1) MX5_lettersIn 59 [(2, .int q1)] [] σ r τ) → A (e + 1) MX5_lettersIn 7 [(0, .long c0), (2, .int v2), (3, .int v3), (4, .int v4)] [] σ r τ := by
  intro n
  induction n with
  | zero =>
    intro v2 v3 v4  hf
    simp only [fX5_lettersIn_L7] at hf
    exact absurd hf (by simp)
  | succ n ih =>
    intro v2 v3 v4  hf h1 h2
    rw [fX5_lettersIn_L7] at hf
    refine a_iload dX5_lettersIn_7 3 rfl ?_
    refine a_bipush (8 : Int32) dX5_lettersIn_9 rfl ?_
    by_cases hc1 : (8 : Int32) ≤ v4
    · rw [if_pos hc1] at hf
      refine a_icmp_ge_t 59 dX5_lettersIn_11 (by decide) hc1 ?_
      have hq := Option.some.inj hf
      refine a_locs (loc' := [(2, .int v2)]) [1] rfl ?_
      exact h2 _ hq.symm
    · rw [if_neg hc1] at hf
      refine a_icmp_ge_f 59 dX5_lettersIn_11 (by decide) hc1 ?_
      refine a_lload_n dX5_lettersIn_14 rfl 0 rfl ?_
      refine a_iload dX5_lettersIn_15 3 rfl ?_
      refine a_callS (as := [.long c0, .int v4]) (stk := []) (q := some (.int (fX5_byteOf c0 v4))) (σ1 := σ) (kX5_byteOf e c0 v4 σ) sl_X5_15 rfl (Nat.le_of_ble_eq_true rfl) dX5_lettersIn_17 ?_
      refine a_istore dX5_lettersIn_20 (by decide) (loc' := [(5, .int (fX5_byteOf c0 v4)), (0, .long c0), (2, .int v2), (3, .int v3), (4, .int v4)]) rfl ?_
      refine a_iload dX5_lettersIn_22 0 rfl ?_
      refine a_bipush (126 : Int32) dX5_lettersIn_24 rfl ?_
      by_cases hc2 : (126 : Int32) < (fX5_byteOf c0 v4)
      · rw [if_pos hc2] at hf
        refine a_icmp_gt_t 38 dX5_lettersIn_26 (by decide) hc2 ?_
        refine a_iconst (-1 : Int32) dX5_lettersIn_38 rfl ?_
        have hq := Option.some.inj hf
        obtain ⟨hr0, ht0⟩ := h1 _ hq.symm
        rw [hr0, ht0]
        exact a_iret rfl dX5_lettersIn_39
      · rw [if_neg hc2] at hf
        refine a_icmp_gt_f 38 dX5_lettersIn_26 (by decide) hc2 ?_
        refine a_iload_n dX5_lettersIn_29 rfl 3 rfl ?_
        by_cases hc3 : v3 = 0
        · rw [if_pos hc3] at hf
          refine a_if_eq_t 40 dX5_lettersIn_30 (by decide) hc3 ?_
          refine a_iload dX5_lettersIn_40 0 rfl ?_
          by_cases hc4 : (fX5_byteOf c0 v4) = 0
          · rw [if_pos hc4] at hf
            refine a_if_ne_f 50 dX5_lettersIn_42 (by decide) hc4 ?_
            refine a_iconst (1 : Int32) dX5_lettersIn_45 rfl ?_
            refine a_istore_n dX5_lettersIn_46 rfl (by decide) (loc' := [(3, .int (1 : Int32)), (5, .int (fX5_byteOf c0 v4)), (0, .long c0), (2, .int v2), (4, .int v4)]) rfl ?_
            refine a_goto 53 dX5_lettersIn_47 (by decide) ?_
            refine a_iinc (v4 + (1 : Int32)) dX5_lettersIn_53 4 rfl rfl (by decide) (loc' := [(4, .int (v4 + (1 : Int32))), (3, .int (1 : Int32)), (5, .int (fX5_byteOf c0 v4)), (0, .long c0), (2, .int v2)]) rfl ?_
            refine a_goto 7 dX5_lettersIn_56 (by decide) ?_
            refine a_locs (loc' := [(0, .long c0), (2, .int v2), (3, .int (1 : Int32)), (4, .int (v4 + (1 : Int32)))]) [3, 4, 1, 0] rfl ?_
            exact ih v2 (1 : Int32) (v4 + (1 : Int32)) hf h1 h2
          · rw [if_neg hc4] at hf
            refine a_if_ne_t 50 dX5_lettersIn_42 (by decide) hc4 ?_
            refine a_iinc (v2 + (1 : Int32)) dX5_lettersIn_50 2 rfl rfl (by decide) (loc' := [(2, .int (v2 + (1 : Int32))), (5, .int (fX5_byteOf c0 v4)), (0, .long c0), (3, .int v3), (4, .int v4)]) rfl ?_
            refine a_iinc (v4 + (1 : Int32)) dX5_lettersIn_53 4 rfl rfl (by decide) (loc' := [(4, .int (v4 + (1 : Int32))), (2, .int (v2 + (1 : Int32))), (5, .int (fX5_byteOf c0 v4)), (0, .long c0), (3, .int v3)]) rfl ?_
            refine a_goto 7 dX5_lettersIn_56 (by decide) ?_
            refine a_locs (loc' := [(0, .long c0), (2, .int (v2 + (1 : Int32))), (3, .int v3), (4, .int (v4 + (1 : Int32)))]) [3, 1, 4, 0] rfl ?_
            exact ih (v2 + (1 : Int32)) v3 (v4 + (1 : Int32)) hf h1 h2
        · rw [if_neg hc3] at hf
          refine a_if_eq_f 40 dX5_lettersIn_30 (by decide) hc3 ?_
          refine a_iload dX5_lettersIn_33 0 rfl ?_
          by_cases hc5 : (fX5_byteOf c0 v4) = 0
          · rw [if_pos hc5] at hf
            refine a_if_eq_t 40 dX5_lettersIn_35 (by decide) hc5 ?_
            refine a_iload dX5_lettersIn_40 0 rfl ?_
            by_cases hc6 : (fX5_byteOf c0 v4) = 0
            · rw [if_pos hc6] at hf
              refine a_if_ne_f 50 dX5_lettersIn_42 (by decide) hc6 ?_
              refine a_iconst (1 : Int32) dX5_lettersIn_45 rfl ?_
              refine a_istore_n dX5_lettersIn_46 rfl (by decide) (loc' := [(3, .int (1 : Int32)), (5, .int (fX5_byteOf c0 v4)), (0, .long c0), (2, .int v2), (4, .int v4)]) rfl ?_
              refine a_goto 53 dX5_lettersIn_47 (by decide) ?_
              refine a_iinc (v4 + (1 : Int32)) dX5_lettersIn_53 4 rfl rfl (by decide) (loc' := [(4, .int (v4 + (1 : Int32))), (3, .int (1 : Int32)), (5, .int (fX5_byteOf c0 v4)), (0, .long c0), (2, .int v2)]) rfl ?_
              refine a_goto 7 dX5_lettersIn_56 (by decide) ?_
              refine a_locs (loc' := [(0, .long c0), (2, .int v2), (3, .int (1 : Int32)), (4, .int (v4 + (1 : Int32)))]) [3, 4, 1, 0] rfl ?_
              exact ih v2 (1 : Int32) (v4 + (1 : Int32)) hf h1 h2
            · rw [if_neg hc6] at hf
              refine a_if_ne_t 50 dX5_lettersIn_42 (by decide) hc6 ?_
              refine a_iinc (v2 + (1 : Int32)) dX5_lettersIn_50 2 rfl rfl (by decide) (loc' := [(2, .int (v2 + (1 : Int32))), (5, .int (fX5_byteOf c0 v4)), (0, .long c0), (3, .int v3), (4, .int v4)]) rfl ?_
              refine a_iinc (v4 + (1 : Int32)) dX5_lettersIn_53 4 rfl rfl (by decide) (loc' := [(4, .int (v4 + (1 : Int32))), (2, .int (v2 + (1 : Int32))), (5, .int (fX5_byteOf c0 v4)), (0, .long c0), (3, .int v3)]) rfl ?_
              refine a_goto 7 dX5_lettersIn_56 (by decide) ?_
              refine a_locs (loc' := [(0, .long c0), (2, .int (v2 + (1 : Int32))), (3, .int v3), (4, .int (v4 + (1 : Int32)))]) [3, 1, 4, 0] rfl ?_
              exact ih (v2 + (1 : Int32)) v3 (v4 + (1 : Int32)) hf h1 h2
          · rw [if_neg hc5] at hf
            refine a_if_eq_f 40 dX5_lettersIn_35 (by decide) hc5 ?_
            refine a_iconst (-1 : Int32) dX5_lettersIn_38 rfl ?_
            have hq := Option.some.inj hf
            obtain ⟨hr0, ht0⟩ := h1 _ hq.symm
            rw [hr0, ht0]
            exact a_iret rfl dX5_lettersIn_39
set_option maxHeartbeats 4000000 in
set_option maxRecDepth 100000 in
theorem kX5_lettersIn (e : Nat) (p0 : Int64) (σ : St)  (q : Int32) (hf : fX5_lettersIn p0 σ = some q) : Sp (e + 1) MX5_lettersIn [.long p0] σ (some (.int q)) σ := by
  refine sp_of rfl (Nat.le_of_ble_eq_true rfl) (loc := [(0, .long p0)]) rfl ?_
  unfold fX5_lettersIn at hf
  refine a_iconst (0 : Int32) dX5_lettersIn_0 rfl ?_
  refine a_istore_n dX5_lettersIn_1 rfl (by decide) (loc' := [(2, .int (0 : Int32)), (0, .long p0)]) rfl ?_
  refine a_iconst (0 : Int32) dX5_lettersIn_2 rfl ?_
  refine a_istore_n dX5_lettersIn_3 rfl (by decide) (loc' := [(3, .int (0 : Int32)), (2, .int (0 : Int32)), (0, .long p0)]) rfl ?_
  refine a_iconst (0 : Int32) dX5_lettersIn_4 rfl ?_
  refine a_istore dX5_lettersIn_5 (by decide) (loc' := [(4, .int (0 : Int32)), (3, .int (0 : Int32)), (2, .int (0 : Int32)), (0, .long p0)]) rfl ?_
  obtain ⟨s8, hr9, hf⟩ := obind hf
  refine a_locs (loc' := [(0, .long p0), (2, .int (0 : Int32)), (3, .int (0 : Int32)), (4, .int (0 : Int32))]) [3, 2, 1, 0] rfl ?_
  refine kX5_lettersIn_L7 e p0 σ s8 fu (0 : Int32) (0 : Int32) (0 : Int32) hr9 ?_ ?_
  · intro z10 hz
    subst hz
    simp only [Sum.elim_inl] at hf
    have hq := Option.some.inj hf
    subst hq
    exact ⟨rfl, rfl⟩
  · intro q7 hz
    subst hz
    simp only [Sum.elim_inr] at hf
    refine a_iload_n dX5_lettersIn_59 rfl 0 rfl ?_
    have hq := Option.some.inj hf
    subst hq
    exact a_iret rfl dX5_lettersIn_60
set_option maxHeartbeats 4000000 in
set_option maxRecDepth 100000 in
theorem kX5_append_L3 (e : Nat) (c1 : Int64) (c3 : Int32)   {r : Option Value} {τ : St} (q : (St)) : ∀ (n : Nat) (v4 : Int32) (σ : St), fX5_append_L3 c1 c3 n v4 σ = some q → A (e + 1) MX5_append 49 [] [] q r τ → A (e + 1) MX5_append 3 [(0, .ref 1), (1, .long c1), (3, .int c3), (4, .int v4)] [] σ r τ := by
  intro n
  induction n with
  | zero =>
    intro v4 σ  hf
    simp only [fX5_append_L3] at hf
    exact absurd hf (by simp)
  | succ n ih =>
    intro v4 σ  hf h2
    rw [fX5_append_L3] at hf
    refine a_iload dX5_append_3 3 rfl ?_
    refine a_iload_n dX5_append_5 rfl 2 rfl ?_
    by_cases hc1 : c3 ≤ v4
    · rw [if_pos hc1] at hf
      refine a_icmp_ge_t 49 dX5_append_6 (by decide) hc1 ?_
      have hq := Option.some.inj hf
      rw [← hq] at h2
      refine a_locs (loc' := []) [] rfl ?_
      exact h2
    · rw [if_neg hc1] at hf
      refine a_icmp_ge_f 49 dX5_append_6 (by decide) hc1 ?_
      refine a_aload_n dX5_append_9 rfl 0 rfl ?_
      refine a_get (.int (σ.1 1 1)) ob_1 (by decide) fl_X5_21 rfl dX5_append_10 ?_
      refine a_bipush (16 : Int32) dX5_append_13 rfl ?_
      by_cases hc2 : (16 : Int32) ≤ (σ.1 1 1)
      · rw [if_pos hc2] at hf
        refine a_icmp_ge_t 49 dX5_append_15 (by decide) hc2 ?_
        have hq := Option.some.inj hf
        rw [← hq] at h2
        refine a_locs (loc' := []) [] rfl ?_
        exact h2
      · rw [if_neg hc2] at hf
        refine a_icmp_ge_f 49 dX5_append_15 (by decide) hc2 ?_
        refine a_aload_n dX5_append_18 rfl 0 rfl ?_
        refine a_get (.ref 2) ob_1 (by decide) fl_X5_9 rfl dX5_append_19 ?_
        refine a_aload_n dX5_append_22 rfl 0 rfl ?_
        refine a_get (.int (σ.1 1 1)) ob_1 (by decide) fl_X5_21 rfl dX5_append_23 ?_
        refine a_lload_n dX5_append_26 rfl 1 rfl ?_
        refine a_iload dX5_append_27 3 rfl ?_
        refine a_callS (as := [.long c1, .int v4]) (stk := [.int (σ.1 1 1), .ref 2]) (q := some (.int (fX5_byteOf c1 v4))) (σ1 := σ) (kX5_byteOf e c1 v4 σ) sl_X5_15 rfl (Nat.le_of_ble_eq_true rfl) dX5_append_29 ?_
        obtain ⟨hb3, hf⟩ := grd_elim hf
        refine a_iast ia_2 hb3 dX5_append_32 ?_
        obtain ⟨σ4, hσ4, hf⟩ := bnd_elim hf
        rw [← hσ4]
        refine a_aload_n dX5_append_33 rfl 0 rfl ?_
        refine a_dup rfl dX5_append_34 ?_
        refine a_get (.int (σ4.1 1 1)) ob_1 (by decide) fl_X5_21 rfl dX5_append_35 ?_
        refine a_iconst (1 : Int32) dX5_append_38 rfl ?_
        refine a_iadd dX5_append_39 ?_
        refine a_putI ob_1 (by decide) fp_X5_21 (Or.inl rfl) dX5_append_40 ?_
        obtain ⟨σ5, hσ5, hf⟩ := bnd_elim hf
        rw [← hσ5]
        refine a_iinc (v4 + (1 : Int32)) dX5_append_43 3 rfl rfl (by decide) (loc' := [(4, .int (v4 + (1 : Int32))), (0, .ref 1), (1, .long c1), (3, .int c3)]) rfl ?_
        refine a_goto 3 dX5_append_46 (by decide) ?_
        refine a_locs (loc' := [(0, .ref 1), (1, .long c1), (3, .int c3), (4, .int (v4 + (1 : Int32)))]) [1, 2, 3, 0] rfl ?_
        exact ih (v4 + (1 : Int32)) σ5 hf h2
set_option maxHeartbeats 4000000 in
set_option maxRecDepth 100000 in
theorem kX5_append (e : Nat) (p1 : Int64) (p3 : Int32) (σ : St)  (q : St) (hf : fX5_append p1 p3 σ = some q) : Sp (e + 1) MX5_append [.ref 1, .long p1, .int p3] σ (none) q := by
  refine sp_of rfl (Nat.le_of_ble_eq_true rfl) (loc := [(0, .ref 1), (1, .long p1), (3, .int p3)]) rfl ?_
  unfold fX5_append at hf
  refine a_iconst (0 : Int32) dX5_append_0 rfl ?_
  refine a_istore dX5_append_1 (by decide) (loc' := [(4, .int (0 : Int32)), (0, .ref 1), (1, .long p1), (3, .int p3)]) rfl ?_
  obtain ⟨q6, hr7, hf⟩ := obind hf
  have hA8 : A (e + 1) MX5_append 49 [] [] q6 none q := by
    have hq := Option.some.inj hf
    subst hq
    exact a_vret rfl dX5_append_49
  refine a_locs (loc' := [(0, .ref 1), (1, .long p1), (3, .int p3), (4, .int (0 : Int32))]) [1, 2, 3, 0] rfl ?_
  exact kX5_append_L3 e p1 p3 q6 fu (0 : Int32) σ hr7 hA8
set_option maxHeartbeats 4000000 in
set_option maxRecDepth 100000 in
theorem kX8_letters (e : Nat) (p1 : Int64) (σ : St)  (q : Int32 × St) (hf : fX8_letters p1 σ = some q) : Sp (e + 2) MX8_letters [.ref 0, .long p1] σ (some (.int q.1)) q.2 := by
  refine sp_of rfl (Nat.le_of_ble_eq_true rfl) (loc := [(0, .ref 0), (1, .long p1)]) rfl ?_
  unfold fX8_letters at hf
  refine a_lload_n dX8_letters_0 rfl 1 rfl ?_
  obtain ⟨q1, hq1, hf⟩ := obind hf
  refine a_callS (as := [.long p1]) (stk := []) (q := some (.int q1)) (σ1 := σ) (kX5_lettersIn e p1 σ _ hq1) sl_X8_64 rfl (Nat.le_of_ble_eq_true rfl) dX8_letters_1 ?_
  refine a_istore_n dX8_letters_4 rfl (by decide) (loc' := [(3, .int q1), (0, .ref 0), (1, .long p1)]) rfl ?_
  refine a_iload_n dX8_letters_5 rfl 0 rfl ?_
  refine a_iconst (-1 : Int32) dX8_letters_6 rfl ?_
  by_cases hc2 : q1 = (-1 : Int32)
  · rw [if_pos hc2] at hf
    refine a_icmp_ne_f 13 dX8_letters_7 (by decide) hc2 ?_
    refine a_bipush (-102 : Int32) dX8_letters_10 rfl ?_
    have hq := Option.some.inj hf
    subst hq
    exact a_iret rfl dX8_letters_12
  · rw [if_neg hc2] at hf
    refine a_icmp_ne_t 13 dX8_letters_7 (by decide) hc2 ?_
    refine a_aload_n dX8_letters_13 rfl 1 rfl ?_
    refine a_get (.ref 1) ob_0 (by decide) fl_X8_12 rfl dX8_letters_14 ?_
    refine a_get (.int (σ.1 1 1)) ob_1 (by decide) fl_X8_68 rfl dX8_letters_17 ?_
    refine a_iload_n dX8_letters_20 rfl 0 rfl ?_
    refine a_iadd dX8_letters_21 ?_
    refine a_bipush (16 : Int32) dX8_letters_22 rfl ?_
    by_cases hc3 : ((σ.1 1 1) + q1) ≤ (16 : Int32)
    · rw [if_pos hc3] at hf
      refine a_icmp_le_t 30 dX8_letters_24 (by decide) hc3 ?_
      refine a_aload_n dX8_letters_30 rfl 1 rfl ?_
      refine a_get (.ref 1) ob_0 (by decide) fl_X8_12 rfl dX8_letters_31 ?_
      refine a_lload_n dX8_letters_34 rfl 2 rfl ?_
      refine a_iload_n dX8_letters_35 rfl 0 rfl ?_
      obtain ⟨q4, hq4, hf⟩ := obind hf
      refine a_callV (as := [.long p1, .int q1]) (stk := []) (q := none) (σ1 := q4) (kX5_append e p1 q1 σ _ hq4) ob_1 vl_X8_72 rfl (Nat.le_of_ble_eq_true rfl) dX8_letters_36 ?_
      refine a_aload_n dX8_letters_39 rfl 1 rfl ?_
      refine a_get (.ref 1) ob_0 (by decide) fl_X8_12 rfl dX8_letters_40 ?_
      refine a_get (.int (q4.1 1 1)) ob_1 (by decide) fl_X8_68 rfl dX8_letters_43 ?_
      have hq := Option.some.inj hf
      subst hq
      exact a_iret rfl dX8_letters_46
    · rw [if_neg hc3] at hf
      refine a_icmp_le_f 30 dX8_letters_24 (by decide) hc3 ?_
      refine a_bipush (-104 : Int32) dX8_letters_27 rfl ?_
      have hq := Option.some.inj hf
      subst hq
      exact a_iret rfl dX8_letters_29
theorem bX8_within (p0 : Int32) (p1 : Int32) (p2 : Int32) : fX8_within p0 p1 p2 = 0 ∨ fX8_within p0 p1 p2 = 1 := by
  obtain ⟨z, hf⟩ : ∃ z, fX8_within p0 p1 p2 = z := ⟨_, rfl⟩
  rw [hf]
  unfold fX8_within at hf
  by_cases hc1 : p0 < p1
  · rw [if_pos hc1] at hf
    subst hf
    exact (Or.inl rfl)
  · rw [if_neg hc1] at hf
    by_cases hc2 : p2 < p0
    · rw [if_pos hc2] at hf
      subst hf
      exact (Or.inl rfl)
    · rw [if_neg hc2] at hf
      subst hf
      exact (Or.inr rfl)
set_option maxHeartbeats 4000000 in
set_option maxRecDepth 100000 in
theorem kX8_within (e : Nat) (p0 : Int32) (p1 : Int32) (p2 : Int32) (σ : St)  : Sp e MX8_within [.int p0, .int p1, .int p2] σ (some (.int (fX8_within p0 p1 p2))) σ := by
  refine sp_of rfl (Nat.le_of_ble_eq_true rfl) (loc := [(0, .int p0), (1, .int p1), (2, .int p2)]) rfl ?_
  obtain ⟨z, hf⟩ : ∃ z, fX8_within p0 p1 p2 = z := ⟨_, rfl⟩
  rw [hf]
  unfold fX8_within at hf
  refine a_iload_n dX8_within_0 rfl 0 rfl ?_
  refine a_iload_n dX8_within_1 rfl 1 rfl ?_
  by_cases hc1 : p0 < p1
  · rw [if_pos hc1] at hf
    refine a_icmp_lt_t 14 dX8_within_2 (by decide) hc1 ?_
    refine a_iconst (0 : Int32) dX8_within_14 rfl ?_
    subst hf
    exact a_zret rfl (Or.inl rfl) dX8_within_15
  · rw [if_neg hc1] at hf
    refine a_icmp_lt_f 14 dX8_within_2 (by decide) hc1 ?_
    refine a_iload_n dX8_within_5 rfl 0 rfl ?_
    refine a_iload_n dX8_within_6 rfl 2 rfl ?_
    by_cases hc2 : p2 < p0
    · rw [if_pos hc2] at hf
      refine a_icmp_gt_t 14 dX8_within_7 (by decide) hc2 ?_
      refine a_iconst (0 : Int32) dX8_within_14 rfl ?_
      subst hf
      exact a_zret rfl (Or.inl rfl) dX8_within_15
    · rw [if_neg hc2] at hf
      refine a_icmp_gt_f 14 dX8_within_7 (by decide) hc2 ?_
      refine a_iconst (1 : Int32) dX8_within_10 rfl ?_
      refine a_goto 15 dX8_within_11 (by decide) ?_
      subst hf
      exact a_zret rfl (Or.inr rfl) dX8_within_15
set_option maxHeartbeats 4000000 in
set_option maxRecDepth 100000 in
theorem kX5_behind (e : Nat) (p0 : Int32) (p1 : Int32) (σ : St)  : Sp (e + 1) MX5_behind [.int p0, .int p1] σ (some (.int (fX5_behind p0 p1))) σ := by
  refine sp_of rfl (Nat.le_of_ble_eq_true rfl) (loc := [(0, .int p0), (1, .int p1)]) rfl ?_
  obtain ⟨z, hf⟩ : ∃ z, fX5_behind p0 p1 = z := ⟨_, rfl⟩
  rw [hf]
  unfold fX5_behind at hf
  refine a_iload_n dX5_behind_0 rfl 0 rfl ?_
  refine a_iconst (1 : Int32) dX5_behind_1 rfl ?_
  by_cases hc1 : p0 = (1 : Int32)
  · rw [if_pos hc1] at hf
    refine a_icmp_ne_f 22 dX5_behind_2 (by decide) hc1 ?_
    refine a_iload_n dX5_behind_5 rfl 1 rfl ?_
    refine a_bipush (49 : Int32) dX5_behind_6 rfl ?_
    refine a_bipush (51 : Int32) dX5_behind_8 rfl ?_
    refine a_callS (as := [.int p1, .int (49 : Int32), .int (51 : Int32)]) (stk := []) (q := some (.int (fX8_within p1 (49 : Int32) (51 : Int32)))) (σ1 := σ) (kX8_within e p1 (49 : Int32) (51 : Int32) σ) sl_X5_29 rfl (Nat.le_of_ble_eq_true rfl) dX5_behind_10 ?_
    by_cases hc2 : (fX8_within p1 (49 : Int32) (51 : Int32)) = 0
    · rw [if_pos hc2] at hf
      refine a_if_eq_t 20 dX5_behind_13 (by decide) hc2 ?_
      refine a_iconst (-1 : Int32) dX5_behind_20 rfl ?_
      subst hf
      exact a_iret rfl dX5_behind_21
    · rw [if_neg hc2] at hf
      refine a_if_eq_f 20 dX5_behind_13 (by decide) hc2 ?_
      refine a_iconst (2 : Int32) dX5_behind_16 rfl ?_
      refine a_goto 21 dX5_behind_17 (by decide) ?_
      subst hf
      exact a_iret rfl dX5_behind_21
  · rw [if_neg hc1] at hf
    refine a_icmp_ne_t 22 dX5_behind_2 (by decide) hc1 ?_
    refine a_iload_n dX5_behind_22 rfl 0 rfl ?_
    refine a_iconst (5 : Int32) dX5_behind_23 rfl ?_
    by_cases hc3 : p0 = (5 : Int32)
    · rw [if_pos hc3] at hf
      refine a_icmp_ne_f 45 dX5_behind_24 (by decide) hc3 ?_
      refine a_iload_n dX5_behind_27 rfl 1 rfl ?_
      refine a_bipush (49 : Int32) dX5_behind_28 rfl ?_
      refine a_bipush (57 : Int32) dX5_behind_30 rfl ?_
      refine a_callS (as := [.int p1, .int (49 : Int32), .int (57 : Int32)]) (stk := []) (q := some (.int (fX8_within p1 (49 : Int32) (57 : Int32)))) (σ1 := σ) (kX8_within e p1 (49 : Int32) (57 : Int32) σ) sl_X5_29 rfl (Nat.le_of_ble_eq_true rfl) dX5_behind_32 ?_
      by_cases hc4 : (fX8_within p1 (49 : Int32) (57 : Int32)) = 0
      · rw [if_pos hc4] at hf
        refine a_if_eq_t 43 dX5_behind_35 (by decide) hc4 ?_
        refine a_iconst (-1 : Int32) dX5_behind_43 rfl ?_
        subst hf
        exact a_iret rfl dX5_behind_44
      · rw [if_neg hc4] at hf
        refine a_if_eq_f 43 dX5_behind_35 (by decide) hc4 ?_
        refine a_bipush (6 : Int32) dX5_behind_38 rfl ?_
        refine a_goto 44 dX5_behind_40 (by decide) ?_
        subst hf
        exact a_iret rfl dX5_behind_44
    · rw [if_neg hc3] at hf
      refine a_icmp_ne_t 45 dX5_behind_24 (by decide) hc3 ?_
      refine a_iload_n dX5_behind_45 rfl 1 rfl ?_
      refine a_bipush (107 : Int32) dX5_behind_46 rfl ?_
      by_cases hc5 : p1 = (107 : Int32)
      · rw [if_pos hc5] at hf
        refine a_icmp_ne_f 57 dX5_behind_48 (by decide) hc5 ?_
        refine a_iload_n dX5_behind_51 rfl 0 rfl ?_
        by_cases hc6 : p0 = 0
        · rw [if_pos hc6] at hf
          refine a_if_ne_f 57 dX5_behind_52 (by decide) hc6 ?_
          refine a_iconst (1 : Int32) dX5_behind_55 rfl ?_
          subst hf
          exact a_iret rfl dX5_behind_56
        · rw [if_neg hc6] at hf
          refine a_if_ne_t 57 dX5_behind_52 (by decide) hc6 ?_
          refine a_iload_n dX5_behind_57 rfl 1 rfl ?_
          refine a_bipush (98 : Int32) dX5_behind_58 rfl ?_
          by_cases hc7 : p1 = (98 : Int32)
          · rw [if_pos hc7] at hf
            refine a_icmp_ne_f 70 dX5_behind_60 (by decide) hc7 ?_
            refine a_iload_n dX5_behind_63 rfl 0 rfl ?_
            refine a_iconst (3 : Int32) dX5_behind_64 rfl ?_
            by_cases hc8 : (3 : Int32) ≤ p0
            · rw [if_pos hc8] at hf
              refine a_icmp_ge_t 70 dX5_behind_65 (by decide) hc8 ?_
              refine a_iload_n dX5_behind_70 rfl 1 rfl ?_
              refine a_bipush (111 : Int32) dX5_behind_71 rfl ?_
              by_cases hc9 : p1 = (111 : Int32)
              · rw [if_pos hc9] at hf
                refine a_icmp_ne_f 83 dX5_behind_73 (by decide) hc9 ?_
                refine a_iload_n dX5_behind_76 rfl 0 rfl ?_
                refine a_iconst (4 : Int32) dX5_behind_77 rfl ?_
                by_cases hc10 : (4 : Int32) ≤ p0
                · rw [if_pos hc10] at hf
                  refine a_icmp_ge_t 83 dX5_behind_78 (by decide) hc10 ?_
                  refine a_iload_n dX5_behind_83 rfl 1 rfl ?_
                  refine a_bipush (119 : Int32) dX5_behind_84 rfl ?_
                  by_cases hc11 : p1 = (119 : Int32)
                  · rw [if_pos hc11] at hf
                    refine a_icmp_ne_f 96 dX5_behind_86 (by decide) hc11 ?_
                    refine a_iload_n dX5_behind_89 rfl 0 rfl ?_
                    refine a_iconst (5 : Int32) dX5_behind_90 rfl ?_
                    by_cases hc12 : (5 : Int32) ≤ p0
                    · rw [if_pos hc12] at hf
                      refine a_icmp_ge_t 96 dX5_behind_91 (by decide) hc12 ?_
                      refine a_iconst (-1 : Int32) dX5_behind_96 rfl ?_
                      subst hf
                      exact a_iret rfl dX5_behind_97
                    · rw [if_neg hc12] at hf
                      refine a_icmp_ge_f 96 dX5_behind_91 (by decide) hc12 ?_
                      refine a_iconst (5 : Int32) dX5_behind_94 rfl ?_
                      subst hf
                      exact a_iret rfl dX5_behind_95
                  · rw [if_neg hc11] at hf
                    refine a_icmp_ne_t 96 dX5_behind_86 (by decide) hc11 ?_
                    refine a_iconst (-1 : Int32) dX5_behind_96 rfl ?_
                    subst hf
                    exact a_iret rfl dX5_behind_97
                · rw [if_neg hc10] at hf
                  refine a_icmp_ge_f 83 dX5_behind_78 (by decide) hc10 ?_
                  refine a_iconst (4 : Int32) dX5_behind_81 rfl ?_
                  subst hf
                  exact a_iret rfl dX5_behind_82
              · rw [if_neg hc9] at hf
                refine a_icmp_ne_t 83 dX5_behind_73 (by decide) hc9 ?_
                refine a_iload_n dX5_behind_83 rfl 1 rfl ?_
                refine a_bipush (119 : Int32) dX5_behind_84 rfl ?_
                by_cases hc13 : p1 = (119 : Int32)
                · rw [if_pos hc13] at hf
                  refine a_icmp_ne_f 96 dX5_behind_86 (by decide) hc13 ?_
                  refine a_iload_n dX5_behind_89 rfl 0 rfl ?_
                  refine a_iconst (5 : Int32) dX5_behind_90 rfl ?_
                  by_cases hc14 : (5 : Int32) ≤ p0
                  · rw [if_pos hc14] at hf
                    refine a_icmp_ge_t 96 dX5_behind_91 (by decide) hc14 ?_
                    refine a_iconst (-1 : Int32) dX5_behind_96 rfl ?_
                    subst hf
                    exact a_iret rfl dX5_behind_97
                  · rw [if_neg hc14] at hf
                    refine a_icmp_ge_f 96 dX5_behind_91 (by decide) hc14 ?_
                    refine a_iconst (5 : Int32) dX5_behind_94 rfl ?_
                    subst hf
                    exact a_iret rfl dX5_behind_95
                · rw [if_neg hc13] at hf
                  refine a_icmp_ne_t 96 dX5_behind_86 (by decide) hc13 ?_
                  refine a_iconst (-1 : Int32) dX5_behind_96 rfl ?_
                  subst hf
                  exact a_iret rfl dX5_behind_97
            · rw [if_neg hc8] at hf
              refine a_icmp_ge_f 70 dX5_behind_65 (by decide) hc8 ?_
              refine a_iconst (3 : Int32) dX5_behind_68 rfl ?_
              subst hf
              exact a_iret rfl dX5_behind_69
          · rw [if_neg hc7] at hf
            refine a_icmp_ne_t 70 dX5_behind_60 (by decide) hc7 ?_
            refine a_iload_n dX5_behind_70 rfl 1 rfl ?_
            refine a_bipush (111 : Int32) dX5_behind_71 rfl ?_
            by_cases hc15 : p1 = (111 : Int32)
            · rw [if_pos hc15] at hf
              refine a_icmp_ne_f 83 dX5_behind_73 (by decide) hc15 ?_
              refine a_iload_n dX5_behind_76 rfl 0 rfl ?_
              refine a_iconst (4 : Int32) dX5_behind_77 rfl ?_
              by_cases hc16 : (4 : Int32) ≤ p0
              · rw [if_pos hc16] at hf
                refine a_icmp_ge_t 83 dX5_behind_78 (by decide) hc16 ?_
                refine a_iload_n dX5_behind_83 rfl 1 rfl ?_
                refine a_bipush (119 : Int32) dX5_behind_84 rfl ?_
                by_cases hc17 : p1 = (119 : Int32)
                · rw [if_pos hc17] at hf
                  refine a_icmp_ne_f 96 dX5_behind_86 (by decide) hc17 ?_
                  refine a_iload_n dX5_behind_89 rfl 0 rfl ?_
                  refine a_iconst (5 : Int32) dX5_behind_90 rfl ?_
                  by_cases hc18 : (5 : Int32) ≤ p0
                  · rw [if_pos hc18] at hf
                    refine a_icmp_ge_t 96 dX5_behind_91 (by decide) hc18 ?_
                    refine a_iconst (-1 : Int32) dX5_behind_96 rfl ?_
                    subst hf
                    exact a_iret rfl dX5_behind_97
                  · rw [if_neg hc18] at hf
                    refine a_icmp_ge_f 96 dX5_behind_91 (by decide) hc18 ?_
                    refine a_iconst (5 : Int32) dX5_behind_94 rfl ?_
                    subst hf
                    exact a_iret rfl dX5_behind_95
                · rw [if_neg hc17] at hf
                  refine a_icmp_ne_t 96 dX5_behind_86 (by decide) hc17 ?_
                  refine a_iconst (-1 : Int32) dX5_behind_96 rfl ?_
                  subst hf
                  exact a_iret rfl dX5_behind_97
              · rw [if_neg hc16] at hf
                refine a_icmp_ge_f 83 dX5_behind_78 (by decide) hc16 ?_
                refine a_iconst (4 : Int32) dX5_behind_81 rfl ?_
                subst hf
                exact a_iret rfl dX5_behind_82
            · rw [if_neg hc15] at hf
              refine a_icmp_ne_t 83 dX5_behind_73 (by decide) hc15 ?_
              refine a_iload_n dX5_behind_83 rfl 1 rfl ?_
              refine a_bipush (119 : Int32) dX5_behind_84 rfl ?_
              by_cases hc19 : p1 = (119 : Int32)
              · rw [if_pos hc19] at hf
                refine a_icmp_ne_f 96 dX5_behind_86 (by decide) hc19 ?_
                refine a_iload_n dX5_behind_89 rfl 0 rfl ?_
                refine a_iconst (5 : Int32) dX5_behind_90 rfl ?_
                by_cases hc20 : (5 : Int32) ≤ p0
                · rw [if_pos hc20] at hf
                  refine a_icmp_ge_t 96 dX5_behind_91 (by decide) hc20 ?_
                  refine a_iconst (-1 : Int32) dX5_behind_96 rfl ?_
                  subst hf
                  exact a_iret rfl dX5_behind_97
                · rw [if_neg hc20] at hf
                  refine a_icmp_ge_f 96 dX5_behind_91 (by decide) hc20 ?_
                  refine a_iconst (5 : Int32) dX5_behind_94 rfl ?_
                  subst hf
                  exact a_iret rfl dX5_behind_95
              · rw [if_neg hc19] at hf
                refine a_icmp_ne_t 96 dX5_behind_86 (by decide) hc19 ?_
                refine a_iconst (-1 : Int32) dX5_behind_96 rfl ?_
                subst hf
                exact a_iret rfl dX5_behind_97
      · rw [if_neg hc5] at hf
        refine a_icmp_ne_t 57 dX5_behind_48 (by decide) hc5 ?_
        refine a_iload_n dX5_behind_57 rfl 1 rfl ?_
        refine a_bipush (98 : Int32) dX5_behind_58 rfl ?_
        by_cases hc21 : p1 = (98 : Int32)
        · rw [if_pos hc21] at hf
          refine a_icmp_ne_f 70 dX5_behind_60 (by decide) hc21 ?_
          refine a_iload_n dX5_behind_63 rfl 0 rfl ?_
          refine a_iconst (3 : Int32) dX5_behind_64 rfl ?_
          by_cases hc22 : (3 : Int32) ≤ p0
          · rw [if_pos hc22] at hf
            refine a_icmp_ge_t 70 dX5_behind_65 (by decide) hc22 ?_
            refine a_iload_n dX5_behind_70 rfl 1 rfl ?_
            refine a_bipush (111 : Int32) dX5_behind_71 rfl ?_
            by_cases hc23 : p1 = (111 : Int32)
            · rw [if_pos hc23] at hf
              refine a_icmp_ne_f 83 dX5_behind_73 (by decide) hc23 ?_
              refine a_iload_n dX5_behind_76 rfl 0 rfl ?_
              refine a_iconst (4 : Int32) dX5_behind_77 rfl ?_
              by_cases hc24 : (4 : Int32) ≤ p0
              · rw [if_pos hc24] at hf
                refine a_icmp_ge_t 83 dX5_behind_78 (by decide) hc24 ?_
                refine a_iload_n dX5_behind_83 rfl 1 rfl ?_
                refine a_bipush (119 : Int32) dX5_behind_84 rfl ?_
                by_cases hc25 : p1 = (119 : Int32)
                · rw [if_pos hc25] at hf
                  refine a_icmp_ne_f 96 dX5_behind_86 (by decide) hc25 ?_
                  refine a_iload_n dX5_behind_89 rfl 0 rfl ?_
                  refine a_iconst (5 : Int32) dX5_behind_90 rfl ?_
                  by_cases hc26 : (5 : Int32) ≤ p0
                  · rw [if_pos hc26] at hf
                    refine a_icmp_ge_t 96 dX5_behind_91 (by decide) hc26 ?_
                    refine a_iconst (-1 : Int32) dX5_behind_96 rfl ?_
                    subst hf
                    exact a_iret rfl dX5_behind_97
                  · rw [if_neg hc26] at hf
                    refine a_icmp_ge_f 96 dX5_behind_91 (by decide) hc26 ?_
                    refine a_iconst (5 : Int32) dX5_behind_94 rfl ?_
                    subst hf
                    exact a_iret rfl dX5_behind_95
                · rw [if_neg hc25] at hf
                  refine a_icmp_ne_t 96 dX5_behind_86 (by decide) hc25 ?_
                  refine a_iconst (-1 : Int32) dX5_behind_96 rfl ?_
                  subst hf
                  exact a_iret rfl dX5_behind_97
              · rw [if_neg hc24] at hf
                refine a_icmp_ge_f 83 dX5_behind_78 (by decide) hc24 ?_
                refine a_iconst (4 : Int32) dX5_behind_81 rfl ?_
                subst hf
                exact a_iret rfl dX5_behind_82
            · rw [if_neg hc23] at hf
              refine a_icmp_ne_t 83 dX5_behind_73 (by decide) hc23 ?_
              refine a_iload_n dX5_behind_83 rfl 1 rfl ?_
              refine a_bipush (119 : Int32) dX5_behind_84 rfl ?_
              by_cases hc27 : p1 = (119 : Int32)
              · rw [if_pos hc27] at hf
                refine a_icmp_ne_f 96 dX5_behind_86 (by decide) hc27 ?_
                refine a_iload_n dX5_behind_89 rfl 0 rfl ?_
                refine a_iconst (5 : Int32) dX5_behind_90 rfl ?_
                by_cases hc28 : (5 : Int32) ≤ p0
                · rw [if_pos hc28] at hf
                  refine a_icmp_ge_t 96 dX5_behind_91 (by decide) hc28 ?_
                  refine a_iconst (-1 : Int32) dX5_behind_96 rfl ?_
                  subst hf
                  exact a_iret rfl dX5_behind_97
                · rw [if_neg hc28] at hf
                  refine a_icmp_ge_f 96 dX5_behind_91 (by decide) hc28 ?_
                  refine a_iconst (5 : Int32) dX5_behind_94 rfl ?_
                  subst hf
                  exact a_iret rfl dX5_behind_95
              · rw [if_neg hc27] at hf
                refine a_icmp_ne_t 96 dX5_behind_86 (by decide) hc27 ?_
                refine a_iconst (-1 : Int32) dX5_behind_96 rfl ?_
                subst hf
                exact a_iret rfl dX5_behind_97
          · rw [if_neg hc22] at hf
            refine a_icmp_ge_f 70 dX5_behind_65 (by decide) hc22 ?_
            refine a_iconst (3 : Int32) dX5_behind_68 rfl ?_
            subst hf
            exact a_iret rfl dX5_behind_69
        · rw [if_neg hc21] at hf
          refine a_icmp_ne_t 70 dX5_behind_60 (by decide) hc21 ?_
          refine a_iload_n dX5_behind_70 rfl 1 rfl ?_
          refine a_bipush (111 : Int32) dX5_behind_71 rfl ?_
          by_cases hc29 : p1 = (111 : Int32)
          · rw [if_pos hc29] at hf
            refine a_icmp_ne_f 83 dX5_behind_73 (by decide) hc29 ?_
            refine a_iload_n dX5_behind_76 rfl 0 rfl ?_
            refine a_iconst (4 : Int32) dX5_behind_77 rfl ?_
            by_cases hc30 : (4 : Int32) ≤ p0
            · rw [if_pos hc30] at hf
              refine a_icmp_ge_t 83 dX5_behind_78 (by decide) hc30 ?_
              refine a_iload_n dX5_behind_83 rfl 1 rfl ?_
              refine a_bipush (119 : Int32) dX5_behind_84 rfl ?_
              by_cases hc31 : p1 = (119 : Int32)
              · rw [if_pos hc31] at hf
                refine a_icmp_ne_f 96 dX5_behind_86 (by decide) hc31 ?_
                refine a_iload_n dX5_behind_89 rfl 0 rfl ?_
                refine a_iconst (5 : Int32) dX5_behind_90 rfl ?_
                by_cases hc32 : (5 : Int32) ≤ p0
                · rw [if_pos hc32] at hf
                  refine a_icmp_ge_t 96 dX5_behind_91 (by decide) hc32 ?_
                  refine a_iconst (-1 : Int32) dX5_behind_96 rfl ?_
                  subst hf
                  exact a_iret rfl dX5_behind_97
                · rw [if_neg hc32] at hf
                  refine a_icmp_ge_f 96 dX5_behind_91 (by decide) hc32 ?_
                  refine a_iconst (5 : Int32) dX5_behind_94 rfl ?_
                  subst hf
                  exact a_iret rfl dX5_behind_95
              · rw [if_neg hc31] at hf
                refine a_icmp_ne_t 96 dX5_behind_86 (by decide) hc31 ?_
                refine a_iconst (-1 : Int32) dX5_behind_96 rfl ?_
                subst hf
                exact a_iret rfl dX5_behind_97
            · rw [if_neg hc30] at hf
              refine a_icmp_ge_f 83 dX5_behind_78 (by decide) hc30 ?_
              refine a_iconst (4 : Int32) dX5_behind_81 rfl ?_
              subst hf
              exact a_iret rfl dX5_behind_82
          · rw [if_neg hc29] at hf
            refine a_icmp_ne_t 83 dX5_behind_73 (by decide) hc29 ?_
            refine a_iload_n dX5_behind_83 rfl 1 rfl ?_
            refine a_bipush (119 : Int32) dX5_behind_84 rfl ?_
            by_cases hc33 : p1 = (119 : Int32)
            · rw [if_pos hc33] at hf
              refine a_icmp_ne_f 96 dX5_behind_86 (by decide) hc33 ?_
              refine a_iload_n dX5_behind_89 rfl 0 rfl ?_
              refine a_iconst (5 : Int32) dX5_behind_90 rfl ?_
              by_cases hc34 : (5 : Int32) ≤ p0
              · rw [if_pos hc34] at hf
                refine a_icmp_ge_t 96 dX5_behind_91 (by decide) hc34 ?_
                refine a_iconst (-1 : Int32) dX5_behind_96 rfl ?_
                subst hf
                exact a_iret rfl dX5_behind_97
              · rw [if_neg hc34] at hf
                refine a_icmp_ge_f 96 dX5_behind_91 (by decide) hc34 ?_
                refine a_iconst (5 : Int32) dX5_behind_94 rfl ?_
                subst hf
                exact a_iret rfl dX5_behind_95
            · rw [if_neg hc33] at hf
              refine a_icmp_ne_t 96 dX5_behind_86 (by decide) hc33 ?_
              refine a_iconst (-1 : Int32) dX5_behind_96 rfl ?_
              subst hf
              exact a_iret rfl dX5_behind_97
set_option maxHeartbeats 4000000 in
set_option maxRecDepth 100000 in
theorem kX5_firstFault_L4 (e : Nat)  (σ : St)  {r : Option Value} {τ : St} (q : Sum (Int32) (Unit)) : ∀ (n : Nat) (v1 : Int32) (v2 : Int32), fX5_firstFault_L4 σ n v1 v2 = some q → (∀ z, q = .inl z → r = some (.int z) ∧ τ = σ) → (∀ q1, q = .inr q1 → A (e + 2) MX5_firstFault 42 [(0, .ref 1)] [] σ r τ) → A (e + 2) MX5_firstFault 4 [(0, .ref 1), (1, .int v1), (2, .int v2)] [] σ r τ := by
  intro n
  induction n with
  | zero =>
    intro v1 v2  hf
    simp only [fX5_firstFault_L4] at hf
    exact absurd hf (by simp)
  | succ n ih =>
    intro v1 v2  hf h1 h2
    rw [fX5_firstFault_L4] at hf
    refine a_iload_n dX5_firstFault_4 rfl 2 rfl ?_
    refine a_aload_n dX5_firstFault_5 rfl 0 rfl ?_
    refine a_get (.int (σ.1 1 1)) ob_1 (by decide) fl_X5_21 rfl dX5_firstFault_6 ?_
    by_cases hc1 : (σ.1 1 1) ≤ v2
    · rw [if_pos hc1] at hf
      refine a_icmp_ge_t 42 dX5_firstFault_9 (by decide) hc1 ?_
      have hq := Option.some.inj hf
      refine a_locs (loc' := [(0, .ref 1)]) [0] rfl ?_
      exact h2 _ hq.symm
    · rw [if_neg hc1] at hf
      refine a_icmp_ge_f 42 dX5_firstFault_9 (by decide) hc1 ?_
      refine a_iload_n dX5_firstFault_12 rfl 2 rfl ?_
      refine a_bipush (16 : Int32) dX5_firstFault_13 rfl ?_
      by_cases hc2 : (16 : Int32) ≤ v2
      · rw [if_pos hc2] at hf
        refine a_icmp_ge_t 42 dX5_firstFault_15 (by decide) hc2 ?_
        have hq := Option.some.inj hf
        refine a_locs (loc' := [(0, .ref 1)]) [0] rfl ?_
        exact h2 _ hq.symm
      · rw [if_neg hc2] at hf
        refine a_icmp_ge_f 42 dX5_firstFault_15 (by decide) hc2 ?_
        refine a_iload_n dX5_firstFault_18 rfl 1 rfl ?_
        refine a_aload_n dX5_firstFault_19 rfl 0 rfl ?_
        refine a_get (.ref 2) ob_1 (by decide) fl_X5_9 rfl dX5_firstFault_20 ?_
        refine a_iload_n dX5_firstFault_23 rfl 2 rfl ?_
        obtain ⟨hb3, hf⟩ := grd_elim hf
        refine a_iald ia_2 hb3 dX5_firstFault_24 ?_
        refine a_callS (as := [.int v1, .int (σ.1 2 v2.toNatClampNeg)]) (stk := []) (q := some (.int (fX5_behind v1 (σ.1 2 v2.toNatClampNeg)))) (σ1 := σ) (kX5_behind e v1 (σ.1 2 v2.toNatClampNeg) σ) sl_X5_25 rfl (Nat.le_of_ble_eq_true rfl) dX5_firstFault_25 ?_
        obtain ⟨x4, hx4, hf⟩ := bnd_elim hf
        refine a_top (w := .int x4) (by rw [hx4]) ?_
        refine a_istore_n dX5_firstFault_28 rfl (by decide) (loc' := [(1, .int x4), (0, .ref 1), (2, .int v2)]) rfl ?_
        refine a_iload_n dX5_firstFault_29 rfl 0 rfl ?_
        refine a_iconst (-1 : Int32) dX5_firstFault_30 rfl ?_
        by_cases hc5 : x4 = (-1 : Int32)
        · rw [if_pos hc5] at hf
          refine a_icmp_ne_f 36 dX5_firstFault_31 (by decide) hc5 ?_
          refine a_iload_n dX5_firstFault_34 rfl 2 rfl ?_
          have hq := Option.some.inj hf
          obtain ⟨hr0, ht0⟩ := h1 _ hq.symm
          rw [hr0, ht0]
          exact a_iret rfl dX5_firstFault_35
        · rw [if_neg hc5] at hf
          refine a_icmp_ne_t 36 dX5_firstFault_31 (by decide) hc5 ?_
          refine a_iinc (v2 + (1 : Int32)) dX5_firstFault_36 2 rfl rfl (by decide) (loc' := [(2, .int (v2 + (1 : Int32))), (1, .int x4), (0, .ref 1)]) rfl ?_
          refine a_goto 4 dX5_firstFault_39 (by decide) ?_
          refine a_locs (loc' := [(0, .ref 1), (1, .int x4), (2, .int (v2 + (1 : Int32)))]) [2, 1, 0] rfl ?_
          exact ih x4 (v2 + (1 : Int32)) hf h1 h2
set_option maxHeartbeats 4000000 in
set_option maxRecDepth 100000 in
theorem kX5_firstFault (e : Nat)  (σ : St)  (q : Int32) (hf : fX5_firstFault σ = some q) : Sp (e + 2) MX5_firstFault [.ref 1] σ (some (.int q)) σ := by
  refine sp_of rfl (Nat.le_of_ble_eq_true rfl) (loc := [(0, .ref 1)]) rfl ?_
  unfold fX5_firstFault at hf
  refine a_iconst (0 : Int32) dX5_firstFault_0 rfl ?_
  refine a_istore_n dX5_firstFault_1 rfl (by decide) (loc' := [(1, .int (0 : Int32)), (0, .ref 1)]) rfl ?_
  refine a_iconst (0 : Int32) dX5_firstFault_2 rfl ?_
  refine a_istore_n dX5_firstFault_3 rfl (by decide) (loc' := [(2, .int (0 : Int32)), (1, .int (0 : Int32)), (0, .ref 1)]) rfl ?_
  obtain ⟨s7, hr8, hf⟩ := obind hf
  refine a_locs (loc' := [(0, .ref 1), (1, .int (0 : Int32)), (2, .int (0 : Int32))]) [2, 1, 0] rfl ?_
  refine kX5_firstFault_L4 e σ s7 fu (0 : Int32) (0 : Int32) hr8 ?_ ?_
  · intro z9 hz
    subst hz
    simp only [Sum.elim_inl] at hf
    have hq := Option.some.inj hf
    subst hq
    exact ⟨rfl, rfl⟩
  · intro q6 hz
    subst hz
    simp only [Sum.elim_inr] at hf
    refine a_aload_n dX5_firstFault_42 rfl 0 rfl ?_
    refine a_get (.int (σ.1 1 1)) ob_1 (by decide) fl_X5_21 rfl dX5_firstFault_43 ?_
    have hq := Option.some.inj hf
    subst hq
    exact a_iret rfl dX5_firstFault_46
set_option maxHeartbeats 4000000 in
set_option maxRecDepth 100000 in
theorem kX8_fault (e : Nat)  (σ : St)  (q : Int32) (hf : fX8_fault σ = some q) : Sp (e + 3) MX8_fault [.ref 0] σ (some (.int q)) σ := by
  refine sp_of rfl (Nat.le_of_ble_eq_true rfl) (loc := [(0, .ref 0)]) rfl ?_
  unfold fX8_fault at hf
  refine a_aload_n dX8_fault_0 rfl 0 rfl ?_
  refine a_get (.ref 1) ob_0 (by decide) fl_X8_12 rfl dX8_fault_1 ?_
  obtain ⟨q1, hq1, hf⟩ := obind hf
  refine a_callV (as := []) (stk := []) (q := some (.int q1)) (σ1 := σ) (kX5_firstFault e σ _ hq1) ob_1 vl_X8_76 rfl (Nat.le_of_ble_eq_true rfl) dX8_fault_4 ?_
  have hq := Option.some.inj hf
  subst hq
  exact a_iret rfl dX8_fault_7
theorem bX5_isLaw (σ : St) (q : Int32) (hf : fX5_isLaw σ = some q) : q = 0 ∨ q = 1 := by
  unfold fX5_isLaw at hf
  obtain ⟨q6, hr10, hf⟩ := obind hf
  by_cases hc7 : q6 = (-1 : Int32)
  · rw [if_pos hc7] at hf
    have hq := Option.some.inj hf
    subst hq
    exact (Or.inl rfl)
  · rw [if_neg hc7] at hf
    by_cases hc8 : q6 = (1 : Int32)
    · rw [if_pos hc8] at hf
      have hq := Option.some.inj hf
      subst hq
      exact (Or.inl rfl)
    · rw [if_neg hc8] at hf
      by_cases hc9 : q6 = (5 : Int32)
      · rw [if_pos hc9] at hf
        have hq := Option.some.inj hf
        subst hq
        exact (Or.inl rfl)
      · rw [if_neg hc9] at hf
        have hq := Option.some.inj hf
        subst hq
        exact (Or.inr rfl)
set_option maxHeartbeats 4000000 in
set_option maxRecDepth 100000 in
theorem kX5_isLaw_L4 (e : Nat)  (σ : St)  {r : Option Value} {τ : St} (q : (Int32)) : ∀ (n : Nat) (v1 : Int32) (v2 : Int32), fX5_isLaw_L4 σ n v1 v2 = some q → A (e + 2) MX5_isLaw 40 [(1, .int q)] [] σ r τ → A (e + 2) MX5_isLaw 4 [(0, .ref 1), (1, .int v1), (2, .int v2)] [] σ r τ := by
  intro n
  induction n with
  | zero =>
    intro v1 v2  hf
    simp only [fX5_isLaw_L4] at hf
    exact absurd hf (by simp)
  | succ n ih =>
    intro v1 v2  hf h2
    rw [fX5_isLaw_L4] at hf
    refine a_iload_n dX5_isLaw_4 rfl 2 rfl ?_
    refine a_aload_n dX5_isLaw_5 rfl 0 rfl ?_
    refine a_get (.int (σ.1 1 1)) ob_1 (by decide) fl_X5_21 rfl dX5_isLaw_6 ?_
    by_cases hc1 : (σ.1 1 1) ≤ v2
    · rw [if_pos hc1] at hf
      refine a_icmp_ge_t 40 dX5_isLaw_9 (by decide) hc1 ?_
      have hq := Option.some.inj hf
      rw [← hq] at h2
      refine a_locs (loc' := [(1, .int v1)]) [1] rfl ?_
      exact h2
    · rw [if_neg hc1] at hf
      refine a_icmp_ge_f 40 dX5_isLaw_9 (by decide) hc1 ?_
      refine a_iload_n dX5_isLaw_12 rfl 2 rfl ?_
      refine a_bipush (16 : Int32) dX5_isLaw_13 rfl ?_
      by_cases hc2 : (16 : Int32) ≤ v2
      · rw [if_pos hc2] at hf
        refine a_icmp_ge_t 40 dX5_isLaw_15 (by decide) hc2 ?_
        have hq := Option.some.inj hf
        rw [← hq] at h2
        refine a_locs (loc' := [(1, .int v1)]) [1] rfl ?_
        exact h2
      · rw [if_neg hc2] at hf
        refine a_icmp_ge_f 40 dX5_isLaw_15 (by decide) hc2 ?_
        refine a_iload_n dX5_isLaw_18 rfl 1 rfl ?_
        refine a_iconst (-1 : Int32) dX5_isLaw_19 rfl ?_
        by_cases hc3 : v1 = (-1 : Int32)
        · rw [if_pos hc3] at hf
          refine a_icmp_eq_t 40 dX5_isLaw_20 (by decide) hc3 ?_
          have hq := Option.some.inj hf
          rw [← hq] at h2
          refine a_locs (loc' := [(1, .int v1)]) [1] rfl ?_
          exact h2
        · rw [if_neg hc3] at hf
          refine a_icmp_eq_f 40 dX5_isLaw_20 (by decide) hc3 ?_
          refine a_iload_n dX5_isLaw_23 rfl 1 rfl ?_
          refine a_aload_n dX5_isLaw_24 rfl 0 rfl ?_
          refine a_get (.ref 2) ob_1 (by decide) fl_X5_9 rfl dX5_isLaw_25 ?_
          refine a_iload_n dX5_isLaw_28 rfl 2 rfl ?_
          obtain ⟨hb4, hf⟩ := grd_elim hf
          refine a_iald ia_2 hb4 dX5_isLaw_29 ?_
          refine a_callS (as := [.int v1, .int (σ.1 2 v2.toNatClampNeg)]) (stk := []) (q := some (.int (fX5_behind v1 (σ.1 2 v2.toNatClampNeg)))) (σ1 := σ) (kX5_behind e v1 (σ.1 2 v2.toNatClampNeg) σ) sl_X5_25 rfl (Nat.le_of_ble_eq_true rfl) dX5_isLaw_30 ?_
          obtain ⟨x5, hx5, hf⟩ := bnd_elim hf
          refine a_top (w := .int x5) (by rw [hx5]) ?_
          refine a_istore_n dX5_isLaw_33 rfl (by decide) (loc' := [(1, .int x5), (0, .ref 1), (2, .int v2)]) rfl ?_
          refine a_iinc (v2 + (1 : Int32)) dX5_isLaw_34 2 rfl rfl (by decide) (loc' := [(2, .int (v2 + (1 : Int32))), (1, .int x5), (0, .ref 1)]) rfl ?_
          refine a_goto 4 dX5_isLaw_37 (by decide) ?_
          refine a_locs (loc' := [(0, .ref 1), (1, .int x5), (2, .int (v2 + (1 : Int32)))]) [2, 1, 0] rfl ?_
          exact ih x5 (v2 + (1 : Int32)) hf h2
set_option maxHeartbeats 4000000 in
set_option maxRecDepth 100000 in
theorem kX5_isLaw (e : Nat)  (σ : St)  (q : Int32) (hf : fX5_isLaw σ = some q) : Sp (e + 2) MX5_isLaw [.ref 1] σ (some (.int q)) σ := by
  refine sp_of rfl (Nat.le_of_ble_eq_true rfl) (loc := [(0, .ref 1)]) rfl ?_
  unfold fX5_isLaw at hf
  refine a_iconst (0 : Int32) dX5_isLaw_0 rfl ?_
  refine a_istore_n dX5_isLaw_1 rfl (by decide) (loc' := [(1, .int (0 : Int32)), (0, .ref 1)]) rfl ?_
  refine a_iconst (0 : Int32) dX5_isLaw_2 rfl ?_
  refine a_istore_n dX5_isLaw_3 rfl (by decide) (loc' := [(2, .int (0 : Int32)), (1, .int (0 : Int32)), (0, .ref 1)]) rfl ?_
  obtain ⟨q6, hr10, hf⟩ := obind hf
  have hA11 : A (e + 2) MX5_isLaw 40 [(1, .int q6)] [] σ (some (.int q)) σ := by
    refine a_iload_n dX5_isLaw_40 rfl 0 rfl ?_
    refine a_iconst (-1 : Int32) dX5_isLaw_41 rfl ?_
    by_cases hc7 : q6 = (-1 : Int32)
    · rw [if_pos hc7] at hf
      refine a_icmp_eq_t 59 dX5_isLaw_42 (by decide) hc7 ?_
      refine a_iconst (0 : Int32) dX5_isLaw_59 rfl ?_
      have hq := Option.some.inj hf
      subst hq
      exact a_zret rfl (Or.inl rfl) dX5_isLaw_60
    · rw [if_neg hc7] at hf
      refine a_icmp_eq_f 59 dX5_isLaw_42 (by decide) hc7 ?_
      refine a_iload_n dX5_isLaw_45 rfl 0 rfl ?_
      refine a_iconst (1 : Int32) dX5_isLaw_46 rfl ?_
      by_cases hc8 : q6 = (1 : Int32)
      · rw [if_pos hc8] at hf
        refine a_icmp_eq_t 59 dX5_isLaw_47 (by decide) hc8 ?_
        refine a_iconst (0 : Int32) dX5_isLaw_59 rfl ?_
        have hq := Option.some.inj hf
        subst hq
        exact a_zret rfl (Or.inl rfl) dX5_isLaw_60
      · rw [if_neg hc8] at hf
        refine a_icmp_eq_f 59 dX5_isLaw_47 (by decide) hc8 ?_
        refine a_iload_n dX5_isLaw_50 rfl 0 rfl ?_
        refine a_iconst (5 : Int32) dX5_isLaw_51 rfl ?_
        by_cases hc9 : q6 = (5 : Int32)
        · rw [if_pos hc9] at hf
          refine a_icmp_eq_t 59 dX5_isLaw_52 (by decide) hc9 ?_
          refine a_iconst (0 : Int32) dX5_isLaw_59 rfl ?_
          have hq := Option.some.inj hf
          subst hq
          exact a_zret rfl (Or.inl rfl) dX5_isLaw_60
        · rw [if_neg hc9] at hf
          refine a_icmp_eq_f 59 dX5_isLaw_52 (by decide) hc9 ?_
          refine a_iconst (1 : Int32) dX5_isLaw_55 rfl ?_
          refine a_goto 60 dX5_isLaw_56 (by decide) ?_
          have hq := Option.some.inj hf
          subst hq
          exact a_zret rfl (Or.inr rfl) dX5_isLaw_60
  refine a_locs (loc' := [(0, .ref 1), (1, .int (0 : Int32)), (2, .int (0 : Int32))]) [2, 1, 0] rfl ?_
  exact kX5_isLaw_L4 e σ q6 fu (0 : Int32) (0 : Int32) hr10 hA11
set_option maxHeartbeats 4000000 in
set_option maxRecDepth 100000 in
theorem kX4_readFrom_L24 (e : Nat)    {r : Option Value} {τ : St} (q : (St)) : ∀ (n : Nat) (v2 : Int32) (v3 : Int32) (σ : St), fX4_readFrom_L24 n v2 v3 σ = some q → A e MX4_readFrom 118 [] [] q r τ → A e MX4_readFrom 24 [(0, .ref 3), (1, .ref 1), (2, .int v2), (3, .int v3)] [] σ r τ := by
  intro n
  induction n with
  | zero =>
    intro v2 v3 σ  hf
    simp only [fX4_readFrom_L24] at hf
    exact absurd hf (by simp)
  | succ n ih =>
    intro v2 v3 σ  hf h2
    rw [fX4_readFrom_L24] at hf
    refine a_iload_n dX4_readFrom_24 rfl 3 rfl ?_
    refine a_aload_n dX4_readFrom_25 rfl 1 rfl ?_
    refine a_get (.int (σ.1 1 1)) ob_1 (by decide) fl_X4_25 rfl dX4_readFrom_26 ?_
    by_cases hc5 : (σ.1 1 1) ≤ v3
    · rw [if_pos hc5] at hf
      refine a_icmp_ge_t 118 dX4_readFrom_29 (by decide) hc5 ?_
      have hq := Option.some.inj hf
      rw [← hq] at h2
      refine a_locs (loc' := []) [] rfl ?_
      exact h2
    · rw [if_neg hc5] at hf
      refine a_icmp_ge_f 118 dX4_readFrom_29 (by decide) hc5 ?_
      refine a_iload_n dX4_readFrom_32 rfl 3 rfl ?_
      refine a_bipush (16 : Int32) dX4_readFrom_33 rfl ?_
      by_cases hc6 : (16 : Int32) ≤ v3
      · rw [if_pos hc6] at hf
        refine a_icmp_ge_t 118 dX4_readFrom_35 (by decide) hc6 ?_
        have hq := Option.some.inj hf
        rw [← hq] at h2
        refine a_locs (loc' := []) [] rfl ?_
        exact h2
      · rw [if_neg hc6] at hf
        refine a_icmp_ge_f 118 dX4_readFrom_35 (by decide) hc6 ?_
        refine a_aload_n dX4_readFrom_38 rfl 1 rfl ?_
        refine a_get (.ref 2) ob_1 (by decide) fl_X4_30 rfl dX4_readFrom_39 ?_
        refine a_iload_n dX4_readFrom_42 rfl 3 rfl ?_
        obtain ⟨hb7, hf⟩ := grd_elim hf
        refine a_iald ia_2 hb7 dX4_readFrom_43 ?_
        obtain ⟨x8, hx8, hf⟩ := bnd_elim hf
        refine a_top (w := .int x8) (by rw [hx8]) ?_
        refine a_istore dX4_readFrom_44 (by decide) (loc' := [(4, .int x8), (0, .ref 3), (1, .ref 1), (2, .int v2), (3, .int v3)]) rfl ?_
        refine a_iload_n dX4_readFrom_46 rfl 3 rfl ?_
        refine a_bipush (107 : Int32) dX4_readFrom_47 rfl ?_
        obtain ⟨q10, hr12, hf⟩ := obind hf
        have hA11 : A e MX4_readFrom 109 [(0, .ref 3), (1, .ref 1), (3, .int v3), (4, .int x8)] [] q10 r τ := by
          refine a_iload dX4_readFrom_109 3 rfl ?_
          refine a_istore_n dX4_readFrom_111 rfl (by decide) (loc' := [(2, .int x8), (0, .ref 3), (1, .ref 1), (3, .int v3), (4, .int x8)]) rfl ?_
          refine a_iinc (v3 + (1 : Int32)) dX4_readFrom_112 3 rfl rfl (by decide) (loc' := [(3, .int (v3 + (1 : Int32))), (2, .int x8), (0, .ref 3), (1, .ref 1), (4, .int x8)]) rfl ?_
          refine a_goto 24 dX4_readFrom_115 (by decide) ?_
          refine a_locs (loc' := [(0, .ref 3), (1, .ref 1), (2, .int x8), (3, .int (v3 + (1 : Int32)))]) [2, 3, 1, 0] rfl ?_
          exact ih x8 (v3 + (1 : Int32)) q10 hf h2
        clear hf
        have hf := hr12
        clear hr12
        by_cases hc9 : v2 = (107 : Int32)
        · rw [if_pos hc9] at hf
          refine a_icmp_ne_f 64 dX4_readFrom_49 (by decide) hc9 ?_
          refine a_aload_n dX4_readFrom_52 rfl 1 rfl ?_
          refine a_iload dX4_readFrom_53 0 rfl ?_
          refine a_bipush (48 : Int32) dX4_readFrom_55 rfl ?_
          refine a_isub dX4_readFrom_57 ?_
          refine a_putI ob_3 (by decide) fp_X4_11 (Or.inl rfl) dX4_readFrom_58 ?_
          obtain ⟨σ13, hσ13, hf⟩ := bnd_elim hf
          rw [← hσ13]
          refine a_goto 109 dX4_readFrom_61 (by decide) ?_
          have hq := Option.some.inj hf
          subst hq
          refine a_locs (loc' := [(0, .ref 3), (1, .ref 1), (3, .int v3), (4, .int x8)]) [1, 2, 4, 0] rfl ?_
          exact hA11
        · rw [if_neg hc9] at hf
          refine a_icmp_ne_t 64 dX4_readFrom_49 (by decide) hc9 ?_
          refine a_iload_n dX4_readFrom_64 rfl 3 rfl ?_
          refine a_bipush (119 : Int32) dX4_readFrom_65 rfl ?_
          by_cases hc14 : v2 = (119 : Int32)
          · rw [if_pos hc14] at hf
            refine a_icmp_ne_f 82 dX4_readFrom_67 (by decide) hc14 ?_
            refine a_aload_n dX4_readFrom_70 rfl 1 rfl ?_
            refine a_iload dX4_readFrom_71 0 rfl ?_
            refine a_bipush (48 : Int32) dX4_readFrom_73 rfl ?_
            refine a_isub dX4_readFrom_75 ?_
            refine a_putI ob_3 (by decide) fp_X4_15 (Or.inl rfl) dX4_readFrom_76 ?_
            obtain ⟨σ15, hσ15, hf⟩ := bnd_elim hf
            rw [← hσ15]
            refine a_goto 109 dX4_readFrom_79 (by decide) ?_
            have hq := Option.some.inj hf
            subst hq
            refine a_locs (loc' := [(0, .ref 3), (1, .ref 1), (3, .int v3), (4, .int x8)]) [1, 2, 4, 0] rfl ?_
            exact hA11
          · rw [if_neg hc14] at hf
            refine a_icmp_ne_t 82 dX4_readFrom_67 (by decide) hc14 ?_
            refine a_iload dX4_readFrom_82 0 rfl ?_
            refine a_bipush (98 : Int32) dX4_readFrom_84 rfl ?_
            by_cases hc16 : x8 = (98 : Int32)
            · rw [if_pos hc16] at hf
              refine a_icmp_ne_f 97 dX4_readFrom_86 (by decide) hc16 ?_
              refine a_aload_n dX4_readFrom_89 rfl 1 rfl ?_
              refine a_iconst (1 : Int32) dX4_readFrom_90 rfl ?_
              refine a_putI ob_3 (by decide) fp_X4_18 (Or.inr ⟨rfl, (Or.inr rfl)⟩) dX4_readFrom_91 ?_
              obtain ⟨σ17, hσ17, hf⟩ := bnd_elim hf
              rw [← hσ17]
              refine a_goto 109 dX4_readFrom_94 (by decide) ?_
              have hq := Option.some.inj hf
              subst hq
              refine a_locs (loc' := [(0, .ref 3), (1, .ref 1), (3, .int v3), (4, .int x8)]) [1, 2, 4, 0] rfl ?_
              exact hA11
            · rw [if_neg hc16] at hf
              refine a_icmp_ne_t 97 dX4_readFrom_86 (by decide) hc16 ?_
              refine a_iload dX4_readFrom_97 0 rfl ?_
              refine a_bipush (111 : Int32) dX4_readFrom_99 rfl ?_
              by_cases hc18 : x8 = (111 : Int32)
              · rw [if_pos hc18] at hf
                refine a_icmp_ne_f 109 dX4_readFrom_101 (by decide) hc18 ?_
                refine a_aload_n dX4_readFrom_104 rfl 1 rfl ?_
                refine a_iconst (1 : Int32) dX4_readFrom_105 rfl ?_
                refine a_putI ob_3 (by decide) fp_X4_22 (Or.inr ⟨rfl, (Or.inr rfl)⟩) dX4_readFrom_106 ?_
                obtain ⟨σ19, hσ19, hf⟩ := bnd_elim hf
                rw [← hσ19]
                have hq := Option.some.inj hf
                subst hq
                refine a_locs (loc' := [(0, .ref 3), (1, .ref 1), (3, .int v3), (4, .int x8)]) [1, 2, 4, 0] rfl ?_
                exact hA11
              · rw [if_neg hc18] at hf
                refine a_icmp_ne_t 109 dX4_readFrom_101 (by decide) hc18 ?_
                have hq := Option.some.inj hf
                subst hq
                refine a_locs (loc' := [(0, .ref 3), (1, .ref 1), (3, .int v3), (4, .int x8)]) [1, 2, 4, 0] rfl ?_
                exact hA11
set_option maxHeartbeats 4000000 in
set_option maxRecDepth 100000 in
theorem kX4_readFrom (e : Nat)  (σ : St)  (q : St) (hf : fX4_readFrom σ = some q) : Sp e MX4_readFrom [.ref 3, .ref 1] σ (none) q := by
  refine sp_of rfl (Nat.le_of_ble_eq_true rfl) (loc := [(0, .ref 3), (1, .ref 1)]) rfl ?_
  unfold fX4_readFrom at hf
  refine a_aload_n dX4_readFrom_0 rfl 0 rfl ?_
  refine a_iconst (1 : Int32) dX4_readFrom_1 rfl ?_
  refine a_putI ob_3 (by decide) fp_X4_11 (Or.inl rfl) dX4_readFrom_2 ?_
  obtain ⟨σ1, hσ1, hf⟩ := bnd_elim hf
  rw [← hσ1]
  refine a_aload_n dX4_readFrom_5 rfl 0 rfl ?_
  refine a_iconst (0 : Int32) dX4_readFrom_6 rfl ?_
  refine a_putI ob_3 (by decide) fp_X4_18 (Or.inr ⟨rfl, (Or.inl rfl)⟩) dX4_readFrom_7 ?_
  obtain ⟨σ2, hσ2, hf⟩ := bnd_elim hf
  rw [← hσ2]
  refine a_aload_n dX4_readFrom_10 rfl 0 rfl ?_
  refine a_iconst (0 : Int32) dX4_readFrom_11 rfl ?_
  refine a_putI ob_3 (by decide) fp_X4_22 (Or.inr ⟨rfl, (Or.inl rfl)⟩) dX4_readFrom_12 ?_
  obtain ⟨σ3, hσ3, hf⟩ := bnd_elim hf
  rw [← hσ3]
  refine a_aload_n dX4_readFrom_15 rfl 0 rfl ?_
  refine a_iconst (3 : Int32) dX4_readFrom_16 rfl ?_
  refine a_putI ob_3 (by decide) fp_X4_15 (Or.inl rfl) dX4_readFrom_17 ?_
  obtain ⟨σ4, hσ4, hf⟩ := bnd_elim hf
  rw [← hσ4]
  refine a_iconst (0 : Int32) dX4_readFrom_20 rfl ?_
  refine a_istore_n dX4_readFrom_21 rfl (by decide) (loc' := [(2, .int (0 : Int32)), (0, .ref 3), (1, .ref 1)]) rfl ?_
  refine a_iconst (0 : Int32) dX4_readFrom_22 rfl ?_
  refine a_istore_n dX4_readFrom_23 rfl (by decide) (loc' := [(3, .int (0 : Int32)), (2, .int (0 : Int32)), (0, .ref 3), (1, .ref 1)]) rfl ?_
  obtain ⟨q20, hr21, hf⟩ := obind hf
  have hA22 : A e MX4_readFrom 118 [] [] q20 none q := by
    have hq := Option.some.inj hf
    subst hq
    exact a_vret rfl dX4_readFrom_118
  refine a_locs (loc' := [(0, .ref 3), (1, .ref 1), (2, .int (0 : Int32)), (3, .int (0 : Int32))]) [2, 3, 1, 0] rfl ?_
  exact kX4_readFrom_L24 e q20 fu (0 : Int32) (0 : Int32) σ4 hr21 hA22
set_option maxHeartbeats 4000000 in
set_option maxRecDepth 100000 in
theorem kX8_law (e : Nat)  (σ : St)  (q : Int32 × St) (hf : fX8_law σ = some q) : Sp (e + 3) MX8_law [.ref 0] σ (some (.int q.1)) q.2 := by
  refine sp_of rfl (Nat.le_of_ble_eq_true rfl) (loc := [(0, .ref 0)]) rfl ?_
  unfold fX8_law at hf
  refine a_aload_n dX8_law_0 rfl 0 rfl ?_
  refine a_get (.ref 1) ob_0 (by decide) fl_X8_12 rfl dX8_law_1 ?_
  obtain ⟨q1, hq1, hf⟩ := obind hf
  refine a_callV (as := []) (stk := []) (q := some (.int q1)) (σ1 := σ) (kX5_isLaw e σ _ hq1) ob_1 vl_X8_80 rfl (Nat.le_of_ble_eq_true rfl) dX8_law_4 ?_
  by_cases hc2 : q1 = 0
  · rw [if_pos hc2] at hf
    refine a_if_ne_f 13 dX8_law_7 (by decide) hc2 ?_
    refine a_bipush (-103 : Int32) dX8_law_10 rfl ?_
    have hq := Option.some.inj hf
    subst hq
    exact a_iret rfl dX8_law_12
  · rw [if_neg hc2] at hf
    refine a_if_ne_t 13 dX8_law_7 (by decide) hc2 ?_
    refine a_aload_n dX8_law_13 rfl 0 rfl ?_
    refine a_get (.ref 3) ob_0 (by decide) fl_X8_19 rfl dX8_law_14 ?_
    refine a_aload_n dX8_law_17 rfl 0 rfl ?_
    refine a_get (.ref 1) ob_0 (by decide) fl_X8_12 rfl dX8_law_18 ?_
    obtain ⟨q3, hq3, hf⟩ := obind hf
    refine a_callV (as := [.ref 1]) (stk := []) (q := none) (σ1 := q3) (kX4_readFrom (e + 2) σ _ hq3) ob_3 vl_X8_84 rfl (Nat.le_of_ble_eq_true rfl) dX8_law_21 ?_
    refine a_aload_n dX8_law_24 rfl 0 rfl ?_
    refine a_get (.ref 1) ob_0 (by decide) fl_X8_12 rfl dX8_law_25 ?_
    refine a_iconst (0 : Int32) dX8_law_28 rfl ?_
    refine a_putI ob_1 (by decide) fp_X8_68 (Or.inl rfl) dX8_law_29 ?_
    obtain ⟨σ4, hσ4, hf⟩ := bnd_elim hf
    rw [← hσ4]
    refine a_aload_n dX8_law_32 rfl 0 rfl ?_
    refine a_dup rfl dX8_law_33 ?_
    refine a_get (.int (σ4.1 0 9)) ob_0 (by decide) fl_X8_88 rfl dX8_law_34 ?_
    refine a_iconst (1 : Int32) dX8_law_37 rfl ?_
    refine a_iadd dX8_law_38 ?_
    refine a_putI ob_0 (by decide) fp_X8_88 (Or.inl rfl) dX8_law_39 ?_
    obtain ⟨σ5, hσ5, hf⟩ := bnd_elim hf
    rw [← hσ5]
    refine a_aload_n dX8_law_42 rfl 0 rfl ?_
    refine a_get (.int (σ5.1 0 9)) ob_0 (by decide) fl_X8_88 rfl dX8_law_43 ?_
    have hq := Option.some.inj hf
    subst hq
    exact a_iret rfl dX8_law_46
set_option maxHeartbeats 4000000 in
set_option maxRecDepth 100000 in
theorem kX8_lawTold (e : Nat) (p1 : Int32) (σ : St)  : Sp (e + 1) MX8_lawTold [.ref 0, .int p1] σ (some (.int (fX8_lawTold p1 σ))) σ := by
  refine sp_of rfl (Nat.le_of_ble_eq_true rfl) (loc := [(0, .ref 0), (1, .int p1)]) rfl ?_
  obtain ⟨z, hf⟩ : ∃ z, fX8_lawTold p1 σ = z := ⟨_, rfl⟩
  rw [hf]
  unfold fX8_lawTold at hf
  refine a_iload_n dX8_lawTold_0 rfl 1 rfl ?_
  refine a_iconst (0 : Int32) dX8_lawTold_1 rfl ?_
  refine a_iconst (3 : Int32) dX8_lawTold_2 rfl ?_
  refine a_callS (as := [.int p1, .int (0 : Int32), .int (3 : Int32)]) (stk := []) (q := some (.int (fX8_within p1 (0 : Int32) (3 : Int32)))) (σ1 := σ) (kX8_within e p1 (0 : Int32) (3 : Int32) σ) sl_X8_91 rfl (Nat.le_of_ble_eq_true rfl) dX8_lawTold_3 ?_
  by_cases hc1 : (fX8_within p1 (0 : Int32) (3 : Int32)) = 0
  · rw [if_pos hc1] at hf
    refine a_if_ne_f 12 dX8_lawTold_6 (by decide) hc1 ?_
    refine a_bipush (-102 : Int32) dX8_lawTold_9 rfl ?_
    subst hf
    exact a_iret rfl dX8_lawTold_11
  · rw [if_neg hc1] at hf
    refine a_if_ne_t 12 dX8_lawTold_6 (by decide) hc1 ?_
    refine a_iload_n dX8_lawTold_12 rfl 1 rfl ?_
    by_cases hc2 : p1 = (0 : Int32)
    · rw [if_pos hc2] at hf
      refine a_tabIn (0 : Int32) 40 dX8_lawTold_13 hc2 (by decide) (by decide) rfl (by decide) ?_
      refine a_aload_n dX8_lawTold_40 rfl 0 rfl ?_
      refine a_get (.ref 3) ob_0 (by decide) fl_X8_19 rfl dX8_lawTold_41 ?_
      refine a_get (.int (σ.1 3 0)) ob_3 (by decide) fl_X8_95 rfl dX8_lawTold_44 ?_
      subst hf
      exact a_iret rfl dX8_lawTold_47
    · rw [if_neg hc2] at hf
      by_cases hc3 : p1 = (1 : Int32)
      · rw [if_pos hc3] at hf
        refine a_tabIn (1 : Int32) 48 dX8_lawTold_13 hc3 (by decide) (by decide) rfl (by decide) ?_
        refine a_aload_n dX8_lawTold_48 rfl 0 rfl ?_
        refine a_get (.ref 3) ob_0 (by decide) fl_X8_19 rfl dX8_lawTold_49 ?_
        refine a_get (.int (σ.1 3 1)) ob_3 (by decide) fl_X8_98 rfl dX8_lawTold_52 ?_
        by_cases hc4 : (σ.1 3 1) = 0
        · rw [if_pos hc4] at hf
          refine a_if_eq_t 62 dX8_lawTold_55 (by decide) hc4 ?_
          refine a_iconst (0 : Int32) dX8_lawTold_62 rfl ?_
          subst hf
          exact a_iret rfl dX8_lawTold_63
        · rw [if_neg hc4] at hf
          refine a_if_eq_f 62 dX8_lawTold_55 (by decide) hc4 ?_
          refine a_iconst (1 : Int32) dX8_lawTold_58 rfl ?_
          refine a_goto 63 dX8_lawTold_59 (by decide) ?_
          subst hf
          exact a_iret rfl dX8_lawTold_63
      · rw [if_neg hc3] at hf
        by_cases hc5 : p1 = (2 : Int32)
        · rw [if_pos hc5] at hf
          refine a_tabIn (2 : Int32) 64 dX8_lawTold_13 hc5 (by decide) (by decide) rfl (by decide) ?_
          refine a_aload_n dX8_lawTold_64 rfl 0 rfl ?_
          refine a_get (.ref 3) ob_0 (by decide) fl_X8_19 rfl dX8_lawTold_65 ?_
          refine a_get (.int (σ.1 3 2)) ob_3 (by decide) fl_X8_102 rfl dX8_lawTold_68 ?_
          by_cases hc6 : (σ.1 3 2) = 0
          · rw [if_pos hc6] at hf
            refine a_if_eq_t 78 dX8_lawTold_71 (by decide) hc6 ?_
            refine a_iconst (0 : Int32) dX8_lawTold_78 rfl ?_
            subst hf
            exact a_iret rfl dX8_lawTold_79
          · rw [if_neg hc6] at hf
            refine a_if_eq_f 78 dX8_lawTold_71 (by decide) hc6 ?_
            refine a_iconst (1 : Int32) dX8_lawTold_74 rfl ?_
            refine a_goto 79 dX8_lawTold_75 (by decide) ?_
            subst hf
            exact a_iret rfl dX8_lawTold_79
        · rw [if_neg hc5] at hf
          refine a_tabOut 80 dX8_lawTold_13 (by have q0 := lv_neT hc2 (show Int32.toInt (0 : Int32) = 0 from rfl); have q1 := lv_neT hc3 (show Int32.toInt (1 : Int32) = 1 from rfl); have q2 := lv_neT hc5 (show Int32.toInt (2 : Int32) = 2 from rfl); omega) (by decide) ?_
          refine a_aload_n dX8_lawTold_80 rfl 0 rfl ?_
          refine a_get (.ref 3) ob_0 (by decide) fl_X8_19 rfl dX8_lawTold_81 ?_
          refine a_get (.int (σ.1 3 3)) ob_3 (by decide) fl_X8_105 rfl dX8_lawTold_84 ?_
          subst hf
          exact a_iret rfl dX8_lawTold_87
set_option maxHeartbeats 4000000 in
set_option maxRecDepth 100000 in
theorem kX7_addPerson (e : Nat) (w : Nat) (p1 : Int32) (σ : St) (hw : isW w) (q : Int32 × St) (hf : fX7_addPerson w p1 σ = some q) : Sp e MX7_addPerson [.ref w, .int p1] σ (some (.int q.1)) q.2 := by
  refine sp_of rfl (Nat.le_of_ble_eq_true rfl) (loc := [(0, .ref w), (1, .int p1)]) rfl ?_
  unfold fX7_addPerson at hf
  refine a_aload_n dX7_addPerson_0 rfl 0 rfl ?_
  refine a_get (.ref (w + 1)) (obW hw) (by decide) fl_X7_9 (avW1 hw) dX7_addPerson_1 ?_
  refine a_aload_n dX7_addPerson_4 rfl 0 rfl ?_
  refine a_get (.int (σ.1 w 0)) (obW hw) (by decide) fl_X7_34 (avW0 hw) dX7_addPerson_5 ?_
  refine a_iload_n dX7_addPerson_8 rfl 1 rfl ?_
  obtain ⟨hb1, hf⟩ := grd_elim hf
  refine a_iast (iaW1 hw) hb1 dX7_addPerson_9 ?_
  obtain ⟨σ2, hσ2, hf⟩ := bnd_elim hf
  rw [← hσ2]
  refine a_aload_n dX7_addPerson_10 rfl 0 rfl ?_
  refine a_dup rfl dX7_addPerson_11 ?_
  refine a_get (.int (σ2.1 w 0)) (obW hw) (by decide) fl_X7_34 (avW0 hw) dX7_addPerson_12 ?_
  refine a_iconst (1 : Int32) dX7_addPerson_15 rfl ?_
  refine a_iadd dX7_addPerson_16 ?_
  refine a_putI (obW hw) (by decide) fp_X7_34 (Or.inl rfl) dX7_addPerson_17 ?_
  obtain ⟨σ3, hσ3, hf⟩ := bnd_elim hf
  rw [← hσ3]
  refine a_aload_n dX7_addPerson_20 rfl 0 rfl ?_
  refine a_get (.int (σ3.1 w 0)) (obW hw) (by decide) fl_X7_34 (avW0 hw) dX7_addPerson_21 ?_
  refine a_iconst (1 : Int32) dX7_addPerson_24 rfl ?_
  refine a_isub dX7_addPerson_25 ?_
  have hq := Option.some.inj hf
  subst hq
  exact a_iret rfl dX7_addPerson_26
set_option maxHeartbeats 4000000 in
set_option maxRecDepth 100000 in
theorem kX8_person (e : Nat) (p1 : Int32) (σ : St)  (q : Int32 × St) (hf : fX8_person p1 σ = some q) : Sp (e + 1) MX8_person [.ref 0, .int p1] σ (some (.int q.1)) q.2 := by
  refine sp_of rfl (Nat.le_of_ble_eq_true rfl) (loc := [(0, .ref 0), (1, .int p1)]) rfl ?_
  unfold fX8_person at hf
  refine a_iload_n dX8_person_0 rfl 1 rfl ?_
  refine a_iconst (0 : Int32) dX8_person_1 rfl ?_
  refine a_iconst (3 : Int32) dX8_person_2 rfl ?_
  refine a_callS (as := [.int p1, .int (0 : Int32), .int (3 : Int32)]) (stk := []) (q := some (.int (fX8_within p1 (0 : Int32) (3 : Int32)))) (σ1 := σ) (kX8_within e p1 (0 : Int32) (3 : Int32) σ) sl_X8_91 rfl (Nat.le_of_ble_eq_true rfl) dX8_person_3 ?_
  by_cases hc1 : (fX8_within p1 (0 : Int32) (3 : Int32)) = 0
  · rw [if_pos hc1] at hf
    refine a_if_ne_f 12 dX8_person_6 (by decide) hc1 ?_
    refine a_bipush (-102 : Int32) dX8_person_9 rfl ?_
    have hq := Option.some.inj hf
    subst hq
    exact a_iret rfl dX8_person_11
  · rw [if_neg hc1] at hf
    refine a_if_ne_t 12 dX8_person_6 (by decide) hc1 ?_
    refine a_aload_n dX8_person_12 rfl 0 rfl ?_
    refine a_get (.ref 4) ob_0 (by decide) fl_X8_26 rfl dX8_person_13 ?_
    refine a_get (.int (σ.1 4 0)) (obW isW_4) (by decide) fl_X8_108 (avW0 isW_4) dX8_person_16 ?_
    refine a_bipush (8 : Int32) dX8_person_19 rfl ?_
    by_cases hc2 : (σ.1 4 0) < (8 : Int32)
    · rw [if_pos hc2] at hf
      refine a_icmp_lt_t 27 dX8_person_21 (by decide) hc2 ?_
      refine a_aload_n dX8_person_27 rfl 0 rfl ?_
      refine a_get (.ref 4) ob_0 (by decide) fl_X8_26 rfl dX8_person_28 ?_
      refine a_iload_n dX8_person_31 rfl 1 rfl ?_
      obtain ⟨q3, hq3, hf⟩ := obind hf
      refine a_callV (as := [.int p1]) (stk := []) (q := some (.int q3.1)) (σ1 := q3.2) (kX7_addPerson e 4 p1 σ isW_4 _ hq3) (obW isW_4) vl_X8_111 rfl (Nat.le_of_ble_eq_true rfl) dX8_person_32 ?_
      have hq := Option.some.inj hf
      subst hq
      exact a_iret rfl dX8_person_35
    · rw [if_neg hc2] at hf
      refine a_icmp_lt_f 27 dX8_person_21 (by decide) hc2 ?_
      refine a_bipush (-104 : Int32) dX8_person_24 rfl ?_
      have hq := Option.some.inj hf
      subst hq
      exact a_iret rfl dX8_person_26
theorem bX8_isPerson (p1 : Int32) (σ : St) : fX8_isPerson p1 σ = 0 ∨ fX8_isPerson p1 σ = 1 := by
  obtain ⟨z, hf⟩ : ∃ z, fX8_isPerson p1 σ = z := ⟨_, rfl⟩
  rw [hf]
  unfold fX8_isPerson at hf
  by_cases hc1 : p1 < 0
  · rw [if_pos hc1] at hf
    subst hf
    exact (Or.inl rfl)
  · rw [if_neg hc1] at hf
    by_cases hc2 : (σ.1 4 0) ≤ p1
    · rw [if_pos hc2] at hf
      subst hf
      exact (Or.inl rfl)
    · rw [if_neg hc2] at hf
      subst hf
      exact (Or.inr rfl)
set_option maxHeartbeats 4000000 in
set_option maxRecDepth 100000 in
theorem kX8_isPerson (e : Nat) (p1 : Int32) (σ : St)  : Sp e MX8_isPerson [.ref 0, .int p1] σ (some (.int (fX8_isPerson p1 σ))) σ := by
  refine sp_of rfl (Nat.le_of_ble_eq_true rfl) (loc := [(0, .ref 0), (1, .int p1)]) rfl ?_
  obtain ⟨z, hf⟩ : ∃ z, fX8_isPerson p1 σ = z := ⟨_, rfl⟩
  rw [hf]
  unfold fX8_isPerson at hf
  refine a_iload_n dX8_isPerson_0 rfl 1 rfl ?_
  by_cases hc1 : p1 < 0
  · rw [if_pos hc1] at hf
    refine a_if_lt_t 19 dX8_isPerson_1 (by decide) hc1 ?_
    refine a_iconst (0 : Int32) dX8_isPerson_19 rfl ?_
    subst hf
    exact a_zret rfl (Or.inl rfl) dX8_isPerson_20
  · rw [if_neg hc1] at hf
    refine a_if_lt_f 19 dX8_isPerson_1 (by decide) hc1 ?_
    refine a_iload_n dX8_isPerson_4 rfl 1 rfl ?_
    refine a_aload_n dX8_isPerson_5 rfl 0 rfl ?_
    refine a_get (.ref 4) ob_0 (by decide) fl_X8_26 rfl dX8_isPerson_6 ?_
    refine a_get (.int (σ.1 4 0)) (obW isW_4) (by decide) fl_X8_108 (avW0 isW_4) dX8_isPerson_9 ?_
    by_cases hc2 : (σ.1 4 0) ≤ p1
    · rw [if_pos hc2] at hf
      refine a_icmp_ge_t 19 dX8_isPerson_12 (by decide) hc2 ?_
      refine a_iconst (0 : Int32) dX8_isPerson_19 rfl ?_
      subst hf
      exact a_zret rfl (Or.inl rfl) dX8_isPerson_20
    · rw [if_neg hc2] at hf
      refine a_icmp_ge_f 19 dX8_isPerson_12 (by decide) hc2 ?_
      refine a_iconst (1 : Int32) dX8_isPerson_15 rfl ?_
      refine a_goto 20 dX8_isPerson_16 (by decide) ?_
      subst hf
      exact a_zret rfl (Or.inr rfl) dX8_isPerson_20
theorem bX8_areTwo (p1 : Int32) (p2 : Int32) (σ : St) : fX8_areTwo p1 p2 σ = 0 ∨ fX8_areTwo p1 p2 σ = 1 := by
  obtain ⟨z, hf⟩ : ∃ z, fX8_areTwo p1 p2 σ = z := ⟨_, rfl⟩
  rw [hf]
  unfold fX8_areTwo at hf
  by_cases hc1 : (fX8_isPerson p1 σ) = 0
  · rw [if_pos hc1] at hf
    subst hf
    exact (Or.inl rfl)
  · rw [if_neg hc1] at hf
    by_cases hc2 : (fX8_isPerson p2 σ) = 0
    · rw [if_pos hc2] at hf
      subst hf
      exact (Or.inl rfl)
    · rw [if_neg hc2] at hf
      by_cases hc3 : p1 = p2
      · rw [if_pos hc3] at hf
        subst hf
        exact (Or.inl rfl)
      · rw [if_neg hc3] at hf
        subst hf
        exact (Or.inr rfl)
set_option maxHeartbeats 4000000 in
set_option maxRecDepth 100000 in
theorem kX8_areTwo (e : Nat) (p1 : Int32) (p2 : Int32) (σ : St)  : Sp (e + 1) MX8_areTwo [.ref 0, .int p1, .int p2] σ (some (.int (fX8_areTwo p1 p2 σ))) σ := by
  refine sp_of rfl (Nat.le_of_ble_eq_true rfl) (loc := [(0, .ref 0), (1, .int p1), (2, .int p2)]) rfl ?_
  obtain ⟨z, hf⟩ : ∃ z, fX8_areTwo p1 p2 σ = z := ⟨_, rfl⟩
  rw [hf]
  unfold fX8_areTwo at hf
  refine a_aload_n dX8_areTwo_0 rfl 0 rfl ?_
  refine a_iload_n dX8_areTwo_1 rfl 1 rfl ?_
  refine a_callV (as := [.int p1]) (stk := []) (q := some (.int (fX8_isPerson p1 σ))) (σ1 := σ) (kX8_isPerson e p1 σ) ob_0 vl_X8_134 rfl (Nat.le_of_ble_eq_true rfl) dX8_areTwo_2 ?_
  by_cases hc1 : (fX8_isPerson p1 σ) = 0
  · rw [if_pos hc1] at hf
    refine a_if_eq_t 25 dX8_areTwo_5 (by decide) hc1 ?_
    refine a_iconst (0 : Int32) dX8_areTwo_25 rfl ?_
    subst hf
    exact a_zret rfl (Or.inl rfl) dX8_areTwo_26
  · rw [if_neg hc1] at hf
    refine a_if_eq_f 25 dX8_areTwo_5 (by decide) hc1 ?_
    refine a_aload_n dX8_areTwo_8 rfl 0 rfl ?_
    refine a_iload_n dX8_areTwo_9 rfl 2 rfl ?_
    refine a_callV (as := [.int p2]) (stk := []) (q := some (.int (fX8_isPerson p2 σ))) (σ1 := σ) (kX8_isPerson e p2 σ) ob_0 vl_X8_134 rfl (Nat.le_of_ble_eq_true rfl) dX8_areTwo_10 ?_
    by_cases hc2 : (fX8_isPerson p2 σ) = 0
    · rw [if_pos hc2] at hf
      refine a_if_eq_t 25 dX8_areTwo_13 (by decide) hc2 ?_
      refine a_iconst (0 : Int32) dX8_areTwo_25 rfl ?_
      subst hf
      exact a_zret rfl (Or.inl rfl) dX8_areTwo_26
    · rw [if_neg hc2] at hf
      refine a_if_eq_f 25 dX8_areTwo_13 (by decide) hc2 ?_
      refine a_iload_n dX8_areTwo_16 rfl 1 rfl ?_
      refine a_iload_n dX8_areTwo_17 rfl 2 rfl ?_
      by_cases hc3 : p1 = p2
      · rw [if_pos hc3] at hf
        refine a_icmp_eq_t 25 dX8_areTwo_18 (by decide) hc3 ?_
        refine a_iconst (0 : Int32) dX8_areTwo_25 rfl ?_
        subst hf
        exact a_zret rfl (Or.inl rfl) dX8_areTwo_26
      · rw [if_neg hc3] at hf
        refine a_icmp_eq_f 25 dX8_areTwo_18 (by decide) hc3 ?_
        refine a_iconst (1 : Int32) dX8_areTwo_21 rfl ?_
        refine a_goto 26 dX8_areTwo_22 (by decide) ?_
        subst hf
        exact a_zret rfl (Or.inr rfl) dX8_areTwo_26
set_option maxHeartbeats 4000000 in
set_option maxRecDepth 100000 in
theorem kX8_bit (e : Nat) (p0 : Int32) (σ : St)  : Sp e MX8_bit [.int p0] σ (some (.int (fX8_bit p0))) σ := by
  refine sp_of rfl (Nat.le_of_ble_eq_true rfl) (loc := [(0, .int p0)]) rfl ?_
  obtain ⟨z, hf⟩ : ∃ z, fX8_bit p0 = z := ⟨_, rfl⟩
  rw [hf]
  unfold fX8_bit at hf
  refine a_iload_n dX8_bit_0 rfl 0 rfl ?_
  refine a_iconst (-1 : Int32) dX8_bit_1 rfl ?_
  by_cases hc1 : p0 = (-1 : Int32)
  · rw [if_pos hc1] at hf
    refine a_icmp_ne_f 9 dX8_bit_2 (by decide) hc1 ?_
    refine a_iconst (0 : Int32) dX8_bit_5 rfl ?_
    refine a_goto 12 dX8_bit_6 (by decide) ?_
    subst hf
    exact a_iret rfl dX8_bit_12
  · rw [if_neg hc1] at hf
    refine a_icmp_ne_t 9 dX8_bit_2 (by decide) hc1 ?_
    refine a_iconst (1 : Int32) dX8_bit_9 rfl ?_
    refine a_iload_n dX8_bit_10 rfl 0 rfl ?_
    refine a_ishl dX8_bit_11 ?_
    subst hf
    exact a_iret rfl dX8_bit_12
theorem bX7_knows (w : Nat) (p1 : Int32) (p2 : Int32) (σ : St) (q : Int32) (hf : fX7_knows w p1 p2 σ = some q) : q = 0 ∨ q = 1 := by
  unfold fX7_knows at hf
  obtain ⟨hb1, hf⟩ := grd_elim hf
  by_cases hc2 : ((σ.1 (w + 2) p1.toNatClampNeg) &&& (fX8_bit p2)) = 0
  · rw [if_pos hc2] at hf
    have hq := Option.some.inj hf
    subst hq
    exact (Or.inl rfl)
  · rw [if_neg hc2] at hf
    have hq := Option.some.inj hf
    subst hq
    exact (Or.inr rfl)
set_option maxHeartbeats 4000000 in
set_option maxRecDepth 100000 in
theorem kX7_knows (e : Nat) (w : Nat) (p1 : Int32) (p2 : Int32) (σ : St) (hw : isW w) (q : Int32) (hf : fX7_knows w p1 p2 σ = some q) : Sp (e + 1) MX7_knows [.ref w, .int p1, .int p2] σ (some (.int q)) σ := by
  refine sp_of rfl (Nat.le_of_ble_eq_true rfl) (loc := [(0, .ref w), (1, .int p1), (2, .int p2)]) rfl ?_
  unfold fX7_knows at hf
  refine a_aload_n dX7_knows_0 rfl 0 rfl ?_
  refine a_get (.ref (w + 2)) (obW hw) (by decide) fl_X7_15 (avW2 hw) dX7_knows_1 ?_
  refine a_iload_n dX7_knows_4 rfl 1 rfl ?_
  obtain ⟨hb1, hf⟩ := grd_elim hf
  refine a_iald (iaW2 hw) hb1 dX7_knows_5 ?_
  refine a_iload_n dX7_knows_6 rfl 2 rfl ?_
  refine a_callS (as := [.int p2]) (stk := [.int (σ.1 (w + 2) p1.toNatClampNeg)]) (q := some (.int (fX8_bit p2))) (σ1 := σ) (kX8_bit e p2 σ) sl_X7_58 rfl (Nat.le_of_ble_eq_true rfl) dX7_knows_7 ?_
  refine a_iand dX7_knows_10 ?_
  by_cases hc2 : ((σ.1 (w + 2) p1.toNatClampNeg) &&& (fX8_bit p2)) = 0
  · rw [if_pos hc2] at hf
    refine a_if_eq_t 18 dX7_knows_11 (by decide) hc2 ?_
    refine a_iconst (0 : Int32) dX7_knows_18 rfl ?_
    have hq := Option.some.inj hf
    subst hq
    exact a_zret rfl (Or.inl rfl) dX7_knows_19
  · rw [if_neg hc2] at hf
    refine a_if_eq_f 18 dX7_knows_11 (by decide) hc2 ?_
    refine a_iconst (1 : Int32) dX7_knows_14 rfl ?_
    refine a_goto 19 dX7_knows_15 (by decide) ?_
    have hq := Option.some.inj hf
    subst hq
    exact a_zret rfl (Or.inr rfl) dX7_knows_19
set_option maxHeartbeats 4000000 in
set_option maxRecDepth 100000 in
theorem kX7_setKnown (e : Nat) (w : Nat) (p1 : Int32) (p2 : Int32) (p3 : Int32) (σ : St) (hw : isW w) (q : St) (hf : fX7_setKnown w p1 p2 p3 σ = some q) : Sp (e + 1) MX7_setKnown [.ref w, .int p1, .int p2, .int p3] σ (none) q := by
  refine sp_of rfl (Nat.le_of_ble_eq_true rfl) (loc := [(0, .ref w), (1, .int p1), (2, .int p2), (3, .int p3)]) rfl ?_
  unfold fX7_setKnown at hf
  refine a_aload_n dX7_setKnown_0 rfl 0 rfl ?_
  refine a_get (.ref (w + 2)) (obW hw) (by decide) fl_X7_15 (avW2 hw) dX7_setKnown_1 ?_
  refine a_iload_n dX7_setKnown_4 rfl 1 rfl ?_
  refine a_iload_n dX7_setKnown_5 rfl 3 rfl ?_
  obtain ⟨q2, hr14, hf⟩ := obind hf
  have hA13 : A (e + 1) MX7_setKnown 36 [(0, .ref w), (1, .int p1), (2, .int p2), (3, .int p3)] [.int q2, .int p1, .ref (w + 2)] σ none q := by
    obtain ⟨hb3, hf⟩ := grd_elim hf
    refine a_iast (iaW2 hw) hb3 dX7_setKnown_36 ?_
    obtain ⟨σ4, hσ4, hf⟩ := bnd_elim hf
    rw [← hσ4]
    refine a_aload_n dX7_setKnown_37 rfl 0 rfl ?_
    refine a_get (.ref (w + 2)) (obW hw) (by decide) fl_X7_15 (avW2 hw) dX7_setKnown_38 ?_
    refine a_iload_n dX7_setKnown_41 rfl 2 rfl ?_
    refine a_iload_n dX7_setKnown_42 rfl 3 rfl ?_
    obtain ⟨q6, hr10, hf⟩ := obind hf
    have hA9 : A (e + 1) MX7_setKnown 73 [] [.int q6, .int p2, .ref (w + 2)] σ4 none q := by
      obtain ⟨hb7, hf⟩ := grd_elim hf
      refine a_iast (iaW2 hw) hb7 dX7_setKnown_73 ?_
      obtain ⟨σ8, hσ8, hf⟩ := bnd_elim hf
      rw [← hσ8]
      have hq := Option.some.inj hf
      subst hq
      exact a_vret rfl dX7_setKnown_74
    clear hf
    have hf := hr10
    clear hr10
    by_cases hc5 : p3 = 0
    · rw [if_pos hc5] at hf
      refine a_if_eq_t 60 dX7_setKnown_43 (by decide) hc5 ?_
      refine a_aload_n dX7_setKnown_60 rfl 0 rfl ?_
      refine a_get (.ref (w + 2)) (obW hw) (by decide) fl_X7_15 (avW2 hw) dX7_setKnown_61 ?_
      refine a_iload_n dX7_setKnown_64 rfl 2 rfl ?_
      obtain ⟨hb11, hf⟩ := grd_elim hf
      refine a_iald (iaW2 hw) hb11 dX7_setKnown_65 ?_
      refine a_iload_n dX7_setKnown_66 rfl 1 rfl ?_
      refine a_callS (as := [.int p1]) (stk := [.int (σ4.1 (w + 2) p2.toNatClampNeg), .int p2, .ref (w + 2)]) (q := some (.int (fX8_bit p1))) (σ1 := σ4) (kX8_bit e p1 σ4) sl_X7_58 rfl (Nat.le_of_ble_eq_true rfl) dX7_setKnown_67 ?_
      refine a_iconst (-1 : Int32) dX7_setKnown_70 rfl ?_
      refine a_ixor dX7_setKnown_71 ?_
      refine a_iand dX7_setKnown_72 ?_
      have hq := Option.some.inj hf
      subst hq
      refine a_locs (loc' := []) [] rfl ?_
      exact hA9
    · rw [if_neg hc5] at hf
      refine a_if_eq_f 60 dX7_setKnown_43 (by decide) hc5 ?_
      refine a_aload_n dX7_setKnown_46 rfl 0 rfl ?_
      refine a_get (.ref (w + 2)) (obW hw) (by decide) fl_X7_15 (avW2 hw) dX7_setKnown_47 ?_
      refine a_iload_n dX7_setKnown_50 rfl 2 rfl ?_
      obtain ⟨hb12, hf⟩ := grd_elim hf
      refine a_iald (iaW2 hw) hb12 dX7_setKnown_51 ?_
      refine a_iload_n dX7_setKnown_52 rfl 1 rfl ?_
      refine a_callS (as := [.int p1]) (stk := [.int (σ4.1 (w + 2) p2.toNatClampNeg), .int p2, .ref (w + 2)]) (q := some (.int (fX8_bit p1))) (σ1 := σ4) (kX8_bit e p1 σ4) sl_X7_58 rfl (Nat.le_of_ble_eq_true rfl) dX7_setKnown_53 ?_
      refine a_ior dX7_setKnown_56 ?_
      refine a_goto 73 dX7_setKnown_57 (by decide) ?_
      have hq := Option.some.inj hf
      subst hq
      refine a_locs (loc' := []) [] rfl ?_
      exact hA9
  clear hf
  have hf := hr14
  clear hr14
  by_cases hc1 : p3 = 0
  · rw [if_pos hc1] at hf
    refine a_if_eq_t 23 dX7_setKnown_6 (by decide) hc1 ?_
    refine a_aload_n dX7_setKnown_23 rfl 0 rfl ?_
    refine a_get (.ref (w + 2)) (obW hw) (by decide) fl_X7_15 (avW2 hw) dX7_setKnown_24 ?_
    refine a_iload_n dX7_setKnown_27 rfl 1 rfl ?_
    obtain ⟨hb15, hf⟩ := grd_elim hf
    refine a_iald (iaW2 hw) hb15 dX7_setKnown_28 ?_
    refine a_iload_n dX7_setKnown_29 rfl 2 rfl ?_
    refine a_callS (as := [.int p2]) (stk := [.int (σ.1 (w + 2) p1.toNatClampNeg), .int p1, .ref (w + 2)]) (q := some (.int (fX8_bit p2))) (σ1 := σ) (kX8_bit e p2 σ) sl_X7_58 rfl (Nat.le_of_ble_eq_true rfl) dX7_setKnown_30 ?_
    refine a_iconst (-1 : Int32) dX7_setKnown_33 rfl ?_
    refine a_ixor dX7_setKnown_34 ?_
    refine a_iand dX7_setKnown_35 ?_
    have hq := Option.some.inj hf
    subst hq
    exact hA13
  · rw [if_neg hc1] at hf
    refine a_if_eq_f 23 dX7_setKnown_6 (by decide) hc1 ?_
    refine a_aload_n dX7_setKnown_9 rfl 0 rfl ?_
    refine a_get (.ref (w + 2)) (obW hw) (by decide) fl_X7_15 (avW2 hw) dX7_setKnown_10 ?_
    refine a_iload_n dX7_setKnown_13 rfl 1 rfl ?_
    obtain ⟨hb16, hf⟩ := grd_elim hf
    refine a_iald (iaW2 hw) hb16 dX7_setKnown_14 ?_
    refine a_iload_n dX7_setKnown_15 rfl 2 rfl ?_
    refine a_callS (as := [.int p2]) (stk := [.int (σ.1 (w + 2) p1.toNatClampNeg), .int p1, .ref (w + 2)]) (q := some (.int (fX8_bit p2))) (σ1 := σ) (kX8_bit e p2 σ) sl_X7_58 rfl (Nat.le_of_ble_eq_true rfl) dX7_setKnown_16 ?_
    refine a_ior dX7_setKnown_19 ?_
    refine a_goto 36 dX7_setKnown_20 (by decide) ?_
    have hq := Option.some.inj hf
    subst hq
    exact hA13
set_option maxHeartbeats 4000000 in
set_option maxRecDepth 100000 in
theorem kX8_know (e : Nat) (p1 : Int32) (p2 : Int32) (p3 : Int32) (σ : St)  (q : Int32 × St) (hf : fX8_know p1 p2 p3 σ = some q) : Sp (e + 2) MX8_know [.ref 0, .int p1, .int p2, .int p3] σ (some (.int q.1)) q.2 := by
  refine sp_of rfl (Nat.le_of_ble_eq_true rfl) (loc := [(0, .ref 0), (1, .int p1), (2, .int p2), (3, .int p3)]) rfl ?_
  unfold fX8_know at hf
  refine a_aload_n dX8_know_0 rfl 0 rfl ?_
  refine a_iload_n dX8_know_1 rfl 1 rfl ?_
  refine a_iload_n dX8_know_2 rfl 2 rfl ?_
  refine a_callV (as := [.int p1, .int p2]) (stk := []) (q := some (.int (fX8_areTwo p1 p2 σ))) (σ1 := σ) (kX8_areTwo e p1 p2 σ) ob_0 vl_X8_115 rfl (Nat.le_of_ble_eq_true rfl) dX8_know_3 ?_
  by_cases hc1 : (fX8_areTwo p1 p2 σ) = 0
  · rw [if_pos hc1] at hf
    refine a_if_ne_f 12 dX8_know_6 (by decide) hc1 ?_
    refine a_bipush (-101 : Int32) dX8_know_9 rfl ?_
    have hq := Option.some.inj hf
    subst hq
    exact a_iret rfl dX8_know_11
  · rw [if_neg hc1] at hf
    refine a_if_ne_t 12 dX8_know_6 (by decide) hc1 ?_
    refine a_aload_n dX8_know_12 rfl 0 rfl ?_
    refine a_get (.ref 4) ob_0 (by decide) fl_X8_26 rfl dX8_know_13 ?_
    refine a_iload_n dX8_know_16 rfl 1 rfl ?_
    refine a_iload_n dX8_know_17 rfl 2 rfl ?_
    obtain ⟨q2, hq2, hf⟩ := obind hf
    refine a_callV (as := [.int p1, .int p2]) (stk := []) (q := some (.int q2)) (σ1 := σ) (kX7_knows e 4 p1 p2 σ isW_4 _ hq2) (obW isW_4) vl_X8_119 rfl (Nat.le_of_ble_eq_true rfl) dX8_know_18 ?_
    obtain ⟨x4, hx4, hf⟩ := bnd_elim hf
    have hA6 : A (e + 2) MX8_know 29 [(0, .ref 0), (1, .int p1), (2, .int p2), (3, .int p3)] [.int x4] σ (some (.int q.1)) q.2 := by
      refine a_istore dX8_know_29 (by decide) (loc' := [(4, .int x4), (0, .ref 0), (1, .int p1), (2, .int p2), (3, .int p3)]) rfl ?_
      refine a_aload_n dX8_know_31 rfl 1 rfl ?_
      refine a_get (.ref 4) ob_0 (by decide) fl_X8_26 rfl dX8_know_32 ?_
      refine a_iload_n dX8_know_35 rfl 2 rfl ?_
      refine a_iload_n dX8_know_36 rfl 3 rfl ?_
      refine a_iload_n dX8_know_37 rfl 4 rfl ?_
      obtain ⟨q5, hq5, hf⟩ := obind hf
      refine a_callV (as := [.int p1, .int p2, .int p3]) (stk := []) (q := none) (σ1 := q5) (kX7_setKnown e 4 p1 p2 p3 σ isW_4 _ hq5) (obW isW_4) vl_X8_122 rfl (Nat.le_of_ble_eq_true rfl) dX8_know_38 ?_
      refine a_iload dX8_know_41 0 rfl ?_
      have hq := Option.some.inj hf
      subst hq
      exact a_iret rfl dX8_know_43
    clear hf
    by_cases hc3 : q2 = 0
    · rw [if_pos hc3] at hx4
      refine a_if_eq_t 28 dX8_know_21 (by decide) hc3 ?_
      refine a_iconst (0 : Int32) dX8_know_28 rfl ?_
      replace hx4 := hx4.symm; subst hx4
      exact hA6
    · rw [if_neg hc3] at hx4
      refine a_if_eq_f 28 dX8_know_21 (by decide) hc3 ?_
      refine a_iconst (1 : Int32) dX8_know_24 rfl ?_
      refine a_goto 29 dX8_know_25 (by decide) ?_
      replace hx4 := hx4.symm; subst hx4
      exact hA6
set_option maxHeartbeats 4000000 in
set_option maxRecDepth 100000 in
theorem kX8_pair (e : Nat) (p0 : Int32) (p1 : Int32) (σ : St)  : Sp e MX8_pair [.int p0, .int p1] σ (some (.int (fX8_pair p0 p1))) σ := by
  refine sp_of rfl (Nat.le_of_ble_eq_true rfl) (loc := [(0, .int p0), (1, .int p1)]) rfl ?_
  obtain ⟨z, hf⟩ : ∃ z, fX8_pair p0 p1 = z := ⟨_, rfl⟩
  rw [hf]
  unfold fX8_pair at hf
  refine a_iload_n dX8_pair_0 rfl 0 rfl ?_
  refine a_bipush (8 : Int32) dX8_pair_1 rfl ?_
  refine a_imul dX8_pair_3 ?_
  refine a_iload_n dX8_pair_4 rfl 1 rfl ?_
  refine a_iadd dX8_pair_5 ?_
  subst hf
  exact a_iret rfl dX8_pair_6
set_option maxHeartbeats 4000000 in
set_option maxRecDepth 100000 in
theorem kX8_like (e : Nat) (p1 : Int32) (p2 : Int32) (p3 : Int32) (σ : St)  (q : Int32 × St) (hf : fX8_like p1 p2 p3 σ = some q) : Sp (e + 2) MX8_like [.ref 0, .int p1, .int p2, .int p3] σ (some (.int q.1)) q.2 := by
  refine sp_of rfl (Nat.le_of_ble_eq_true rfl) (loc := [(0, .ref 0), (1, .int p1), (2, .int p2), (3, .int p3)]) rfl ?_
  unfold fX8_like at hf
  refine a_aload_n dX8_like_0 rfl 0 rfl ?_
  refine a_iload_n dX8_like_1 rfl 1 rfl ?_
  refine a_iload_n dX8_like_2 rfl 2 rfl ?_
  refine a_callV (as := [.int p1, .int p2]) (stk := []) (q := some (.int (fX8_areTwo p1 p2 σ))) (σ1 := σ) (kX8_areTwo e p1 p2 σ) ob_0 vl_X8_115 rfl (Nat.le_of_ble_eq_true rfl) dX8_like_3 ?_
  by_cases hc1 : (fX8_areTwo p1 p2 σ) = 0
  · rw [if_pos hc1] at hf
    refine a_if_ne_f 12 dX8_like_6 (by decide) hc1 ?_
    refine a_bipush (-101 : Int32) dX8_like_9 rfl ?_
    have hq := Option.some.inj hf
    subst hq
    exact a_iret rfl dX8_like_11
  · rw [if_neg hc1] at hf
    refine a_if_ne_t 12 dX8_like_6 (by decide) hc1 ?_
    refine a_iload_n dX8_like_12 rfl 3 rfl ?_
    refine a_iconst (0 : Int32) dX8_like_13 rfl ?_
    refine a_bipush (9 : Int32) dX8_like_14 rfl ?_
    refine a_callS (as := [.int p3, .int (0 : Int32), .int (9 : Int32)]) (stk := []) (q := some (.int (fX8_within p3 (0 : Int32) (9 : Int32)))) (σ1 := σ) (kX8_within (e + 1) p3 (0 : Int32) (9 : Int32) σ) sl_X8_91 rfl (Nat.le_of_ble_eq_true rfl) dX8_like_16 ?_
    by_cases hc2 : (fX8_within p3 (0 : Int32) (9 : Int32)) = 0
    · rw [if_pos hc2] at hf
      refine a_if_ne_f 25 dX8_like_19 (by decide) hc2 ?_
      refine a_bipush (-102 : Int32) dX8_like_22 rfl ?_
      have hq := Option.some.inj hf
      subst hq
      exact a_iret rfl dX8_like_24
    · rw [if_neg hc2] at hf
      refine a_if_ne_t 25 dX8_like_19 (by decide) hc2 ?_
      refine a_aload_n dX8_like_25 rfl 0 rfl ?_
      refine a_get (.ref 4) ob_0 (by decide) fl_X8_26 rfl dX8_like_26 ?_
      refine a_get (.ref (4 + 4)) (obW isW_4) (by decide) fl_X8_126 (avW4 isW_4) dX8_like_29 ?_
      refine a_iload_n dX8_like_32 rfl 1 rfl ?_
      refine a_iload_n dX8_like_33 rfl 2 rfl ?_
      refine a_callS (as := [.int p1, .int p2]) (stk := [.ref (4 + 4)]) (q := some (.int (fX8_pair p1 p2))) (σ1 := σ) (kX8_pair (e + 1) p1 p2 σ) sl_X8_130 rfl (Nat.le_of_ble_eq_true rfl) dX8_like_34 ?_
      obtain ⟨hb3, hf⟩ := grd_elim hf
      refine a_iald (iaW4 isW_4) hb3 dX8_like_37 ?_
      obtain ⟨x4, hx4, hf⟩ := bnd_elim hf
      refine a_top (w := .int x4) (by rw [hx4]) ?_
      refine a_istore dX8_like_38 (by decide) (loc' := [(4, .int x4), (0, .ref 0), (1, .int p1), (2, .int p2), (3, .int p3)]) rfl ?_
      refine a_aload_n dX8_like_40 rfl 1 rfl ?_
      refine a_get (.ref 4) ob_0 (by decide) fl_X8_26 rfl dX8_like_41 ?_
      refine a_get (.ref (4 + 4)) (obW isW_4) (by decide) fl_X8_126 (avW4 isW_4) dX8_like_44 ?_
      refine a_iload_n dX8_like_47 rfl 2 rfl ?_
      refine a_iload_n dX8_like_48 rfl 3 rfl ?_
      refine a_callS (as := [.int p1, .int p2]) (stk := [.ref (4 + 4)]) (q := some (.int (fX8_pair p1 p2))) (σ1 := σ) (kX8_pair (e + 1) p1 p2 σ) sl_X8_130 rfl (Nat.le_of_ble_eq_true rfl) dX8_like_49 ?_
      refine a_iload_n dX8_like_52 rfl 4 rfl ?_
      obtain ⟨hb5, hf⟩ := grd_elim hf
      refine a_iast (iaW4 isW_4) hb5 dX8_like_53 ?_
      obtain ⟨σ6, hσ6, hf⟩ := bnd_elim hf
      rw [← hσ6]
      refine a_iload dX8_like_54 0 rfl ?_
      have hq := Option.some.inj hf
      subst hq
      exact a_iret rfl dX8_like_56
theorem bX3_lives (g : Nat) (σ : St) : fX3_lives g σ = 0 ∨ fX3_lives g σ = 1 := by
  obtain ⟨z, hf⟩ : ∃ z, fX3_lives g σ = z := ⟨_, rfl⟩
  rw [hf]
  unfold fX3_lives at hf
  by_cases hc1 : (σ.1 g 6) = 0
  · rw [if_pos hc1] at hf
    subst hf
    exact (Or.inr rfl)
  · rw [if_neg hc1] at hf
    subst hf
    exact (Or.inl rfl)
set_option maxHeartbeats 4000000 in
set_option maxRecDepth 100000 in
theorem kX3_lives (e : Nat) (g : Nat) (σ : St) (hg : OB K58 g 3 8) : Sp e MX3_lives [.ref g] σ (some (.int (fX3_lives g σ))) σ := by
  refine sp_of rfl (Nat.le_of_ble_eq_true rfl) (loc := [(0, .ref g)]) rfl ?_
  obtain ⟨z, hf⟩ : ∃ z, fX3_lives g σ = z := ⟨_, rfl⟩
  rw [hf]
  unfold fX3_lives at hf
  refine a_aload_n dX3_lives_0 rfl 0 rfl ?_
  refine a_get (.int (σ.1 g 6)) hg (by decide) fl_X3_30 (avG hg 6 rfl) dX3_lives_1 ?_
  by_cases hc1 : (σ.1 g 6) = 0
  · rw [if_pos hc1] at hf
    refine a_if_ne_f 11 dX3_lives_4 (by decide) hc1 ?_
    refine a_iconst (1 : Int32) dX3_lives_7 rfl ?_
    refine a_goto 12 dX3_lives_8 (by decide) ?_
    subst hf
    exact a_zret rfl (Or.inr rfl) dX3_lives_12
  · rw [if_neg hc1] at hf
    refine a_if_ne_t 11 dX3_lives_4 (by decide) hc1 ?_
    refine a_iconst (0 : Int32) dX3_lives_11 rfl ?_
    subst hf
    exact a_zret rfl (Or.inl rfl) dX3_lives_12
set_option maxHeartbeats 4000000 in
set_option maxRecDepth 100000 in
theorem kX7_heldBy_L4 (e : Nat) (w0 : Nat) (c1 : Int32) (σ : St) (hw0 : isW w0) {r : Option Value} {τ : St} (q : (Int32)) : ∀ (n : Nat) (v2 : Int32) (v3 : Int32), fX7_heldBy_L4 w0 c1 σ n v2 v3 = some q → A (e + 1) MX7_heldBy 46 [(2, .int q)] [] σ r τ → A (e + 1) MX7_heldBy 4 [(0, .ref w0), (1, .int c1), (2, .int v2), (3, .int v3)] [] σ r τ := by
  intro n
  induction n with
  | zero =>
    intro v2 v3  hf
    simp only [fX7_heldBy_L4] at hf
    exact absurd hf (by simp)
  | succ n ih =>
    intro v2 v3  hf h2
    rw [fX7_heldBy_L4] at hf
    refine a_iload_n dX7_heldBy_4 rfl 3 rfl ?_
    refine a_aload_n dX7_heldBy_5 rfl 0 rfl ?_
    refine a_get (.int (σ.1 w0 6)) (obW hw0) (by decide) fl_X7_44 (avW6 hw0) dX7_heldBy_6 ?_
    by_cases hc1 : (σ.1 w0 6) ≤ v3
    · rw [if_pos hc1] at hf
      refine a_icmp_ge_t 46 dX7_heldBy_9 (by decide) hc1 ?_
      have hq := Option.some.inj hf
      rw [← hq] at h2
      refine a_locs (loc' := [(2, .int v2)]) [2] rfl ?_
      exact h2
    · rw [if_neg hc1] at hf
      refine a_icmp_ge_f 46 dX7_heldBy_9 (by decide) hc1 ?_
      refine a_aload_n dX7_heldBy_12 rfl 0 rfl ?_
      refine a_get (.ref (w0 + 6)) (obW hw0) (by decide) fl_X7_29 (avW7 hw0) dX7_heldBy_13 ?_
      refine a_iload_n dX7_heldBy_16 rfl 3 rfl ?_
      obtain ⟨hb2, hf⟩ := grd_elim hf
      refine a_aald (w0 + 7 + v3.toNatClampNeg) (gaW hw0) hb2 (rfG hw0 hb2) dX7_heldBy_17 ?_
      refine a_callV (as := []) (stk := []) (q := some (.int (fX3_lives (w0 + 7 + v3.toNatClampNeg) σ))) (σ1 := σ) (kX3_lives e (w0 + 7 + v3.toNatClampNeg) σ (obG hw0 hb2)) (obG hw0 hb2) vl_X7_62 rfl (Nat.le_of_ble_eq_true rfl) dX7_heldBy_18 ?_
      by_cases hc3 : (fX3_lives (w0 + 7 + v3.toNatClampNeg) σ) = 0
      · rw [if_pos hc3] at hf
        refine a_if_eq_t 40 dX7_heldBy_21 (by decide) hc3 ?_
        refine a_iinc (v3 + (1 : Int32)) dX7_heldBy_40 3 rfl rfl (by decide) (loc' := [(3, .int (v3 + (1 : Int32))), (0, .ref w0), (1, .int c1), (2, .int v2)]) rfl ?_
        refine a_goto 4 dX7_heldBy_43 (by decide) ?_
        refine a_locs (loc' := [(0, .ref w0), (1, .int c1), (2, .int v2), (3, .int (v3 + (1 : Int32)))]) [1, 2, 3, 0] rfl ?_
        exact ih v2 (v3 + (1 : Int32)) hf h2
      · rw [if_neg hc3] at hf
        refine a_if_eq_f 40 dX7_heldBy_21 (by decide) hc3 ?_
        refine a_aload_n dX7_heldBy_24 rfl 0 rfl ?_
        refine a_get (.ref (w0 + 6)) (obW hw0) (by decide) fl_X7_29 (avW7 hw0) dX7_heldBy_25 ?_
        refine a_iload_n dX7_heldBy_28 rfl 3 rfl ?_
        obtain ⟨hb4, hf⟩ := grd_elim hf
        refine a_aald (w0 + 7 + v3.toNatClampNeg) (gaW hw0) hb4 (rfG hw0 hb4) dX7_heldBy_29 ?_
        refine a_get (.int (σ.1 (w0 + 7 + v3.toNatClampNeg) 2)) (obG hw0 hb4) (by decide) fl_X7_66 (avG (obG hw0 hb4) 2 rfl) dX7_heldBy_30 ?_
        refine a_iload_n dX7_heldBy_33 rfl 1 rfl ?_
        by_cases hc5 : (σ.1 (w0 + 7 + v3.toNatClampNeg) 2) = c1
        · rw [if_pos hc5] at hf
          refine a_icmp_ne_f 40 dX7_heldBy_34 (by decide) hc5 ?_
          refine a_iinc (v2 + (1 : Int32)) dX7_heldBy_37 2 rfl rfl (by decide) (loc' := [(2, .int (v2 + (1 : Int32))), (0, .ref w0), (1, .int c1), (3, .int v3)]) rfl ?_
          refine a_iinc (v3 + (1 : Int32)) dX7_heldBy_40 3 rfl rfl (by decide) (loc' := [(3, .int (v3 + (1 : Int32))), (2, .int (v2 + (1 : Int32))), (0, .ref w0), (1, .int c1)]) rfl ?_
          refine a_goto 4 dX7_heldBy_43 (by decide) ?_
          refine a_locs (loc' := [(0, .ref w0), (1, .int c1), (2, .int (v2 + (1 : Int32))), (3, .int (v3 + (1 : Int32)))]) [2, 3, 1, 0] rfl ?_
          exact ih (v2 + (1 : Int32)) (v3 + (1 : Int32)) hf h2
        · rw [if_neg hc5] at hf
          refine a_icmp_ne_t 40 dX7_heldBy_34 (by decide) hc5 ?_
          refine a_iinc (v3 + (1 : Int32)) dX7_heldBy_40 3 rfl rfl (by decide) (loc' := [(3, .int (v3 + (1 : Int32))), (0, .ref w0), (1, .int c1), (2, .int v2)]) rfl ?_
          refine a_goto 4 dX7_heldBy_43 (by decide) ?_
          refine a_locs (loc' := [(0, .ref w0), (1, .int c1), (2, .int v2), (3, .int (v3 + (1 : Int32)))]) [1, 2, 3, 0] rfl ?_
          exact ih v2 (v3 + (1 : Int32)) hf h2
set_option maxHeartbeats 4000000 in
set_option maxRecDepth 100000 in
theorem kX7_heldBy (e : Nat) (w : Nat) (p1 : Int32) (σ : St) (hw : isW w) (q : Int32) (hf : fX7_heldBy w p1 σ = some q) : Sp (e + 1) MX7_heldBy [.ref w, .int p1] σ (some (.int q)) σ := by
  refine sp_of rfl (Nat.le_of_ble_eq_true rfl) (loc := [(0, .ref w), (1, .int p1)]) rfl ?_
  unfold fX7_heldBy at hf
  refine a_iconst (0 : Int32) dX7_heldBy_0 rfl ?_
  refine a_istore_n dX7_heldBy_1 rfl (by decide) (loc' := [(2, .int (0 : Int32)), (0, .ref w), (1, .int p1)]) rfl ?_
  refine a_iconst (0 : Int32) dX7_heldBy_2 rfl ?_
  refine a_istore_n dX7_heldBy_3 rfl (by decide) (loc' := [(3, .int (0 : Int32)), (2, .int (0 : Int32)), (0, .ref w), (1, .int p1)]) rfl ?_
  obtain ⟨q6, hr7, hf⟩ := obind hf
  have hA8 : A (e + 1) MX7_heldBy 46 [(2, .int q6)] [] σ (some (.int q)) σ := by
    refine a_iload_n dX7_heldBy_46 rfl 0 rfl ?_
    have hq := Option.some.inj hf
    subst hq
    exact a_iret rfl dX7_heldBy_47
  refine a_locs (loc' := [(0, .ref w), (1, .int p1), (2, .int (0 : Int32)), (3, .int (0 : Int32))]) [2, 3, 1, 0] rfl ?_
  exact kX7_heldBy_L4 e w p1 σ hw q6 fu (0 : Int32) (0 : Int32) hr7 hA8
set_option maxHeartbeats 4000000 in
set_option maxRecDepth 100000 in
theorem kX8_about (e : Nat) (p1 : Int32) (p2 : Int32) (σ : St)  (q : Int32) (hf : fX8_about p1 p2 σ = some q) : Sp (e + 2) MX8_about [.ref 0, .int p1, .int p2] σ (some (.int q)) σ := by
  refine sp_of rfl (Nat.le_of_ble_eq_true rfl) (loc := [(0, .ref 0), (1, .int p1), (2, .int p2)]) rfl ?_
  unfold fX8_about at hf
  refine a_aload_n dX8_about_0 rfl 0 rfl ?_
  refine a_iload_n dX8_about_1 rfl 1 rfl ?_
  refine a_callV (as := [.int p1]) (stk := []) (q := some (.int (fX8_isPerson p1 σ))) (σ1 := σ) (kX8_isPerson (e + 1) p1 σ) ob_0 vl_X8_134 rfl (Nat.le_of_ble_eq_true rfl) dX8_about_2 ?_
  by_cases hc1 : (fX8_isPerson p1 σ) = 0
  · rw [if_pos hc1] at hf
    refine a_if_ne_f 11 dX8_about_5 (by decide) hc1 ?_
    refine a_bipush (-101 : Int32) dX8_about_8 rfl ?_
    have hq := Option.some.inj hf
    subst hq
    exact a_iret rfl dX8_about_10
  · rw [if_neg hc1] at hf
    refine a_if_ne_t 11 dX8_about_5 (by decide) hc1 ?_
    refine a_iload_n dX8_about_11 rfl 2 rfl ?_
    refine a_iconst (0 : Int32) dX8_about_12 rfl ?_
    refine a_iconst (3 : Int32) dX8_about_13 rfl ?_
    refine a_callS (as := [.int p2, .int (0 : Int32), .int (3 : Int32)]) (stk := []) (q := some (.int (fX8_within p2 (0 : Int32) (3 : Int32)))) (σ1 := σ) (kX8_within (e + 1) p2 (0 : Int32) (3 : Int32) σ) sl_X8_91 rfl (Nat.le_of_ble_eq_true rfl) dX8_about_14 ?_
    by_cases hc2 : (fX8_within p2 (0 : Int32) (3 : Int32)) = 0
    · rw [if_pos hc2] at hf
      refine a_if_ne_f 23 dX8_about_17 (by decide) hc2 ?_
      refine a_bipush (-102 : Int32) dX8_about_20 rfl ?_
      have hq := Option.some.inj hf
      subst hq
      exact a_iret rfl dX8_about_22
    · rw [if_neg hc2] at hf
      refine a_if_ne_t 23 dX8_about_17 (by decide) hc2 ?_
      refine a_iload_n dX8_about_23 rfl 2 rfl ?_
      by_cases hc3 : p2 = (0 : Int32)
      · rw [if_pos hc3] at hf
        refine a_tabIn (0 : Int32) 52 dX8_about_24 hc3 (by decide) (by decide) rfl (by decide) ?_
        refine a_aload_n dX8_about_52 rfl 0 rfl ?_
        refine a_get (.ref 4) ob_0 (by decide) fl_X8_26 rfl dX8_about_53 ?_
        refine a_get (.ref (4 + 1)) (obW isW_4) (by decide) fl_X8_138 (avW1 isW_4) dX8_about_56 ?_
        refine a_iload_n dX8_about_59 rfl 1 rfl ?_
        obtain ⟨hb4, hf⟩ := grd_elim hf
        refine a_iald (iaW1 isW_4) hb4 dX8_about_60 ?_
        have hq := Option.some.inj hf
        subst hq
        exact a_iret rfl dX8_about_61
      · rw [if_neg hc3] at hf
        by_cases hc5 : p2 = (1 : Int32)
        · rw [if_pos hc5] at hf
          refine a_tabIn (1 : Int32) 62 dX8_about_24 hc5 (by decide) (by decide) rfl (by decide) ?_
          refine a_aload_n dX8_about_62 rfl 0 rfl ?_
          refine a_get (.ref 4) ob_0 (by decide) fl_X8_26 rfl dX8_about_63 ?_
          refine a_iload_n dX8_about_66 rfl 1 rfl ?_
          obtain ⟨q6, hq6, hf⟩ := obind hf
          refine a_callV (as := [.int p1]) (stk := []) (q := some (.int q6)) (σ1 := σ) (kX7_heldBy e 4 p1 σ isW_4 _ hq6) (obW isW_4) vl_X8_141 rfl (Nat.le_of_ble_eq_true rfl) dX8_about_67 ?_
          have hq := Option.some.inj hf
          subst hq
          exact a_iret rfl dX8_about_70
        · rw [if_neg hc5] at hf
          by_cases hc7 : p2 = (2 : Int32)
          · rw [if_pos hc7] at hf
            refine a_tabIn (2 : Int32) 71 dX8_about_24 hc7 (by decide) (by decide) rfl (by decide) ?_
            refine a_aload_n dX8_about_71 rfl 0 rfl ?_
            refine a_get (.ref 4) ob_0 (by decide) fl_X8_26 rfl dX8_about_72 ?_
            refine a_get (.ref (4 + 2)) (obW isW_4) (by decide) fl_X8_144 (avW2 isW_4) dX8_about_75 ?_
            refine a_iload_n dX8_about_78 rfl 1 rfl ?_
            obtain ⟨hb8, hf⟩ := grd_elim hf
            refine a_iald (iaW2 isW_4) hb8 dX8_about_79 ?_
            have hq := Option.some.inj hf
            subst hq
            exact a_iret rfl dX8_about_80
          · rw [if_neg hc7] at hf
            refine a_tabOut 81 dX8_about_24 (by have q0 := lv_neT hc3 (show Int32.toInt (0 : Int32) = 0 from rfl); have q1 := lv_neT hc5 (show Int32.toInt (1 : Int32) = 1 from rfl); have q2 := lv_neT hc7 (show Int32.toInt (2 : Int32) = 2 from rfl); omega) (by decide) ?_
            refine a_aload_n dX8_about_81 rfl 0 rfl ?_
            refine a_get (.ref 4) ob_0 (by decide) fl_X8_26 rfl dX8_about_82 ?_
            refine a_get (.ref (4 + 3)) (obW isW_4) (by decide) fl_X8_147 (avW3 isW_4) dX8_about_85 ?_
            refine a_iload_n dX8_about_88 rfl 1 rfl ?_
            obtain ⟨hb9, hf⟩ := grd_elim hf
            refine a_iald (iaW3 isW_4) hb9 dX8_about_89 ?_
            have hq := Option.some.inj hf
            subst hq
            exact a_iret rfl dX8_about_90
set_option maxHeartbeats 4000000 in
set_option maxRecDepth 100000 in
theorem kX8_owes (e : Nat) (p1 : Int32) (p2 : Int32) (σ : St)  (q : Int32) (hf : fX8_owes p1 p2 σ = some q) : Sp (e + 2) MX8_owes [.ref 0, .int p1, .int p2] σ (some (.int q)) σ := by
  refine sp_of rfl (Nat.le_of_ble_eq_true rfl) (loc := [(0, .ref 0), (1, .int p1), (2, .int p2)]) rfl ?_
  unfold fX8_owes at hf
  refine a_aload_n dX8_owes_0 rfl 0 rfl ?_
  refine a_iload_n dX8_owes_1 rfl 1 rfl ?_
  refine a_iload_n dX8_owes_2 rfl 2 rfl ?_
  refine a_callV (as := [.int p1, .int p2]) (stk := []) (q := some (.int (fX8_areTwo p1 p2 σ))) (σ1 := σ) (kX8_areTwo e p1 p2 σ) ob_0 vl_X8_115 rfl (Nat.le_of_ble_eq_true rfl) dX8_owes_3 ?_
  by_cases hc1 : (fX8_areTwo p1 p2 σ) = 0
  · rw [if_pos hc1] at hf
    refine a_if_ne_f 12 dX8_owes_6 (by decide) hc1 ?_
    refine a_bipush (-101 : Int32) dX8_owes_9 rfl ?_
    have hq := Option.some.inj hf
    subst hq
    exact a_iret rfl dX8_owes_11
  · rw [if_neg hc1] at hf
    refine a_if_ne_t 12 dX8_owes_6 (by decide) hc1 ?_
    refine a_aload_n dX8_owes_12 rfl 0 rfl ?_
    refine a_get (.ref 4) ob_0 (by decide) fl_X8_26 rfl dX8_owes_13 ?_
    refine a_get (.ref (4 + 5)) (obW isW_4) (by decide) fl_X8_150 (avW5 isW_4) dX8_owes_16 ?_
    refine a_iload_n dX8_owes_19 rfl 1 rfl ?_
    refine a_iload_n dX8_owes_20 rfl 2 rfl ?_
    refine a_callS (as := [.int p1, .int p2]) (stk := [.ref (4 + 5)]) (q := some (.int (fX8_pair p1 p2))) (σ1 := σ) (kX8_pair (e + 1) p1 p2 σ) sl_X8_130 rfl (Nat.le_of_ble_eq_true rfl) dX8_owes_21 ?_
    obtain ⟨hb2, hf⟩ := grd_elim hf
    refine a_iald (iaW5 isW_4) hb2 dX8_owes_24 ?_
    have hq := Option.some.inj hf
    subst hq
    exact a_iret rfl dX8_owes_25
set_option maxHeartbeats 4000000 in
set_option maxRecDepth 100000 in
theorem kX7_balance_L4 (e : Nat) (w0 : Nat) (c1 : Int32) (σ : St) (hw0 : isW w0) {r : Option Value} {τ : St} (q : (Int32)) : ∀ (n : Nat) (v2 : Int32) (v3 : Int32), fX7_balance_L4 w0 c1 σ n v2 v3 = some q → A (e + 1) MX7_balance 42 [(2, .int q)] [] σ r τ → A (e + 1) MX7_balance 4 [(0, .ref w0), (1, .int c1), (2, .int v2), (3, .int v3)] [] σ r τ := by
  intro n
  induction n with
  | zero =>
    intro v2 v3  hf
    simp only [fX7_balance_L4] at hf
    exact absurd hf (by simp)
  | succ n ih =>
    intro v2 v3  hf h2
    rw [fX7_balance_L4] at hf
    refine a_iload_n dX7_balance_4 rfl 3 rfl ?_
    refine a_aload_n dX7_balance_5 rfl 0 rfl ?_
    refine a_get (.int (σ.1 w0 0)) (obW hw0) (by decide) fl_X7_34 (avW0 hw0) dX7_balance_6 ?_
    by_cases hc1 : (σ.1 w0 0) ≤ v3
    · rw [if_pos hc1] at hf
      refine a_icmp_ge_t 42 dX7_balance_9 (by decide) hc1 ?_
      have hq := Option.some.inj hf
      rw [← hq] at h2
      refine a_locs (loc' := [(2, .int v2)]) [2] rfl ?_
      exact h2
    · rw [if_neg hc1] at hf
      refine a_icmp_ge_f 42 dX7_balance_9 (by decide) hc1 ?_
      refine a_iload_n dX7_balance_12 rfl 2 rfl ?_
      refine a_aload_n dX7_balance_13 rfl 0 rfl ?_
      refine a_get (.ref (w0 + 5)) (obW hw0) (by decide) fl_X7_24 (avW5 hw0) dX7_balance_14 ?_
      refine a_iload_n dX7_balance_17 rfl 3 rfl ?_
      refine a_iload_n dX7_balance_18 rfl 1 rfl ?_
      refine a_callS (as := [.int v3, .int c1]) (stk := [.ref (w0 + 5), .int v2]) (q := some (.int (fX8_pair v3 c1))) (σ1 := σ) (kX8_pair e v3 c1 σ) sl_X7_69 rfl (Nat.le_of_ble_eq_true rfl) dX7_balance_19 ?_
      obtain ⟨hb2, hf⟩ := grd_elim hf
      refine a_iald (iaW5 hw0) hb2 dX7_balance_22 ?_
      refine a_aload_n dX7_balance_23 rfl 0 rfl ?_
      refine a_get (.ref (w0 + 5)) (obW hw0) (by decide) fl_X7_24 (avW5 hw0) dX7_balance_24 ?_
      refine a_iload_n dX7_balance_27 rfl 1 rfl ?_
      refine a_iload_n dX7_balance_28 rfl 3 rfl ?_
      refine a_callS (as := [.int c1, .int v3]) (stk := [.ref (w0 + 5), .int (σ.1 (w0 + 5) (fX8_pair v3 c1).toNatClampNeg), .int v2]) (q := some (.int (fX8_pair c1 v3))) (σ1 := σ) (kX8_pair e c1 v3 σ) sl_X7_69 rfl (Nat.le_of_ble_eq_true rfl) dX7_balance_29 ?_
      obtain ⟨hb3, hf⟩ := grd_elim hf
      refine a_iald (iaW5 hw0) hb3 dX7_balance_32 ?_
      refine a_isub dX7_balance_33 ?_
      refine a_iadd dX7_balance_34 ?_
      obtain ⟨x4, hx4, hf⟩ := bnd_elim hf
      refine a_top (w := .int x4) (by rw [hx4]) ?_
      refine a_istore_n dX7_balance_35 rfl (by decide) (loc' := [(2, .int x4), (0, .ref w0), (1, .int c1), (3, .int v3)]) rfl ?_
      refine a_iinc (v3 + (1 : Int32)) dX7_balance_36 3 rfl rfl (by decide) (loc' := [(3, .int (v3 + (1 : Int32))), (2, .int x4), (0, .ref w0), (1, .int c1)]) rfl ?_
      refine a_goto 4 dX7_balance_39 (by decide) ?_
      refine a_locs (loc' := [(0, .ref w0), (1, .int c1), (2, .int x4), (3, .int (v3 + (1 : Int32)))]) [2, 3, 1, 0] rfl ?_
      exact ih x4 (v3 + (1 : Int32)) hf h2
set_option maxHeartbeats 4000000 in
set_option maxRecDepth 100000 in
theorem kX7_balance (e : Nat) (w : Nat) (p1 : Int32) (σ : St) (hw : isW w) (q : Int32) (hf : fX7_balance w p1 σ = some q) : Sp (e + 1) MX7_balance [.ref w, .int p1] σ (some (.int q)) σ := by
  refine sp_of rfl (Nat.le_of_ble_eq_true rfl) (loc := [(0, .ref w), (1, .int p1)]) rfl ?_
  unfold fX7_balance at hf
  refine a_iconst (0 : Int32) dX7_balance_0 rfl ?_
  refine a_istore_n dX7_balance_1 rfl (by decide) (loc' := [(2, .int (0 : Int32)), (0, .ref w), (1, .int p1)]) rfl ?_
  refine a_iconst (0 : Int32) dX7_balance_2 rfl ?_
  refine a_istore_n dX7_balance_3 rfl (by decide) (loc' := [(3, .int (0 : Int32)), (2, .int (0 : Int32)), (0, .ref w), (1, .int p1)]) rfl ?_
  obtain ⟨q5, hr6, hf⟩ := obind hf
  have hA7 : A (e + 1) MX7_balance 42 [(2, .int q5)] [] σ (some (.int q)) σ := by
    refine a_iload_n dX7_balance_42 rfl 0 rfl ?_
    have hq := Option.some.inj hf
    subst hq
    exact a_iret rfl dX7_balance_43
  refine a_locs (loc' := [(0, .ref w), (1, .int p1), (2, .int (0 : Int32)), (3, .int (0 : Int32))]) [2, 3, 1, 0] rfl ?_
  exact kX7_balance_L4 e w p1 σ hw q5 fu (0 : Int32) (0 : Int32) hr6 hA7
set_option maxHeartbeats 4000000 in
set_option maxRecDepth 100000 in
theorem kX8_rest (e : Nat) (p1 : Int32) (σ : St)  (q : Int32) (hf : fX8_rest p1 σ = some q) : Sp (e + 2) MX8_rest [.ref 0, .int p1] σ (some (.int q)) σ := by
  refine sp_of rfl (Nat.le_of_ble_eq_true rfl) (loc := [(0, .ref 0), (1, .int p1)]) rfl ?_
  unfold fX8_rest at hf
  refine a_aload_n dX8_rest_0 rfl 0 rfl ?_
  refine a_iload_n dX8_rest_1 rfl 1 rfl ?_
  refine a_callV (as := [.int p1]) (stk := []) (q := some (.int (fX8_isPerson p1 σ))) (σ1 := σ) (kX8_isPerson (e + 1) p1 σ) ob_0 vl_X8_134 rfl (Nat.le_of_ble_eq_true rfl) dX8_rest_2 ?_
  by_cases hc1 : (fX8_isPerson p1 σ) = 0
  · rw [if_pos hc1] at hf
    refine a_if_ne_f 11 dX8_rest_5 (by decide) hc1 ?_
    refine a_ldc rfl kc_X8_153 dX8_rest_8 ?_
    have hq := Option.some.inj hf
    subst hq
    exact a_iret rfl dX8_rest_10
  · rw [if_neg hc1] at hf
    refine a_if_ne_t 11 dX8_rest_5 (by decide) hc1 ?_
    refine a_aload_n dX8_rest_11 rfl 0 rfl ?_
    refine a_get (.ref 4) ob_0 (by decide) fl_X8_26 rfl dX8_rest_12 ?_
    refine a_iload_n dX8_rest_15 rfl 1 rfl ?_
    obtain ⟨q2, hq2, hf⟩ := obind hf
    refine a_callV (as := [.int p1]) (stk := []) (q := some (.int q2)) (σ1 := σ) (kX7_balance e 4 p1 σ isW_4 _ hq2) (obW isW_4) vl_X8_154 rfl (Nat.le_of_ble_eq_true rfl) dX8_rest_16 ?_
    have hq := Option.some.inj hf
    subst hq
    exact a_iret rfl dX8_rest_19
set_option maxHeartbeats 4000000 in
set_option maxRecDepth 100000 in
theorem kX3_begin (e : Nat) (g : Nat) (p1 : Int32) (p2 : Int32) (σ : St) (hg : OB K58 g 3 8) (q : St) (hf : fX3_begin g p1 p2 σ = some q) : Sp e MX3_begin [.ref g, .int p1, .int p2] σ (none) q := by
  refine sp_of rfl (Nat.le_of_ble_eq_true rfl) (loc := [(0, .ref g), (1, .int p1), (2, .int p2)]) rfl ?_
  unfold fX3_begin at hf
  refine a_aload_n dX3_begin_0 rfl 0 rfl ?_
  refine a_iload_n dX3_begin_1 rfl 1 rfl ?_
  refine a_putI hg (by decide) fp_X3_9 (Or.inl rfl) dX3_begin_2 ?_
  obtain ⟨σ1, hσ1, hf⟩ := bnd_elim hf
  rw [← hσ1]
  refine a_aload_n dX3_begin_5 rfl 0 rfl ?_
  refine a_iload_n dX3_begin_6 rfl 2 rfl ?_
  refine a_putI hg (by decide) fp_X3_15 (Or.inl rfl) dX3_begin_7 ?_
  obtain ⟨σ2, hσ2, hf⟩ := bnd_elim hf
  rw [← hσ2]
  refine a_aload_n dX3_begin_10 rfl 0 rfl ?_
  refine a_iload_n dX3_begin_11 rfl 2 rfl ?_
  refine a_putI hg (by decide) fp_X3_18 (Or.inl rfl) dX3_begin_12 ?_
  obtain ⟨σ3, hσ3, hf⟩ := bnd_elim hf
  rw [← hσ3]
  refine a_aload_n dX3_begin_15 rfl 0 rfl ?_
  refine a_iconst (-1 : Int32) dX3_begin_16 rfl ?_
  refine a_putI hg (by decide) fp_X3_21 (Or.inl rfl) dX3_begin_17 ?_
  obtain ⟨σ4, hσ4, hf⟩ := bnd_elim hf
  rw [← hσ4]
  refine a_aload_n dX3_begin_20 rfl 0 rfl ?_
  refine a_iconst (0 : Int32) dX3_begin_21 rfl ?_
  refine a_putI hg (by decide) fp_X3_24 (Or.inl rfl) dX3_begin_22 ?_
  obtain ⟨σ5, hσ5, hf⟩ := bnd_elim hf
  rw [← hσ5]
  refine a_aload_n dX3_begin_25 rfl 0 rfl ?_
  refine a_iconst (0 : Int32) dX3_begin_26 rfl ?_
  refine a_putI hg (by decide) fp_X3_27 (Or.inl rfl) dX3_begin_27 ?_
  obtain ⟨σ6, hσ6, hf⟩ := bnd_elim hf
  rw [← hσ6]
  refine a_aload_n dX3_begin_30 rfl 0 rfl ?_
  refine a_iconst (0 : Int32) dX3_begin_31 rfl ?_
  refine a_putI hg (by decide) fp_X3_30 (Or.inl rfl) dX3_begin_32 ?_
  obtain ⟨σ7, hσ7, hf⟩ := bnd_elim hf
  rw [← hσ7]
  refine a_aload_n dX3_begin_35 rfl 0 rfl ?_
  refine a_iconst (0 : Int32) dX3_begin_36 rfl ?_
  refine a_putI hg (by decide) fp_X3_33 (Or.inl rfl) dX3_begin_37 ?_
  obtain ⟨σ8, hσ8, hf⟩ := bnd_elim hf
  rw [← hσ8]
  have hq := Option.some.inj hf
  subst hq
  exact a_vret rfl dX3_begin_40
set_option maxHeartbeats 4000000 in
set_option maxRecDepth 100000 in
theorem kX7_addGift (e : Nat) (w : Nat) (p1 : Int32) (p2 : Int32) (σ : St) (hw : isW w) (q : Int32 × St) (hf : fX7_addGift w p1 p2 σ = some q) : Sp (e + 1) MX7_addGift [.ref w, .int p1, .int p2] σ (some (.int q.1)) q.2 := by
  refine sp_of rfl (Nat.le_of_ble_eq_true rfl) (loc := [(0, .ref w), (1, .int p1), (2, .int p2)]) rfl ?_
  unfold fX7_addGift at hf
  refine a_aload_n dX7_addGift_0 rfl 0 rfl ?_
  refine a_get (.ref (w + 6)) (obW hw) (by decide) fl_X7_29 (avW7 hw) dX7_addGift_1 ?_
  refine a_aload_n dX7_addGift_4 rfl 0 rfl ?_
  refine a_get (.int (σ.1 w 6)) (obW hw) (by decide) fl_X7_44 (avW6 hw) dX7_addGift_5 ?_
  obtain ⟨hb1, hf⟩ := grd_elim hf
  refine a_aald (w + 7 + (σ.1 w 6).toNatClampNeg) (gaW hw) hb1 (rfG hw hb1) dX7_addGift_8 ?_
  refine a_iload_n dX7_addGift_9 rfl 1 rfl ?_
  refine a_iload_n dX7_addGift_10 rfl 2 rfl ?_
  obtain ⟨q2, hq2, hf⟩ := obind hf
  refine a_callV (as := [.int p1, .int p2]) (stk := []) (q := none) (σ1 := q2) (kX3_begin e (w + 7 + (σ.1 w 6).toNatClampNeg) p1 p2 σ (obG hw hb1) _ hq2) (obG hw hb1) vl_X7_54 rfl (Nat.le_of_ble_eq_true rfl) dX7_addGift_11 ?_
  refine a_aload_n dX7_addGift_14 rfl 0 rfl ?_
  refine a_dup rfl dX7_addGift_15 ?_
  refine a_get (.int (q2.1 w 6)) (obW hw) (by decide) fl_X7_44 (avW6 hw) dX7_addGift_16 ?_
  refine a_iconst (1 : Int32) dX7_addGift_19 rfl ?_
  refine a_iadd dX7_addGift_20 ?_
  refine a_putI (obW hw) (by decide) fp_X7_44 (Or.inl rfl) dX7_addGift_21 ?_
  obtain ⟨σ3, hσ3, hf⟩ := bnd_elim hf
  rw [← hσ3]
  refine a_aload_n dX7_addGift_24 rfl 0 rfl ?_
  refine a_get (.int (σ3.1 w 6)) (obW hw) (by decide) fl_X7_44 (avW6 hw) dX7_addGift_25 ?_
  refine a_iconst (1 : Int32) dX7_addGift_28 rfl ?_
  refine a_isub dX7_addGift_29 ?_
  have hq := Option.some.inj hf
  subst hq
  exact a_iret rfl dX7_addGift_30
set_option maxHeartbeats 4000000 in
set_option maxRecDepth 100000 in
theorem kX8_gift (e : Nat) (p1 : Int32) (p2 : Int32) (σ : St)  (q : Int32 × St) (hf : fX8_gift p1 p2 σ = some q) : Sp (e + 2) MX8_gift [.ref 0, .int p1, .int p2] σ (some (.int q.1)) q.2 := by
  refine sp_of rfl (Nat.le_of_ble_eq_true rfl) (loc := [(0, .ref 0), (1, .int p1), (2, .int p2)]) rfl ?_
  unfold fX8_gift at hf
  refine a_iload_n dX8_gift_0 rfl 1 rfl ?_
  refine a_iconst (0 : Int32) dX8_gift_1 rfl ?_
  refine a_iconst (4 : Int32) dX8_gift_2 rfl ?_
  refine a_callS (as := [.int p1, .int (0 : Int32), .int (4 : Int32)]) (stk := []) (q := some (.int (fX8_within p1 (0 : Int32) (4 : Int32)))) (σ1 := σ) (kX8_within (e + 1) p1 (0 : Int32) (4 : Int32) σ) sl_X8_91 rfl (Nat.le_of_ble_eq_true rfl) dX8_gift_3 ?_
  by_cases hc1 : (fX8_within p1 (0 : Int32) (4 : Int32)) = 0
  · rw [if_pos hc1] at hf
    refine a_if_ne_f 12 dX8_gift_6 (by decide) hc1 ?_
    refine a_bipush (-102 : Int32) dX8_gift_9 rfl ?_
    have hq := Option.some.inj hf
    subst hq
    exact a_iret rfl dX8_gift_11
  · rw [if_neg hc1] at hf
    refine a_if_ne_t 12 dX8_gift_6 (by decide) hc1 ?_
    refine a_aload_n dX8_gift_12 rfl 0 rfl ?_
    refine a_iload_n dX8_gift_13 rfl 2 rfl ?_
    refine a_callV (as := [.int p2]) (stk := []) (q := some (.int (fX8_isPerson p2 σ))) (σ1 := σ) (kX8_isPerson (e + 1) p2 σ) ob_0 vl_X8_134 rfl (Nat.le_of_ble_eq_true rfl) dX8_gift_14 ?_
    by_cases hc2 : (fX8_isPerson p2 σ) = 0
    · rw [if_pos hc2] at hf
      refine a_if_ne_f 23 dX8_gift_17 (by decide) hc2 ?_
      refine a_bipush (-101 : Int32) dX8_gift_20 rfl ?_
      have hq := Option.some.inj hf
      subst hq
      exact a_iret rfl dX8_gift_22
    · rw [if_neg hc2] at hf
      refine a_if_ne_t 23 dX8_gift_17 (by decide) hc2 ?_
      refine a_aload_n dX8_gift_23 rfl 0 rfl ?_
      refine a_get (.ref 4) ob_0 (by decide) fl_X8_26 rfl dX8_gift_24 ?_
      refine a_get (.int (σ.1 4 6)) (obW isW_4) (by decide) fl_X8_157 (avW6 isW_4) dX8_gift_27 ?_
      refine a_bipush (8 : Int32) dX8_gift_30 rfl ?_
      by_cases hc3 : (σ.1 4 6) < (8 : Int32)
      · rw [if_pos hc3] at hf
        refine a_icmp_lt_t 38 dX8_gift_32 (by decide) hc3 ?_
        refine a_aload_n dX8_gift_38 rfl 0 rfl ?_
        refine a_get (.ref 4) ob_0 (by decide) fl_X8_26 rfl dX8_gift_39 ?_
        refine a_iload_n dX8_gift_42 rfl 1 rfl ?_
        refine a_iload_n dX8_gift_43 rfl 2 rfl ?_
        obtain ⟨q4, hq4, hf⟩ := obind hf
        refine a_callV (as := [.int p1, .int p2]) (stk := []) (q := some (.int q4.1)) (σ1 := q4.2) (kX7_addGift e 4 p1 p2 σ isW_4 _ hq4) (obW isW_4) vl_X8_160 rfl (Nat.le_of_ble_eq_true rfl) dX8_gift_44 ?_
        have hq := Option.some.inj hf
        subst hq
        exact a_iret rfl dX8_gift_47
      · rw [if_neg hc3] at hf
        refine a_icmp_lt_f 38 dX8_gift_32 (by decide) hc3 ?_
        refine a_bipush (-104 : Int32) dX8_gift_35 rfl ?_
        have hq := Option.some.inj hf
        subst hq
        exact a_iret rfl dX8_gift_37
theorem bX8_isGift (p1 : Int32) (σ : St) : fX8_isGift p1 σ = 0 ∨ fX8_isGift p1 σ = 1 := by
  obtain ⟨z, hf⟩ : ∃ z, fX8_isGift p1 σ = z := ⟨_, rfl⟩
  rw [hf]
  unfold fX8_isGift at hf
  by_cases hc1 : p1 < 0
  · rw [if_pos hc1] at hf
    subst hf
    exact (Or.inl rfl)
  · rw [if_neg hc1] at hf
    by_cases hc2 : (σ.1 4 6) ≤ p1
    · rw [if_pos hc2] at hf
      subst hf
      exact (Or.inl rfl)
    · rw [if_neg hc2] at hf
      subst hf
      exact (Or.inr rfl)
set_option maxHeartbeats 4000000 in
set_option maxRecDepth 100000 in
theorem kX8_isGift (e : Nat) (p1 : Int32) (σ : St)  : Sp e MX8_isGift [.ref 0, .int p1] σ (some (.int (fX8_isGift p1 σ))) σ := by
  refine sp_of rfl (Nat.le_of_ble_eq_true rfl) (loc := [(0, .ref 0), (1, .int p1)]) rfl ?_
  obtain ⟨z, hf⟩ : ∃ z, fX8_isGift p1 σ = z := ⟨_, rfl⟩
  rw [hf]
  unfold fX8_isGift at hf
  refine a_iload_n dX8_isGift_0 rfl 1 rfl ?_
  by_cases hc1 : p1 < 0
  · rw [if_pos hc1] at hf
    refine a_if_lt_t 19 dX8_isGift_1 (by decide) hc1 ?_
    refine a_iconst (0 : Int32) dX8_isGift_19 rfl ?_
    subst hf
    exact a_zret rfl (Or.inl rfl) dX8_isGift_20
  · rw [if_neg hc1] at hf
    refine a_if_lt_f 19 dX8_isGift_1 (by decide) hc1 ?_
    refine a_iload_n dX8_isGift_4 rfl 1 rfl ?_
    refine a_aload_n dX8_isGift_5 rfl 0 rfl ?_
    refine a_get (.ref 4) ob_0 (by decide) fl_X8_26 rfl dX8_isGift_6 ?_
    refine a_get (.int (σ.1 4 6)) (obW isW_4) (by decide) fl_X8_157 (avW6 isW_4) dX8_isGift_9 ?_
    by_cases hc2 : (σ.1 4 6) ≤ p1
    · rw [if_pos hc2] at hf
      refine a_icmp_ge_t 19 dX8_isGift_12 (by decide) hc2 ?_
      refine a_iconst (0 : Int32) dX8_isGift_19 rfl ?_
      subst hf
      exact a_zret rfl (Or.inl rfl) dX8_isGift_20
    · rw [if_neg hc2] at hf
      refine a_icmp_ge_f 19 dX8_isGift_12 (by decide) hc2 ?_
      refine a_iconst (1 : Int32) dX8_isGift_15 rfl ?_
      refine a_goto 20 dX8_isGift_16 (by decide) ?_
      subst hf
      exact a_zret rfl (Or.inr rfl) dX8_isGift_20
set_option maxHeartbeats 4000000 in
set_option maxRecDepth 100000 in
theorem kX3_worth (e : Nat) (g : Nat) (σ : St) (hg : OB K58 g 3 8) : Sp (e + 1) MX3_worth [.ref g] σ (some (.int (fX3_worth g σ))) σ := by
  refine sp_of rfl (Nat.le_of_ble_eq_true rfl) (loc := [(0, .ref g)]) rfl ?_
  obtain ⟨z, hf⟩ : ∃ z, fX3_worth g σ = z := ⟨_, rfl⟩
  rw [hf]
  unfold fX3_worth at hf
  refine a_iconst (1 : Int32) dX3_worth_0 rfl ?_
  refine a_bipush (10 : Int32) dX3_worth_1 rfl ?_
  refine a_aload_n dX3_worth_3 rfl 0 rfl ?_
  refine a_get (.int (σ.1 g 4)) hg (by decide) fl_X3_24 (avG hg 4 rfl) dX3_worth_4 ?_
  refine a_isub dX3_worth_7 ?_
  refine a_mmax ml_X3_36 (Nat.le_of_ble_eq_true rfl) dX3_worth_8 ?_
  obtain ⟨x1, hx1, hf⟩ := bnd_elim hf
  refine a_top (w := .int x1) (by rw [hx1]) ?_
  refine a_istore_n dX3_worth_11 rfl (by decide) (loc' := [(1, .int x1), (0, .ref g)]) rfl ?_
  refine a_aload_n dX3_worth_12 rfl 1 rfl ?_
  refine a_get (.int (σ.1 g 0)) hg (by decide) fl_X3_9 (avG hg 0 rfl) dX3_worth_13 ?_
  refine a_iconst (2 : Int32) dX3_worth_16 rfl ?_
  by_cases hc2 : (σ.1 g 0) = (2 : Int32)
  · rw [if_pos hc2] at hf
    refine a_icmp_ne_f 34 dX3_worth_17 (by decide) hc2 ?_
    refine a_iload_n dX3_worth_20 rfl 0 rfl ?_
    refine a_aload_n dX3_worth_21 rfl 1 rfl ?_
    refine a_get (.int (σ.1 g 7)) hg (by decide) fl_X3_33 (avG hg 7 rfl) dX3_worth_22 ?_
    refine a_bipush (9 : Int32) dX3_worth_25 rfl ?_
    refine a_mmin ml_X3_42 (Nat.le_of_ble_eq_true rfl) dX3_worth_27 ?_
    refine a_iadd dX3_worth_30 ?_
    refine a_goto 35 dX3_worth_31 (by decide) ?_
    subst hf
    exact a_iret rfl dX3_worth_35
  · rw [if_neg hc2] at hf
    refine a_icmp_ne_t 34 dX3_worth_17 (by decide) hc2 ?_
    refine a_iload_n dX3_worth_34 rfl 0 rfl ?_
    subst hf
    exact a_iret rfl dX3_worth_35
set_option maxHeartbeats 4000000 in
set_option maxRecDepth 100000 in
theorem kX8_told (e : Nat) (p1 : Int32) (p2 : Int32) (σ : St)  (q : Int32) (hf : fX8_told p1 p2 σ = some q) : Sp (e + 2) MX8_told [.ref 0, .int p1, .int p2] σ (some (.int q)) σ := by
  refine sp_of rfl (Nat.le_of_ble_eq_true rfl) (loc := [(0, .ref 0), (1, .int p1), (2, .int p2)]) rfl ?_
  unfold fX8_told at hf
  refine a_aload_n dX8_told_0 rfl 0 rfl ?_
  refine a_iload_n dX8_told_1 rfl 1 rfl ?_
  refine a_callV (as := [.int p1]) (stk := []) (q := some (.int (fX8_isGift p1 σ))) (σ1 := σ) (kX8_isGift (e + 1) p1 σ) ob_0 vl_X8_163 rfl (Nat.le_of_ble_eq_true rfl) dX8_told_2 ?_
  by_cases hc1 : (fX8_isGift p1 σ) = 0
  · rw [if_pos hc1] at hf
    refine a_if_ne_f 11 dX8_told_5 (by decide) hc1 ?_
    refine a_bipush (-101 : Int32) dX8_told_8 rfl ?_
    have hq := Option.some.inj hf
    subst hq
    exact a_iret rfl dX8_told_10
  · rw [if_neg hc1] at hf
    refine a_if_ne_t 11 dX8_told_5 (by decide) hc1 ?_
    refine a_iload_n dX8_told_11 rfl 2 rfl ?_
    refine a_iconst (0 : Int32) dX8_told_12 rfl ?_
    refine a_bipush (8 : Int32) dX8_told_13 rfl ?_
    refine a_callS (as := [.int p2, .int (0 : Int32), .int (8 : Int32)]) (stk := []) (q := some (.int (fX8_within p2 (0 : Int32) (8 : Int32)))) (σ1 := σ) (kX8_within (e + 1) p2 (0 : Int32) (8 : Int32) σ) sl_X8_91 rfl (Nat.le_of_ble_eq_true rfl) dX8_told_15 ?_
    by_cases hc2 : (fX8_within p2 (0 : Int32) (8 : Int32)) = 0
    · rw [if_pos hc2] at hf
      refine a_if_ne_f 24 dX8_told_18 (by decide) hc2 ?_
      refine a_bipush (-102 : Int32) dX8_told_21 rfl ?_
      have hq := Option.some.inj hf
      subst hq
      exact a_iret rfl dX8_told_23
    · rw [if_neg hc2] at hf
      refine a_if_ne_t 24 dX8_told_18 (by decide) hc2 ?_
      refine a_aload_n dX8_told_24 rfl 0 rfl ?_
      refine a_get (.ref 4) ob_0 (by decide) fl_X8_26 rfl dX8_told_25 ?_
      refine a_get (.ref (4 + 6)) (obW isW_4) (by decide) fl_X8_166 (avW7 isW_4) dX8_told_28 ?_
      refine a_iload_n dX8_told_31 rfl 1 rfl ?_
      obtain ⟨hb3, hf⟩ := grd_elim hf
      refine a_aald (4 + 7 + p1.toNatClampNeg) (gaW isW_4) hb3 (rfG isW_4 hb3) dX8_told_32 ?_
      refine a_astore_n dX8_told_33 rfl (by decide) (loc' := [(3, .ref (4 + 7 + p1.toNatClampNeg)), (0, .ref 0), (1, .int p1), (2, .int p2)]) rfl ?_
      refine a_iload_n dX8_told_34 rfl 3 rfl ?_
      by_cases hc4 : p2 = (0 : Int32)
      · rw [if_pos hc4] at hf
        refine a_tabIn (0 : Int32) 80 dX8_told_35 hc4 (by decide) (by decide) rfl (by decide) ?_
        refine a_aload_n dX8_told_80 rfl 0 rfl ?_
        refine a_get (.int (σ.1 (4 + 7 + p1.toNatClampNeg) 0)) (obG isW_4 hb3) (by decide) fl_X8_170 (avG (obG isW_4 hb3) 0 rfl) dX8_told_81 ?_
        have hq := Option.some.inj hf
        subst hq
        exact a_iret rfl dX8_told_84
      · rw [if_neg hc4] at hf
        by_cases hc5 : p2 = (1 : Int32)
        · rw [if_pos hc5] at hf
          refine a_tabIn (1 : Int32) 85 dX8_told_35 hc5 (by decide) (by decide) rfl (by decide) ?_
          refine a_aload_n dX8_told_85 rfl 0 rfl ?_
          refine a_get (.int (σ.1 (4 + 7 + p1.toNatClampNeg) 1)) (obG isW_4 hb3) (by decide) fl_X8_175 (avG (obG isW_4 hb3) 1 rfl) dX8_told_86 ?_
          have hq := Option.some.inj hf
          subst hq
          exact a_iret rfl dX8_told_89
        · rw [if_neg hc5] at hf
          by_cases hc6 : p2 = (2 : Int32)
          · rw [if_pos hc6] at hf
            refine a_tabIn (2 : Int32) 90 dX8_told_35 hc6 (by decide) (by decide) rfl (by decide) ?_
            refine a_aload_n dX8_told_90 rfl 0 rfl ?_
            refine a_get (.int (σ.1 (4 + 7 + p1.toNatClampNeg) 2)) (obG isW_4 hb3) (by decide) fl_X8_178 (avG (obG isW_4 hb3) 2 rfl) dX8_told_91 ?_
            have hq := Option.some.inj hf
            subst hq
            exact a_iret rfl dX8_told_94
          · rw [if_neg hc6] at hf
            by_cases hc7 : p2 = (3 : Int32)
            · rw [if_pos hc7] at hf
              refine a_tabIn (3 : Int32) 95 dX8_told_35 hc7 (by decide) (by decide) rfl (by decide) ?_
              refine a_aload_n dX8_told_95 rfl 0 rfl ?_
              refine a_get (.int (σ.1 (4 + 7 + p1.toNatClampNeg) 3)) (obG isW_4 hb3) (by decide) fl_X8_181 (avG (obG isW_4 hb3) 3 rfl) dX8_told_96 ?_
              have hq := Option.some.inj hf
              subst hq
              exact a_iret rfl dX8_told_99
            · rw [if_neg hc7] at hf
              by_cases hc8 : p2 = (4 : Int32)
              · rw [if_pos hc8] at hf
                refine a_tabIn (4 : Int32) 100 dX8_told_35 hc8 (by decide) (by decide) rfl (by decide) ?_
                refine a_aload_n dX8_told_100 rfl 0 rfl ?_
                refine a_get (.int (σ.1 (4 + 7 + p1.toNatClampNeg) 4)) (obG isW_4 hb3) (by decide) fl_X8_184 (avG (obG isW_4 hb3) 4 rfl) dX8_told_101 ?_
                have hq := Option.some.inj hf
                subst hq
                exact a_iret rfl dX8_told_104
              · rw [if_neg hc8] at hf
                by_cases hc9 : p2 = (5 : Int32)
                · rw [if_pos hc9] at hf
                  refine a_tabIn (5 : Int32) 105 dX8_told_35 hc9 (by decide) (by decide) rfl (by decide) ?_
                  refine a_aload_n dX8_told_105 rfl 0 rfl ?_
                  refine a_get (.int (σ.1 (4 + 7 + p1.toNatClampNeg) 5)) (obG isW_4 hb3) (by decide) fl_X8_187 (avG (obG isW_4 hb3) 5 rfl) dX8_told_106 ?_
                  have hq := Option.some.inj hf
                  subst hq
                  exact a_iret rfl dX8_told_109
                · rw [if_neg hc9] at hf
                  by_cases hc10 : p2 = (6 : Int32)
                  · rw [if_pos hc10] at hf
                    refine a_tabIn (6 : Int32) 110 dX8_told_35 hc10 (by decide) (by decide) rfl (by decide) ?_
                    refine a_aload_n dX8_told_110 rfl 0 rfl ?_
                    refine a_callV (as := []) (stk := []) (q := some (.int (fX3_worth (4 + 7 + p1.toNatClampNeg) σ))) (σ1 := σ) (kX3_worth e (4 + 7 + p1.toNatClampNeg) σ (obG isW_4 hb3)) (obG isW_4 hb3) vl_X8_190 rfl (Nat.le_of_ble_eq_true rfl) dX8_told_111 ?_
                    have hq := Option.some.inj hf
                    subst hq
                    exact a_iret rfl dX8_told_114
                  · rw [if_neg hc10] at hf
                    by_cases hc11 : p2 = (7 : Int32)
                    · rw [if_pos hc11] at hf
                      refine a_tabIn (7 : Int32) 115 dX8_told_35 hc11 (by decide) (by decide) rfl (by decide) ?_
                      refine a_aload_n dX8_told_115 rfl 0 rfl ?_
                      refine a_get (.int (σ.1 (4 + 7 + p1.toNatClampNeg) 6)) (obG isW_4 hb3) (by decide) fl_X8_193 (avG (obG isW_4 hb3) 6 rfl) dX8_told_116 ?_
                      have hq := Option.some.inj hf
                      subst hq
                      exact a_iret rfl dX8_told_119
                    · rw [if_neg hc11] at hf
                      refine a_tabOut 120 dX8_told_35 (by have q0 := lv_neT hc4 (show Int32.toInt (0 : Int32) = 0 from rfl); have q1 := lv_neT hc5 (show Int32.toInt (1 : Int32) = 1 from rfl); have q2 := lv_neT hc6 (show Int32.toInt (2 : Int32) = 2 from rfl); have q3 := lv_neT hc7 (show Int32.toInt (3 : Int32) = 3 from rfl); have q4 := lv_neT hc8 (show Int32.toInt (4 : Int32) = 4 from rfl); have q5 := lv_neT hc9 (show Int32.toInt (5 : Int32) = 5 from rfl); have q6 := lv_neT hc10 (show Int32.toInt (6 : Int32) = 6 from rfl); have q7 := lv_neT hc11 (show Int32.toInt (7 : Int32) = 7 from rfl); omega) (by decide) ?_
                      refine a_aload_n dX8_told_120 rfl 0 rfl ?_
                      refine a_get (.int (σ.1 (4 + 7 + p1.toNatClampNeg) 7)) (obG isW_4 hb3) (by decide) fl_X8_196 (avG (obG isW_4 hb3) 7 rfl) dX8_told_121 ?_
                      have hq := Option.some.inj hf
                      subst hq
                      exact a_iret rfl dX8_told_124
theorem bX3_isOf (g : Nat) (p1 : Int32) (σ : St) : fX3_isOf g p1 σ = 0 ∨ fX3_isOf g p1 σ = 1 := by
  obtain ⟨z, hf⟩ : ∃ z, fX3_isOf g p1 σ = z := ⟨_, rfl⟩
  rw [hf]
  unfold fX3_isOf at hf
  by_cases hc1 : p1 = 0
  · rw [if_pos hc1] at hf
    subst hf
    exact (Or.inr rfl)
  · rw [if_neg hc1] at hf
    by_cases hc2 : p1 = (σ.1 g 0)
    · rw [if_pos hc2] at hf
      subst hf
      exact (Or.inr rfl)
    · rw [if_neg hc2] at hf
      by_cases hc3 : p1 = (1 : Int32)
      · rw [if_pos hc3] at hf
        by_cases hc4 : (σ.1 g 0) = (4 : Int32)
        · rw [if_pos hc4] at hf
          subst hf
          exact (Or.inr rfl)
        · rw [if_neg hc4] at hf
          subst hf
          exact (Or.inl rfl)
      · rw [if_neg hc3] at hf
        subst hf
        exact (Or.inl rfl)
set_option maxHeartbeats 4000000 in
set_option maxRecDepth 100000 in
theorem kX3_isOf (e : Nat) (g : Nat) (p1 : Int32) (σ : St) (hg : OB K58 g 3 8) : Sp e MX3_isOf [.ref g, .int p1] σ (some (.int (fX3_isOf g p1 σ))) σ := by
  refine sp_of rfl (Nat.le_of_ble_eq_true rfl) (loc := [(0, .ref g), (1, .int p1)]) rfl ?_
  obtain ⟨z, hf⟩ : ∃ z, fX3_isOf g p1 σ = z := ⟨_, rfl⟩
  rw [hf]
  unfold fX3_isOf at hf
  refine a_iload_n dX3_isOf_0 rfl 1 rfl ?_
  by_cases hc1 : p1 = 0
  · rw [if_pos hc1] at hf
    refine a_if_eq_t 25 dX3_isOf_1 (by decide) hc1 ?_
    refine a_iconst (1 : Int32) dX3_isOf_25 rfl ?_
    refine a_goto 30 dX3_isOf_26 (by decide) ?_
    subst hf
    exact a_zret rfl (Or.inr rfl) dX3_isOf_30
  · rw [if_neg hc1] at hf
    refine a_if_eq_f 25 dX3_isOf_1 (by decide) hc1 ?_
    refine a_iload_n dX3_isOf_4 rfl 1 rfl ?_
    refine a_aload_n dX3_isOf_5 rfl 0 rfl ?_
    refine a_get (.int (σ.1 g 0)) hg (by decide) fl_X3_9 (avG hg 0 rfl) dX3_isOf_6 ?_
    by_cases hc2 : p1 = (σ.1 g 0)
    · rw [if_pos hc2] at hf
      refine a_icmp_eq_t 25 dX3_isOf_9 (by decide) hc2 ?_
      refine a_iconst (1 : Int32) dX3_isOf_25 rfl ?_
      refine a_goto 30 dX3_isOf_26 (by decide) ?_
      subst hf
      exact a_zret rfl (Or.inr rfl) dX3_isOf_30
    · rw [if_neg hc2] at hf
      refine a_icmp_eq_f 25 dX3_isOf_9 (by decide) hc2 ?_
      refine a_iload_n dX3_isOf_12 rfl 1 rfl ?_
      refine a_iconst (1 : Int32) dX3_isOf_13 rfl ?_
      by_cases hc3 : p1 = (1 : Int32)
      · rw [if_pos hc3] at hf
        refine a_icmp_ne_f 29 dX3_isOf_14 (by decide) hc3 ?_
        refine a_aload_n dX3_isOf_17 rfl 0 rfl ?_
        refine a_get (.int (σ.1 g 0)) hg (by decide) fl_X3_9 (avG hg 0 rfl) dX3_isOf_18 ?_
        refine a_iconst (4 : Int32) dX3_isOf_21 rfl ?_
        by_cases hc4 : (σ.1 g 0) = (4 : Int32)
        · rw [if_pos hc4] at hf
          refine a_icmp_ne_f 29 dX3_isOf_22 (by decide) hc4 ?_
          refine a_iconst (1 : Int32) dX3_isOf_25 rfl ?_
          refine a_goto 30 dX3_isOf_26 (by decide) ?_
          subst hf
          exact a_zret rfl (Or.inr rfl) dX3_isOf_30
        · rw [if_neg hc4] at hf
          refine a_icmp_ne_t 29 dX3_isOf_22 (by decide) hc4 ?_
          refine a_iconst (0 : Int32) dX3_isOf_29 rfl ?_
          subst hf
          exact a_zret rfl (Or.inl rfl) dX3_isOf_30
      · rw [if_neg hc3] at hf
        refine a_icmp_ne_t 29 dX3_isOf_14 (by decide) hc3 ?_
        refine a_iconst (0 : Int32) dX3_isOf_29 rfl ?_
        subst hf
        exact a_zret rfl (Or.inl rfl) dX3_isOf_30
set_option maxHeartbeats 4000000 in
set_option maxRecDepth 100000 in
theorem kX8_as (e : Nat) (p1 : Int32) (p2 : Int32) (σ : St)  (q : Int32) (hf : fX8_as p1 p2 σ = some q) : Sp (e + 1) MX8_as [.ref 0, .int p1, .int p2] σ (some (.int q)) σ := by
  refine sp_of rfl (Nat.le_of_ble_eq_true rfl) (loc := [(0, .ref 0), (1, .int p1), (2, .int p2)]) rfl ?_
  unfold fX8_as at hf
  refine a_aload_n dX8_as_0 rfl 0 rfl ?_
  refine a_iload_n dX8_as_1 rfl 1 rfl ?_
  refine a_callV (as := [.int p1]) (stk := []) (q := some (.int (fX8_isGift p1 σ))) (σ1 := σ) (kX8_isGift e p1 σ) ob_0 vl_X8_163 rfl (Nat.le_of_ble_eq_true rfl) dX8_as_2 ?_
  by_cases hc1 : (fX8_isGift p1 σ) = 0
  · rw [if_pos hc1] at hf
    refine a_if_ne_f 11 dX8_as_5 (by decide) hc1 ?_
    refine a_bipush (-101 : Int32) dX8_as_8 rfl ?_
    have hq := Option.some.inj hf
    subst hq
    exact a_iret rfl dX8_as_10
  · rw [if_neg hc1] at hf
    refine a_if_ne_t 11 dX8_as_5 (by decide) hc1 ?_
    refine a_iload_n dX8_as_11 rfl 2 rfl ?_
    refine a_iconst (0 : Int32) dX8_as_12 rfl ?_
    refine a_iconst (4 : Int32) dX8_as_13 rfl ?_
    refine a_callS (as := [.int p2, .int (0 : Int32), .int (4 : Int32)]) (stk := []) (q := some (.int (fX8_within p2 (0 : Int32) (4 : Int32)))) (σ1 := σ) (kX8_within e p2 (0 : Int32) (4 : Int32) σ) sl_X8_91 rfl (Nat.le_of_ble_eq_true rfl) dX8_as_14 ?_
    by_cases hc2 : (fX8_within p2 (0 : Int32) (4 : Int32)) = 0
    · rw [if_pos hc2] at hf
      refine a_if_ne_f 23 dX8_as_17 (by decide) hc2 ?_
      refine a_bipush (-102 : Int32) dX8_as_20 rfl ?_
      have hq := Option.some.inj hf
      subst hq
      exact a_iret rfl dX8_as_22
    · rw [if_neg hc2] at hf
      refine a_if_ne_t 23 dX8_as_17 (by decide) hc2 ?_
      refine a_aload_n dX8_as_23 rfl 0 rfl ?_
      refine a_get (.ref 4) ob_0 (by decide) fl_X8_26 rfl dX8_as_24 ?_
      refine a_get (.ref (4 + 6)) (obW isW_4) (by decide) fl_X8_166 (avW7 isW_4) dX8_as_27 ?_
      refine a_iload_n dX8_as_30 rfl 1 rfl ?_
      obtain ⟨hb3, hf⟩ := grd_elim hf
      refine a_aald (4 + 7 + p1.toNatClampNeg) (gaW isW_4) hb3 (rfG isW_4 hb3) dX8_as_31 ?_
      refine a_iload_n dX8_as_32 rfl 2 rfl ?_
      refine a_callV (as := [.int p2]) (stk := []) (q := some (.int (fX3_isOf (4 + 7 + p1.toNatClampNeg) p2 σ))) (σ1 := σ) (kX3_isOf e (4 + 7 + p1.toNatClampNeg) p2 σ (obG isW_4 hb3)) (obG isW_4 hb3) vl_X8_199 rfl (Nat.le_of_ble_eq_true rfl) dX8_as_33 ?_
      by_cases hc4 : (fX3_isOf (4 + 7 + p1.toNatClampNeg) p2 σ) = 0
      · rw [if_pos hc4] at hf
        refine a_if_eq_t 43 dX8_as_36 (by decide) hc4 ?_
        refine a_iconst (-1 : Int32) dX8_as_43 rfl ?_
        have hq := Option.some.inj hf
        subst hq
        exact a_iret rfl dX8_as_44
      · rw [if_neg hc4] at hf
        refine a_if_eq_f 43 dX8_as_36 (by decide) hc4 ?_
        refine a_iload_n dX8_as_39 rfl 1 rfl ?_
        refine a_goto 44 dX8_as_40 (by decide) ?_
        have hq := Option.some.inj hf
        subst hq
        exact a_iret rfl dX8_as_44
set_option maxHeartbeats 4000000 in
set_option maxRecDepth 100000 in
theorem kX7_mayHave (e : Nat) (w : Nat) (p1 : Int32) (p2 : Int32) (p3 : Int32) (σ : St) (hw : isW w) (q : Int32) (hf : fX7_mayHave w p1 p2 p3 σ = some q) : Sp (e + 1) MX7_mayHave [.ref w, .int p1, .int p2, .int p3] σ (some (.int q)) σ := by
  refine sp_of rfl (Nat.le_of_ble_eq_true rfl) (loc := [(0, .ref w), (1, .int p1), (2, .int p2), (3, .int p3)]) rfl ?_
  unfold fX7_mayHave at hf
  refine a_aload_n dX7_mayHave_0 rfl 0 rfl ?_
  refine a_get (.ref (w + 2)) (obW hw) (by decide) fl_X7_15 (avW2 hw) dX7_mayHave_1 ?_
  refine a_iload_n dX7_mayHave_4 rfl 2 rfl ?_
  obtain ⟨hb1, hf⟩ := grd_elim hf
  refine a_iald (iaW2 hw) hb1 dX7_mayHave_5 ?_
  refine a_iload_n dX7_mayHave_6 rfl 1 rfl ?_
  refine a_callS (as := [.int p1]) (stk := [.int (σ.1 (w + 2) p2.toNatClampNeg)]) (q := some (.int (fX8_bit p1))) (σ1 := σ) (kX8_bit e p1 σ) sl_X7_58 rfl (Nat.le_of_ble_eq_true rfl) dX7_mayHave_7 ?_
  refine a_iconst (-1 : Int32) dX7_mayHave_10 rfl ?_
  refine a_ixor dX7_mayHave_11 ?_
  refine a_iand dX7_mayHave_12 ?_
  obtain ⟨x2, hx2, hf⟩ := bnd_elim hf
  refine a_top (w := .int x2) (by rw [hx2]) ?_
  refine a_istore dX7_mayHave_13 (by decide) (loc' := [(4, .int x2), (0, .ref w), (1, .int p1), (2, .int p2), (3, .int p3)]) rfl ?_
  refine a_iload dX7_mayHave_15 0 rfl ?_
  by_cases hc3 : x2 = 0
  · rw [if_pos hc3] at hf
    refine a_if_ne_f 24 dX7_mayHave_17 (by decide) hc3 ?_
    refine a_iload_n dX7_mayHave_20 rfl 4 rfl ?_
    by_cases hc4 : p3 = 0
    · rw [if_pos hc4] at hf
      refine a_if_ne_f 27 dX7_mayHave_21 (by decide) hc4 ?_
      refine a_iload dX7_mayHave_24 0 rfl ?_
      have hq := Option.some.inj hf
      subst hq
      exact a_iret rfl dX7_mayHave_26
    · rw [if_neg hc4] at hf
      refine a_if_ne_t 27 dX7_mayHave_21 (by decide) hc4 ?_
      refine a_aload_n dX7_mayHave_27 rfl 1 rfl ?_
      refine a_get (.ref (w + 2)) (obW hw) (by decide) fl_X7_15 (avW2 hw) dX7_mayHave_28 ?_
      refine a_iload_n dX7_mayHave_31 rfl 3 rfl ?_
      obtain ⟨hb5, hf⟩ := grd_elim hf
      refine a_iald (iaW2 hw) hb5 dX7_mayHave_32 ?_
      refine a_iload_n dX7_mayHave_33 rfl 2 rfl ?_
      refine a_callS (as := [.int p1]) (stk := [.int (σ.1 (w + 2) p2.toNatClampNeg)]) (q := some (.int (fX8_bit p1))) (σ1 := σ) (kX8_bit e p1 σ) sl_X7_58 rfl (Nat.le_of_ble_eq_true rfl) dX7_mayHave_34 ?_
      refine a_iand dX7_mayHave_37 ?_
      have hq := Option.some.inj hf
      subst hq
      exact a_iret rfl dX7_mayHave_38
  · rw [if_neg hc3] at hf
    refine a_if_ne_t 24 dX7_mayHave_17 (by decide) hc3 ?_
    refine a_iload dX7_mayHave_24 0 rfl ?_
    have hq := Option.some.inj hf
    subst hq
    exact a_iret rfl dX7_mayHave_26
set_option maxHeartbeats 4000000 in
set_option maxRecDepth 100000 in
theorem kX8_whoMayHave (e : Nat) (p1 : Int32) (σ : St)  (q : Int32) (hf : fX8_whoMayHave p1 σ = some q) : Sp (e + 2) MX8_whoMayHave [.ref 0, .int p1] σ (some (.int q)) σ := by
  refine sp_of rfl (Nat.le_of_ble_eq_true rfl) (loc := [(0, .ref 0), (1, .int p1)]) rfl ?_
  unfold fX8_whoMayHave at hf
  refine a_aload_n dX8_whoMayHave_0 rfl 0 rfl ?_
  refine a_get (.ref 4) ob_0 (by decide) fl_X8_26 rfl dX8_whoMayHave_1 ?_
  refine a_get (.ref (4 + 6)) (obW isW_4) (by decide) fl_X8_166 (avW7 isW_4) dX8_whoMayHave_4 ?_
  refine a_iload_n dX8_whoMayHave_7 rfl 1 rfl ?_
  obtain ⟨hb1, hf⟩ := grd_elim hf
  refine a_aald (4 + 7 + p1.toNatClampNeg) (gaW isW_4) hb1 (rfG isW_4 hb1) dX8_whoMayHave_8 ?_
  refine a_astore_n dX8_whoMayHave_9 rfl (by decide) (loc' := [(2, .ref (4 + 7 + p1.toNatClampNeg)), (0, .ref 0), (1, .int p1)]) rfl ?_
  refine a_aload_n dX8_whoMayHave_10 rfl 1 rfl ?_
  refine a_get (.ref 4) ob_0 (by decide) fl_X8_26 rfl dX8_whoMayHave_11 ?_
  refine a_aload_n dX8_whoMayHave_14 rfl 0 rfl ?_
  refine a_get (.int (σ.1 (4 + 7 + p1.toNatClampNeg) 3)) (obG isW_4 hb1) (by decide) fl_X8_181 (avG (obG isW_4 hb1) 3 rfl) dX8_whoMayHave_15 ?_
  refine a_aload_n dX8_whoMayHave_18 rfl 0 rfl ?_
  refine a_get (.int (σ.1 (4 + 7 + p1.toNatClampNeg) 2)) (obG isW_4 hb1) (by decide) fl_X8_178 (avG (obG isW_4 hb1) 2 rfl) dX8_whoMayHave_19 ?_
  refine a_aload_n dX8_whoMayHave_22 rfl 1 rfl ?_
  refine a_get (.ref 3) ob_0 (by decide) fl_X8_19 rfl dX8_whoMayHave_23 ?_
  refine a_get (.int (σ.1 3 1)) ob_3 (by decide) fl_X8_98 rfl dX8_whoMayHave_26 ?_
  obtain ⟨q2, hq2, hf⟩ := obind hf
  refine a_callV (as := [.int (σ.1 (4 + 7 + p1.toNatClampNeg) 3), .int (σ.1 (4 + 7 + p1.toNatClampNeg) 2), .int (σ.1 3 1)]) (stk := []) (q := some (.int q2)) (σ1 := σ) (kX7_mayHave e 4 (σ.1 (4 + 7 + p1.toNatClampNeg) 3) (σ.1 (4 + 7 + p1.toNatClampNeg) 2) (σ.1 3 1) σ isW_4 _ hq2) (obW isW_4) vl_X8_347 rfl (Nat.le_of_ble_eq_true rfl) dX8_whoMayHave_29 ?_
  have hq := Option.some.inj hf
  subst hq
  exact a_iret rfl dX8_whoMayHave_32
set_option maxHeartbeats 4000000 in
set_option maxRecDepth 100000 in
theorem kX8_may (e : Nat) (p1 : Int32) (σ : St)  (q : Int32) (hf : fX8_may p1 σ = some q) : Sp (e + 3) MX8_may [.ref 0, .int p1] σ (some (.int q)) σ := by
  refine sp_of rfl (Nat.le_of_ble_eq_true rfl) (loc := [(0, .ref 0), (1, .int p1)]) rfl ?_
  unfold fX8_may at hf
  refine a_aload_n dX8_may_0 rfl 0 rfl ?_
  refine a_iload_n dX8_may_1 rfl 1 rfl ?_
  refine a_callV (as := [.int p1]) (stk := []) (q := some (.int (fX8_isGift p1 σ))) (σ1 := σ) (kX8_isGift (e + 2) p1 σ) ob_0 vl_X8_163 rfl (Nat.le_of_ble_eq_true rfl) dX8_may_2 ?_
  by_cases hc1 : (fX8_isGift p1 σ) = 0
  · rw [if_pos hc1] at hf
    refine a_if_ne_f 11 dX8_may_5 (by decide) hc1 ?_
    refine a_bipush (-101 : Int32) dX8_may_8 rfl ?_
    have hq := Option.some.inj hf
    subst hq
    exact a_iret rfl dX8_may_10
  · rw [if_neg hc1] at hf
    refine a_if_ne_t 11 dX8_may_5 (by decide) hc1 ?_
    refine a_aload_n dX8_may_11 rfl 0 rfl ?_
    refine a_get (.ref 4) ob_0 (by decide) fl_X8_26 rfl dX8_may_12 ?_
    refine a_get (.ref (4 + 6)) (obW isW_4) (by decide) fl_X8_166 (avW7 isW_4) dX8_may_15 ?_
    refine a_iload_n dX8_may_18 rfl 1 rfl ?_
    obtain ⟨hb2, hf⟩ := grd_elim hf
    refine a_aald (4 + 7 + p1.toNatClampNeg) (gaW isW_4) hb2 (rfG isW_4 hb2) dX8_may_19 ?_
    refine a_callV (as := []) (stk := []) (q := some (.int (fX3_lives (4 + 7 + p1.toNatClampNeg) σ))) (σ1 := σ) (kX3_lives (e + 2) (4 + 7 + p1.toNatClampNeg) σ (obG isW_4 hb2)) (obG isW_4 hb2) vl_X8_202 rfl (Nat.le_of_ble_eq_true rfl) dX8_may_20 ?_
    by_cases hc3 : (fX3_lives (4 + 7 + p1.toNatClampNeg) σ) = 0
    · rw [if_pos hc3] at hf
      refine a_if_ne_f 29 dX8_may_23 (by decide) hc3 ?_
      refine a_bipush (-103 : Int32) dX8_may_26 rfl ?_
      have hq := Option.some.inj hf
      subst hq
      exact a_iret rfl dX8_may_28
    · rw [if_neg hc3] at hf
      refine a_if_ne_t 29 dX8_may_23 (by decide) hc3 ?_
      refine a_aload_n dX8_may_29 rfl 0 rfl ?_
      refine a_iload_n dX8_may_30 rfl 1 rfl ?_
      obtain ⟨q4, hq4, hf⟩ := obind hf
      refine a_callV (as := [.int p1]) (stk := []) (q := some (.int q4)) (σ1 := σ) (kX8_whoMayHave e p1 σ _ hq4) ob_0 vl_X8_205 rfl (Nat.le_of_ble_eq_true rfl) dX8_may_31 ?_
      have hq := Option.some.inj hf
      subst hq
      exact a_iret rfl dX8_may_34
set_option maxHeartbeats 4000000 in
set_option maxRecDepth 100000 in
theorem kX3_moveTo (e : Nat) (g : Nat) (p1 : Int32) (p2 : Int32) (σ : St) (hg : OB K58 g 3 8) (q : St) (hf : fX3_moveTo g p1 p2 σ = some q) : Sp (e + 1) MX3_moveTo [.ref g, .int p1, .int p2] σ (none) q := by
  refine sp_of rfl (Nat.le_of_ble_eq_true rfl) (loc := [(0, .ref g), (1, .int p1), (2, .int p2)]) rfl ?_
  unfold fX3_moveTo at hf
  refine a_aload_n dX3_moveTo_0 rfl 0 rfl ?_
  refine a_aload_n dX3_moveTo_1 rfl 0 rfl ?_
  refine a_get (.int (σ.1 g 2)) hg (by decide) fl_X3_18 (avG hg 2 rfl) dX3_moveTo_2 ?_
  refine a_putI hg (by decide) fp_X3_21 (Or.inl rfl) dX3_moveTo_5 ?_
  obtain ⟨σ1, hσ1, hf⟩ := bnd_elim hf
  rw [← hσ1]
  refine a_aload_n dX3_moveTo_8 rfl 0 rfl ?_
  refine a_iload_n dX3_moveTo_9 rfl 1 rfl ?_
  refine a_putI hg (by decide) fp_X3_18 (Or.inl rfl) dX3_moveTo_10 ?_
  obtain ⟨σ2, hσ2, hf⟩ := bnd_elim hf
  rw [← hσ2]
  refine a_aload_n dX3_moveTo_13 rfl 0 rfl ?_
  refine a_iconst (0 : Int32) dX3_moveTo_14 rfl ?_
  refine a_putI hg (by decide) fp_X3_27 (Or.inl rfl) dX3_moveTo_15 ?_
  obtain ⟨σ3, hσ3, hf⟩ := bnd_elim hf
  rw [← hσ3]
  refine a_aload_n dX3_moveTo_18 rfl 0 rfl ?_
  refine a_dup rfl dX3_moveTo_19 ?_
  refine a_get (.int (σ3.1 g 7)) hg (by decide) fl_X3_33 (avG hg 7 rfl) dX3_moveTo_20 ?_
  refine a_iconst (1 : Int32) dX3_moveTo_23 rfl ?_
  refine a_iadd dX3_moveTo_24 ?_
  refine a_putI hg (by decide) fp_X3_33 (Or.inl rfl) dX3_moveTo_25 ?_
  obtain ⟨σ4, hσ4, hf⟩ := bnd_elim hf
  rw [← hσ4]
  refine a_aload_n dX3_moveTo_28 rfl 0 rfl ?_
  refine a_get (.int (σ4.1 g 0)) hg (by decide) fl_X3_9 (avG hg 0 rfl) dX3_moveTo_29 ?_
  refine a_iconst (4 : Int32) dX3_moveTo_32 rfl ?_
  obtain ⟨q6, hr15, hf⟩ := obind hf
  have hA14 : A (e + 1) MX3_moveTo 67 [(0, .ref g), (2, .int p2)] [] q6 none q := by
    refine a_aload_n dX3_moveTo_67 rfl 0 rfl ?_
    refine a_iconst (1 : Int32) dX3_moveTo_68 rfl ?_
    refine a_callV (as := [.int (1 : Int32)]) (stk := []) (q := some (.int (fX3_isOf g (1 : Int32) q6))) (σ1 := q6) (kX3_isOf e g (1 : Int32) q6 hg) hg vl_X3_49 rfl (Nat.le_of_ble_eq_true rfl) dX3_moveTo_69 ?_
    by_cases hc7 : (fX3_isOf g (1 : Int32) q6) = 0
    · rw [if_pos hc7] at hf
      refine a_if_eq_t 91 dX3_moveTo_72 (by decide) hc7 ?_
      refine a_aload_n dX3_moveTo_91 rfl 0 rfl ?_
      refine a_get (.int (q6.1 g 2)) hg (by decide) fl_X3_18 (avG hg 2 rfl) dX3_moveTo_92 ?_
      refine a_aload_n dX3_moveTo_95 rfl 0 rfl ?_
      refine a_get (.int (q6.1 g 1)) hg (by decide) fl_X3_15 (avG hg 1 rfl) dX3_moveTo_96 ?_
      by_cases hc8 : (q6.1 g 2) = (q6.1 g 1)
      · rw [if_pos hc8] at hf
        refine a_icmp_ne_f 107 dX3_moveTo_99 (by decide) hc8 ?_
        refine a_aload_n dX3_moveTo_102 rfl 0 rfl ?_
        refine a_iconst (1 : Int32) dX3_moveTo_103 rfl ?_
        refine a_putI hg (by decide) fp_X3_30 (Or.inl rfl) dX3_moveTo_104 ?_
        obtain ⟨σ9, hσ9, hf⟩ := bnd_elim hf
        rw [← hσ9]
        have hq := Option.some.inj hf
        subst hq
        exact a_vret rfl dX3_moveTo_107
      · rw [if_neg hc8] at hf
        refine a_icmp_ne_t 107 dX3_moveTo_99 (by decide) hc8 ?_
        have hq := Option.some.inj hf
        subst hq
        exact a_vret rfl dX3_moveTo_107
    · rw [if_neg hc7] at hf
      refine a_if_eq_f 91 dX3_moveTo_72 (by decide) hc7 ?_
      refine a_aload_n dX3_moveTo_75 rfl 0 rfl ?_
      refine a_get (.int (q6.1 g 4)) hg (by decide) fl_X3_24 (avG hg 4 rfl) dX3_moveTo_76 ?_
      refine a_iload_n dX3_moveTo_79 rfl 1 rfl ?_
      by_cases hc10 : (q6.1 g 4) < p2
      · rw [if_pos hc10] at hf
        refine a_icmp_lt_t 91 dX3_moveTo_80 (by decide) hc10 ?_
        refine a_aload_n dX3_moveTo_91 rfl 0 rfl ?_
        refine a_get (.int (q6.1 g 2)) hg (by decide) fl_X3_18 (avG hg 2 rfl) dX3_moveTo_92 ?_
        refine a_aload_n dX3_moveTo_95 rfl 0 rfl ?_
        refine a_get (.int (q6.1 g 1)) hg (by decide) fl_X3_15 (avG hg 1 rfl) dX3_moveTo_96 ?_
        by_cases hc11 : (q6.1 g 2) = (q6.1 g 1)
        · rw [if_pos hc11] at hf
          refine a_icmp_ne_f 107 dX3_moveTo_99 (by decide) hc11 ?_
          refine a_aload_n dX3_moveTo_102 rfl 0 rfl ?_
          refine a_iconst (1 : Int32) dX3_moveTo_103 rfl ?_
          refine a_putI hg (by decide) fp_X3_30 (Or.inl rfl) dX3_moveTo_104 ?_
          obtain ⟨σ12, hσ12, hf⟩ := bnd_elim hf
          rw [← hσ12]
          have hq := Option.some.inj hf
          subst hq
          exact a_vret rfl dX3_moveTo_107
        · rw [if_neg hc11] at hf
          refine a_icmp_ne_t 107 dX3_moveTo_99 (by decide) hc11 ?_
          have hq := Option.some.inj hf
          subst hq
          exact a_vret rfl dX3_moveTo_107
      · rw [if_neg hc10] at hf
        refine a_icmp_lt_f 91 dX3_moveTo_80 (by decide) hc10 ?_
        refine a_aload_n dX3_moveTo_83 rfl 0 rfl ?_
        refine a_iconst (2 : Int32) dX3_moveTo_84 rfl ?_
        refine a_putI hg (by decide) fp_X3_30 (Or.inl rfl) dX3_moveTo_85 ?_
        obtain ⟨σ13, hσ13, hf⟩ := bnd_elim hf
        rw [← hσ13]
        refine a_goto 107 dX3_moveTo_88 (by decide) ?_
        have hq := Option.some.inj hf
        subst hq
        exact a_vret rfl dX3_moveTo_107
  clear hf
  have hf := hr15
  clear hr15
  by_cases hc5 : (σ4.1 g 0) = (4 : Int32)
  · rw [if_pos hc5] at hf
    refine a_icmp_ne_f 49 dX3_moveTo_33 (by decide) hc5 ?_
    refine a_aload_n dX3_moveTo_36 rfl 0 rfl ?_
    refine a_dup rfl dX3_moveTo_37 ?_
    refine a_get (.int (σ4.1 g 4)) hg (by decide) fl_X3_24 (avG hg 4 rfl) dX3_moveTo_38 ?_
    refine a_iconst (2 : Int32) dX3_moveTo_41 rfl ?_
    refine a_iadd dX3_moveTo_42 ?_
    refine a_putI hg (by decide) fp_X3_24 (Or.inl rfl) dX3_moveTo_43 ?_
    obtain ⟨σ16, hσ16, hf⟩ := bnd_elim hf
    rw [← hσ16]
    refine a_goto 67 dX3_moveTo_46 (by decide) ?_
    have hq := Option.some.inj hf
    subst hq
    refine a_locs (loc' := [(0, .ref g), (2, .int p2)]) [0, 2] rfl ?_
    exact hA14
  · rw [if_neg hc5] at hf
    refine a_icmp_ne_t 49 dX3_moveTo_33 (by decide) hc5 ?_
    refine a_aload_n dX3_moveTo_49 rfl 0 rfl ?_
    refine a_get (.int (σ4.1 g 0)) hg (by decide) fl_X3_9 (avG hg 0 rfl) dX3_moveTo_50 ?_
    refine a_iconst (2 : Int32) dX3_moveTo_53 rfl ?_
    by_cases hc17 : (σ4.1 g 0) = (2 : Int32)
    · rw [if_pos hc17] at hf
      refine a_icmp_eq_t 67 dX3_moveTo_54 (by decide) hc17 ?_
      have hq := Option.some.inj hf
      subst hq
      refine a_locs (loc' := [(0, .ref g), (2, .int p2)]) [0, 2] rfl ?_
      exact hA14
    · rw [if_neg hc17] at hf
      refine a_icmp_eq_f 67 dX3_moveTo_54 (by decide) hc17 ?_
      refine a_aload_n dX3_moveTo_57 rfl 0 rfl ?_
      refine a_dup rfl dX3_moveTo_58 ?_
      refine a_get (.int (σ4.1 g 4)) hg (by decide) fl_X3_24 (avG hg 4 rfl) dX3_moveTo_59 ?_
      refine a_iconst (1 : Int32) dX3_moveTo_62 rfl ?_
      refine a_iadd dX3_moveTo_63 ?_
      refine a_putI hg (by decide) fp_X3_24 (Or.inl rfl) dX3_moveTo_64 ?_
      obtain ⟨σ18, hσ18, hf⟩ := bnd_elim hf
      rw [← hσ18]
      have hq := Option.some.inj hf
      subst hq
      refine a_locs (loc' := [(0, .ref g), (2, .int p2)]) [0, 2] rfl ?_
      exact hA14
set_option maxHeartbeats 4000000 in
set_option maxRecDepth 100000 in
theorem kX7_handOn (e : Nat) (w : Nat) (g1 : Nat) (p2 : Int32) (p3 : Int32) (σ : St) (hw : isW w) (hg1 : OB K58 g1 3 8) (q : St) (hf : fX7_handOn w g1 p2 p3 σ = some q) : Sp (e + 2) MX7_handOn [.ref w, .ref g1, .int p2, .int p3] σ (none) q := by
  refine sp_of rfl (Nat.le_of_ble_eq_true rfl) (loc := [(0, .ref w), (1, .ref g1), (2, .int p2), (3, .int p3)]) rfl ?_
  unfold fX7_handOn at hf
  refine a_aload_n dX7_handOn_0 rfl 0 rfl ?_
  refine a_get (.ref (w + 5)) (obW hw) (by decide) fl_X7_24 (avW5 hw) dX7_handOn_1 ?_
  refine a_iload_n dX7_handOn_4 rfl 2 rfl ?_
  refine a_aload_n dX7_handOn_5 rfl 1 rfl ?_
  refine a_get (.int (σ.1 g1 2)) hg1 (by decide) fl_X7_66 (avG hg1 2 rfl) dX7_handOn_6 ?_
  refine a_callS (as := [.int p2, .int (σ.1 g1 2)]) (stk := [.ref (w + 5)]) (q := some (.int (fX8_pair p2 (σ.1 g1 2)))) (σ1 := σ) (kX8_pair (e + 1) p2 (σ.1 g1 2) σ) sl_X7_69 rfl (Nat.le_of_ble_eq_true rfl) dX7_handOn_9 ?_
  refine a_dup2 rfl rfl dX7_handOn_12 ?_
  obtain ⟨hb1, hf⟩ := grd_elim hf
  refine a_iald (iaW5 hw) hb1 dX7_handOn_13 ?_
  refine a_aload_n dX7_handOn_14 rfl 1 rfl ?_
  refine a_callV (as := []) (stk := [.int (σ.1 (w + 5) (fX8_pair p2 (σ.1 g1 2)).toNatClampNeg), .int (fX8_pair p2 (σ.1 g1 2)), .ref (w + 5)]) (q := some (.int (fX3_worth g1 σ))) (σ1 := σ) (kX3_worth e g1 σ hg1) hg1 vl_X7_73 rfl (Nat.le_of_ble_eq_true rfl) dX7_handOn_15 ?_
  refine a_iadd dX7_handOn_18 ?_
  obtain ⟨hb2, hf⟩ := grd_elim hf
  refine a_iast (iaW5 hw) hb2 dX7_handOn_19 ?_
  obtain ⟨σ3, hσ3, hf⟩ := bnd_elim hf
  rw [← hσ3]
  refine a_aload_n dX7_handOn_20 rfl 1 rfl ?_
  refine a_iload_n dX7_handOn_21 rfl 2 rfl ?_
  refine a_iload_n dX7_handOn_22 rfl 3 rfl ?_
  obtain ⟨q4, hq4, hf⟩ := obind hf
  refine a_callV (as := [.int p2, .int p3]) (stk := []) (q := none) (σ1 := q4) (kX3_moveTo e g1 p2 p3 σ3 hg1 _ hq4) hg1 vl_X7_77 rfl (Nat.le_of_ble_eq_true rfl) dX7_handOn_23 ?_
  refine a_aload_n dX7_handOn_26 rfl 1 rfl ?_
  refine a_get (.int (q4.1 g1 6)) hg1 (by decide) fl_X7_80 (avG hg1 6 rfl) dX7_handOn_27 ?_
  refine a_iconst (1 : Int32) dX7_handOn_30 rfl ?_
  by_cases hc5 : (q4.1 g1 6) = (1 : Int32)
  · rw [if_pos hc5] at hf
    refine a_icmp_ne_f 44 dX7_handOn_31 (by decide) hc5 ?_
    refine a_aload_n dX7_handOn_34 rfl 0 rfl ?_
    refine a_get (.ref (w + 3)) (obW hw) (by decide) fl_X7_18 (avW3 hw) dX7_handOn_35 ?_
    refine a_iload_n dX7_handOn_38 rfl 2 rfl ?_
    refine a_dup2 rfl rfl dX7_handOn_39 ?_
    obtain ⟨hb6, hf⟩ := grd_elim hf
    refine a_iald (iaW3 hw) hb6 dX7_handOn_40 ?_
    refine a_iconst (1 : Int32) dX7_handOn_41 rfl ?_
    refine a_iadd dX7_handOn_42 ?_
    obtain ⟨hb7, hf⟩ := grd_elim hf
    refine a_iast (iaW3 hw) hb7 dX7_handOn_43 ?_
    obtain ⟨σ8, hσ8, hf⟩ := bnd_elim hf
    rw [← hσ8]
    have hq := Option.some.inj hf
    subst hq
    exact a_vret rfl dX7_handOn_44
  · rw [if_neg hc5] at hf
    refine a_icmp_ne_t 44 dX7_handOn_31 (by decide) hc5 ?_
    have hq := Option.some.inj hf
    subst hq
    exact a_vret rfl dX7_handOn_44
set_option maxHeartbeats 4000000 in
set_option maxRecDepth 100000 in
theorem kX8_give (e : Nat) (p1 : Int32) (p2 : Int32) (σ : St)  (q : Int32 × St) (hf : fX8_give p1 p2 σ = some q) : Sp (e + 3) MX8_give [.ref 0, .int p1, .int p2] σ (some (.int q.1)) q.2 := by
  refine sp_of rfl (Nat.le_of_ble_eq_true rfl) (loc := [(0, .ref 0), (1, .int p1), (2, .int p2)]) rfl ?_
  unfold fX8_give at hf
  refine a_aload_n dX8_give_0 rfl 0 rfl ?_
  refine a_iload_n dX8_give_1 rfl 1 rfl ?_
  refine a_callV (as := [.int p1]) (stk := []) (q := some (.int (fX8_isGift p1 σ))) (σ1 := σ) (kX8_isGift (e + 2) p1 σ) ob_0 vl_X8_163 rfl (Nat.le_of_ble_eq_true rfl) dX8_give_2 ?_
  by_cases hc1 : (fX8_isGift p1 σ) = 0
  · rw [if_pos hc1] at hf
    refine a_if_eq_t 16 dX8_give_5 (by decide) hc1 ?_
    refine a_bipush (-101 : Int32) dX8_give_16 rfl ?_
    have hq := Option.some.inj hf
    subst hq
    exact a_iret rfl dX8_give_18
  · rw [if_neg hc1] at hf
    refine a_if_eq_f 16 dX8_give_5 (by decide) hc1 ?_
    refine a_aload_n dX8_give_8 rfl 0 rfl ?_
    refine a_iload_n dX8_give_9 rfl 2 rfl ?_
    refine a_callV (as := [.int p2]) (stk := []) (q := some (.int (fX8_isPerson p2 σ))) (σ1 := σ) (kX8_isPerson (e + 2) p2 σ) ob_0 vl_X8_134 rfl (Nat.le_of_ble_eq_true rfl) dX8_give_10 ?_
    by_cases hc2 : (fX8_isPerson p2 σ) = 0
    · rw [if_pos hc2] at hf
      refine a_if_ne_f 19 dX8_give_13 (by decide) hc2 ?_
      refine a_bipush (-101 : Int32) dX8_give_16 rfl ?_
      have hq := Option.some.inj hf
      subst hq
      exact a_iret rfl dX8_give_18
    · rw [if_neg hc2] at hf
      refine a_if_ne_t 19 dX8_give_13 (by decide) hc2 ?_
      refine a_aload_n dX8_give_19 rfl 0 rfl ?_
      refine a_get (.ref 4) ob_0 (by decide) fl_X8_26 rfl dX8_give_20 ?_
      refine a_get (.ref (4 + 6)) (obW isW_4) (by decide) fl_X8_166 (avW7 isW_4) dX8_give_23 ?_
      refine a_iload_n dX8_give_26 rfl 1 rfl ?_
      obtain ⟨hb3, hf⟩ := grd_elim hf
      refine a_aald (4 + 7 + p1.toNatClampNeg) (gaW isW_4) hb3 (rfG isW_4 hb3) dX8_give_27 ?_
      refine a_callV (as := []) (stk := []) (q := some (.int (fX3_lives (4 + 7 + p1.toNatClampNeg) σ))) (σ1 := σ) (kX3_lives (e + 2) (4 + 7 + p1.toNatClampNeg) σ (obG isW_4 hb3)) (obG isW_4 hb3) vl_X8_202 rfl (Nat.le_of_ble_eq_true rfl) dX8_give_28 ?_
      by_cases hc4 : (fX3_lives (4 + 7 + p1.toNatClampNeg) σ) = 0
      · rw [if_pos hc4] at hf
        refine a_if_ne_f 37 dX8_give_31 (by decide) hc4 ?_
        refine a_bipush (-103 : Int32) dX8_give_34 rfl ?_
        have hq := Option.some.inj hf
        subst hq
        exact a_iret rfl dX8_give_36
      · rw [if_neg hc4] at hf
        refine a_if_ne_t 37 dX8_give_31 (by decide) hc4 ?_
        refine a_aload_n dX8_give_37 rfl 0 rfl ?_
        refine a_iload_n dX8_give_38 rfl 1 rfl ?_
        obtain ⟨q5, hq5, hf⟩ := obind hf
        refine a_callV (as := [.int p1]) (stk := []) (q := some (.int q5)) (σ1 := σ) (kX8_whoMayHave e p1 σ _ hq5) ob_0 vl_X8_205 rfl (Nat.le_of_ble_eq_true rfl) dX8_give_39 ?_
        refine a_iload_n dX8_give_42 rfl 2 rfl ?_
        refine a_callS (as := [.int p2]) (stk := [.int q5]) (q := some (.int (fX8_bit p2))) (σ1 := σ) (kX8_bit (e + 2) p2 σ) sl_X8_208 rfl (Nat.le_of_ble_eq_true rfl) dX8_give_43 ?_
        refine a_iand dX8_give_46 ?_
        by_cases hc6 : (q5 &&& (fX8_bit p2)) = 0
        · rw [if_pos hc6] at hf
          refine a_if_ne_f 53 dX8_give_47 (by decide) hc6 ?_
          refine a_bipush (-103 : Int32) dX8_give_50 rfl ?_
          have hq := Option.some.inj hf
          subst hq
          exact a_iret rfl dX8_give_52
        · rw [if_neg hc6] at hf
          refine a_if_ne_t 53 dX8_give_47 (by decide) hc6 ?_
          refine a_aload_n dX8_give_53 rfl 0 rfl ?_
          refine a_get (.ref 4) ob_0 (by decide) fl_X8_26 rfl dX8_give_54 ?_
          refine a_aload_n dX8_give_57 rfl 0 rfl ?_
          refine a_get (.ref 4) ob_0 (by decide) fl_X8_26 rfl dX8_give_58 ?_
          refine a_get (.ref (4 + 6)) (obW isW_4) (by decide) fl_X8_166 (avW7 isW_4) dX8_give_61 ?_
          refine a_iload_n dX8_give_64 rfl 1 rfl ?_
          obtain ⟨hb7, hf⟩ := grd_elim hf
          refine a_aald (4 + 7 + p1.toNatClampNeg) (gaW isW_4) hb7 (rfG isW_4 hb7) dX8_give_65 ?_
          refine a_iload_n dX8_give_66 rfl 2 rfl ?_
          refine a_aload_n dX8_give_67 rfl 0 rfl ?_
          refine a_get (.ref 3) ob_0 (by decide) fl_X8_19 rfl dX8_give_68 ?_
          refine a_get (.int (σ.1 3 3)) ob_3 (by decide) fl_X8_105 rfl dX8_give_71 ?_
          obtain ⟨q8, hq8, hf⟩ := obind hf
          refine a_callV (as := [.ref (4 + 7 + p1.toNatClampNeg), .int p2, .int (σ.1 3 3)]) (stk := []) (q := none) (σ1 := q8) (kX7_handOn e 4 (4 + 7 + p1.toNatClampNeg) p2 (σ.1 3 3) σ isW_4 (obG isW_4 hb7) _ hq8) (obW isW_4) vl_X8_211 rfl (Nat.le_of_ble_eq_true rfl) dX8_give_74 ?_
          refine a_aload_n dX8_give_77 rfl 0 rfl ?_
          refine a_get (.ref 4) ob_0 (by decide) fl_X8_26 rfl dX8_give_78 ?_
          refine a_get (.ref (4 + 6)) (obW isW_4) (by decide) fl_X8_166 (avW7 isW_4) dX8_give_81 ?_
          refine a_iload_n dX8_give_84 rfl 1 rfl ?_
          obtain ⟨hb9, hf⟩ := grd_elim hf
          refine a_aald (4 + 7 + p1.toNatClampNeg) (gaW isW_4) hb9 (rfG isW_4 hb9) dX8_give_85 ?_
          refine a_get (.int (q8.1 (4 + 7 + p1.toNatClampNeg) 6)) (obG isW_4 hb9) (by decide) fl_X8_193 (avG (obG isW_4 hb9) 6 rfl) dX8_give_86 ?_
          have hq := Option.some.inj hf
          subst hq
          exact a_iret rfl dX8_give_89
theorem bX3_mustGo (g : Nat) (p1 : Int32) (σ : St) : fX3_mustGo g p1 σ = 0 ∨ fX3_mustGo g p1 σ = 1 := by
  obtain ⟨z, hf⟩ : ∃ z, fX3_mustGo g p1 σ = z := ⟨_, rfl⟩
  rw [hf]
  unfold fX3_mustGo at hf
  by_cases hc1 : (fX3_lives g σ) = 0
  · rw [if_pos hc1] at hf
    subst hf
    exact (Or.inl rfl)
  · rw [if_neg hc1] at hf
    obtain ⟨x3, hx3, hf⟩ := bnd_elim hf
    by_cases hc4 : (σ.1 g 5) < x3
    · rw [if_pos hc4] at hf
      subst hf
      exact (Or.inl rfl)
    · rw [if_neg hc4] at hf
      subst hf
      exact (Or.inr rfl)
set_option maxHeartbeats 4000000 in
set_option maxRecDepth 100000 in
theorem kX3_mustGo (e : Nat) (g : Nat) (p1 : Int32) (σ : St) (hg : OB K58 g 3 8) : Sp (e + 1) MX3_mustGo [.ref g, .int p1] σ (some (.int (fX3_mustGo g p1 σ))) σ := by
  refine sp_of rfl (Nat.le_of_ble_eq_true rfl) (loc := [(0, .ref g), (1, .int p1)]) rfl ?_
  obtain ⟨z, hf⟩ : ∃ z, fX3_mustGo g p1 σ = z := ⟨_, rfl⟩
  rw [hf]
  unfold fX3_mustGo at hf
  refine a_aload_n dX3_mustGo_0 rfl 0 rfl ?_
  refine a_callV (as := []) (stk := []) (q := some (.int (fX3_lives g σ))) (σ1 := σ) (kX3_lives e g σ hg) hg vl_X3_45 rfl (Nat.le_of_ble_eq_true rfl) dX3_mustGo_1 ?_
  by_cases hc1 : (fX3_lives g σ) = 0
  · rw [if_pos hc1] at hf
    refine a_if_eq_t 33 dX3_mustGo_4 (by decide) hc1 ?_
    refine a_iconst (0 : Int32) dX3_mustGo_33 rfl ?_
    subst hf
    exact a_zret rfl (Or.inl rfl) dX3_mustGo_34
  · rw [if_neg hc1] at hf
    refine a_if_eq_f 33 dX3_mustGo_4 (by decide) hc1 ?_
    refine a_aload_n dX3_mustGo_7 rfl 0 rfl ?_
    refine a_get (.int (σ.1 g 5)) hg (by decide) fl_X3_27 (avG hg 5 rfl) dX3_mustGo_8 ?_
    refine a_aload_n dX3_mustGo_11 rfl 0 rfl ?_
    refine a_get (.int (σ.1 g 0)) hg (by decide) fl_X3_9 (avG hg 0 rfl) dX3_mustGo_12 ?_
    refine a_iconst (3 : Int32) dX3_mustGo_15 rfl ?_
    obtain ⟨x3, hx3, hf⟩ := bnd_elim hf
    have hA5 : A (e + 1) MX3_mustGo 26 [] [.int x3, .int (σ.1 g 5)] σ (some (.int z)) σ := by
      by_cases hc4 : (σ.1 g 5) < x3
      · rw [if_pos hc4] at hf
        refine a_icmp_lt_t 33 dX3_mustGo_26 (by decide) hc4 ?_
        refine a_iconst (0 : Int32) dX3_mustGo_33 rfl ?_
        subst hf
        exact a_zret rfl (Or.inl rfl) dX3_mustGo_34
      · rw [if_neg hc4] at hf
        refine a_icmp_lt_f 33 dX3_mustGo_26 (by decide) hc4 ?_
        refine a_iconst (1 : Int32) dX3_mustGo_29 rfl ?_
        refine a_goto 34 dX3_mustGo_30 (by decide) ?_
        subst hf
        exact a_zret rfl (Or.inr rfl) dX3_mustGo_34
    clear hf
    by_cases hc2 : (σ.1 g 0) = (3 : Int32)
    · rw [if_pos hc2] at hx3
      refine a_icmp_ne_f 25 dX3_mustGo_16 (by decide) hc2 ?_
      refine a_iload_n dX3_mustGo_19 rfl 1 rfl ?_
      refine a_iconst (1 : Int32) dX3_mustGo_20 rfl ?_
      refine a_iadd dX3_mustGo_21 ?_
      refine a_goto 26 dX3_mustGo_22 (by decide) ?_
      replace hx3 := hx3.symm; subst hx3
      refine a_locs (loc' := []) [] rfl ?_
      exact hA5
    · rw [if_neg hc2] at hx3
      refine a_icmp_ne_t 25 dX3_mustGo_16 (by decide) hc2 ?_
      refine a_iload_n dX3_mustGo_25 rfl 1 rfl ?_
      replace hx3 := hx3.symm; subst hx3
      refine a_locs (loc' := []) [] rfl ?_
      exact hA5
set_option maxHeartbeats 4000000 in
set_option maxRecDepth 100000 in
theorem kX7_markOf (e : Nat) (w : Nat) (p1 : Int32) (p2 : Int32) (σ : St) (hw : isW w) (q : Int32) (hf : fX7_markOf w p1 p2 σ = some q) : Sp (e + 2) MX7_markOf [.ref w, .int p1, .int p2] σ (some (.int q)) σ := by
  refine sp_of rfl (Nat.le_of_ble_eq_true rfl) (loc := [(0, .ref w), (1, .int p1), (2, .int p2)]) rfl ?_
  unfold fX7_markOf at hf
  refine a_aload_n dX7_markOf_0 rfl 0 rfl ?_
  refine a_get (.ref (w + 1)) (obW hw) (by decide) fl_X7_9 (avW1 hw) dX7_markOf_1 ?_
  refine a_iload_n dX7_markOf_4 rfl 1 rfl ?_
  obtain ⟨hb1, hf⟩ := grd_elim hf
  refine a_iald (iaW1 hw) hb1 dX7_markOf_5 ?_
  by_cases hc2 : (σ.1 (w + 1) p1.toNatClampNeg) = (0 : Int32)
  · rw [if_pos hc2] at hf
    refine a_tabIn (0 : Int32) 32 dX7_markOf_6 hc2 (by decide) (by decide) rfl (by decide) ?_
    refine a_iload_n dX7_markOf_32 rfl 2 rfl ?_
    refine a_ineg dX7_markOf_33 ?_
    have hq := Option.some.inj hf
    subst hq
    exact a_iret rfl dX7_markOf_34
  · rw [if_neg hc2] at hf
    by_cases hc3 : (σ.1 (w + 1) p1.toNatClampNeg) = (1 : Int32)
    · rw [if_pos hc3] at hf
      refine a_tabIn (1 : Int32) 35 dX7_markOf_6 hc3 (by decide) (by decide) rfl (by decide) ?_
      refine a_iload_n dX7_markOf_35 rfl 2 rfl ?_
      have hq := Option.some.inj hf
      subst hq
      exact a_iret rfl dX7_markOf_36
    · rw [if_neg hc3] at hf
      by_cases hc4 : (σ.1 (w + 1) p1.toNatClampNeg) = (2 : Int32)
      · rw [if_pos hc4] at hf
        refine a_tabIn (2 : Int32) 37 dX7_markOf_6 hc4 (by decide) (by decide) rfl (by decide) ?_
        refine a_aload_n dX7_markOf_37 rfl 0 rfl ?_
        refine a_get (.ref (w + 4)) (obW hw) (by decide) fl_X7_21 (avW4 hw) dX7_markOf_38 ?_
        refine a_iload_n dX7_markOf_41 rfl 1 rfl ?_
        refine a_iload_n dX7_markOf_42 rfl 2 rfl ?_
        refine a_callS (as := [.int p1, .int p2]) (stk := [.ref (w + 4)]) (q := some (.int (fX8_pair p1 p2))) (σ1 := σ) (kX8_pair (e + 1) p1 p2 σ) sl_X7_69 rfl (Nat.le_of_ble_eq_true rfl) dX7_markOf_43 ?_
        obtain ⟨hb5, hf⟩ := grd_elim hf
        refine a_iald (iaW4 hw) hb5 dX7_markOf_46 ?_
        have hq := Option.some.inj hf
        subst hq
        exact a_iret rfl dX7_markOf_47
      · rw [if_neg hc4] at hf
        refine a_tabOut 48 dX7_markOf_6 (by have q0 := lv_neT hc2 (show Int32.toInt (0 : Int32) = 0 from rfl); have q1 := lv_neT hc3 (show Int32.toInt (1 : Int32) = 1 from rfl); have q2 := lv_neT hc4 (show Int32.toInt (2 : Int32) = 2 from rfl); omega) (by decide) ?_
        refine a_aload_n dX7_markOf_48 rfl 0 rfl ?_
        refine a_iload_n dX7_markOf_49 rfl 2 rfl ?_
        obtain ⟨q6, hq6, hf⟩ := obind hf
        refine a_callV (as := [.int p2]) (stk := []) (q := some (.int q6)) (σ1 := σ) (kX7_heldBy e w p2 σ hw _ hq6) (obW hw) vl_X7_127 rfl (Nat.le_of_ble_eq_true rfl) dX7_markOf_50 ?_
        refine a_ineg dX7_markOf_53 ?_
        have hq := Option.some.inj hf
        subst hq
        exact a_iret rfl dX7_markOf_54
set_option maxHeartbeats 4000000 in
set_option maxRecDepth 100000 in
theorem kX7_chosenBy_L8 (e : Nat) (w0 : Nat) (c1 : Int32) (c2 : Int32) (σ : St) (hw0 : isW w0) {r : Option Value} {τ : St} (q : (Int32)) : ∀ (n : Nat) (v3 : Int32) (v4 : Int32) (v5 : Int32), fX7_chosenBy_L8 w0 c1 c2 σ n v3 v4 v5 = some q → A (e + 3) MX7_chosenBy 64 [(3, .int q)] [] σ r τ → A (e + 3) MX7_chosenBy 8 [(0, .ref w0), (1, .int c1), (2, .int c2), (3, .int v3), (4, .int v4), (5, .int v5)] [] σ r τ := by
  intro n
  induction n with
  | zero =>
    intro v3 v4 v5  hf
    simp only [fX7_chosenBy_L8] at hf
    exact absurd hf (by simp)
  | succ n ih =>
    intro v3 v4 v5  hf h2
    rw [fX7_chosenBy_L8] at hf
    refine a_iload dX7_chosenBy_8 5 rfl ?_
    refine a_aload_n dX7_chosenBy_10 rfl 0 rfl ?_
    refine a_get (.int (σ.1 w0 0)) (obW hw0) (by decide) fl_X7_34 (avW0 hw0) dX7_chosenBy_11 ?_
    by_cases hc1 : (σ.1 w0 0) ≤ v5
    · rw [if_pos hc1] at hf
      refine a_icmp_ge_t 64 dX7_chosenBy_14 (by decide) hc1 ?_
      have hq := Option.some.inj hf
      rw [← hq] at h2
      refine a_locs (loc' := [(3, .int v3)]) [3] rfl ?_
      exact h2
    · rw [if_neg hc1] at hf
      refine a_icmp_ge_f 64 dX7_chosenBy_14 (by decide) hc1 ?_
      refine a_iload_n dX7_chosenBy_17 rfl 2 rfl ?_
      refine a_iload dX7_chosenBy_18 5 rfl ?_
      refine a_callS (as := [.int v5]) (stk := [.int c2]) (q := some (.int (fX8_bit v5))) (σ1 := σ) (kX8_bit (e + 2) v5 σ) sl_X7_58 rfl (Nat.le_of_ble_eq_true rfl) dX7_chosenBy_20 ?_
      refine a_iand dX7_chosenBy_23 ?_
      by_cases hc2 : (c2 &&& (fX8_bit v5)) = 0
      · rw [if_pos hc2] at hf
        refine a_if_ne_f 30 dX7_chosenBy_24 (by decide) hc2 ?_
        refine a_goto 58 dX7_chosenBy_27 (by decide) ?_
        refine a_iinc (v5 + (1 : Int32)) dX7_chosenBy_58 5 rfl rfl (by decide) (loc' := [(5, .int (v5 + (1 : Int32))), (0, .ref w0), (1, .int c1), (2, .int c2), (3, .int v3), (4, .int v4)]) rfl ?_
        refine a_goto 8 dX7_chosenBy_61 (by decide) ?_
        refine a_locs (loc' := [(0, .ref w0), (1, .int c1), (2, .int c2), (3, .int v3), (4, .int v4), (5, .int (v5 + (1 : Int32)))]) [1, 2, 3, 4, 5, 0] rfl ?_
        exact ih v3 v4 (v5 + (1 : Int32)) hf h2
      · rw [if_neg hc2] at hf
        refine a_if_ne_t 30 dX7_chosenBy_24 (by decide) hc2 ?_
        refine a_aload_n dX7_chosenBy_30 rfl 0 rfl ?_
        refine a_iload_n dX7_chosenBy_31 rfl 1 rfl ?_
        refine a_iload dX7_chosenBy_32 5 rfl ?_
        obtain ⟨q3, hq3, hf⟩ := obind hf
        refine a_callV (as := [.int c1, .int v5]) (stk := []) (q := some (.int q3)) (σ1 := σ) (kX7_markOf e w0 c1 v5 σ hw0 _ hq3) (obW hw0) vl_X7_124 rfl (Nat.le_of_ble_eq_true rfl) dX7_chosenBy_34 ?_
        refine a_istore dX7_chosenBy_37 (by decide) (loc' := [(6, .int q3), (0, .ref w0), (1, .int c1), (2, .int c2), (3, .int v3), (4, .int v4), (5, .int v5)]) rfl ?_
        refine a_iload_n dX7_chosenBy_39 rfl 4 rfl ?_
        refine a_iconst (-1 : Int32) dX7_chosenBy_40 rfl ?_
        by_cases hc4 : v3 = (-1 : Int32)
        · rw [if_pos hc4] at hf
          refine a_icmp_eq_t 51 dX7_chosenBy_41 (by decide) hc4 ?_
          refine a_iload dX7_chosenBy_51 6 rfl ?_
          refine a_istore_n dX7_chosenBy_53 rfl (by decide) (loc' := [(3, .int v5), (6, .int q3), (0, .ref w0), (1, .int c1), (2, .int c2), (4, .int v4), (5, .int v5)]) rfl ?_
          refine a_iload dX7_chosenBy_54 1 rfl ?_
          refine a_istore dX7_chosenBy_56 (by decide) (loc' := [(4, .int q3), (3, .int v5), (6, .int q3), (0, .ref w0), (1, .int c1), (2, .int c2), (5, .int v5)]) rfl ?_
          refine a_iinc (v5 + (1 : Int32)) dX7_chosenBy_58 6 rfl rfl (by decide) (loc' := [(5, .int (v5 + (1 : Int32))), (4, .int q3), (3, .int v5), (6, .int q3), (0, .ref w0), (1, .int c1), (2, .int c2)]) rfl ?_
          refine a_goto 8 dX7_chosenBy_61 (by decide) ?_
          refine a_locs (loc' := [(0, .ref w0), (1, .int c1), (2, .int c2), (3, .int v5), (4, .int q3), (5, .int (v5 + (1 : Int32)))]) [4, 5, 6, 2, 1, 0] rfl ?_
          exact ih v5 q3 (v5 + (1 : Int32)) hf h2
        · rw [if_neg hc4] at hf
          refine a_icmp_eq_f 51 dX7_chosenBy_41 (by decide) hc4 ?_
          refine a_iload dX7_chosenBy_44 0 rfl ?_
          refine a_iload dX7_chosenBy_46 5 rfl ?_
          by_cases hc5 : q3 ≤ v4
          · rw [if_pos hc5] at hf
            refine a_icmp_le_t 58 dX7_chosenBy_48 (by decide) hc5 ?_
            refine a_iinc (v5 + (1 : Int32)) dX7_chosenBy_58 6 rfl rfl (by decide) (loc' := [(5, .int (v5 + (1 : Int32))), (6, .int q3), (0, .ref w0), (1, .int c1), (2, .int c2), (3, .int v3), (4, .int v4)]) rfl ?_
            refine a_goto 8 dX7_chosenBy_61 (by decide) ?_
            refine a_locs (loc' := [(0, .ref w0), (1, .int c1), (2, .int c2), (3, .int v3), (4, .int v4), (5, .int (v5 + (1 : Int32)))]) [2, 3, 4, 5, 6, 0] rfl ?_
            exact ih v3 v4 (v5 + (1 : Int32)) hf h2
          · rw [if_neg hc5] at hf
            refine a_icmp_le_f 58 dX7_chosenBy_48 (by decide) hc5 ?_
            refine a_iload dX7_chosenBy_51 6 rfl ?_
            refine a_istore_n dX7_chosenBy_53 rfl (by decide) (loc' := [(3, .int v5), (6, .int q3), (0, .ref w0), (1, .int c1), (2, .int c2), (4, .int v4), (5, .int v5)]) rfl ?_
            refine a_iload dX7_chosenBy_54 1 rfl ?_
            refine a_istore dX7_chosenBy_56 (by decide) (loc' := [(4, .int q3), (3, .int v5), (6, .int q3), (0, .ref w0), (1, .int c1), (2, .int c2), (5, .int v5)]) rfl ?_
            refine a_iinc (v5 + (1 : Int32)) dX7_chosenBy_58 6 rfl rfl (by decide) (loc' := [(5, .int (v5 + (1 : Int32))), (4, .int q3), (3, .int v5), (6, .int q3), (0, .ref w0), (1, .int c1), (2, .int c2)]) rfl ?_
            refine a_goto 8 dX7_chosenBy_61 (by decide) ?_
            refine a_locs (loc' := [(0, .ref w0), (1, .int c1), (2, .int c2), (3, .int v5), (4, .int q3), (5, .int (v5 + (1 : Int32)))]) [4, 5, 6, 2, 1, 0] rfl ?_
            exact ih v5 q3 (v5 + (1 : Int32)) hf h2
set_option maxHeartbeats 4000000 in
set_option maxRecDepth 100000 in
theorem kX7_chosenBy (e : Nat) (w : Nat) (p1 : Int32) (p2 : Int32) (σ : St) (hw : isW w) (q : Int32) (hf : fX7_chosenBy w p1 p2 σ = some q) : Sp (e + 3) MX7_chosenBy [.ref w, .int p1, .int p2] σ (some (.int q)) σ := by
  refine sp_of rfl (Nat.le_of_ble_eq_true rfl) (loc := [(0, .ref w), (1, .int p1), (2, .int p2)]) rfl ?_
  unfold fX7_chosenBy at hf
  refine a_iconst (-1 : Int32) dX7_chosenBy_0 rfl ?_
  refine a_istore_n dX7_chosenBy_1 rfl (by decide) (loc' := [(3, .int (-1 : Int32)), (0, .ref w), (1, .int p1), (2, .int p2)]) rfl ?_
  refine a_iconst (0 : Int32) dX7_chosenBy_2 rfl ?_
  refine a_istore dX7_chosenBy_3 (by decide) (loc' := [(4, .int (0 : Int32)), (3, .int (-1 : Int32)), (0, .ref w), (1, .int p1), (2, .int p2)]) rfl ?_
  refine a_iconst (0 : Int32) dX7_chosenBy_5 rfl ?_
  refine a_istore dX7_chosenBy_6 (by decide) (loc' := [(5, .int (0 : Int32)), (4, .int (0 : Int32)), (3, .int (-1 : Int32)), (0, .ref w), (1, .int p1), (2, .int p2)]) rfl ?_
  obtain ⟨q6, hr7, hf⟩ := obind hf
  have hA8 : A (e + 3) MX7_chosenBy 64 [(3, .int q6)] [] σ (some (.int q)) σ := by
    refine a_iload_n dX7_chosenBy_64 rfl 0 rfl ?_
    have hq := Option.some.inj hf
    subst hq
    exact a_iret rfl dX7_chosenBy_65
  refine a_locs (loc' := [(0, .ref w), (1, .int p1), (2, .int p2), (3, .int (-1 : Int32)), (4, .int (0 : Int32)), (5, .int (0 : Int32))]) [3, 4, 5, 2, 1, 0] rfl ?_
  exact kX7_chosenBy_L8 e w p1 p2 σ hw q6 fu (-1 : Int32) (0 : Int32) (0 : Int32) hr7 hA8
set_option maxHeartbeats 4000000 in
set_option maxRecDepth 100000 in
theorem kJ6_bitCount_0f7a4 (e : Nat) (p0 : Int32) (σ : St)  : Sp e MJ6_bitCount_0f7a4 [.int p0] σ (some (.int (fJ6_bitCount_0f7a4 p0))) σ := by
  refine sp_of rfl (Nat.le_of_ble_eq_true rfl) (loc := [(0, .int p0)]) rfl ?_
  obtain ⟨z, hf⟩ : ∃ z, fJ6_bitCount_0f7a4 p0 = z := ⟨_, rfl⟩
  rw [hf]
  unfold fJ6_bitCount_0f7a4 at hf
  refine a_iload_n dJ6_bitCount_0f7a4_0 rfl 0 rfl ?_
  refine a_iload_n dJ6_bitCount_0f7a4_1 rfl 0 rfl ?_
  refine a_iconst (1 : Int32) dJ6_bitCount_0f7a4_2 rfl ?_
  refine a_iushr dJ6_bitCount_0f7a4_3 ?_
  refine a_ldcw rfl kc_J6_265 dJ6_bitCount_0f7a4_4 ?_
  refine a_iand dJ6_bitCount_0f7a4_7 ?_
  refine a_isub dJ6_bitCount_0f7a4_8 ?_
  obtain ⟨x1, hx1, hf⟩ := bnd_elim hf
  refine a_top (w := .int x1) (by rw [hx1]) ?_
  refine a_istore_n dJ6_bitCount_0f7a4_9 rfl (by decide) (loc' := [(0, .int x1)]) rfl ?_
  refine a_iload_n dJ6_bitCount_0f7a4_10 rfl 0 rfl ?_
  refine a_ldcw rfl kc_J6_266 dJ6_bitCount_0f7a4_11 ?_
  refine a_iand dJ6_bitCount_0f7a4_14 ?_
  refine a_iload_n dJ6_bitCount_0f7a4_15 rfl 0 rfl ?_
  refine a_iconst (2 : Int32) dJ6_bitCount_0f7a4_16 rfl ?_
  refine a_iushr dJ6_bitCount_0f7a4_17 ?_
  refine a_ldcw rfl kc_J6_266 dJ6_bitCount_0f7a4_18 ?_
  refine a_iand dJ6_bitCount_0f7a4_21 ?_
  refine a_iadd dJ6_bitCount_0f7a4_22 ?_
  obtain ⟨x2, hx2, hf⟩ := bnd_elim hf
  refine a_top (w := .int x2) (by rw [hx2]) ?_
  refine a_istore_n dJ6_bitCount_0f7a4_23 rfl (by decide) (loc' := [(0, .int x2)]) rfl ?_
  refine a_iload_n dJ6_bitCount_0f7a4_24 rfl 0 rfl ?_
  refine a_iload_n dJ6_bitCount_0f7a4_25 rfl 0 rfl ?_
  refine a_iconst (4 : Int32) dJ6_bitCount_0f7a4_26 rfl ?_
  refine a_iushr dJ6_bitCount_0f7a4_27 ?_
  refine a_iadd dJ6_bitCount_0f7a4_28 ?_
  refine a_ldcw rfl kc_J6_267 dJ6_bitCount_0f7a4_29 ?_
  refine a_iand dJ6_bitCount_0f7a4_32 ?_
  obtain ⟨x3, hx3, hf⟩ := bnd_elim hf
  refine a_top (w := .int x3) (by rw [hx3]) ?_
  refine a_istore_n dJ6_bitCount_0f7a4_33 rfl (by decide) (loc' := [(0, .int x3)]) rfl ?_
  refine a_iload_n dJ6_bitCount_0f7a4_34 rfl 0 rfl ?_
  refine a_iload_n dJ6_bitCount_0f7a4_35 rfl 0 rfl ?_
  refine a_bipush (8 : Int32) dJ6_bitCount_0f7a4_36 rfl ?_
  refine a_iushr dJ6_bitCount_0f7a4_38 ?_
  refine a_iadd dJ6_bitCount_0f7a4_39 ?_
  obtain ⟨x4, hx4, hf⟩ := bnd_elim hf
  refine a_top (w := .int x4) (by rw [hx4]) ?_
  refine a_istore_n dJ6_bitCount_0f7a4_40 rfl (by decide) (loc' := [(0, .int x4)]) rfl ?_
  refine a_iload_n dJ6_bitCount_0f7a4_41 rfl 0 rfl ?_
  refine a_iload_n dJ6_bitCount_0f7a4_42 rfl 0 rfl ?_
  refine a_bipush (16 : Int32) dJ6_bitCount_0f7a4_43 rfl ?_
  refine a_iushr dJ6_bitCount_0f7a4_45 ?_
  refine a_iadd dJ6_bitCount_0f7a4_46 ?_
  obtain ⟨x5, hx5, hf⟩ := bnd_elim hf
  refine a_top (w := .int x5) (by rw [hx5]) ?_
  refine a_istore_n dJ6_bitCount_0f7a4_47 rfl (by decide) (loc' := [(0, .int x5)]) rfl ?_
  refine a_iload_n dJ6_bitCount_0f7a4_48 rfl 0 rfl ?_
  refine a_bipush (63 : Int32) dJ6_bitCount_0f7a4_49 rfl ?_
  refine a_iand dJ6_bitCount_0f7a4_51 ?_
  subst hf
  exact a_iret rfl dJ6_bitCount_0f7a4_52
set_option maxHeartbeats 4000000 in
set_option maxRecDepth 100000 in
theorem kX2_oneOf_L47 (e : Nat) (c1 : Int32) (σ : St)  {r : Option Value} {τ : St} (q : Sum (Int32 × St) (Unit)) : ∀ (n : Nat) (v3 : Int32) (v4 : Int32), fX2_oneOf_L47 c1 σ n v3 v4 = some q → (∀ z, q = .inl z → r = some (.int z.1) ∧ τ = z.2) → (∀ q1, q = .inr q1 → A (e + 1) MX2_oneOf 83 [] [] σ r τ) → A (e + 1) MX2_oneOf 47 [(1, .int c1), (3, .int v3), (4, .int v4)] [] σ r τ := by
  intro n
  induction n with
  | zero =>
    intro v3 v4  hf
    simp only [fX2_oneOf_L47] at hf
    exact absurd hf (by simp)
  | succ n ih =>
    intro v3 v4  hf h1 h2
    rw [fX2_oneOf_L47] at hf
    refine a_iload dX2_oneOf_47 2 rfl ?_
    refine a_bipush (8 : Int32) dX2_oneOf_49 rfl ?_
    by_cases hc6 : (8 : Int32) ≤ v4
    · rw [if_pos hc6] at hf
      refine a_icmp_ge_t 83 dX2_oneOf_51 (by decide) hc6 ?_
      have hq := Option.some.inj hf
      refine a_locs (loc' := []) [] rfl ?_
      exact h2 _ hq.symm
    · rw [if_neg hc6] at hf
      refine a_icmp_ge_f 83 dX2_oneOf_51 (by decide) hc6 ?_
      refine a_iload_n dX2_oneOf_54 rfl 0 rfl ?_
      refine a_iload dX2_oneOf_55 2 rfl ?_
      refine a_callS (as := [.int v4]) (stk := [.int c1]) (q := some (.int (fX8_bit v4))) (σ1 := σ) (kX8_bit e v4 σ) sl_X2_29 rfl (Nat.le_of_ble_eq_true rfl) dX2_oneOf_57 ?_
      refine a_iand dX2_oneOf_60 ?_
      by_cases hc7 : (c1 &&& (fX8_bit v4)) = 0
      · rw [if_pos hc7] at hf
        refine a_if_ne_f 67 dX2_oneOf_61 (by decide) hc7 ?_
        refine a_goto 77 dX2_oneOf_64 (by decide) ?_
        refine a_iinc (v4 + (1 : Int32)) dX2_oneOf_77 2 rfl rfl (by decide) (loc' := [(4, .int (v4 + (1 : Int32))), (1, .int c1), (3, .int v3)]) rfl ?_
        refine a_goto 47 dX2_oneOf_80 (by decide) ?_
        refine a_locs (loc' := [(1, .int c1), (3, .int v3), (4, .int (v4 + (1 : Int32)))]) [1, 2, 0] rfl ?_
        exact ih v3 (v4 + (1 : Int32)) hf h1 h2
      · rw [if_neg hc7] at hf
        refine a_if_ne_t 67 dX2_oneOf_61 (by decide) hc7 ?_
        refine a_iload_n dX2_oneOf_67 rfl 1 rfl ?_
        by_cases hc8 : v3 = 0
        · rw [if_pos hc8] at hf
          refine a_if_ne_f 74 dX2_oneOf_68 (by decide) hc8 ?_
          refine a_iload dX2_oneOf_71 2 rfl ?_
          have hq := Option.some.inj hf
          obtain ⟨hr0, ht0⟩ := h1 _ hq.symm
          rw [hr0, ht0]
          exact a_iret rfl dX2_oneOf_73
        · rw [if_neg hc8] at hf
          refine a_if_ne_t 74 dX2_oneOf_68 (by decide) hc8 ?_
          refine a_iinc (v3 + (-1 : Int32)) dX2_oneOf_74 1 rfl rfl (by decide) (loc' := [(3, .int (v3 + (-1 : Int32))), (1, .int c1), (4, .int v4)]) rfl ?_
          refine a_iinc (v4 + (1 : Int32)) dX2_oneOf_77 2 rfl rfl (by decide) (loc' := [(4, .int (v4 + (1 : Int32))), (3, .int (v3 + (-1 : Int32))), (1, .int c1)]) rfl ?_
          refine a_goto 47 dX2_oneOf_80 (by decide) ?_
          refine a_locs (loc' := [(1, .int c1), (3, .int (v3 + (-1 : Int32))), (4, .int (v4 + (1 : Int32)))]) [2, 1, 0] rfl ?_
          exact ih (v3 + (-1 : Int32)) (v4 + (1 : Int32)) hf h1 h2
set_option maxHeartbeats 4000000 in
set_option maxRecDepth 100000 in
theorem kX2_oneOf (e : Nat) (p1 : Int32) (σ : St)  (q : Int32 × St) (hf : fX2_oneOf p1 σ = some q) : Sp (e + 1) MX2_oneOf [.ref 49, .int p1] σ (some (.int q.1)) q.2 := by
  refine sp_of rfl (Nat.le_of_ble_eq_true rfl) (loc := [(0, .ref 49), (1, .int p1)]) rfl ?_
  unfold fX2_oneOf at hf
  refine a_iload_n dX2_oneOf_0 rfl 1 rfl ?_
  refine a_callS (as := [.int p1]) (stk := []) (q := some (.int (fJ6_bitCount_0f7a4 p1))) (σ1 := σ) (kJ6_bitCount_0f7a4 e p1 σ) sl_X2_9 rfl (Nat.le_of_ble_eq_true rfl) dX2_oneOf_1 ?_
  obtain ⟨x1, hx1, hf⟩ := bnd_elim hf
  refine a_top (w := .int x1) (by rw [hx1]) ?_
  refine a_istore_n dX2_oneOf_4 rfl (by decide) (loc' := [(2, .int x1), (0, .ref 49), (1, .int p1)]) rfl ?_
  refine a_iload_n dX2_oneOf_5 rfl 0 rfl ?_
  by_cases hc2 : x1 = 0
  · rw [if_pos hc2] at hf
    refine a_if_ne_f 11 dX2_oneOf_6 (by decide) hc2 ?_
    refine a_iconst (-1 : Int32) dX2_oneOf_9 rfl ?_
    have hq := Option.some.inj hf
    subst hq
    exact a_iret rfl dX2_oneOf_10
  · rw [if_neg hc2] at hf
    refine a_if_ne_t 11 dX2_oneOf_6 (by decide) hc2 ?_
    refine a_aload_n dX2_oneOf_11 rfl 1 rfl ?_
    refine a_ldc2 rfl kc_X2_15 dX2_oneOf_12 ?_
    refine a_aload_n dX2_oneOf_15 rfl 1 rfl ?_
    refine a_get (.long (σ.2 49 0)) ob_49 (by decide) fl_X2_17 rfl dX2_oneOf_16 ?_
    refine a_lmul dX2_oneOf_19 ?_
    refine a_ldc2 rfl kc_X2_23 dX2_oneOf_20 ?_
    refine a_ladd dX2_oneOf_23 ?_
    refine a_ldc2 rfl kc_X2_25 dX2_oneOf_24 ?_
    refine a_land dX2_oneOf_27 ?_
    refine a_putL ob_49 (by decide) fp_X2_17 rfl dX2_oneOf_28 ?_
    obtain ⟨σ3, hσ3, hf⟩ := bnd_elim hf
    rw [← hσ3]
    refine a_aload_n dX2_oneOf_31 rfl 1 rfl ?_
    refine a_get (.long (σ3.2 49 0)) ob_49 (by decide) fl_X2_17 rfl dX2_oneOf_32 ?_
    refine a_ldc2 rfl kc_X2_27 dX2_oneOf_35 ?_
    refine a_ldiv (by decide) dX2_oneOf_38 ?_
    refine a_iload_n dX2_oneOf_39 rfl 0 rfl ?_
    refine a_i2l dX2_oneOf_40 ?_
    obtain ⟨hb4, hf⟩ := grd_elim hf
    refine a_lrem (of_decide_eq_true hb4) dX2_oneOf_41 ?_
    refine a_l2i dX2_oneOf_42 ?_
    obtain ⟨x5, hx5, hf⟩ := bnd_elim hf
    refine a_top (w := .int x5) (by rw [hx5]) ?_
    refine a_istore_n dX2_oneOf_43 rfl (by decide) (loc' := [(3, .int x5), (2, .int x1), (0, .ref 49), (1, .int p1)]) rfl ?_
    refine a_iconst (0 : Int32) dX2_oneOf_44 rfl ?_
    refine a_istore dX2_oneOf_45 (by decide) (loc' := [(4, .int (0 : Int32)), (3, .int x5), (2, .int x1), (0, .ref 49), (1, .int p1)]) rfl ?_
    obtain ⟨s10, hr11, hf⟩ := obind hf
    refine a_locs (loc' := [(1, .int p1), (3, .int x5), (4, .int (0 : Int32))]) [4, 1, 0] rfl ?_
    refine kX2_oneOf_L47 e p1 σ3 s10 fu x5 (0 : Int32) hr11 ?_ ?_
    · intro z12 hz
      subst hz
      simp only [Sum.elim_inl] at hf
      have hq := Option.some.inj hf
      subst hq
      exact ⟨rfl, rfl⟩
    · intro q9 hz
      subst hz
      simp only [Sum.elim_inr] at hf
      refine a_iconst (-1 : Int32) dX2_oneOf_83 rfl ?_
      have hq := Option.some.inj hf
      subst hq
      exact a_iret rfl dX2_oneOf_84
set_option maxHeartbeats 4000000 in
set_option maxRecDepth 100000 in
theorem kX7_passYear_L12 (e : Nat) (w0 : Nat)  (hw0 : isW w0) {r : Option Value} {τ : St} (q : (St)) : ∀ (n : Nat) (v3 : Int32) (σ : St), fX7_passYear_L12 w0 n v3 σ = some q → A (e + 4) MX7_passYear 53 [(0, .ref w0), (1, .ref 3), (2, .ref 49)] [] q r τ → A (e + 4) MX7_passYear 12 [(0, .ref w0), (1, .ref 3), (2, .ref 49), (3, .int v3)] [] σ r τ := by
  intro n
  induction n with
  | zero =>
    intro v3 σ  hf
    simp only [fX7_passYear_L12] at hf
    exact absurd hf (by simp)
  | succ n ih =>
    intro v3 σ  hf h2
    rw [fX7_passYear_L12] at hf
    refine a_iload_n dX7_passYear_12 rfl 3 rfl ?_
    refine a_aload_n dX7_passYear_13 rfl 0 rfl ?_
    refine a_get (.int (σ.1 w0 6)) (obW hw0) (by decide) fl_X7_44 (avW6 hw0) dX7_passYear_14 ?_
    by_cases hc2 : (σ.1 w0 6) ≤ v3
    · rw [if_pos hc2] at hf
      refine a_icmp_ge_t 53 dX7_passYear_17 (by decide) hc2 ?_
      have hq := Option.some.inj hf
      rw [← hq] at h2
      refine a_locs (loc' := [(0, .ref w0), (1, .ref 3), (2, .ref 49)]) [0, 1, 2] rfl ?_
      exact h2
    · rw [if_neg hc2] at hf
      refine a_icmp_ge_f 53 dX7_passYear_17 (by decide) hc2 ?_
      refine a_aload_n dX7_passYear_20 rfl 0 rfl ?_
      refine a_get (.ref (w0 + 6)) (obW hw0) (by decide) fl_X7_29 (avW7 hw0) dX7_passYear_21 ?_
      refine a_iload_n dX7_passYear_24 rfl 3 rfl ?_
      obtain ⟨hb3, hf⟩ := grd_elim hf
      refine a_aald (w0 + 7 + v3.toNatClampNeg) (gaW hw0) hb3 (rfG hw0 hb3) dX7_passYear_25 ?_
      refine a_callV (as := []) (stk := []) (q := some (.int (fX3_lives (w0 + 7 + v3.toNatClampNeg) σ))) (σ1 := σ) (kX3_lives (e + 3) (w0 + 7 + v3.toNatClampNeg) σ (obG hw0 hb3)) (obG hw0 hb3) vl_X7_62 rfl (Nat.le_of_ble_eq_true rfl) dX7_passYear_26 ?_
      by_cases hc4 : (fX3_lives (w0 + 7 + v3.toNatClampNeg) σ) = 0
      · rw [if_pos hc4] at hf
        refine a_if_eq_t 47 dX7_passYear_29 (by decide) hc4 ?_
        refine a_iinc (v3 + (1 : Int32)) dX7_passYear_47 3 rfl rfl (by decide) (loc' := [(3, .int (v3 + (1 : Int32))), (0, .ref w0), (1, .ref 3), (2, .ref 49)]) rfl ?_
        refine a_goto 12 dX7_passYear_50 (by decide) ?_
        refine a_locs (loc' := [(0, .ref w0), (1, .ref 3), (2, .ref 49), (3, .int (v3 + (1 : Int32)))]) [1, 2, 3, 0] rfl ?_
        exact ih (v3 + (1 : Int32)) σ hf h2
      · rw [if_neg hc4] at hf
        refine a_if_eq_f 47 dX7_passYear_29 (by decide) hc4 ?_
        refine a_aload_n dX7_passYear_32 rfl 0 rfl ?_
        refine a_get (.ref (w0 + 6)) (obW hw0) (by decide) fl_X7_29 (avW7 hw0) dX7_passYear_33 ?_
        refine a_iload_n dX7_passYear_36 rfl 3 rfl ?_
        obtain ⟨hb5, hf⟩ := grd_elim hf
        refine a_aald (w0 + 7 + v3.toNatClampNeg) (gaW hw0) hb5 (rfG hw0 hb5) dX7_passYear_37 ?_
        refine a_dup rfl dX7_passYear_38 ?_
        refine a_get (.int (σ.1 (w0 + 7 + v3.toNatClampNeg) 5)) (obG hw0 hb5) (by decide) fl_X7_83 (avG (obG hw0 hb5) 5 rfl) dX7_passYear_39 ?_
        refine a_iconst (1 : Int32) dX7_passYear_42 rfl ?_
        refine a_iadd dX7_passYear_43 ?_
        refine a_putI (obG hw0 hb5) (by decide) fp_X7_83 (Or.inl rfl) dX7_passYear_44 ?_
        obtain ⟨σ6, hσ6, hf⟩ := bnd_elim hf
        rw [← hσ6]
        refine a_iinc (v3 + (1 : Int32)) dX7_passYear_47 3 rfl rfl (by decide) (loc' := [(3, .int (v3 + (1 : Int32))), (0, .ref w0), (1, .ref 3), (2, .ref 49)]) rfl ?_
        refine a_goto 12 dX7_passYear_50 (by decide) ?_
        refine a_locs (loc' := [(0, .ref w0), (1, .ref 3), (2, .ref 49), (3, .int (v3 + (1 : Int32)))]) [1, 2, 3, 0] rfl ?_
        exact ih (v3 + (1 : Int32)) σ6 hf h2
set_option maxHeartbeats 4000000 in
set_option maxRecDepth 100000 in
theorem kX7_passYear_L61 (e : Nat) (w0 : Nat)  (hw0 : isW w0) {r : Option Value} {τ : St} (q : (Int32 × St)) : ∀ (n : Nat) (v3 : Int32) (v4 : Int32) (v5 : Int32) (σ : St), fX7_passYear_L61 w0 n v3 v4 v5 σ = some q → A (e + 4) MX7_passYear 221 [(3, .int q.1)] [] q.2 r τ → A (e + 4) MX7_passYear 61 [(0, .ref w0), (1, .ref 3), (2, .ref 49), (3, .int v3), (4, .int v4), (5, .int v5)] [] σ r τ := by
  intro n
  induction n with
  | zero =>
    intro v3 v4 v5 σ  hf
    simp only [fX7_passYear_L61] at hf
    exact absurd hf (by simp)
  | succ n ih =>
    intro v3 v4 v5 σ  hf h2
    rw [fX7_passYear_L61] at hf
    refine a_iload dX7_passYear_61 5 rfl ?_
    refine a_aload_n dX7_passYear_63 rfl 0 rfl ?_
    refine a_get (.int (σ.1 w0 6)) (obW hw0) (by decide) fl_X7_44 (avW6 hw0) dX7_passYear_64 ?_
    by_cases hc8 : (σ.1 w0 6) ≤ v5
    · rw [if_pos hc8] at hf
      refine a_icmp_ge_t 221 dX7_passYear_67 (by decide) hc8 ?_
      have hq := Option.some.inj hf
      rw [← hq] at h2
      refine a_locs (loc' := [(3, .int v3)]) [3] rfl ?_
      exact h2
    · rw [if_neg hc8] at hf
      refine a_icmp_ge_f 221 dX7_passYear_67 (by decide) hc8 ?_
      refine a_aload_n dX7_passYear_70 rfl 0 rfl ?_
      refine a_get (.ref (w0 + 6)) (obW hw0) (by decide) fl_X7_29 (avW7 hw0) dX7_passYear_71 ?_
      refine a_iload dX7_passYear_74 5 rfl ?_
      obtain ⟨hb9, hf⟩ := grd_elim hf
      refine a_aald (w0 + 7 + v5.toNatClampNeg) (gaW hw0) hb9 (rfG hw0 hb9) dX7_passYear_76 ?_
      refine a_get (.int (σ.1 (w0 + 7 + v5.toNatClampNeg) 2)) (obG hw0 hb9) (by decide) fl_X7_66 (avG (obG hw0 hb9) 2 rfl) dX7_passYear_77 ?_
      obtain ⟨x10, hx10, hf⟩ := bnd_elim hf
      refine a_top (w := .int x10) (by rw [hx10]) ?_
      refine a_istore dX7_passYear_80 (by decide) (loc' := [(6, .int x10), (0, .ref w0), (1, .ref 3), (2, .ref 49), (3, .int v3), (4, .int v4), (5, .int v5)]) rfl ?_
      refine a_aload_n dX7_passYear_82 rfl 1 rfl ?_
      refine a_get (.ref (w0 + 6)) (obW hw0) (by decide) fl_X7_29 (avW7 hw0) dX7_passYear_83 ?_
      refine a_iload dX7_passYear_86 6 rfl ?_
      obtain ⟨hb11, hf⟩ := grd_elim hf
      refine a_aald (w0 + 7 + v5.toNatClampNeg) (gaW hw0) hb11 (rfG hw0 hb11) dX7_passYear_88 ?_
      refine a_aload_n dX7_passYear_89 rfl 2 rfl ?_
      refine a_get (.int (σ.1 3 0)) ob_3 (by decide) fl_X7_86 rfl dX7_passYear_90 ?_
      refine a_callV (as := [.int (σ.1 3 0)]) (stk := []) (q := some (.int (fX3_mustGo (w0 + 7 + v5.toNatClampNeg) (σ.1 3 0) σ))) (σ1 := σ) (kX3_mustGo (e + 2) (w0 + 7 + v5.toNatClampNeg) (σ.1 3 0) σ (obG hw0 hb11)) (obG hw0 hb11) vl_X7_91 rfl (Nat.le_of_ble_eq_true rfl) dX7_passYear_93 ?_
      by_cases hc12 : (fX3_mustGo (w0 + 7 + v5.toNatClampNeg) (σ.1 3 0) σ) = 0
      · rw [if_pos hc12] at hf
        refine a_if_ne_f 102 dX7_passYear_96 (by decide) hc12 ?_
        refine a_goto 215 dX7_passYear_99 (by decide) ?_
        refine a_iinc (v5 + (1 : Int32)) dX7_passYear_215 6 rfl rfl (by decide) (loc' := [(5, .int (v5 + (1 : Int32))), (6, .int x10), (0, .ref w0), (1, .ref 3), (2, .ref 49), (3, .int v3), (4, .int v4)]) rfl ?_
        refine a_goto 61 dX7_passYear_218 (by decide) ?_
        refine a_locs (loc' := [(0, .ref w0), (1, .ref 3), (2, .ref 49), (3, .int v3), (4, .int v4), (5, .int (v5 + (1 : Int32)))]) [2, 3, 4, 5, 6, 0] rfl ?_
        exact ih v3 v4 (v5 + (1 : Int32)) σ hf h2
      · rw [if_neg hc12] at hf
        refine a_if_ne_t 102 dX7_passYear_96 (by decide) hc12 ?_
        refine a_aload_n dX7_passYear_102 rfl 2 rfl ?_
        refine a_get (.int (σ.1 3 2)) ob_3 (by decide) fl_X7_95 rfl dX7_passYear_103 ?_
        by_cases hc13 : (σ.1 3 2) = 0
        · rw [if_pos hc13] at hf
          refine a_if_eq_t 123 dX7_passYear_106 (by decide) hc13 ?_
          refine a_aload_n dX7_passYear_123 rfl 1 rfl ?_
          refine a_aload_n dX7_passYear_124 rfl 1 rfl ?_
          refine a_get (.ref (w0 + 6)) (obW hw0) (by decide) fl_X7_29 (avW7 hw0) dX7_passYear_125 ?_
          refine a_iload dX7_passYear_128 6 rfl ?_
          obtain ⟨hb14, hf⟩ := grd_elim hf
          refine a_aald (w0 + 7 + v5.toNatClampNeg) (gaW hw0) hb14 (rfG hw0 hb14) dX7_passYear_130 ?_
          refine a_get (.int (σ.1 (w0 + 7 + v5.toNatClampNeg) 3)) (obG hw0 hb14) (by decide) fl_X7_99 (avG (obG hw0 hb14) 3 rfl) dX7_passYear_131 ?_
          refine a_iload dX7_passYear_134 0 rfl ?_
          refine a_aload_n dX7_passYear_136 rfl 2 rfl ?_
          refine a_get (.int (σ.1 3 1)) ob_3 (by decide) fl_X7_102 rfl dX7_passYear_137 ?_
          obtain ⟨q15, hq15, hf⟩ := obind hf
          refine a_callV (as := [.int (σ.1 (w0 + 7 + v5.toNatClampNeg) 3), .int x10, .int (σ.1 3 1)]) (stk := []) (q := some (.int q15)) (σ1 := σ) (kX7_mayHave (e + 2) w0 (σ.1 (w0 + 7 + v5.toNatClampNeg) 3) x10 (σ.1 3 1) σ hw0 _ hq15) (obW hw0) vl_X7_105 rfl (Nat.le_of_ble_eq_true rfl) dX7_passYear_140 ?_
          refine a_istore dX7_passYear_143 (by decide) (loc' := [(7, .int q15), (6, .int x10), (0, .ref w0), (1, .ref 3), (2, .ref 49), (3, .int v3), (4, .int v4), (5, .int v5)]) rfl ?_
          refine a_iload dX7_passYear_145 0 rfl ?_
          by_cases hc16 : q15 = 0
          · rw [if_pos hc16] at hf
            refine a_if_ne_f 153 dX7_passYear_147 (by decide) hc16 ?_
            refine a_goto 215 dX7_passYear_150 (by decide) ?_
            refine a_iinc (v5 + (1 : Int32)) dX7_passYear_215 7 rfl rfl (by decide) (loc' := [(5, .int (v5 + (1 : Int32))), (7, .int q15), (6, .int x10), (0, .ref w0), (1, .ref 3), (2, .ref 49), (3, .int v3), (4, .int v4)]) rfl ?_
            refine a_goto 61 dX7_passYear_218 (by decide) ?_
            refine a_locs (loc' := [(0, .ref w0), (1, .ref 3), (2, .ref 49), (3, .int v3), (4, .int v4), (5, .int (v5 + (1 : Int32)))]) [3, 4, 5, 6, 7, 0] rfl ?_
            exact ih v3 v4 (v5 + (1 : Int32)) σ hf h2
          · rw [if_neg hc16] at hf
            refine a_if_ne_t 153 dX7_passYear_147 (by decide) hc16 ?_
            refine a_aload_n dX7_passYear_153 rfl 4 rfl ?_
            refine a_ifnonnull_r 168 dX7_passYear_154 (by decide) ?_
            refine a_aload_n dX7_passYear_168 rfl 4 rfl ?_
            refine a_iload dX7_passYear_169 0 rfl ?_
            obtain ⟨q17, hq17, hf⟩ := obind hf
            refine a_callV (as := [.int q15]) (stk := []) (q := some (.int q17.1)) (σ1 := q17.2) (kX2_oneOf (e + 2) q15 σ _ hq17) ob_49 vl_X7_112 rfl (Nat.le_of_ble_eq_true rfl) dX7_passYear_171 ?_
            refine a_istore dX7_passYear_174 (by decide) (loc' := [(8, .int q17.1), (7, .int q15), (6, .int x10), (0, .ref w0), (1, .ref 3), (2, .ref 49), (3, .int v3), (4, .int v4), (5, .int v5)]) rfl ?_
            refine a_iload dX7_passYear_176 0 rfl ?_
            refine a_iconst (-1 : Int32) dX7_passYear_178 rfl ?_
            by_cases hc18 : q17.1 = (-1 : Int32)
            · rw [if_pos hc18] at hf
              refine a_icmp_ne_f 185 dX7_passYear_179 (by decide) hc18 ?_
              refine a_goto 215 dX7_passYear_182 (by decide) ?_
              refine a_iinc (v5 + (1 : Int32)) dX7_passYear_215 8 rfl rfl (by decide) (loc' := [(5, .int (v5 + (1 : Int32))), (8, .int q17.1), (7, .int q15), (6, .int x10), (0, .ref w0), (1, .ref 3), (2, .ref 49), (3, .int v3), (4, .int v4)]) rfl ?_
              refine a_goto 61 dX7_passYear_218 (by decide) ?_
              refine a_locs (loc' := [(0, .ref w0), (1, .ref 3), (2, .ref 49), (3, .int v3), (4, .int v4), (5, .int (v5 + (1 : Int32)))]) [4, 5, 6, 7, 8, 0] rfl ?_
              exact ih v3 v4 (v5 + (1 : Int32)) q17.2 hf h2
            · rw [if_neg hc18] at hf
              refine a_icmp_ne_t 185 dX7_passYear_179 (by decide) hc18 ?_
              refine a_aload_n dX7_passYear_185 rfl 3 rfl ?_
              refine a_aload_n dX7_passYear_186 rfl 3 rfl ?_
              refine a_get (.ref (w0 + 6)) (obW hw0) (by decide) fl_X7_29 (avW7 hw0) dX7_passYear_187 ?_
              refine a_iload dX7_passYear_190 8 rfl ?_
              obtain ⟨hb19, hf⟩ := grd_elim hf
              refine a_aald (w0 + 7 + v5.toNatClampNeg) (gaW hw0) hb19 (rfG hw0 hb19) dX7_passYear_192 ?_
              refine a_iload dX7_passYear_193 0 rfl ?_
              refine a_aload_n dX7_passYear_195 rfl 4 rfl ?_
              refine a_get (.int (q17.2.1 3 3)) ob_3 (by decide) fl_X7_117 rfl dX7_passYear_196 ?_
              obtain ⟨q20, hq20, hf⟩ := obind hf
              refine a_callV (as := [.ref (w0 + 7 + v5.toNatClampNeg), .int q17.1, .int (q17.2.1 3 3)]) (stk := []) (q := none) (σ1 := q20) (kX7_handOn (e + 1) w0 (w0 + 7 + v5.toNatClampNeg) q17.1 (q17.2.1 3 3) q17.2 hw0 (obG hw0 hb19) _ hq20) (obW hw0) vl_X7_120 rfl (Nat.le_of_ble_eq_true rfl) dX7_passYear_199 ?_
              refine a_iload dX7_passYear_202 7 rfl ?_
              refine a_iload dX7_passYear_204 2 rfl ?_
              refine a_callS (as := [.int x10]) (stk := [.int v4]) (q := some (.int (fX8_bit x10))) (σ1 := q20) (kX8_bit (e + 3) x10 q20) sl_X7_58 rfl (Nat.le_of_ble_eq_true rfl) dX7_passYear_206 ?_
              refine a_ior dX7_passYear_209 ?_
              refine a_istore dX7_passYear_210 (by decide) (loc' := [(4, .int (v4 ||| (fX8_bit x10))), (8, .int q17.1), (7, .int q15), (6, .int x10), (0, .ref w0), (1, .ref 3), (2, .ref 49), (3, .int v3), (5, .int v5)]) rfl ?_
              refine a_iinc (v3 + (1 : Int32)) dX7_passYear_212 7 rfl rfl (by decide) (loc' := [(3, .int (v3 + (1 : Int32))), (4, .int (v4 ||| (fX8_bit x10))), (8, .int q17.1), (7, .int q15), (6, .int x10), (0, .ref w0), (1, .ref 3), (2, .ref 49), (5, .int v5)]) rfl ?_
              refine a_iinc (v5 + (1 : Int32)) dX7_passYear_215 8 rfl rfl (by decide) (loc' := [(5, .int (v5 + (1 : Int32))), (3, .int (v3 + (1 : Int32))), (4, .int (v4 ||| (fX8_bit x10))), (8, .int q17.1), (7, .int q15), (6, .int x10), (0, .ref w0), (1, .ref 3), (2, .ref 49)]) rfl ?_
              refine a_goto 61 dX7_passYear_218 (by decide) ?_
              refine a_locs (loc' := [(0, .ref w0), (1, .ref 3), (2, .ref 49), (3, .int (v3 + (1 : Int32))), (4, .int (v4 ||| (fX8_bit x10))), (5, .int (v5 + (1 : Int32)))]) [6, 7, 8, 1, 2, 0] rfl ?_
              exact ih (v3 + (1 : Int32)) (v4 ||| (fX8_bit x10)) (v5 + (1 : Int32)) q20 hf h2
        · rw [if_neg hc13] at hf
          refine a_if_eq_f 123 dX7_passYear_106 (by decide) hc13 ?_
          refine a_iload dX7_passYear_109 5 rfl ?_
          refine a_iload dX7_passYear_111 0 rfl ?_
          refine a_callS (as := [.int x10]) (stk := [.int v4]) (q := some (.int (fX8_bit x10))) (σ1 := σ) (kX8_bit (e + 3) x10 σ) sl_X7_58 rfl (Nat.le_of_ble_eq_true rfl) dX7_passYear_113 ?_
          refine a_iand dX7_passYear_116 ?_
          by_cases hc21 : (v4 &&& (fX8_bit x10)) = 0
          · rw [if_pos hc21] at hf
            refine a_if_eq_t 123 dX7_passYear_117 (by decide) hc21 ?_
            refine a_aload_n dX7_passYear_123 rfl 1 rfl ?_
            refine a_aload_n dX7_passYear_124 rfl 1 rfl ?_
            refine a_get (.ref (w0 + 6)) (obW hw0) (by decide) fl_X7_29 (avW7 hw0) dX7_passYear_125 ?_
            refine a_iload dX7_passYear_128 6 rfl ?_
            obtain ⟨hb22, hf⟩ := grd_elim hf
            refine a_aald (w0 + 7 + v5.toNatClampNeg) (gaW hw0) hb22 (rfG hw0 hb22) dX7_passYear_130 ?_
            refine a_get (.int (σ.1 (w0 + 7 + v5.toNatClampNeg) 3)) (obG hw0 hb22) (by decide) fl_X7_99 (avG (obG hw0 hb22) 3 rfl) dX7_passYear_131 ?_
            refine a_iload dX7_passYear_134 0 rfl ?_
            refine a_aload_n dX7_passYear_136 rfl 2 rfl ?_
            refine a_get (.int (σ.1 3 1)) ob_3 (by decide) fl_X7_102 rfl dX7_passYear_137 ?_
            obtain ⟨q23, hq23, hf⟩ := obind hf
            refine a_callV (as := [.int (σ.1 (w0 + 7 + v5.toNatClampNeg) 3), .int x10, .int (σ.1 3 1)]) (stk := []) (q := some (.int q23)) (σ1 := σ) (kX7_mayHave (e + 2) w0 (σ.1 (w0 + 7 + v5.toNatClampNeg) 3) x10 (σ.1 3 1) σ hw0 _ hq23) (obW hw0) vl_X7_105 rfl (Nat.le_of_ble_eq_true rfl) dX7_passYear_140 ?_
            refine a_istore dX7_passYear_143 (by decide) (loc' := [(7, .int q23), (6, .int x10), (0, .ref w0), (1, .ref 3), (2, .ref 49), (3, .int v3), (4, .int v4), (5, .int v5)]) rfl ?_
            refine a_iload dX7_passYear_145 0 rfl ?_
            by_cases hc24 : q23 = 0
            · rw [if_pos hc24] at hf
              refine a_if_ne_f 153 dX7_passYear_147 (by decide) hc24 ?_
              refine a_goto 215 dX7_passYear_150 (by decide) ?_
              refine a_iinc (v5 + (1 : Int32)) dX7_passYear_215 7 rfl rfl (by decide) (loc' := [(5, .int (v5 + (1 : Int32))), (7, .int q23), (6, .int x10), (0, .ref w0), (1, .ref 3), (2, .ref 49), (3, .int v3), (4, .int v4)]) rfl ?_
              refine a_goto 61 dX7_passYear_218 (by decide) ?_
              refine a_locs (loc' := [(0, .ref w0), (1, .ref 3), (2, .ref 49), (3, .int v3), (4, .int v4), (5, .int (v5 + (1 : Int32)))]) [3, 4, 5, 6, 7, 0] rfl ?_
              exact ih v3 v4 (v5 + (1 : Int32)) σ hf h2
            · rw [if_neg hc24] at hf
              refine a_if_ne_t 153 dX7_passYear_147 (by decide) hc24 ?_
              refine a_aload_n dX7_passYear_153 rfl 4 rfl ?_
              refine a_ifnonnull_r 168 dX7_passYear_154 (by decide) ?_
              refine a_aload_n dX7_passYear_168 rfl 4 rfl ?_
              refine a_iload dX7_passYear_169 0 rfl ?_
              obtain ⟨q25, hq25, hf⟩ := obind hf
              refine a_callV (as := [.int q23]) (stk := []) (q := some (.int q25.1)) (σ1 := q25.2) (kX2_oneOf (e + 2) q23 σ _ hq25) ob_49 vl_X7_112 rfl (Nat.le_of_ble_eq_true rfl) dX7_passYear_171 ?_
              refine a_istore dX7_passYear_174 (by decide) (loc' := [(8, .int q25.1), (7, .int q23), (6, .int x10), (0, .ref w0), (1, .ref 3), (2, .ref 49), (3, .int v3), (4, .int v4), (5, .int v5)]) rfl ?_
              refine a_iload dX7_passYear_176 0 rfl ?_
              refine a_iconst (-1 : Int32) dX7_passYear_178 rfl ?_
              by_cases hc26 : q25.1 = (-1 : Int32)
              · rw [if_pos hc26] at hf
                refine a_icmp_ne_f 185 dX7_passYear_179 (by decide) hc26 ?_
                refine a_goto 215 dX7_passYear_182 (by decide) ?_
                refine a_iinc (v5 + (1 : Int32)) dX7_passYear_215 8 rfl rfl (by decide) (loc' := [(5, .int (v5 + (1 : Int32))), (8, .int q25.1), (7, .int q23), (6, .int x10), (0, .ref w0), (1, .ref 3), (2, .ref 49), (3, .int v3), (4, .int v4)]) rfl ?_
                refine a_goto 61 dX7_passYear_218 (by decide) ?_
                refine a_locs (loc' := [(0, .ref w0), (1, .ref 3), (2, .ref 49), (3, .int v3), (4, .int v4), (5, .int (v5 + (1 : Int32)))]) [4, 5, 6, 7, 8, 0] rfl ?_
                exact ih v3 v4 (v5 + (1 : Int32)) q25.2 hf h2
              · rw [if_neg hc26] at hf
                refine a_icmp_ne_t 185 dX7_passYear_179 (by decide) hc26 ?_
                refine a_aload_n dX7_passYear_185 rfl 3 rfl ?_
                refine a_aload_n dX7_passYear_186 rfl 3 rfl ?_
                refine a_get (.ref (w0 + 6)) (obW hw0) (by decide) fl_X7_29 (avW7 hw0) dX7_passYear_187 ?_
                refine a_iload dX7_passYear_190 8 rfl ?_
                obtain ⟨hb27, hf⟩ := grd_elim hf
                refine a_aald (w0 + 7 + v5.toNatClampNeg) (gaW hw0) hb27 (rfG hw0 hb27) dX7_passYear_192 ?_
                refine a_iload dX7_passYear_193 0 rfl ?_
                refine a_aload_n dX7_passYear_195 rfl 4 rfl ?_
                refine a_get (.int (q25.2.1 3 3)) ob_3 (by decide) fl_X7_117 rfl dX7_passYear_196 ?_
                obtain ⟨q28, hq28, hf⟩ := obind hf
                refine a_callV (as := [.ref (w0 + 7 + v5.toNatClampNeg), .int q25.1, .int (q25.2.1 3 3)]) (stk := []) (q := none) (σ1 := q28) (kX7_handOn (e + 1) w0 (w0 + 7 + v5.toNatClampNeg) q25.1 (q25.2.1 3 3) q25.2 hw0 (obG hw0 hb27) _ hq28) (obW hw0) vl_X7_120 rfl (Nat.le_of_ble_eq_true rfl) dX7_passYear_199 ?_
                refine a_iload dX7_passYear_202 7 rfl ?_
                refine a_iload dX7_passYear_204 2 rfl ?_
                refine a_callS (as := [.int x10]) (stk := [.int v4]) (q := some (.int (fX8_bit x10))) (σ1 := q28) (kX8_bit (e + 3) x10 q28) sl_X7_58 rfl (Nat.le_of_ble_eq_true rfl) dX7_passYear_206 ?_
                refine a_ior dX7_passYear_209 ?_
                refine a_istore dX7_passYear_210 (by decide) (loc' := [(4, .int (v4 ||| (fX8_bit x10))), (8, .int q25.1), (7, .int q23), (6, .int x10), (0, .ref w0), (1, .ref 3), (2, .ref 49), (3, .int v3), (5, .int v5)]) rfl ?_
                refine a_iinc (v3 + (1 : Int32)) dX7_passYear_212 7 rfl rfl (by decide) (loc' := [(3, .int (v3 + (1 : Int32))), (4, .int (v4 ||| (fX8_bit x10))), (8, .int q25.1), (7, .int q23), (6, .int x10), (0, .ref w0), (1, .ref 3), (2, .ref 49), (5, .int v5)]) rfl ?_
                refine a_iinc (v5 + (1 : Int32)) dX7_passYear_215 8 rfl rfl (by decide) (loc' := [(5, .int (v5 + (1 : Int32))), (3, .int (v3 + (1 : Int32))), (4, .int (v4 ||| (fX8_bit x10))), (8, .int q25.1), (7, .int q23), (6, .int x10), (0, .ref w0), (1, .ref 3), (2, .ref 49)]) rfl ?_
                refine a_goto 61 dX7_passYear_218 (by decide) ?_
                refine a_locs (loc' := [(0, .ref w0), (1, .ref 3), (2, .ref 49), (3, .int (v3 + (1 : Int32))), (4, .int (v4 ||| (fX8_bit x10))), (5, .int (v5 + (1 : Int32)))]) [6, 7, 8, 1, 2, 0] rfl ?_
                exact ih (v3 + (1 : Int32)) (v4 ||| (fX8_bit x10)) (v5 + (1 : Int32)) q28 hf h2
          · rw [if_neg hc21] at hf
            refine a_if_eq_f 123 dX7_passYear_117 (by decide) hc21 ?_
            refine a_goto 215 dX7_passYear_120 (by decide) ?_
            refine a_iinc (v5 + (1 : Int32)) dX7_passYear_215 6 rfl rfl (by decide) (loc' := [(5, .int (v5 + (1 : Int32))), (6, .int x10), (0, .ref w0), (1, .ref 3), (2, .ref 49), (3, .int v3), (4, .int v4)]) rfl ?_
            refine a_goto 61 dX7_passYear_218 (by decide) ?_
            refine a_locs (loc' := [(0, .ref w0), (1, .ref 3), (2, .ref 49), (3, .int v3), (4, .int v4), (5, .int (v5 + (1 : Int32)))]) [2, 3, 4, 5, 6, 0] rfl ?_
            exact ih v3 v4 (v5 + (1 : Int32)) σ hf h2
set_option maxHeartbeats 4000000 in
set_option maxRecDepth 100000 in
theorem kX7_passYear (e : Nat) (w : Nat) (σ : St) (hw : isW w) (q : Int32 × St) (hf : fX7_passYear w σ = some q) : Sp (e + 4) MX7_passYear [.ref w, .ref 3, .ref 49] σ (some (.int q.1)) q.2 := by
  refine sp_of rfl (Nat.le_of_ble_eq_true rfl) (loc := [(0, .ref w), (1, .ref 3), (2, .ref 49)]) rfl ?_
  unfold fX7_passYear at hf
  refine a_aload_n dX7_passYear_0 rfl 0 rfl ?_
  refine a_dup rfl dX7_passYear_1 ?_
  refine a_get (.int (σ.1 w 8)) (obW hw) (by decide) fl_X7_51 (avW8 hw) dX7_passYear_2 ?_
  refine a_iconst (1 : Int32) dX7_passYear_5 rfl ?_
  refine a_iadd dX7_passYear_6 ?_
  refine a_putI (obW hw) (by decide) fp_X7_51 (Or.inl rfl) dX7_passYear_7 ?_
  obtain ⟨σ1, hσ1, hf⟩ := bnd_elim hf
  rw [← hσ1]
  refine a_iconst (0 : Int32) dX7_passYear_10 rfl ?_
  refine a_istore_n dX7_passYear_11 rfl (by decide) (loc' := [(3, .int (0 : Int32)), (0, .ref w), (1, .ref 3), (2, .ref 49)]) rfl ?_
  obtain ⟨q7, hr32, hf⟩ := obind hf
  have hA33 : A (e + 4) MX7_passYear 53 [(0, .ref w), (1, .ref 3), (2, .ref 49)] [] q7 (some (.int q.1)) q.2 := by
    refine a_iconst (0 : Int32) dX7_passYear_53 rfl ?_
    refine a_istore_n dX7_passYear_54 rfl (by decide) (loc' := [(3, .int (0 : Int32)), (0, .ref w), (1, .ref 3), (2, .ref 49)]) rfl ?_
    refine a_iconst (0 : Int32) dX7_passYear_55 rfl ?_
    refine a_istore dX7_passYear_56 (by decide) (loc' := [(4, .int (0 : Int32)), (3, .int (0 : Int32)), (0, .ref w), (1, .ref 3), (2, .ref 49)]) rfl ?_
    refine a_iconst (0 : Int32) dX7_passYear_58 rfl ?_
    refine a_istore dX7_passYear_59 (by decide) (loc' := [(5, .int (0 : Int32)), (4, .int (0 : Int32)), (3, .int (0 : Int32)), (0, .ref w), (1, .ref 3), (2, .ref 49)]) rfl ?_
    obtain ⟨q29, hr30, hf⟩ := obind hf
    have hA31 : A (e + 4) MX7_passYear 221 [(3, .int q29.1)] [] q29.2 (some (.int q.1)) q.2 := by
      refine a_iload_n dX7_passYear_221 rfl 0 rfl ?_
      have hq := Option.some.inj hf
      subst hq
      exact a_iret rfl dX7_passYear_222
    refine a_locs (loc' := [(0, .ref w), (1, .ref 3), (2, .ref 49), (3, .int (0 : Int32)), (4, .int (0 : Int32)), (5, .int (0 : Int32))]) [3, 4, 5, 2, 1, 0] rfl ?_
    exact kX7_passYear_L61 e w hw q29 fu (0 : Int32) (0 : Int32) (0 : Int32) q7 hr30 hA31
  refine a_locs (loc' := [(0, .ref w), (1, .ref 3), (2, .ref 49), (3, .int (0 : Int32))]) [1, 2, 3, 0] rfl ?_
  exact kX7_passYear_L12 e w hw q7 fu (0 : Int32) σ1 hr32 hA33
set_option maxHeartbeats 4000000 in
set_option maxRecDepth 100000 in
theorem kX7_passYear_n_L12 (e : Nat) (w0 : Nat)  (hw0 : isW w0) {r : Option Value} {τ : St} (q : (St)) : ∀ (n : Nat) (v3 : Int32) (σ : St), fX7_passYear_n_L12 w0 n v3 σ = some q → A (e + 4) MX7_passYear 53 [(0, .ref w0), (1, .ref 3), (2, .null)] [] q r τ → A (e + 4) MX7_passYear 12 [(0, .ref w0), (1, .ref 3), (2, .null), (3, .int v3)] [] σ r τ := by
  intro n
  induction n with
  | zero =>
    intro v3 σ  hf
    simp only [fX7_passYear_n_L12] at hf
    exact absurd hf (by simp)
  | succ n ih =>
    intro v3 σ  hf h2
    rw [fX7_passYear_n_L12] at hf
    refine a_iload_n dX7_passYear_12 rfl 3 rfl ?_
    refine a_aload_n dX7_passYear_13 rfl 0 rfl ?_
    refine a_get (.int (σ.1 w0 6)) (obW hw0) (by decide) fl_X7_44 (avW6 hw0) dX7_passYear_14 ?_
    by_cases hc2 : (σ.1 w0 6) ≤ v3
    · rw [if_pos hc2] at hf
      refine a_icmp_ge_t 53 dX7_passYear_17 (by decide) hc2 ?_
      have hq := Option.some.inj hf
      rw [← hq] at h2
      refine a_locs (loc' := [(0, .ref w0), (1, .ref 3), (2, .null)]) [0, 1, 2] rfl ?_
      exact h2
    · rw [if_neg hc2] at hf
      refine a_icmp_ge_f 53 dX7_passYear_17 (by decide) hc2 ?_
      refine a_aload_n dX7_passYear_20 rfl 0 rfl ?_
      refine a_get (.ref (w0 + 6)) (obW hw0) (by decide) fl_X7_29 (avW7 hw0) dX7_passYear_21 ?_
      refine a_iload_n dX7_passYear_24 rfl 3 rfl ?_
      obtain ⟨hb3, hf⟩ := grd_elim hf
      refine a_aald (w0 + 7 + v3.toNatClampNeg) (gaW hw0) hb3 (rfG hw0 hb3) dX7_passYear_25 ?_
      refine a_callV (as := []) (stk := []) (q := some (.int (fX3_lives (w0 + 7 + v3.toNatClampNeg) σ))) (σ1 := σ) (kX3_lives (e + 3) (w0 + 7 + v3.toNatClampNeg) σ (obG hw0 hb3)) (obG hw0 hb3) vl_X7_62 rfl (Nat.le_of_ble_eq_true rfl) dX7_passYear_26 ?_
      by_cases hc4 : (fX3_lives (w0 + 7 + v3.toNatClampNeg) σ) = 0
      · rw [if_pos hc4] at hf
        refine a_if_eq_t 47 dX7_passYear_29 (by decide) hc4 ?_
        refine a_iinc (v3 + (1 : Int32)) dX7_passYear_47 3 rfl rfl (by decide) (loc' := [(3, .int (v3 + (1 : Int32))), (0, .ref w0), (1, .ref 3), (2, .null)]) rfl ?_
        refine a_goto 12 dX7_passYear_50 (by decide) ?_
        refine a_locs (loc' := [(0, .ref w0), (1, .ref 3), (2, .null), (3, .int (v3 + (1 : Int32)))]) [1, 2, 3, 0] rfl ?_
        exact ih (v3 + (1 : Int32)) σ hf h2
      · rw [if_neg hc4] at hf
        refine a_if_eq_f 47 dX7_passYear_29 (by decide) hc4 ?_
        refine a_aload_n dX7_passYear_32 rfl 0 rfl ?_
        refine a_get (.ref (w0 + 6)) (obW hw0) (by decide) fl_X7_29 (avW7 hw0) dX7_passYear_33 ?_
        refine a_iload_n dX7_passYear_36 rfl 3 rfl ?_
        obtain ⟨hb5, hf⟩ := grd_elim hf
        refine a_aald (w0 + 7 + v3.toNatClampNeg) (gaW hw0) hb5 (rfG hw0 hb5) dX7_passYear_37 ?_
        refine a_dup rfl dX7_passYear_38 ?_
        refine a_get (.int (σ.1 (w0 + 7 + v3.toNatClampNeg) 5)) (obG hw0 hb5) (by decide) fl_X7_83 (avG (obG hw0 hb5) 5 rfl) dX7_passYear_39 ?_
        refine a_iconst (1 : Int32) dX7_passYear_42 rfl ?_
        refine a_iadd dX7_passYear_43 ?_
        refine a_putI (obG hw0 hb5) (by decide) fp_X7_83 (Or.inl rfl) dX7_passYear_44 ?_
        obtain ⟨σ6, hσ6, hf⟩ := bnd_elim hf
        rw [← hσ6]
        refine a_iinc (v3 + (1 : Int32)) dX7_passYear_47 3 rfl rfl (by decide) (loc' := [(3, .int (v3 + (1 : Int32))), (0, .ref w0), (1, .ref 3), (2, .null)]) rfl ?_
        refine a_goto 12 dX7_passYear_50 (by decide) ?_
        refine a_locs (loc' := [(0, .ref w0), (1, .ref 3), (2, .null), (3, .int (v3 + (1 : Int32)))]) [1, 2, 3, 0] rfl ?_
        exact ih (v3 + (1 : Int32)) σ6 hf h2
set_option maxHeartbeats 4000000 in
set_option maxRecDepth 100000 in
theorem kX7_passYear_n_L61 (e : Nat) (w0 : Nat)  (hw0 : isW w0) {r : Option Value} {τ : St} (q : (Int32 × St)) : ∀ (n : Nat) (v3 : Int32) (v4 : Int32) (v5 : Int32) (σ : St), fX7_passYear_n_L61 w0 n v3 v4 v5 σ = some q → A (e + 4) MX7_passYear 221 [(3, .int q.1)] [] q.2 r τ → A (e + 4) MX7_passYear 61 [(0, .ref w0), (1, .ref 3), (2, .null), (3, .int v3), (4, .int v4), (5, .int v5)] [] σ r τ := by
  intro n
  induction n with
  | zero =>
    intro v3 v4 v5 σ  hf
    simp only [fX7_passYear_n_L61] at hf
    exact absurd hf (by simp)
  | succ n ih =>
    intro v3 v4 v5 σ  hf h2
    rw [fX7_passYear_n_L61] at hf
    refine a_iload dX7_passYear_61 5 rfl ?_
    refine a_aload_n dX7_passYear_63 rfl 0 rfl ?_
    refine a_get (.int (σ.1 w0 6)) (obW hw0) (by decide) fl_X7_44 (avW6 hw0) dX7_passYear_64 ?_
    by_cases hc8 : (σ.1 w0 6) ≤ v5
    · rw [if_pos hc8] at hf
      refine a_icmp_ge_t 221 dX7_passYear_67 (by decide) hc8 ?_
      have hq := Option.some.inj hf
      rw [← hq] at h2
      refine a_locs (loc' := [(3, .int v3)]) [3] rfl ?_
      exact h2
    · rw [if_neg hc8] at hf
      refine a_icmp_ge_f 221 dX7_passYear_67 (by decide) hc8 ?_
      refine a_aload_n dX7_passYear_70 rfl 0 rfl ?_
      refine a_get (.ref (w0 + 6)) (obW hw0) (by decide) fl_X7_29 (avW7 hw0) dX7_passYear_71 ?_
      refine a_iload dX7_passYear_74 5 rfl ?_
      obtain ⟨hb9, hf⟩ := grd_elim hf
      refine a_aald (w0 + 7 + v5.toNatClampNeg) (gaW hw0) hb9 (rfG hw0 hb9) dX7_passYear_76 ?_
      refine a_get (.int (σ.1 (w0 + 7 + v5.toNatClampNeg) 2)) (obG hw0 hb9) (by decide) fl_X7_66 (avG (obG hw0 hb9) 2 rfl) dX7_passYear_77 ?_
      obtain ⟨x10, hx10, hf⟩ := bnd_elim hf
      refine a_top (w := .int x10) (by rw [hx10]) ?_
      refine a_istore dX7_passYear_80 (by decide) (loc' := [(6, .int x10), (0, .ref w0), (1, .ref 3), (2, .null), (3, .int v3), (4, .int v4), (5, .int v5)]) rfl ?_
      refine a_aload_n dX7_passYear_82 rfl 1 rfl ?_
      refine a_get (.ref (w0 + 6)) (obW hw0) (by decide) fl_X7_29 (avW7 hw0) dX7_passYear_83 ?_
      refine a_iload dX7_passYear_86 6 rfl ?_
      obtain ⟨hb11, hf⟩ := grd_elim hf
      refine a_aald (w0 + 7 + v5.toNatClampNeg) (gaW hw0) hb11 (rfG hw0 hb11) dX7_passYear_88 ?_
      refine a_aload_n dX7_passYear_89 rfl 2 rfl ?_
      refine a_get (.int (σ.1 3 0)) ob_3 (by decide) fl_X7_86 rfl dX7_passYear_90 ?_
      refine a_callV (as := [.int (σ.1 3 0)]) (stk := []) (q := some (.int (fX3_mustGo (w0 + 7 + v5.toNatClampNeg) (σ.1 3 0) σ))) (σ1 := σ) (kX3_mustGo (e + 2) (w0 + 7 + v5.toNatClampNeg) (σ.1 3 0) σ (obG hw0 hb11)) (obG hw0 hb11) vl_X7_91 rfl (Nat.le_of_ble_eq_true rfl) dX7_passYear_93 ?_
      by_cases hc12 : (fX3_mustGo (w0 + 7 + v5.toNatClampNeg) (σ.1 3 0) σ) = 0
      · rw [if_pos hc12] at hf
        refine a_if_ne_f 102 dX7_passYear_96 (by decide) hc12 ?_
        refine a_goto 215 dX7_passYear_99 (by decide) ?_
        refine a_iinc (v5 + (1 : Int32)) dX7_passYear_215 6 rfl rfl (by decide) (loc' := [(5, .int (v5 + (1 : Int32))), (6, .int x10), (0, .ref w0), (1, .ref 3), (2, .null), (3, .int v3), (4, .int v4)]) rfl ?_
        refine a_goto 61 dX7_passYear_218 (by decide) ?_
        refine a_locs (loc' := [(0, .ref w0), (1, .ref 3), (2, .null), (3, .int v3), (4, .int v4), (5, .int (v5 + (1 : Int32)))]) [2, 3, 4, 5, 6, 0] rfl ?_
        exact ih v3 v4 (v5 + (1 : Int32)) σ hf h2
      · rw [if_neg hc12] at hf
        refine a_if_ne_t 102 dX7_passYear_96 (by decide) hc12 ?_
        refine a_aload_n dX7_passYear_102 rfl 2 rfl ?_
        refine a_get (.int (σ.1 3 2)) ob_3 (by decide) fl_X7_95 rfl dX7_passYear_103 ?_
        by_cases hc13 : (σ.1 3 2) = 0
        · rw [if_pos hc13] at hf
          refine a_if_eq_t 123 dX7_passYear_106 (by decide) hc13 ?_
          refine a_aload_n dX7_passYear_123 rfl 1 rfl ?_
          refine a_aload_n dX7_passYear_124 rfl 1 rfl ?_
          refine a_get (.ref (w0 + 6)) (obW hw0) (by decide) fl_X7_29 (avW7 hw0) dX7_passYear_125 ?_
          refine a_iload dX7_passYear_128 6 rfl ?_
          obtain ⟨hb14, hf⟩ := grd_elim hf
          refine a_aald (w0 + 7 + v5.toNatClampNeg) (gaW hw0) hb14 (rfG hw0 hb14) dX7_passYear_130 ?_
          refine a_get (.int (σ.1 (w0 + 7 + v5.toNatClampNeg) 3)) (obG hw0 hb14) (by decide) fl_X7_99 (avG (obG hw0 hb14) 3 rfl) dX7_passYear_131 ?_
          refine a_iload dX7_passYear_134 0 rfl ?_
          refine a_aload_n dX7_passYear_136 rfl 2 rfl ?_
          refine a_get (.int (σ.1 3 1)) ob_3 (by decide) fl_X7_102 rfl dX7_passYear_137 ?_
          obtain ⟨q15, hq15, hf⟩ := obind hf
          refine a_callV (as := [.int (σ.1 (w0 + 7 + v5.toNatClampNeg) 3), .int x10, .int (σ.1 3 1)]) (stk := []) (q := some (.int q15)) (σ1 := σ) (kX7_mayHave (e + 2) w0 (σ.1 (w0 + 7 + v5.toNatClampNeg) 3) x10 (σ.1 3 1) σ hw0 _ hq15) (obW hw0) vl_X7_105 rfl (Nat.le_of_ble_eq_true rfl) dX7_passYear_140 ?_
          refine a_istore dX7_passYear_143 (by decide) (loc' := [(7, .int q15), (6, .int x10), (0, .ref w0), (1, .ref 3), (2, .null), (3, .int v3), (4, .int v4), (5, .int v5)]) rfl ?_
          refine a_iload dX7_passYear_145 0 rfl ?_
          by_cases hc16 : q15 = 0
          · rw [if_pos hc16] at hf
            refine a_if_ne_f 153 dX7_passYear_147 (by decide) hc16 ?_
            refine a_goto 215 dX7_passYear_150 (by decide) ?_
            refine a_iinc (v5 + (1 : Int32)) dX7_passYear_215 7 rfl rfl (by decide) (loc' := [(5, .int (v5 + (1 : Int32))), (7, .int q15), (6, .int x10), (0, .ref w0), (1, .ref 3), (2, .null), (3, .int v3), (4, .int v4)]) rfl ?_
            refine a_goto 61 dX7_passYear_218 (by decide) ?_
            refine a_locs (loc' := [(0, .ref w0), (1, .ref 3), (2, .null), (3, .int v3), (4, .int v4), (5, .int (v5 + (1 : Int32)))]) [3, 4, 5, 6, 7, 0] rfl ?_
            exact ih v3 v4 (v5 + (1 : Int32)) σ hf h2
          · rw [if_neg hc16] at hf
            refine a_if_ne_t 153 dX7_passYear_147 (by decide) hc16 ?_
            refine a_aload_nN dX7_passYear_153 rfl 4 rfl ?_
            refine a_ifnonnull_n dX7_passYear_154 ?_
            refine a_aload_n dX7_passYear_157 rfl 2 rfl ?_
            refine a_iload dX7_passYear_158 1 rfl ?_
            refine a_iload dX7_passYear_160 0 rfl ?_
            obtain ⟨q17, hq17, hf⟩ := obind hf
            refine a_callV (as := [.int x10, .int q15]) (stk := []) (q := some (.int q17)) (σ1 := σ) (kX7_chosenBy e w0 x10 q15 σ hw0 _ hq17) (obW hw0) vl_X7_109 rfl (Nat.le_of_ble_eq_true rfl) dX7_passYear_162 ?_
            refine a_goto 174 dX7_passYear_165 (by decide) ?_
            refine a_istore dX7_passYear_174 (by decide) (loc' := [(8, .int q17), (7, .int q15), (6, .int x10), (0, .ref w0), (1, .ref 3), (2, .null), (3, .int v3), (4, .int v4), (5, .int v5)]) rfl ?_
            refine a_iload dX7_passYear_176 0 rfl ?_
            refine a_iconst (-1 : Int32) dX7_passYear_178 rfl ?_
            by_cases hc18 : q17 = (-1 : Int32)
            · rw [if_pos hc18] at hf
              refine a_icmp_ne_f 185 dX7_passYear_179 (by decide) hc18 ?_
              refine a_goto 215 dX7_passYear_182 (by decide) ?_
              refine a_iinc (v5 + (1 : Int32)) dX7_passYear_215 8 rfl rfl (by decide) (loc' := [(5, .int (v5 + (1 : Int32))), (8, .int q17), (7, .int q15), (6, .int x10), (0, .ref w0), (1, .ref 3), (2, .null), (3, .int v3), (4, .int v4)]) rfl ?_
              refine a_goto 61 dX7_passYear_218 (by decide) ?_
              refine a_locs (loc' := [(0, .ref w0), (1, .ref 3), (2, .null), (3, .int v3), (4, .int v4), (5, .int (v5 + (1 : Int32)))]) [4, 5, 6, 7, 8, 0] rfl ?_
              exact ih v3 v4 (v5 + (1 : Int32)) σ hf h2
            · rw [if_neg hc18] at hf
              refine a_icmp_ne_t 185 dX7_passYear_179 (by decide) hc18 ?_
              refine a_aload_n dX7_passYear_185 rfl 3 rfl ?_
              refine a_aload_n dX7_passYear_186 rfl 3 rfl ?_
              refine a_get (.ref (w0 + 6)) (obW hw0) (by decide) fl_X7_29 (avW7 hw0) dX7_passYear_187 ?_
              refine a_iload dX7_passYear_190 8 rfl ?_
              obtain ⟨hb19, hf⟩ := grd_elim hf
              refine a_aald (w0 + 7 + v5.toNatClampNeg) (gaW hw0) hb19 (rfG hw0 hb19) dX7_passYear_192 ?_
              refine a_iload dX7_passYear_193 0 rfl ?_
              refine a_aload_n dX7_passYear_195 rfl 4 rfl ?_
              refine a_get (.int (σ.1 3 3)) ob_3 (by decide) fl_X7_117 rfl dX7_passYear_196 ?_
              obtain ⟨q20, hq20, hf⟩ := obind hf
              refine a_callV (as := [.ref (w0 + 7 + v5.toNatClampNeg), .int q17, .int (σ.1 3 3)]) (stk := []) (q := none) (σ1 := q20) (kX7_handOn (e + 1) w0 (w0 + 7 + v5.toNatClampNeg) q17 (σ.1 3 3) σ hw0 (obG hw0 hb19) _ hq20) (obW hw0) vl_X7_120 rfl (Nat.le_of_ble_eq_true rfl) dX7_passYear_199 ?_
              refine a_iload dX7_passYear_202 7 rfl ?_
              refine a_iload dX7_passYear_204 2 rfl ?_
              refine a_callS (as := [.int x10]) (stk := [.int v4]) (q := some (.int (fX8_bit x10))) (σ1 := q20) (kX8_bit (e + 3) x10 q20) sl_X7_58 rfl (Nat.le_of_ble_eq_true rfl) dX7_passYear_206 ?_
              refine a_ior dX7_passYear_209 ?_
              refine a_istore dX7_passYear_210 (by decide) (loc' := [(4, .int (v4 ||| (fX8_bit x10))), (8, .int q17), (7, .int q15), (6, .int x10), (0, .ref w0), (1, .ref 3), (2, .null), (3, .int v3), (5, .int v5)]) rfl ?_
              refine a_iinc (v3 + (1 : Int32)) dX7_passYear_212 7 rfl rfl (by decide) (loc' := [(3, .int (v3 + (1 : Int32))), (4, .int (v4 ||| (fX8_bit x10))), (8, .int q17), (7, .int q15), (6, .int x10), (0, .ref w0), (1, .ref 3), (2, .null), (5, .int v5)]) rfl ?_
              refine a_iinc (v5 + (1 : Int32)) dX7_passYear_215 8 rfl rfl (by decide) (loc' := [(5, .int (v5 + (1 : Int32))), (3, .int (v3 + (1 : Int32))), (4, .int (v4 ||| (fX8_bit x10))), (8, .int q17), (7, .int q15), (6, .int x10), (0, .ref w0), (1, .ref 3), (2, .null)]) rfl ?_
              refine a_goto 61 dX7_passYear_218 (by decide) ?_
              refine a_locs (loc' := [(0, .ref w0), (1, .ref 3), (2, .null), (3, .int (v3 + (1 : Int32))), (4, .int (v4 ||| (fX8_bit x10))), (5, .int (v5 + (1 : Int32)))]) [6, 7, 8, 1, 2, 0] rfl ?_
              exact ih (v3 + (1 : Int32)) (v4 ||| (fX8_bit x10)) (v5 + (1 : Int32)) q20 hf h2
        · rw [if_neg hc13] at hf
          refine a_if_eq_f 123 dX7_passYear_106 (by decide) hc13 ?_
          refine a_iload dX7_passYear_109 5 rfl ?_
          refine a_iload dX7_passYear_111 0 rfl ?_
          refine a_callS (as := [.int x10]) (stk := [.int v4]) (q := some (.int (fX8_bit x10))) (σ1 := σ) (kX8_bit (e + 3) x10 σ) sl_X7_58 rfl (Nat.le_of_ble_eq_true rfl) dX7_passYear_113 ?_
          refine a_iand dX7_passYear_116 ?_
          by_cases hc21 : (v4 &&& (fX8_bit x10)) = 0
          · rw [if_pos hc21] at hf
            refine a_if_eq_t 123 dX7_passYear_117 (by decide) hc21 ?_
            refine a_aload_n dX7_passYear_123 rfl 1 rfl ?_
            refine a_aload_n dX7_passYear_124 rfl 1 rfl ?_
            refine a_get (.ref (w0 + 6)) (obW hw0) (by decide) fl_X7_29 (avW7 hw0) dX7_passYear_125 ?_
            refine a_iload dX7_passYear_128 6 rfl ?_
            obtain ⟨hb22, hf⟩ := grd_elim hf
            refine a_aald (w0 + 7 + v5.toNatClampNeg) (gaW hw0) hb22 (rfG hw0 hb22) dX7_passYear_130 ?_
            refine a_get (.int (σ.1 (w0 + 7 + v5.toNatClampNeg) 3)) (obG hw0 hb22) (by decide) fl_X7_99 (avG (obG hw0 hb22) 3 rfl) dX7_passYear_131 ?_
            refine a_iload dX7_passYear_134 0 rfl ?_
            refine a_aload_n dX7_passYear_136 rfl 2 rfl ?_
            refine a_get (.int (σ.1 3 1)) ob_3 (by decide) fl_X7_102 rfl dX7_passYear_137 ?_
            obtain ⟨q23, hq23, hf⟩ := obind hf
            refine a_callV (as := [.int (σ.1 (w0 + 7 + v5.toNatClampNeg) 3), .int x10, .int (σ.1 3 1)]) (stk := []) (q := some (.int q23)) (σ1 := σ) (kX7_mayHave (e + 2) w0 (σ.1 (w0 + 7 + v5.toNatClampNeg) 3) x10 (σ.1 3 1) σ hw0 _ hq23) (obW hw0) vl_X7_105 rfl (Nat.le_of_ble_eq_true rfl) dX7_passYear_140 ?_
            refine a_istore dX7_passYear_143 (by decide) (loc' := [(7, .int q23), (6, .int x10), (0, .ref w0), (1, .ref 3), (2, .null), (3, .int v3), (4, .int v4), (5, .int v5)]) rfl ?_
            refine a_iload dX7_passYear_145 0 rfl ?_
            by_cases hc24 : q23 = 0
            · rw [if_pos hc24] at hf
              refine a_if_ne_f 153 dX7_passYear_147 (by decide) hc24 ?_
              refine a_goto 215 dX7_passYear_150 (by decide) ?_
              refine a_iinc (v5 + (1 : Int32)) dX7_passYear_215 7 rfl rfl (by decide) (loc' := [(5, .int (v5 + (1 : Int32))), (7, .int q23), (6, .int x10), (0, .ref w0), (1, .ref 3), (2, .null), (3, .int v3), (4, .int v4)]) rfl ?_
              refine a_goto 61 dX7_passYear_218 (by decide) ?_
              refine a_locs (loc' := [(0, .ref w0), (1, .ref 3), (2, .null), (3, .int v3), (4, .int v4), (5, .int (v5 + (1 : Int32)))]) [3, 4, 5, 6, 7, 0] rfl ?_
              exact ih v3 v4 (v5 + (1 : Int32)) σ hf h2
            · rw [if_neg hc24] at hf
              refine a_if_ne_t 153 dX7_passYear_147 (by decide) hc24 ?_
              refine a_aload_nN dX7_passYear_153 rfl 4 rfl ?_
              refine a_ifnonnull_n dX7_passYear_154 ?_
              refine a_aload_n dX7_passYear_157 rfl 2 rfl ?_
              refine a_iload dX7_passYear_158 1 rfl ?_
              refine a_iload dX7_passYear_160 0 rfl ?_
              obtain ⟨q25, hq25, hf⟩ := obind hf
              refine a_callV (as := [.int x10, .int q23]) (stk := []) (q := some (.int q25)) (σ1 := σ) (kX7_chosenBy e w0 x10 q23 σ hw0 _ hq25) (obW hw0) vl_X7_109 rfl (Nat.le_of_ble_eq_true rfl) dX7_passYear_162 ?_
              refine a_goto 174 dX7_passYear_165 (by decide) ?_
              refine a_istore dX7_passYear_174 (by decide) (loc' := [(8, .int q25), (7, .int q23), (6, .int x10), (0, .ref w0), (1, .ref 3), (2, .null), (3, .int v3), (4, .int v4), (5, .int v5)]) rfl ?_
              refine a_iload dX7_passYear_176 0 rfl ?_
              refine a_iconst (-1 : Int32) dX7_passYear_178 rfl ?_
              by_cases hc26 : q25 = (-1 : Int32)
              · rw [if_pos hc26] at hf
                refine a_icmp_ne_f 185 dX7_passYear_179 (by decide) hc26 ?_
                refine a_goto 215 dX7_passYear_182 (by decide) ?_
                refine a_iinc (v5 + (1 : Int32)) dX7_passYear_215 8 rfl rfl (by decide) (loc' := [(5, .int (v5 + (1 : Int32))), (8, .int q25), (7, .int q23), (6, .int x10), (0, .ref w0), (1, .ref 3), (2, .null), (3, .int v3), (4, .int v4)]) rfl ?_
                refine a_goto 61 dX7_passYear_218 (by decide) ?_
                refine a_locs (loc' := [(0, .ref w0), (1, .ref 3), (2, .null), (3, .int v3), (4, .int v4), (5, .int (v5 + (1 : Int32)))]) [4, 5, 6, 7, 8, 0] rfl ?_
                exact ih v3 v4 (v5 + (1 : Int32)) σ hf h2
              · rw [if_neg hc26] at hf
                refine a_icmp_ne_t 185 dX7_passYear_179 (by decide) hc26 ?_
                refine a_aload_n dX7_passYear_185 rfl 3 rfl ?_
                refine a_aload_n dX7_passYear_186 rfl 3 rfl ?_
                refine a_get (.ref (w0 + 6)) (obW hw0) (by decide) fl_X7_29 (avW7 hw0) dX7_passYear_187 ?_
                refine a_iload dX7_passYear_190 8 rfl ?_
                obtain ⟨hb27, hf⟩ := grd_elim hf
                refine a_aald (w0 + 7 + v5.toNatClampNeg) (gaW hw0) hb27 (rfG hw0 hb27) dX7_passYear_192 ?_
                refine a_iload dX7_passYear_193 0 rfl ?_
                refine a_aload_n dX7_passYear_195 rfl 4 rfl ?_
                refine a_get (.int (σ.1 3 3)) ob_3 (by decide) fl_X7_117 rfl dX7_passYear_196 ?_
                obtain ⟨q28, hq28, hf⟩ := obind hf
                refine a_callV (as := [.ref (w0 + 7 + v5.toNatClampNeg), .int q25, .int (σ.1 3 3)]) (stk := []) (q := none) (σ1 := q28) (kX7_handOn (e + 1) w0 (w0 + 7 + v5.toNatClampNeg) q25 (σ.1 3 3) σ hw0 (obG hw0 hb27) _ hq28) (obW hw0) vl_X7_120 rfl (Nat.le_of_ble_eq_true rfl) dX7_passYear_199 ?_
                refine a_iload dX7_passYear_202 7 rfl ?_
                refine a_iload dX7_passYear_204 2 rfl ?_
                refine a_callS (as := [.int x10]) (stk := [.int v4]) (q := some (.int (fX8_bit x10))) (σ1 := q28) (kX8_bit (e + 3) x10 q28) sl_X7_58 rfl (Nat.le_of_ble_eq_true rfl) dX7_passYear_206 ?_
                refine a_ior dX7_passYear_209 ?_
                refine a_istore dX7_passYear_210 (by decide) (loc' := [(4, .int (v4 ||| (fX8_bit x10))), (8, .int q25), (7, .int q23), (6, .int x10), (0, .ref w0), (1, .ref 3), (2, .null), (3, .int v3), (5, .int v5)]) rfl ?_
                refine a_iinc (v3 + (1 : Int32)) dX7_passYear_212 7 rfl rfl (by decide) (loc' := [(3, .int (v3 + (1 : Int32))), (4, .int (v4 ||| (fX8_bit x10))), (8, .int q25), (7, .int q23), (6, .int x10), (0, .ref w0), (1, .ref 3), (2, .null), (5, .int v5)]) rfl ?_
                refine a_iinc (v5 + (1 : Int32)) dX7_passYear_215 8 rfl rfl (by decide) (loc' := [(5, .int (v5 + (1 : Int32))), (3, .int (v3 + (1 : Int32))), (4, .int (v4 ||| (fX8_bit x10))), (8, .int q25), (7, .int q23), (6, .int x10), (0, .ref w0), (1, .ref 3), (2, .null)]) rfl ?_
                refine a_goto 61 dX7_passYear_218 (by decide) ?_
                refine a_locs (loc' := [(0, .ref w0), (1, .ref 3), (2, .null), (3, .int (v3 + (1 : Int32))), (4, .int (v4 ||| (fX8_bit x10))), (5, .int (v5 + (1 : Int32)))]) [6, 7, 8, 1, 2, 0] rfl ?_
                exact ih (v3 + (1 : Int32)) (v4 ||| (fX8_bit x10)) (v5 + (1 : Int32)) q28 hf h2
          · rw [if_neg hc21] at hf
            refine a_if_eq_f 123 dX7_passYear_117 (by decide) hc21 ?_
            refine a_goto 215 dX7_passYear_120 (by decide) ?_
            refine a_iinc (v5 + (1 : Int32)) dX7_passYear_215 6 rfl rfl (by decide) (loc' := [(5, .int (v5 + (1 : Int32))), (6, .int x10), (0, .ref w0), (1, .ref 3), (2, .null), (3, .int v3), (4, .int v4)]) rfl ?_
            refine a_goto 61 dX7_passYear_218 (by decide) ?_
            refine a_locs (loc' := [(0, .ref w0), (1, .ref 3), (2, .null), (3, .int v3), (4, .int v4), (5, .int (v5 + (1 : Int32)))]) [2, 3, 4, 5, 6, 0] rfl ?_
            exact ih v3 v4 (v5 + (1 : Int32)) σ hf h2
set_option maxHeartbeats 4000000 in
set_option maxRecDepth 100000 in
theorem kX7_passYear_n (e : Nat) (w : Nat) (σ : St) (hw : isW w) (q : Int32 × St) (hf : fX7_passYear_n w σ = some q) : Sp (e + 4) MX7_passYear [.ref w, .ref 3, .null] σ (some (.int q.1)) q.2 := by
  refine sp_of rfl (Nat.le_of_ble_eq_true rfl) (loc := [(0, .ref w), (1, .ref 3), (2, .null)]) rfl ?_
  unfold fX7_passYear_n at hf
  refine a_aload_n dX7_passYear_0 rfl 0 rfl ?_
  refine a_dup rfl dX7_passYear_1 ?_
  refine a_get (.int (σ.1 w 8)) (obW hw) (by decide) fl_X7_51 (avW8 hw) dX7_passYear_2 ?_
  refine a_iconst (1 : Int32) dX7_passYear_5 rfl ?_
  refine a_iadd dX7_passYear_6 ?_
  refine a_putI (obW hw) (by decide) fp_X7_51 (Or.inl rfl) dX7_passYear_7 ?_
  obtain ⟨σ1, hσ1, hf⟩ := bnd_elim hf
  rw [← hσ1]
  refine a_iconst (0 : Int32) dX7_passYear_10 rfl ?_
  refine a_istore_n dX7_passYear_11 rfl (by decide) (loc' := [(3, .int (0 : Int32)), (0, .ref w), (1, .ref 3), (2, .null)]) rfl ?_
  obtain ⟨q7, hr32, hf⟩ := obind hf
  have hA33 : A (e + 4) MX7_passYear 53 [(0, .ref w), (1, .ref 3), (2, .null)] [] q7 (some (.int q.1)) q.2 := by
    refine a_iconst (0 : Int32) dX7_passYear_53 rfl ?_
    refine a_istore_n dX7_passYear_54 rfl (by decide) (loc' := [(3, .int (0 : Int32)), (0, .ref w), (1, .ref 3), (2, .null)]) rfl ?_
    refine a_iconst (0 : Int32) dX7_passYear_55 rfl ?_
    refine a_istore dX7_passYear_56 (by decide) (loc' := [(4, .int (0 : Int32)), (3, .int (0 : Int32)), (0, .ref w), (1, .ref 3), (2, .null)]) rfl ?_
    refine a_iconst (0 : Int32) dX7_passYear_58 rfl ?_
    refine a_istore dX7_passYear_59 (by decide) (loc' := [(5, .int (0 : Int32)), (4, .int (0 : Int32)), (3, .int (0 : Int32)), (0, .ref w), (1, .ref 3), (2, .null)]) rfl ?_
    obtain ⟨q29, hr30, hf⟩ := obind hf
    have hA31 : A (e + 4) MX7_passYear 221 [(3, .int q29.1)] [] q29.2 (some (.int q.1)) q.2 := by
      refine a_iload_n dX7_passYear_221 rfl 0 rfl ?_
      have hq := Option.some.inj hf
      subst hq
      exact a_iret rfl dX7_passYear_222
    refine a_locs (loc' := [(0, .ref w), (1, .ref 3), (2, .null), (3, .int (0 : Int32)), (4, .int (0 : Int32)), (5, .int (0 : Int32))]) [3, 4, 5, 2, 1, 0] rfl ?_
    exact kX7_passYear_n_L61 e w hw q29 fu (0 : Int32) (0 : Int32) (0 : Int32) q7 hr30 hA31
  refine a_locs (loc' := [(0, .ref w), (1, .ref 3), (2, .null), (3, .int (0 : Int32))]) [1, 2, 3, 0] rfl ?_
  exact kX7_passYear_n_L12 e w hw q7 fu (0 : Int32) σ1 hr32 hA33
set_option maxHeartbeats 4000000 in
set_option maxRecDepth 100000 in
theorem kX8_years_L17 (e : Nat) (c1 : Int32)   {r : Option Value} {τ : St} (q : (Int32 × St)) : ∀ (n : Nat) (v2 : Int32) (v3 : Int32) (σ : St), fX8_years_L17 c1 n v2 v3 σ = some q → A (e + 5) MX8_years 43 [(2, .int q.1)] [] q.2 r τ → A (e + 5) MX8_years 17 [(0, .ref 0), (1, .int c1), (2, .int v2), (3, .int v3)] [] σ r τ := by
  intro n
  induction n with
  | zero =>
    intro v2 v3 σ  hf
    simp only [fX8_years_L17] at hf
    exact absurd hf (by simp)
  | succ n ih =>
    intro v2 v3 σ  hf h2
    rw [fX8_years_L17] at hf
    refine a_iload_n dX8_years_17 rfl 3 rfl ?_
    refine a_iload_n dX8_years_18 rfl 1 rfl ?_
    by_cases hc2 : c1 ≤ v3
    · rw [if_pos hc2] at hf
      refine a_icmp_ge_t 43 dX8_years_19 (by decide) hc2 ?_
      have hq := Option.some.inj hf
      rw [← hq] at h2
      refine a_locs (loc' := [(2, .int v2)]) [2] rfl ?_
      exact h2
    · rw [if_neg hc2] at hf
      refine a_icmp_ge_f 43 dX8_years_19 (by decide) hc2 ?_
      refine a_iload_n dX8_years_22 rfl 2 rfl ?_
      refine a_aload_n dX8_years_23 rfl 0 rfl ?_
      refine a_get (.ref 4) ob_0 (by decide) fl_X8_26 rfl dX8_years_24 ?_
      refine a_aload_n dX8_years_27 rfl 0 rfl ?_
      refine a_get (.ref 3) ob_0 (by decide) fl_X8_19 rfl dX8_years_28 ?_
      refine a_null dX8_years_31 ?_
      obtain ⟨q3, hq3, hf⟩ := obind hf
      refine a_callV (as := [.ref 3, .null]) (stk := [.int v2]) (q := some (.int q3.1)) (σ1 := q3.2) (kX7_passYear_n e 4 σ isW_4 _ hq3) (obW isW_4) vl_X8_215 rfl (Nat.le_of_ble_eq_true rfl) dX8_years_32 ?_
      refine a_iadd dX8_years_35 ?_
      refine a_istore_n dX8_years_36 rfl (by decide) (loc' := [(2, .int (v2 + q3.1)), (0, .ref 0), (1, .int c1), (3, .int v3)]) rfl ?_
      refine a_iinc (v3 + (1 : Int32)) dX8_years_37 3 rfl rfl (by decide) (loc' := [(3, .int (v3 + (1 : Int32))), (2, .int (v2 + q3.1)), (0, .ref 0), (1, .int c1)]) rfl ?_
      refine a_goto 17 dX8_years_40 (by decide) ?_
      refine a_locs (loc' := [(0, .ref 0), (1, .int c1), (2, .int (v2 + q3.1)), (3, .int (v3 + (1 : Int32)))]) [2, 3, 1, 0] rfl ?_
      exact ih (v2 + q3.1) (v3 + (1 : Int32)) q3.2 hf h2
set_option maxHeartbeats 4000000 in
set_option maxRecDepth 100000 in
theorem kX8_years (e : Nat) (p1 : Int32) (σ : St)  (q : Int32 × St) (hf : fX8_years p1 σ = some q) : Sp (e + 5) MX8_years [.ref 0, .int p1] σ (some (.int q.1)) q.2 := by
  refine sp_of rfl (Nat.le_of_ble_eq_true rfl) (loc := [(0, .ref 0), (1, .int p1)]) rfl ?_
  unfold fX8_years at hf
  refine a_iload_n dX8_years_0 rfl 1 rfl ?_
  refine a_iconst (1 : Int32) dX8_years_1 rfl ?_
  refine a_bipush (30 : Int32) dX8_years_2 rfl ?_
  refine a_callS (as := [.int p1, .int (1 : Int32), .int (30 : Int32)]) (stk := []) (q := some (.int (fX8_within p1 (1 : Int32) (30 : Int32)))) (σ1 := σ) (kX8_within (e + 4) p1 (1 : Int32) (30 : Int32) σ) sl_X8_91 rfl (Nat.le_of_ble_eq_true rfl) dX8_years_4 ?_
  by_cases hc1 : (fX8_within p1 (1 : Int32) (30 : Int32)) = 0
  · rw [if_pos hc1] at hf
    refine a_if_ne_f 13 dX8_years_7 (by decide) hc1 ?_
    refine a_bipush (-102 : Int32) dX8_years_10 rfl ?_
    have hq := Option.some.inj hf
    subst hq
    exact a_iret rfl dX8_years_12
  · rw [if_neg hc1] at hf
    refine a_if_ne_t 13 dX8_years_7 (by decide) hc1 ?_
    refine a_iconst (0 : Int32) dX8_years_13 rfl ?_
    refine a_istore_n dX8_years_14 rfl (by decide) (loc' := [(2, .int (0 : Int32)), (0, .ref 0), (1, .int p1)]) rfl ?_
    refine a_iconst (0 : Int32) dX8_years_15 rfl ?_
    refine a_istore_n dX8_years_16 rfl (by decide) (loc' := [(3, .int (0 : Int32)), (2, .int (0 : Int32)), (0, .ref 0), (1, .int p1)]) rfl ?_
    obtain ⟨q4, hr5, hf⟩ := obind hf
    have hA6 : A (e + 5) MX8_years 43 [(2, .int q4.1)] [] q4.2 (some (.int q.1)) q.2 := by
      refine a_iload_n dX8_years_43 rfl 0 rfl ?_
      have hq := Option.some.inj hf
      subst hq
      exact a_iret rfl dX8_years_44
    refine a_locs (loc' := [(0, .ref 0), (1, .int p1), (2, .int (0 : Int32)), (3, .int (0 : Int32))]) [2, 3, 1, 0] rfl ?_
    exact kX8_years_L17 e p1 q4 fu (0 : Int32) (0 : Int32) σ hr5 hA6
set_option maxHeartbeats 4000000 in
set_option maxRecDepth 100000 in
theorem kX3_copyFrom (e : Nat) (g : Nat) (g1 : Nat) (σ : St) (hg : OB K58 g 3 8) (hg1 : OB K58 g1 3 8) (q : St) (hf : fX3_copyFrom g g1 σ = some q) : Sp e MX3_copyFrom [.ref g, .ref g1] σ (none) q := by
  refine sp_of rfl (Nat.le_of_ble_eq_true rfl) (loc := [(0, .ref g), (1, .ref g1)]) rfl ?_
  unfold fX3_copyFrom at hf
  refine a_aload_n dX3_copyFrom_0 rfl 0 rfl ?_
  refine a_aload_n dX3_copyFrom_1 rfl 1 rfl ?_
  refine a_get (.int (σ.1 g1 0)) hg1 (by decide) fl_X3_9 (avG hg1 0 rfl) dX3_copyFrom_2 ?_
  refine a_putI hg (by decide) fp_X3_9 (Or.inl rfl) dX3_copyFrom_5 ?_
  obtain ⟨σ1, hσ1, hf⟩ := bnd_elim hf
  rw [← hσ1]
  refine a_aload_n dX3_copyFrom_8 rfl 0 rfl ?_
  refine a_aload_n dX3_copyFrom_9 rfl 1 rfl ?_
  refine a_get (.int (σ1.1 g1 1)) hg1 (by decide) fl_X3_15 (avG hg1 1 rfl) dX3_copyFrom_10 ?_
  refine a_putI hg (by decide) fp_X3_15 (Or.inl rfl) dX3_copyFrom_13 ?_
  obtain ⟨σ2, hσ2, hf⟩ := bnd_elim hf
  rw [← hσ2]
  refine a_aload_n dX3_copyFrom_16 rfl 0 rfl ?_
  refine a_aload_n dX3_copyFrom_17 rfl 1 rfl ?_
  refine a_get (.int (σ2.1 g1 2)) hg1 (by decide) fl_X3_18 (avG hg1 2 rfl) dX3_copyFrom_18 ?_
  refine a_putI hg (by decide) fp_X3_18 (Or.inl rfl) dX3_copyFrom_21 ?_
  obtain ⟨σ3, hσ3, hf⟩ := bnd_elim hf
  rw [← hσ3]
  refine a_aload_n dX3_copyFrom_24 rfl 0 rfl ?_
  refine a_aload_n dX3_copyFrom_25 rfl 1 rfl ?_
  refine a_get (.int (σ3.1 g1 3)) hg1 (by decide) fl_X3_21 (avG hg1 3 rfl) dX3_copyFrom_26 ?_
  refine a_putI hg (by decide) fp_X3_21 (Or.inl rfl) dX3_copyFrom_29 ?_
  obtain ⟨σ4, hσ4, hf⟩ := bnd_elim hf
  rw [← hσ4]
  refine a_aload_n dX3_copyFrom_32 rfl 0 rfl ?_
  refine a_aload_n dX3_copyFrom_33 rfl 1 rfl ?_
  refine a_get (.int (σ4.1 g1 4)) hg1 (by decide) fl_X3_24 (avG hg1 4 rfl) dX3_copyFrom_34 ?_
  refine a_putI hg (by decide) fp_X3_24 (Or.inl rfl) dX3_copyFrom_37 ?_
  obtain ⟨σ5, hσ5, hf⟩ := bnd_elim hf
  rw [← hσ5]
  refine a_aload_n dX3_copyFrom_40 rfl 0 rfl ?_
  refine a_aload_n dX3_copyFrom_41 rfl 1 rfl ?_
  refine a_get (.int (σ5.1 g1 5)) hg1 (by decide) fl_X3_27 (avG hg1 5 rfl) dX3_copyFrom_42 ?_
  refine a_putI hg (by decide) fp_X3_27 (Or.inl rfl) dX3_copyFrom_45 ?_
  obtain ⟨σ6, hσ6, hf⟩ := bnd_elim hf
  rw [← hσ6]
  refine a_aload_n dX3_copyFrom_48 rfl 0 rfl ?_
  refine a_aload_n dX3_copyFrom_49 rfl 1 rfl ?_
  refine a_get (.int (σ6.1 g1 6)) hg1 (by decide) fl_X3_30 (avG hg1 6 rfl) dX3_copyFrom_50 ?_
  refine a_putI hg (by decide) fp_X3_30 (Or.inl rfl) dX3_copyFrom_53 ?_
  obtain ⟨σ7, hσ7, hf⟩ := bnd_elim hf
  rw [← hσ7]
  refine a_aload_n dX3_copyFrom_56 rfl 0 rfl ?_
  refine a_aload_n dX3_copyFrom_57 rfl 1 rfl ?_
  refine a_get (.int (σ7.1 g1 7)) hg1 (by decide) fl_X3_33 (avG hg1 7 rfl) dX3_copyFrom_58 ?_
  refine a_putI hg (by decide) fp_X3_33 (Or.inl rfl) dX3_copyFrom_61 ?_
  obtain ⟨σ8, hσ8, hf⟩ := bnd_elim hf
  rw [← hσ8]
  have hq := Option.some.inj hf
  subst hq
  exact a_vret rfl dX3_copyFrom_64
set_option maxHeartbeats 4000000 in
set_option maxRecDepth 100000 in
theorem kX7_copyFrom_L93 (e : Nat) (w0 : Nat) (w1 : Nat)  (hw0 : isW w0) (hw1 : isW w1) {r : Option Value} {τ : St} (q : (St)) : ∀ (n : Nat) (v2 : Int32) (σ : St), fX7_copyFrom_L93 w0 w1 n v2 σ = some q → A (e + 1) MX7_copyFrom 120 [(0, .ref w0), (1, .ref w1)] [] q r τ → A (e + 1) MX7_copyFrom 93 [(0, .ref w0), (1, .ref w1), (2, .int v2)] [] σ r τ := by
  intro n
  induction n with
  | zero =>
    intro v2 σ  hf
    simp only [fX7_copyFrom_L93] at hf
    exact absurd hf (by simp)
  | succ n ih =>
    intro v2 σ  hf h2
    rw [fX7_copyFrom_L93] at hf
    refine a_iload_n dX7_copyFrom_93 rfl 2 rfl ?_
    refine a_bipush (8 : Int32) dX7_copyFrom_94 rfl ?_
    by_cases hc8 : (8 : Int32) ≤ v2
    · rw [if_pos hc8] at hf
      refine a_icmp_ge_t 120 dX7_copyFrom_96 (by decide) hc8 ?_
      have hq := Option.some.inj hf
      rw [← hq] at h2
      refine a_locs (loc' := [(0, .ref w0), (1, .ref w1)]) [0, 1] rfl ?_
      exact h2
    · rw [if_neg hc8] at hf
      refine a_icmp_ge_f 120 dX7_copyFrom_96 (by decide) hc8 ?_
      refine a_aload_n dX7_copyFrom_99 rfl 0 rfl ?_
      refine a_get (.ref (w0 + 6)) (obW hw0) (by decide) fl_X7_29 (avW7 hw0) dX7_copyFrom_100 ?_
      refine a_iload_n dX7_copyFrom_103 rfl 2 rfl ?_
      obtain ⟨hb9, hf⟩ := grd_elim hf
      refine a_aald (w0 + 7 + v2.toNatClampNeg) (gaW hw0) hb9 (rfG hw0 hb9) dX7_copyFrom_104 ?_
      refine a_aload_n dX7_copyFrom_105 rfl 1 rfl ?_
      refine a_get (.ref (w1 + 6)) (obW hw1) (by decide) fl_X7_29 (avW7 hw1) dX7_copyFrom_106 ?_
      refine a_iload_n dX7_copyFrom_109 rfl 2 rfl ?_
      obtain ⟨hb10, hf⟩ := grd_elim hf
      refine a_aald (w1 + 7 + v2.toNatClampNeg) (gaW hw1) hb10 (rfG hw1 hb10) dX7_copyFrom_110 ?_
      obtain ⟨q11, hq11, hf⟩ := obind hf
      refine a_callV (as := [.ref (w1 + 7 + v2.toNatClampNeg)]) (stk := []) (q := none) (σ1 := q11) (kX3_copyFrom e (w0 + 7 + v2.toNatClampNeg) (w1 + 7 + v2.toNatClampNeg) σ (obG hw0 hb9) (obG hw1 hb10) _ hq11) (obG hw0 hb9) vl_X7_47 rfl (Nat.le_of_ble_eq_true rfl) dX7_copyFrom_111 ?_
      refine a_iinc (v2 + (1 : Int32)) dX7_copyFrom_114 2 rfl rfl (by decide) (loc' := [(2, .int (v2 + (1 : Int32))), (0, .ref w0), (1, .ref w1)]) rfl ?_
      refine a_goto 93 dX7_copyFrom_117 (by decide) ?_
      refine a_locs (loc' := [(0, .ref w0), (1, .ref w1), (2, .int (v2 + (1 : Int32)))]) [1, 2, 0] rfl ?_
      exact ih (v2 + (1 : Int32)) q11 hf h2
set_option maxHeartbeats 4000000 in
set_option maxRecDepth 100000 in
theorem kX7_copyFrom (e : Nat) (w : Nat) (w1 : Nat) (σ : St) (hw : isW w) (hw1 : isW w1) (q : St) (hf : fX7_copyFrom w w1 σ = some q) : Sp (e + 1) MX7_copyFrom [.ref w, .ref w1] σ (none) q := by
  refine sp_of rfl (Nat.le_of_ble_eq_true rfl) (loc := [(0, .ref w), (1, .ref w1)]) rfl ?_
  unfold fX7_copyFrom at hf
  refine a_aload_n dX7_copyFrom_0 rfl 0 rfl ?_
  refine a_aload_n dX7_copyFrom_1 rfl 1 rfl ?_
  refine a_get (.int (σ.1 w1 0)) (obW hw1) (by decide) fl_X7_34 (avW0 hw1) dX7_copyFrom_2 ?_
  refine a_putI (obW hw) (by decide) fp_X7_34 (Or.inl rfl) dX7_copyFrom_5 ?_
  obtain ⟨σ1, hσ1, hf⟩ := bnd_elim hf
  rw [← hσ1]
  refine a_aload_n dX7_copyFrom_8 rfl 1 rfl ?_
  refine a_get (.ref (w1 + 1)) (obW hw1) (by decide) fl_X7_9 (avW1 hw1) dX7_copyFrom_9 ?_
  refine a_iconst (0 : Int32) dX7_copyFrom_12 rfl ?_
  refine a_aload_n dX7_copyFrom_13 rfl 0 rfl ?_
  refine a_get (.ref (w + 1)) (obW hw) (by decide) fl_X7_9 (avW1 hw) dX7_copyFrom_14 ?_
  refine a_iconst (0 : Int32) dX7_copyFrom_17 rfl ?_
  refine a_bipush (8 : Int32) dX7_copyFrom_18 rfl ?_
  refine a_cpyI (iaW1 hw1) (iaW1 hw) cp_X7_38 (by decide) (by decide) (by decide) (Nat.le_of_ble_eq_true rfl) dX7_copyFrom_20 ?_
  obtain ⟨σ2, hσ2, hf⟩ := bnd_elim hf
  rw [← hσ2]
  refine a_aload_n dX7_copyFrom_23 rfl 1 rfl ?_
  refine a_get (.ref (w1 + 2)) (obW hw1) (by decide) fl_X7_15 (avW2 hw1) dX7_copyFrom_24 ?_
  refine a_iconst (0 : Int32) dX7_copyFrom_27 rfl ?_
  refine a_aload_n dX7_copyFrom_28 rfl 0 rfl ?_
  refine a_get (.ref (w + 2)) (obW hw) (by decide) fl_X7_15 (avW2 hw) dX7_copyFrom_29 ?_
  refine a_iconst (0 : Int32) dX7_copyFrom_32 rfl ?_
  refine a_bipush (8 : Int32) dX7_copyFrom_33 rfl ?_
  refine a_cpyI (iaW2 hw1) (iaW2 hw) cp_X7_38 (by decide) (by decide) (by decide) (Nat.le_of_ble_eq_true rfl) dX7_copyFrom_35 ?_
  obtain ⟨σ3, hσ3, hf⟩ := bnd_elim hf
  rw [← hσ3]
  refine a_aload_n dX7_copyFrom_38 rfl 1 rfl ?_
  refine a_get (.ref (w1 + 3)) (obW hw1) (by decide) fl_X7_18 (avW3 hw1) dX7_copyFrom_39 ?_
  refine a_iconst (0 : Int32) dX7_copyFrom_42 rfl ?_
  refine a_aload_n dX7_copyFrom_43 rfl 0 rfl ?_
  refine a_get (.ref (w + 3)) (obW hw) (by decide) fl_X7_18 (avW3 hw) dX7_copyFrom_44 ?_
  refine a_iconst (0 : Int32) dX7_copyFrom_47 rfl ?_
  refine a_bipush (8 : Int32) dX7_copyFrom_48 rfl ?_
  refine a_cpyI (iaW3 hw1) (iaW3 hw) cp_X7_38 (by decide) (by decide) (by decide) (Nat.le_of_ble_eq_true rfl) dX7_copyFrom_50 ?_
  obtain ⟨σ4, hσ4, hf⟩ := bnd_elim hf
  rw [← hσ4]
  refine a_aload_n dX7_copyFrom_53 rfl 1 rfl ?_
  refine a_get (.ref (w1 + 4)) (obW hw1) (by decide) fl_X7_21 (avW4 hw1) dX7_copyFrom_54 ?_
  refine a_iconst (0 : Int32) dX7_copyFrom_57 rfl ?_
  refine a_aload_n dX7_copyFrom_58 rfl 0 rfl ?_
  refine a_get (.ref (w + 4)) (obW hw) (by decide) fl_X7_21 (avW4 hw) dX7_copyFrom_59 ?_
  refine a_iconst (0 : Int32) dX7_copyFrom_62 rfl ?_
  refine a_bipush (64 : Int32) dX7_copyFrom_63 rfl ?_
  refine a_cpyI (iaW4 hw1) (iaW4 hw) cp_X7_38 (by decide) (by decide) (by decide) (Nat.le_of_ble_eq_true rfl) dX7_copyFrom_65 ?_
  obtain ⟨σ5, hσ5, hf⟩ := bnd_elim hf
  rw [← hσ5]
  refine a_aload_n dX7_copyFrom_68 rfl 1 rfl ?_
  refine a_get (.ref (w1 + 5)) (obW hw1) (by decide) fl_X7_24 (avW5 hw1) dX7_copyFrom_69 ?_
  refine a_iconst (0 : Int32) dX7_copyFrom_72 rfl ?_
  refine a_aload_n dX7_copyFrom_73 rfl 0 rfl ?_
  refine a_get (.ref (w + 5)) (obW hw) (by decide) fl_X7_24 (avW5 hw) dX7_copyFrom_74 ?_
  refine a_iconst (0 : Int32) dX7_copyFrom_77 rfl ?_
  refine a_bipush (64 : Int32) dX7_copyFrom_78 rfl ?_
  refine a_cpyI (iaW5 hw1) (iaW5 hw) cp_X7_38 (by decide) (by decide) (by decide) (Nat.le_of_ble_eq_true rfl) dX7_copyFrom_80 ?_
  obtain ⟨σ6, hσ6, hf⟩ := bnd_elim hf
  rw [← hσ6]
  refine a_aload_n dX7_copyFrom_83 rfl 0 rfl ?_
  refine a_aload_n dX7_copyFrom_84 rfl 1 rfl ?_
  refine a_get (.int (σ6.1 w1 6)) (obW hw1) (by decide) fl_X7_44 (avW6 hw1) dX7_copyFrom_85 ?_
  refine a_putI (obW hw) (by decide) fp_X7_44 (Or.inl rfl) dX7_copyFrom_88 ?_
  obtain ⟨σ7, hσ7, hf⟩ := bnd_elim hf
  rw [← hσ7]
  refine a_iconst (0 : Int32) dX7_copyFrom_91 rfl ?_
  refine a_istore_n dX7_copyFrom_92 rfl (by decide) (loc' := [(2, .int (0 : Int32)), (0, .ref w), (1, .ref w1)]) rfl ?_
  obtain ⟨q12, hr14, hf⟩ := obind hf
  have hA15 : A (e + 1) MX7_copyFrom 120 [(0, .ref w), (1, .ref w1)] [] q12 none q := by
    refine a_aload_n dX7_copyFrom_120 rfl 0 rfl ?_
    refine a_aload_n dX7_copyFrom_121 rfl 1 rfl ?_
    refine a_get (.int (q12.1 w1 8)) (obW hw1) (by decide) fl_X7_51 (avW8 hw1) dX7_copyFrom_122 ?_
    refine a_putI (obW hw) (by decide) fp_X7_51 (Or.inl rfl) dX7_copyFrom_125 ?_
    obtain ⟨σ13, hσ13, hf⟩ := bnd_elim hf
    rw [← hσ13]
    have hq := Option.some.inj hf
    subst hq
    exact a_vret rfl dX7_copyFrom_128
  refine a_locs (loc' := [(0, .ref w), (1, .ref w1), (2, .int (0 : Int32))]) [1, 2, 0] rfl ?_
  exact kX7_copyFrom_L93 e w w1 hw hw1 q12 fu (0 : Int32) σ7 hr14 hA15
set_option maxHeartbeats 4000000 in
set_option maxRecDepth 100000 in
theorem kX7_living_L4 (e : Nat) (w0 : Nat) (σ : St) (hw0 : isW w0) {r : Option Value} {τ : St} (q : (Int32)) : ∀ (n : Nat) (v1 : Int32) (v2 : Int32), fX7_living_L4 w0 σ n v1 v2 = some q → A (e + 1) MX7_living 33 [(1, .int q)] [] σ r τ → A (e + 1) MX7_living 4 [(0, .ref w0), (1, .int v1), (2, .int v2)] [] σ r τ := by
  intro n
  induction n with
  | zero =>
    intro v1 v2  hf
    simp only [fX7_living_L4] at hf
    exact absurd hf (by simp)
  | succ n ih =>
    intro v1 v2  hf h2
    rw [fX7_living_L4] at hf
    refine a_iload_n dX7_living_4 rfl 2 rfl ?_
    refine a_aload_n dX7_living_5 rfl 0 rfl ?_
    refine a_get (.int (σ.1 w0 6)) (obW hw0) (by decide) fl_X7_44 (avW6 hw0) dX7_living_6 ?_
    by_cases hc1 : (σ.1 w0 6) ≤ v2
    · rw [if_pos hc1] at hf
      refine a_icmp_ge_t 33 dX7_living_9 (by decide) hc1 ?_
      have hq := Option.some.inj hf
      rw [← hq] at h2
      refine a_locs (loc' := [(1, .int v1)]) [1] rfl ?_
      exact h2
    · rw [if_neg hc1] at hf
      refine a_icmp_ge_f 33 dX7_living_9 (by decide) hc1 ?_
      refine a_aload_n dX7_living_12 rfl 0 rfl ?_
      refine a_get (.ref (w0 + 6)) (obW hw0) (by decide) fl_X7_29 (avW7 hw0) dX7_living_13 ?_
      refine a_iload_n dX7_living_16 rfl 2 rfl ?_
      obtain ⟨hb2, hf⟩ := grd_elim hf
      refine a_aald (w0 + 7 + v2.toNatClampNeg) (gaW hw0) hb2 (rfG hw0 hb2) dX7_living_17 ?_
      refine a_callV (as := []) (stk := []) (q := some (.int (fX3_lives (w0 + 7 + v2.toNatClampNeg) σ))) (σ1 := σ) (kX3_lives e (w0 + 7 + v2.toNatClampNeg) σ (obG hw0 hb2)) (obG hw0 hb2) vl_X7_62 rfl (Nat.le_of_ble_eq_true rfl) dX7_living_18 ?_
      by_cases hc3 : (fX3_lives (w0 + 7 + v2.toNatClampNeg) σ) = 0
      · rw [if_pos hc3] at hf
        refine a_if_eq_t 27 dX7_living_21 (by decide) hc3 ?_
        refine a_iinc (v2 + (1 : Int32)) dX7_living_27 2 rfl rfl (by decide) (loc' := [(2, .int (v2 + (1 : Int32))), (0, .ref w0), (1, .int v1)]) rfl ?_
        refine a_goto 4 dX7_living_30 (by decide) ?_
        refine a_locs (loc' := [(0, .ref w0), (1, .int v1), (2, .int (v2 + (1 : Int32)))]) [1, 2, 0] rfl ?_
        exact ih v1 (v2 + (1 : Int32)) hf h2
      · rw [if_neg hc3] at hf
        refine a_if_eq_f 27 dX7_living_21 (by decide) hc3 ?_
        refine a_iinc (v1 + (1 : Int32)) dX7_living_24 1 rfl rfl (by decide) (loc' := [(1, .int (v1 + (1 : Int32))), (0, .ref w0), (2, .int v2)]) rfl ?_
        refine a_iinc (v2 + (1 : Int32)) dX7_living_27 2 rfl rfl (by decide) (loc' := [(2, .int (v2 + (1 : Int32))), (1, .int (v1 + (1 : Int32))), (0, .ref w0)]) rfl ?_
        refine a_goto 4 dX7_living_30 (by decide) ?_
        refine a_locs (loc' := [(0, .ref w0), (1, .int (v1 + (1 : Int32))), (2, .int (v2 + (1 : Int32)))]) [2, 1, 0] rfl ?_
        exact ih (v1 + (1 : Int32)) (v2 + (1 : Int32)) hf h2
set_option maxHeartbeats 4000000 in
set_option maxRecDepth 100000 in
theorem kX7_living (e : Nat) (w : Nat) (σ : St) (hw : isW w) (q : Int32) (hf : fX7_living w σ = some q) : Sp (e + 1) MX7_living [.ref w] σ (some (.int q)) σ := by
  refine sp_of rfl (Nat.le_of_ble_eq_true rfl) (loc := [(0, .ref w)]) rfl ?_
  unfold fX7_living at hf
  refine a_iconst (0 : Int32) dX7_living_0 rfl ?_
  refine a_istore_n dX7_living_1 rfl (by decide) (loc' := [(1, .int (0 : Int32)), (0, .ref w)]) rfl ?_
  refine a_iconst (0 : Int32) dX7_living_2 rfl ?_
  refine a_istore_n dX7_living_3 rfl (by decide) (loc' := [(2, .int (0 : Int32)), (1, .int (0 : Int32)), (0, .ref w)]) rfl ?_
  obtain ⟨q4, hr5, hf⟩ := obind hf
  have hA6 : A (e + 1) MX7_living 33 [(1, .int q4)] [] σ (some (.int q)) σ := by
    refine a_iload_n dX7_living_33 rfl 0 rfl ?_
    have hq := Option.some.inj hf
    subst hq
    exact a_iret rfl dX7_living_34
  refine a_locs (loc' := [(0, .ref w), (1, .int (0 : Int32)), (2, .int (0 : Int32))]) [2, 1, 0] rfl ?_
  exact kX7_living_L4 e w σ hw q4 fu (0 : Int32) (0 : Int32) hr5 hA6
set_option maxHeartbeats 4000000 in
set_option maxRecDepth 100000 in
theorem kX7_allFeasts_L4 (e : Nat) (w0 : Nat) (σ : St) (hw0 : isW w0) {r : Option Value} {τ : St} (q : (Int32)) : ∀ (n : Nat) (v1 : Int32) (v2 : Int32), fX7_allFeasts_L4 w0 σ n v1 v2 = some q → A e MX7_allFeasts 27 [(1, .int q)] [] σ r τ → A e MX7_allFeasts 4 [(0, .ref w0), (1, .int v1), (2, .int v2)] [] σ r τ := by
  intro n
  induction n with
  | zero =>
    intro v1 v2  hf
    simp only [fX7_allFeasts_L4] at hf
    exact absurd hf (by simp)
  | succ n ih =>
    intro v1 v2  hf h2
    rw [fX7_allFeasts_L4] at hf
    refine a_iload_n dX7_allFeasts_4 rfl 2 rfl ?_
    refine a_aload_n dX7_allFeasts_5 rfl 0 rfl ?_
    refine a_get (.int (σ.1 w0 0)) (obW hw0) (by decide) fl_X7_34 (avW0 hw0) dX7_allFeasts_6 ?_
    by_cases hc1 : (σ.1 w0 0) ≤ v2
    · rw [if_pos hc1] at hf
      refine a_icmp_ge_t 27 dX7_allFeasts_9 (by decide) hc1 ?_
      have hq := Option.some.inj hf
      rw [← hq] at h2
      refine a_locs (loc' := [(1, .int v1)]) [1] rfl ?_
      exact h2
    · rw [if_neg hc1] at hf
      refine a_icmp_ge_f 27 dX7_allFeasts_9 (by decide) hc1 ?_
      refine a_iload_n dX7_allFeasts_12 rfl 1 rfl ?_
      refine a_aload_n dX7_allFeasts_13 rfl 0 rfl ?_
      refine a_get (.ref (w0 + 3)) (obW hw0) (by decide) fl_X7_18 (avW3 hw0) dX7_allFeasts_14 ?_
      refine a_iload_n dX7_allFeasts_17 rfl 2 rfl ?_
      obtain ⟨hb2, hf⟩ := grd_elim hf
      refine a_iald (iaW3 hw0) hb2 dX7_allFeasts_18 ?_
      refine a_iadd dX7_allFeasts_19 ?_
      obtain ⟨x3, hx3, hf⟩ := bnd_elim hf
      refine a_top (w := .int x3) (by rw [hx3]) ?_
      refine a_istore_n dX7_allFeasts_20 rfl (by decide) (loc' := [(1, .int x3), (0, .ref w0), (2, .int v2)]) rfl ?_
      refine a_iinc (v2 + (1 : Int32)) dX7_allFeasts_21 2 rfl rfl (by decide) (loc' := [(2, .int (v2 + (1 : Int32))), (1, .int x3), (0, .ref w0)]) rfl ?_
      refine a_goto 4 dX7_allFeasts_24 (by decide) ?_
      refine a_locs (loc' := [(0, .ref w0), (1, .int x3), (2, .int (v2 + (1 : Int32)))]) [2, 1, 0] rfl ?_
      exact ih x3 (v2 + (1 : Int32)) hf h2
set_option maxHeartbeats 4000000 in
set_option maxRecDepth 100000 in
theorem kX7_allFeasts (e : Nat) (w : Nat) (σ : St) (hw : isW w) (q : Int32) (hf : fX7_allFeasts w σ = some q) : Sp e MX7_allFeasts [.ref w] σ (some (.int q)) σ := by
  refine sp_of rfl (Nat.le_of_ble_eq_true rfl) (loc := [(0, .ref w)]) rfl ?_
  unfold fX7_allFeasts at hf
  refine a_iconst (0 : Int32) dX7_allFeasts_0 rfl ?_
  refine a_istore_n dX7_allFeasts_1 rfl (by decide) (loc' := [(1, .int (0 : Int32)), (0, .ref w)]) rfl ?_
  refine a_iconst (0 : Int32) dX7_allFeasts_2 rfl ?_
  refine a_istore_n dX7_allFeasts_3 rfl (by decide) (loc' := [(2, .int (0 : Int32)), (1, .int (0 : Int32)), (0, .ref w)]) rfl ?_
  obtain ⟨q4, hr5, hf⟩ := obind hf
  have hA6 : A e MX7_allFeasts 27 [(1, .int q4)] [] σ (some (.int q)) σ := by
    refine a_iload_n dX7_allFeasts_27 rfl 0 rfl ?_
    have hq := Option.some.inj hf
    subst hq
    exact a_iret rfl dX7_allFeasts_28
  refine a_locs (loc' := [(0, .ref w), (1, .int (0 : Int32)), (2, .int (0 : Int32))]) [2, 1, 0] rfl ?_
  exact kX7_allFeasts_L4 e w σ hw q4 fu (0 : Int32) (0 : Int32) hr5 hA6
set_option maxHeartbeats 4000000 in
set_option maxRecDepth 100000 in
theorem kX8_drawn_L55 (e : Nat) (c1 : Int32) (c3 : Int32)   {r : Option Value} {τ : St} (q : (Int32 × St)) : ∀ (n : Nat) (v4 : Int32) (v5 : Int32) (σ : St), fX8_drawn_L55 c1 c3 n v4 v5 σ = some q → A (e + 5) MX8_drawn 87 [(0, .ref 0), (3, .int c3), (4, .int q.1)] [] q.2 r τ → A (e + 5) MX8_drawn 55 [(0, .ref 0), (1, .int c1), (3, .int c3), (4, .int v4), (5, .int v5)] [] σ r τ := by
  intro n
  induction n with
  | zero =>
    intro v4 v5 σ  hf
    simp only [fX8_drawn_L55] at hf
    exact absurd hf (by simp)
  | succ n ih =>
    intro v4 v5 σ  hf h2
    rw [fX8_drawn_L55] at hf
    refine a_iload dX8_drawn_55 4 rfl ?_
    refine a_iload_n dX8_drawn_57 rfl 1 rfl ?_
    by_cases hc6 : c1 ≤ v5
    · rw [if_pos hc6] at hf
      refine a_icmp_ge_t 87 dX8_drawn_58 (by decide) hc6 ?_
      have hq := Option.some.inj hf
      rw [← hq] at h2
      refine a_locs (loc' := [(0, .ref 0), (3, .int c3), (4, .int v4)]) [0, 2, 3] rfl ?_
      exact h2
    · rw [if_neg hc6] at hf
      refine a_icmp_ge_f 87 dX8_drawn_58 (by decide) hc6 ?_
      refine a_iload dX8_drawn_61 3 rfl ?_
      refine a_aload_n dX8_drawn_63 rfl 0 rfl ?_
      refine a_get (.ref 34) ob_0 (by decide) fl_X8_33 rfl dX8_drawn_64 ?_
      refine a_aload_n dX8_drawn_67 rfl 0 rfl ?_
      refine a_get (.ref 3) ob_0 (by decide) fl_X8_19 rfl dX8_drawn_68 ?_
      refine a_aload_n dX8_drawn_71 rfl 0 rfl ?_
      refine a_get (.ref 49) ob_0 (by decide) fl_X8_39 rfl dX8_drawn_72 ?_
      obtain ⟨q7, hq7, hf⟩ := obind hf
      refine a_callV (as := [.ref 3, .ref 49]) (stk := [.int v4]) (q := some (.int q7.1)) (σ1 := q7.2) (kX7_passYear e 34 σ isW_34 _ hq7) (obW isW_34) vl_X8_215 rfl (Nat.le_of_ble_eq_true rfl) dX8_drawn_75 ?_
      refine a_iadd dX8_drawn_78 ?_
      refine a_istore dX8_drawn_79 (by decide) (loc' := [(4, .int (v4 + q7.1)), (0, .ref 0), (1, .int c1), (3, .int c3), (5, .int v5)]) rfl ?_
      refine a_iinc (v5 + (1 : Int32)) dX8_drawn_81 4 rfl rfl (by decide) (loc' := [(5, .int (v5 + (1 : Int32))), (4, .int (v4 + q7.1)), (0, .ref 0), (1, .int c1), (3, .int c3)]) rfl ?_
      refine a_goto 55 dX8_drawn_84 (by decide) ?_
      refine a_locs (loc' := [(0, .ref 0), (1, .int c1), (3, .int c3), (4, .int (v4 + q7.1)), (5, .int (v5 + (1 : Int32)))]) [2, 3, 4, 1, 0] rfl ?_
      exact ih (v4 + q7.1) (v5 + (1 : Int32)) q7.2 hf h2
set_option maxHeartbeats 4000000 in
set_option maxRecDepth 100000 in
theorem kX8_drawn (e : Nat) (p1 : Int32) (p2 : Int32) (p3 : Int32) (σ : St)  (q : Int32 × St) (hf : fX8_drawn p1 p2 p3 σ = some q) : Sp (e + 5) MX8_drawn [.ref 0, .int p1, .int p2, .int p3] σ (some (.int q.1)) q.2 := by
  refine sp_of rfl (Nat.le_of_ble_eq_true rfl) (loc := [(0, .ref 0), (1, .int p1), (2, .int p2), (3, .int p3)]) rfl ?_
  unfold fX8_drawn at hf
  refine a_iload_n dX8_drawn_0 rfl 1 rfl ?_
  refine a_iconst (1 : Int32) dX8_drawn_1 rfl ?_
  refine a_bipush (30 : Int32) dX8_drawn_2 rfl ?_
  refine a_callS (as := [.int p1, .int (1 : Int32), .int (30 : Int32)]) (stk := []) (q := some (.int (fX8_within p1 (1 : Int32) (30 : Int32)))) (σ1 := σ) (kX8_within (e + 4) p1 (1 : Int32) (30 : Int32) σ) sl_X8_91 rfl (Nat.le_of_ble_eq_true rfl) dX8_drawn_4 ?_
  by_cases hc1 : (fX8_within p1 (1 : Int32) (30 : Int32)) = 0
  · rw [if_pos hc1] at hf
    refine a_if_ne_f 13 dX8_drawn_7 (by decide) hc1 ?_
    refine a_bipush (-102 : Int32) dX8_drawn_10 rfl ?_
    have hq := Option.some.inj hf
    subst hq
    exact a_iret rfl dX8_drawn_12
  · rw [if_neg hc1] at hf
    refine a_if_ne_t 13 dX8_drawn_7 (by decide) hc1 ?_
    refine a_iload_n dX8_drawn_13 rfl 2 rfl ?_
    by_cases hc2 : p2 < 0
    · rw [if_pos hc2] at hf
      refine a_if_lt_t 26 dX8_drawn_14 (by decide) hc2 ?_
      refine a_bipush (-102 : Int32) dX8_drawn_26 rfl ?_
      have hq := Option.some.inj hf
      subst hq
      exact a_iret rfl dX8_drawn_28
    · rw [if_neg hc2] at hf
      refine a_if_lt_f 26 dX8_drawn_14 (by decide) hc2 ?_
      refine a_iload_n dX8_drawn_17 rfl 3 rfl ?_
      refine a_iconst (0 : Int32) dX8_drawn_18 rfl ?_
      refine a_iconst (3 : Int32) dX8_drawn_19 rfl ?_
      refine a_callS (as := [.int p3, .int (0 : Int32), .int (3 : Int32)]) (stk := []) (q := some (.int (fX8_within p3 (0 : Int32) (3 : Int32)))) (σ1 := σ) (kX8_within (e + 4) p3 (0 : Int32) (3 : Int32) σ) sl_X8_91 rfl (Nat.le_of_ble_eq_true rfl) dX8_drawn_20 ?_
      by_cases hc3 : (fX8_within p3 (0 : Int32) (3 : Int32)) = 0
      · rw [if_pos hc3] at hf
        refine a_if_ne_f 29 dX8_drawn_23 (by decide) hc3 ?_
        refine a_bipush (-102 : Int32) dX8_drawn_26 rfl ?_
        have hq := Option.some.inj hf
        subst hq
        exact a_iret rfl dX8_drawn_28
      · rw [if_neg hc3] at hf
        refine a_if_ne_t 29 dX8_drawn_23 (by decide) hc3 ?_
        refine a_aload_n dX8_drawn_29 rfl 0 rfl ?_
        refine a_get (.ref 34) ob_0 (by decide) fl_X8_33 rfl dX8_drawn_30 ?_
        refine a_aload_n dX8_drawn_33 rfl 0 rfl ?_
        refine a_get (.ref 4) ob_0 (by decide) fl_X8_26 rfl dX8_drawn_34 ?_
        obtain ⟨q4, hq4, hf⟩ := obind hf
        refine a_callV (as := [.ref 4]) (stk := []) (q := none) (σ1 := q4) (kX7_copyFrom (e + 3) 34 4 σ isW_34 isW_4 _ hq4) (obW isW_34) vl_X8_265 rfl (Nat.le_of_ble_eq_true rfl) dX8_drawn_37 ?_
        refine a_aload_n dX8_drawn_40 rfl 0 rfl ?_
        refine a_get (.ref 49) ob_0 (by decide) fl_X8_39 rfl dX8_drawn_41 ?_
        refine a_iload_n dX8_drawn_44 rfl 2 rfl ?_
        refine a_i2l dX8_drawn_45 ?_
        refine a_putL ob_49 (by decide) fp_X8_268 rfl dX8_drawn_46 ?_
        obtain ⟨σ5, hσ5, hf⟩ := bnd_elim hf
        rw [← hσ5]
        refine a_iconst (0 : Int32) dX8_drawn_49 rfl ?_
        refine a_istore dX8_drawn_50 (by decide) (loc' := [(4, .int (0 : Int32)), (0, .ref 0), (1, .int p1), (2, .int p2), (3, .int p3)]) rfl ?_
        refine a_iconst (0 : Int32) dX8_drawn_52 rfl ?_
        refine a_istore dX8_drawn_53 (by decide) (loc' := [(5, .int (0 : Int32)), (4, .int (0 : Int32)), (0, .ref 0), (1, .int p1), (2, .int p2), (3, .int p3)]) rfl ?_
        obtain ⟨q8, hr15, hf⟩ := obind hf
        have hA16 : A (e + 5) MX8_drawn 87 [(0, .ref 0), (3, .int p3), (4, .int q8.1)] [] q8.2 (some (.int q.1)) q.2 := by
          refine a_iload_n dX8_drawn_87 rfl 1 rfl ?_
          by_cases hc9 : p3 = (0 : Int32)
          · rw [if_pos hc9] at hf
            refine a_tabIn (0 : Int32) 116 dX8_drawn_88 hc9 (by decide) (by decide) rfl (by decide) ?_
            refine a_iload dX8_drawn_116 2 rfl ?_
            have hq := Option.some.inj hf
            subst hq
            exact a_iret rfl dX8_drawn_118
          · rw [if_neg hc9] at hf
            by_cases hc10 : p3 = (1 : Int32)
            · rw [if_pos hc10] at hf
              refine a_tabIn (1 : Int32) 119 dX8_drawn_88 hc10 (by decide) (by decide) rfl (by decide) ?_
              refine a_aload_n dX8_drawn_119 rfl 0 rfl ?_
              refine a_get (.ref 34) ob_0 (by decide) fl_X8_33 rfl dX8_drawn_120 ?_
              obtain ⟨q11, hq11, hf⟩ := obind hf
              refine a_callV (as := []) (stk := []) (q := some (.int q11)) (σ1 := q8.2) (kX7_living (e + 3) 34 q8.2 isW_34 _ hq11) (obW isW_34) vl_X8_272 rfl (Nat.le_of_ble_eq_true rfl) dX8_drawn_123 ?_
              have hq := Option.some.inj hf
              subst hq
              exact a_iret rfl dX8_drawn_126
            · rw [if_neg hc10] at hf
              by_cases hc12 : p3 = (2 : Int32)
              · rw [if_pos hc12] at hf
                refine a_tabIn (2 : Int32) 127 dX8_drawn_88 hc12 (by decide) (by decide) rfl (by decide) ?_
                refine a_aload_n dX8_drawn_127 rfl 0 rfl ?_
                refine a_get (.ref 34) ob_0 (by decide) fl_X8_33 rfl dX8_drawn_128 ?_
                obtain ⟨q13, hq13, hf⟩ := obind hf
                refine a_callV (as := []) (stk := []) (q := some (.int q13)) (σ1 := q8.2) (kX7_allFeasts (e + 4) 34 q8.2 isW_34 _ hq13) (obW isW_34) vl_X8_275 rfl (Nat.le_of_ble_eq_true rfl) dX8_drawn_131 ?_
                refine a_aload_n dX8_drawn_134 rfl 0 rfl ?_
                refine a_get (.ref 4) ob_0 (by decide) fl_X8_26 rfl dX8_drawn_135 ?_
                obtain ⟨q14, hq14, hf⟩ := obind hf
                refine a_callV (as := []) (stk := [.int q13]) (q := some (.int q14)) (σ1 := q8.2) (kX7_allFeasts (e + 4) 4 q8.2 isW_4 _ hq14) (obW isW_4) vl_X8_275 rfl (Nat.le_of_ble_eq_true rfl) dX8_drawn_138 ?_
                refine a_isub dX8_drawn_141 ?_
                have hq := Option.some.inj hf
                subst hq
                exact a_iret rfl dX8_drawn_142
              · rw [if_neg hc12] at hf
                refine a_tabOut 143 dX8_drawn_88 (by have q0 := lv_neT hc9 (show Int32.toInt (0 : Int32) = 0 from rfl); have q1 := lv_neT hc10 (show Int32.toInt (1 : Int32) = 1 from rfl); have q2 := lv_neT hc12 (show Int32.toInt (2 : Int32) = 2 from rfl); omega) (by decide) ?_
                refine a_aload_n dX8_drawn_143 rfl 0 rfl ?_
                refine a_get (.ref 49) ob_0 (by decide) fl_X8_39 rfl dX8_drawn_144 ?_
                refine a_get (.long (q8.2.2 49 0)) ob_49 (by decide) fl_X8_268 rfl dX8_drawn_147 ?_
                refine a_l2i dX8_drawn_150 ?_
                have hq := Option.some.inj hf
                subst hq
                exact a_iret rfl dX8_drawn_151
        refine a_locs (loc' := [(0, .ref 0), (1, .int p1), (3, .int p3), (4, .int (0 : Int32)), (5, .int (0 : Int32))]) [2, 3, 5, 1, 0] rfl ?_
        exact kX8_drawn_L55 e p1 p3 q8 fu (0 : Int32) (0 : Int32) σ5 hr15 hA16
set_option maxHeartbeats 4000000 in
set_option maxRecDepth 100000 in
theorem kX8_count (e : Nat) (p1 : Int32) (σ : St)  (q : Int32) (hf : fX8_count p1 σ = some q) : Sp (e + 2) MX8_count [.ref 0, .int p1] σ (some (.int q)) σ := by
  refine sp_of rfl (Nat.le_of_ble_eq_true rfl) (loc := [(0, .ref 0), (1, .int p1)]) rfl ?_
  unfold fX8_count at hf
  refine a_iload_n dX8_count_0 rfl 1 rfl ?_
  refine a_iconst (0 : Int32) dX8_count_1 rfl ?_
  refine a_bipush (6 : Int32) dX8_count_2 rfl ?_
  refine a_callS (as := [.int p1, .int (0 : Int32), .int (6 : Int32)]) (stk := []) (q := some (.int (fX8_within p1 (0 : Int32) (6 : Int32)))) (σ1 := σ) (kX8_within (e + 1) p1 (0 : Int32) (6 : Int32) σ) sl_X8_91 rfl (Nat.le_of_ble_eq_true rfl) dX8_count_4 ?_
  by_cases hc1 : (fX8_within p1 (0 : Int32) (6 : Int32)) = 0
  · rw [if_pos hc1] at hf
    refine a_if_ne_f 13 dX8_count_7 (by decide) hc1 ?_
    refine a_bipush (-102 : Int32) dX8_count_10 rfl ?_
    have hq := Option.some.inj hf
    subst hq
    exact a_iret rfl dX8_count_12
  · rw [if_neg hc1] at hf
    refine a_if_ne_t 13 dX8_count_7 (by decide) hc1 ?_
    refine a_iload_n dX8_count_13 rfl 1 rfl ?_
    by_cases hc2 : p1 = (0 : Int32)
    · rw [if_pos hc2] at hf
      refine a_tabIn (0 : Int32) 52 dX8_count_14 hc2 (by decide) (by decide) rfl (by decide) ?_
      refine a_aload_n dX8_count_52 rfl 0 rfl ?_
      refine a_get (.ref 4) ob_0 (by decide) fl_X8_26 rfl dX8_count_53 ?_
      refine a_get (.int (σ.1 4 0)) (obW isW_4) (by decide) fl_X8_108 (avW0 isW_4) dX8_count_56 ?_
      have hq := Option.some.inj hf
      subst hq
      exact a_iret rfl dX8_count_59
    · rw [if_neg hc2] at hf
      by_cases hc3 : p1 = (1 : Int32)
      · rw [if_pos hc3] at hf
        refine a_tabIn (1 : Int32) 60 dX8_count_14 hc3 (by decide) (by decide) rfl (by decide) ?_
        refine a_aload_n dX8_count_60 rfl 0 rfl ?_
        refine a_get (.ref 4) ob_0 (by decide) fl_X8_26 rfl dX8_count_61 ?_
        refine a_get (.int (σ.1 4 6)) (obW isW_4) (by decide) fl_X8_157 (avW6 isW_4) dX8_count_64 ?_
        have hq := Option.some.inj hf
        subst hq
        exact a_iret rfl dX8_count_67
      · rw [if_neg hc3] at hf
        by_cases hc4 : p1 = (2 : Int32)
        · rw [if_pos hc4] at hf
          refine a_tabIn (2 : Int32) 68 dX8_count_14 hc4 (by decide) (by decide) rfl (by decide) ?_
          refine a_aload_n dX8_count_68 rfl 0 rfl ?_
          refine a_get (.ref 4) ob_0 (by decide) fl_X8_26 rfl dX8_count_69 ?_
          obtain ⟨q5, hq5, hf⟩ := obind hf
          refine a_callV (as := []) (stk := []) (q := some (.int q5)) (σ1 := σ) (kX7_living e 4 σ isW_4 _ hq5) (obW isW_4) vl_X8_272 rfl (Nat.le_of_ble_eq_true rfl) dX8_count_72 ?_
          have hq := Option.some.inj hf
          subst hq
          exact a_iret rfl dX8_count_75
        · rw [if_neg hc4] at hf
          by_cases hc6 : p1 = (3 : Int32)
          · rw [if_pos hc6] at hf
            refine a_tabIn (3 : Int32) 76 dX8_count_14 hc6 (by decide) (by decide) rfl (by decide) ?_
            refine a_aload_n dX8_count_76 rfl 0 rfl ?_
            refine a_get (.ref 4) ob_0 (by decide) fl_X8_26 rfl dX8_count_77 ?_
            refine a_get (.int (σ.1 4 8)) (obW isW_4) (by decide) fl_X8_299 (avW8 isW_4) dX8_count_80 ?_
            have hq := Option.some.inj hf
            subst hq
            exact a_iret rfl dX8_count_83
          · rw [if_neg hc6] at hf
            by_cases hc7 : p1 = (4 : Int32)
            · rw [if_pos hc7] at hf
              refine a_tabIn (4 : Int32) 84 dX8_count_14 hc7 (by decide) (by decide) rfl (by decide) ?_
              refine a_aload_n dX8_count_84 rfl 0 rfl ?_
              refine a_get (.ref 4) ob_0 (by decide) fl_X8_26 rfl dX8_count_85 ?_
              obtain ⟨q8, hq8, hf⟩ := obind hf
              refine a_callV (as := []) (stk := []) (q := some (.int q8)) (σ1 := σ) (kX7_allFeasts (e + 1) 4 σ isW_4 _ hq8) (obW isW_4) vl_X8_275 rfl (Nat.le_of_ble_eq_true rfl) dX8_count_88 ?_
              have hq := Option.some.inj hf
              subst hq
              exact a_iret rfl dX8_count_91
            · rw [if_neg hc7] at hf
              by_cases hc9 : p1 = (5 : Int32)
              · rw [if_pos hc9] at hf
                refine a_tabIn (5 : Int32) 92 dX8_count_14 hc9 (by decide) (by decide) rfl (by decide) ?_
                refine a_aload_n dX8_count_92 rfl 0 rfl ?_
                refine a_get (.ref 1) ob_0 (by decide) fl_X8_12 rfl dX8_count_93 ?_
                refine a_get (.int (σ.1 1 1)) ob_1 (by decide) fl_X8_68 rfl dX8_count_96 ?_
                have hq := Option.some.inj hf
                subst hq
                exact a_iret rfl dX8_count_99
              · rw [if_neg hc9] at hf
                refine a_tabOut 100 dX8_count_14 (by have q0 := lv_neT hc2 (show Int32.toInt (0 : Int32) = 0 from rfl); have q1 := lv_neT hc3 (show Int32.toInt (1 : Int32) = 1 from rfl); have q2 := lv_neT hc4 (show Int32.toInt (2 : Int32) = 2 from rfl); have q3 := lv_neT hc6 (show Int32.toInt (3 : Int32) = 3 from rfl); have q4 := lv_neT hc7 (show Int32.toInt (4 : Int32) = 4 from rfl); have q5 := lv_neT hc9 (show Int32.toInt (5 : Int32) = 5 from rfl); omega) (by decide) ?_
                refine a_aload_n dX8_count_100 rfl 0 rfl ?_
                refine a_get (.int (σ.1 0 9)) ob_0 (by decide) fl_X8_88 rfl dX8_count_101 ?_
                have hq := Option.some.inj hf
                subst hq
                exact a_iret rfl dX8_count_104
