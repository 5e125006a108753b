theorem dX0_init_0 : decode cX0_init 0 = .ok (.aload_n 0, 1) := by decide +kernel
theorem dX0_init_1 : decode cX0_init 1 = .ok (.invokespecial 3, 3) := by decide +kernel
theorem dX0_init_4 : decode cX0_init 4 = .ok (.aload_n 0, 1) := by decide +kernel
theorem dX0_init_5 : decode cX0_init 5 = .ok (.bipush 8, 2) := by decide +kernel
theorem dX0_init_7 : decode cX0_init 7 = .ok (.newarray .int, 2) := by decide +kernel
theorem dX0_init_9 : decode cX0_init 9 = .ok (.putfield 9, 3) := by decide +kernel
theorem dX0_init_12 : decode cX0_init 12 = .ok (.return_, 1) := by decide +kernel
theorem dX1_init_0 : decode cX1_init 0 = .ok (.aload_n 0, 1) := by decide +kernel
theorem dX1_init_1 : decode cX1_init 1 = .ok (.invokespecial 3, 3) := by decide +kernel
theorem dX1_init_4 : decode cX1_init 4 = .ok (.aload_n 0, 1) := by decide +kernel
theorem dX1_init_5 : decode cX1_init 5 = .ok (.sipush 256, 3) := by decide +kernel
theorem dX1_init_8 : decode cX1_init 8 = .ok (.newarray .int, 2) := by decide +kernel
theorem dX1_init_10 : decode cX1_init 10 = .ok (.putfield 11, 3) := by decide +kernel
theorem dX1_init_13 : decode cX1_init 13 = .ok (.aload_n 0, 1) := by decide +kernel
theorem dX1_init_14 : decode cX1_init 14 = .ok (.bipush 8, 2) := by decide +kernel
theorem dX1_init_16 : decode cX1_init 16 = .ok (.newarray .int, 2) := by decide +kernel
theorem dX1_init_18 : decode cX1_init 18 = .ok (.putfield 15, 3) := by decide +kernel
theorem dX1_init_21 : decode cX1_init 21 = .ok (.return_, 1) := by decide +kernel
theorem dX2_init_0 : decode cX2_init 0 = .ok (.aload_n 0, 1) := by decide +kernel
theorem dX2_init_1 : decode cX2_init 1 = .ok (.invokespecial 3, 3) := by decide +kernel
theorem dX2_init_4 : decode cX2_init 4 = .ok (.return_, 1) := by decide +kernel
theorem dX2_oneOf_0 : decode cX2_oneOf 0 = .ok (.iload_n 1, 1) := by decide +kernel
theorem dX2_oneOf_1 : decode cX2_oneOf 1 = .ok (.invokestatic 9, 3) := by decide +kernel
theorem dX2_oneOf_4 : decode cX2_oneOf 4 = .ok (.istore_n 2, 1) := by decide +kernel
theorem dX2_oneOf_5 : decode cX2_oneOf 5 = .ok (.iload_n 2, 1) := by decide +kernel
theorem dX2_oneOf_6 : decode cX2_oneOf 6 = .ok (.ifCond .ne 5, 3) := by decide +kernel
theorem dX2_oneOf_9 : decode cX2_oneOf 9 = .ok (.iconst (-1), 1) := by decide +kernel
theorem dX2_oneOf_10 : decode cX2_oneOf 10 = .ok (.ireturn, 1) := by decide +kernel
theorem dX2_oneOf_11 : decode cX2_oneOf 11 = .ok (.aload_n 0, 1) := by decide +kernel
theorem dX2_oneOf_12 : decode cX2_oneOf 12 = .ok (.ldc2_w 15, 3) := by decide +kernel
theorem dX2_oneOf_15 : decode cX2_oneOf 15 = .ok (.aload_n 0, 1) := by decide +kernel
theorem dX2_oneOf_16 : decode cX2_oneOf 16 = .ok (.getfield 17, 3) := by decide +kernel
theorem dX2_oneOf_19 : decode cX2_oneOf 19 = .ok (.lmul, 1) := by decide +kernel
theorem dX2_oneOf_20 : decode cX2_oneOf 20 = .ok (.ldc2_w 23, 3) := by decide +kernel
theorem dX2_oneOf_23 : decode cX2_oneOf 23 = .ok (.ladd, 1) := by decide +kernel
theorem dX2_oneOf_24 : decode cX2_oneOf 24 = .ok (.ldc2_w 25, 3) := by decide +kernel
theorem dX2_oneOf_27 : decode cX2_oneOf 27 = .ok (.land, 1) := by decide +kernel
theorem dX2_oneOf_28 : decode cX2_oneOf 28 = .ok (.putfield 17, 3) := by decide +kernel
theorem dX2_oneOf_31 : decode cX2_oneOf 31 = .ok (.aload_n 0, 1) := by decide +kernel
theorem dX2_oneOf_32 : decode cX2_oneOf 32 = .ok (.getfield 17, 3) := by decide +kernel
theorem dX2_oneOf_35 : decode cX2_oneOf 35 = .ok (.ldc2_w 27, 3) := by decide +kernel
theorem dX2_oneOf_38 : decode cX2_oneOf 38 = .ok (.ldiv, 1) := by decide +kernel
theorem dX2_oneOf_39 : decode cX2_oneOf 39 = .ok (.iload_n 2, 1) := by decide +kernel
theorem dX2_oneOf_40 : decode cX2_oneOf 40 = .ok (.i2l, 1) := by decide +kernel
theorem dX2_oneOf_41 : decode cX2_oneOf 41 = .ok (.lrem, 1) := by decide +kernel
theorem dX2_oneOf_42 : decode cX2_oneOf 42 = .ok (.l2i, 1) := by decide +kernel
theorem dX2_oneOf_43 : decode cX2_oneOf 43 = .ok (.istore_n 3, 1) := by decide +kernel
theorem dX2_oneOf_44 : decode cX2_oneOf 44 = .ok (.iconst 0, 1) := by decide +kernel
theorem dX2_oneOf_45 : decode cX2_oneOf 45 = .ok (.istore 4, 2) := by decide +kernel
theorem dX2_oneOf_47 : decode cX2_oneOf 47 = .ok (.iload 4, 2) := by decide +kernel
theorem dX2_oneOf_49 : decode cX2_oneOf 49 = .ok (.bipush 8, 2) := by decide +kernel
theorem dX2_oneOf_51 : decode cX2_oneOf 51 = .ok (.if_icmp .ge 32, 3) := by decide +kernel
theorem dX2_oneOf_54 : decode cX2_oneOf 54 = .ok (.iload_n 1, 1) := by decide +kernel
theorem dX2_oneOf_55 : decode cX2_oneOf 55 = .ok (.iload 4, 2) := by decide +kernel
theorem dX2_oneOf_57 : decode cX2_oneOf 57 = .ok (.invokestatic 29, 3) := by decide +kernel
theorem dX2_oneOf_60 : decode cX2_oneOf 60 = .ok (.iand, 1) := by decide +kernel
theorem dX2_oneOf_61 : decode cX2_oneOf 61 = .ok (.ifCond .ne 6, 3) := by decide +kernel
theorem dX2_oneOf_64 : decode cX2_oneOf 64 = .ok (.goto 13, 3) := by decide +kernel
theorem dX2_oneOf_67 : decode cX2_oneOf 67 = .ok (.iload_n 3, 1) := by decide +kernel
theorem dX2_oneOf_68 : decode cX2_oneOf 68 = .ok (.ifCond .ne 6, 3) := by decide +kernel
theorem dX2_oneOf_71 : decode cX2_oneOf 71 = .ok (.iload 4, 2) := by decide +kernel
theorem dX2_oneOf_73 : decode cX2_oneOf 73 = .ok (.ireturn, 1) := by decide +kernel
theorem dX2_oneOf_74 : decode cX2_oneOf 74 = .ok (.iinc 3 (-1), 3) := by decide +kernel
theorem dX2_oneOf_77 : decode cX2_oneOf 77 = .ok (.iinc 4 1, 3) := by decide +kernel
theorem dX2_oneOf_80 : decode cX2_oneOf 80 = .ok (.goto (-33), 3) := by decide +kernel
theorem dX2_oneOf_83 : decode cX2_oneOf 83 = .ok (.iconst (-1), 1) := by decide +kernel
theorem dX2_oneOf_84 : decode cX2_oneOf 84 = .ok (.ireturn, 1) := by decide +kernel
theorem dX3_init_0 : decode cX3_init 0 = .ok (.aload_n 0, 1) := by decide +kernel
theorem dX3_init_1 : decode cX3_init 1 = .ok (.invokespecial 3, 3) := by decide +kernel
theorem dX3_init_4 : decode cX3_init 4 = .ok (.return_, 1) := by decide +kernel
theorem dX3_begin_0 : decode cX3_begin 0 = .ok (.aload_n 0, 1) := by decide +kernel
theorem dX3_begin_1 : decode cX3_begin 1 = .ok (.iload_n 1, 1) := by decide +kernel
theorem dX3_begin_2 : decode cX3_begin 2 = .ok (.putfield 9, 3) := by decide +kernel
theorem dX3_begin_5 : decode cX3_begin 5 = .ok (.aload_n 0, 1) := by decide +kernel
theorem dX3_begin_6 : decode cX3_begin 6 = .ok (.iload_n 2, 1) := by decide +kernel
theorem dX3_begin_7 : decode cX3_begin 7 = .ok (.putfield 15, 3) := by decide +kernel
theorem dX3_begin_10 : decode cX3_begin 10 = .ok (.aload_n 0, 1) := by decide +kernel
theorem dX3_begin_11 : decode cX3_begin 11 = .ok (.iload_n 2, 1) := by decide +kernel
theorem dX3_begin_12 : decode cX3_begin 12 = .ok (.putfield 18, 3) := by decide +kernel
theorem dX3_begin_15 : decode cX3_begin 15 = .ok (.aload_n 0, 1) := by decide +kernel
theorem dX3_begin_16 : decode cX3_begin 16 = .ok (.iconst (-1), 1) := by decide +kernel
theorem dX3_begin_17 : decode cX3_begin 17 = .ok (.putfield 21, 3) := by decide +kernel
theorem dX3_begin_20 : decode cX3_begin 20 = .ok (.aload_n 0, 1) := by decide +kernel
theorem dX3_begin_21 : decode cX3_begin 21 = .ok (.iconst 0, 1) := by decide +kernel
theorem dX3_begin_22 : decode cX3_begin 22 = .ok (.putfield 24, 3) := by decide +kernel
theorem dX3_begin_25 : decode cX3_begin 25 = .ok (.aload_n 0, 1) := by decide +kernel
theorem dX3_begin_26 : decode cX3_begin 26 = .ok (.iconst 0, 1) := by decide +kernel
theorem dX3_begin_27 : decode cX3_begin 27 = .ok (.putfield 27, 3) := by decide +kernel
theorem dX3_begin_30 : decode cX3_begin 30 = .ok (.aload_n 0, 1) := by decide +kernel
theorem dX3_begin_31 : decode cX3_begin 31 = .ok (.iconst 0, 1) := by decide +kernel
theorem dX3_begin_32 : decode cX3_begin 32 = .ok (.putfield 30, 3) := by decide +kernel
theorem dX3_begin_35 : decode cX3_begin 35 = .ok (.aload_n 0, 1) := by decide +kernel
theorem dX3_begin_36 : decode cX3_begin 36 = .ok (.iconst 0, 1) := by decide +kernel
theorem dX3_begin_37 : decode cX3_begin 37 = .ok (.putfield 33, 3) := by decide +kernel
theorem dX3_begin_40 : decode cX3_begin 40 = .ok (.return_, 1) := by decide +kernel
theorem dX3_copyFrom_0 : decode cX3_copyFrom 0 = .ok (.aload_n 0, 1) := by decide +kernel
theorem dX3_copyFrom_1 : decode cX3_copyFrom 1 = .ok (.aload_n 1, 1) := by decide +kernel
theorem dX3_copyFrom_2 : decode cX3_copyFrom 2 = .ok (.getfield 9, 3) := by decide +kernel
theorem dX3_copyFrom_5 : decode cX3_copyFrom 5 = .ok (.putfield 9, 3) := by decide +kernel
theorem dX3_copyFrom_8 : decode cX3_copyFrom 8 = .ok (.aload_n 0, 1) := by decide +kernel
theorem dX3_copyFrom_9 : decode cX3_copyFrom 9 = .ok (.aload_n 1, 1) := by decide +kernel
theorem dX3_copyFrom_10 : decode cX3_copyFrom 10 = .ok (.getfield 15, 3) := by decide +kernel
theorem dX3_copyFrom_13 : decode cX3_copyFrom 13 = .ok (.putfield 15, 3) := by decide +kernel
theorem dX3_copyFrom_16 : decode cX3_copyFrom 16 = .ok (.aload_n 0, 1) := by decide +kernel
theorem dX3_copyFrom_17 : decode cX3_copyFrom 17 = .ok (.aload_n 1, 1) := by decide +kernel
theorem dX3_copyFrom_18 : decode cX3_copyFrom 18 = .ok (.getfield 18, 3) := by decide +kernel
theorem dX3_copyFrom_21 : decode cX3_copyFrom 21 = .ok (.putfield 18, 3) := by decide +kernel
theorem dX3_copyFrom_24 : decode cX3_copyFrom 24 = .ok (.aload_n 0, 1) := by decide +kernel
theorem dX3_copyFrom_25 : decode cX3_copyFrom 25 = .ok (.aload_n 1, 1) := by decide +kernel
theorem dX3_copyFrom_26 : decode cX3_copyFrom 26 = .ok (.getfield 21, 3) := by decide +kernel
theorem dX3_copyFrom_29 : decode cX3_copyFrom 29 = .ok (.putfield 21, 3) := by decide +kernel
theorem dX3_copyFrom_32 : decode cX3_copyFrom 32 = .ok (.aload_n 0, 1) := by decide +kernel
theorem dX3_copyFrom_33 : decode cX3_copyFrom 33 = .ok (.aload_n 1, 1) := by decide +kernel
theorem dX3_copyFrom_34 : decode cX3_copyFrom 34 = .ok (.getfield 24, 3) := by decide +kernel
theorem dX3_copyFrom_37 : decode cX3_copyFrom 37 = .ok (.putfield 24, 3) := by decide +kernel
theorem dX3_copyFrom_40 : decode cX3_copyFrom 40 = .ok (.aload_n 0, 1) := by decide +kernel
theorem dX3_copyFrom_41 : decode cX3_copyFrom 41 = .ok (.aload_n 1, 1) := by decide +kernel
theorem dX3_copyFrom_42 : decode cX3_copyFrom 42 = .ok (.getfield 27, 3) := by decide +kernel
theorem dX3_copyFrom_45 : decode cX3_copyFrom 45 = .ok (.putfield 27, 3) := by decide +kernel
theorem dX3_copyFrom_48 : decode cX3_copyFrom 48 = .ok (.aload_n 0, 1) := by decide +kernel
theorem dX3_copyFrom_49 : decode cX3_copyFrom 49 = .ok (.aload_n 1, 1) := by decide +kernel
theorem dX3_copyFrom_50 : decode cX3_copyFrom 50 = .ok (.getfield 30, 3) := by decide +kernel
theorem dX3_copyFrom_53 : decode cX3_copyFrom 53 = .ok (.putfield 30, 3) := by decide +kernel
theorem dX3_copyFrom_56 : decode cX3_copyFrom 56 = .ok (.aload_n 0, 1) := by decide +kernel
theorem dX3_copyFrom_57 : decode cX3_copyFrom 57 = .ok (.aload_n 1, 1) := by decide +kernel
theorem dX3_copyFrom_58 : decode cX3_copyFrom 58 = .ok (.getfield 33, 3) := by decide +kernel
theorem dX3_copyFrom_61 : decode cX3_copyFrom 61 = .ok (.putfield 33, 3) := by decide +kernel
theorem dX3_copyFrom_64 : decode cX3_copyFrom 64 = .ok (.return_, 1) := by decide +kernel
theorem dX3_lives_0 : decode cX3_lives 0 = .ok (.aload_n 0, 1) := by decide +kernel
theorem dX3_lives_1 : decode cX3_lives 1 = .ok (.getfield 30, 3) := by decide +kernel
theorem dX3_lives_4 : decode cX3_lives 4 = .ok (.ifCond .ne 7, 3) := by decide +kernel
theorem dX3_lives_7 : decode cX3_lives 7 = .ok (.iconst 1, 1) := by decide +kernel
theorem dX3_lives_8 : decode cX3_lives 8 = .ok (.goto 4, 3) := by decide +kernel
theorem dX3_lives_11 : decode cX3_lives 11 = .ok (.iconst 0, 1) := by decide +kernel
theorem dX3_lives_12 : decode cX3_lives 12 = .ok (.ireturn, 1) := by decide +kernel
theorem dX3_isOf_0 : decode cX3_isOf 0 = .ok (.iload_n 1, 1) := by decide +kernel
theorem dX3_isOf_1 : decode cX3_isOf 1 = .ok (.ifCond .eq 24, 3) := by decide +kernel
theorem dX3_isOf_4 : decode cX3_isOf 4 = .ok (.iload_n 1, 1) := by decide +kernel
theorem dX3_isOf_5 : decode cX3_isOf 5 = .ok (.aload_n 0, 1) := by decide +kernel
theorem dX3_isOf_6 : decode cX3_isOf 6 = .ok (.getfield 9, 3) := by decide +kernel
theorem dX3_isOf_9 : decode cX3_isOf 9 = .ok (.if_icmp .eq 16, 3) := by decide +kernel
theorem dX3_isOf_12 : decode cX3_isOf 12 = .ok (.iload_n 1, 1) := by decide +kernel
theorem dX3_isOf_13 : decode cX3_isOf 13 = .ok (.iconst 1, 1) := by decide +kernel
theorem dX3_isOf_14 : decode cX3_isOf 14 = .ok (.if_icmp .ne 15, 3) := by decide +kernel
theorem dX3_isOf_17 : decode cX3_isOf 17 = .ok (.aload_n 0, 1) := by decide +kernel
theorem dX3_isOf_18 : decode cX3_isOf 18 = .ok (.getfield 9, 3) := by decide +kernel
theorem dX3_isOf_21 : decode cX3_isOf 21 = .ok (.iconst 4, 1) := by decide +kernel
theorem dX3_isOf_22 : decode cX3_isOf 22 = .ok (.if_icmp .ne 7, 3) := by decide +kernel
theorem dX3_isOf_25 : decode cX3_isOf 25 = .ok (.iconst 1, 1) := by decide +kernel
theorem dX3_isOf_26 : decode cX3_isOf 26 = .ok (.goto 4, 3) := by decide +kernel
theorem dX3_isOf_29 : decode cX3_isOf 29 = .ok (.iconst 0, 1) := by decide +kernel
theorem dX3_isOf_30 : decode cX3_isOf 30 = .ok (.ireturn, 1) := by decide +kernel
theorem dX3_worth_0 : decode cX3_worth 0 = .ok (.iconst 1, 1) := by decide +kernel
theorem dX3_worth_1 : decode cX3_worth 1 = .ok (.bipush 10, 2) := by decide +kernel
theorem dX3_worth_3 : decode cX3_worth 3 = .ok (.aload_n 0, 1) := by decide +kernel
theorem dX3_worth_4 : decode cX3_worth 4 = .ok (.getfield 24, 3) := by decide +kernel
theorem dX3_worth_7 : decode cX3_worth 7 = .ok (.isub, 1) := by decide +kernel
theorem dX3_worth_8 : decode cX3_worth 8 = .ok (.invokestatic 36, 3) := by decide +kernel
theorem dX3_worth_11 : decode cX3_worth 11 = .ok (.istore_n 1, 1) := by decide +kernel
theorem dX3_worth_12 : decode cX3_worth 12 = .ok (.aload_n 0, 1) := by decide +kernel
theorem dX3_worth_13 : decode cX3_worth 13 = .ok (.getfield 9, 3) := by decide +kernel
theorem dX3_worth_16 : decode cX3_worth 16 = .ok (.iconst 2, 1) := by decide +kernel
theorem dX3_worth_17 : decode cX3_worth 17 = .ok (.if_icmp .ne 17, 3) := by decide +kernel
theorem dX3_worth_20 : decode cX3_worth 20 = .ok (.iload_n 1, 1) := by decide +kernel
theorem dX3_worth_21 : decode cX3_worth 21 = .ok (.aload_n 0, 1) := by decide +kernel
theorem dX3_worth_22 : decode cX3_worth 22 = .ok (.getfield 33, 3) := by decide +kernel
theorem dX3_worth_25 : decode cX3_worth 25 = .ok (.bipush 9, 2) := by decide +kernel
theorem dX3_worth_27 : decode cX3_worth 27 = .ok (.invokestatic 42, 3) := by decide +kernel
theorem dX3_worth_30 : decode cX3_worth 30 = .ok (.iadd, 1) := by decide +kernel
theorem dX3_worth_31 : decode cX3_worth 31 = .ok (.goto 4, 3) := by decide +kernel
theorem dX3_worth_34 : decode cX3_worth 34 = .ok (.iload_n 1, 1) := by decide +kernel
theorem dX3_worth_35 : decode cX3_worth 35 = .ok (.ireturn, 1) := by decide +kernel
theorem dX3_mustGo_0 : decode cX3_mustGo 0 = .ok (.aload_n 0, 1) := by decide +kernel
theorem dX3_mustGo_1 : decode cX3_mustGo 1 = .ok (.invokevirtual 45, 3) := by decide +kernel
theorem dX3_mustGo_4 : decode cX3_mustGo 4 = .ok (.ifCond .eq 29, 3) := by decide +kernel
theorem dX3_mustGo_7 : decode cX3_mustGo 7 = .ok (.aload_n 0, 1) := by decide +kernel
theorem dX3_mustGo_8 : decode cX3_mustGo 8 = .ok (.getfield 27, 3) := by decide +kernel
theorem dX3_mustGo_11 : decode cX3_mustGo 11 = .ok (.aload_n 0, 1) := by decide +kernel
theorem dX3_mustGo_12 : decode cX3_mustGo 12 = .ok (.getfield 9, 3) := by decide +kernel
theorem dX3_mustGo_15 : decode cX3_mustGo 15 = .ok (.iconst 3, 1) := by decide +kernel
theorem dX3_mustGo_16 : decode cX3_mustGo 16 = .ok (.if_icmp .ne 9, 3) := by decide +kernel
theorem dX3_mustGo_19 : decode cX3_mustGo 19 = .ok (.iload_n 1, 1) := by decide +kernel
theorem dX3_mustGo_20 : decode cX3_mustGo 20 = .ok (.iconst 1, 1) := by decide +kernel
theorem dX3_mustGo_21 : decode cX3_mustGo 21 = .ok (.iadd, 1) := by decide +kernel
theorem dX3_mustGo_22 : decode cX3_mustGo 22 = .ok (.goto 4, 3) := by decide +kernel
theorem dX3_mustGo_25 : decode cX3_mustGo 25 = .ok (.iload_n 1, 1) := by decide +kernel
theorem dX3_mustGo_26 : decode cX3_mustGo 26 = .ok (.if_icmp .lt 7, 3) := by decide +kernel
theorem dX3_mustGo_29 : decode cX3_mustGo 29 = .ok (.iconst 1, 1) := by decide +kernel
theorem dX3_mustGo_30 : decode cX3_mustGo 30 = .ok (.goto 4, 3) := by decide +kernel
theorem dX3_mustGo_33 : decode cX3_mustGo 33 = .ok (.iconst 0, 1) := by decide +kernel
theorem dX3_mustGo_34 : decode cX3_mustGo 34 = .ok (.ireturn, 1) := by decide +kernel
theorem dX3_moveTo_0 : decode cX3_moveTo 0 = .ok (.aload_n 0, 1) := by decide +kernel
theorem dX3_moveTo_1 : decode cX3_moveTo 1 = .ok (.aload_n 0, 1) := by decide +kernel
theorem dX3_moveTo_2 : decode cX3_moveTo 2 = .ok (.getfield 18, 3) := by decide +kernel
theorem dX3_moveTo_5 : decode cX3_moveTo 5 = .ok (.putfield 21, 3) := by decide +kernel
theorem dX3_moveTo_8 : decode cX3_moveTo 8 = .ok (.aload_n 0, 1) := by decide +kernel
theorem dX3_moveTo_9 : decode cX3_moveTo 9 = .ok (.iload_n 1, 1) := by decide +kernel
theorem dX3_moveTo_10 : decode cX3_moveTo 10 = .ok (.putfield 18, 3) := by decide +kernel
theorem dX3_moveTo_13 : decode cX3_moveTo 13 = .ok (.aload_n 0, 1) := by decide +kernel
theorem dX3_moveTo_14 : decode cX3_moveTo 14 = .ok (.iconst 0, 1) := by decide +kernel
theorem dX3_moveTo_15 : decode cX3_moveTo 15 = .ok (.putfield 27, 3) := by decide +kernel
theorem dX3_moveTo_18 : decode cX3_moveTo 18 = .ok (.aload_n 0, 1) := by decide +kernel
theorem dX3_moveTo_19 : decode cX3_moveTo 19 = .ok (.dup, 1) := by decide +kernel
theorem dX3_moveTo_20 : decode cX3_moveTo 20 = .ok (.getfield 33, 3) := by decide +kernel
theorem dX3_moveTo_23 : decode cX3_moveTo 23 = .ok (.iconst 1, 1) := by decide +kernel
theorem dX3_moveTo_24 : decode cX3_moveTo 24 = .ok (.iadd, 1) := by decide +kernel
theorem dX3_moveTo_25 : decode cX3_moveTo 25 = .ok (.putfield 33, 3) := by decide +kernel
theorem dX3_moveTo_28 : decode cX3_moveTo 28 = .ok (.aload_n 0, 1) := by decide +kernel
theorem dX3_moveTo_29 : decode cX3_moveTo 29 = .ok (.getfield 9, 3) := by decide +kernel
theorem dX3_moveTo_32 : decode cX3_moveTo 32 = .ok (.iconst 4, 1) := by decide +kernel
theorem dX3_moveTo_33 : decode cX3_moveTo 33 = .ok (.if_icmp .ne 16, 3) := by decide +kernel
theorem dX3_moveTo_36 : decode cX3_moveTo 36 = .ok (.aload_n 0, 1) := by decide +kernel
theorem dX3_moveTo_37 : decode cX3_moveTo 37 = .ok (.dup, 1) := by decide +kernel
theorem dX3_moveTo_38 : decode cX3_moveTo 38 = .ok (.getfield 24, 3) := by decide +kernel
theorem dX3_moveTo_41 : decode cX3_moveTo 41 = .ok (.iconst 2, 1) := by decide +kernel
theorem dX3_moveTo_42 : decode cX3_moveTo 42 = .ok (.iadd, 1) := by decide +kernel
theorem dX3_moveTo_43 : decode cX3_moveTo 43 = .ok (.putfield 24, 3) := by decide +kernel
theorem dX3_moveTo_46 : decode cX3_moveTo 46 = .ok (.goto 21, 3) := by decide +kernel
theorem dX3_moveTo_49 : decode cX3_moveTo 49 = .ok (.aload_n 0, 1) := by decide +kernel
theorem dX3_moveTo_50 : decode cX3_moveTo 50 = .ok (.getfield 9, 3) := by decide +kernel
theorem dX3_moveTo_53 : decode cX3_moveTo 53 = .ok (.iconst 2, 1) := by decide +kernel
theorem dX3_moveTo_54 : decode cX3_moveTo 54 = .ok (.if_icmp .eq 13, 3) := by decide +kernel
theorem dX3_moveTo_57 : decode cX3_moveTo 57 = .ok (.aload_n 0, 1) := by decide +kernel
theorem dX3_moveTo_58 : decode cX3_moveTo 58 = .ok (.dup, 1) := by decide +kernel
theorem dX3_moveTo_59 : decode cX3_moveTo 59 = .ok (.getfield 24, 3) := by decide +kernel
theorem dX3_moveTo_62 : decode cX3_moveTo 62 = .ok (.iconst 1, 1) := by decide +kernel
theorem dX3_moveTo_63 : decode cX3_moveTo 63 = .ok (.iadd, 1) := by decide +kernel
theorem dX3_moveTo_64 : decode cX3_moveTo 64 = .ok (.putfield 24, 3) := by decide +kernel
theorem dX3_moveTo_67 : decode cX3_moveTo 67 = .ok (.aload_n 0, 1) := by decide +kernel
theorem dX3_moveTo_68 : decode cX3_moveTo 68 = .ok (.iconst 1, 1) := by decide +kernel
theorem dX3_moveTo_69 : decode cX3_moveTo 69 = .ok (.invokevirtual 49, 3) := by decide +kernel
theorem dX3_moveTo_72 : decode cX3_moveTo 72 = .ok (.ifCond .eq 19, 3) := by decide +kernel
theorem dX3_moveTo_75 : decode cX3_moveTo 75 = .ok (.aload_n 0, 1) := by decide +kernel
theorem dX3_moveTo_76 : decode cX3_moveTo 76 = .ok (.getfield 24, 3) := by decide +kernel
theorem dX3_moveTo_79 : decode cX3_moveTo 79 = .ok (.iload_n 2, 1) := by decide +kernel
theorem dX3_moveTo_80 : decode cX3_moveTo 80 = .ok (.if_icmp .lt 11, 3) := by decide +kernel
theorem dX3_moveTo_83 : decode cX3_moveTo 83 = .ok (.aload_n 0, 1) := by decide +kernel
theorem dX3_moveTo_84 : decode cX3_moveTo 84 = .ok (.iconst 2, 1) := by decide +kernel
theorem dX3_moveTo_85 : decode cX3_moveTo 85 = .ok (.putfield 30, 3) := by decide +kernel
theorem dX3_moveTo_88 : decode cX3_moveTo 88 = .ok (.goto 19, 3) := by decide +kernel
theorem dX3_moveTo_91 : decode cX3_moveTo 91 = .ok (.aload_n 0, 1) := by decide +kernel
theorem dX3_moveTo_92 : decode cX3_moveTo 92 = .ok (.getfield 18, 3) := by decide +kernel
theorem dX3_moveTo_95 : decode cX3_moveTo 95 = .ok (.aload_n 0, 1) := by decide +kernel
theorem dX3_moveTo_96 : decode cX3_moveTo 96 = .ok (.getfield 15, 3) := by decide +kernel
theorem dX3_moveTo_99 : decode cX3_moveTo 99 = .ok (.if_icmp .ne 8, 3) := by decide +kernel
theorem dX3_moveTo_102 : decode cX3_moveTo 102 = .ok (.aload_n 0, 1) := by decide +kernel
theorem dX3_moveTo_103 : decode cX3_moveTo 103 = .ok (.iconst 1, 1) := by decide +kernel
theorem dX3_moveTo_104 : decode cX3_moveTo 104 = .ok (.putfield 30, 3) := by decide +kernel
theorem dX3_moveTo_107 : decode cX3_moveTo 107 = .ok (.return_, 1) := by decide +kernel
theorem dX4_init_0 : decode cX4_init 0 = .ok (.aload_n 0, 1) := by decide +kernel
theorem dX4_init_1 : decode cX4_init 1 = .ok (.invokespecial 3, 3) := by decide +kernel
theorem dX4_init_4 : decode cX4_init 4 = .ok (.aload_n 0, 1) := by decide +kernel
theorem dX4_init_5 : decode cX4_init 5 = .ok (.iconst 1, 1) := by decide +kernel
theorem dX4_init_6 : decode cX4_init 6 = .ok (.putfield 11, 3) := by decide +kernel
theorem dX4_init_9 : decode cX4_init 9 = .ok (.aload_n 0, 1) := by decide +kernel
theorem dX4_init_10 : decode cX4_init 10 = .ok (.iconst 3, 1) := by decide +kernel
theorem dX4_init_11 : decode cX4_init 11 = .ok (.putfield 15, 3) := by decide +kernel
theorem dX4_init_14 : decode cX4_init 14 = .ok (.return_, 1) := by decide +kernel
theorem dX4_readFrom_0 : decode cX4_readFrom 0 = .ok (.aload_n 0, 1) := by decide +kernel
theorem dX4_readFrom_1 : decode cX4_readFrom 1 = .ok (.iconst 1, 1) := by decide +kernel
theorem dX4_readFrom_2 : decode cX4_readFrom 2 = .ok (.putfield 11, 3) := by decide +kernel
theorem dX4_readFrom_5 : decode cX4_readFrom 5 = .ok (.aload_n 0, 1) := by decide +kernel
theorem dX4_readFrom_6 : decode cX4_readFrom 6 = .ok (.iconst 0, 1) := by decide +kernel
theorem dX4_readFrom_7 : decode cX4_readFrom 7 = .ok (.putfield 18, 3) := by decide +kernel
theorem dX4_readFrom_10 : decode cX4_readFrom 10 = .ok (.aload_n 0, 1) := by decide +kernel
theorem dX4_readFrom_11 : decode cX4_readFrom 11 = .ok (.iconst 0, 1) := by decide +kernel
theorem dX4_readFrom_12 : decode cX4_readFrom 12 = .ok (.putfield 22, 3) := by decide +kernel
theorem dX4_readFrom_15 : decode cX4_readFrom 15 = .ok (.aload_n 0, 1) := by decide +kernel
theorem dX4_readFrom_16 : decode cX4_readFrom 16 = .ok (.iconst 3, 1) := by decide +kernel
theorem dX4_readFrom_17 : decode cX4_readFrom 17 = .ok (.putfield 15, 3) := by decide +kernel
theorem dX4_readFrom_20 : decode cX4_readFrom 20 = .ok (.iconst 0, 1) := by decide +kernel
theorem dX4_readFrom_21 : decode cX4_readFrom 21 = .ok (.istore_n 2, 1) := by decide +kernel
theorem dX4_readFrom_22 : decode cX4_readFrom 22 = .ok (.iconst 0, 1) := by decide +kernel
theorem dX4_readFrom_23 : decode cX4_readFrom 23 = .ok (.istore_n 3, 1) := by decide +kernel
theorem dX4_readFrom_24 : decode cX4_readFrom 24 = .ok (.iload_n 3, 1) := by decide +kernel
theorem dX4_readFrom_25 : decode cX4_readFrom 25 = .ok (.aload_n 1, 1) := by decide +kernel
theorem dX4_readFrom_26 : decode cX4_readFrom 26 = .ok (.getfield 25, 3) := by decide +kernel
theorem dX4_readFrom_29 : decode cX4_readFrom 29 = .ok (.if_icmp .ge 89, 3) := by decide +kernel
theorem dX4_readFrom_32 : decode cX4_readFrom 32 = .ok (.iload_n 3, 1) := by decide +kernel
theorem dX4_readFrom_33 : decode cX4_readFrom 33 = .ok (.bipush 16, 2) := by decide +kernel
theorem dX4_readFrom_35 : decode cX4_readFrom 35 = .ok (.if_icmp .ge 83, 3) := by decide +kernel
theorem dX4_readFrom_38 : decode cX4_readFrom 38 = .ok (.aload_n 1, 1) := by decide +kernel
theorem dX4_readFrom_39 : decode cX4_readFrom 39 = .ok (.getfield 30, 3) := by decide +kernel
theorem dX4_readFrom_42 : decode cX4_readFrom 42 = .ok (.iload_n 3, 1) := by decide +kernel
theorem dX4_readFrom_43 : decode cX4_readFrom 43 = .ok (.iaload, 1) := by decide +kernel
theorem dX4_readFrom_44 : decode cX4_readFrom 44 = .ok (.istore 4, 2) := by decide +kernel
theorem dX4_readFrom_46 : decode cX4_readFrom 46 = .ok (.iload_n 2, 1) := by decide +kernel
theorem dX4_readFrom_47 : decode cX4_readFrom 47 = .ok (.bipush 107, 2) := by decide +kernel
theorem dX4_readFrom_49 : decode cX4_readFrom 49 = .ok (.if_icmp .ne 15, 3) := by decide +kernel
theorem dX4_readFrom_52 : decode cX4_readFrom 52 = .ok (.aload_n 0, 1) := by decide +kernel
theorem dX4_readFrom_53 : decode cX4_readFrom 53 = .ok (.iload 4, 2) := by decide +kernel
theorem dX4_readFrom_55 : decode cX4_readFrom 55 = .ok (.bipush 48, 2) := by decide +kernel
theorem dX4_readFrom_57 : decode cX4_readFrom 57 = .ok (.isub, 1) := by decide +kernel
theorem dX4_readFrom_58 : decode cX4_readFrom 58 = .ok (.putfield 11, 3) := by decide +kernel
theorem dX4_readFrom_61 : decode cX4_readFrom 61 = .ok (.goto 48, 3) := by decide +kernel
theorem dX4_readFrom_64 : decode cX4_readFrom 64 = .ok (.iload_n 2, 1) := by decide +kernel
theorem dX4_readFrom_65 : decode cX4_readFrom 65 = .ok (.bipush 119, 2) := by decide +kernel
theorem dX4_readFrom_67 : decode cX4_readFrom 67 = .ok (.if_icmp .ne 15, 3) := by decide +kernel
theorem dX4_readFrom_70 : decode cX4_readFrom 70 = .ok (.aload_n 0, 1) := by decide +kernel
theorem dX4_readFrom_71 : decode cX4_readFrom 71 = .ok (.iload 4, 2) := by decide +kernel
theorem dX4_readFrom_73 : decode cX4_readFrom 73 = .ok (.bipush 48, 2) := by decide +kernel
theorem dX4_readFrom_75 : decode cX4_readFrom 75 = .ok (.isub, 1) := by decide +kernel
theorem dX4_readFrom_76 : decode cX4_readFrom 76 = .ok (.putfield 15, 3) := by decide +kernel
theorem dX4_readFrom_79 : decode cX4_readFrom 79 = .ok (.goto 30, 3) := by decide +kernel
theorem dX4_readFrom_82 : decode cX4_readFrom 82 = .ok (.iload 4, 2) := by decide +kernel
theorem dX4_readFrom_84 : decode cX4_readFrom 84 = .ok (.bipush 98, 2) := by decide +kernel
theorem dX4_readFrom_86 : decode cX4_readFrom 86 = .ok (.if_icmp .ne 11, 3) := by decide +kernel
theorem dX4_readFrom_89 : decode cX4_readFrom 89 = .ok (.aload_n 0, 1) := by decide +kernel
theorem dX4_readFrom_90 : decode cX4_readFrom 90 = .ok (.iconst 1, 1) := by decide +kernel
theorem dX4_readFrom_91 : decode cX4_readFrom 91 = .ok (.putfield 18, 3) := by decide +kernel
theorem dX4_readFrom_94 : decode cX4_readFrom 94 = .ok (.goto 15, 3) := by decide +kernel
theorem dX4_readFrom_97 : decode cX4_readFrom 97 = .ok (.iload 4, 2) := by decide +kernel
theorem dX4_readFrom_99 : decode cX4_readFrom 99 = .ok (.bipush 111, 2) := by decide +kernel
theorem dX4_readFrom_101 : decode cX4_readFrom 101 = .ok (.if_icmp .ne 8, 3) := by decide +kernel
theorem dX4_readFrom_104 : decode cX4_readFrom 104 = .ok (.aload_n 0, 1) := by decide +kernel
theorem dX4_readFrom_105 : decode cX4_readFrom 105 = .ok (.iconst 1, 1) := by decide +kernel
theorem dX4_readFrom_106 : decode cX4_readFrom 106 = .ok (.putfield 22, 3) := by decide +kernel
theorem dX4_readFrom_109 : decode cX4_readFrom 109 = .ok (.iload 4, 2) := by decide +kernel
theorem dX4_readFrom_111 : decode cX4_readFrom 111 = .ok (.istore_n 2, 1) := by decide +kernel
theorem dX4_readFrom_112 : decode cX4_readFrom 112 = .ok (.iinc 3 1, 3) := by decide +kernel
theorem dX4_readFrom_115 : decode cX4_readFrom 115 = .ok (.goto (-91), 3) := by decide +kernel
theorem dX4_readFrom_118 : decode cX4_readFrom 118 = .ok (.return_, 1) := by decide +kernel
theorem dX5_init_0 : decode cX5_init 0 = .ok (.aload_n 0, 1) := by decide +kernel
theorem dX5_init_1 : decode cX5_init 1 = .ok (.invokespecial 3, 3) := by decide +kernel
theorem dX5_init_4 : decode cX5_init 4 = .ok (.aload_n 0, 1) := by decide +kernel
theorem dX5_init_5 : decode cX5_init 5 = .ok (.bipush 16, 2) := by decide +kernel
theorem dX5_init_7 : decode cX5_init 7 = .ok (.newarray .int, 2) := by decide +kernel
theorem dX5_init_9 : decode cX5_init 9 = .ok (.putfield 9, 3) := by decide +kernel
theorem dX5_init_12 : decode cX5_init 12 = .ok (.return_, 1) := by decide +kernel
theorem dX5_lettersIn_0 : decode cX5_lettersIn 0 = .ok (.iconst 0, 1) := by decide +kernel
theorem dX5_lettersIn_1 : decode cX5_lettersIn 1 = .ok (.istore_n 2, 1) := by decide +kernel
theorem dX5_lettersIn_2 : decode cX5_lettersIn 2 = .ok (.iconst 0, 1) := by decide +kernel
theorem dX5_lettersIn_3 : decode cX5_lettersIn 3 = .ok (.istore_n 3, 1) := by decide +kernel
theorem dX5_lettersIn_4 : decode cX5_lettersIn 4 = .ok (.iconst 0, 1) := by decide +kernel
theorem dX5_lettersIn_5 : decode cX5_lettersIn 5 = .ok (.istore 4, 2) := by decide +kernel
theorem dX5_lettersIn_7 : decode cX5_lettersIn 7 = .ok (.iload 4, 2) := by decide +kernel
theorem dX5_lettersIn_9 : decode cX5_lettersIn 9 = .ok (.bipush 8, 2) := by decide +kernel
theorem dX5_lettersIn_11 : decode cX5_lettersIn 11 = .ok (.if_icmp .ge 48, 3) := by decide +kernel
theorem dX5_lettersIn_14 : decode cX5_lettersIn 14 = .ok (.lload_n 0, 1) := by decide +kernel
theorem dX5_lettersIn_15 : decode cX5_lettersIn 15 = .ok (.iload 4, 2) := by decide +kernel
theorem dX5_lettersIn_17 : decode cX5_lettersIn 17 = .ok (.invokestatic 15, 3) := by decide +kernel
theorem dX5_lettersIn_20 : decode cX5_lettersIn 20 = .ok (.istore 5, 2) := by decide +kernel
theorem dX5_lettersIn_22 : decode cX5_lettersIn 22 = .ok (.iload 5, 2) := by decide +kernel
theorem dX5_lettersIn_24 : decode cX5_lettersIn 24 = .ok (.bipush 126, 2) := by decide +kernel
theorem dX5_lettersIn_26 : decode cX5_lettersIn 26 = .ok (.if_icmp .gt 12, 3) := by decide +kernel
theorem dX5_lettersIn_29 : decode cX5_lettersIn 29 = .ok (.iload_n 3, 1) := by decide +kernel
theorem dX5_lettersIn_30 : decode cX5_lettersIn 30 = .ok (.ifCond .eq 10, 3) := by decide +kernel
theorem dX5_lettersIn_33 : decode cX5_lettersIn 33 = .ok (.iload 5, 2) := by decide +kernel
theorem dX5_lettersIn_35 : decode cX5_lettersIn 35 = .ok (.ifCond .eq 5, 3) := by decide +kernel
theorem dX5_lettersIn_38 : decode cX5_lettersIn 38 = .ok (.iconst (-1), 1) := by decide +kernel
theorem dX5_lettersIn_39 : decode cX5_lettersIn 39 = .ok (.ireturn, 1) := by decide +kernel
theorem dX5_lettersIn_40 : decode cX5_lettersIn 40 = .ok (.iload 5, 2) := by decide +kernel
theorem dX5_lettersIn_42 : decode cX5_lettersIn 42 = .ok (.ifCond .ne 8, 3) := by decide +kernel
theorem dX5_lettersIn_45 : decode cX5_lettersIn 45 = .ok (.iconst 1, 1) := by decide +kernel
theorem dX5_lettersIn_46 : decode cX5_lettersIn 46 = .ok (.istore_n 3, 1) := by decide +kernel
theorem dX5_lettersIn_47 : decode cX5_lettersIn 47 = .ok (.goto 6, 3) := by decide +kernel
theorem dX5_lettersIn_50 : decode cX5_lettersIn 50 = .ok (.iinc 2 1, 3) := by decide +kernel
theorem dX5_lettersIn_53 : decode cX5_lettersIn 53 = .ok (.iinc 4 1, 3) := by decide +kernel
theorem dX5_lettersIn_56 : decode cX5_lettersIn 56 = .ok (.goto (-49), 3) := by decide +kernel
theorem dX5_lettersIn_59 : decode cX5_lettersIn 59 = .ok (.iload_n 2, 1) := by decide +kernel
theorem dX5_lettersIn_60 : decode cX5_lettersIn 60 = .ok (.ireturn, 1) := by decide +kernel
theorem dX5_byteOf_0 : decode cX5_byteOf 0 = .ok (.lload_n 0, 1) := by decide +kernel
theorem dX5_byteOf_1 : decode cX5_byteOf 1 = .ok (.bipush 8, 2) := by decide +kernel
theorem dX5_byteOf_3 : decode cX5_byteOf 3 = .ok (.iload_n 2, 1) := by decide +kernel
theorem dX5_byteOf_4 : decode cX5_byteOf 4 = .ok (.imul, 1) := by decide +kernel
theorem dX5_byteOf_5 : decode cX5_byteOf 5 = .ok (.lushr, 1) := by decide +kernel
theorem dX5_byteOf_6 : decode cX5_byteOf 6 = .ok (.ldc2_w 19, 3) := by decide +kernel
theorem dX5_byteOf_9 : decode cX5_byteOf 9 = .ok (.land, 1) := by decide +kernel
theorem dX5_byteOf_10 : decode cX5_byteOf 10 = .ok (.l2i, 1) := by decide +kernel
theorem dX5_byteOf_11 : decode cX5_byteOf 11 = .ok (.ireturn, 1) := by decide +kernel
theorem dX5_append_0 : decode cX5_append 0 = .ok (.iconst 0, 1) := by decide +kernel
theorem dX5_append_1 : decode cX5_append 1 = .ok (.istore 4, 2) := by decide +kernel
theorem dX5_append_3 : decode cX5_append 3 = .ok (.iload 4, 2) := by decide +kernel
theorem dX5_append_5 : decode cX5_append 5 = .ok (.iload_n 3, 1) := by decide +kernel
theorem dX5_append_6 : decode cX5_append 6 = .ok (.if_icmp .ge 43, 3) := by decide +kernel
theorem dX5_append_9 : decode cX5_append 9 = .ok (.aload_n 0, 1) := by decide +kernel
theorem dX5_append_10 : decode cX5_append 10 = .ok (.getfield 21, 3) := by decide +kernel
theorem dX5_append_13 : decode cX5_append 13 = .ok (.bipush 16, 2) := by decide +kernel
theorem dX5_append_15 : decode cX5_append 15 = .ok (.if_icmp .ge 34, 3) := by decide +kernel
theorem dX5_append_18 : decode cX5_append 18 = .ok (.aload_n 0, 1) := by decide +kernel
theorem dX5_append_19 : decode cX5_append 19 = .ok (.getfield 9, 3) := by decide +kernel
theorem dX5_append_22 : decode cX5_append 22 = .ok (.aload_n 0, 1) := by decide +kernel
theorem dX5_append_23 : decode cX5_append 23 = .ok (.getfield 21, 3) := by decide +kernel
theorem dX5_append_26 : decode cX5_append 26 = .ok (.lload_n 1, 1) := by decide +kernel
theorem dX5_append_27 : decode cX5_append 27 = .ok (.iload 4, 2) := by decide +kernel
theorem dX5_append_29 : decode cX5_append 29 = .ok (.invokestatic 15, 3) := by decide +kernel
theorem dX5_append_32 : decode cX5_append 32 = .ok (.iastore, 1) := by decide +kernel
theorem dX5_append_33 : decode cX5_append 33 = .ok (.aload_n 0, 1) := by decide +kernel
theorem dX5_append_34 : decode cX5_append 34 = .ok (.dup, 1) := by decide +kernel
theorem dX5_append_35 : decode cX5_append 35 = .ok (.getfield 21, 3) := by decide +kernel
theorem dX5_append_38 : decode cX5_append 38 = .ok (.iconst 1, 1) := by decide +kernel
theorem dX5_append_39 : decode cX5_append 39 = .ok (.iadd, 1) := by decide +kernel
theorem dX5_append_40 : decode cX5_append 40 = .ok (.putfield 21, 3) := by decide +kernel
theorem dX5_append_43 : decode cX5_append 43 = .ok (.iinc 4 1, 3) := by decide +kernel
theorem dX5_append_46 : decode cX5_append 46 = .ok (.goto (-43), 3) := by decide +kernel
theorem dX5_append_49 : decode cX5_append 49 = .ok (.return_, 1) := by decide +kernel
theorem dX5_firstFault_0 : decode cX5_firstFault 0 = .ok (.iconst 0, 1) := by decide +kernel
theorem dX5_firstFault_1 : decode cX5_firstFault 1 = .ok (.istore_n 1, 1) := by decide +kernel
theorem dX5_firstFault_2 : decode cX5_firstFault 2 = .ok (.iconst 0, 1) := by decide +kernel
theorem dX5_firstFault_3 : decode cX5_firstFault 3 = .ok (.istore_n 2, 1) := by decide +kernel
theorem dX5_firstFault_4 : decode cX5_firstFault 4 = .ok (.iload_n 2, 1) := by decide +kernel
theorem dX5_firstFault_5 : decode cX5_firstFault 5 = .ok (.aload_n 0, 1) := by decide +kernel
theorem dX5_firstFault_6 : decode cX5_firstFault 6 = .ok (.getfield 21, 3) := by decide +kernel
theorem dX5_firstFault_9 : decode cX5_firstFault 9 = .ok (.if_icmp .ge 33, 3) := by decide +kernel
theorem dX5_firstFault_12 : decode cX5_firstFault 12 = .ok (.iload_n 2, 1) := by decide +kernel
theorem dX5_firstFault_13 : decode cX5_firstFault 13 = .ok (.bipush 16, 2) := by decide +kernel
theorem dX5_firstFault_15 : decode cX5_firstFault 15 = .ok (.if_icmp .ge 27, 3) := by decide +kernel
theorem dX5_firstFault_18 : decode cX5_firstFault 18 = .ok (.iload_n 1, 1) := by decide +kernel
theorem dX5_firstFault_19 : decode cX5_firstFault 19 = .ok (.aload_n 0, 1) := by decide +kernel
theorem dX5_firstFault_20 : decode cX5_firstFault 20 = .ok (.getfield 9, 3) := by decide +kernel
theorem dX5_firstFault_23 : decode cX5_firstFault 23 = .ok (.iload_n 2, 1) := by decide +kernel
theorem dX5_firstFault_24 : decode cX5_firstFault 24 = .ok (.iaload, 1) := by decide +kernel
theorem dX5_firstFault_25 : decode cX5_firstFault 25 = .ok (.invokestatic 25, 3) := by decide +kernel
theorem dX5_firstFault_28 : decode cX5_firstFault 28 = .ok (.istore_n 1, 1) := by decide +kernel
theorem dX5_firstFault_29 : decode cX5_firstFault 29 = .ok (.iload_n 1, 1) := by decide +kernel
theorem dX5_firstFault_30 : decode cX5_firstFault 30 = .ok (.iconst (-1), 1) := by decide +kernel
theorem dX5_firstFault_31 : decode cX5_firstFault 31 = .ok (.if_icmp .ne 5, 3) := by decide +kernel
theorem dX5_firstFault_34 : decode cX5_firstFault 34 = .ok (.iload_n 2, 1) := by decide +kernel
theorem dX5_firstFault_35 : decode cX5_firstFault 35 = .ok (.ireturn, 1) := by decide +kernel
theorem dX5_firstFault_36 : decode cX5_firstFault 36 = .ok (.iinc 2 1, 3) := by decide +kernel
theorem dX5_firstFault_39 : decode cX5_firstFault 39 = .ok (.goto (-35), 3) := by decide +kernel
theorem dX5_firstFault_42 : decode cX5_firstFault 42 = .ok (.aload_n 0, 1) := by decide +kernel
theorem dX5_firstFault_43 : decode cX5_firstFault 43 = .ok (.getfield 21, 3) := by decide +kernel
theorem dX5_firstFault_46 : decode cX5_firstFault 46 = .ok (.ireturn, 1) := by decide +kernel
theorem dX5_isLaw_0 : decode cX5_isLaw 0 = .ok (.iconst 0, 1) := by decide +kernel
theorem dX5_isLaw_1 : decode cX5_isLaw 1 = .ok (.istore_n 1, 1) := by decide +kernel
theorem dX5_isLaw_2 : decode cX5_isLaw 2 = .ok (.iconst 0, 1) := by decide +kernel
theorem dX5_isLaw_3 : decode cX5_isLaw 3 = .ok (.istore_n 2, 1) := by decide +kernel
theorem dX5_isLaw_4 : decode cX5_isLaw 4 = .ok (.iload_n 2, 1) := by decide +kernel
theorem dX5_isLaw_5 : decode cX5_isLaw 5 = .ok (.aload_n 0, 1) := by decide +kernel
theorem dX5_isLaw_6 : decode cX5_isLaw 6 = .ok (.getfield 21, 3) := by decide +kernel
theorem dX5_isLaw_9 : decode cX5_isLaw 9 = .ok (.if_icmp .ge 31, 3) := by decide +kernel
theorem dX5_isLaw_12 : decode cX5_isLaw 12 = .ok (.iload_n 2, 1) := by decide +kernel
theorem dX5_isLaw_13 : decode cX5_isLaw 13 = .ok (.bipush 16, 2) := by decide +kernel
theorem dX5_isLaw_15 : decode cX5_isLaw 15 = .ok (.if_icmp .ge 25, 3) := by decide +kernel
theorem dX5_isLaw_18 : decode cX5_isLaw 18 = .ok (.iload_n 1, 1) := by decide +kernel
theorem dX5_isLaw_19 : decode cX5_isLaw 19 = .ok (.iconst (-1), 1) := by decide +kernel
theorem dX5_isLaw_20 : decode cX5_isLaw 20 = .ok (.if_icmp .eq 20, 3) := by decide +kernel
theorem dX5_isLaw_23 : decode cX5_isLaw 23 = .ok (.iload_n 1, 1) := by decide +kernel
theorem dX5_isLaw_24 : decode cX5_isLaw 24 = .ok (.aload_n 0, 1) := by decide +kernel
theorem dX5_isLaw_25 : decode cX5_isLaw 25 = .ok (.getfield 9, 3) := by decide +kernel
theorem dX5_isLaw_28 : decode cX5_isLaw 28 = .ok (.iload_n 2, 1) := by decide +kernel
theorem dX5_isLaw_29 : decode cX5_isLaw 29 = .ok (.iaload, 1) := by decide +kernel
theorem dX5_isLaw_30 : decode cX5_isLaw 30 = .ok (.invokestatic 25, 3) := by decide +kernel
theorem dX5_isLaw_33 : decode cX5_isLaw 33 = .ok (.istore_n 1, 1) := by decide +kernel
theorem dX5_isLaw_34 : decode cX5_isLaw 34 = .ok (.iinc 2 1, 3) := by decide +kernel
theorem dX5_isLaw_37 : decode cX5_isLaw 37 = .ok (.goto (-33), 3) := by decide +kernel
theorem dX5_isLaw_40 : decode cX5_isLaw 40 = .ok (.iload_n 1, 1) := by decide +kernel
theorem dX5_isLaw_41 : decode cX5_isLaw 41 = .ok (.iconst (-1), 1) := by decide +kernel
theorem dX5_isLaw_42 : decode cX5_isLaw 42 = .ok (.if_icmp .eq 17, 3) := by decide +kernel
theorem dX5_isLaw_45 : decode cX5_isLaw 45 = .ok (.iload_n 1, 1) := by decide +kernel
theorem dX5_isLaw_46 : decode cX5_isLaw 46 = .ok (.iconst 1, 1) := by decide +kernel
theorem dX5_isLaw_47 : decode cX5_isLaw 47 = .ok (.if_icmp .eq 12, 3) := by decide +kernel
theorem dX5_isLaw_50 : decode cX5_isLaw 50 = .ok (.iload_n 1, 1) := by decide +kernel
theorem dX5_isLaw_51 : decode cX5_isLaw 51 = .ok (.iconst 5, 1) := by decide +kernel
theorem dX5_isLaw_52 : decode cX5_isLaw 52 = .ok (.if_icmp .eq 7, 3) := by decide +kernel
theorem dX5_isLaw_55 : decode cX5_isLaw 55 = .ok (.iconst 1, 1) := by decide +kernel
theorem dX5_isLaw_56 : decode cX5_isLaw 56 = .ok (.goto 4, 3) := by decide +kernel
theorem dX5_isLaw_59 : decode cX5_isLaw 59 = .ok (.iconst 0, 1) := by decide +kernel
theorem dX5_isLaw_60 : decode cX5_isLaw 60 = .ok (.ireturn, 1) := by decide +kernel
theorem dX5_behind_0 : decode cX5_behind 0 = .ok (.iload_n 0, 1) := by decide +kernel
theorem dX5_behind_1 : decode cX5_behind 1 = .ok (.iconst 1, 1) := by decide +kernel
theorem dX5_behind_2 : decode cX5_behind 2 = .ok (.if_icmp .ne 20, 3) := by decide +kernel
theorem dX5_behind_5 : decode cX5_behind 5 = .ok (.iload_n 1, 1) := by decide +kernel
theorem dX5_behind_6 : decode cX5_behind 6 = .ok (.bipush 49, 2) := by decide +kernel
theorem dX5_behind_8 : decode cX5_behind 8 = .ok (.bipush 51, 2) := by decide +kernel
theorem dX5_behind_10 : decode cX5_behind 10 = .ok (.invokestatic 29, 3) := by decide +kernel
theorem dX5_behind_13 : decode cX5_behind 13 = .ok (.ifCond .eq 7, 3) := by decide +kernel
theorem dX5_behind_16 : decode cX5_behind 16 = .ok (.iconst 2, 1) := by decide +kernel
theorem dX5_behind_17 : decode cX5_behind 17 = .ok (.goto 4, 3) := by decide +kernel
theorem dX5_behind_20 : decode cX5_behind 20 = .ok (.iconst (-1), 1) := by decide +kernel
theorem dX5_behind_21 : decode cX5_behind 21 = .ok (.ireturn, 1) := by decide +kernel
theorem dX5_behind_22 : decode cX5_behind 22 = .ok (.iload_n 0, 1) := by decide +kernel
theorem dX5_behind_23 : decode cX5_behind 23 = .ok (.iconst 5, 1) := by decide +kernel
theorem dX5_behind_24 : decode cX5_behind 24 = .ok (.if_icmp .ne 21, 3) := by decide +kernel
theorem dX5_behind_27 : decode cX5_behind 27 = .ok (.iload_n 1, 1) := by decide +kernel
theorem dX5_behind_28 : decode cX5_behind 28 = .ok (.bipush 49, 2) := by decide +kernel
theorem dX5_behind_30 : decode cX5_behind 30 = .ok (.bipush 57, 2) := by decide +kernel
theorem dX5_behind_32 : decode cX5_behind 32 = .ok (.invokestatic 29, 3) := by decide +kernel
theorem dX5_behind_35 : decode cX5_behind 35 = .ok (.ifCond .eq 8, 3) := by decide +kernel
theorem dX5_behind_38 : decode cX5_behind 38 = .ok (.bipush 6, 2) := by decide +kernel
theorem dX5_behind_40 : decode cX5_behind 40 = .ok (.goto 4, 3) := by decide +kernel
theorem dX5_behind_43 : decode cX5_behind 43 = .ok (.iconst (-1), 1) := by decide +kernel
theorem dX5_behind_44 : decode cX5_behind 44 = .ok (.ireturn, 1) := by decide +kernel
theorem dX5_behind_45 : decode cX5_behind 45 = .ok (.iload_n 1, 1) := by decide +kernel
theorem dX5_behind_46 : decode cX5_behind 46 = .ok (.bipush 107, 2) := by decide +kernel
theorem dX5_behind_48 : decode cX5_behind 48 = .ok (.if_icmp .ne 9, 3) := by decide +kernel
theorem dX5_behind_51 : decode cX5_behind 51 = .ok (.iload_n 0, 1) := by decide +kernel
theorem dX5_behind_52 : decode cX5_behind 52 = .ok (.ifCond .ne 5, 3) := by decide +kernel
theorem dX5_behind_55 : decode cX5_behind 55 = .ok (.iconst 1, 1) := by decide +kernel
theorem dX5_behind_56 : decode cX5_behind 56 = .ok (.ireturn, 1) := by decide +kernel
theorem dX5_behind_57 : decode cX5_behind 57 = .ok (.iload_n 1, 1) := by decide +kernel
theorem dX5_behind_58 : decode cX5_behind 58 = .ok (.bipush 98, 2) := by decide +kernel
theorem dX5_behind_60 : decode cX5_behind 60 = .ok (.if_icmp .ne 10, 3) := by decide +kernel
theorem dX5_behind_63 : decode cX5_behind 63 = .ok (.iload_n 0, 1) := by decide +kernel
theorem dX5_behind_64 : decode cX5_behind 64 = .ok (.iconst 3, 1) := by decide +kernel
theorem dX5_behind_65 : decode cX5_behind 65 = .ok (.if_icmp .ge 5, 3) := by decide +kernel
theorem dX5_behind_68 : decode cX5_behind 68 = .ok (.iconst 3, 1) := by decide +kernel
theorem dX5_behind_69 : decode cX5_behind 69 = .ok (.ireturn, 1) := by decide +kernel
theorem dX5_behind_70 : decode cX5_behind 70 = .ok (.iload_n 1, 1) := by decide +kernel
theorem dX5_behind_71 : decode cX5_behind 71 = .ok (.bipush 111, 2) := by decide +kernel
theorem dX5_behind_73 : decode cX5_behind 73 = .ok (.if_icmp .ne 10, 3) := by decide +kernel
theorem dX5_behind_76 : decode cX5_behind 76 = .ok (.iload_n 0, 1) := by decide +kernel
theorem dX5_behind_77 : decode cX5_behind 77 = .ok (.iconst 4, 1) := by decide +kernel
theorem dX5_behind_78 : decode cX5_behind 78 = .ok (.if_icmp .ge 5, 3) := by decide +kernel
theorem dX5_behind_81 : decode cX5_behind 81 = .ok (.iconst 4, 1) := by decide +kernel
theorem dX5_behind_82 : decode cX5_behind 82 = .ok (.ireturn, 1) := by decide +kernel
theorem dX5_behind_83 : decode cX5_behind 83 = .ok (.iload_n 1, 1) := by decide +kernel
theorem dX5_behind_84 : decode cX5_behind 84 = .ok (.bipush 119, 2) := by decide +kernel
theorem dX5_behind_86 : decode cX5_behind 86 = .ok (.if_icmp .ne 10, 3) := by decide +kernel
theorem dX5_behind_89 : decode cX5_behind 89 = .ok (.iload_n 0, 1) := by decide +kernel
theorem dX5_behind_90 : decode cX5_behind 90 = .ok (.iconst 5, 1) := by decide +kernel
theorem dX5_behind_91 : decode cX5_behind 91 = .ok (.if_icmp .ge 5, 3) := by decide +kernel
theorem dX5_behind_94 : decode cX5_behind 94 = .ok (.iconst 5, 1) := by decide +kernel
theorem dX5_behind_95 : decode cX5_behind 95 = .ok (.ireturn, 1) := by decide +kernel
theorem dX5_behind_96 : decode cX5_behind 96 = .ok (.iconst (-1), 1) := by decide +kernel
theorem dX5_behind_97 : decode cX5_behind 97 = .ok (.ireturn, 1) := by decide +kernel
theorem dX6_init_0 : decode cX6_init 0 = .ok (.aload_n 0, 1) := by decide +kernel
theorem dX6_init_1 : decode cX6_init 1 = .ok (.invokespecial 3, 3) := by decide +kernel
theorem dX6_init_4 : decode cX6_init 4 = .ok (.aload_n 0, 1) := by decide +kernel
theorem dX6_init_5 : decode cX6_init 5 = .ok (.bipush 72, 2) := by decide +kernel
theorem dX6_init_7 : decode cX6_init 7 = .ok (.newarray .long, 2) := by decide +kernel
theorem dX6_init_9 : decode cX6_init 9 = .ok (.putfield 11, 3) := by decide +kernel
theorem dX6_init_12 : decode cX6_init 12 = .ok (.aload_n 0, 1) := by decide +kernel
theorem dX6_init_13 : decode cX6_init 13 = .ok (.bipush 72, 2) := by decide +kernel
theorem dX6_init_15 : decode cX6_init 15 = .ok (.newarray .long, 2) := by decide +kernel
theorem dX6_init_17 : decode cX6_init 17 = .ok (.putfield 15, 3) := by decide +kernel
theorem dX6_init_20 : decode cX6_init 20 = .ok (.return_, 1) := by decide +kernel
theorem dX7_init_0 : decode cX7_init 0 = .ok (.aload_n 0, 1) := by decide +kernel
theorem dX7_init_1 : decode cX7_init 1 = .ok (.invokespecial 3, 3) := by decide +kernel
theorem dX7_init_4 : decode cX7_init 4 = .ok (.aload_n 0, 1) := by decide +kernel
theorem dX7_init_5 : decode cX7_init 5 = .ok (.bipush 8, 2) := by decide +kernel
theorem dX7_init_7 : decode cX7_init 7 = .ok (.newarray .int, 2) := by decide +kernel
theorem dX7_init_9 : decode cX7_init 9 = .ok (.putfield 9, 3) := by decide +kernel
theorem dX7_init_12 : decode cX7_init 12 = .ok (.aload_n 0, 1) := by decide +kernel
theorem dX7_init_13 : decode cX7_init 13 = .ok (.bipush 8, 2) := by decide +kernel
theorem dX7_init_15 : decode cX7_init 15 = .ok (.newarray .int, 2) := by decide +kernel
theorem dX7_init_17 : decode cX7_init 17 = .ok (.putfield 15, 3) := by decide +kernel
theorem dX7_init_20 : decode cX7_init 20 = .ok (.aload_n 0, 1) := by decide +kernel
theorem dX7_init_21 : decode cX7_init 21 = .ok (.bipush 8, 2) := by decide +kernel
theorem dX7_init_23 : decode cX7_init 23 = .ok (.newarray .int, 2) := by decide +kernel
theorem dX7_init_25 : decode cX7_init 25 = .ok (.putfield 18, 3) := by decide +kernel
theorem dX7_init_28 : decode cX7_init 28 = .ok (.aload_n 0, 1) := by decide +kernel
theorem dX7_init_29 : decode cX7_init 29 = .ok (.bipush 64, 2) := by decide +kernel
theorem dX7_init_31 : decode cX7_init 31 = .ok (.newarray .int, 2) := by decide +kernel
theorem dX7_init_33 : decode cX7_init 33 = .ok (.putfield 21, 3) := by decide +kernel
theorem dX7_init_36 : decode cX7_init 36 = .ok (.aload_n 0, 1) := by decide +kernel
theorem dX7_init_37 : decode cX7_init 37 = .ok (.bipush 64, 2) := by decide +kernel
theorem dX7_init_39 : decode cX7_init 39 = .ok (.newarray .int, 2) := by decide +kernel
theorem dX7_init_41 : decode cX7_init 41 = .ok (.putfield 24, 3) := by decide +kernel
theorem dX7_init_44 : decode cX7_init 44 = .ok (.aload_n 0, 1) := by decide +kernel
theorem dX7_init_45 : decode cX7_init 45 = .ok (.bipush 8, 2) := by decide +kernel
theorem dX7_init_47 : decode cX7_init 47 = .ok (.anewarray 27, 3) := by decide +kernel
theorem dX7_init_50 : decode cX7_init 50 = .ok (.putfield 29, 3) := by decide +kernel
theorem dX7_init_53 : decode cX7_init 53 = .ok (.iconst 0, 1) := by decide +kernel
theorem dX7_init_54 : decode cX7_init 54 = .ok (.istore_n 1, 1) := by decide +kernel
theorem dX7_init_55 : decode cX7_init 55 = .ok (.iload_n 1, 1) := by decide +kernel
theorem dX7_init_56 : decode cX7_init 56 = .ok (.bipush 8, 2) := by decide +kernel
theorem dX7_init_58 : decode cX7_init 58 = .ok (.if_icmp .ge 22, 3) := by decide +kernel
theorem dX7_init_61 : decode cX7_init 61 = .ok (.aload_n 0, 1) := by decide +kernel
theorem dX7_init_62 : decode cX7_init 62 = .ok (.getfield 29, 3) := by decide +kernel
theorem dX7_init_65 : decode cX7_init 65 = .ok (.iload_n 1, 1) := by decide +kernel
theorem dX7_init_66 : decode cX7_init 66 = .ok (.new 27, 3) := by decide +kernel
theorem dX7_init_69 : decode cX7_init 69 = .ok (.dup, 1) := by decide +kernel
theorem dX7_init_70 : decode cX7_init 70 = .ok (.invokespecial 33, 3) := by decide +kernel
theorem dX7_init_73 : decode cX7_init 73 = .ok (.aastore, 1) := by decide +kernel
theorem dX7_init_74 : decode cX7_init 74 = .ok (.iinc 1 1, 3) := by decide +kernel
theorem dX7_init_77 : decode cX7_init 77 = .ok (.goto (-22), 3) := by decide +kernel
theorem dX7_init_80 : decode cX7_init 80 = .ok (.return_, 1) := by decide +kernel
theorem dX7_copyFrom_0 : decode cX7_copyFrom 0 = .ok (.aload_n 0, 1) := by decide +kernel
theorem dX7_copyFrom_1 : decode cX7_copyFrom 1 = .ok (.aload_n 1, 1) := by decide +kernel
theorem dX7_copyFrom_2 : decode cX7_copyFrom 2 = .ok (.getfield 34, 3) := by decide +kernel
theorem dX7_copyFrom_5 : decode cX7_copyFrom 5 = .ok (.putfield 34, 3) := by decide +kernel
theorem dX7_copyFrom_8 : decode cX7_copyFrom 8 = .ok (.aload_n 1, 1) := by decide +kernel
theorem dX7_copyFrom_9 : decode cX7_copyFrom 9 = .ok (.getfield 9, 3) := by decide +kernel
theorem dX7_copyFrom_12 : decode cX7_copyFrom 12 = .ok (.iconst 0, 1) := by decide +kernel
theorem dX7_copyFrom_13 : decode cX7_copyFrom 13 = .ok (.aload_n 0, 1) := by decide +kernel
theorem dX7_copyFrom_14 : decode cX7_copyFrom 14 = .ok (.getfield 9, 3) := by decide +kernel
theorem dX7_copyFrom_17 : decode cX7_copyFrom 17 = .ok (.iconst 0, 1) := by decide +kernel
theorem dX7_copyFrom_18 : decode cX7_copyFrom 18 = .ok (.bipush 8, 2) := by decide +kernel
theorem dX7_copyFrom_20 : decode cX7_copyFrom 20 = .ok (.invokestatic 38, 3) := by decide +kernel
theorem dX7_copyFrom_23 : decode cX7_copyFrom 23 = .ok (.aload_n 1, 1) := by decide +kernel
theorem dX7_copyFrom_24 : decode cX7_copyFrom 24 = .ok (.getfield 15, 3) := by decide +kernel
theorem dX7_copyFrom_27 : decode cX7_copyFrom 27 = .ok (.iconst 0, 1) := by decide +kernel
theorem dX7_copyFrom_28 : decode cX7_copyFrom 28 = .ok (.aload_n 0, 1) := by decide +kernel
theorem dX7_copyFrom_29 : decode cX7_copyFrom 29 = .ok (.getfield 15, 3) := by decide +kernel
theorem dX7_copyFrom_32 : decode cX7_copyFrom 32 = .ok (.iconst 0, 1) := by decide +kernel
theorem dX7_copyFrom_33 : decode cX7_copyFrom 33 = .ok (.bipush 8, 2) := by decide +kernel
theorem dX7_copyFrom_35 : decode cX7_copyFrom 35 = .ok (.invokestatic 38, 3) := by decide +kernel
theorem dX7_copyFrom_38 : decode cX7_copyFrom 38 = .ok (.aload_n 1, 1) := by decide +kernel
theorem dX7_copyFrom_39 : decode cX7_copyFrom 39 = .ok (.getfield 18, 3) := by decide +kernel
theorem dX7_copyFrom_42 : decode cX7_copyFrom 42 = .ok (.iconst 0, 1) := by decide +kernel
theorem dX7_copyFrom_43 : decode cX7_copyFrom 43 = .ok (.aload_n 0, 1) := by decide +kernel
theorem dX7_copyFrom_44 : decode cX7_copyFrom 44 = .ok (.getfield 18, 3) := by decide +kernel
theorem dX7_copyFrom_47 : decode cX7_copyFrom 47 = .ok (.iconst 0, 1) := by decide +kernel
theorem dX7_copyFrom_48 : decode cX7_copyFrom 48 = .ok (.bipush 8, 2) := by decide +kernel
theorem dX7_copyFrom_50 : decode cX7_copyFrom 50 = .ok (.invokestatic 38, 3) := by decide +kernel
theorem dX7_copyFrom_53 : decode cX7_copyFrom 53 = .ok (.aload_n 1, 1) := by decide +kernel
theorem dX7_copyFrom_54 : decode cX7_copyFrom 54 = .ok (.getfield 21, 3) := by decide +kernel
theorem dX7_copyFrom_57 : decode cX7_copyFrom 57 = .ok (.iconst 0, 1) := by decide +kernel
theorem dX7_copyFrom_58 : decode cX7_copyFrom 58 = .ok (.aload_n 0, 1) := by decide +kernel
theorem dX7_copyFrom_59 : decode cX7_copyFrom 59 = .ok (.getfield 21, 3) := by decide +kernel
theorem dX7_copyFrom_62 : decode cX7_copyFrom 62 = .ok (.iconst 0, 1) := by decide +kernel
theorem dX7_copyFrom_63 : decode cX7_copyFrom 63 = .ok (.bipush 64, 2) := by decide +kernel
theorem dX7_copyFrom_65 : decode cX7_copyFrom 65 = .ok (.invokestatic 38, 3) := by decide +kernel
theorem dX7_copyFrom_68 : decode cX7_copyFrom 68 = .ok (.aload_n 1, 1) := by decide +kernel
theorem dX7_copyFrom_69 : decode cX7_copyFrom 69 = .ok (.getfield 24, 3) := by decide +kernel
theorem dX7_copyFrom_72 : decode cX7_copyFrom 72 = .ok (.iconst 0, 1) := by decide +kernel
theorem dX7_copyFrom_73 : decode cX7_copyFrom 73 = .ok (.aload_n 0, 1) := by decide +kernel
theorem dX7_copyFrom_74 : decode cX7_copyFrom 74 = .ok (.getfield 24, 3) := by decide +kernel
theorem dX7_copyFrom_77 : decode cX7_copyFrom 77 = .ok (.iconst 0, 1) := by decide +kernel
theorem dX7_copyFrom_78 : decode cX7_copyFrom 78 = .ok (.bipush 64, 2) := by decide +kernel
theorem dX7_copyFrom_80 : decode cX7_copyFrom 80 = .ok (.invokestatic 38, 3) := by decide +kernel
theorem dX7_copyFrom_83 : decode cX7_copyFrom 83 = .ok (.aload_n 0, 1) := by decide +kernel
theorem dX7_copyFrom_84 : decode cX7_copyFrom 84 = .ok (.aload_n 1, 1) := by decide +kernel
theorem dX7_copyFrom_85 : decode cX7_copyFrom 85 = .ok (.getfield 44, 3) := by decide +kernel
theorem dX7_copyFrom_88 : decode cX7_copyFrom 88 = .ok (.putfield 44, 3) := by decide +kernel
theorem dX7_copyFrom_91 : decode cX7_copyFrom 91 = .ok (.iconst 0, 1) := by decide +kernel
theorem dX7_copyFrom_92 : decode cX7_copyFrom 92 = .ok (.istore_n 2, 1) := by decide +kernel
theorem dX7_copyFrom_93 : decode cX7_copyFrom 93 = .ok (.iload_n 2, 1) := by decide +kernel
theorem dX7_copyFrom_94 : decode cX7_copyFrom 94 = .ok (.bipush 8, 2) := by decide +kernel
theorem dX7_copyFrom_96 : decode cX7_copyFrom 96 = .ok (.if_icmp .ge 24, 3) := by decide +kernel
theorem dX7_copyFrom_99 : decode cX7_copyFrom 99 = .ok (.aload_n 0, 1) := by decide +kernel
theorem dX7_copyFrom_100 : decode cX7_copyFrom 100 = .ok (.getfield 29, 3) := by decide +kernel
theorem dX7_copyFrom_103 : decode cX7_copyFrom 103 = .ok (.iload_n 2, 1) := by decide +kernel
theorem dX7_copyFrom_104 : decode cX7_copyFrom 104 = .ok (.aaload, 1) := by decide +kernel
theorem dX7_copyFrom_105 : decode cX7_copyFrom 105 = .ok (.aload_n 1, 1) := by decide +kernel
theorem dX7_copyFrom_106 : decode cX7_copyFrom 106 = .ok (.getfield 29, 3) := by decide +kernel
theorem dX7_copyFrom_109 : decode cX7_copyFrom 109 = .ok (.iload_n 2, 1) := by decide +kernel
theorem dX7_copyFrom_110 : decode cX7_copyFrom 110 = .ok (.aaload, 1) := by decide +kernel
theorem dX7_copyFrom_111 : decode cX7_copyFrom 111 = .ok (.invokevirtual 47, 3) := by decide +kernel
theorem dX7_copyFrom_114 : decode cX7_copyFrom 114 = .ok (.iinc 2 1, 3) := by decide +kernel
theorem dX7_copyFrom_117 : decode cX7_copyFrom 117 = .ok (.goto (-24), 3) := by decide +kernel
theorem dX7_copyFrom_120 : decode cX7_copyFrom 120 = .ok (.aload_n 0, 1) := by decide +kernel
theorem dX7_copyFrom_121 : decode cX7_copyFrom 121 = .ok (.aload_n 1, 1) := by decide +kernel
theorem dX7_copyFrom_122 : decode cX7_copyFrom 122 = .ok (.getfield 51, 3) := by decide +kernel
theorem dX7_copyFrom_125 : decode cX7_copyFrom 125 = .ok (.putfield 51, 3) := by decide +kernel
theorem dX7_copyFrom_128 : decode cX7_copyFrom 128 = .ok (.return_, 1) := by decide +kernel
theorem dX7_addPerson_0 : decode cX7_addPerson 0 = .ok (.aload_n 0, 1) := by decide +kernel
theorem dX7_addPerson_1 : decode cX7_addPerson 1 = .ok (.getfield 9, 3) := by decide +kernel
theorem dX7_addPerson_4 : decode cX7_addPerson 4 = .ok (.aload_n 0, 1) := by decide +kernel
theorem dX7_addPerson_5 : decode cX7_addPerson 5 = .ok (.getfield 34, 3) := by decide +kernel
theorem dX7_addPerson_8 : decode cX7_addPerson 8 = .ok (.iload_n 1, 1) := by decide +kernel
theorem dX7_addPerson_9 : decode cX7_addPerson 9 = .ok (.iastore, 1) := by decide +kernel
theorem dX7_addPerson_10 : decode cX7_addPerson 10 = .ok (.aload_n 0, 1) := by decide +kernel
theorem dX7_addPerson_11 : decode cX7_addPerson 11 = .ok (.dup, 1) := by decide +kernel
theorem dX7_addPerson_12 : decode cX7_addPerson 12 = .ok (.getfield 34, 3) := by decide +kernel
theorem dX7_addPerson_15 : decode cX7_addPerson 15 = .ok (.iconst 1, 1) := by decide +kernel
theorem dX7_addPerson_16 : decode cX7_addPerson 16 = .ok (.iadd, 1) := by decide +kernel
theorem dX7_addPerson_17 : decode cX7_addPerson 17 = .ok (.putfield 34, 3) := by decide +kernel
theorem dX7_addPerson_20 : decode cX7_addPerson 20 = .ok (.aload_n 0, 1) := by decide +kernel
theorem dX7_addPerson_21 : decode cX7_addPerson 21 = .ok (.getfield 34, 3) := by decide +kernel
theorem dX7_addPerson_24 : decode cX7_addPerson 24 = .ok (.iconst 1, 1) := by decide +kernel
theorem dX7_addPerson_25 : decode cX7_addPerson 25 = .ok (.isub, 1) := by decide +kernel
theorem dX7_addPerson_26 : decode cX7_addPerson 26 = .ok (.ireturn, 1) := by decide +kernel
theorem dX7_addGift_0 : decode cX7_addGift 0 = .ok (.aload_n 0, 1) := by decide +kernel
theorem dX7_addGift_1 : decode cX7_addGift 1 = .ok (.getfield 29, 3) := by decide +kernel
theorem dX7_addGift_4 : decode cX7_addGift 4 = .ok (.aload_n 0, 1) := by decide +kernel
theorem dX7_addGift_5 : decode cX7_addGift 5 = .ok (.getfield 44, 3) := by decide +kernel
theorem dX7_addGift_8 : decode cX7_addGift 8 = .ok (.aaload, 1) := by decide +kernel
theorem dX7_addGift_9 : decode cX7_addGift 9 = .ok (.iload_n 1, 1) := by decide +kernel
theorem dX7_addGift_10 : decode cX7_addGift 10 = .ok (.iload_n 2, 1) := by decide +kernel
theorem dX7_addGift_11 : decode cX7_addGift 11 = .ok (.invokevirtual 54, 3) := by decide +kernel
theorem dX7_addGift_14 : decode cX7_addGift 14 = .ok (.aload_n 0, 1) := by decide +kernel
theorem dX7_addGift_15 : decode cX7_addGift 15 = .ok (.dup, 1) := by decide +kernel
theorem dX7_addGift_16 : decode cX7_addGift 16 = .ok (.getfield 44, 3) := by decide +kernel
theorem dX7_addGift_19 : decode cX7_addGift 19 = .ok (.iconst 1, 1) := by decide +kernel
theorem dX7_addGift_20 : decode cX7_addGift 20 = .ok (.iadd, 1) := by decide +kernel
theorem dX7_addGift_21 : decode cX7_addGift 21 = .ok (.putfield 44, 3) := by decide +kernel
theorem dX7_addGift_24 : decode cX7_addGift 24 = .ok (.aload_n 0, 1) := by decide +kernel
theorem dX7_addGift_25 : decode cX7_addGift 25 = .ok (.getfield 44, 3) := by decide +kernel
theorem dX7_addGift_28 : decode cX7_addGift 28 = .ok (.iconst 1, 1) := by decide +kernel
theorem dX7_addGift_29 : decode cX7_addGift 29 = .ok (.isub, 1) := by decide +kernel
theorem dX7_addGift_30 : decode cX7_addGift 30 = .ok (.ireturn, 1) := by decide +kernel
theorem dX7_knows_0 : decode cX7_knows 0 = .ok (.aload_n 0, 1) := by decide +kernel
theorem dX7_knows_1 : decode cX7_knows 1 = .ok (.getfield 15, 3) := by decide +kernel
theorem dX7_knows_4 : decode cX7_knows 4 = .ok (.iload_n 1, 1) := by decide +kernel
theorem dX7_knows_5 : decode cX7_knows 5 = .ok (.iaload, 1) := by decide +kernel
theorem dX7_knows_6 : decode cX7_knows 6 = .ok (.iload_n 2, 1) := by decide +kernel
theorem dX7_knows_7 : decode cX7_knows 7 = .ok (.invokestatic 58, 3) := by decide +kernel
theorem dX7_knows_10 : decode cX7_knows 10 = .ok (.iand, 1) := by decide +kernel
theorem dX7_knows_11 : decode cX7_knows 11 = .ok (.ifCond .eq 7, 3) := by decide +kernel
theorem dX7_knows_14 : decode cX7_knows 14 = .ok (.iconst 1, 1) := by decide +kernel
theorem dX7_knows_15 : decode cX7_knows 15 = .ok (.goto 4, 3) := by decide +kernel
theorem dX7_knows_18 : decode cX7_knows 18 = .ok (.iconst 0, 1) := by decide +kernel
theorem dX7_knows_19 : decode cX7_knows 19 = .ok (.ireturn, 1) := by decide +kernel
theorem dX7_setKnown_0 : decode cX7_setKnown 0 = .ok (.aload_n 0, 1) := by decide +kernel
theorem dX7_setKnown_1 : decode cX7_setKnown 1 = .ok (.getfield 15, 3) := by decide +kernel
theorem dX7_setKnown_4 : decode cX7_setKnown 4 = .ok (.iload_n 1, 1) := by decide +kernel
theorem dX7_setKnown_5 : decode cX7_setKnown 5 = .ok (.iload_n 3, 1) := by decide +kernel
theorem dX7_setKnown_6 : decode cX7_setKnown 6 = .ok (.ifCond .eq 17, 3) := by decide +kernel
theorem dX7_setKnown_9 : decode cX7_setKnown 9 = .ok (.aload_n 0, 1) := by decide +kernel
theorem dX7_setKnown_10 : decode cX7_setKnown 10 = .ok (.getfield 15, 3) := by decide +kernel
theorem dX7_setKnown_13 : decode cX7_setKnown 13 = .ok (.iload_n 1, 1) := by decide +kernel
theorem dX7_setKnown_14 : decode cX7_setKnown 14 = .ok (.iaload, 1) := by decide +kernel
theorem dX7_setKnown_15 : decode cX7_setKnown 15 = .ok (.iload_n 2, 1) := by decide +kernel
theorem dX7_setKnown_16 : decode cX7_setKnown 16 = .ok (.invokestatic 58, 3) := by decide +kernel
theorem dX7_setKnown_19 : decode cX7_setKnown 19 = .ok (.ior, 1) := by decide +kernel
theorem dX7_setKnown_20 : decode cX7_setKnown 20 = .ok (.goto 16, 3) := by decide +kernel
theorem dX7_setKnown_23 : decode cX7_setKnown 23 = .ok (.aload_n 0, 1) := by decide +kernel
theorem dX7_setKnown_24 : decode cX7_setKnown 24 = .ok (.getfield 15, 3) := by decide +kernel
theorem dX7_setKnown_27 : decode cX7_setKnown 27 = .ok (.iload_n 1, 1) := by decide +kernel
theorem dX7_setKnown_28 : decode cX7_setKnown 28 = .ok (.iaload, 1) := by decide +kernel
theorem dX7_setKnown_29 : decode cX7_setKnown 29 = .ok (.iload_n 2, 1) := by decide +kernel
theorem dX7_setKnown_30 : decode cX7_setKnown 30 = .ok (.invokestatic 58, 3) := by decide +kernel
theorem dX7_setKnown_33 : decode cX7_setKnown 33 = .ok (.iconst (-1), 1) := by decide +kernel
theorem dX7_setKnown_34 : decode cX7_setKnown 34 = .ok (.ixor, 1) := by decide +kernel
theorem dX7_setKnown_35 : decode cX7_setKnown 35 = .ok (.iand, 1) := by decide +kernel
theorem dX7_setKnown_36 : decode cX7_setKnown 36 = .ok (.iastore, 1) := by decide +kernel
theorem dX7_setKnown_37 : decode cX7_setKnown 37 = .ok (.aload_n 0, 1) := by decide +kernel
theorem dX7_setKnown_38 : decode cX7_setKnown 38 = .ok (.getfield 15, 3) := by decide +kernel
theorem dX7_setKnown_41 : decode cX7_setKnown 41 = .ok (.iload_n 2, 1) := by decide +kernel
theorem dX7_setKnown_42 : decode cX7_setKnown 42 = .ok (.iload_n 3, 1) := by decide +kernel
theorem dX7_setKnown_43 : decode cX7_setKnown 43 = .ok (.ifCond .eq 17, 3) := by decide +kernel
theorem dX7_setKnown_46 : decode cX7_setKnown 46 = .ok (.aload_n 0, 1) := by decide +kernel
theorem dX7_setKnown_47 : decode cX7_setKnown 47 = .ok (.getfield 15, 3) := by decide +kernel
theorem dX7_setKnown_50 : decode cX7_setKnown 50 = .ok (.iload_n 2, 1) := by decide +kernel
theorem dX7_setKnown_51 : decode cX7_setKnown 51 = .ok (.iaload, 1) := by decide +kernel
theorem dX7_setKnown_52 : decode cX7_setKnown 52 = .ok (.iload_n 1, 1) := by decide +kernel
theorem dX7_setKnown_53 : decode cX7_setKnown 53 = .ok (.invokestatic 58, 3) := by decide +kernel
theorem dX7_setKnown_56 : decode cX7_setKnown 56 = .ok (.ior, 1) := by decide +kernel
theorem dX7_setKnown_57 : decode cX7_setKnown 57 = .ok (.goto 16, 3) := by decide +kernel
theorem dX7_setKnown_60 : decode cX7_setKnown 60 = .ok (.aload_n 0, 1) := by decide +kernel
theorem dX7_setKnown_61 : decode cX7_setKnown 61 = .ok (.getfield 15, 3) := by decide +kernel
theorem dX7_setKnown_64 : decode cX7_setKnown 64 = .ok (.iload_n 2, 1) := by decide +kernel
theorem dX7_setKnown_65 : decode cX7_setKnown 65 = .ok (.iaload, 1) := by decide +kernel
theorem dX7_setKnown_66 : decode cX7_setKnown 66 = .ok (.iload_n 1, 1) := by decide +kernel
theorem dX7_setKnown_67 : decode cX7_setKnown 67 = .ok (.invokestatic 58, 3) := by decide +kernel
theorem dX7_setKnown_70 : decode cX7_setKnown 70 = .ok (.iconst (-1), 1) := by decide +kernel
theorem dX7_setKnown_71 : decode cX7_setKnown 71 = .ok (.ixor, 1) := by decide +kernel
theorem dX7_setKnown_72 : decode cX7_setKnown 72 = .ok (.iand, 1) := by decide +kernel
theorem dX7_setKnown_73 : decode cX7_setKnown 73 = .ok (.iastore, 1) := by decide +kernel
theorem dX7_setKnown_74 : decode cX7_setKnown 74 = .ok (.return_, 1) := by decide +kernel
theorem dX7_heldBy_0 : decode cX7_heldBy 0 = .ok (.iconst 0, 1) := by decide +kernel
theorem dX7_heldBy_1 : decode cX7_heldBy 1 = .ok (.istore_n 2, 1) := by decide +kernel
theorem dX7_heldBy_2 : decode cX7_heldBy 2 = .ok (.iconst 0, 1) := by decide +kernel
theorem dX7_heldBy_3 : decode cX7_heldBy 3 = .ok (.istore_n 3, 1) := by decide +kernel
theorem dX7_heldBy_4 : decode cX7_heldBy 4 = .ok (.iload_n 3, 1) := by decide +kernel
theorem dX7_heldBy_5 : decode cX7_heldBy 5 = .ok (.aload_n 0, 1) := by decide +kernel
theorem dX7_heldBy_6 : decode cX7_heldBy 6 = .ok (.getfield 44, 3) := by decide +kernel
theorem dX7_heldBy_9 : decode cX7_heldBy 9 = .ok (.if_icmp .ge 37, 3) := by decide +kernel
theorem dX7_heldBy_12 : decode cX7_heldBy 12 = .ok (.aload_n 0, 1) := by decide +kernel
theorem dX7_heldBy_13 : decode cX7_heldBy 13 = .ok (.getfield 29, 3) := by decide +kernel
theorem dX7_heldBy_16 : decode cX7_heldBy 16 = .ok (.iload_n 3, 1) := by decide +kernel
theorem dX7_heldBy_17 : decode cX7_heldBy 17 = .ok (.aaload, 1) := by decide +kernel
theorem dX7_heldBy_18 : decode cX7_heldBy 18 = .ok (.invokevirtual 62, 3) := by decide +kernel
theorem dX7_heldBy_21 : decode cX7_heldBy 21 = .ok (.ifCond .eq 19, 3) := by decide +kernel
theorem dX7_heldBy_24 : decode cX7_heldBy 24 = .ok (.aload_n 0, 1) := by decide +kernel
theorem dX7_heldBy_25 : decode cX7_heldBy 25 = .ok (.getfield 29, 3) := by decide +kernel
theorem dX7_heldBy_28 : decode cX7_heldBy 28 = .ok (.iload_n 3, 1) := by decide +kernel
theorem dX7_heldBy_29 : decode cX7_heldBy 29 = .ok (.aaload, 1) := by decide +kernel
theorem dX7_heldBy_30 : decode cX7_heldBy 30 = .ok (.getfield 66, 3) := by decide +kernel
theorem dX7_heldBy_33 : decode cX7_heldBy 33 = .ok (.iload_n 1, 1) := by decide +kernel
theorem dX7_heldBy_34 : decode cX7_heldBy 34 = .ok (.if_icmp .ne 6, 3) := by decide +kernel
theorem dX7_heldBy_37 : decode cX7_heldBy 37 = .ok (.iinc 2 1, 3) := by decide +kernel
theorem dX7_heldBy_40 : decode cX7_heldBy 40 = .ok (.iinc 3 1, 3) := by decide +kernel
theorem dX7_heldBy_43 : decode cX7_heldBy 43 = .ok (.goto (-39), 3) := by decide +kernel
theorem dX7_heldBy_46 : decode cX7_heldBy 46 = .ok (.iload_n 2, 1) := by decide +kernel
theorem dX7_heldBy_47 : decode cX7_heldBy 47 = .ok (.ireturn, 1) := by decide +kernel
theorem dX7_living_0 : decode cX7_living 0 = .ok (.iconst 0, 1) := by decide +kernel
theorem dX7_living_1 : decode cX7_living 1 = .ok (.istore_n 1, 1) := by decide +kernel
theorem dX7_living_2 : decode cX7_living 2 = .ok (.iconst 0, 1) := by decide +kernel
theorem dX7_living_3 : decode cX7_living 3 = .ok (.istore_n 2, 1) := by decide +kernel
theorem dX7_living_4 : decode cX7_living 4 = .ok (.iload_n 2, 1) := by decide +kernel
theorem dX7_living_5 : decode cX7_living 5 = .ok (.aload_n 0, 1) := by decide +kernel
theorem dX7_living_6 : decode cX7_living 6 = .ok (.getfield 44, 3) := by decide +kernel
theorem dX7_living_9 : decode cX7_living 9 = .ok (.if_icmp .ge 24, 3) := by decide +kernel
theorem dX7_living_12 : decode cX7_living 12 = .ok (.aload_n 0, 1) := by decide +kernel
theorem dX7_living_13 : decode cX7_living 13 = .ok (.getfield 29, 3) := by decide +kernel
theorem dX7_living_16 : decode cX7_living 16 = .ok (.iload_n 2, 1) := by decide +kernel
theorem dX7_living_17 : decode cX7_living 17 = .ok (.aaload, 1) := by decide +kernel
theorem dX7_living_18 : decode cX7_living 18 = .ok (.invokevirtual 62, 3) := by decide +kernel
theorem dX7_living_21 : decode cX7_living 21 = .ok (.ifCond .eq 6, 3) := by decide +kernel
theorem dX7_living_24 : decode cX7_living 24 = .ok (.iinc 1 1, 3) := by decide +kernel
theorem dX7_living_27 : decode cX7_living 27 = .ok (.iinc 2 1, 3) := by decide +kernel
theorem dX7_living_30 : decode cX7_living 30 = .ok (.goto (-26), 3) := by decide +kernel
theorem dX7_living_33 : decode cX7_living 33 = .ok (.iload_n 1, 1) := by decide +kernel
theorem dX7_living_34 : decode cX7_living 34 = .ok (.ireturn, 1) := by decide +kernel
theorem dX7_allFeasts_0 : decode cX7_allFeasts 0 = .ok (.iconst 0, 1) := by decide +kernel
theorem dX7_allFeasts_1 : decode cX7_allFeasts 1 = .ok (.istore_n 1, 1) := by decide +kernel
theorem dX7_allFeasts_2 : decode cX7_allFeasts 2 = .ok (.iconst 0, 1) := by decide +kernel
theorem dX7_allFeasts_3 : decode cX7_allFeasts 3 = .ok (.istore_n 2, 1) := by decide +kernel
theorem dX7_allFeasts_4 : decode cX7_allFeasts 4 = .ok (.iload_n 2, 1) := by decide +kernel
theorem dX7_allFeasts_5 : decode cX7_allFeasts 5 = .ok (.aload_n 0, 1) := by decide +kernel
theorem dX7_allFeasts_6 : decode cX7_allFeasts 6 = .ok (.getfield 34, 3) := by decide +kernel
theorem dX7_allFeasts_9 : decode cX7_allFeasts 9 = .ok (.if_icmp .ge 18, 3) := by decide +kernel
theorem dX7_allFeasts_12 : decode cX7_allFeasts 12 = .ok (.iload_n 1, 1) := by decide +kernel
theorem dX7_allFeasts_13 : decode cX7_allFeasts 13 = .ok (.aload_n 0, 1) := by decide +kernel
theorem dX7_allFeasts_14 : decode cX7_allFeasts 14 = .ok (.getfield 18, 3) := by decide +kernel
theorem dX7_allFeasts_17 : decode cX7_allFeasts 17 = .ok (.iload_n 2, 1) := by decide +kernel
theorem dX7_allFeasts_18 : decode cX7_allFeasts 18 = .ok (.iaload, 1) := by decide +kernel
theorem dX7_allFeasts_19 : decode cX7_allFeasts 19 = .ok (.iadd, 1) := by decide +kernel
theorem dX7_allFeasts_20 : decode cX7_allFeasts 20 = .ok (.istore_n 1, 1) := by decide +kernel
theorem dX7_allFeasts_21 : decode cX7_allFeasts 21 = .ok (.iinc 2 1, 3) := by decide +kernel
theorem dX7_allFeasts_24 : decode cX7_allFeasts 24 = .ok (.goto (-20), 3) := by decide +kernel
theorem dX7_allFeasts_27 : decode cX7_allFeasts 27 = .ok (.iload_n 1, 1) := by decide +kernel
theorem dX7_allFeasts_28 : decode cX7_allFeasts 28 = .ok (.ireturn, 1) := by decide +kernel
theorem dX7_balance_0 : decode cX7_balance 0 = .ok (.iconst 0, 1) := by decide +kernel
theorem dX7_balance_1 : decode cX7_balance 1 = .ok (.istore_n 2, 1) := by decide +kernel
theorem dX7_balance_2 : decode cX7_balance 2 = .ok (.iconst 0, 1) := by decide +kernel
theorem dX7_balance_3 : decode cX7_balance 3 = .ok (.istore_n 3, 1) := by decide +kernel
theorem dX7_balance_4 : decode cX7_balance 4 = .ok (.iload_n 3, 1) := by decide +kernel
theorem dX7_balance_5 : decode cX7_balance 5 = .ok (.aload_n 0, 1) := by decide +kernel
theorem dX7_balance_6 : decode cX7_balance 6 = .ok (.getfield 34, 3) := by decide +kernel
theorem dX7_balance_9 : decode cX7_balance 9 = .ok (.if_icmp .ge 33, 3) := by decide +kernel
theorem dX7_balance_12 : decode cX7_balance 12 = .ok (.iload_n 2, 1) := by decide +kernel
theorem dX7_balance_13 : decode cX7_balance 13 = .ok (.aload_n 0, 1) := by decide +kernel
theorem dX7_balance_14 : decode cX7_balance 14 = .ok (.getfield 24, 3) := by decide +kernel
theorem dX7_balance_17 : decode cX7_balance 17 = .ok (.iload_n 3, 1) := by decide +kernel
theorem dX7_balance_18 : decode cX7_balance 18 = .ok (.iload_n 1, 1) := by decide +kernel
theorem dX7_balance_19 : decode cX7_balance 19 = .ok (.invokestatic 69, 3) := by decide +kernel
theorem dX7_balance_22 : decode cX7_balance 22 = .ok (.iaload, 1) := by decide +kernel
theorem dX7_balance_23 : decode cX7_balance 23 = .ok (.aload_n 0, 1) := by decide +kernel
theorem dX7_balance_24 : decode cX7_balance 24 = .ok (.getfield 24, 3) := by decide +kernel
theorem dX7_balance_27 : decode cX7_balance 27 = .ok (.iload_n 1, 1) := by decide +kernel
theorem dX7_balance_28 : decode cX7_balance 28 = .ok (.iload_n 3, 1) := by decide +kernel
theorem dX7_balance_29 : decode cX7_balance 29 = .ok (.invokestatic 69, 3) := by decide +kernel
theorem dX7_balance_32 : decode cX7_balance 32 = .ok (.iaload, 1) := by decide +kernel
theorem dX7_balance_33 : decode cX7_balance 33 = .ok (.isub, 1) := by decide +kernel
theorem dX7_balance_34 : decode cX7_balance 34 = .ok (.iadd, 1) := by decide +kernel
theorem dX7_balance_35 : decode cX7_balance 35 = .ok (.istore_n 2, 1) := by decide +kernel
theorem dX7_balance_36 : decode cX7_balance 36 = .ok (.iinc 3 1, 3) := by decide +kernel
theorem dX7_balance_39 : decode cX7_balance 39 = .ok (.goto (-35), 3) := by decide +kernel
theorem dX7_balance_42 : decode cX7_balance 42 = .ok (.iload_n 2, 1) := by decide +kernel
theorem dX7_balance_43 : decode cX7_balance 43 = .ok (.ireturn, 1) := by decide +kernel
theorem dX7_mayHave_0 : decode cX7_mayHave 0 = .ok (.aload_n 0, 1) := by decide +kernel
theorem dX7_mayHave_1 : decode cX7_mayHave 1 = .ok (.getfield 15, 3) := by decide +kernel
theorem dX7_mayHave_4 : decode cX7_mayHave 4 = .ok (.iload_n 2, 1) := by decide +kernel
theorem dX7_mayHave_5 : decode cX7_mayHave 5 = .ok (.iaload, 1) := by decide +kernel
theorem dX7_mayHave_6 : decode cX7_mayHave 6 = .ok (.iload_n 1, 1) := by decide +kernel
theorem dX7_mayHave_7 : decode cX7_mayHave 7 = .ok (.invokestatic 58, 3) := by decide +kernel
theorem dX7_mayHave_10 : decode cX7_mayHave 10 = .ok (.iconst (-1), 1) := by decide +kernel
theorem dX7_mayHave_11 : decode cX7_mayHave 11 = .ok (.ixor, 1) := by decide +kernel
theorem dX7_mayHave_12 : decode cX7_mayHave 12 = .ok (.iand, 1) := by decide +kernel
theorem dX7_mayHave_13 : decode cX7_mayHave 13 = .ok (.istore 4, 2) := by decide +kernel
theorem dX7_mayHave_15 : decode cX7_mayHave 15 = .ok (.iload 4, 2) := by decide +kernel
theorem dX7_mayHave_17 : decode cX7_mayHave 17 = .ok (.ifCond .ne 7, 3) := by decide +kernel
theorem dX7_mayHave_20 : decode cX7_mayHave 20 = .ok (.iload_n 3, 1) := by decide +kernel
theorem dX7_mayHave_21 : decode cX7_mayHave 21 = .ok (.ifCond .ne 6, 3) := by decide +kernel
theorem dX7_mayHave_24 : decode cX7_mayHave 24 = .ok (.iload 4, 2) := by decide +kernel
theorem dX7_mayHave_26 : decode cX7_mayHave 26 = .ok (.ireturn, 1) := by decide +kernel
theorem dX7_mayHave_27 : decode cX7_mayHave 27 = .ok (.aload_n 0, 1) := by decide +kernel
theorem dX7_mayHave_28 : decode cX7_mayHave 28 = .ok (.getfield 15, 3) := by decide +kernel
theorem dX7_mayHave_31 : decode cX7_mayHave 31 = .ok (.iload_n 2, 1) := by decide +kernel
theorem dX7_mayHave_32 : decode cX7_mayHave 32 = .ok (.iaload, 1) := by decide +kernel
theorem dX7_mayHave_33 : decode cX7_mayHave 33 = .ok (.iload_n 1, 1) := by decide +kernel
theorem dX7_mayHave_34 : decode cX7_mayHave 34 = .ok (.invokestatic 58, 3) := by decide +kernel
theorem dX7_mayHave_37 : decode cX7_mayHave 37 = .ok (.iand, 1) := by decide +kernel
theorem dX7_mayHave_38 : decode cX7_mayHave 38 = .ok (.ireturn, 1) := by decide +kernel
theorem dX7_handOn_0 : decode cX7_handOn 0 = .ok (.aload_n 0, 1) := by decide +kernel
theorem dX7_handOn_1 : decode cX7_handOn 1 = .ok (.getfield 24, 3) := by decide +kernel
theorem dX7_handOn_4 : decode cX7_handOn 4 = .ok (.iload_n 2, 1) := by decide +kernel
theorem dX7_handOn_5 : decode cX7_handOn 5 = .ok (.aload_n 1, 1) := by decide +kernel
theorem dX7_handOn_6 : decode cX7_handOn 6 = .ok (.getfield 66, 3) := by decide +kernel
theorem dX7_handOn_9 : decode cX7_handOn 9 = .ok (.invokestatic 69, 3) := by decide +kernel
theorem dX7_handOn_12 : decode cX7_handOn 12 = .ok (.dup2, 1) := by decide +kernel
theorem dX7_handOn_13 : decode cX7_handOn 13 = .ok (.iaload, 1) := by decide +kernel
theorem dX7_handOn_14 : decode cX7_handOn 14 = .ok (.aload_n 1, 1) := by decide +kernel
theorem dX7_handOn_15 : decode cX7_handOn 15 = .ok (.invokevirtual 73, 3) := by decide +kernel
theorem dX7_handOn_18 : decode cX7_handOn 18 = .ok (.iadd, 1) := by decide +kernel
theorem dX7_handOn_19 : decode cX7_handOn 19 = .ok (.iastore, 1) := by decide +kernel
theorem dX7_handOn_20 : decode cX7_handOn 20 = .ok (.aload_n 1, 1) := by decide +kernel
theorem dX7_handOn_21 : decode cX7_handOn 21 = .ok (.iload_n 2, 1) := by decide +kernel
theorem dX7_handOn_22 : decode cX7_handOn 22 = .ok (.iload_n 3, 1) := by decide +kernel
theorem dX7_handOn_23 : decode cX7_handOn 23 = .ok (.invokevirtual 77, 3) := by decide +kernel
theorem dX7_handOn_26 : decode cX7_handOn 26 = .ok (.aload_n 1, 1) := by decide +kernel
theorem dX7_handOn_27 : decode cX7_handOn 27 = .ok (.getfield 80, 3) := by decide +kernel
theorem dX7_handOn_30 : decode cX7_handOn 30 = .ok (.iconst 1, 1) := by decide +kernel
theorem dX7_handOn_31 : decode cX7_handOn 31 = .ok (.if_icmp .ne 13, 3) := by decide +kernel
theorem dX7_handOn_34 : decode cX7_handOn 34 = .ok (.aload_n 0, 1) := by decide +kernel
theorem dX7_handOn_35 : decode cX7_handOn 35 = .ok (.getfield 18, 3) := by decide +kernel
theorem dX7_handOn_38 : decode cX7_handOn 38 = .ok (.iload_n 2, 1) := by decide +kernel
theorem dX7_handOn_39 : decode cX7_handOn 39 = .ok (.dup2, 1) := by decide +kernel
theorem dX7_handOn_40 : decode cX7_handOn 40 = .ok (.iaload, 1) := by decide +kernel
theorem dX7_handOn_41 : decode cX7_handOn 41 = .ok (.iconst 1, 1) := by decide +kernel
theorem dX7_handOn_42 : decode cX7_handOn 42 = .ok (.iadd, 1) := by decide +kernel
theorem dX7_handOn_43 : decode cX7_handOn 43 = .ok (.iastore, 1) := by decide +kernel
theorem dX7_handOn_44 : decode cX7_handOn 44 = .ok (.return_, 1) := by decide +kernel
theorem dX7_passYear_0 : decode cX7_passYear 0 = .ok (.aload_n 0, 1) := by decide +kernel
theorem dX7_passYear_1 : decode cX7_passYear 1 = .ok (.dup, 1) := by decide +kernel
theorem dX7_passYear_2 : decode cX7_passYear 2 = .ok (.getfield 51, 3) := by decide +kernel
theorem dX7_passYear_5 : decode cX7_passYear 5 = .ok (.iconst 1, 1) := by decide +kernel
theorem dX7_passYear_6 : decode cX7_passYear 6 = .ok (.iadd, 1) := by decide +kernel
theorem dX7_passYear_7 : decode cX7_passYear 7 = .ok (.putfield 51, 3) := by decide +kernel
theorem dX7_passYear_10 : decode cX7_passYear 10 = .ok (.iconst 0, 1) := by decide +kernel
theorem dX7_passYear_11 : decode cX7_passYear 11 = .ok (.istore_n 3, 1) := by decide +kernel
theorem dX7_passYear_12 : decode cX7_passYear 12 = .ok (.iload_n 3, 1) := by decide +kernel
theorem dX7_passYear_13 : decode cX7_passYear 13 = .ok (.aload_n 0, 1) := by decide +kernel
theorem dX7_passYear_14 : decode cX7_passYear 14 = .ok (.getfield 44, 3) := by decide +kernel
theorem dX7_passYear_17 : decode cX7_passYear 17 = .ok (.if_icmp .ge 36, 3) := by decide +kernel
theorem dX7_passYear_20 : decode cX7_passYear 20 = .ok (.aload_n 0, 1) := by decide +kernel
theorem dX7_passYear_21 : decode cX7_passYear 21 = .ok (.getfield 29, 3) := by decide +kernel
theorem dX7_passYear_24 : decode cX7_passYear 24 = .ok (.iload_n 3, 1) := by decide +kernel
theorem dX7_passYear_25 : decode cX7_passYear 25 = .ok (.aaload, 1) := by decide +kernel
theorem dX7_passYear_26 : decode cX7_passYear 26 = .ok (.invokevirtual 62, 3) := by decide +kernel
theorem dX7_passYear_29 : decode cX7_passYear 29 = .ok (.ifCond .eq 18, 3) := by decide +kernel
theorem dX7_passYear_32 : decode cX7_passYear 32 = .ok (.aload_n 0, 1) := by decide +kernel
theorem dX7_passYear_33 : decode cX7_passYear 33 = .ok (.getfield 29, 3) := by decide +kernel
theorem dX7_passYear_36 : decode cX7_passYear 36 = .ok (.iload_n 3, 1) := by decide +kernel
theorem dX7_passYear_37 : decode cX7_passYear 37 = .ok (.aaload, 1) := by decide +kernel
theorem dX7_passYear_38 : decode cX7_passYear 38 = .ok (.dup, 1) := by decide +kernel
theorem dX7_passYear_39 : decode cX7_passYear 39 = .ok (.getfield 83, 3) := by decide +kernel
theorem dX7_passYear_42 : decode cX7_passYear 42 = .ok (.iconst 1, 1) := by decide +kernel
theorem dX7_passYear_43 : decode cX7_passYear 43 = .ok (.iadd, 1) := by decide +kernel
theorem dX7_passYear_44 : decode cX7_passYear 44 = .ok (.putfield 83, 3) := by decide +kernel
theorem dX7_passYear_47 : decode cX7_passYear 47 = .ok (.iinc 3 1, 3) := by decide +kernel
theorem dX7_passYear_50 : decode cX7_passYear 50 = .ok (.goto (-38), 3) := by decide +kernel
theorem dX7_passYear_53 : decode cX7_passYear 53 = .ok (.iconst 0, 1) := by decide +kernel
theorem dX7_passYear_54 : decode cX7_passYear 54 = .ok (.istore_n 3, 1) := by decide +kernel
theorem dX7_passYear_55 : decode cX7_passYear 55 = .ok (.iconst 0, 1) := by decide +kernel
theorem dX7_passYear_56 : decode cX7_passYear 56 = .ok (.istore 4, 2) := by decide +kernel
theorem dX7_passYear_58 : decode cX7_passYear 58 = .ok (.iconst 0, 1) := by decide +kernel
theorem dX7_passYear_59 : decode cX7_passYear 59 = .ok (.istore 5, 2) := by decide +kernel
theorem dX7_passYear_61 : decode cX7_passYear 61 = .ok (.iload 5, 2) := by decide +kernel
theorem dX7_passYear_63 : decode cX7_passYear 63 = .ok (.aload_n 0, 1) := by decide +kernel
theorem dX7_passYear_64 : decode cX7_passYear 64 = .ok (.getfield 44, 3) := by decide +kernel
theorem dX7_passYear_67 : decode cX7_passYear 67 = .ok (.if_icmp .ge 154, 3) := by decide +kernel
theorem dX7_passYear_70 : decode cX7_passYear 70 = .ok (.aload_n 0, 1) := by decide +kernel
theorem dX7_passYear_71 : decode cX7_passYear 71 = .ok (.getfield 29, 3) := by decide +kernel
theorem dX7_passYear_74 : decode cX7_passYear 74 = .ok (.iload 5, 2) := by decide +kernel
theorem dX7_passYear_76 : decode cX7_passYear 76 = .ok (.aaload, 1) := by decide +kernel
theorem dX7_passYear_77 : decode cX7_passYear 77 = .ok (.getfield 66, 3) := by decide +kernel
theorem dX7_passYear_80 : decode cX7_passYear 80 = .ok (.istore 6, 2) := by decide +kernel
theorem dX7_passYear_82 : decode cX7_passYear 82 = .ok (.aload_n 0, 1) := by decide +kernel
theorem dX7_passYear_83 : decode cX7_passYear 83 = .ok (.getfield 29, 3) := by decide +kernel
theorem dX7_passYear_86 : decode cX7_passYear 86 = .ok (.iload 5, 2) := by decide +kernel
theorem dX7_passYear_88 : decode cX7_passYear 88 = .ok (.aaload, 1) := by decide +kernel
theorem dX7_passYear_89 : decode cX7_passYear 89 = .ok (.aload_n 1, 1) := by decide +kernel
theorem dX7_passYear_90 : decode cX7_passYear 90 = .ok (.getfield 86, 3) := by decide +kernel
theorem dX7_passYear_93 : decode cX7_passYear 93 = .ok (.invokevirtual 91, 3) := by decide +kernel
theorem dX7_passYear_96 : decode cX7_passYear 96 = .ok (.ifCond .ne 6, 3) := by decide +kernel
theorem dX7_passYear_99 : decode cX7_passYear 99 = .ok (.goto 116, 3) := by decide +kernel
theorem dX7_passYear_102 : decode cX7_passYear 102 = .ok (.aload_n 1, 1) := by decide +kernel
theorem dX7_passYear_103 : decode cX7_passYear 103 = .ok (.getfield 95, 3) := by decide +kernel
theorem dX7_passYear_106 : decode cX7_passYear 106 = .ok (.ifCond .eq 17, 3) := by decide +kernel
theorem dX7_passYear_109 : decode cX7_passYear 109 = .ok (.iload 4, 2) := by decide +kernel
theorem dX7_passYear_111 : decode cX7_passYear 111 = .ok (.iload 6, 2) := by decide +kernel
theorem dX7_passYear_113 : decode cX7_passYear 113 = .ok (.invokestatic 58, 3) := by decide +kernel
theorem dX7_passYear_116 : decode cX7_passYear 116 = .ok (.iand, 1) := by decide +kernel
theorem dX7_passYear_117 : decode cX7_passYear 117 = .ok (.ifCond .eq 6, 3) := by decide +kernel
theorem dX7_passYear_120 : decode cX7_passYear 120 = .ok (.goto 95, 3) := by decide +kernel
theorem dX7_passYear_123 : decode cX7_passYear 123 = .ok (.aload_n 0, 1) := by decide +kernel
theorem dX7_passYear_124 : decode cX7_passYear 124 = .ok (.aload_n 0, 1) := by decide +kernel
theorem dX7_passYear_125 : decode cX7_passYear 125 = .ok (.getfield 29, 3) := by decide +kernel
theorem dX7_passYear_128 : decode cX7_passYear 128 = .ok (.iload 5, 2) := by decide +kernel
theorem dX7_passYear_130 : decode cX7_passYear 130 = .ok (.aaload, 1) := by decide +kernel
theorem dX7_passYear_131 : decode cX7_passYear 131 = .ok (.getfield 99, 3) := by decide +kernel
theorem dX7_passYear_134 : decode cX7_passYear 134 = .ok (.iload 6, 2) := by decide +kernel
theorem dX7_passYear_136 : decode cX7_passYear 136 = .ok (.aload_n 1, 1) := by decide +kernel
theorem dX7_passYear_137 : decode cX7_passYear 137 = .ok (.getfield 102, 3) := by decide +kernel
theorem dX7_passYear_140 : decode cX7_passYear 140 = .ok (.invokevirtual 105, 3) := by decide +kernel
theorem dX7_passYear_143 : decode cX7_passYear 143 = .ok (.istore 7, 2) := by decide +kernel
theorem dX7_passYear_145 : decode cX7_passYear 145 = .ok (.iload 7, 2) := by decide +kernel
theorem dX7_passYear_147 : decode cX7_passYear 147 = .ok (.ifCond .ne 6, 3) := by decide +kernel
theorem dX7_passYear_150 : decode cX7_passYear 150 = .ok (.goto 65, 3) := by decide +kernel
theorem dX7_passYear_153 : decode cX7_passYear 153 = .ok (.aload_n 2, 1) := by decide +kernel
theorem dX7_passYear_154 : decode cX7_passYear 154 = .ok (.ifnonnull 14, 3) := by decide +kernel
theorem dX7_passYear_157 : decode cX7_passYear 157 = .ok (.aload_n 0, 1) := by decide +kernel
theorem dX7_passYear_158 : decode cX7_passYear 158 = .ok (.iload 6, 2) := by decide +kernel
theorem dX7_passYear_160 : decode cX7_passYear 160 = .ok (.iload 7, 2) := by decide +kernel
theorem dX7_passYear_162 : decode cX7_passYear 162 = .ok (.invokevirtual 109, 3) := by decide +kernel
theorem dX7_passYear_165 : decode cX7_passYear 165 = .ok (.goto 9, 3) := by decide +kernel
theorem dX7_passYear_168 : decode cX7_passYear 168 = .ok (.aload_n 2, 1) := by decide +kernel
theorem dX7_passYear_169 : decode cX7_passYear 169 = .ok (.iload 7, 2) := by decide +kernel
theorem dX7_passYear_171 : decode cX7_passYear 171 = .ok (.invokevirtual 112, 3) := by decide +kernel
theorem dX7_passYear_174 : decode cX7_passYear 174 = .ok (.istore 8, 2) := by decide +kernel
theorem dX7_passYear_176 : decode cX7_passYear 176 = .ok (.iload 8, 2) := by decide +kernel
theorem dX7_passYear_178 : decode cX7_passYear 178 = .ok (.iconst (-1), 1) := by decide +kernel
theorem dX7_passYear_179 : decode cX7_passYear 179 = .ok (.if_icmp .ne 6, 3) := by decide +kernel
theorem dX7_passYear_182 : decode cX7_passYear 182 = .ok (.goto 33, 3) := by decide +kernel
theorem dX7_passYear_185 : decode cX7_passYear 185 = .ok (.aload_n 0, 1) := by decide +kernel
theorem dX7_passYear_186 : decode cX7_passYear 186 = .ok (.aload_n 0, 1) := by decide +kernel
theorem dX7_passYear_187 : decode cX7_passYear 187 = .ok (.getfield 29, 3) := by decide +kernel
theorem dX7_passYear_190 : decode cX7_passYear 190 = .ok (.iload 5, 2) := by decide +kernel
theorem dX7_passYear_192 : decode cX7_passYear 192 = .ok (.aaload, 1) := by decide +kernel
theorem dX7_passYear_193 : decode cX7_passYear 193 = .ok (.iload 8, 2) := by decide +kernel
theorem dX7_passYear_195 : decode cX7_passYear 195 = .ok (.aload_n 1, 1) := by decide +kernel
theorem dX7_passYear_196 : decode cX7_passYear 196 = .ok (.getfield 117, 3) := by decide +kernel
theorem dX7_passYear_199 : decode cX7_passYear 199 = .ok (.invokevirtual 120, 3) := by decide +kernel
theorem dX7_passYear_202 : decode cX7_passYear 202 = .ok (.iload 4, 2) := by decide +kernel
theorem dX7_passYear_204 : decode cX7_passYear 204 = .ok (.iload 6, 2) := by decide +kernel
theorem dX7_passYear_206 : decode cX7_passYear 206 = .ok (.invokestatic 58, 3) := by decide +kernel
theorem dX7_passYear_209 : decode cX7_passYear 209 = .ok (.ior, 1) := by decide +kernel
theorem dX7_passYear_210 : decode cX7_passYear 210 = .ok (.istore 4, 2) := by decide +kernel
theorem dX7_passYear_212 : decode cX7_passYear 212 = .ok (.iinc 3 1, 3) := by decide +kernel
theorem dX7_passYear_215 : decode cX7_passYear 215 = .ok (.iinc 5 1, 3) := by decide +kernel
theorem dX7_passYear_218 : decode cX7_passYear 218 = .ok (.goto (-157), 3) := by decide +kernel
theorem dX7_passYear_221 : decode cX7_passYear 221 = .ok (.iload_n 3, 1) := by decide +kernel
theorem dX7_passYear_222 : decode cX7_passYear 222 = .ok (.ireturn, 1) := by decide +kernel
theorem dX7_chosenBy_0 : decode cX7_chosenBy 0 = .ok (.iconst (-1), 1) := by decide +kernel
theorem dX7_chosenBy_1 : decode cX7_chosenBy 1 = .ok (.istore_n 3, 1) := by decide +kernel
theorem dX7_chosenBy_2 : decode cX7_chosenBy 2 = .ok (.iconst 0, 1) := by decide +kernel
theorem dX7_chosenBy_3 : decode cX7_chosenBy 3 = .ok (.istore 4, 2) := by decide +kernel
theorem dX7_chosenBy_5 : decode cX7_chosenBy 5 = .ok (.iconst 0, 1) := by decide +kernel
theorem dX7_chosenBy_6 : decode cX7_chosenBy 6 = .ok (.istore 5, 2) := by decide +kernel
theorem dX7_chosenBy_8 : decode cX7_chosenBy 8 = .ok (.iload 5, 2) := by decide +kernel
theorem dX7_chosenBy_10 : decode cX7_chosenBy 10 = .ok (.aload_n 0, 1) := by decide +kernel
theorem dX7_chosenBy_11 : decode cX7_chosenBy 11 = .ok (.getfield 34, 3) := by decide +kernel
theorem dX7_chosenBy_14 : decode cX7_chosenBy 14 = .ok (.if_icmp .ge 50, 3) := by decide +kernel
theorem dX7_chosenBy_17 : decode cX7_chosenBy 17 = .ok (.iload_n 2, 1) := by decide +kernel
theorem dX7_chosenBy_18 : decode cX7_chosenBy 18 = .ok (.iload 5, 2) := by decide +kernel
theorem dX7_chosenBy_20 : decode cX7_chosenBy 20 = .ok (.invokestatic 58, 3) := by decide +kernel
theorem dX7_chosenBy_23 : decode cX7_chosenBy 23 = .ok (.iand, 1) := by decide +kernel
theorem dX7_chosenBy_24 : decode cX7_chosenBy 24 = .ok (.ifCond .ne 6, 3) := by decide +kernel
theorem dX7_chosenBy_27 : decode cX7_chosenBy 27 = .ok (.goto 31, 3) := by decide +kernel
theorem dX7_chosenBy_30 : decode cX7_chosenBy 30 = .ok (.aload_n 0, 1) := by decide +kernel
theorem dX7_chosenBy_31 : decode cX7_chosenBy 31 = .ok (.iload_n 1, 1) := by decide +kernel
theorem dX7_chosenBy_32 : decode cX7_chosenBy 32 = .ok (.iload 5, 2) := by decide +kernel
theorem dX7_chosenBy_34 : decode cX7_chosenBy 34 = .ok (.invokevirtual 124, 3) := by decide +kernel
theorem dX7_chosenBy_37 : decode cX7_chosenBy 37 = .ok (.istore 6, 2) := by decide +kernel
theorem dX7_chosenBy_39 : decode cX7_chosenBy 39 = .ok (.iload_n 3, 1) := by decide +kernel
theorem dX7_chosenBy_40 : decode cX7_chosenBy 40 = .ok (.iconst (-1), 1) := by decide +kernel
theorem dX7_chosenBy_41 : decode cX7_chosenBy 41 = .ok (.if_icmp .eq 10, 3) := by decide +kernel
theorem dX7_chosenBy_44 : decode cX7_chosenBy 44 = .ok (.iload 6, 2) := by decide +kernel
theorem dX7_chosenBy_46 : decode cX7_chosenBy 46 = .ok (.iload 4, 2) := by decide +kernel
theorem dX7_chosenBy_48 : decode cX7_chosenBy 48 = .ok (.if_icmp .le 10, 3) := by decide +kernel
theorem dX7_chosenBy_51 : decode cX7_chosenBy 51 = .ok (.iload 5, 2) := by decide +kernel
theorem dX7_chosenBy_53 : decode cX7_chosenBy 53 = .ok (.istore_n 3, 1) := by decide +kernel
theorem dX7_chosenBy_54 : decode cX7_chosenBy 54 = .ok (.iload 6, 2) := by decide +kernel
theorem dX7_chosenBy_56 : decode cX7_chosenBy 56 = .ok (.istore 4, 2) := by decide +kernel
theorem dX7_chosenBy_58 : decode cX7_chosenBy 58 = .ok (.iinc 5 1, 3) := by decide +kernel
theorem dX7_chosenBy_61 : decode cX7_chosenBy 61 = .ok (.goto (-53), 3) := by decide +kernel
theorem dX7_chosenBy_64 : decode cX7_chosenBy 64 = .ok (.iload_n 3, 1) := by decide +kernel
theorem dX7_chosenBy_65 : decode cX7_chosenBy 65 = .ok (.ireturn, 1) := by decide +kernel
theorem dX7_markOf_0 : decode cX7_markOf 0 = .ok (.aload_n 0, 1) := by decide +kernel
theorem dX7_markOf_1 : decode cX7_markOf 1 = .ok (.getfield 9, 3) := by decide +kernel
theorem dX7_markOf_4 : decode cX7_markOf 4 = .ok (.iload_n 1, 1) := by decide +kernel
theorem dX7_markOf_5 : decode cX7_markOf 5 = .ok (.iaload, 1) := by decide +kernel
theorem dX7_markOf_6 : decode cX7_markOf 6 = .ok (.tableswitch 42 0 2 #[26, 29, 31], 26) := by decide +kernel
theorem dX7_markOf_32 : decode cX7_markOf 32 = .ok (.iload_n 2, 1) := by decide +kernel
theorem dX7_markOf_33 : decode cX7_markOf 33 = .ok (.ineg, 1) := by decide +kernel
theorem dX7_markOf_34 : decode cX7_markOf 34 = .ok (.ireturn, 1) := by decide +kernel
theorem dX7_markOf_35 : decode cX7_markOf 35 = .ok (.iload_n 2, 1) := by decide +kernel
theorem dX7_markOf_36 : decode cX7_markOf 36 = .ok (.ireturn, 1) := by decide +kernel
theorem dX7_markOf_37 : decode cX7_markOf 37 = .ok (.aload_n 0, 1) := by decide +kernel
theorem dX7_markOf_38 : decode cX7_markOf 38 = .ok (.getfield 21, 3) := by decide +kernel
theorem dX7_markOf_41 : decode cX7_markOf 41 = .ok (.iload_n 1, 1) := by decide +kernel
theorem dX7_markOf_42 : decode cX7_markOf 42 = .ok (.iload_n 2, 1) := by decide +kernel
theorem dX7_markOf_43 : decode cX7_markOf 43 = .ok (.invokestatic 69, 3) := by decide +kernel
theorem dX7_markOf_46 : decode cX7_markOf 46 = .ok (.iaload, 1) := by decide +kernel
theorem dX7_markOf_47 : decode cX7_markOf 47 = .ok (.ireturn, 1) := by decide +kernel
theorem dX7_markOf_48 : decode cX7_markOf 48 = .ok (.aload_n 0, 1) := by decide +kernel
theorem dX7_markOf_49 : decode cX7_markOf 49 = .ok (.iload_n 2, 1) := by decide +kernel
theorem dX7_markOf_50 : decode cX7_markOf 50 = .ok (.invokevirtual 127, 3) := by decide +kernel
theorem dX7_markOf_53 : decode cX7_markOf 53 = .ok (.ineg, 1) := by decide +kernel
theorem dX7_markOf_54 : decode cX7_markOf 54 = .ok (.ireturn, 1) := by decide +kernel
