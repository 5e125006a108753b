theorem dX0_init_0 : decode cX0_init 0 = .ok (.aload_n 0, 1) := by decide +kernel
theorem dX0_init_1 : decode cX0_init 1 = .ok (.invokespecial 3, 3) := by decide +kernel
theorem dX0_init_4 : decode cX0_init 4 = .ok (.aload_n 0, 1) := by decide +kernel
theorem dX0_init_5 : decode cX0_init 5 = .ok (.bipush 8, 2) := by decide +kernel
theorem dX0_init_7 : decode cX0_init 7 = .ok (.newarray .int, 2) := by decide +kernel
theorem dX0_init_9 : decode cX0_init 9 = .ok (.putfield 9, 3) := by decide +kernel
theorem dX0_init_12 : decode cX0_init 12 = .ok (.return_, 1) := by decide +kernel
theorem dX0_isOpen_0 : decode cX0_isOpen 0 = .ok (.aload_n 0, 1) := by decide +kernel
theorem dX0_isOpen_1 : decode cX0_isOpen 1 = .ok (.getfield 15, 3) := by decide +kernel
theorem dX0_isOpen_4 : decode cX0_isOpen 4 = .ok (.ifCond .le 7, 3) := by decide +kernel
theorem dX0_isOpen_7 : decode cX0_isOpen 7 = .ok (.iconst 1, 1) := by decide +kernel
theorem dX0_isOpen_8 : decode cX0_isOpen 8 = .ok (.goto 4, 3) := by decide +kernel
theorem dX0_isOpen_11 : decode cX0_isOpen 11 = .ok (.iconst 0, 1) := by decide +kernel
theorem dX0_isOpen_12 : decode cX0_isOpen 12 = .ok (.ireturn, 1) := by decide +kernel
theorem dX0_hasYear_0 : decode cX0_hasYear 0 = .ok (.iload_n 1, 1) := by decide +kernel
theorem dX0_hasYear_1 : decode cX0_hasYear 1 = .ok (.iconst 1, 1) := by decide +kernel
theorem dX0_hasYear_2 : decode cX0_hasYear 2 = .ok (.aload_n 0, 1) := by decide +kernel
theorem dX0_hasYear_3 : decode cX0_hasYear 3 = .ok (.getfield 15, 3) := by decide +kernel
theorem dX0_hasYear_6 : decode cX0_hasYear 6 = .ok (.invokestatic 19, 3) := by decide +kernel
theorem dX0_hasYear_9 : decode cX0_hasYear 9 = .ok (.ireturn, 1) := by decide +kernel
theorem dX0_begin_0 : decode cX0_begin 0 = .ok (.aload_n 0, 1) := by decide +kernel
theorem dX0_begin_1 : decode cX0_begin 1 = .ok (.iload_n 1, 1) := by decide +kernel
theorem dX0_begin_2 : decode cX0_begin 2 = .ok (.putfield 23, 3) := by decide +kernel
theorem dX0_begin_5 : decode cX0_begin 5 = .ok (.aload_n 0, 1) := by decide +kernel
theorem dX0_begin_6 : decode cX0_begin 6 = .ok (.iload_n 2, 1) := by decide +kernel
theorem dX0_begin_7 : decode cX0_begin 7 = .ok (.putfield 15, 3) := by decide +kernel
theorem dX0_begin_10 : decode cX0_begin 10 = .ok (.iconst 0, 1) := by decide +kernel
theorem dX0_begin_11 : decode cX0_begin 11 = .ok (.istore_n 3, 1) := by decide +kernel
theorem dX0_begin_12 : decode cX0_begin 12 = .ok (.iload_n 3, 1) := by decide +kernel
theorem dX0_begin_13 : decode cX0_begin 13 = .ok (.bipush 7, 2) := by decide +kernel
theorem dX0_begin_15 : decode cX0_begin 15 = .ok (.if_icmp .gt 16, 3) := by decide +kernel
theorem dX0_begin_18 : decode cX0_begin 18 = .ok (.aload_n 0, 1) := by decide +kernel
theorem dX0_begin_19 : decode cX0_begin 19 = .ok (.getfield 9, 3) := by decide +kernel
theorem dX0_begin_22 : decode cX0_begin 22 = .ok (.iload_n 3, 1) := by decide +kernel
theorem dX0_begin_23 : decode cX0_begin 23 = .ok (.iconst (-1), 1) := by decide +kernel
theorem dX0_begin_24 : decode cX0_begin 24 = .ok (.iastore, 1) := by decide +kernel
theorem dX0_begin_25 : decode cX0_begin 25 = .ok (.iinc 3 1, 3) := by decide +kernel
theorem dX0_begin_28 : decode cX0_begin 28 = .ok (.goto (-16), 3) := by decide +kernel
theorem dX0_begin_31 : decode cX0_begin 31 = .ok (.return_, 1) := by decide +kernel
theorem dX0_fillings_0 : decode cX0_fillings 0 = .ok (.aload_n 2, 1) := by decide +kernel
theorem dX0_fillings_1 : decode cX0_fillings 1 = .ok (.iconst (-1), 1) := by decide +kernel
theorem dX0_fillings_2 : decode cX0_fillings 2 = .ok (.aload_n 0, 1) := by decide +kernel
theorem dX0_fillings_3 : decode cX0_fillings 3 = .ok (.getfield 23, 3) := by decide +kernel
theorem dX0_fillings_6 : decode cX0_fillings 6 = .ok (.invokevirtual 26, 3) := by decide +kernel
theorem dX0_fillings_9 : decode cX0_fillings 9 = .ok (.iconst 1, 1) := by decide +kernel
theorem dX0_fillings_10 : decode cX0_fillings 10 = .ok (.istore_n 3, 1) := by decide +kernel
theorem dX0_fillings_11 : decode cX0_fillings 11 = .ok (.iload_n 3, 1) := by decide +kernel
theorem dX0_fillings_12 : decode cX0_fillings 12 = .ok (.aload_n 0, 1) := by decide +kernel
theorem dX0_fillings_13 : decode cX0_fillings 13 = .ok (.getfield 15, 3) := by decide +kernel
theorem dX0_fillings_16 : decode cX0_fillings 16 = .ok (.if_icmp .gt 41, 3) := by decide +kernel
theorem dX0_fillings_19 : decode cX0_fillings 19 = .ok (.aload_n 2, 1) := by decide +kernel
theorem dX0_fillings_20 : decode cX0_fillings 20 = .ok (.aload_n 1, 1) := by decide +kernel
theorem dX0_fillings_21 : decode cX0_fillings 21 = .ok (.iconst 0, 1) := by decide +kernel
theorem dX0_fillings_22 : decode cX0_fillings 22 = .ok (.aload_n 0, 1) := by decide +kernel
theorem dX0_fillings_23 : decode cX0_fillings 23 = .ok (.getfield 23, 3) := by decide +kernel
theorem dX0_fillings_26 : decode cX0_fillings 26 = .ok (.iconst 0, 1) := by decide +kernel
theorem dX0_fillings_27 : decode cX0_fillings 27 = .ok (.invokevirtual 32, 3) := by decide +kernel
theorem dX0_fillings_30 : decode cX0_fillings 30 = .ok (.pop2, 1) := by decide +kernel
theorem dX0_fillings_31 : decode cX0_fillings 31 = .ok (.aload_n 0, 1) := by decide +kernel
theorem dX0_fillings_32 : decode cX0_fillings 32 = .ok (.getfield 9, 3) := by decide +kernel
theorem dX0_fillings_35 : decode cX0_fillings 35 = .ok (.iload_n 3, 1) := by decide +kernel
theorem dX0_fillings_36 : decode cX0_fillings 36 = .ok (.iaload, 1) := by decide +kernel
theorem dX0_fillings_37 : decode cX0_fillings 37 = .ok (.iconst (-1), 1) := by decide +kernel
theorem dX0_fillings_38 : decode cX0_fillings 38 = .ok (.if_icmp .eq 13, 3) := by decide +kernel
theorem dX0_fillings_41 : decode cX0_fillings 41 = .ok (.aload_n 2, 1) := by decide +kernel
theorem dX0_fillings_42 : decode cX0_fillings 42 = .ok (.aload_n 0, 1) := by decide +kernel
theorem dX0_fillings_43 : decode cX0_fillings 43 = .ok (.getfield 9, 3) := by decide +kernel
theorem dX0_fillings_46 : decode cX0_fillings 46 = .ok (.iload_n 3, 1) := by decide +kernel
theorem dX0_fillings_47 : decode cX0_fillings 47 = .ok (.iaload, 1) := by decide +kernel
theorem dX0_fillings_48 : decode cX0_fillings 48 = .ok (.invokevirtual 36, 3) := by decide +kernel
theorem dX0_fillings_51 : decode cX0_fillings 51 = .ok (.iinc 3 1, 3) := by decide +kernel
theorem dX0_fillings_54 : decode cX0_fillings 54 = .ok (.goto (-43), 3) := by decide +kernel
theorem dX0_fillings_57 : decode cX0_fillings 57 = .ok (.aload_n 2, 1) := by decide +kernel
theorem dX0_fillings_58 : decode cX0_fillings 58 = .ok (.invokevirtual 40, 3) := by decide +kernel
theorem dX0_fillings_61 : decode cX0_fillings 61 = .ok (.l2i, 1) := by decide +kernel
theorem dX0_fillings_62 : decode cX0_fillings 62 = .ok (.ireturn, 1) := by decide +kernel
theorem dX0_onlyOneIn_0 : decode cX0_onlyOneIn 0 = .ok (.aload_n 0, 1) := by decide +kernel
theorem dX0_onlyOneIn_1 : decode cX0_onlyOneIn 1 = .ok (.getfield 9, 3) := by decide +kernel
theorem dX0_onlyOneIn_4 : decode cX0_onlyOneIn 4 = .ok (.iload_n 1, 1) := by decide +kernel
theorem dX0_onlyOneIn_5 : decode cX0_onlyOneIn 5 = .ok (.iaload, 1) := by decide +kernel
theorem dX0_onlyOneIn_6 : decode cX0_onlyOneIn 6 = .ok (.istore 4, 2) := by decide +kernel
theorem dX0_onlyOneIn_8 : decode cX0_onlyOneIn 8 = .ok (.iconst (-1), 1) := by decide +kernel
theorem dX0_onlyOneIn_9 : decode cX0_onlyOneIn 9 = .ok (.istore 5, 2) := by decide +kernel
theorem dX0_onlyOneIn_11 : decode cX0_onlyOneIn 11 = .ok (.iconst 0, 1) := by decide +kernel
theorem dX0_onlyOneIn_12 : decode cX0_onlyOneIn 12 = .ok (.istore 6, 2) := by decide +kernel
theorem dX0_onlyOneIn_14 : decode cX0_onlyOneIn 14 = .ok (.iconst 0, 1) := by decide +kernel
theorem dX0_onlyOneIn_15 : decode cX0_onlyOneIn 15 = .ok (.istore 7, 2) := by decide +kernel
theorem dX0_onlyOneIn_17 : decode cX0_onlyOneIn 17 = .ok (.iload 7, 2) := by decide +kernel
theorem dX0_onlyOneIn_19 : decode cX0_onlyOneIn 19 = .ok (.aload_n 2, 1) := by decide +kernel
theorem dX0_onlyOneIn_20 : decode cX0_onlyOneIn 20 = .ok (.getfield 44, 3) := by decide +kernel
theorem dX0_onlyOneIn_23 : decode cX0_onlyOneIn 23 = .ok (.if_icmp .ge 49, 3) := by decide +kernel
theorem dX0_onlyOneIn_26 : decode cX0_onlyOneIn 26 = .ok (.iload 4, 2) := by decide +kernel
theorem dX0_onlyOneIn_28 : decode cX0_onlyOneIn 28 = .ok (.iconst (-1), 1) := by decide +kernel
theorem dX0_onlyOneIn_29 : decode cX0_onlyOneIn 29 = .ok (.if_icmp .eq 13, 3) := by decide +kernel
theorem dX0_onlyOneIn_32 : decode cX0_onlyOneIn 32 = .ok (.iload 4, 2) := by decide +kernel
theorem dX0_onlyOneIn_34 : decode cX0_onlyOneIn 34 = .ok (.iload 7, 2) := by decide +kernel
theorem dX0_onlyOneIn_36 : decode cX0_onlyOneIn 36 = .ok (.if_icmp .eq 6, 3) := by decide +kernel
theorem dX0_onlyOneIn_39 : decode cX0_onlyOneIn 39 = .ok (.goto 27, 3) := by decide +kernel
theorem dX0_onlyOneIn_42 : decode cX0_onlyOneIn 42 = .ok (.aload_n 0, 1) := by decide +kernel
theorem dX0_onlyOneIn_43 : decode cX0_onlyOneIn 43 = .ok (.getfield 9, 3) := by decide +kernel
theorem dX0_onlyOneIn_46 : decode cX0_onlyOneIn 46 = .ok (.iload_n 1, 1) := by decide +kernel
theorem dX0_onlyOneIn_47 : decode cX0_onlyOneIn 47 = .ok (.iload 7, 2) := by decide +kernel
theorem dX0_onlyOneIn_49 : decode cX0_onlyOneIn 49 = .ok (.iastore, 1) := by decide +kernel
theorem dX0_onlyOneIn_50 : decode cX0_onlyOneIn 50 = .ok (.aload_n 0, 1) := by decide +kernel
theorem dX0_onlyOneIn_51 : decode cX0_onlyOneIn 51 = .ok (.aload_n 2, 1) := by decide +kernel
theorem dX0_onlyOneIn_52 : decode cX0_onlyOneIn 52 = .ok (.aload_n 3, 1) := by decide +kernel
theorem dX0_onlyOneIn_53 : decode cX0_onlyOneIn 53 = .ok (.invokevirtual 49, 3) := by decide +kernel
theorem dX0_onlyOneIn_56 : decode cX0_onlyOneIn 56 = .ok (.ifCond .le 10, 3) := by decide +kernel
theorem dX0_onlyOneIn_59 : decode cX0_onlyOneIn 59 = .ok (.iload 7, 2) := by decide +kernel
theorem dX0_onlyOneIn_61 : decode cX0_onlyOneIn 61 = .ok (.istore 5, 2) := by decide +kernel
theorem dX0_onlyOneIn_63 : decode cX0_onlyOneIn 63 = .ok (.iinc 6 1, 3) := by decide +kernel
theorem dX0_onlyOneIn_66 : decode cX0_onlyOneIn 66 = .ok (.iinc 7 1, 3) := by decide +kernel
theorem dX0_onlyOneIn_69 : decode cX0_onlyOneIn 69 = .ok (.goto (-52), 3) := by decide +kernel
theorem dX0_onlyOneIn_72 : decode cX0_onlyOneIn 72 = .ok (.aload_n 0, 1) := by decide +kernel
theorem dX0_onlyOneIn_73 : decode cX0_onlyOneIn 73 = .ok (.getfield 9, 3) := by decide +kernel
theorem dX0_onlyOneIn_76 : decode cX0_onlyOneIn 76 = .ok (.iload_n 1, 1) := by decide +kernel
theorem dX0_onlyOneIn_77 : decode cX0_onlyOneIn 77 = .ok (.iload 4, 2) := by decide +kernel
theorem dX0_onlyOneIn_79 : decode cX0_onlyOneIn 79 = .ok (.iastore, 1) := by decide +kernel
theorem dX0_onlyOneIn_80 : decode cX0_onlyOneIn 80 = .ok (.iload 6, 2) := by decide +kernel
theorem dX0_onlyOneIn_82 : decode cX0_onlyOneIn 82 = .ok (.iconst 1, 1) := by decide +kernel
theorem dX0_onlyOneIn_83 : decode cX0_onlyOneIn 83 = .ok (.if_icmp .ne 8, 3) := by decide +kernel
theorem dX0_onlyOneIn_86 : decode cX0_onlyOneIn 86 = .ok (.iload 5, 2) := by decide +kernel
theorem dX0_onlyOneIn_88 : decode cX0_onlyOneIn 88 = .ok (.goto 4, 3) := by decide +kernel
theorem dX0_onlyOneIn_91 : decode cX0_onlyOneIn 91 = .ok (.iconst (-1), 1) := by decide +kernel
theorem dX0_onlyOneIn_92 : decode cX0_onlyOneIn 92 = .ok (.ireturn, 1) := by decide +kernel
theorem dX1_init_0 : decode cX1_init 0 = .ok (.aload_n 0, 1) := by decide +kernel
theorem dX1_init_1 : decode cX1_init 1 = .ok (.invokespecial 3, 3) := by decide +kernel
theorem dX1_init_4 : decode cX1_init 4 = .ok (.aload_n 0, 1) := by decide +kernel
theorem dX1_init_5 : decode cX1_init 5 = .ok (.sipush 256, 3) := by decide +kernel
theorem dX1_init_8 : decode cX1_init 8 = .ok (.newarray .int, 2) := by decide +kernel
theorem dX1_init_10 : decode cX1_init 10 = .ok (.putfield 11, 3) := by decide +kernel
theorem dX1_init_13 : decode cX1_init 13 = .ok (.aload_n 0, 1) := by decide +kernel
theorem dX1_init_14 : decode cX1_init 14 = .ok (.bipush 8, 2) := by decide +kernel
theorem dX1_init_16 : decode cX1_init 16 = .ok (.newarray .int, 2) := by decide +kernel
theorem dX1_init_18 : decode cX1_init 18 = .ok (.putfield 15, 3) := by decide +kernel
theorem dX1_init_21 : decode cX1_init 21 = .ok (.return_, 1) := by decide +kernel
theorem dX1_find_0 : decode cX1_find 0 = .ok (.iconst 1, 1) := by decide +kernel
theorem dX1_find_1 : decode cX1_find 1 = .ok (.aload_n 1, 1) := by decide +kernel
theorem dX1_find_2 : decode cX1_find 2 = .ok (.getfield 18, 3) := by decide +kernel
theorem dX1_find_5 : decode cX1_find 5 = .ok (.ishl, 1) := by decide +kernel
theorem dX1_find_6 : decode cX1_find 6 = .ok (.iconst 1, 1) := by decide +kernel
theorem dX1_find_7 : decode cX1_find 7 = .ok (.isub, 1) := by decide +kernel
theorem dX1_find_8 : decode cX1_find 8 = .ok (.istore_n 2, 1) := by decide +kernel
theorem dX1_find_9 : decode cX1_find 9 = .ok (.aload_n 0, 1) := by decide +kernel
theorem dX1_find_10 : decode cX1_find 10 = .ok (.getfield 11, 3) := by decide +kernel
theorem dX1_find_13 : decode cX1_find 13 = .ok (.iload_n 2, 1) := by decide +kernel
theorem dX1_find_14 : decode cX1_find 14 = .ok (.iconst 0, 1) := by decide +kernel
theorem dX1_find_15 : decode cX1_find 15 = .ok (.iastore, 1) := by decide +kernel
theorem dX1_find_16 : decode cX1_find 16 = .ok (.iload_n 2, 1) := by decide +kernel
theorem dX1_find_17 : decode cX1_find 17 = .ok (.iconst 1, 1) := by decide +kernel
theorem dX1_find_18 : decode cX1_find 18 = .ok (.isub, 1) := by decide +kernel
theorem dX1_find_19 : decode cX1_find 19 = .ok (.istore_n 3, 1) := by decide +kernel
theorem dX1_find_20 : decode cX1_find 20 = .ok (.iload_n 3, 1) := by decide +kernel
theorem dX1_find_21 : decode cX1_find 21 = .ok (.ifCond .lt 21, 3) := by decide +kernel
theorem dX1_find_24 : decode cX1_find 24 = .ok (.aload_n 0, 1) := by decide +kernel
theorem dX1_find_25 : decode cX1_find 25 = .ok (.getfield 11, 3) := by decide +kernel
theorem dX1_find_28 : decode cX1_find 28 = .ok (.iload_n 3, 1) := by decide +kernel
theorem dX1_find_29 : decode cX1_find 29 = .ok (.aload_n 0, 1) := by decide +kernel
theorem dX1_find_30 : decode cX1_find 30 = .ok (.aload_n 1, 1) := by decide +kernel
theorem dX1_find_31 : decode cX1_find 31 = .ok (.iload_n 3, 1) := by decide +kernel
theorem dX1_find_32 : decode cX1_find 32 = .ok (.invokevirtual 24, 3) := by decide +kernel
theorem dX1_find_35 : decode cX1_find 35 = .ok (.iastore, 1) := by decide +kernel
theorem dX1_find_36 : decode cX1_find 36 = .ok (.iinc 3 (-1), 3) := by decide +kernel
theorem dX1_find_39 : decode cX1_find 39 = .ok (.goto (-19), 3) := by decide +kernel
theorem dX1_find_42 : decode cX1_find 42 = .ok (.iconst 0, 1) := by decide +kernel
theorem dX1_find_43 : decode cX1_find 43 = .ok (.istore_n 3, 1) := by decide +kernel
theorem dX1_find_44 : decode cX1_find 44 = .ok (.iconst 0, 1) := by decide +kernel
theorem dX1_find_45 : decode cX1_find 45 = .ok (.istore 4, 2) := by decide +kernel
theorem dX1_find_47 : decode cX1_find 47 = .ok (.iload 4, 2) := by decide +kernel
theorem dX1_find_49 : decode cX1_find 49 = .ok (.bipush 8, 2) := by decide +kernel
theorem dX1_find_51 : decode cX1_find 51 = .ok (.if_icmp .ge 48, 3) := by decide +kernel
theorem dX1_find_54 : decode cX1_find 54 = .ok (.aload_n 0, 1) := by decide +kernel
theorem dX1_find_55 : decode cX1_find 55 = .ok (.getfield 15, 3) := by decide +kernel
theorem dX1_find_58 : decode cX1_find 58 = .ok (.iload 4, 2) := by decide +kernel
theorem dX1_find_60 : decode cX1_find 60 = .ok (.iload 4, 2) := by decide +kernel
theorem dX1_find_62 : decode cX1_find 62 = .ok (.aload_n 1, 1) := by decide +kernel
theorem dX1_find_63 : decode cX1_find 63 = .ok (.getfield 18, 3) := by decide +kernel
theorem dX1_find_66 : decode cX1_find 66 = .ok (.if_icmp .ge 12, 3) := by decide +kernel
theorem dX1_find_69 : decode cX1_find 69 = .ok (.aload_n 0, 1) := by decide +kernel
theorem dX1_find_70 : decode cX1_find 70 = .ok (.aload_n 1, 1) := by decide +kernel
theorem dX1_find_71 : decode cX1_find 71 = .ok (.iload_n 3, 1) := by decide +kernel
theorem dX1_find_72 : decode cX1_find 72 = .ok (.invokevirtual 28, 3) := by decide +kernel
theorem dX1_find_75 : decode cX1_find 75 = .ok (.goto 4, 3) := by decide +kernel
theorem dX1_find_78 : decode cX1_find 78 = .ok (.iconst (-1), 1) := by decide +kernel
theorem dX1_find_79 : decode cX1_find 79 = .ok (.iastore, 1) := by decide +kernel
theorem dX1_find_80 : decode cX1_find 80 = .ok (.iload_n 3, 1) := by decide +kernel
theorem dX1_find_81 : decode cX1_find 81 = .ok (.aload_n 0, 1) := by decide +kernel
theorem dX1_find_82 : decode cX1_find 82 = .ok (.getfield 15, 3) := by decide +kernel
theorem dX1_find_85 : decode cX1_find 85 = .ok (.iload 4, 2) := by decide +kernel
theorem dX1_find_87 : decode cX1_find 87 = .ok (.iaload, 1) := by decide +kernel
theorem dX1_find_88 : decode cX1_find 88 = .ok (.invokestatic 31, 3) := by decide +kernel
theorem dX1_find_91 : decode cX1_find 91 = .ok (.ior, 1) := by decide +kernel
theorem dX1_find_92 : decode cX1_find 92 = .ok (.istore_n 3, 1) := by decide +kernel
theorem dX1_find_93 : decode cX1_find 93 = .ok (.iinc 4 1, 3) := by decide +kernel
theorem dX1_find_96 : decode cX1_find 96 = .ok (.goto (-49), 3) := by decide +kernel
theorem dX1_find_99 : decode cX1_find 99 = .ok (.return_, 1) := by decide +kernel
theorem dX1_mostBehind_0 : decode cX1_mostBehind 0 = .ok (.iconst (-1), 1) := by decide +kernel
theorem dX1_mostBehind_1 : decode cX1_mostBehind 1 = .ok (.istore_n 3, 1) := by decide +kernel
theorem dX1_mostBehind_2 : decode cX1_mostBehind 2 = .ok (.iconst 0, 1) := by decide +kernel
theorem dX1_mostBehind_3 : decode cX1_mostBehind 3 = .ok (.istore 4, 2) := by decide +kernel
theorem dX1_mostBehind_5 : decode cX1_mostBehind 5 = .ok (.iload 4, 2) := by decide +kernel
theorem dX1_mostBehind_7 : decode cX1_mostBehind 7 = .ok (.aload_n 1, 1) := by decide +kernel
theorem dX1_mostBehind_8 : decode cX1_mostBehind 8 = .ok (.getfield 18, 3) := by decide +kernel
theorem dX1_mostBehind_11 : decode cX1_mostBehind 11 = .ok (.if_icmp .ge 22, 3) := by decide +kernel
theorem dX1_mostBehind_14 : decode cX1_mostBehind 14 = .ok (.iload_n 3, 1) := by decide +kernel
theorem dX1_mostBehind_15 : decode cX1_mostBehind 15 = .ok (.aload_n 0, 1) := by decide +kernel
theorem dX1_mostBehind_16 : decode cX1_mostBehind 16 = .ok (.aload_n 1, 1) := by decide +kernel
theorem dX1_mostBehind_17 : decode cX1_mostBehind 17 = .ok (.iload_n 2, 1) := by decide +kernel
theorem dX1_mostBehind_18 : decode cX1_mostBehind 18 = .ok (.iload 4, 2) := by decide +kernel
theorem dX1_mostBehind_20 : decode cX1_mostBehind 20 = .ok (.invokevirtual 35, 3) := by decide +kernel
theorem dX1_mostBehind_23 : decode cX1_mostBehind 23 = .ok (.invokestatic 39, 3) := by decide +kernel
theorem dX1_mostBehind_26 : decode cX1_mostBehind 26 = .ok (.istore_n 3, 1) := by decide +kernel
theorem dX1_mostBehind_27 : decode cX1_mostBehind 27 = .ok (.iinc 4 1, 3) := by decide +kernel
theorem dX1_mostBehind_30 : decode cX1_mostBehind 30 = .ok (.goto (-25), 3) := by decide +kernel
theorem dX1_mostBehind_33 : decode cX1_mostBehind 33 = .ok (.iload_n 3, 1) := by decide +kernel
theorem dX1_mostBehind_34 : decode cX1_mostBehind 34 = .ok (.ireturn, 1) := by decide +kernel
theorem dX1_firstOfMost_0 : decode cX1_firstOfMost 0 = .ok (.aload_n 0, 1) := by decide +kernel
theorem dX1_firstOfMost_1 : decode cX1_firstOfMost 1 = .ok (.invokevirtual 45, 3) := by decide +kernel
theorem dX1_firstOfMost_4 : decode cX1_firstOfMost 4 = .ok (.ifCond .ne 5, 3) := by decide +kernel
theorem dX1_firstOfMost_7 : decode cX1_firstOfMost 7 = .ok (.iconst (-1), 1) := by decide +kernel
theorem dX1_firstOfMost_8 : decode cX1_firstOfMost 8 = .ok (.ireturn, 1) := by decide +kernel
theorem dX1_firstOfMost_9 : decode cX1_firstOfMost 9 = .ok (.iconst 0, 1) := by decide +kernel
theorem dX1_firstOfMost_10 : decode cX1_firstOfMost 10 = .ok (.istore_n 3, 1) := by decide +kernel
theorem dX1_firstOfMost_11 : decode cX1_firstOfMost 11 = .ok (.iload_n 3, 1) := by decide +kernel
theorem dX1_firstOfMost_12 : decode cX1_firstOfMost 12 = .ok (.aload_n 1, 1) := by decide +kernel
theorem dX1_firstOfMost_13 : decode cX1_firstOfMost 13 = .ok (.getfield 18, 3) := by decide +kernel
theorem dX1_firstOfMost_16 : decode cX1_firstOfMost 16 = .ok (.if_icmp .ge 37, 3) := by decide +kernel
theorem dX1_firstOfMost_19 : decode cX1_firstOfMost 19 = .ok (.aload_n 0, 1) := by decide +kernel
theorem dX1_firstOfMost_20 : decode cX1_firstOfMost 20 = .ok (.aload_n 1, 1) := by decide +kernel
theorem dX1_firstOfMost_21 : decode cX1_firstOfMost 21 = .ok (.iload_n 2, 1) := by decide +kernel
theorem dX1_firstOfMost_22 : decode cX1_firstOfMost 22 = .ok (.iload_n 3, 1) := by decide +kernel
theorem dX1_firstOfMost_23 : decode cX1_firstOfMost 23 = .ok (.invokevirtual 35, 3) := by decide +kernel
theorem dX1_firstOfMost_26 : decode cX1_firstOfMost 26 = .ok (.istore 4, 2) := by decide +kernel
theorem dX1_firstOfMost_28 : decode cX1_firstOfMost 28 = .ok (.iload 4, 2) := by decide +kernel
theorem dX1_firstOfMost_30 : decode cX1_firstOfMost 30 = .ok (.iconst (-1), 1) := by decide +kernel
theorem dX1_firstOfMost_31 : decode cX1_firstOfMost 31 = .ok (.if_icmp .eq 16, 3) := by decide +kernel
theorem dX1_firstOfMost_34 : decode cX1_firstOfMost 34 = .ok (.iload 4, 2) := by decide +kernel
theorem dX1_firstOfMost_36 : decode cX1_firstOfMost 36 = .ok (.aload_n 0, 1) := by decide +kernel
theorem dX1_firstOfMost_37 : decode cX1_firstOfMost 37 = .ok (.getfield 11, 3) := by decide +kernel
theorem dX1_firstOfMost_40 : decode cX1_firstOfMost 40 = .ok (.iload_n 2, 1) := by decide +kernel
theorem dX1_firstOfMost_41 : decode cX1_firstOfMost 41 = .ok (.iaload, 1) := by decide +kernel
theorem dX1_firstOfMost_42 : decode cX1_firstOfMost 42 = .ok (.if_icmp .ne 5, 3) := by decide +kernel
theorem dX1_firstOfMost_45 : decode cX1_firstOfMost 45 = .ok (.iload_n 3, 1) := by decide +kernel
theorem dX1_firstOfMost_46 : decode cX1_firstOfMost 46 = .ok (.ireturn, 1) := by decide +kernel
theorem dX1_firstOfMost_47 : decode cX1_firstOfMost 47 = .ok (.iinc 3 1, 3) := by decide +kernel
theorem dX1_firstOfMost_50 : decode cX1_firstOfMost 50 = .ok (.goto (-39), 3) := by decide +kernel
theorem dX1_firstOfMost_53 : decode cX1_firstOfMost 53 = .ok (.iconst (-1), 1) := by decide +kernel
theorem dX1_firstOfMost_54 : decode cX1_firstOfMost 54 = .ok (.ireturn, 1) := by decide +kernel
theorem dX1_mostBy_0 : decode cX1_mostBy 0 = .ok (.iload_n 2, 1) := by decide +kernel
theorem dX1_mostBy_1 : decode cX1_mostBy 1 = .ok (.invokestatic 49, 3) := by decide +kernel
theorem dX1_mostBy_4 : decode cX1_mostBy 4 = .ok (.istore 4, 2) := by decide +kernel
theorem dX1_mostBy_6 : decode cX1_mostBy 6 = .ok (.iload_n 2, 1) := by decide +kernel
theorem dX1_mostBy_7 : decode cX1_mostBy 7 = .ok (.iload_n 3, 1) := by decide +kernel
theorem dX1_mostBy_8 : decode cX1_mostBy 8 = .ok (.invokestatic 31, 3) := by decide +kernel
theorem dX1_mostBy_11 : decode cX1_mostBy 11 = .ok (.iand, 1) := by decide +kernel
theorem dX1_mostBy_12 : decode cX1_mostBy 12 = .ok (.ifCond .ne 13, 3) := by decide +kernel
theorem dX1_mostBy_15 : decode cX1_mostBy 15 = .ok (.aload_n 1, 1) := by decide +kernel
theorem dX1_mostBy_16 : decode cX1_mostBy 16 = .ok (.iload 4, 2) := by decide +kernel
theorem dX1_mostBy_18 : decode cX1_mostBy 18 = .ok (.iload_n 3, 1) := by decide +kernel
theorem dX1_mostBy_19 : decode cX1_mostBy 19 = .ok (.invokevirtual 54, 3) := by decide +kernel
theorem dX1_mostBy_22 : decode cX1_mostBy 22 = .ok (.ifCond .ne 5, 3) := by decide +kernel
theorem dX1_mostBy_25 : decode cX1_mostBy 25 = .ok (.iconst (-1), 1) := by decide +kernel
theorem dX1_mostBy_26 : decode cX1_mostBy 26 = .ok (.ireturn, 1) := by decide +kernel
theorem dX1_mostBy_27 : decode cX1_mostBy 27 = .ok (.aload_n 0, 1) := by decide +kernel
theorem dX1_mostBy_28 : decode cX1_mostBy 28 = .ok (.getfield 11, 3) := by decide +kernel
theorem dX1_mostBy_31 : decode cX1_mostBy 31 = .ok (.iload_n 2, 1) := by decide +kernel
theorem dX1_mostBy_32 : decode cX1_mostBy 32 = .ok (.iload_n 3, 1) := by decide +kernel
theorem dX1_mostBy_33 : decode cX1_mostBy 33 = .ok (.invokestatic 31, 3) := by decide +kernel
theorem dX1_mostBy_36 : decode cX1_mostBy 36 = .ok (.ior, 1) := by decide +kernel
theorem dX1_mostBy_37 : decode cX1_mostBy 37 = .ok (.iaload, 1) := by decide +kernel
theorem dX1_mostBy_38 : decode cX1_mostBy 38 = .ok (.istore 5, 2) := by decide +kernel
theorem dX1_mostBy_40 : decode cX1_mostBy 40 = .ok (.iload 5, 2) := by decide +kernel
theorem dX1_mostBy_42 : decode cX1_mostBy 42 = .ok (.iconst (-1), 1) := by decide +kernel
theorem dX1_mostBy_43 : decode cX1_mostBy 43 = .ok (.if_icmp .ne 7, 3) := by decide +kernel
theorem dX1_mostBy_46 : decode cX1_mostBy 46 = .ok (.iconst (-1), 1) := by decide +kernel
theorem dX1_mostBy_47 : decode cX1_mostBy 47 = .ok (.goto 17, 3) := by decide +kernel
theorem dX1_mostBy_50 : decode cX1_mostBy 50 = .ok (.iload 5, 2) := by decide +kernel
theorem dX1_mostBy_52 : decode cX1_mostBy 52 = .ok (.aload_n 1, 1) := by decide +kernel
theorem dX1_mostBy_53 : decode cX1_mostBy 53 = .ok (.getfield 58, 3) := by decide +kernel
theorem dX1_mostBy_56 : decode cX1_mostBy 56 = .ok (.iload 4, 2) := by decide +kernel
theorem dX1_mostBy_58 : decode cX1_mostBy 58 = .ok (.iload_n 3, 1) := by decide +kernel
theorem dX1_mostBy_59 : decode cX1_mostBy 59 = .ok (.invokestatic 61, 3) := by decide +kernel
theorem dX1_mostBy_62 : decode cX1_mostBy 62 = .ok (.iaload, 1) := by decide +kernel
theorem dX1_mostBy_63 : decode cX1_mostBy 63 = .ok (.iadd, 1) := by decide +kernel
theorem dX1_mostBy_64 : decode cX1_mostBy 64 = .ok (.ireturn, 1) := by decide +kernel
theorem dX1_isThere_0 : decode cX1_isThere 0 = .ok (.aload_n 0, 1) := by decide +kernel
theorem dX1_isThere_1 : decode cX1_isThere 1 = .ok (.getfield 11, 3) := by decide +kernel
theorem dX1_isThere_4 : decode cX1_isThere 4 = .ok (.iconst 0, 1) := by decide +kernel
theorem dX1_isThere_5 : decode cX1_isThere 5 = .ok (.iaload, 1) := by decide +kernel
theorem dX1_isThere_6 : decode cX1_isThere 6 = .ok (.iconst (-1), 1) := by decide +kernel
theorem dX1_isThere_7 : decode cX1_isThere 7 = .ok (.if_icmp .eq 7, 3) := by decide +kernel
theorem dX1_isThere_10 : decode cX1_isThere 10 = .ok (.iconst 1, 1) := by decide +kernel
theorem dX1_isThere_11 : decode cX1_isThere 11 = .ok (.goto 4, 3) := by decide +kernel
theorem dX1_isThere_14 : decode cX1_isThere 14 = .ok (.iconst 0, 1) := by decide +kernel
theorem dX1_isThere_15 : decode cX1_isThere 15 = .ok (.ireturn, 1) := by decide +kernel
theorem dX1_likingTogether_0 : decode cX1_likingTogether 0 = .ok (.aload_n 0, 1) := by decide +kernel
theorem dX1_likingTogether_1 : decode cX1_likingTogether 1 = .ok (.getfield 11, 3) := by decide +kernel
theorem dX1_likingTogether_4 : decode cX1_likingTogether 4 = .ok (.iconst 0, 1) := by decide +kernel
theorem dX1_likingTogether_5 : decode cX1_likingTogether 5 = .ok (.iaload, 1) := by decide +kernel
theorem dX1_likingTogether_6 : decode cX1_likingTogether 6 = .ok (.ireturn, 1) := by decide +kernel
theorem dX2_init_0 : decode cX2_init 0 = .ok (.aload_n 0, 1) := by decide +kernel
theorem dX2_init_1 : decode cX2_init 1 = .ok (.invokespecial 3, 3) := by decide +kernel
theorem dX2_init_4 : decode cX2_init 4 = .ok (.return_, 1) := by decide +kernel
theorem dX2_oneOf_0 : decode cX2_oneOf 0 = .ok (.iload_n 1, 1) := by decide +kernel
theorem dX2_oneOf_1 : decode cX2_oneOf 1 = .ok (.invokestatic 9, 3) := by decide +kernel
theorem dX2_oneOf_4 : decode cX2_oneOf 4 = .ok (.istore_n 2, 1) := by decide +kernel
theorem dX2_oneOf_5 : decode cX2_oneOf 5 = .ok (.iload_n 2, 1) := by decide +kernel
theorem dX2_oneOf_6 : decode cX2_oneOf 6 = .ok (.ifCond .ne 5, 3) := by decide +kernel
theorem dX2_oneOf_9 : decode cX2_oneOf 9 = .ok (.iconst (-1), 1) := by decide +kernel
theorem dX2_oneOf_10 : decode cX2_oneOf 10 = .ok (.ireturn, 1) := by decide +kernel
theorem dX2_oneOf_11 : decode cX2_oneOf 11 = .ok (.aload_n 0, 1) := by decide +kernel
theorem dX2_oneOf_12 : decode cX2_oneOf 12 = .ok (.ldc2_w 15, 3) := by decide +kernel
theorem dX2_oneOf_15 : decode cX2_oneOf 15 = .ok (.aload_n 0, 1) := by decide +kernel
theorem dX2_oneOf_16 : decode cX2_oneOf 16 = .ok (.getfield 17, 3) := by decide +kernel
theorem dX2_oneOf_19 : decode cX2_oneOf 19 = .ok (.lmul, 1) := by decide +kernel
theorem dX2_oneOf_20 : decode cX2_oneOf 20 = .ok (.ldc2_w 23, 3) := by decide +kernel
theorem dX2_oneOf_23 : decode cX2_oneOf 23 = .ok (.ladd, 1) := by decide +kernel
theorem dX2_oneOf_24 : decode cX2_oneOf 24 = .ok (.ldc2_w 25, 3) := by decide +kernel
theorem dX2_oneOf_27 : decode cX2_oneOf 27 = .ok (.land, 1) := by decide +kernel
theorem dX2_oneOf_28 : decode cX2_oneOf 28 = .ok (.putfield 17, 3) := by decide +kernel
theorem dX2_oneOf_31 : decode cX2_oneOf 31 = .ok (.aload_n 0, 1) := by decide +kernel
theorem dX2_oneOf_32 : decode cX2_oneOf 32 = .ok (.getfield 17, 3) := by decide +kernel
theorem dX2_oneOf_35 : decode cX2_oneOf 35 = .ok (.ldc2_w 27, 3) := by decide +kernel
theorem dX2_oneOf_38 : decode cX2_oneOf 38 = .ok (.ldiv, 1) := by decide +kernel
theorem dX2_oneOf_39 : decode cX2_oneOf 39 = .ok (.iload_n 2, 1) := by decide +kernel
theorem dX2_oneOf_40 : decode cX2_oneOf 40 = .ok (.i2l, 1) := by decide +kernel
theorem dX2_oneOf_41 : decode cX2_oneOf 41 = .ok (.lrem, 1) := by decide +kernel
theorem dX2_oneOf_42 : decode cX2_oneOf 42 = .ok (.l2i, 1) := by decide +kernel
theorem dX2_oneOf_43 : decode cX2_oneOf 43 = .ok (.istore_n 3, 1) := by decide +kernel
theorem dX2_oneOf_44 : decode cX2_oneOf 44 = .ok (.iconst 0, 1) := by decide +kernel
theorem dX2_oneOf_45 : decode cX2_oneOf 45 = .ok (.istore 4, 2) := by decide +kernel
theorem dX2_oneOf_47 : decode cX2_oneOf 47 = .ok (.iload 4, 2) := by decide +kernel
theorem dX2_oneOf_49 : decode cX2_oneOf 49 = .ok (.bipush 8, 2) := by decide +kernel
theorem dX2_oneOf_51 : decode cX2_oneOf 51 = .ok (.if_icmp .ge 32, 3) := by decide +kernel
theorem dX2_oneOf_54 : decode cX2_oneOf 54 = .ok (.iload_n 1, 1) := by decide +kernel
theorem dX2_oneOf_55 : decode cX2_oneOf 55 = .ok (.iload 4, 2) := by decide +kernel
theorem dX2_oneOf_57 : decode cX2_oneOf 57 = .ok (.invokestatic 29, 3) := by decide +kernel
theorem dX2_oneOf_60 : decode cX2_oneOf 60 = .ok (.iand, 1) := by decide +kernel
theorem dX2_oneOf_61 : decode cX2_oneOf 61 = .ok (.ifCond .ne 6, 3) := by decide +kernel
theorem dX2_oneOf_64 : decode cX2_oneOf 64 = .ok (.goto 13, 3) := by decide +kernel
theorem dX2_oneOf_67 : decode cX2_oneOf 67 = .ok (.iload_n 3, 1) := by decide +kernel
theorem dX2_oneOf_68 : decode cX2_oneOf 68 = .ok (.ifCond .ne 6, 3) := by decide +kernel
theorem dX2_oneOf_71 : decode cX2_oneOf 71 = .ok (.iload 4, 2) := by decide +kernel
theorem dX2_oneOf_73 : decode cX2_oneOf 73 = .ok (.ireturn, 1) := by decide +kernel
theorem dX2_oneOf_74 : decode cX2_oneOf 74 = .ok (.iinc 3 (-1), 3) := by decide +kernel
theorem dX2_oneOf_77 : decode cX2_oneOf 77 = .ok (.iinc 4 1, 3) := by decide +kernel
theorem dX2_oneOf_80 : decode cX2_oneOf 80 = .ok (.goto (-33), 3) := by decide +kernel
theorem dX2_oneOf_83 : decode cX2_oneOf 83 = .ok (.iconst (-1), 1) := by decide +kernel
theorem dX2_oneOf_84 : decode cX2_oneOf 84 = .ok (.ireturn, 1) := by decide +kernel
theorem dX3_init_0 : decode cX3_init 0 = .ok (.aload_n 0, 1) := by decide +kernel
theorem dX3_init_1 : decode cX3_init 1 = .ok (.invokespecial 3, 3) := by decide +kernel
theorem dX3_init_4 : decode cX3_init 4 = .ok (.return_, 1) := by decide +kernel
theorem dX3_begin_0 : decode cX3_begin 0 = .ok (.aload_n 0, 1) := by decide +kernel
theorem dX3_begin_1 : decode cX3_begin 1 = .ok (.iload_n 1, 1) := by decide +kernel
theorem dX3_begin_2 : decode cX3_begin 2 = .ok (.putfield 9, 3) := by decide +kernel
theorem dX3_begin_5 : decode cX3_begin 5 = .ok (.aload_n 0, 1) := by decide +kernel
theorem dX3_begin_6 : decode cX3_begin 6 = .ok (.iload_n 2, 1) := by decide +kernel
theorem dX3_begin_7 : decode cX3_begin 7 = .ok (.putfield 15, 3) := by decide +kernel
theorem dX3_begin_10 : decode cX3_begin 10 = .ok (.aload_n 0, 1) := by decide +kernel
theorem dX3_begin_11 : decode cX3_begin 11 = .ok (.iload_n 2, 1) := by decide +kernel
theorem dX3_begin_12 : decode cX3_begin 12 = .ok (.putfield 18, 3) := by decide +kernel
theorem dX3_begin_15 : decode cX3_begin 15 = .ok (.aload_n 0, 1) := by decide +kernel
theorem dX3_begin_16 : decode cX3_begin 16 = .ok (.iconst (-1), 1) := by decide +kernel
theorem dX3_begin_17 : decode cX3_begin 17 = .ok (.putfield 21, 3) := by decide +kernel
theorem dX3_begin_20 : decode cX3_begin 20 = .ok (.aload_n 0, 1) := by decide +kernel
theorem dX3_begin_21 : decode cX3_begin 21 = .ok (.iconst 0, 1) := by decide +kernel
theorem dX3_begin_22 : decode cX3_begin 22 = .ok (.putfield 24, 3) := by decide +kernel
theorem dX3_begin_25 : decode cX3_begin 25 = .ok (.aload_n 0, 1) := by decide +kernel
theorem dX3_begin_26 : decode cX3_begin 26 = .ok (.iconst 0, 1) := by decide +kernel
theorem dX3_begin_27 : decode cX3_begin 27 = .ok (.putfield 27, 3) := by decide +kernel
theorem dX3_begin_30 : decode cX3_begin 30 = .ok (.aload_n 0, 1) := by decide +kernel
theorem dX3_begin_31 : decode cX3_begin 31 = .ok (.iconst 0, 1) := by decide +kernel
theorem dX3_begin_32 : decode cX3_begin 32 = .ok (.putfield 30, 3) := by decide +kernel
theorem dX3_begin_35 : decode cX3_begin 35 = .ok (.aload_n 0, 1) := by decide +kernel
theorem dX3_begin_36 : decode cX3_begin 36 = .ok (.iconst 0, 1) := by decide +kernel
theorem dX3_begin_37 : decode cX3_begin 37 = .ok (.putfield 33, 3) := by decide +kernel
theorem dX3_begin_40 : decode cX3_begin 40 = .ok (.return_, 1) := by decide +kernel
theorem dX3_copyFrom_0 : decode cX3_copyFrom 0 = .ok (.aload_n 0, 1) := by decide +kernel
theorem dX3_copyFrom_1 : decode cX3_copyFrom 1 = .ok (.aload_n 1, 1) := by decide +kernel
theorem dX3_copyFrom_2 : decode cX3_copyFrom 2 = .ok (.getfield 9, 3) := by decide +kernel
theorem dX3_copyFrom_5 : decode cX3_copyFrom 5 = .ok (.putfield 9, 3) := by decide +kernel
theorem dX3_copyFrom_8 : decode cX3_copyFrom 8 = .ok (.aload_n 0, 1) := by decide +kernel
theorem dX3_copyFrom_9 : decode cX3_copyFrom 9 = .ok (.aload_n 1, 1) := by decide +kernel
theorem dX3_copyFrom_10 : decode cX3_copyFrom 10 = .ok (.getfield 15, 3) := by decide +kernel
theorem dX3_copyFrom_13 : decode cX3_copyFrom 13 = .ok (.putfield 15, 3) := by decide +kernel
theorem dX3_copyFrom_16 : decode cX3_copyFrom 16 = .ok (.aload_n 0, 1) := by decide +kernel
theorem dX3_copyFrom_17 : decode cX3_copyFrom 17 = .ok (.aload_n 1, 1) := by decide +kernel
theorem dX3_copyFrom_18 : decode cX3_copyFrom 18 = .ok (.getfield 18, 3) := by decide +kernel
theorem dX3_copyFrom_21 : decode cX3_copyFrom 21 = .ok (.putfield 18, 3) := by decide +kernel
theorem dX3_copyFrom_24 : decode cX3_copyFrom 24 = .ok (.aload_n 0, 1) := by decide +kernel
theorem dX3_copyFrom_25 : decode cX3_copyFrom 25 = .ok (.aload_n 1, 1) := by decide +kernel
theorem dX3_copyFrom_26 : decode cX3_copyFrom 26 = .ok (.getfield 21, 3) := by decide +kernel
theorem dX3_copyFrom_29 : decode cX3_copyFrom 29 = .ok (.putfield 21, 3) := by decide +kernel
theorem dX3_copyFrom_32 : decode cX3_copyFrom 32 = .ok (.aload_n 0, 1) := by decide +kernel
theorem dX3_copyFrom_33 : decode cX3_copyFrom 33 = .ok (.aload_n 1, 1) := by decide +kernel
theorem dX3_copyFrom_34 : decode cX3_copyFrom 34 = .ok (.getfield 24, 3) := by decide +kernel
theorem dX3_copyFrom_37 : decode cX3_copyFrom 37 = .ok (.putfield 24, 3) := by decide +kernel
theorem dX3_copyFrom_40 : decode cX3_copyFrom 40 = .ok (.aload_n 0, 1) := by decide +kernel
theorem dX3_copyFrom_41 : decode cX3_copyFrom 41 = .ok (.aload_n 1, 1) := by decide +kernel
theorem dX3_copyFrom_42 : decode cX3_copyFrom 42 = .ok (.getfield 27, 3) := by decide +kernel
theorem dX3_copyFrom_45 : decode cX3_copyFrom 45 = .ok (.putfield 27, 3) := by decide +kernel
theorem dX3_copyFrom_48 : decode cX3_copyFrom 48 = .ok (.aload_n 0, 1) := by decide +kernel
theorem dX3_copyFrom_49 : decode cX3_copyFrom 49 = .ok (.aload_n 1, 1) := by decide +kernel
theorem dX3_copyFrom_50 : decode cX3_copyFrom 50 = .ok (.getfield 30, 3) := by decide +kernel
theorem dX3_copyFrom_53 : decode cX3_copyFrom 53 = .ok (.putfield 30, 3) := by decide +kernel
theorem dX3_copyFrom_56 : decode cX3_copyFrom 56 = .ok (.aload_n 0, 1) := by decide +kernel
theorem dX3_copyFrom_57 : decode cX3_copyFrom 57 = .ok (.aload_n 1, 1) := by decide +kernel
theorem dX3_copyFrom_58 : decode cX3_copyFrom 58 = .ok (.getfield 33, 3) := by decide +kernel
theorem dX3_copyFrom_61 : decode cX3_copyFrom 61 = .ok (.putfield 33, 3) := by decide +kernel
theorem dX3_copyFrom_64 : decode cX3_copyFrom 64 = .ok (.return_, 1) := by decide +kernel
theorem dX3_lives_0 : decode cX3_lives 0 = .ok (.aload_n 0, 1) := by decide +kernel
theorem dX3_lives_1 : decode cX3_lives 1 = .ok (.getfield 30, 3) := by decide +kernel
theorem dX3_lives_4 : decode cX3_lives 4 = .ok (.ifCond .ne 7, 3) := by decide +kernel
theorem dX3_lives_7 : decode cX3_lives 7 = .ok (.iconst 1, 1) := by decide +kernel
theorem dX3_lives_8 : decode cX3_lives 8 = .ok (.goto 4, 3) := by decide +kernel
theorem dX3_lives_11 : decode cX3_lives 11 = .ok (.iconst 0, 1) := by decide +kernel
theorem dX3_lives_12 : decode cX3_lives 12 = .ok (.ireturn, 1) := by decide +kernel
theorem dX3_isOf_0 : decode cX3_isOf 0 = .ok (.iload_n 1, 1) := by decide +kernel
theorem dX3_isOf_1 : decode cX3_isOf 1 = .ok (.ifCond .eq 24, 3) := by decide +kernel
theorem dX3_isOf_4 : decode cX3_isOf 4 = .ok (.iload_n 1, 1) := by decide +kernel
theorem dX3_isOf_5 : decode cX3_isOf 5 = .ok (.aload_n 0, 1) := by decide +kernel
theorem dX3_isOf_6 : decode cX3_isOf 6 = .ok (.getfield 9, 3) := by decide +kernel
theorem dX3_isOf_9 : decode cX3_isOf 9 = .ok (.if_icmp .eq 16, 3) := by decide +kernel
theorem dX3_isOf_12 : decode cX3_isOf 12 = .ok (.iload_n 1, 1) := by decide +kernel
theorem dX3_isOf_13 : decode cX3_isOf 13 = .ok (.iconst 1, 1) := by decide +kernel
theorem dX3_isOf_14 : decode cX3_isOf 14 = .ok (.if_icmp .ne 15, 3) := by decide +kernel
theorem dX3_isOf_17 : decode cX3_isOf 17 = .ok (.aload_n 0, 1) := by decide +kernel
theorem dX3_isOf_18 : decode cX3_isOf 18 = .ok (.getfield 9, 3) := by decide +kernel
theorem dX3_isOf_21 : decode cX3_isOf 21 = .ok (.iconst 4, 1) := by decide +kernel
theorem dX3_isOf_22 : decode cX3_isOf 22 = .ok (.if_icmp .ne 7, 3) := by decide +kernel
theorem dX3_isOf_25 : decode cX3_isOf 25 = .ok (.iconst 1, 1) := by decide +kernel
theorem dX3_isOf_26 : decode cX3_isOf 26 = .ok (.goto 4, 3) := by decide +kernel
theorem dX3_isOf_29 : decode cX3_isOf 29 = .ok (.iconst 0, 1) := by decide +kernel
theorem dX3_isOf_30 : decode cX3_isOf 30 = .ok (.ireturn, 1) := by decide +kernel
theorem dX3_worth_0 : decode cX3_worth 0 = .ok (.iconst 1, 1) := by decide +kernel
theorem dX3_worth_1 : decode cX3_worth 1 = .ok (.bipush 10, 2) := by decide +kernel
theorem dX3_worth_3 : decode cX3_worth 3 = .ok (.aload_n 0, 1) := by decide +kernel
theorem dX3_worth_4 : decode cX3_worth 4 = .ok (.getfield 24, 3) := by decide +kernel
theorem dX3_worth_7 : decode cX3_worth 7 = .ok (.isub, 1) := by decide +kernel
theorem dX3_worth_8 : decode cX3_worth 8 = .ok (.invokestatic 36, 3) := by decide +kernel
theorem dX3_worth_11 : decode cX3_worth 11 = .ok (.istore_n 1, 1) := by decide +kernel
theorem dX3_worth_12 : decode cX3_worth 12 = .ok (.aload_n 0, 1) := by decide +kernel
theorem dX3_worth_13 : decode cX3_worth 13 = .ok (.getfield 9, 3) := by decide +kernel
theorem dX3_worth_16 : decode cX3_worth 16 = .ok (.iconst 2, 1) := by decide +kernel
theorem dX3_worth_17 : decode cX3_worth 17 = .ok (.if_icmp .ne 17, 3) := by decide +kernel
theorem dX3_worth_20 : decode cX3_worth 20 = .ok (.iload_n 1, 1) := by decide +kernel
theorem dX3_worth_21 : decode cX3_worth 21 = .ok (.aload_n 0, 1) := by decide +kernel
theorem dX3_worth_22 : decode cX3_worth 22 = .ok (.getfield 33, 3) := by decide +kernel
theorem dX3_worth_25 : decode cX3_worth 25 = .ok (.bipush 9, 2) := by decide +kernel
theorem dX3_worth_27 : decode cX3_worth 27 = .ok (.invokestatic 42, 3) := by decide +kernel
theorem dX3_worth_30 : decode cX3_worth 30 = .ok (.iadd, 1) := by decide +kernel
theorem dX3_worth_31 : decode cX3_worth 31 = .ok (.goto 4, 3) := by decide +kernel
theorem dX3_worth_34 : decode cX3_worth 34 = .ok (.iload_n 1, 1) := by decide +kernel
theorem dX3_worth_35 : decode cX3_worth 35 = .ok (.ireturn, 1) := by decide +kernel
theorem dX3_mustGo_0 : decode cX3_mustGo 0 = .ok (.aload_n 0, 1) := by decide +kernel
theorem dX3_mustGo_1 : decode cX3_mustGo 1 = .ok (.invokevirtual 45, 3) := by decide +kernel
theorem dX3_mustGo_4 : decode cX3_mustGo 4 = .ok (.ifCond .eq 29, 3) := by decide +kernel
theorem dX3_mustGo_7 : decode cX3_mustGo 7 = .ok (.aload_n 0, 1) := by decide +kernel
theorem dX3_mustGo_8 : decode cX3_mustGo 8 = .ok (.getfield 27, 3) := by decide +kernel
theorem dX3_mustGo_11 : decode cX3_mustGo 11 = .ok (.aload_n 0, 1) := by decide +kernel
theorem dX3_mustGo_12 : decode cX3_mustGo 12 = .ok (.getfield 9, 3) := by decide +kernel
theorem dX3_mustGo_15 : decode cX3_mustGo 15 = .ok (.iconst 3, 1) := by decide +kernel
theorem dX3_mustGo_16 : decode cX3_mustGo 16 = .ok (.if_icmp .ne 9, 3) := by decide +kernel
theorem dX3_mustGo_19 : decode cX3_mustGo 19 = .ok (.iload_n 1, 1) := by decide +kernel
theorem dX3_mustGo_20 : decode cX3_mustGo 20 = .ok (.iconst 1, 1) := by decide +kernel
theorem dX3_mustGo_21 : decode cX3_mustGo 21 = .ok (.iadd, 1) := by decide +kernel
theorem dX3_mustGo_22 : decode cX3_mustGo 22 = .ok (.goto 4, 3) := by decide +kernel
theorem dX3_mustGo_25 : decode cX3_mustGo 25 = .ok (.iload_n 1, 1) := by decide +kernel
theorem dX3_mustGo_26 : decode cX3_mustGo 26 = .ok (.if_icmp .lt 7, 3) := by decide +kernel
theorem dX3_mustGo_29 : decode cX3_mustGo 29 = .ok (.iconst 1, 1) := by decide +kernel
theorem dX3_mustGo_30 : decode cX3_mustGo 30 = .ok (.goto 4, 3) := by decide +kernel
theorem dX3_mustGo_33 : decode cX3_mustGo 33 = .ok (.iconst 0, 1) := by decide +kernel
theorem dX3_mustGo_34 : decode cX3_mustGo 34 = .ok (.ireturn, 1) := by decide +kernel
theorem dX3_moveTo_0 : decode cX3_moveTo 0 = .ok (.aload_n 0, 1) := by decide +kernel
theorem dX3_moveTo_1 : decode cX3_moveTo 1 = .ok (.aload_n 0, 1) := by decide +kernel
theorem dX3_moveTo_2 : decode cX3_moveTo 2 = .ok (.getfield 18, 3) := by decide +kernel
theorem dX3_moveTo_5 : decode cX3_moveTo 5 = .ok (.putfield 21, 3) := by decide +kernel
theorem dX3_moveTo_8 : decode cX3_moveTo 8 = .ok (.aload_n 0, 1) := by decide +kernel
theorem dX3_moveTo_9 : decode cX3_moveTo 9 = .ok (.iload_n 1, 1) := by decide +kernel
theorem dX3_moveTo_10 : decode cX3_moveTo 10 = .ok (.putfield 18, 3) := by decide +kernel
theorem dX3_moveTo_13 : decode cX3_moveTo 13 = .ok (.aload_n 0, 1) := by decide +kernel
theorem dX3_moveTo_14 : decode cX3_moveTo 14 = .ok (.iconst 0, 1) := by decide +kernel
theorem dX3_moveTo_15 : decode cX3_moveTo 15 = .ok (.putfield 27, 3) := by decide +kernel
theorem dX3_moveTo_18 : decode cX3_moveTo 18 = .ok (.aload_n 0, 1) := by decide +kernel
theorem dX3_moveTo_19 : decode cX3_moveTo 19 = .ok (.dup, 1) := by decide +kernel
theorem dX3_moveTo_20 : decode cX3_moveTo 20 = .ok (.getfield 33, 3) := by decide +kernel
theorem dX3_moveTo_23 : decode cX3_moveTo 23 = .ok (.iconst 1, 1) := by decide +kernel
theorem dX3_moveTo_24 : decode cX3_moveTo 24 = .ok (.iadd, 1) := by decide +kernel
theorem dX3_moveTo_25 : decode cX3_moveTo 25 = .ok (.putfield 33, 3) := by decide +kernel
theorem dX3_moveTo_28 : decode cX3_moveTo 28 = .ok (.aload_n 0, 1) := by decide +kernel
theorem dX3_moveTo_29 : decode cX3_moveTo 29 = .ok (.getfield 9, 3) := by decide +kernel
theorem dX3_moveTo_32 : decode cX3_moveTo 32 = .ok (.iconst 4, 1) := by decide +kernel
theorem dX3_moveTo_33 : decode cX3_moveTo 33 = .ok (.if_icmp .ne 16, 3) := by decide +kernel
theorem dX3_moveTo_36 : decode cX3_moveTo 36 = .ok (.aload_n 0, 1) := by decide +kernel
theorem dX3_moveTo_37 : decode cX3_moveTo 37 = .ok (.dup, 1) := by decide +kernel
theorem dX3_moveTo_38 : decode cX3_moveTo 38 = .ok (.getfield 24, 3) := by decide +kernel
theorem dX3_moveTo_41 : decode cX3_moveTo 41 = .ok (.iconst 2, 1) := by decide +kernel
theorem dX3_moveTo_42 : decode cX3_moveTo 42 = .ok (.iadd, 1) := by decide +kernel
theorem dX3_moveTo_43 : decode cX3_moveTo 43 = .ok (.putfield 24, 3) := by decide +kernel
theorem dX3_moveTo_46 : decode cX3_moveTo 46 = .ok (.goto 21, 3) := by decide +kernel
theorem dX3_moveTo_49 : decode cX3_moveTo 49 = .ok (.aload_n 0, 1) := by decide +kernel
theorem dX3_moveTo_50 : decode cX3_moveTo 50 = .ok (.getfield 9, 3) := by decide +kernel
theorem dX3_moveTo_53 : decode cX3_moveTo 53 = .ok (.iconst 2, 1) := by decide +kernel
theorem dX3_moveTo_54 : decode cX3_moveTo 54 = .ok (.if_icmp .eq 13, 3) := by decide +kernel
theorem dX3_moveTo_57 : decode cX3_moveTo 57 = .ok (.aload_n 0, 1) := by decide +kernel
theorem dX3_moveTo_58 : decode cX3_moveTo 58 = .ok (.dup, 1) := by decide +kernel
theorem dX3_moveTo_59 : decode cX3_moveTo 59 = .ok (.getfield 24, 3) := by decide +kernel
theorem dX3_moveTo_62 : decode cX3_moveTo 62 = .ok (.iconst 1, 1) := by decide +kernel
theorem dX3_moveTo_63 : decode cX3_moveTo 63 = .ok (.iadd, 1) := by decide +kernel
theorem dX3_moveTo_64 : decode cX3_moveTo 64 = .ok (.putfield 24, 3) := by decide +kernel
theorem dX3_moveTo_67 : decode cX3_moveTo 67 = .ok (.aload_n 0, 1) := by decide +kernel
theorem dX3_moveTo_68 : decode cX3_moveTo 68 = .ok (.iconst 1, 1) := by decide +kernel
theorem dX3_moveTo_69 : decode cX3_moveTo 69 = .ok (.invokevirtual 49, 3) := by decide +kernel
theorem dX3_moveTo_72 : decode cX3_moveTo 72 = .ok (.ifCond .eq 19, 3) := by decide +kernel
theorem dX3_moveTo_75 : decode cX3_moveTo 75 = .ok (.aload_n 0, 1) := by decide +kernel
theorem dX3_moveTo_76 : decode cX3_moveTo 76 = .ok (.getfield 24, 3) := by decide +kernel
theorem dX3_moveTo_79 : decode cX3_moveTo 79 = .ok (.iload_n 2, 1) := by decide +kernel
theorem dX3_moveTo_80 : decode cX3_moveTo 80 = .ok (.if_icmp .lt 11, 3) := by decide +kernel
theorem dX3_moveTo_83 : decode cX3_moveTo 83 = .ok (.aload_n 0, 1) := by decide +kernel
theorem dX3_moveTo_84 : decode cX3_moveTo 84 = .ok (.iconst 2, 1) := by decide +kernel
theorem dX3_moveTo_85 : decode cX3_moveTo 85 = .ok (.putfield 30, 3) := by decide +kernel
theorem dX3_moveTo_88 : decode cX3_moveTo 88 = .ok (.goto 19, 3) := by decide +kernel
theorem dX3_moveTo_91 : decode cX3_moveTo 91 = .ok (.aload_n 0, 1) := by decide +kernel
theorem dX3_moveTo_92 : decode cX3_moveTo 92 = .ok (.getfield 18, 3) := by decide +kernel
theorem dX3_moveTo_95 : decode cX3_moveTo 95 = .ok (.aload_n 0, 1) := by decide +kernel
theorem dX3_moveTo_96 : decode cX3_moveTo 96 = .ok (.getfield 15, 3) := by decide +kernel
theorem dX3_moveTo_99 : decode cX3_moveTo 99 = .ok (.if_icmp .ne 8, 3) := by decide +kernel
theorem dX3_moveTo_102 : decode cX3_moveTo 102 = .ok (.aload_n 0, 1) := by decide +kernel
theorem dX3_moveTo_103 : decode cX3_moveTo 103 = .ok (.iconst 1, 1) := by decide +kernel
theorem dX3_moveTo_104 : decode cX3_moveTo 104 = .ok (.putfield 30, 3) := by decide +kernel
theorem dX3_moveTo_107 : decode cX3_moveTo 107 = .ok (.return_, 1) := by decide +kernel
theorem dX4_init_0 : decode cX4_init 0 = .ok (.aload_n 0, 1) := by decide +kernel
theorem dX4_init_1 : decode cX4_init 1 = .ok (.invokespecial 3, 3) := by decide +kernel
theorem dX4_init_4 : decode cX4_init 4 = .ok (.aload_n 0, 1) := by decide +kernel
theorem dX4_init_5 : decode cX4_init 5 = .ok (.iconst 1, 1) := by decide +kernel
theorem dX4_init_6 : decode cX4_init 6 = .ok (.putfield 11, 3) := by decide +kernel
theorem dX4_init_9 : decode cX4_init 9 = .ok (.aload_n 0, 1) := by decide +kernel
theorem dX4_init_10 : decode cX4_init 10 = .ok (.iconst 3, 1) := by decide +kernel
theorem dX4_init_11 : decode cX4_init 11 = .ok (.putfield 15, 3) := by decide +kernel
theorem dX4_init_14 : decode cX4_init 14 = .ok (.return_, 1) := by decide +kernel
theorem dX4_readFrom_0 : decode cX4_readFrom 0 = .ok (.aload_n 0, 1) := by decide +kernel
theorem dX4_readFrom_1 : decode cX4_readFrom 1 = .ok (.iconst 1, 1) := by decide +kernel
theorem dX4_readFrom_2 : decode cX4_readFrom 2 = .ok (.putfield 11, 3) := by decide +kernel
theorem dX4_readFrom_5 : decode cX4_readFrom 5 = .ok (.aload_n 0, 1) := by decide +kernel
theorem dX4_readFrom_6 : decode cX4_readFrom 6 = .ok (.iconst 0, 1) := by decide +kernel
theorem dX4_readFrom_7 : decode cX4_readFrom 7 = .ok (.putfield 18, 3) := by decide +kernel
theorem dX4_readFrom_10 : decode cX4_readFrom 10 = .ok (.aload_n 0, 1) := by decide +kernel
theorem dX4_readFrom_11 : decode cX4_readFrom 11 = .ok (.iconst 0, 1) := by decide +kernel
theorem dX4_readFrom_12 : decode cX4_readFrom 12 = .ok (.putfield 22, 3) := by decide +kernel
theorem dX4_readFrom_15 : decode cX4_readFrom 15 = .ok (.aload_n 0, 1) := by decide +kernel
theorem dX4_readFrom_16 : decode cX4_readFrom 16 = .ok (.iconst 3, 1) := by decide +kernel
theorem dX4_readFrom_17 : decode cX4_readFrom 17 = .ok (.putfield 15, 3) := by decide +kernel
theorem dX4_readFrom_20 : decode cX4_readFrom 20 = .ok (.iconst 0, 1) := by decide +kernel
theorem dX4_readFrom_21 : decode cX4_readFrom 21 = .ok (.istore_n 2, 1) := by decide +kernel
theorem dX4_readFrom_22 : decode cX4_readFrom 22 = .ok (.iconst 0, 1) := by decide +kernel
theorem dX4_readFrom_23 : decode cX4_readFrom 23 = .ok (.istore_n 3, 1) := by decide +kernel
theorem dX4_readFrom_24 : decode cX4_readFrom 24 = .ok (.iload_n 3, 1) := by decide +kernel
theorem dX4_readFrom_25 : decode cX4_readFrom 25 = .ok (.aload_n 1, 1) := by decide +kernel
theorem dX4_readFrom_26 : decode cX4_readFrom 26 = .ok (.getfield 25, 3) := by decide +kernel
theorem dX4_readFrom_29 : decode cX4_readFrom 29 = .ok (.if_icmp .ge 89, 3) := by decide +kernel
theorem dX4_readFrom_32 : decode cX4_readFrom 32 = .ok (.iload_n 3, 1) := by decide +kernel
theorem dX4_readFrom_33 : decode cX4_readFrom 33 = .ok (.bipush 16, 2) := by decide +kernel
theorem dX4_readFrom_35 : decode cX4_readFrom 35 = .ok (.if_icmp .ge 83, 3) := by decide +kernel
theorem dX4_readFrom_38 : decode cX4_readFrom 38 = .ok (.aload_n 1, 1) := by decide +kernel
theorem dX4_readFrom_39 : decode cX4_readFrom 39 = .ok (.getfield 30, 3) := by decide +kernel
theorem dX4_readFrom_42 : decode cX4_readFrom 42 = .ok (.iload_n 3, 1) := by decide +kernel
theorem dX4_readFrom_43 : decode cX4_readFrom 43 = .ok (.iaload, 1) := by decide +kernel
theorem dX4_readFrom_44 : decode cX4_readFrom 44 = .ok (.istore 4, 2) := by decide +kernel
theorem dX4_readFrom_46 : decode cX4_readFrom 46 = .ok (.iload_n 2, 1) := by decide +kernel
theorem dX4_readFrom_47 : decode cX4_readFrom 47 = .ok (.bipush 107, 2) := by decide +kernel
theorem dX4_readFrom_49 : decode cX4_readFrom 49 = .ok (.if_icmp .ne 15, 3) := by decide +kernel
theorem dX4_readFrom_52 : decode cX4_readFrom 52 = .ok (.aload_n 0, 1) := by decide +kernel
theorem dX4_readFrom_53 : decode cX4_readFrom 53 = .ok (.iload 4, 2) := by decide +kernel
theorem dX4_readFrom_55 : decode cX4_readFrom 55 = .ok (.bipush 48, 2) := by decide +kernel
theorem dX4_readFrom_57 : decode cX4_readFrom 57 = .ok (.isub, 1) := by decide +kernel
theorem dX4_readFrom_58 : decode cX4_readFrom 58 = .ok (.putfield 11, 3) := by decide +kernel
theorem dX4_readFrom_61 : decode cX4_readFrom 61 = .ok (.goto 48, 3) := by decide +kernel
theorem dX4_readFrom_64 : decode cX4_readFrom 64 = .ok (.iload_n 2, 1) := by decide +kernel
theorem dX4_readFrom_65 : decode cX4_readFrom 65 = .ok (.bipush 119, 2) := by decide +kernel
theorem dX4_readFrom_67 : decode cX4_readFrom 67 = .ok (.if_icmp .ne 15, 3) := by decide +kernel
theorem dX4_readFrom_70 : decode cX4_readFrom 70 = .ok (.aload_n 0, 1) := by decide +kernel
theorem dX4_readFrom_71 : decode cX4_readFrom 71 = .ok (.iload 4, 2) := by decide +kernel
theorem dX4_readFrom_73 : decode cX4_readFrom 73 = .ok (.bipush 48, 2) := by decide +kernel
theorem dX4_readFrom_75 : decode cX4_readFrom 75 = .ok (.isub, 1) := by decide +kernel
theorem dX4_readFrom_76 : decode cX4_readFrom 76 = .ok (.putfield 15, 3) := by decide +kernel
theorem dX4_readFrom_79 : decode cX4_readFrom 79 = .ok (.goto 30, 3) := by decide +kernel
theorem dX4_readFrom_82 : decode cX4_readFrom 82 = .ok (.iload 4, 2) := by decide +kernel
theorem dX4_readFrom_84 : decode cX4_readFrom 84 = .ok (.bipush 98, 2) := by decide +kernel
theorem dX4_readFrom_86 : decode cX4_readFrom 86 = .ok (.if_icmp .ne 11, 3) := by decide +kernel
theorem dX4_readFrom_89 : decode cX4_readFrom 89 = .ok (.aload_n 0, 1) := by decide +kernel
theorem dX4_readFrom_90 : decode cX4_readFrom 90 = .ok (.iconst 1, 1) := by decide +kernel
theorem dX4_readFrom_91 : decode cX4_readFrom 91 = .ok (.putfield 18, 3) := by decide +kernel
theorem dX4_readFrom_94 : decode cX4_readFrom 94 = .ok (.goto 15, 3) := by decide +kernel
theorem dX4_readFrom_97 : decode cX4_readFrom 97 = .ok (.iload 4, 2) := by decide +kernel
theorem dX4_readFrom_99 : decode cX4_readFrom 99 = .ok (.bipush 111, 2) := by decide +kernel
theorem dX4_readFrom_101 : decode cX4_readFrom 101 = .ok (.if_icmp .ne 8, 3) := by decide +kernel
theorem dX4_readFrom_104 : decode cX4_readFrom 104 = .ok (.aload_n 0, 1) := by decide +kernel
theorem dX4_readFrom_105 : decode cX4_readFrom 105 = .ok (.iconst 1, 1) := by decide +kernel
theorem dX4_readFrom_106 : decode cX4_readFrom 106 = .ok (.putfield 22, 3) := by decide +kernel
theorem dX4_readFrom_109 : decode cX4_readFrom 109 = .ok (.iload 4, 2) := by decide +kernel
theorem dX4_readFrom_111 : decode cX4_readFrom 111 = .ok (.istore_n 2, 1) := by decide +kernel
theorem dX4_readFrom_112 : decode cX4_readFrom 112 = .ok (.iinc 3 1, 3) := by decide +kernel
theorem dX4_readFrom_115 : decode cX4_readFrom 115 = .ok (.goto (-91), 3) := by decide +kernel
theorem dX4_readFrom_118 : decode cX4_readFrom 118 = .ok (.return_, 1) := by decide +kernel
theorem dX5_init_0 : decode cX5_init 0 = .ok (.aload_n 0, 1) := by decide +kernel
theorem dX5_init_1 : decode cX5_init 1 = .ok (.invokespecial 3, 3) := by decide +kernel
theorem dX5_init_4 : decode cX5_init 4 = .ok (.aload_n 0, 1) := by decide +kernel
theorem dX5_init_5 : decode cX5_init 5 = .ok (.bipush 16, 2) := by decide +kernel
theorem dX5_init_7 : decode cX5_init 7 = .ok (.newarray .int, 2) := by decide +kernel
theorem dX5_init_9 : decode cX5_init 9 = .ok (.putfield 9, 3) := by decide +kernel
theorem dX5_init_12 : decode cX5_init 12 = .ok (.return_, 1) := by decide +kernel
theorem dX5_lettersIn_0 : decode cX5_lettersIn 0 = .ok (.iconst 0, 1) := by decide +kernel
theorem dX5_lettersIn_1 : decode cX5_lettersIn 1 = .ok (.istore_n 2, 1) := by decide +kernel
theorem dX5_lettersIn_2 : decode cX5_lettersIn 2 = .ok (.iconst 0, 1) := by decide +kernel
theorem dX5_lettersIn_3 : decode cX5_lettersIn 3 = .ok (.istore_n 3, 1) := by decide +kernel
theorem dX5_lettersIn_4 : decode cX5_lettersIn 4 = .ok (.iconst 0, 1) := by decide +kernel
theorem dX5_lettersIn_5 : decode cX5_lettersIn 5 = .ok (.istore 4, 2) := by decide +kernel
theorem dX5_lettersIn_7 : decode cX5_lettersIn 7 = .ok (.iload 4, 2) := by decide +kernel
theorem dX5_lettersIn_9 : decode cX5_lettersIn 9 = .ok (.bipush 8, 2) := by decide +kernel
theorem dX5_lettersIn_11 : decode cX5_lettersIn 11 = .ok (.if_icmp .ge 48, 3) := by decide +kernel
theorem dX5_lettersIn_14 : decode cX5_lettersIn 14 = .ok (.lload_n 0, 1) := by decide +kernel
theorem dX5_lettersIn_15 : decode cX5_lettersIn 15 = .ok (.iload 4, 2) := by decide +kernel
theorem dX5_lettersIn_17 : decode cX5_lettersIn 17 = .ok (.invokestatic 15, 3) := by decide +kernel
theorem dX5_lettersIn_20 : decode cX5_lettersIn 20 = .ok (.istore 5, 2) := by decide +kernel
theorem dX5_lettersIn_22 : decode cX5_lettersIn 22 = .ok (.iload 5, 2) := by decide +kernel
theorem dX5_lettersIn_24 : decode cX5_lettersIn 24 = .ok (.bipush 126, 2) := by decide +kernel
theorem dX5_lettersIn_26 : decode cX5_lettersIn 26 = .ok (.if_icmp .gt 12, 3) := by decide +kernel
theorem dX5_lettersIn_29 : decode cX5_lettersIn 29 = .ok (.iload_n 3, 1) := by decide +kernel
theorem dX5_lettersIn_30 : decode cX5_lettersIn 30 = .ok (.ifCond .eq 10, 3) := by decide +kernel
theorem dX5_lettersIn_33 : decode cX5_lettersIn 33 = .ok (.iload 5, 2) := by decide +kernel
theorem dX5_lettersIn_35 : decode cX5_lettersIn 35 = .ok (.ifCond .eq 5, 3) := by decide +kernel
theorem dX5_lettersIn_38 : decode cX5_lettersIn 38 = .ok (.iconst (-1), 1) := by decide +kernel
theorem dX5_lettersIn_39 : decode cX5_lettersIn 39 = .ok (.ireturn, 1) := by decide +kernel
theorem dX5_lettersIn_40 : decode cX5_lettersIn 40 = .ok (.iload 5, 2) := by decide +kernel
theorem dX5_lettersIn_42 : decode cX5_lettersIn 42 = .ok (.ifCond .ne 8, 3) := by decide +kernel
theorem dX5_lettersIn_45 : decode cX5_lettersIn 45 = .ok (.iconst 1, 1) := by decide +kernel
theorem dX5_lettersIn_46 : decode cX5_lettersIn 46 = .ok (.istore_n 3, 1) := by decide +kernel
theorem dX5_lettersIn_47 : decode cX5_lettersIn 47 = .ok (.goto 6, 3) := by decide +kernel
theorem dX5_lettersIn_50 : decode cX5_lettersIn 50 = .ok (.iinc 2 1, 3) := by decide +kernel
theorem dX5_lettersIn_53 : decode cX5_lettersIn 53 = .ok (.iinc 4 1, 3) := by decide +kernel
theorem dX5_lettersIn_56 : decode cX5_lettersIn 56 = .ok (.goto (-49), 3) := by decide +kernel
theorem dX5_lettersIn_59 : decode cX5_lettersIn 59 = .ok (.iload_n 2, 1) := by decide +kernel
theorem dX5_lettersIn_60 : decode cX5_lettersIn 60 = .ok (.ireturn, 1) := by decide +kernel
theorem dX5_byteOf_0 : decode cX5_byteOf 0 = .ok (.lload_n 0, 1) := by decide +kernel
theorem dX5_byteOf_1 : decode cX5_byteOf 1 = .ok (.bipush 8, 2) := by decide +kernel
theorem dX5_byteOf_3 : decode cX5_byteOf 3 = .ok (.iload_n 2, 1) := by decide +kernel
theorem dX5_byteOf_4 : decode cX5_byteOf 4 = .ok (.imul, 1) := by decide +kernel
theorem dX5_byteOf_5 : decode cX5_byteOf 5 = .ok (.lushr, 1) := by decide +kernel
theorem dX5_byteOf_6 : decode cX5_byteOf 6 = .ok (.ldc2_w 19, 3) := by decide +kernel
theorem dX5_byteOf_9 : decode cX5_byteOf 9 = .ok (.land, 1) := by decide +kernel
theorem dX5_byteOf_10 : decode cX5_byteOf 10 = .ok (.l2i, 1) := by decide +kernel
theorem dX5_byteOf_11 : decode cX5_byteOf 11 = .ok (.ireturn, 1) := by decide +kernel
theorem dX5_append_0 : decode cX5_append 0 = .ok (.iconst 0, 1) := by decide +kernel
theorem dX5_append_1 : decode cX5_append 1 = .ok (.istore 4, 2) := by decide +kernel
theorem dX5_append_3 : decode cX5_append 3 = .ok (.iload 4, 2) := by decide +kernel
theorem dX5_append_5 : decode cX5_append 5 = .ok (.iload_n 3, 1) := by decide +kernel
theorem dX5_append_6 : decode cX5_append 6 = .ok (.if_icmp .ge 43, 3) := by decide +kernel
theorem dX5_append_9 : decode cX5_append 9 = .ok (.aload_n 0, 1) := by decide +kernel
theorem dX5_append_10 : decode cX5_append 10 = .ok (.getfield 21, 3) := by decide +kernel
theorem dX5_append_13 : decode cX5_append 13 = .ok (.bipush 16, 2) := by decide +kernel
theorem dX5_append_15 : decode cX5_append 15 = .ok (.if_icmp .ge 34, 3) := by decide +kernel
theorem dX5_append_18 : decode cX5_append 18 = .ok (.aload_n 0, 1) := by decide +kernel
theorem dX5_append_19 : decode cX5_append 19 = .ok (.getfield 9, 3) := by decide +kernel
theorem dX5_append_22 : decode cX5_append 22 = .ok (.aload_n 0, 1) := by decide +kernel
theorem dX5_append_23 : decode cX5_append 23 = .ok (.getfield 21, 3) := by decide +kernel
theorem dX5_append_26 : decode cX5_append 26 = .ok (.lload_n 1, 1) := by decide +kernel
theorem dX5_append_27 : decode cX5_append 27 = .ok (.iload 4, 2) := by decide +kernel
theorem dX5_append_29 : decode cX5_append 29 = .ok (.invokestatic 15, 3) := by decide +kernel
theorem dX5_append_32 : decode cX5_append 32 = .ok (.iastore, 1) := by decide +kernel
theorem dX5_append_33 : decode cX5_append 33 = .ok (.aload_n 0, 1) := by decide +kernel
theorem dX5_append_34 : decode cX5_append 34 = .ok (.dup, 1) := by decide +kernel
theorem dX5_append_35 : decode cX5_append 35 = .ok (.getfield 21, 3) := by decide +kernel
theorem dX5_append_38 : decode cX5_append 38 = .ok (.iconst 1, 1) := by decide +kernel
theorem dX5_append_39 : decode cX5_append 39 = .ok (.iadd, 1) := by decide +kernel
theorem dX5_append_40 : decode cX5_append 40 = .ok (.putfield 21, 3) := by decide +kernel
theorem dX5_append_43 : decode cX5_append 43 = .ok (.iinc 4 1, 3) := by decide +kernel
theorem dX5_append_46 : decode cX5_append 46 = .ok (.goto (-43), 3) := by decide +kernel
theorem dX5_append_49 : decode cX5_append 49 = .ok (.return_, 1) := by decide +kernel
theorem dX5_firstFault_0 : decode cX5_firstFault 0 = .ok (.iconst 0, 1) := by decide +kernel
theorem dX5_firstFault_1 : decode cX5_firstFault 1 = .ok (.istore_n 1, 1) := by decide +kernel
theorem dX5_firstFault_2 : decode cX5_firstFault 2 = .ok (.iconst 0, 1) := by decide +kernel
theorem dX5_firstFault_3 : decode cX5_firstFault 3 = .ok (.istore_n 2, 1) := by decide +kernel
theorem dX5_firstFault_4 : decode cX5_firstFault 4 = .ok (.iload_n 2, 1) := by decide +kernel
theorem dX5_firstFault_5 : decode cX5_firstFault 5 = .ok (.aload_n 0, 1) := by decide +kernel
theorem dX5_firstFault_6 : decode cX5_firstFault 6 = .ok (.getfield 21, 3) := by decide +kernel
theorem dX5_firstFault_9 : decode cX5_firstFault 9 = .ok (.if_icmp .ge 33, 3) := by decide +kernel
theorem dX5_firstFault_12 : decode cX5_firstFault 12 = .ok (.iload_n 2, 1) := by decide +kernel
theorem dX5_firstFault_13 : decode cX5_firstFault 13 = .ok (.bipush 16, 2) := by decide +kernel
theorem dX5_firstFault_15 : decode cX5_firstFault 15 = .ok (.if_icmp .ge 27, 3) := by decide +kernel
theorem dX5_firstFault_18 : decode cX5_firstFault 18 = .ok (.iload_n 1, 1) := by decide +kernel
theorem dX5_firstFault_19 : decode cX5_firstFault 19 = .ok (.aload_n 0, 1) := by decide +kernel
theorem dX5_firstFault_20 : decode cX5_firstFault 20 = .ok (.getfield 9, 3) := by decide +kernel
theorem dX5_firstFault_23 : decode cX5_firstFault 23 = .ok (.iload_n 2, 1) := by decide +kernel
theorem dX5_firstFault_24 : decode cX5_firstFault 24 = .ok (.iaload, 1) := by decide +kernel
theorem dX5_firstFault_25 : decode cX5_firstFault 25 = .ok (.invokestatic 25, 3) := by decide +kernel
theorem dX5_firstFault_28 : decode cX5_firstFault 28 = .ok (.istore_n 1, 1) := by decide +kernel
theorem dX5_firstFault_29 : decode cX5_firstFault 29 = .ok (.iload_n 1, 1) := by decide +kernel
theorem dX5_firstFault_30 : decode cX5_firstFault 30 = .ok (.iconst (-1), 1) := by decide +kernel
theorem dX5_firstFault_31 : decode cX5_firstFault 31 = .ok (.if_icmp .ne 5, 3) := by decide +kernel
theorem dX5_firstFault_34 : decode cX5_firstFault 34 = .ok (.iload_n 2, 1) := by decide +kernel
theorem dX5_firstFault_35 : decode cX5_firstFault 35 = .ok (.ireturn, 1) := by decide +kernel
theorem dX5_firstFault_36 : decode cX5_firstFault 36 = .ok (.iinc 2 1, 3) := by decide +kernel
theorem dX5_firstFault_39 : decode cX5_firstFault 39 = .ok (.goto (-35), 3) := by decide +kernel
theorem dX5_firstFault_42 : decode cX5_firstFault 42 = .ok (.aload_n 0, 1) := by decide +kernel
theorem dX5_firstFault_43 : decode cX5_firstFault 43 = .ok (.getfield 21, 3) := by decide +kernel
theorem dX5_firstFault_46 : decode cX5_firstFault 46 = .ok (.ireturn, 1) := by decide +kernel
theorem dX5_isLaw_0 : decode cX5_isLaw 0 = .ok (.iconst 0, 1) := by decide +kernel
theorem dX5_isLaw_1 : decode cX5_isLaw 1 = .ok (.istore_n 1, 1) := by decide +kernel
theorem dX5_isLaw_2 : decode cX5_isLaw 2 = .ok (.iconst 0, 1) := by decide +kernel
theorem dX5_isLaw_3 : decode cX5_isLaw 3 = .ok (.istore_n 2, 1) := by decide +kernel
theorem dX5_isLaw_4 : decode cX5_isLaw 4 = .ok (.iload_n 2, 1) := by decide +kernel
theorem dX5_isLaw_5 : decode cX5_isLaw 5 = .ok (.aload_n 0, 1) := by decide +kernel
theorem dX5_isLaw_6 : decode cX5_isLaw 6 = .ok (.getfield 21, 3) := by decide +kernel
theorem dX5_isLaw_9 : decode cX5_isLaw 9 = .ok (.if_icmp .ge 31, 3) := by decide +kernel
theorem dX5_isLaw_12 : decode cX5_isLaw 12 = .ok (.iload_n 2, 1) := by decide +kernel
theorem dX5_isLaw_13 : decode cX5_isLaw 13 = .ok (.bipush 16, 2) := by decide +kernel
theorem dX5_isLaw_15 : decode cX5_isLaw 15 = .ok (.if_icmp .ge 25, 3) := by decide +kernel
theorem dX5_isLaw_18 : decode cX5_isLaw 18 = .ok (.iload_n 1, 1) := by decide +kernel
theorem dX5_isLaw_19 : decode cX5_isLaw 19 = .ok (.iconst (-1), 1) := by decide +kernel
theorem dX5_isLaw_20 : decode cX5_isLaw 20 = .ok (.if_icmp .eq 20, 3) := by decide +kernel
theorem dX5_isLaw_23 : decode cX5_isLaw 23 = .ok (.iload_n 1, 1) := by decide +kernel
theorem dX5_isLaw_24 : decode cX5_isLaw 24 = .ok (.aload_n 0, 1) := by decide +kernel
theorem dX5_isLaw_25 : decode cX5_isLaw 25 = .ok (.getfield 9, 3) := by decide +kernel
theorem dX5_isLaw_28 : decode cX5_isLaw 28 = .ok (.iload_n 2, 1) := by decide +kernel
theorem dX5_isLaw_29 : decode cX5_isLaw 29 = .ok (.iaload, 1) := by decide +kernel
theorem dX5_isLaw_30 : decode cX5_isLaw 30 = .ok (.invokestatic 25, 3) := by decide +kernel
theorem dX5_isLaw_33 : decode cX5_isLaw 33 = .ok (.istore_n 1, 1) := by decide +kernel
theorem dX5_isLaw_34 : decode cX5_isLaw 34 = .ok (.iinc 2 1, 3) := by decide +kernel
theorem dX5_isLaw_37 : decode cX5_isLaw 37 = .ok (.goto (-33), 3) := by decide +kernel
theorem dX5_isLaw_40 : decode cX5_isLaw 40 = .ok (.iload_n 1, 1) := by decide +kernel
theorem dX5_isLaw_41 : decode cX5_isLaw 41 = .ok (.iconst (-1), 1) := by decide +kernel
theorem dX5_isLaw_42 : decode cX5_isLaw 42 = .ok (.if_icmp .eq 17, 3) := by decide +kernel
theorem dX5_isLaw_45 : decode cX5_isLaw 45 = .ok (.iload_n 1, 1) := by decide +kernel
theorem dX5_isLaw_46 : decode cX5_isLaw 46 = .ok (.iconst 1, 1) := by decide +kernel
theorem dX5_isLaw_47 : decode cX5_isLaw 47 = .ok (.if_icmp .eq 12, 3) := by decide +kernel
theorem dX5_isLaw_50 : decode cX5_isLaw 50 = .ok (.iload_n 1, 1) := by decide +kernel
theorem dX5_isLaw_51 : decode cX5_isLaw 51 = .ok (.iconst 5, 1) := by decide +kernel
theorem dX5_isLaw_52 : decode cX5_isLaw 52 = .ok (.if_icmp .eq 7, 3) := by decide +kernel
theorem dX5_isLaw_55 : decode cX5_isLaw 55 = .ok (.iconst 1, 1) := by decide +kernel
theorem dX5_isLaw_56 : decode cX5_isLaw 56 = .ok (.goto 4, 3) := by decide +kernel
theorem dX5_isLaw_59 : decode cX5_isLaw 59 = .ok (.iconst 0, 1) := by decide +kernel
theorem dX5_isLaw_60 : decode cX5_isLaw 60 = .ok (.ireturn, 1) := by decide +kernel
theorem dX5_behind_0 : decode cX5_behind 0 = .ok (.iload_n 0, 1) := by decide +kernel
theorem dX5_behind_1 : decode cX5_behind 1 = .ok (.iconst 1, 1) := by decide +kernel
theorem dX5_behind_2 : decode cX5_behind 2 = .ok (.if_icmp .ne 20, 3) := by decide +kernel
theorem dX5_behind_5 : decode cX5_behind 5 = .ok (.iload_n 1, 1) := by decide +kernel
theorem dX5_behind_6 : decode cX5_behind 6 = .ok (.bipush 49, 2) := by decide +kernel
theorem dX5_behind_8 : decode cX5_behind 8 = .ok (.bipush 51, 2) := by decide +kernel
theorem dX5_behind_10 : decode cX5_behind 10 = .ok (.invokestatic 29, 3) := by decide +kernel
theorem dX5_behind_13 : decode cX5_behind 13 = .ok (.ifCond .eq 7, 3) := by decide +kernel
theorem dX5_behind_16 : decode cX5_behind 16 = .ok (.iconst 2, 1) := by decide +kernel
theorem dX5_behind_17 : decode cX5_behind 17 = .ok (.goto 4, 3) := by decide +kernel
theorem dX5_behind_20 : decode cX5_behind 20 = .ok (.iconst (-1), 1) := by decide +kernel
theorem dX5_behind_21 : decode cX5_behind 21 = .ok (.ireturn, 1) := by decide +kernel
theorem dX5_behind_22 : decode cX5_behind 22 = .ok (.iload_n 0, 1) := by decide +kernel
theorem dX5_behind_23 : decode cX5_behind 23 = .ok (.iconst 5, 1) := by decide +kernel
theorem dX5_behind_24 : decode cX5_behind 24 = .ok (.if_icmp .ne 21, 3) := by decide +kernel
theorem dX5_behind_27 : decode cX5_behind 27 = .ok (.iload_n 1, 1) := by decide +kernel
theorem dX5_behind_28 : decode cX5_behind 28 = .ok (.bipush 49, 2) := by decide +kernel
theorem dX5_behind_30 : decode cX5_behind 30 = .ok (.bipush 57, 2) := by decide +kernel
theorem dX5_behind_32 : decode cX5_behind 32 = .ok (.invokestatic 29, 3) := by decide +kernel
theorem dX5_behind_35 : decode cX5_behind 35 = .ok (.ifCond .eq 8, 3) := by decide +kernel
theorem dX5_behind_38 : decode cX5_behind 38 = .ok (.bipush 6, 2) := by decide +kernel
theorem dX5_behind_40 : decode cX5_behind 40 = .ok (.goto 4, 3) := by decide +kernel
theorem dX5_behind_43 : decode cX5_behind 43 = .ok (.iconst (-1), 1) := by decide +kernel
theorem dX5_behind_44 : decode cX5_behind 44 = .ok (.ireturn, 1) := by decide +kernel
theorem dX5_behind_45 : decode cX5_behind 45 = .ok (.iload_n 1, 1) := by decide +kernel
theorem dX5_behind_46 : decode cX5_behind 46 = .ok (.bipush 107, 2) := by decide +kernel
theorem dX5_behind_48 : decode cX5_behind 48 = .ok (.if_icmp .ne 9, 3) := by decide +kernel
theorem dX5_behind_51 : decode cX5_behind 51 = .ok (.iload_n 0, 1) := by decide +kernel
theorem dX5_behind_52 : decode cX5_behind 52 = .ok (.ifCond .ne 5, 3) := by decide +kernel
theorem dX5_behind_55 : decode cX5_behind 55 = .ok (.iconst 1, 1) := by decide +kernel
theorem dX5_behind_56 : decode cX5_behind 56 = .ok (.ireturn, 1) := by decide +kernel
theorem dX5_behind_57 : decode cX5_behind 57 = .ok (.iload_n 1, 1) := by decide +kernel
theorem dX5_behind_58 : decode cX5_behind 58 = .ok (.bipush 98, 2) := by decide +kernel
theorem dX5_behind_60 : decode cX5_behind 60 = .ok (.if_icmp .ne 10, 3) := by decide +kernel
theorem dX5_behind_63 : decode cX5_behind 63 = .ok (.iload_n 0, 1) := by decide +kernel
theorem dX5_behind_64 : decode cX5_behind 64 = .ok (.iconst 3, 1) := by decide +kernel
theorem dX5_behind_65 : decode cX5_behind 65 = .ok (.if_icmp .ge 5, 3) := by decide +kernel
theorem dX5_behind_68 : decode cX5_behind 68 = .ok (.iconst 3, 1) := by decide +kernel
theorem dX5_behind_69 : decode cX5_behind 69 = .ok (.ireturn, 1) := by decide +kernel
theorem dX5_behind_70 : decode cX5_behind 70 = .ok (.iload_n 1, 1) := by decide +kernel
theorem dX5_behind_71 : decode cX5_behind 71 = .ok (.bipush 111, 2) := by decide +kernel
theorem dX5_behind_73 : decode cX5_behind 73 = .ok (.if_icmp .ne 10, 3) := by decide +kernel
theorem dX5_behind_76 : decode cX5_behind 76 = .ok (.iload_n 0, 1) := by decide +kernel
theorem dX5_behind_77 : decode cX5_behind 77 = .ok (.iconst 4, 1) := by decide +kernel
theorem dX5_behind_78 : decode cX5_behind 78 = .ok (.if_icmp .ge 5, 3) := by decide +kernel
theorem dX5_behind_81 : decode cX5_behind 81 = .ok (.iconst 4, 1) := by decide +kernel
theorem dX5_behind_82 : decode cX5_behind 82 = .ok (.ireturn, 1) := by decide +kernel
theorem dX5_behind_83 : decode cX5_behind 83 = .ok (.iload_n 1, 1) := by decide +kernel
theorem dX5_behind_84 : decode cX5_behind 84 = .ok (.bipush 119, 2) := by decide +kernel
theorem dX5_behind_86 : decode cX5_behind 86 = .ok (.if_icmp .ne 10, 3) := by decide +kernel
theorem dX5_behind_89 : decode cX5_behind 89 = .ok (.iload_n 0, 1) := by decide +kernel
theorem dX5_behind_90 : decode cX5_behind 90 = .ok (.iconst 5, 1) := by decide +kernel
theorem dX5_behind_91 : decode cX5_behind 91 = .ok (.if_icmp .ge 5, 3) := by decide +kernel
theorem dX5_behind_94 : decode cX5_behind 94 = .ok (.iconst 5, 1) := by decide +kernel
theorem dX5_behind_95 : decode cX5_behind 95 = .ok (.ireturn, 1) := by decide +kernel
theorem dX5_behind_96 : decode cX5_behind 96 = .ok (.iconst (-1), 1) := by decide +kernel
theorem dX5_behind_97 : decode cX5_behind 97 = .ok (.ireturn, 1) := by decide +kernel
theorem dX6_init_0 : decode cX6_init 0 = .ok (.aload_n 0, 1) := by decide +kernel
theorem dX6_init_1 : decode cX6_init 1 = .ok (.invokespecial 3, 3) := by decide +kernel
theorem dX6_init_4 : decode cX6_init 4 = .ok (.aload_n 0, 1) := by decide +kernel
theorem dX6_init_5 : decode cX6_init 5 = .ok (.bipush 72, 2) := by decide +kernel
theorem dX6_init_7 : decode cX6_init 7 = .ok (.newarray .long, 2) := by decide +kernel
theorem dX6_init_9 : decode cX6_init 9 = .ok (.putfield 11, 3) := by decide +kernel
theorem dX6_init_12 : decode cX6_init 12 = .ok (.aload_n 0, 1) := by decide +kernel
theorem dX6_init_13 : decode cX6_init 13 = .ok (.bipush 72, 2) := by decide +kernel
theorem dX6_init_15 : decode cX6_init 15 = .ok (.newarray .long, 2) := by decide +kernel
theorem dX6_init_17 : decode cX6_init 17 = .ok (.putfield 15, 3) := by decide +kernel
theorem dX6_init_20 : decode cX6_init 20 = .ok (.return_, 1) := by decide +kernel
theorem dX6_begin_0 : decode cX6_begin 0 = .ok (.aload_n 0, 1) := by decide +kernel
theorem dX6_begin_1 : decode cX6_begin 1 = .ok (.getfield 11, 3) := by decide +kernel
theorem dX6_begin_4 : decode cX6_begin 4 = .ok (.invokestatic 18, 3) := by decide +kernel
theorem dX6_begin_7 : decode cX6_begin 7 = .ok (.aload_n 0, 1) := by decide +kernel
theorem dX6_begin_8 : decode cX6_begin 8 = .ok (.getfield 11, 3) := by decide +kernel
theorem dX6_begin_11 : decode cX6_begin 11 = .ok (.iload_n 1, 1) := by decide +kernel
theorem dX6_begin_12 : decode cX6_begin 12 = .ok (.iload_n 2, 1) := by decide +kernel
theorem dX6_begin_13 : decode cX6_begin 13 = .ok (.invokestatic 22, 3) := by decide +kernel
theorem dX6_begin_16 : decode cX6_begin 16 = .ok (.lconst 1, 1) := by decide +kernel
theorem dX6_begin_17 : decode cX6_begin 17 = .ok (.lastore, 1) := by decide +kernel
theorem dX6_begin_18 : decode cX6_begin 18 = .ok (.return_, 1) := by decide +kernel
theorem dX6_goOn_0 : decode cX6_goOn 0 = .ok (.aload_n 0, 1) := by decide +kernel
theorem dX6_goOn_1 : decode cX6_goOn 1 = .ok (.getfield 15, 3) := by decide +kernel
theorem dX6_goOn_4 : decode cX6_goOn 4 = .ok (.invokestatic 18, 3) := by decide +kernel
theorem dX6_goOn_7 : decode cX6_goOn 7 = .ok (.lconst 0, 1) := by decide +kernel
theorem dX6_goOn_8 : decode cX6_goOn 8 = .ok (.lstore 5, 2) := by decide +kernel
theorem dX6_goOn_10 : decode cX6_goOn 10 = .ok (.iconst (-1), 1) := by decide +kernel
theorem dX6_goOn_11 : decode cX6_goOn 11 = .ok (.istore 7, 2) := by decide +kernel
theorem dX6_goOn_13 : decode cX6_goOn 13 = .ok (.iload 7, 2) := by decide +kernel
theorem dX6_goOn_15 : decode cX6_goOn 15 = .ok (.aload_n 1, 1) := by decide +kernel
theorem dX6_goOn_16 : decode cX6_goOn 16 = .ok (.getfield 26, 3) := by decide +kernel
theorem dX6_goOn_19 : decode cX6_goOn 19 = .ok (.if_icmp .ge 130, 3) := by decide +kernel
theorem dX6_goOn_22 : decode cX6_goOn 22 = .ok (.iconst 0, 1) := by decide +kernel
theorem dX6_goOn_23 : decode cX6_goOn 23 = .ok (.istore 8, 2) := by decide +kernel
theorem dX6_goOn_25 : decode cX6_goOn 25 = .ok (.iload 8, 2) := by decide +kernel
theorem dX6_goOn_27 : decode cX6_goOn 27 = .ok (.aload_n 1, 1) := by decide +kernel
theorem dX6_goOn_28 : decode cX6_goOn 28 = .ok (.getfield 26, 3) := by decide +kernel
theorem dX6_goOn_31 : decode cX6_goOn 31 = .ok (.if_icmp .ge 112, 3) := by decide +kernel
theorem dX6_goOn_34 : decode cX6_goOn 34 = .ok (.aload_n 0, 1) := by decide +kernel
theorem dX6_goOn_35 : decode cX6_goOn 35 = .ok (.getfield 11, 3) := by decide +kernel
theorem dX6_goOn_38 : decode cX6_goOn 38 = .ok (.iload 7, 2) := by decide +kernel
theorem dX6_goOn_40 : decode cX6_goOn 40 = .ok (.iload 8, 2) := by decide +kernel
theorem dX6_goOn_42 : decode cX6_goOn 42 = .ok (.invokestatic 22, 3) := by decide +kernel
theorem dX6_goOn_45 : decode cX6_goOn 45 = .ok (.laload, 1) := by decide +kernel
theorem dX6_goOn_46 : decode cX6_goOn 46 = .ok (.lstore 9, 2) := by decide +kernel
theorem dX6_goOn_48 : decode cX6_goOn 48 = .ok (.lload 9, 2) := by decide +kernel
theorem dX6_goOn_50 : decode cX6_goOn 50 = .ok (.lconst 0, 1) := by decide +kernel
theorem dX6_goOn_51 : decode cX6_goOn 51 = .ok (.lcmp, 1) := by decide +kernel
theorem dX6_goOn_52 : decode cX6_goOn 52 = .ok (.ifCond .ne 7, 3) := by decide +kernel
theorem dX6_goOn_55 : decode cX6_goOn 55 = .ok (.iconst 0, 1) := by decide +kernel
theorem dX6_goOn_56 : decode cX6_goOn 56 = .ok (.goto 12, 3) := by decide +kernel
theorem dX6_goOn_59 : decode cX6_goOn 59 = .ok (.aload_n 1, 1) := by decide +kernel
theorem dX6_goOn_60 : decode cX6_goOn 60 = .ok (.iload 7, 2) := by decide +kernel
theorem dX6_goOn_62 : decode cX6_goOn 62 = .ok (.iload 8, 2) := by decide +kernel
theorem dX6_goOn_64 : decode cX6_goOn 64 = .ok (.iload_n 2, 1) := by decide +kernel
theorem dX6_goOn_65 : decode cX6_goOn 65 = .ok (.invokevirtual 32, 3) := by decide +kernel
theorem dX6_goOn_68 : decode cX6_goOn 68 = .ok (.istore 11, 2) := by decide +kernel
theorem dX6_goOn_70 : decode cX6_goOn 70 = .ok (.iload 11, 2) := by decide +kernel
theorem dX6_goOn_72 : decode cX6_goOn 72 = .ok (.ifCond .ne 6, 3) := by decide +kernel
theorem dX6_goOn_75 : decode cX6_goOn 75 = .ok (.goto 62, 3) := by decide +kernel
theorem dX6_goOn_78 : decode cX6_goOn 78 = .ok (.iload 4, 2) := by decide +kernel
theorem dX6_goOn_80 : decode cX6_goOn 80 = .ok (.ifCond .eq 19, 3) := by decide +kernel
theorem dX6_goOn_83 : decode cX6_goOn 83 = .ok (.lload 9, 2) := by decide +kernel
theorem dX6_goOn_85 : decode cX6_goOn 85 = .ok (.ldc2_w 36, 3) := by decide +kernel
theorem dX6_goOn_88 : decode cX6_goOn 88 = .ok (.iload 11, 2) := by decide +kernel
theorem dX6_goOn_90 : decode cX6_goOn 90 = .ok (.invokestatic 38, 3) := by decide +kernel
theorem dX6_goOn_93 : decode cX6_goOn 93 = .ok (.i2l, 1) := by decide +kernel
theorem dX6_goOn_94 : decode cX6_goOn 94 = .ok (.ldiv, 1) := by decide +kernel
theorem dX6_goOn_95 : decode cX6_goOn 95 = .ok (.lmul, 1) := by decide +kernel
theorem dX6_goOn_96 : decode cX6_goOn 96 = .ok (.goto 5, 3) := by decide +kernel
theorem dX6_goOn_99 : decode cX6_goOn 99 = .ok (.lload 9, 2) := by decide +kernel
theorem dX6_goOn_101 : decode cX6_goOn 101 = .ok (.lstore 12, 2) := by decide +kernel
theorem dX6_goOn_103 : decode cX6_goOn 103 = .ok (.iload 11, 2) := by decide +kernel
theorem dX6_goOn_105 : decode cX6_goOn 105 = .ok (.iload_n 3, 1) := by decide +kernel
theorem dX6_goOn_106 : decode cX6_goOn 106 = .ok (.invokestatic 44, 3) := by decide +kernel
theorem dX6_goOn_109 : decode cX6_goOn 109 = .ok (.iand, 1) := by decide +kernel
theorem dX6_goOn_110 : decode cX6_goOn 110 = .ok (.ifCond .eq 10, 3) := by decide +kernel
theorem dX6_goOn_113 : decode cX6_goOn 113 = .ok (.lload 5, 2) := by decide +kernel
theorem dX6_goOn_115 : decode cX6_goOn 115 = .ok (.lload 12, 2) := by decide +kernel
theorem dX6_goOn_117 : decode cX6_goOn 117 = .ok (.ladd, 1) := by decide +kernel
theorem dX6_goOn_118 : decode cX6_goOn 118 = .ok (.lstore 5, 2) := by decide +kernel
theorem dX6_goOn_120 : decode cX6_goOn 120 = .ok (.aload_n 0, 1) := by decide +kernel
theorem dX6_goOn_121 : decode cX6_goOn 121 = .ok (.lload 12, 2) := by decide +kernel
theorem dX6_goOn_123 : decode cX6_goOn 123 = .ok (.iload 8, 2) := by decide +kernel
theorem dX6_goOn_125 : decode cX6_goOn 125 = .ok (.iload 11, 2) := by decide +kernel
theorem dX6_goOn_127 : decode cX6_goOn 127 = .ok (.iload_n 3, 1) := by decide +kernel
theorem dX6_goOn_128 : decode cX6_goOn 128 = .ok (.invokestatic 44, 3) := by decide +kernel
theorem dX6_goOn_131 : decode cX6_goOn 131 = .ok (.iconst (-1), 1) := by decide +kernel
theorem dX6_goOn_132 : decode cX6_goOn 132 = .ok (.ixor, 1) := by decide +kernel
theorem dX6_goOn_133 : decode cX6_goOn 133 = .ok (.iand, 1) := by decide +kernel
theorem dX6_goOn_134 : decode cX6_goOn 134 = .ok (.invokevirtual 47, 3) := by decide +kernel
theorem dX6_goOn_137 : decode cX6_goOn 137 = .ok (.iinc 8 1, 3) := by decide +kernel
theorem dX6_goOn_140 : decode cX6_goOn 140 = .ok (.goto (-115), 3) := by decide +kernel
theorem dX6_goOn_143 : decode cX6_goOn 143 = .ok (.iinc 7 1, 3) := by decide +kernel
theorem dX6_goOn_146 : decode cX6_goOn 146 = .ok (.goto (-133), 3) := by decide +kernel
theorem dX6_goOn_149 : decode cX6_goOn 149 = .ok (.aload_n 0, 1) := by decide +kernel
theorem dX6_goOn_150 : decode cX6_goOn 150 = .ok (.getfield 15, 3) := by decide +kernel
theorem dX6_goOn_153 : decode cX6_goOn 153 = .ok (.iconst 0, 1) := by decide +kernel
theorem dX6_goOn_154 : decode cX6_goOn 154 = .ok (.aload_n 0, 1) := by decide +kernel
theorem dX6_goOn_155 : decode cX6_goOn 155 = .ok (.getfield 11, 3) := by decide +kernel
theorem dX6_goOn_158 : decode cX6_goOn 158 = .ok (.iconst 0, 1) := by decide +kernel
theorem dX6_goOn_159 : decode cX6_goOn 159 = .ok (.bipush 72, 2) := by decide +kernel
theorem dX6_goOn_161 : decode cX6_goOn 161 = .ok (.invokestatic 51, 3) := by decide +kernel
theorem dX6_goOn_164 : decode cX6_goOn 164 = .ok (.lload 5, 2) := by decide +kernel
theorem dX6_goOn_166 : decode cX6_goOn 166 = .ok (.lreturn, 1) := by decide +kernel
theorem dX6_spread_0 : decode cX6_spread 0 = .ok (.iconst 0, 1) := by decide +kernel
theorem dX6_spread_1 : decode cX6_spread 1 = .ok (.istore 5, 2) := by decide +kernel
theorem dX6_spread_3 : decode cX6_spread 3 = .ok (.iload 5, 2) := by decide +kernel
theorem dX6_spread_5 : decode cX6_spread 5 = .ok (.bipush 8, 2) := by decide +kernel
theorem dX6_spread_7 : decode cX6_spread 7 = .ok (.if_icmp .ge 35, 3) := by decide +kernel
theorem dX6_spread_10 : decode cX6_spread 10 = .ok (.iload 4, 2) := by decide +kernel
theorem dX6_spread_12 : decode cX6_spread 12 = .ok (.iload 5, 2) := by decide +kernel
theorem dX6_spread_14 : decode cX6_spread 14 = .ok (.invokestatic 44, 3) := by decide +kernel
theorem dX6_spread_17 : decode cX6_spread 17 = .ok (.iand, 1) := by decide +kernel
theorem dX6_spread_18 : decode cX6_spread 18 = .ok (.ifCond .eq 18, 3) := by decide +kernel
theorem dX6_spread_21 : decode cX6_spread 21 = .ok (.aload_n 0, 1) := by decide +kernel
theorem dX6_spread_22 : decode cX6_spread 22 = .ok (.getfield 15, 3) := by decide +kernel
theorem dX6_spread_25 : decode cX6_spread 25 = .ok (.iload_n 3, 1) := by decide +kernel
theorem dX6_spread_26 : decode cX6_spread 26 = .ok (.iload 5, 2) := by decide +kernel
theorem dX6_spread_28 : decode cX6_spread 28 = .ok (.invokestatic 22, 3) := by decide +kernel
theorem dX6_spread_31 : decode cX6_spread 31 = .ok (.dup2, 1) := by decide +kernel
theorem dX6_spread_32 : decode cX6_spread 32 = .ok (.laload, 1) := by decide +kernel
theorem dX6_spread_33 : decode cX6_spread 33 = .ok (.lload_n 1, 1) := by decide +kernel
theorem dX6_spread_34 : decode cX6_spread 34 = .ok (.ladd, 1) := by decide +kernel
theorem dX6_spread_35 : decode cX6_spread 35 = .ok (.lastore, 1) := by decide +kernel
theorem dX6_spread_36 : decode cX6_spread 36 = .ok (.iinc 5 1, 3) := by decide +kernel
theorem dX6_spread_39 : decode cX6_spread 39 = .ok (.goto (-36), 3) := by decide +kernel
theorem dX6_spread_42 : decode cX6_spread 42 = .ok (.return_, 1) := by decide +kernel
theorem dX6_keepOnly_0 : decode cX6_keepOnly 0 = .ok (.iconst 0, 1) := by decide +kernel
theorem dX6_keepOnly_1 : decode cX6_keepOnly 1 = .ok (.istore_n 2, 1) := by decide +kernel
theorem dX6_keepOnly_2 : decode cX6_keepOnly 2 = .ok (.iload_n 2, 1) := by decide +kernel
theorem dX6_keepOnly_3 : decode cX6_keepOnly 3 = .ok (.bipush 72, 2) := by decide +kernel
theorem dX6_keepOnly_5 : decode cX6_keepOnly 5 = .ok (.if_icmp .ge 24, 3) := by decide +kernel
theorem dX6_keepOnly_8 : decode cX6_keepOnly 8 = .ok (.iload_n 2, 1) := by decide +kernel
theorem dX6_keepOnly_9 : decode cX6_keepOnly 9 = .ok (.bipush 8, 2) := by decide +kernel
theorem dX6_keepOnly_11 : decode cX6_keepOnly 11 = .ok (.irem, 1) := by decide +kernel
theorem dX6_keepOnly_12 : decode cX6_keepOnly 12 = .ok (.iload_n 1, 1) := by decide +kernel
theorem dX6_keepOnly_13 : decode cX6_keepOnly 13 = .ok (.if_icmp .eq 10, 3) := by decide +kernel
theorem dX6_keepOnly_16 : decode cX6_keepOnly 16 = .ok (.aload_n 0, 1) := by decide +kernel
theorem dX6_keepOnly_17 : decode cX6_keepOnly 17 = .ok (.getfield 11, 3) := by decide +kernel
theorem dX6_keepOnly_20 : decode cX6_keepOnly 20 = .ok (.iload_n 2, 1) := by decide +kernel
theorem dX6_keepOnly_21 : decode cX6_keepOnly 21 = .ok (.lconst 0, 1) := by decide +kernel
theorem dX6_keepOnly_22 : decode cX6_keepOnly 22 = .ok (.lastore, 1) := by decide +kernel
theorem dX6_keepOnly_23 : decode cX6_keepOnly 23 = .ok (.iinc 2 1, 3) := by decide +kernel
theorem dX6_keepOnly_26 : decode cX6_keepOnly 26 = .ok (.goto (-24), 3) := by decide +kernel
theorem dX6_keepOnly_29 : decode cX6_keepOnly 29 = .ok (.return_, 1) := by decide +kernel
theorem dX6_sum_0 : decode cX6_sum 0 = .ok (.lconst 0, 1) := by decide +kernel
theorem dX6_sum_1 : decode cX6_sum 1 = .ok (.lstore_n 1, 1) := by decide +kernel
theorem dX6_sum_2 : decode cX6_sum 2 = .ok (.iconst 0, 1) := by decide +kernel
theorem dX6_sum_3 : decode cX6_sum 3 = .ok (.istore_n 3, 1) := by decide +kernel
theorem dX6_sum_4 : decode cX6_sum 4 = .ok (.iload_n 3, 1) := by decide +kernel
theorem dX6_sum_5 : decode cX6_sum 5 = .ok (.bipush 72, 2) := by decide +kernel
theorem dX6_sum_7 : decode cX6_sum 7 = .ok (.if_icmp .ge 18, 3) := by decide +kernel
theorem dX6_sum_10 : decode cX6_sum 10 = .ok (.lload_n 1, 1) := by decide +kernel
theorem dX6_sum_11 : decode cX6_sum 11 = .ok (.aload_n 0, 1) := by decide +kernel
theorem dX6_sum_12 : decode cX6_sum 12 = .ok (.getfield 11, 3) := by decide +kernel
theorem dX6_sum_15 : decode cX6_sum 15 = .ok (.iload_n 3, 1) := by decide +kernel
theorem dX6_sum_16 : decode cX6_sum 16 = .ok (.laload, 1) := by decide +kernel
theorem dX6_sum_17 : decode cX6_sum 17 = .ok (.ladd, 1) := by decide +kernel
theorem dX6_sum_18 : decode cX6_sum 18 = .ok (.lstore_n 1, 1) := by decide +kernel
theorem dX6_sum_19 : decode cX6_sum 19 = .ok (.iinc 3 1, 3) := by decide +kernel
theorem dX6_sum_22 : decode cX6_sum 22 = .ok (.goto (-18), 3) := by decide +kernel
theorem dX6_sum_25 : decode cX6_sum 25 = .ok (.lload_n 1, 1) := by decide +kernel
theorem dX6_sum_26 : decode cX6_sum 26 = .ok (.lreturn, 1) := by decide +kernel
theorem dX6_spot_0 : decode cX6_spot 0 = .ok (.iload_n 0, 1) := by decide +kernel
theorem dX6_spot_1 : decode cX6_spot 1 = .ok (.iconst 1, 1) := by decide +kernel
theorem dX6_spot_2 : decode cX6_spot 2 = .ok (.iadd, 1) := by decide +kernel
theorem dX6_spot_3 : decode cX6_spot 3 = .ok (.bipush 8, 2) := by decide +kernel
theorem dX6_spot_5 : decode cX6_spot 5 = .ok (.imul, 1) := by decide +kernel
theorem dX6_spot_6 : decode cX6_spot 6 = .ok (.iload_n 1, 1) := by decide +kernel
theorem dX6_spot_7 : decode cX6_spot 7 = .ok (.iadd, 1) := by decide +kernel
theorem dX6_spot_8 : decode cX6_spot 8 = .ok (.ireturn, 1) := by decide +kernel
theorem dX6_clear_0 : decode cX6_clear 0 = .ok (.iconst 0, 1) := by decide +kernel
theorem dX6_clear_1 : decode cX6_clear 1 = .ok (.istore_n 1, 1) := by decide +kernel
theorem dX6_clear_2 : decode cX6_clear 2 = .ok (.iload_n 1, 1) := by decide +kernel
theorem dX6_clear_3 : decode cX6_clear 3 = .ok (.aload_n 0, 1) := by decide +kernel
theorem dX6_clear_4 : decode cX6_clear 4 = .ok (.arraylength, 1) := by decide +kernel
theorem dX6_clear_5 : decode cX6_clear 5 = .ok (.if_icmp .ge 13, 3) := by decide +kernel
theorem dX6_clear_8 : decode cX6_clear 8 = .ok (.aload_n 0, 1) := by decide +kernel
theorem dX6_clear_9 : decode cX6_clear 9 = .ok (.iload_n 1, 1) := by decide +kernel
theorem dX6_clear_10 : decode cX6_clear 10 = .ok (.lconst 0, 1) := by decide +kernel
theorem dX6_clear_11 : decode cX6_clear 11 = .ok (.lastore, 1) := by decide +kernel
theorem dX6_clear_12 : decode cX6_clear 12 = .ok (.iinc 1 1, 3) := by decide +kernel
theorem dX6_clear_15 : decode cX6_clear 15 = .ok (.goto (-13), 3) := by decide +kernel
theorem dX6_clear_18 : decode cX6_clear 18 = .ok (.return_, 1) := by decide +kernel
theorem dX7_init_0 : decode cX7_init 0 = .ok (.aload_n 0, 1) := by decide +kernel
theorem dX7_init_1 : decode cX7_init 1 = .ok (.invokespecial 3, 3) := by decide +kernel
theorem dX7_init_4 : decode cX7_init 4 = .ok (.aload_n 0, 1) := by decide +kernel
theorem dX7_init_5 : decode cX7_init 5 = .ok (.bipush 8, 2) := by decide +kernel
theorem dX7_init_7 : decode cX7_init 7 = .ok (.newarray .int, 2) := by decide +kernel
theorem dX7_init_9 : decode cX7_init 9 = .ok (.putfield 9, 3) := by decide +kernel
theorem dX7_init_12 : decode cX7_init 12 = .ok (.aload_n 0, 1) := by decide +kernel
theorem dX7_init_13 : decode cX7_init 13 = .ok (.bipush 8, 2) := by decide +kernel
theorem dX7_init_15 : decode cX7_init 15 = .ok (.newarray .int, 2) := by decide +kernel
theorem dX7_init_17 : decode cX7_init 17 = .ok (.putfield 15, 3) := by decide +kernel
theorem dX7_init_20 : decode cX7_init 20 = .ok (.aload_n 0, 1) := by decide +kernel
theorem dX7_init_21 : decode cX7_init 21 = .ok (.bipush 8, 2) := by decide +kernel
theorem dX7_init_23 : decode cX7_init 23 = .ok (.newarray .int, 2) := by decide +kernel
theorem dX7_init_25 : decode cX7_init 25 = .ok (.putfield 18, 3) := by decide +kernel
theorem dX7_init_28 : decode cX7_init 28 = .ok (.aload_n 0, 1) := by decide +kernel
theorem dX7_init_29 : decode cX7_init 29 = .ok (.bipush 64, 2) := by decide +kernel
theorem dX7_init_31 : decode cX7_init 31 = .ok (.newarray .int, 2) := by decide +kernel
theorem dX7_init_33 : decode cX7_init 33 = .ok (.putfield 21, 3) := by decide +kernel
theorem dX7_init_36 : decode cX7_init 36 = .ok (.aload_n 0, 1) := by decide +kernel
theorem dX7_init_37 : decode cX7_init 37 = .ok (.bipush 64, 2) := by decide +kernel
theorem dX7_init_39 : decode cX7_init 39 = .ok (.newarray .int, 2) := by decide +kernel
theorem dX7_init_41 : decode cX7_init 41 = .ok (.putfield 24, 3) := by decide +kernel
theorem dX7_init_44 : decode cX7_init 44 = .ok (.aload_n 0, 1) := by decide +kernel
theorem dX7_init_45 : decode cX7_init 45 = .ok (.bipush 8, 2) := by decide +kernel
theorem dX7_init_47 : decode cX7_init 47 = .ok (.anewarray 27, 3) := by decide +kernel
theorem dX7_init_50 : decode cX7_init 50 = .ok (.putfield 29, 3) := by decide +kernel
theorem dX7_init_53 : decode cX7_init 53 = .ok (.iconst 0, 1) := by decide +kernel
theorem dX7_init_54 : decode cX7_init 54 = .ok (.istore_n 1, 1) := by decide +kernel
theorem dX7_init_55 : decode cX7_init 55 = .ok (.iload_n 1, 1) := by decide +kernel
theorem dX7_init_56 : decode cX7_init 56 = .ok (.bipush 8, 2) := by decide +kernel
theorem dX7_init_58 : decode cX7_init 58 = .ok (.if_icmp .ge 22, 3) := by decide +kernel
theorem dX7_init_61 : decode cX7_init 61 = .ok (.aload_n 0, 1) := by decide +kernel
theorem dX7_init_62 : decode cX7_init 62 = .ok (.getfield 29, 3) := by decide +kernel
theorem dX7_init_65 : decode cX7_init 65 = .ok (.iload_n 1, 1) := by decide +kernel
theorem dX7_init_66 : decode cX7_init 66 = .ok (.new 27, 3) := by decide +kernel
theorem dX7_init_69 : decode cX7_init 69 = .ok (.dup, 1) := by decide +kernel
theorem dX7_init_70 : decode cX7_init 70 = .ok (.invokespecial 33, 3) := by decide +kernel
theorem dX7_init_73 : decode cX7_init 73 = .ok (.aastore, 1) := by decide +kernel
theorem dX7_init_74 : decode cX7_init 74 = .ok (.iinc 1 1, 3) := by decide +kernel
theorem dX7_init_77 : decode cX7_init 77 = .ok (.goto (-22), 3) := by decide +kernel
theorem dX7_init_80 : decode cX7_init 80 = .ok (.return_, 1) := by decide +kernel
theorem dX7_copyFrom_0 : decode cX7_copyFrom 0 = .ok (.aload_n 0, 1) := by decide +kernel
theorem dX7_copyFrom_1 : decode cX7_copyFrom 1 = .ok (.aload_n 1, 1) := by decide +kernel
theorem dX7_copyFrom_2 : decode cX7_copyFrom 2 = .ok (.getfield 34, 3) := by decide +kernel
theorem dX7_copyFrom_5 : decode cX7_copyFrom 5 = .ok (.putfield 34, 3) := by decide +kernel
theorem dX7_copyFrom_8 : decode cX7_copyFrom 8 = .ok (.aload_n 1, 1) := by decide +kernel
theorem dX7_copyFrom_9 : decode cX7_copyFrom 9 = .ok (.getfield 9, 3) := by decide +kernel
theorem dX7_copyFrom_12 : decode cX7_copyFrom 12 = .ok (.iconst 0, 1) := by decide +kernel
theorem dX7_copyFrom_13 : decode cX7_copyFrom 13 = .ok (.aload_n 0, 1) := by decide +kernel
theorem dX7_copyFrom_14 : decode cX7_copyFrom 14 = .ok (.getfield 9, 3) := by decide +kernel
theorem dX7_copyFrom_17 : decode cX7_copyFrom 17 = .ok (.iconst 0, 1) := by decide +kernel
theorem dX7_copyFrom_18 : decode cX7_copyFrom 18 = .ok (.bipush 8, 2) := by decide +kernel
theorem dX7_copyFrom_20 : decode cX7_copyFrom 20 = .ok (.invokestatic 38, 3) := by decide +kernel
theorem dX7_copyFrom_23 : decode cX7_copyFrom 23 = .ok (.aload_n 1, 1) := by decide +kernel
theorem dX7_copyFrom_24 : decode cX7_copyFrom 24 = .ok (.getfield 15, 3) := by decide +kernel
theorem dX7_copyFrom_27 : decode cX7_copyFrom 27 = .ok (.iconst 0, 1) := by decide +kernel
theorem dX7_copyFrom_28 : decode cX7_copyFrom 28 = .ok (.aload_n 0, 1) := by decide +kernel
theorem dX7_copyFrom_29 : decode cX7_copyFrom 29 = .ok (.getfield 15, 3) := by decide +kernel
theorem dX7_copyFrom_32 : decode cX7_copyFrom 32 = .ok (.iconst 0, 1) := by decide +kernel
theorem dX7_copyFrom_33 : decode cX7_copyFrom 33 = .ok (.bipush 8, 2) := by decide +kernel
theorem dX7_copyFrom_35 : decode cX7_copyFrom 35 = .ok (.invokestatic 38, 3) := by decide +kernel
theorem dX7_copyFrom_38 : decode cX7_copyFrom 38 = .ok (.aload_n 1, 1) := by decide +kernel
theorem dX7_copyFrom_39 : decode cX7_copyFrom 39 = .ok (.getfield 18, 3) := by decide +kernel
theorem dX7_copyFrom_42 : decode cX7_copyFrom 42 = .ok (.iconst 0, 1) := by decide +kernel
theorem dX7_copyFrom_43 : decode cX7_copyFrom 43 = .ok (.aload_n 0, 1) := by decide +kernel
theorem dX7_copyFrom_44 : decode cX7_copyFrom 44 = .ok (.getfield 18, 3) := by decide +kernel
theorem dX7_copyFrom_47 : decode cX7_copyFrom 47 = .ok (.iconst 0, 1) := by decide +kernel
theorem dX7_copyFrom_48 : decode cX7_copyFrom 48 = .ok (.bipush 8, 2) := by decide +kernel
theorem dX7_copyFrom_50 : decode cX7_copyFrom 50 = .ok (.invokestatic 38, 3) := by decide +kernel
theorem dX7_copyFrom_53 : decode cX7_copyFrom 53 = .ok (.aload_n 1, 1) := by decide +kernel
theorem dX7_copyFrom_54 : decode cX7_copyFrom 54 = .ok (.getfield 21, 3) := by decide +kernel
theorem dX7_copyFrom_57 : decode cX7_copyFrom 57 = .ok (.iconst 0, 1) := by decide +kernel
theorem dX7_copyFrom_58 : decode cX7_copyFrom 58 = .ok (.aload_n 0, 1) := by decide +kernel
theorem dX7_copyFrom_59 : decode cX7_copyFrom 59 = .ok (.getfield 21, 3) := by decide +kernel
theorem dX7_copyFrom_62 : decode cX7_copyFrom 62 = .ok (.iconst 0, 1) := by decide +kernel
theorem dX7_copyFrom_63 : decode cX7_copyFrom 63 = .ok (.bipush 64, 2) := by decide +kernel
theorem dX7_copyFrom_65 : decode cX7_copyFrom 65 = .ok (.invokestatic 38, 3) := by decide +kernel
theorem dX7_copyFrom_68 : decode cX7_copyFrom 68 = .ok (.aload_n 1, 1) := by decide +kernel
theorem dX7_copyFrom_69 : decode cX7_copyFrom 69 = .ok (.getfield 24, 3) := by decide +kernel
theorem dX7_copyFrom_72 : decode cX7_copyFrom 72 = .ok (.iconst 0, 1) := by decide +kernel
theorem dX7_copyFrom_73 : decode cX7_copyFrom 73 = .ok (.aload_n 0, 1) := by decide +kernel
theorem dX7_copyFrom_74 : decode cX7_copyFrom 74 = .ok (.getfield 24, 3) := by decide +kernel
theorem dX7_copyFrom_77 : decode cX7_copyFrom 77 = .ok (.iconst 0, 1) := by decide +kernel
theorem dX7_copyFrom_78 : decode cX7_copyFrom 78 = .ok (.bipush 64, 2) := by decide +kernel
theorem dX7_copyFrom_80 : decode cX7_copyFrom 80 = .ok (.invokestatic 38, 3) := by decide +kernel
theorem dX7_copyFrom_83 : decode cX7_copyFrom 83 = .ok (.aload_n 0, 1) := by decide +kernel
theorem dX7_copyFrom_84 : decode cX7_copyFrom 84 = .ok (.aload_n 1, 1) := by decide +kernel
theorem dX7_copyFrom_85 : decode cX7_copyFrom 85 = .ok (.getfield 44, 3) := by decide +kernel
theorem dX7_copyFrom_88 : decode cX7_copyFrom 88 = .ok (.putfield 44, 3) := by decide +kernel
theorem dX7_copyFrom_91 : decode cX7_copyFrom 91 = .ok (.iconst 0, 1) := by decide +kernel
theorem dX7_copyFrom_92 : decode cX7_copyFrom 92 = .ok (.istore_n 2, 1) := by decide +kernel
theorem dX7_copyFrom_93 : decode cX7_copyFrom 93 = .ok (.iload_n 2, 1) := by decide +kernel
theorem dX7_copyFrom_94 : decode cX7_copyFrom 94 = .ok (.bipush 8, 2) := by decide +kernel
theorem dX7_copyFrom_96 : decode cX7_copyFrom 96 = .ok (.if_icmp .ge 24, 3) := by decide +kernel
theorem dX7_copyFrom_99 : decode cX7_copyFrom 99 = .ok (.aload_n 0, 1) := by decide +kernel
theorem dX7_copyFrom_100 : decode cX7_copyFrom 100 = .ok (.getfield 29, 3) := by decide +kernel
theorem dX7_copyFrom_103 : decode cX7_copyFrom 103 = .ok (.iload_n 2, 1) := by decide +kernel
theorem dX7_copyFrom_104 : decode cX7_copyFrom 104 = .ok (.aaload, 1) := by decide +kernel
theorem dX7_copyFrom_105 : decode cX7_copyFrom 105 = .ok (.aload_n 1, 1) := by decide +kernel
theorem dX7_copyFrom_106 : decode cX7_copyFrom 106 = .ok (.getfield 29, 3) := by decide +kernel
theorem dX7_copyFrom_109 : decode cX7_copyFrom 109 = .ok (.iload_n 2, 1) := by decide +kernel
theorem dX7_copyFrom_110 : decode cX7_copyFrom 110 = .ok (.aaload, 1) := by decide +kernel
theorem dX7_copyFrom_111 : decode cX7_copyFrom 111 = .ok (.invokevirtual 47, 3) := by decide +kernel
theorem dX7_copyFrom_114 : decode cX7_copyFrom 114 = .ok (.iinc 2 1, 3) := by decide +kernel
theorem dX7_copyFrom_117 : decode cX7_copyFrom 117 = .ok (.goto (-24), 3) := by decide +kernel
theorem dX7_copyFrom_120 : decode cX7_copyFrom 120 = .ok (.aload_n 0, 1) := by decide +kernel
theorem dX7_copyFrom_121 : decode cX7_copyFrom 121 = .ok (.aload_n 1, 1) := by decide +kernel
theorem dX7_copyFrom_122 : decode cX7_copyFrom 122 = .ok (.getfield 51, 3) := by decide +kernel
theorem dX7_copyFrom_125 : decode cX7_copyFrom 125 = .ok (.putfield 51, 3) := by decide +kernel
theorem dX7_copyFrom_128 : decode cX7_copyFrom 128 = .ok (.return_, 1) := by decide +kernel
theorem dX7_addPerson_0 : decode cX7_addPerson 0 = .ok (.aload_n 0, 1) := by decide +kernel
theorem dX7_addPerson_1 : decode cX7_addPerson 1 = .ok (.getfield 9, 3) := by decide +kernel
theorem dX7_addPerson_4 : decode cX7_addPerson 4 = .ok (.aload_n 0, 1) := by decide +kernel
theorem dX7_addPerson_5 : decode cX7_addPerson 5 = .ok (.getfield 34, 3) := by decide +kernel
theorem dX7_addPerson_8 : decode cX7_addPerson 8 = .ok (.iload_n 1, 1) := by decide +kernel
theorem dX7_addPerson_9 : decode cX7_addPerson 9 = .ok (.iastore, 1) := by decide +kernel
theorem dX7_addPerson_10 : decode cX7_addPerson 10 = .ok (.aload_n 0, 1) := by decide +kernel
theorem dX7_addPerson_11 : decode cX7_addPerson 11 = .ok (.dup, 1) := by decide +kernel
theorem dX7_addPerson_12 : decode cX7_addPerson 12 = .ok (.getfield 34, 3) := by decide +kernel
theorem dX7_addPerson_15 : decode cX7_addPerson 15 = .ok (.iconst 1, 1) := by decide +kernel
theorem dX7_addPerson_16 : decode cX7_addPerson 16 = .ok (.iadd, 1) := by decide +kernel
theorem dX7_addPerson_17 : decode cX7_addPerson 17 = .ok (.putfield 34, 3) := by decide +kernel
theorem dX7_addPerson_20 : decode cX7_addPerson 20 = .ok (.aload_n 0, 1) := by decide +kernel
theorem dX7_addPerson_21 : decode cX7_addPerson 21 = .ok (.getfield 34, 3) := by decide +kernel
theorem dX7_addPerson_24 : decode cX7_addPerson 24 = .ok (.iconst 1, 1) := by decide +kernel
theorem dX7_addPerson_25 : decode cX7_addPerson 25 = .ok (.isub, 1) := by decide +kernel
theorem dX7_addPerson_26 : decode cX7_addPerson 26 = .ok (.ireturn, 1) := by decide +kernel
theorem dX7_addGift_0 : decode cX7_addGift 0 = .ok (.aload_n 0, 1) := by decide +kernel
theorem dX7_addGift_1 : decode cX7_addGift 1 = .ok (.getfield 29, 3) := by decide +kernel
theorem dX7_addGift_4 : decode cX7_addGift 4 = .ok (.aload_n 0, 1) := by decide +kernel
theorem dX7_addGift_5 : decode cX7_addGift 5 = .ok (.getfield 44, 3) := by decide +kernel
theorem dX7_addGift_8 : decode cX7_addGift 8 = .ok (.aaload, 1) := by decide +kernel
theorem dX7_addGift_9 : decode cX7_addGift 9 = .ok (.iload_n 1, 1) := by decide +kernel
theorem dX7_addGift_10 : decode cX7_addGift 10 = .ok (.iload_n 2, 1) := by decide +kernel
theorem dX7_addGift_11 : decode cX7_addGift 11 = .ok (.invokevirtual 54, 3) := by decide +kernel
theorem dX7_addGift_14 : decode cX7_addGift 14 = .ok (.aload_n 0, 1) := by decide +kernel
theorem dX7_addGift_15 : decode cX7_addGift 15 = .ok (.dup, 1) := by decide +kernel
theorem dX7_addGift_16 : decode cX7_addGift 16 = .ok (.getfield 44, 3) := by decide +kernel
theorem dX7_addGift_19 : decode cX7_addGift 19 = .ok (.iconst 1, 1) := by decide +kernel
theorem dX7_addGift_20 : decode cX7_addGift 20 = .ok (.iadd, 1) := by decide +kernel
theorem dX7_addGift_21 : decode cX7_addGift 21 = .ok (.putfield 44, 3) := by decide +kernel
theorem dX7_addGift_24 : decode cX7_addGift 24 = .ok (.aload_n 0, 1) := by decide +kernel
theorem dX7_addGift_25 : decode cX7_addGift 25 = .ok (.getfield 44, 3) := by decide +kernel
theorem dX7_addGift_28 : decode cX7_addGift 28 = .ok (.iconst 1, 1) := by decide +kernel
theorem dX7_addGift_29 : decode cX7_addGift 29 = .ok (.isub, 1) := by decide +kernel
theorem dX7_addGift_30 : decode cX7_addGift 30 = .ok (.ireturn, 1) := by decide +kernel
theorem dX7_knows_0 : decode cX7_knows 0 = .ok (.aload_n 0, 1) := by decide +kernel
theorem dX7_knows_1 : decode cX7_knows 1 = .ok (.getfield 15, 3) := by decide +kernel
theorem dX7_knows_4 : decode cX7_knows 4 = .ok (.iload_n 1, 1) := by decide +kernel
theorem dX7_knows_5 : decode cX7_knows 5 = .ok (.iaload, 1) := by decide +kernel
theorem dX7_knows_6 : decode cX7_knows 6 = .ok (.iload_n 2, 1) := by decide +kernel
theorem dX7_knows_7 : decode cX7_knows 7 = .ok (.invokestatic 58, 3) := by decide +kernel
theorem dX7_knows_10 : decode cX7_knows 10 = .ok (.iand, 1) := by decide +kernel
theorem dX7_knows_11 : decode cX7_knows 11 = .ok (.ifCond .eq 7, 3) := by decide +kernel
theorem dX7_knows_14 : decode cX7_knows 14 = .ok (.iconst 1, 1) := by decide +kernel
theorem dX7_knows_15 : decode cX7_knows 15 = .ok (.goto 4, 3) := by decide +kernel
theorem dX7_knows_18 : decode cX7_knows 18 = .ok (.iconst 0, 1) := by decide +kernel
theorem dX7_knows_19 : decode cX7_knows 19 = .ok (.ireturn, 1) := by decide +kernel
theorem dX7_setKnown_0 : decode cX7_setKnown 0 = .ok (.aload_n 0, 1) := by decide +kernel
theorem dX7_setKnown_1 : decode cX7_setKnown 1 = .ok (.getfield 15, 3) := by decide +kernel
theorem dX7_setKnown_4 : decode cX7_setKnown 4 = .ok (.iload_n 1, 1) := by decide +kernel
theorem dX7_setKnown_5 : decode cX7_setKnown 5 = .ok (.iload_n 3, 1) := by decide +kernel
theorem dX7_setKnown_6 : decode cX7_setKnown 6 = .ok (.ifCond .eq 17, 3) := by decide +kernel
theorem dX7_setKnown_9 : decode cX7_setKnown 9 = .ok (.aload_n 0, 1) := by decide +kernel
theorem dX7_setKnown_10 : decode cX7_setKnown 10 = .ok (.getfield 15, 3) := by decide +kernel
theorem dX7_setKnown_13 : decode cX7_setKnown 13 = .ok (.iload_n 1, 1) := by decide +kernel
theorem dX7_setKnown_14 : decode cX7_setKnown 14 = .ok (.iaload, 1) := by decide +kernel
theorem dX7_setKnown_15 : decode cX7_setKnown 15 = .ok (.iload_n 2, 1) := by decide +kernel
theorem dX7_setKnown_16 : decode cX7_setKnown 16 = .ok (.invokestatic 58, 3) := by decide +kernel
theorem dX7_setKnown_19 : decode cX7_setKnown 19 = .ok (.ior, 1) := by decide +kernel
theorem dX7_setKnown_20 : decode cX7_setKnown 20 = .ok (.goto 16, 3) := by decide +kernel
theorem dX7_setKnown_23 : decode cX7_setKnown 23 = .ok (.aload_n 0, 1) := by decide +kernel
theorem dX7_setKnown_24 : decode cX7_setKnown 24 = .ok (.getfield 15, 3) := by decide +kernel
theorem dX7_setKnown_27 : decode cX7_setKnown 27 = .ok (.iload_n 1, 1) := by decide +kernel
theorem dX7_setKnown_28 : decode cX7_setKnown 28 = .ok (.iaload, 1) := by decide +kernel
theorem dX7_setKnown_29 : decode cX7_setKnown 29 = .ok (.iload_n 2, 1) := by decide +kernel
theorem dX7_setKnown_30 : decode cX7_setKnown 30 = .ok (.invokestatic 58, 3) := by decide +kernel
theorem dX7_setKnown_33 : decode cX7_setKnown 33 = .ok (.iconst (-1), 1) := by decide +kernel
theorem dX7_setKnown_34 : decode cX7_setKnown 34 = .ok (.ixor, 1) := by decide +kernel
theorem dX7_setKnown_35 : decode cX7_setKnown 35 = .ok (.iand, 1) := by decide +kernel
theorem dX7_setKnown_36 : decode cX7_setKnown 36 = .ok (.iastore, 1) := by decide +kernel
theorem dX7_setKnown_37 : decode cX7_setKnown 37 = .ok (.aload_n 0, 1) := by decide +kernel
theorem dX7_setKnown_38 : decode cX7_setKnown 38 = .ok (.getfield 15, 3) := by decide +kernel
theorem dX7_setKnown_41 : decode cX7_setKnown 41 = .ok (.iload_n 2, 1) := by decide +kernel
theorem dX7_setKnown_42 : decode cX7_setKnown 42 = .ok (.iload_n 3, 1) := by decide +kernel
theorem dX7_setKnown_43 : decode cX7_setKnown 43 = .ok (.ifCond .eq 17, 3) := by decide +kernel
theorem dX7_setKnown_46 : decode cX7_setKnown 46 = .ok (.aload_n 0, 1) := by decide +kernel
theorem dX7_setKnown_47 : decode cX7_setKnown 47 = .ok (.getfield 15, 3) := by decide +kernel
theorem dX7_setKnown_50 : decode cX7_setKnown 50 = .ok (.iload_n 2, 1) := by decide +kernel
theorem dX7_setKnown_51 : decode cX7_setKnown 51 = .ok (.iaload, 1) := by decide +kernel
theorem dX7_setKnown_52 : decode cX7_setKnown 52 = .ok (.iload_n 1, 1) := by decide +kernel
theorem dX7_setKnown_53 : decode cX7_setKnown 53 = .ok (.invokestatic 58, 3) := by decide +kernel
theorem dX7_setKnown_56 : decode cX7_setKnown 56 = .ok (.ior, 1) := by decide +kernel
theorem dX7_setKnown_57 : decode cX7_setKnown 57 = .ok (.goto 16, 3) := by decide +kernel
theorem dX7_setKnown_60 : decode cX7_setKnown 60 = .ok (.aload_n 0, 1) := by decide +kernel
theorem dX7_setKnown_61 : decode cX7_setKnown 61 = .ok (.getfield 15, 3) := by decide +kernel
theorem dX7_setKnown_64 : decode cX7_setKnown 64 = .ok (.iload_n 2, 1) := by decide +kernel
theorem dX7_setKnown_65 : decode cX7_setKnown 65 = .ok (.iaload, 1) := by decide +kernel
theorem dX7_setKnown_66 : decode cX7_setKnown 66 = .ok (.iload_n 1, 1) := by decide +kernel
theorem dX7_setKnown_67 : decode cX7_setKnown 67 = .ok (.invokestatic 58, 3) := by decide +kernel
theorem dX7_setKnown_70 : decode cX7_setKnown 70 = .ok (.iconst (-1), 1) := by decide +kernel
theorem dX7_setKnown_71 : decode cX7_setKnown 71 = .ok (.ixor, 1) := by decide +kernel
theorem dX7_setKnown_72 : decode cX7_setKnown 72 = .ok (.iand, 1) := by decide +kernel
theorem dX7_setKnown_73 : decode cX7_setKnown 73 = .ok (.iastore, 1) := by decide +kernel
theorem dX7_setKnown_74 : decode cX7_setKnown 74 = .ok (.return_, 1) := by decide +kernel
theorem dX7_heldBy_0 : decode cX7_heldBy 0 = .ok (.iconst 0, 1) := by decide +kernel
theorem dX7_heldBy_1 : decode cX7_heldBy 1 = .ok (.istore_n 2, 1) := by decide +kernel
theorem dX7_heldBy_2 : decode cX7_heldBy 2 = .ok (.iconst 0, 1) := by decide +kernel
theorem dX7_heldBy_3 : decode cX7_heldBy 3 = .ok (.istore_n 3, 1) := by decide +kernel
theorem dX7_heldBy_4 : decode cX7_heldBy 4 = .ok (.iload_n 3, 1) := by decide +kernel
theorem dX7_heldBy_5 : decode cX7_heldBy 5 = .ok (.aload_n 0, 1) := by decide +kernel
theorem dX7_heldBy_6 : decode cX7_heldBy 6 = .ok (.getfield 44, 3) := by decide +kernel
theorem dX7_heldBy_9 : decode cX7_heldBy 9 = .ok (.if_icmp .ge 37, 3) := by decide +kernel
theorem dX7_heldBy_12 : decode cX7_heldBy 12 = .ok (.aload_n 0, 1) := by decide +kernel
theorem dX7_heldBy_13 : decode cX7_heldBy 13 = .ok (.getfield 29, 3) := by decide +kernel
theorem dX7_heldBy_16 : decode cX7_heldBy 16 = .ok (.iload_n 3, 1) := by decide +kernel
theorem dX7_heldBy_17 : decode cX7_heldBy 17 = .ok (.aaload, 1) := by decide +kernel
theorem dX7_heldBy_18 : decode cX7_heldBy 18 = .ok (.invokevirtual 62, 3) := by decide +kernel
theorem dX7_heldBy_21 : decode cX7_heldBy 21 = .ok (.ifCond .eq 19, 3) := by decide +kernel
theorem dX7_heldBy_24 : decode cX7_heldBy 24 = .ok (.aload_n 0, 1) := by decide +kernel
theorem dX7_heldBy_25 : decode cX7_heldBy 25 = .ok (.getfield 29, 3) := by decide +kernel
theorem dX7_heldBy_28 : decode cX7_heldBy 28 = .ok (.iload_n 3, 1) := by decide +kernel
theorem dX7_heldBy_29 : decode cX7_heldBy 29 = .ok (.aaload, 1) := by decide +kernel
theorem dX7_heldBy_30 : decode cX7_heldBy 30 = .ok (.getfield 66, 3) := by decide +kernel
theorem dX7_heldBy_33 : decode cX7_heldBy 33 = .ok (.iload_n 1, 1) := by decide +kernel
theorem dX7_heldBy_34 : decode cX7_heldBy 34 = .ok (.if_icmp .ne 6, 3) := by decide +kernel
theorem dX7_heldBy_37 : decode cX7_heldBy 37 = .ok (.iinc 2 1, 3) := by decide +kernel
theorem dX7_heldBy_40 : decode cX7_heldBy 40 = .ok (.iinc 3 1, 3) := by decide +kernel
theorem dX7_heldBy_43 : decode cX7_heldBy 43 = .ok (.goto (-39), 3) := by decide +kernel
theorem dX7_heldBy_46 : decode cX7_heldBy 46 = .ok (.iload_n 2, 1) := by decide +kernel
theorem dX7_heldBy_47 : decode cX7_heldBy 47 = .ok (.ireturn, 1) := by decide +kernel
theorem dX7_living_0 : decode cX7_living 0 = .ok (.iconst 0, 1) := by decide +kernel
theorem dX7_living_1 : decode cX7_living 1 = .ok (.istore_n 1, 1) := by decide +kernel
theorem dX7_living_2 : decode cX7_living 2 = .ok (.iconst 0, 1) := by decide +kernel
theorem dX7_living_3 : decode cX7_living 3 = .ok (.istore_n 2, 1) := by decide +kernel
theorem dX7_living_4 : decode cX7_living 4 = .ok (.iload_n 2, 1) := by decide +kernel
theorem dX7_living_5 : decode cX7_living 5 = .ok (.aload_n 0, 1) := by decide +kernel
theorem dX7_living_6 : decode cX7_living 6 = .ok (.getfield 44, 3) := by decide +kernel
theorem dX7_living_9 : decode cX7_living 9 = .ok (.if_icmp .ge 24, 3) := by decide +kernel
theorem dX7_living_12 : decode cX7_living 12 = .ok (.aload_n 0, 1) := by decide +kernel
theorem dX7_living_13 : decode cX7_living 13 = .ok (.getfield 29, 3) := by decide +kernel
theorem dX7_living_16 : decode cX7_living 16 = .ok (.iload_n 2, 1) := by decide +kernel
theorem dX7_living_17 : decode cX7_living 17 = .ok (.aaload, 1) := by decide +kernel
theorem dX7_living_18 : decode cX7_living 18 = .ok (.invokevirtual 62, 3) := by decide +kernel
theorem dX7_living_21 : decode cX7_living 21 = .ok (.ifCond .eq 6, 3) := by decide +kernel
theorem dX7_living_24 : decode cX7_living 24 = .ok (.iinc 1 1, 3) := by decide +kernel
theorem dX7_living_27 : decode cX7_living 27 = .ok (.iinc 2 1, 3) := by decide +kernel
theorem dX7_living_30 : decode cX7_living 30 = .ok (.goto (-26), 3) := by decide +kernel
theorem dX7_living_33 : decode cX7_living 33 = .ok (.iload_n 1, 1) := by decide +kernel
theorem dX7_living_34 : decode cX7_living 34 = .ok (.ireturn, 1) := by decide +kernel
theorem dX7_allFeasts_0 : decode cX7_allFeasts 0 = .ok (.iconst 0, 1) := by decide +kernel
theorem dX7_allFeasts_1 : decode cX7_allFeasts 1 = .ok (.istore_n 1, 1) := by decide +kernel
theorem dX7_allFeasts_2 : decode cX7_allFeasts 2 = .ok (.iconst 0, 1) := by decide +kernel
theorem dX7_allFeasts_3 : decode cX7_allFeasts 3 = .ok (.istore_n 2, 1) := by decide +kernel
theorem dX7_allFeasts_4 : decode cX7_allFeasts 4 = .ok (.iload_n 2, 1) := by decide +kernel
theorem dX7_allFeasts_5 : decode cX7_allFeasts 5 = .ok (.aload_n 0, 1) := by decide +kernel
theorem dX7_allFeasts_6 : decode cX7_allFeasts 6 = .ok (.getfield 34, 3) := by decide +kernel
theorem dX7_allFeasts_9 : decode cX7_allFeasts 9 = .ok (.if_icmp .ge 18, 3) := by decide +kernel
theorem dX7_allFeasts_12 : decode cX7_allFeasts 12 = .ok (.iload_n 1, 1) := by decide +kernel
theorem dX7_allFeasts_13 : decode cX7_allFeasts 13 = .ok (.aload_n 0, 1) := by decide +kernel
theorem dX7_allFeasts_14 : decode cX7_allFeasts 14 = .ok (.getfield 18, 3) := by decide +kernel
theorem dX7_allFeasts_17 : decode cX7_allFeasts 17 = .ok (.iload_n 2, 1) := by decide +kernel
theorem dX7_allFeasts_18 : decode cX7_allFeasts 18 = .ok (.iaload, 1) := by decide +kernel
theorem dX7_allFeasts_19 : decode cX7_allFeasts 19 = .ok (.iadd, 1) := by decide +kernel
theorem dX7_allFeasts_20 : decode cX7_allFeasts 20 = .ok (.istore_n 1, 1) := by decide +kernel
theorem dX7_allFeasts_21 : decode cX7_allFeasts 21 = .ok (.iinc 2 1, 3) := by decide +kernel
theorem dX7_allFeasts_24 : decode cX7_allFeasts 24 = .ok (.goto (-20), 3) := by decide +kernel
theorem dX7_allFeasts_27 : decode cX7_allFeasts 27 = .ok (.iload_n 1, 1) := by decide +kernel
theorem dX7_allFeasts_28 : decode cX7_allFeasts 28 = .ok (.ireturn, 1) := by decide +kernel
theorem dX7_balance_0 : decode cX7_balance 0 = .ok (.iconst 0, 1) := by decide +kernel
theorem dX7_balance_1 : decode cX7_balance 1 = .ok (.istore_n 2, 1) := by decide +kernel
theorem dX7_balance_2 : decode cX7_balance 2 = .ok (.iconst 0, 1) := by decide +kernel
theorem dX7_balance_3 : decode cX7_balance 3 = .ok (.istore_n 3, 1) := by decide +kernel
theorem dX7_balance_4 : decode cX7_balance 4 = .ok (.iload_n 3, 1) := by decide +kernel
theorem dX7_balance_5 : decode cX7_balance 5 = .ok (.aload_n 0, 1) := by decide +kernel
theorem dX7_balance_6 : decode cX7_balance 6 = .ok (.getfield 34, 3) := by decide +kernel
theorem dX7_balance_9 : decode cX7_balance 9 = .ok (.if_icmp .ge 33, 3) := by decide +kernel
theorem dX7_balance_12 : decode cX7_balance 12 = .ok (.iload_n 2, 1) := by decide +kernel
theorem dX7_balance_13 : decode cX7_balance 13 = .ok (.aload_n 0, 1) := by decide +kernel
theorem dX7_balance_14 : decode cX7_balance 14 = .ok (.getfield 24, 3) := by decide +kernel
theorem dX7_balance_17 : decode cX7_balance 17 = .ok (.iload_n 3, 1) := by decide +kernel
theorem dX7_balance_18 : decode cX7_balance 18 = .ok (.iload_n 1, 1) := by decide +kernel
theorem dX7_balance_19 : decode cX7_balance 19 = .ok (.invokestatic 69, 3) := by decide +kernel
theorem dX7_balance_22 : decode cX7_balance 22 = .ok (.iaload, 1) := by decide +kernel
theorem dX7_balance_23 : decode cX7_balance 23 = .ok (.aload_n 0, 1) := by decide +kernel
theorem dX7_balance_24 : decode cX7_balance 24 = .ok (.getfield 24, 3) := by decide +kernel
theorem dX7_balance_27 : decode cX7_balance 27 = .ok (.iload_n 1, 1) := by decide +kernel
theorem dX7_balance_28 : decode cX7_balance 28 = .ok (.iload_n 3, 1) := by decide +kernel
theorem dX7_balance_29 : decode cX7_balance 29 = .ok (.invokestatic 69, 3) := by decide +kernel
theorem dX7_balance_32 : decode cX7_balance 32 = .ok (.iaload, 1) := by decide +kernel
theorem dX7_balance_33 : decode cX7_balance 33 = .ok (.isub, 1) := by decide +kernel
theorem dX7_balance_34 : decode cX7_balance 34 = .ok (.iadd, 1) := by decide +kernel
theorem dX7_balance_35 : decode cX7_balance 35 = .ok (.istore_n 2, 1) := by decide +kernel
theorem dX7_balance_36 : decode cX7_balance 36 = .ok (.iinc 3 1, 3) := by decide +kernel
theorem dX7_balance_39 : decode cX7_balance 39 = .ok (.goto (-35), 3) := by decide +kernel
theorem dX7_balance_42 : decode cX7_balance 42 = .ok (.iload_n 2, 1) := by decide +kernel
theorem dX7_balance_43 : decode cX7_balance 43 = .ok (.ireturn, 1) := by decide +kernel
theorem dX7_mayHave_0 : decode cX7_mayHave 0 = .ok (.aload_n 0, 1) := by decide +kernel
theorem dX7_mayHave_1 : decode cX7_mayHave 1 = .ok (.getfield 15, 3) := by decide +kernel
theorem dX7_mayHave_4 : decode cX7_mayHave 4 = .ok (.iload_n 2, 1) := by decide +kernel
theorem dX7_mayHave_5 : decode cX7_mayHave 5 = .ok (.iaload, 1) := by decide +kernel
theorem dX7_mayHave_6 : decode cX7_mayHave 6 = .ok (.iload_n 1, 1) := by decide +kernel
theorem dX7_mayHave_7 : decode cX7_mayHave 7 = .ok (.invokestatic 58, 3) := by decide +kernel
theorem dX7_mayHave_10 : decode cX7_mayHave 10 = .ok (.iconst (-1), 1) := by decide +kernel
theorem dX7_mayHave_11 : decode cX7_mayHave 11 = .ok (.ixor, 1) := by decide +kernel
theorem dX7_mayHave_12 : decode cX7_mayHave 12 = .ok (.iand, 1) := by decide +kernel
theorem dX7_mayHave_13 : decode cX7_mayHave 13 = .ok (.istore 4, 2) := by decide +kernel
theorem dX7_mayHave_15 : decode cX7_mayHave 15 = .ok (.iload 4, 2) := by decide +kernel
theorem dX7_mayHave_17 : decode cX7_mayHave 17 = .ok (.ifCond .ne 7, 3) := by decide +kernel
theorem dX7_mayHave_20 : decode cX7_mayHave 20 = .ok (.iload_n 3, 1) := by decide +kernel
theorem dX7_mayHave_21 : decode cX7_mayHave 21 = .ok (.ifCond .ne 6, 3) := by decide +kernel
theorem dX7_mayHave_24 : decode cX7_mayHave 24 = .ok (.iload 4, 2) := by decide +kernel
theorem dX7_mayHave_26 : decode cX7_mayHave 26 = .ok (.ireturn, 1) := by decide +kernel
theorem dX7_mayHave_27 : decode cX7_mayHave 27 = .ok (.aload_n 0, 1) := by decide +kernel
theorem dX7_mayHave_28 : decode cX7_mayHave 28 = .ok (.getfield 15, 3) := by decide +kernel
theorem dX7_mayHave_31 : decode cX7_mayHave 31 = .ok (.iload_n 2, 1) := by decide +kernel
theorem dX7_mayHave_32 : decode cX7_mayHave 32 = .ok (.iaload, 1) := by decide +kernel
theorem dX7_mayHave_33 : decode cX7_mayHave 33 = .ok (.iload_n 1, 1) := by decide +kernel
theorem dX7_mayHave_34 : decode cX7_mayHave 34 = .ok (.invokestatic 58, 3) := by decide +kernel
theorem dX7_mayHave_37 : decode cX7_mayHave 37 = .ok (.iand, 1) := by decide +kernel
theorem dX7_mayHave_38 : decode cX7_mayHave 38 = .ok (.ireturn, 1) := by decide +kernel
theorem dX7_handOn_0 : decode cX7_handOn 0 = .ok (.aload_n 0, 1) := by decide +kernel
theorem dX7_handOn_1 : decode cX7_handOn 1 = .ok (.getfield 24, 3) := by decide +kernel
theorem dX7_handOn_4 : decode cX7_handOn 4 = .ok (.iload_n 2, 1) := by decide +kernel
theorem dX7_handOn_5 : decode cX7_handOn 5 = .ok (.aload_n 1, 1) := by decide +kernel
theorem dX7_handOn_6 : decode cX7_handOn 6 = .ok (.getfield 66, 3) := by decide +kernel
theorem dX7_handOn_9 : decode cX7_handOn 9 = .ok (.invokestatic 69, 3) := by decide +kernel
theorem dX7_handOn_12 : decode cX7_handOn 12 = .ok (.dup2, 1) := by decide +kernel
theorem dX7_handOn_13 : decode cX7_handOn 13 = .ok (.iaload, 1) := by decide +kernel
theorem dX7_handOn_14 : decode cX7_handOn 14 = .ok (.aload_n 1, 1) := by decide +kernel
theorem dX7_handOn_15 : decode cX7_handOn 15 = .ok (.invokevirtual 73, 3) := by decide +kernel
theorem dX7_handOn_18 : decode cX7_handOn 18 = .ok (.iadd, 1) := by decide +kernel
theorem dX7_handOn_19 : decode cX7_handOn 19 = .ok (.iastore, 1) := by decide +kernel
theorem dX7_handOn_20 : decode cX7_handOn 20 = .ok (.aload_n 1, 1) := by decide +kernel
theorem dX7_handOn_21 : decode cX7_handOn 21 = .ok (.iload_n 2, 1) := by decide +kernel
theorem dX7_handOn_22 : decode cX7_handOn 22 = .ok (.iload_n 3, 1) := by decide +kernel
theorem dX7_handOn_23 : decode cX7_handOn 23 = .ok (.invokevirtual 77, 3) := by decide +kernel
theorem dX7_handOn_26 : decode cX7_handOn 26 = .ok (.aload_n 1, 1) := by decide +kernel
theorem dX7_handOn_27 : decode cX7_handOn 27 = .ok (.getfield 80, 3) := by decide +kernel
theorem dX7_handOn_30 : decode cX7_handOn 30 = .ok (.iconst 1, 1) := by decide +kernel
theorem dX7_handOn_31 : decode cX7_handOn 31 = .ok (.if_icmp .ne 13, 3) := by decide +kernel
theorem dX7_handOn_34 : decode cX7_handOn 34 = .ok (.aload_n 0, 1) := by decide +kernel
theorem dX7_handOn_35 : decode cX7_handOn 35 = .ok (.getfield 18, 3) := by decide +kernel
theorem dX7_handOn_38 : decode cX7_handOn 38 = .ok (.iload_n 2, 1) := by decide +kernel
theorem dX7_handOn_39 : decode cX7_handOn 39 = .ok (.dup2, 1) := by decide +kernel
theorem dX7_handOn_40 : decode cX7_handOn 40 = .ok (.iaload, 1) := by decide +kernel
theorem dX7_handOn_41 : decode cX7_handOn 41 = .ok (.iconst 1, 1) := by decide +kernel
theorem dX7_handOn_42 : decode cX7_handOn 42 = .ok (.iadd, 1) := by decide +kernel
theorem dX7_handOn_43 : decode cX7_handOn 43 = .ok (.iastore, 1) := by decide +kernel
theorem dX7_handOn_44 : decode cX7_handOn 44 = .ok (.return_, 1) := by decide +kernel
theorem dX7_passYear_0 : decode cX7_passYear 0 = .ok (.aload_n 0, 1) := by decide +kernel
theorem dX7_passYear_1 : decode cX7_passYear 1 = .ok (.dup, 1) := by decide +kernel
theorem dX7_passYear_2 : decode cX7_passYear 2 = .ok (.getfield 51, 3) := by decide +kernel
theorem dX7_passYear_5 : decode cX7_passYear 5 = .ok (.iconst 1, 1) := by decide +kernel
theorem dX7_passYear_6 : decode cX7_passYear 6 = .ok (.iadd, 1) := by decide +kernel
theorem dX7_passYear_7 : decode cX7_passYear 7 = .ok (.putfield 51, 3) := by decide +kernel
theorem dX7_passYear_10 : decode cX7_passYear 10 = .ok (.iconst 0, 1) := by decide +kernel
theorem dX7_passYear_11 : decode cX7_passYear 11 = .ok (.istore_n 3, 1) := by decide +kernel
theorem dX7_passYear_12 : decode cX7_passYear 12 = .ok (.iload_n 3, 1) := by decide +kernel
theorem dX7_passYear_13 : decode cX7_passYear 13 = .ok (.aload_n 0, 1) := by decide +kernel
theorem dX7_passYear_14 : decode cX7_passYear 14 = .ok (.getfield 44, 3) := by decide +kernel
theorem dX7_passYear_17 : decode cX7_passYear 17 = .ok (.if_icmp .ge 36, 3) := by decide +kernel
theorem dX7_passYear_20 : decode cX7_passYear 20 = .ok (.aload_n 0, 1) := by decide +kernel
theorem dX7_passYear_21 : decode cX7_passYear 21 = .ok (.getfield 29, 3) := by decide +kernel
theorem dX7_passYear_24 : decode cX7_passYear 24 = .ok (.iload_n 3, 1) := by decide +kernel
theorem dX7_passYear_25 : decode cX7_passYear 25 = .ok (.aaload, 1) := by decide +kernel
theorem dX7_passYear_26 : decode cX7_passYear 26 = .ok (.invokevirtual 62, 3) := by decide +kernel
theorem dX7_passYear_29 : decode cX7_passYear 29 = .ok (.ifCond .eq 18, 3) := by decide +kernel
theorem dX7_passYear_32 : decode cX7_passYear 32 = .ok (.aload_n 0, 1) := by decide +kernel
theorem dX7_passYear_33 : decode cX7_passYear 33 = .ok (.getfield 29, 3) := by decide +kernel
theorem dX7_passYear_36 : decode cX7_passYear 36 = .ok (.iload_n 3, 1) := by decide +kernel
theorem dX7_passYear_37 : decode cX7_passYear 37 = .ok (.aaload, 1) := by decide +kernel
theorem dX7_passYear_38 : decode cX7_passYear 38 = .ok (.dup, 1) := by decide +kernel
theorem dX7_passYear_39 : decode cX7_passYear 39 = .ok (.getfield 83, 3) := by decide +kernel
theorem dX7_passYear_42 : decode cX7_passYear 42 = .ok (.iconst 1, 1) := by decide +kernel
theorem dX7_passYear_43 : decode cX7_passYear 43 = .ok (.iadd, 1) := by decide +kernel
theorem dX7_passYear_44 : decode cX7_passYear 44 = .ok (.putfield 83, 3) := by decide +kernel
theorem dX7_passYear_47 : decode cX7_passYear 47 = .ok (.iinc 3 1, 3) := by decide +kernel
theorem dX7_passYear_50 : decode cX7_passYear 50 = .ok (.goto (-38), 3) := by decide +kernel
theorem dX7_passYear_53 : decode cX7_passYear 53 = .ok (.iconst 0, 1) := by decide +kernel
theorem dX7_passYear_54 : decode cX7_passYear 54 = .ok (.istore_n 3, 1) := by decide +kernel
theorem dX7_passYear_55 : decode cX7_passYear 55 = .ok (.iconst 0, 1) := by decide +kernel
theorem dX7_passYear_56 : decode cX7_passYear 56 = .ok (.istore 4, 2) := by decide +kernel
theorem dX7_passYear_58 : decode cX7_passYear 58 = .ok (.iconst 0, 1) := by decide +kernel
theorem dX7_passYear_59 : decode cX7_passYear 59 = .ok (.istore 5, 2) := by decide +kernel
theorem dX7_passYear_61 : decode cX7_passYear 61 = .ok (.iload 5, 2) := by decide +kernel
theorem dX7_passYear_63 : decode cX7_passYear 63 = .ok (.aload_n 0, 1) := by decide +kernel
theorem dX7_passYear_64 : decode cX7_passYear 64 = .ok (.getfield 44, 3) := by decide +kernel
theorem dX7_passYear_67 : decode cX7_passYear 67 = .ok (.if_icmp .ge 154, 3) := by decide +kernel
theorem dX7_passYear_70 : decode cX7_passYear 70 = .ok (.aload_n 0, 1) := by decide +kernel
theorem dX7_passYear_71 : decode cX7_passYear 71 = .ok (.getfield 29, 3) := by decide +kernel
theorem dX7_passYear_74 : decode cX7_passYear 74 = .ok (.iload 5, 2) := by decide +kernel
theorem dX7_passYear_76 : decode cX7_passYear 76 = .ok (.aaload, 1) := by decide +kernel
theorem dX7_passYear_77 : decode cX7_passYear 77 = .ok (.getfield 66, 3) := by decide +kernel
theorem dX7_passYear_80 : decode cX7_passYear 80 = .ok (.istore 6, 2) := by decide +kernel
theorem dX7_passYear_82 : decode cX7_passYear 82 = .ok (.aload_n 0, 1) := by decide +kernel
theorem dX7_passYear_83 : decode cX7_passYear 83 = .ok (.getfield 29, 3) := by decide +kernel
theorem dX7_passYear_86 : decode cX7_passYear 86 = .ok (.iload 5, 2) := by decide +kernel
theorem dX7_passYear_88 : decode cX7_passYear 88 = .ok (.aaload, 1) := by decide +kernel
theorem dX7_passYear_89 : decode cX7_passYear 89 = .ok (.aload_n 1, 1) := by decide +kernel
theorem dX7_passYear_90 : decode cX7_passYear 90 = .ok (.getfield 86, 3) := by decide +kernel
theorem dX7_passYear_93 : decode cX7_passYear 93 = .ok (.invokevirtual 91, 3) := by decide +kernel
theorem dX7_passYear_96 : decode cX7_passYear 96 = .ok (.ifCond .ne 6, 3) := by decide +kernel
theorem dX7_passYear_99 : decode cX7_passYear 99 = .ok (.goto 116, 3) := by decide +kernel
theorem dX7_passYear_102 : decode cX7_passYear 102 = .ok (.aload_n 1, 1) := by decide +kernel
theorem dX7_passYear_103 : decode cX7_passYear 103 = .ok (.getfield 95, 3) := by decide +kernel
theorem dX7_passYear_106 : decode cX7_passYear 106 = .ok (.ifCond .eq 17, 3) := by decide +kernel
theorem dX7_passYear_109 : decode cX7_passYear 109 = .ok (.iload 4, 2) := by decide +kernel
theorem dX7_passYear_111 : decode cX7_passYear 111 = .ok (.iload 6, 2) := by decide +kernel
theorem dX7_passYear_113 : decode cX7_passYear 113 = .ok (.invokestatic 58, 3) := by decide +kernel
theorem dX7_passYear_116 : decode cX7_passYear 116 = .ok (.iand, 1) := by decide +kernel
theorem dX7_passYear_117 : decode cX7_passYear 117 = .ok (.ifCond .eq 6, 3) := by decide +kernel
theorem dX7_passYear_120 : decode cX7_passYear 120 = .ok (.goto 95, 3) := by decide +kernel
theorem dX7_passYear_123 : decode cX7_passYear 123 = .ok (.aload_n 0, 1) := by decide +kernel
theorem dX7_passYear_124 : decode cX7_passYear 124 = .ok (.aload_n 0, 1) := by decide +kernel
theorem dX7_passYear_125 : decode cX7_passYear 125 = .ok (.getfield 29, 3) := by decide +kernel
theorem dX7_passYear_128 : decode cX7_passYear 128 = .ok (.iload 5, 2) := by decide +kernel
theorem dX7_passYear_130 : decode cX7_passYear 130 = .ok (.aaload, 1) := by decide +kernel
theorem dX7_passYear_131 : decode cX7_passYear 131 = .ok (.getfield 99, 3) := by decide +kernel
theorem dX7_passYear_134 : decode cX7_passYear 134 = .ok (.iload 6, 2) := by decide +kernel
theorem dX7_passYear_136 : decode cX7_passYear 136 = .ok (.aload_n 1, 1) := by decide +kernel
theorem dX7_passYear_137 : decode cX7_passYear 137 = .ok (.getfield 102, 3) := by decide +kernel
theorem dX7_passYear_140 : decode cX7_passYear 140 = .ok (.invokevirtual 105, 3) := by decide +kernel
theorem dX7_passYear_143 : decode cX7_passYear 143 = .ok (.istore 7, 2) := by decide +kernel
theorem dX7_passYear_145 : decode cX7_passYear 145 = .ok (.iload 7, 2) := by decide +kernel
theorem dX7_passYear_147 : decode cX7_passYear 147 = .ok (.ifCond .ne 6, 3) := by decide +kernel
theorem dX7_passYear_150 : decode cX7_passYear 150 = .ok (.goto 65, 3) := by decide +kernel
theorem dX7_passYear_153 : decode cX7_passYear 153 = .ok (.aload_n 2, 1) := by decide +kernel
theorem dX7_passYear_154 : decode cX7_passYear 154 = .ok (.ifnonnull 14, 3) := by decide +kernel
theorem dX7_passYear_157 : decode cX7_passYear 157 = .ok (.aload_n 0, 1) := by decide +kernel
theorem dX7_passYear_158 : decode cX7_passYear 158 = .ok (.iload 6, 2) := by decide +kernel
theorem dX7_passYear_160 : decode cX7_passYear 160 = .ok (.iload 7, 2) := by decide +kernel
theorem dX7_passYear_162 : decode cX7_passYear 162 = .ok (.invokevirtual 109, 3) := by decide +kernel
theorem dX7_passYear_165 : decode cX7_passYear 165 = .ok (.goto 9, 3) := by decide +kernel
theorem dX7_passYear_168 : decode cX7_passYear 168 = .ok (.aload_n 2, 1) := by decide +kernel
theorem dX7_passYear_169 : decode cX7_passYear 169 = .ok (.iload 7, 2) := by decide +kernel
theorem dX7_passYear_171 : decode cX7_passYear 171 = .ok (.invokevirtual 112, 3) := by decide +kernel
theorem dX7_passYear_174 : decode cX7_passYear 174 = .ok (.istore 8, 2) := by decide +kernel
theorem dX7_passYear_176 : decode cX7_passYear 176 = .ok (.iload 8, 2) := by decide +kernel
theorem dX7_passYear_178 : decode cX7_passYear 178 = .ok (.iconst (-1), 1) := by decide +kernel
theorem dX7_passYear_179 : decode cX7_passYear 179 = .ok (.if_icmp .ne 6, 3) := by decide +kernel
theorem dX7_passYear_182 : decode cX7_passYear 182 = .ok (.goto 33, 3) := by decide +kernel
theorem dX7_passYear_185 : decode cX7_passYear 185 = .ok (.aload_n 0, 1) := by decide +kernel
theorem dX7_passYear_186 : decode cX7_passYear 186 = .ok (.aload_n 0, 1) := by decide +kernel
theorem dX7_passYear_187 : decode cX7_passYear 187 = .ok (.getfield 29, 3) := by decide +kernel
theorem dX7_passYear_190 : decode cX7_passYear 190 = .ok (.iload 5, 2) := by decide +kernel
theorem dX7_passYear_192 : decode cX7_passYear 192 = .ok (.aaload, 1) := by decide +kernel
theorem dX7_passYear_193 : decode cX7_passYear 193 = .ok (.iload 8, 2) := by decide +kernel
theorem dX7_passYear_195 : decode cX7_passYear 195 = .ok (.aload_n 1, 1) := by decide +kernel
theorem dX7_passYear_196 : decode cX7_passYear 196 = .ok (.getfield 117, 3) := by decide +kernel
theorem dX7_passYear_199 : decode cX7_passYear 199 = .ok (.invokevirtual 120, 3) := by decide +kernel
theorem dX7_passYear_202 : decode cX7_passYear 202 = .ok (.iload 4, 2) := by decide +kernel
theorem dX7_passYear_204 : decode cX7_passYear 204 = .ok (.iload 6, 2) := by decide +kernel
theorem dX7_passYear_206 : decode cX7_passYear 206 = .ok (.invokestatic 58, 3) := by decide +kernel
theorem dX7_passYear_209 : decode cX7_passYear 209 = .ok (.ior, 1) := by decide +kernel
theorem dX7_passYear_210 : decode cX7_passYear 210 = .ok (.istore 4, 2) := by decide +kernel
theorem dX7_passYear_212 : decode cX7_passYear 212 = .ok (.iinc 3 1, 3) := by decide +kernel
theorem dX7_passYear_215 : decode cX7_passYear 215 = .ok (.iinc 5 1, 3) := by decide +kernel
theorem dX7_passYear_218 : decode cX7_passYear 218 = .ok (.goto (-157), 3) := by decide +kernel
theorem dX7_passYear_221 : decode cX7_passYear 221 = .ok (.iload_n 3, 1) := by decide +kernel
theorem dX7_passYear_222 : decode cX7_passYear 222 = .ok (.ireturn, 1) := by decide +kernel
theorem dX7_chosenBy_0 : decode cX7_chosenBy 0 = .ok (.iconst (-1), 1) := by decide +kernel
theorem dX7_chosenBy_1 : decode cX7_chosenBy 1 = .ok (.istore_n 3, 1) := by decide +kernel
theorem dX7_chosenBy_2 : decode cX7_chosenBy 2 = .ok (.iconst 0, 1) := by decide +kernel
theorem dX7_chosenBy_3 : decode cX7_chosenBy 3 = .ok (.istore 4, 2) := by decide +kernel
theorem dX7_chosenBy_5 : decode cX7_chosenBy 5 = .ok (.iconst 0, 1) := by decide +kernel
theorem dX7_chosenBy_6 : decode cX7_chosenBy 6 = .ok (.istore 5, 2) := by decide +kernel
theorem dX7_chosenBy_8 : decode cX7_chosenBy 8 = .ok (.iload 5, 2) := by decide +kernel
theorem dX7_chosenBy_10 : decode cX7_chosenBy 10 = .ok (.aload_n 0, 1) := by decide +kernel
theorem dX7_chosenBy_11 : decode cX7_chosenBy 11 = .ok (.getfield 34, 3) := by decide +kernel
theorem dX7_chosenBy_14 : decode cX7_chosenBy 14 = .ok (.if_icmp .ge 50, 3) := by decide +kernel
theorem dX7_chosenBy_17 : decode cX7_chosenBy 17 = .ok (.iload_n 2, 1) := by decide +kernel
theorem dX7_chosenBy_18 : decode cX7_chosenBy 18 = .ok (.iload 5, 2) := by decide +kernel
theorem dX7_chosenBy_20 : decode cX7_chosenBy 20 = .ok (.invokestatic 58, 3) := by decide +kernel
theorem dX7_chosenBy_23 : decode cX7_chosenBy 23 = .ok (.iand, 1) := by decide +kernel
theorem dX7_chosenBy_24 : decode cX7_chosenBy 24 = .ok (.ifCond .ne 6, 3) := by decide +kernel
theorem dX7_chosenBy_27 : decode cX7_chosenBy 27 = .ok (.goto 31, 3) := by decide +kernel
theorem dX7_chosenBy_30 : decode cX7_chosenBy 30 = .ok (.aload_n 0, 1) := by decide +kernel
theorem dX7_chosenBy_31 : decode cX7_chosenBy 31 = .ok (.iload_n 1, 1) := by decide +kernel
theorem dX7_chosenBy_32 : decode cX7_chosenBy 32 = .ok (.iload 5, 2) := by decide +kernel
theorem dX7_chosenBy_34 : decode cX7_chosenBy 34 = .ok (.invokevirtual 124, 3) := by decide +kernel
theorem dX7_chosenBy_37 : decode cX7_chosenBy 37 = .ok (.istore 6, 2) := by decide +kernel
theorem dX7_chosenBy_39 : decode cX7_chosenBy 39 = .ok (.iload_n 3, 1) := by decide +kernel
theorem dX7_chosenBy_40 : decode cX7_chosenBy 40 = .ok (.iconst (-1), 1) := by decide +kernel
theorem dX7_chosenBy_41 : decode cX7_chosenBy 41 = .ok (.if_icmp .eq 10, 3) := by decide +kernel
theorem dX7_chosenBy_44 : decode cX7_chosenBy 44 = .ok (.iload 6, 2) := by decide +kernel
theorem dX7_chosenBy_46 : decode cX7_chosenBy 46 = .ok (.iload 4, 2) := by decide +kernel
theorem dX7_chosenBy_48 : decode cX7_chosenBy 48 = .ok (.if_icmp .le 10, 3) := by decide +kernel
theorem dX7_chosenBy_51 : decode cX7_chosenBy 51 = .ok (.iload 5, 2) := by decide +kernel
theorem dX7_chosenBy_53 : decode cX7_chosenBy 53 = .ok (.istore_n 3, 1) := by decide +kernel
theorem dX7_chosenBy_54 : decode cX7_chosenBy 54 = .ok (.iload 6, 2) := by decide +kernel
theorem dX7_chosenBy_56 : decode cX7_chosenBy 56 = .ok (.istore 4, 2) := by decide +kernel
theorem dX7_chosenBy_58 : decode cX7_chosenBy 58 = .ok (.iinc 5 1, 3) := by decide +kernel
theorem dX7_chosenBy_61 : decode cX7_chosenBy 61 = .ok (.goto (-53), 3) := by decide +kernel
theorem dX7_chosenBy_64 : decode cX7_chosenBy 64 = .ok (.iload_n 3, 1) := by decide +kernel
theorem dX7_chosenBy_65 : decode cX7_chosenBy 65 = .ok (.ireturn, 1) := by decide +kernel
theorem dX7_markOf_0 : decode cX7_markOf 0 = .ok (.aload_n 0, 1) := by decide +kernel
theorem dX7_markOf_1 : decode cX7_markOf 1 = .ok (.getfield 9, 3) := by decide +kernel
theorem dX7_markOf_4 : decode cX7_markOf 4 = .ok (.iload_n 1, 1) := by decide +kernel
theorem dX7_markOf_5 : decode cX7_markOf 5 = .ok (.iaload, 1) := by decide +kernel
theorem dX7_markOf_6 : decode cX7_markOf 6 = .ok (.tableswitch 42 0 2 #[26, 29, 31], 26) := by decide +kernel
theorem dX7_markOf_32 : decode cX7_markOf 32 = .ok (.iload_n 2, 1) := by decide +kernel
theorem dX7_markOf_33 : decode cX7_markOf 33 = .ok (.ineg, 1) := by decide +kernel
theorem dX7_markOf_34 : decode cX7_markOf 34 = .ok (.ireturn, 1) := by decide +kernel
theorem dX7_markOf_35 : decode cX7_markOf 35 = .ok (.iload_n 2, 1) := by decide +kernel
theorem dX7_markOf_36 : decode cX7_markOf 36 = .ok (.ireturn, 1) := by decide +kernel
theorem dX7_markOf_37 : decode cX7_markOf 37 = .ok (.aload_n 0, 1) := by decide +kernel
theorem dX7_markOf_38 : decode cX7_markOf 38 = .ok (.getfield 21, 3) := by decide +kernel
theorem dX7_markOf_41 : decode cX7_markOf 41 = .ok (.iload_n 1, 1) := by decide +kernel
theorem dX7_markOf_42 : decode cX7_markOf 42 = .ok (.iload_n 2, 1) := by decide +kernel
theorem dX7_markOf_43 : decode cX7_markOf 43 = .ok (.invokestatic 69, 3) := by decide +kernel
theorem dX7_markOf_46 : decode cX7_markOf 46 = .ok (.iaload, 1) := by decide +kernel
theorem dX7_markOf_47 : decode cX7_markOf 47 = .ok (.ireturn, 1) := by decide +kernel
theorem dX7_markOf_48 : decode cX7_markOf 48 = .ok (.aload_n 0, 1) := by decide +kernel
theorem dX7_markOf_49 : decode cX7_markOf 49 = .ok (.iload_n 2, 1) := by decide +kernel
theorem dX7_markOf_50 : decode cX7_markOf 50 = .ok (.invokevirtual 127, 3) := by decide +kernel
theorem dX7_markOf_53 : decode cX7_markOf 53 = .ok (.ineg, 1) := by decide +kernel
theorem dX7_markOf_54 : decode cX7_markOf 54 = .ok (.ireturn, 1) := by decide +kernel
theorem dX7_handsBetween_0 : decode cX7_handsBetween 0 = .ok (.iload_n 1, 1) := by decide +kernel
theorem dX7_handsBetween_1 : decode cX7_handsBetween 1 = .ok (.invokestatic 58, 3) := by decide +kernel
theorem dX7_handsBetween_4 : decode cX7_handsBetween 4 = .ok (.istore_n 3, 1) := by decide +kernel
theorem dX7_handsBetween_5 : decode cX7_handsBetween 5 = .ok (.iconst 0, 1) := by decide +kernel
theorem dX7_handsBetween_6 : decode cX7_handsBetween 6 = .ok (.istore 4, 2) := by decide +kernel
theorem dX7_handsBetween_8 : decode cX7_handsBetween 8 = .ok (.iload 4, 2) := by decide +kernel
theorem dX7_handsBetween_10 : decode cX7_handsBetween 10 = .ok (.bipush 8, 2) := by decide +kernel
theorem dX7_handsBetween_12 : decode cX7_handsBetween 12 = .ok (.if_icmp .ge 29, 3) := by decide +kernel
theorem dX7_handsBetween_15 : decode cX7_handsBetween 15 = .ok (.iload_n 3, 1) := by decide +kernel
theorem dX7_handsBetween_16 : decode cX7_handsBetween 16 = .ok (.iload_n 2, 1) := by decide +kernel
theorem dX7_handsBetween_17 : decode cX7_handsBetween 17 = .ok (.invokestatic 58, 3) := by decide +kernel
theorem dX7_handsBetween_20 : decode cX7_handsBetween 20 = .ok (.iand, 1) := by decide +kernel
theorem dX7_handsBetween_21 : decode cX7_handsBetween 21 = .ok (.ifCond .eq 6, 3) := by decide +kernel
theorem dX7_handsBetween_24 : decode cX7_handsBetween 24 = .ok (.iload 4, 2) := by decide +kernel
theorem dX7_handsBetween_26 : decode cX7_handsBetween 26 = .ok (.ireturn, 1) := by decide +kernel
theorem dX7_handsBetween_27 : decode cX7_handsBetween 27 = .ok (.iload_n 3, 1) := by decide +kernel
theorem dX7_handsBetween_28 : decode cX7_handsBetween 28 = .ok (.aload_n 0, 1) := by decide +kernel
theorem dX7_handsBetween_29 : decode cX7_handsBetween 29 = .ok (.iload_n 3, 1) := by decide +kernel
theorem dX7_handsBetween_30 : decode cX7_handsBetween 30 = .ok (.invokevirtual 130, 3) := by decide +kernel
theorem dX7_handsBetween_33 : decode cX7_handsBetween 33 = .ok (.ior, 1) := by decide +kernel
theorem dX7_handsBetween_34 : decode cX7_handsBetween 34 = .ok (.istore_n 3, 1) := by decide +kernel
theorem dX7_handsBetween_35 : decode cX7_handsBetween 35 = .ok (.iinc 4 1, 3) := by decide +kernel
theorem dX7_handsBetween_38 : decode cX7_handsBetween 38 = .ok (.goto (-30), 3) := by decide +kernel
theorem dX7_handsBetween_41 : decode cX7_handsBetween 41 = .ok (.iconst (-1), 1) := by decide +kernel
theorem dX7_handsBetween_42 : decode cX7_handsBetween 42 = .ok (.ireturn, 1) := by decide +kernel
theorem dX7_knownByAny_0 : decode cX7_knownByAny 0 = .ok (.iconst 0, 1) := by decide +kernel
theorem dX7_knownByAny_1 : decode cX7_knownByAny 1 = .ok (.istore_n 2, 1) := by decide +kernel
theorem dX7_knownByAny_2 : decode cX7_knownByAny 2 = .ok (.iconst 0, 1) := by decide +kernel
theorem dX7_knownByAny_3 : decode cX7_knownByAny 3 = .ok (.istore_n 3, 1) := by decide +kernel
theorem dX7_knownByAny_4 : decode cX7_knownByAny 4 = .ok (.iload_n 3, 1) := by decide +kernel
theorem dX7_knownByAny_5 : decode cX7_knownByAny 5 = .ok (.aload_n 0, 1) := by decide +kernel
theorem dX7_knownByAny_6 : decode cX7_knownByAny 6 = .ok (.getfield 34, 3) := by decide +kernel
theorem dX7_knownByAny_9 : decode cX7_knownByAny 9 = .ok (.if_icmp .ge 27, 3) := by decide +kernel
theorem dX7_knownByAny_12 : decode cX7_knownByAny 12 = .ok (.iload_n 1, 1) := by decide +kernel
theorem dX7_knownByAny_13 : decode cX7_knownByAny 13 = .ok (.iload_n 3, 1) := by decide +kernel
theorem dX7_knownByAny_14 : decode cX7_knownByAny 14 = .ok (.invokestatic 58, 3) := by decide +kernel
theorem dX7_knownByAny_17 : decode cX7_knownByAny 17 = .ok (.iand, 1) := by decide +kernel
theorem dX7_knownByAny_18 : decode cX7_knownByAny 18 = .ok (.ifCond .eq 12, 3) := by decide +kernel
theorem dX7_knownByAny_21 : decode cX7_knownByAny 21 = .ok (.iload_n 2, 1) := by decide +kernel
theorem dX7_knownByAny_22 : decode cX7_knownByAny 22 = .ok (.aload_n 0, 1) := by decide +kernel
theorem dX7_knownByAny_23 : decode cX7_knownByAny 23 = .ok (.getfield 15, 3) := by decide +kernel
theorem dX7_knownByAny_26 : decode cX7_knownByAny 26 = .ok (.iload_n 3, 1) := by decide +kernel
theorem dX7_knownByAny_27 : decode cX7_knownByAny 27 = .ok (.iaload, 1) := by decide +kernel
theorem dX7_knownByAny_28 : decode cX7_knownByAny 28 = .ok (.ior, 1) := by decide +kernel
theorem dX7_knownByAny_29 : decode cX7_knownByAny 29 = .ok (.istore_n 2, 1) := by decide +kernel
theorem dX7_knownByAny_30 : decode cX7_knownByAny 30 = .ok (.iinc 3 1, 3) := by decide +kernel
theorem dX7_knownByAny_33 : decode cX7_knownByAny 33 = .ok (.goto (-29), 3) := by decide +kernel
theorem dX7_knownByAny_36 : decode cX7_knownByAny 36 = .ok (.iload_n 2, 1) := by decide +kernel
theorem dX7_knownByAny_37 : decode cX7_knownByAny 37 = .ok (.ireturn, 1) := by decide +kernel
theorem dX7_firstBetween_0 : decode cX7_firstBetween 0 = .ok (.aload_n 0, 1) := by decide +kernel
theorem dX7_firstBetween_1 : decode cX7_firstBetween 1 = .ok (.iload_n 1, 1) := by decide +kernel
theorem dX7_firstBetween_2 : decode cX7_firstBetween 2 = .ok (.iload_n 2, 1) := by decide +kernel
theorem dX7_firstBetween_3 : decode cX7_firstBetween 3 = .ok (.invokevirtual 133, 3) := by decide +kernel
theorem dX7_firstBetween_6 : decode cX7_firstBetween 6 = .ok (.istore_n 3, 1) := by decide +kernel
theorem dX7_firstBetween_7 : decode cX7_firstBetween 7 = .ok (.iload_n 3, 1) := by decide +kernel
theorem dX7_firstBetween_8 : decode cX7_firstBetween 8 = .ok (.iconst (-1), 1) := by decide +kernel
theorem dX7_firstBetween_9 : decode cX7_firstBetween 9 = .ok (.if_icmp .eq 7, 3) := by decide +kernel
theorem dX7_firstBetween_12 : decode cX7_firstBetween 12 = .ok (.iload_n 3, 1) := by decide +kernel
theorem dX7_firstBetween_13 : decode cX7_firstBetween 13 = .ok (.ifCond .ne 5, 3) := by decide +kernel
theorem dX7_firstBetween_16 : decode cX7_firstBetween 16 = .ok (.iconst (-1), 1) := by decide +kernel
theorem dX7_firstBetween_17 : decode cX7_firstBetween 17 = .ok (.ireturn, 1) := by decide +kernel
theorem dX7_firstBetween_18 : decode cX7_firstBetween 18 = .ok (.iconst 0, 1) := by decide +kernel
theorem dX7_firstBetween_19 : decode cX7_firstBetween 19 = .ok (.istore 4, 2) := by decide +kernel
theorem dX7_firstBetween_21 : decode cX7_firstBetween 21 = .ok (.iload 4, 2) := by decide +kernel
theorem dX7_firstBetween_23 : decode cX7_firstBetween 23 = .ok (.aload_n 0, 1) := by decide +kernel
theorem dX7_firstBetween_24 : decode cX7_firstBetween 24 = .ok (.getfield 34, 3) := by decide +kernel
theorem dX7_firstBetween_27 : decode cX7_firstBetween 27 = .ok (.if_icmp .ge 35, 3) := by decide +kernel
theorem dX7_firstBetween_30 : decode cX7_firstBetween 30 = .ok (.aload_n 0, 1) := by decide +kernel
theorem dX7_firstBetween_31 : decode cX7_firstBetween 31 = .ok (.iload_n 1, 1) := by decide +kernel
theorem dX7_firstBetween_32 : decode cX7_firstBetween 32 = .ok (.iload 4, 2) := by decide +kernel
theorem dX7_firstBetween_34 : decode cX7_firstBetween 34 = .ok (.invokevirtual 136, 3) := by decide +kernel
theorem dX7_firstBetween_37 : decode cX7_firstBetween 37 = .ok (.ifCond .eq 19, 3) := by decide +kernel
theorem dX7_firstBetween_40 : decode cX7_firstBetween 40 = .ok (.aload_n 0, 1) := by decide +kernel
theorem dX7_firstBetween_41 : decode cX7_firstBetween 41 = .ok (.iload 4, 2) := by decide +kernel
theorem dX7_firstBetween_43 : decode cX7_firstBetween 43 = .ok (.iload_n 2, 1) := by decide +kernel
theorem dX7_firstBetween_44 : decode cX7_firstBetween 44 = .ok (.invokevirtual 133, 3) := by decide +kernel
theorem dX7_firstBetween_47 : decode cX7_firstBetween 47 = .ok (.iload_n 3, 1) := by decide +kernel
theorem dX7_firstBetween_48 : decode cX7_firstBetween 48 = .ok (.iconst 1, 1) := by decide +kernel
theorem dX7_firstBetween_49 : decode cX7_firstBetween 49 = .ok (.isub, 1) := by decide +kernel
theorem dX7_firstBetween_50 : decode cX7_firstBetween 50 = .ok (.if_icmp .ne 6, 3) := by decide +kernel
theorem dX7_firstBetween_53 : decode cX7_firstBetween 53 = .ok (.iload 4, 2) := by decide +kernel
theorem dX7_firstBetween_55 : decode cX7_firstBetween 55 = .ok (.ireturn, 1) := by decide +kernel
theorem dX7_firstBetween_56 : decode cX7_firstBetween 56 = .ok (.iinc 4 1, 3) := by decide +kernel
theorem dX7_firstBetween_59 : decode cX7_firstBetween 59 = .ok (.goto (-38), 3) := by decide +kernel
theorem dX7_firstBetween_62 : decode cX7_firstBetween 62 = .ok (.iconst (-1), 1) := by decide +kernel
theorem dX7_firstBetween_63 : decode cX7_firstBetween 63 = .ok (.ireturn, 1) := by decide +kernel
