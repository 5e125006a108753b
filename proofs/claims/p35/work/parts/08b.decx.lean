theorem dX8_init_0 : decode cX8_init 0 = .ok (.aload_n 0, 1) := by decide +kernel
theorem dX8_init_1 : decode cX8_init 1 = .ok (.invokespecial 3, 3) := by decide +kernel
theorem dX8_init_4 : decode cX8_init 4 = .ok (.aload_n 0, 1) := by decide +kernel
theorem dX8_init_5 : decode cX8_init 5 = .ok (.new 9, 3) := by decide +kernel
theorem dX8_init_8 : decode cX8_init 8 = .ok (.dup, 1) := by decide +kernel
theorem dX8_init_9 : decode cX8_init 9 = .ok (.invokespecial 11, 3) := by decide +kernel
theorem dX8_init_12 : decode cX8_init 12 = .ok (.putfield 12, 3) := by decide +kernel
theorem dX8_init_15 : decode cX8_init 15 = .ok (.aload_n 0, 1) := by decide +kernel
theorem dX8_init_16 : decode cX8_init 16 = .ok (.new 16, 3) := by decide +kernel
theorem dX8_init_19 : decode cX8_init 19 = .ok (.dup, 1) := by decide +kernel
theorem dX8_init_20 : decode cX8_init 20 = .ok (.invokespecial 18, 3) := by decide +kernel
theorem dX8_init_23 : decode cX8_init 23 = .ok (.putfield 19, 3) := by decide +kernel
theorem dX8_init_26 : decode cX8_init 26 = .ok (.aload_n 0, 1) := by decide +kernel
theorem dX8_init_27 : decode cX8_init 27 = .ok (.new 23, 3) := by decide +kernel
theorem dX8_init_30 : decode cX8_init 30 = .ok (.dup, 1) := by decide +kernel
theorem dX8_init_31 : decode cX8_init 31 = .ok (.invokespecial 25, 3) := by decide +kernel
theorem dX8_init_34 : decode cX8_init 34 = .ok (.putfield 26, 3) := by decide +kernel
theorem dX8_init_37 : decode cX8_init 37 = .ok (.aload_n 0, 1) := by decide +kernel
theorem dX8_init_38 : decode cX8_init 38 = .ok (.new 23, 3) := by decide +kernel
theorem dX8_init_41 : decode cX8_init 41 = .ok (.dup, 1) := by decide +kernel
theorem dX8_init_42 : decode cX8_init 42 = .ok (.invokespecial 25, 3) := by decide +kernel
theorem dX8_init_45 : decode cX8_init 45 = .ok (.putfield 30, 3) := by decide +kernel
theorem dX8_init_48 : decode cX8_init 48 = .ok (.aload_n 0, 1) := by decide +kernel
theorem dX8_init_49 : decode cX8_init 49 = .ok (.new 23, 3) := by decide +kernel
theorem dX8_init_52 : decode cX8_init 52 = .ok (.dup, 1) := by decide +kernel
theorem dX8_init_53 : decode cX8_init 53 = .ok (.invokespecial 25, 3) := by decide +kernel
theorem dX8_init_56 : decode cX8_init 56 = .ok (.putfield 33, 3) := by decide +kernel
theorem dX8_init_59 : decode cX8_init 59 = .ok (.aload_n 0, 1) := by decide +kernel
theorem dX8_init_60 : decode cX8_init 60 = .ok (.new 36, 3) := by decide +kernel
theorem dX8_init_63 : decode cX8_init 63 = .ok (.dup, 1) := by decide +kernel
theorem dX8_init_64 : decode cX8_init 64 = .ok (.invokespecial 38, 3) := by decide +kernel
theorem dX8_init_67 : decode cX8_init 67 = .ok (.putfield 39, 3) := by decide +kernel
theorem dX8_init_70 : decode cX8_init 70 = .ok (.aload_n 0, 1) := by decide +kernel
theorem dX8_init_71 : decode cX8_init 71 = .ok (.new 43, 3) := by decide +kernel
theorem dX8_init_74 : decode cX8_init 74 = .ok (.dup, 1) := by decide +kernel
theorem dX8_init_75 : decode cX8_init 75 = .ok (.invokespecial 45, 3) := by decide +kernel
theorem dX8_init_78 : decode cX8_init 78 = .ok (.putfield 46, 3) := by decide +kernel
theorem dX8_init_81 : decode cX8_init 81 = .ok (.aload_n 0, 1) := by decide +kernel
theorem dX8_init_82 : decode cX8_init 82 = .ok (.new 50, 3) := by decide +kernel
theorem dX8_init_85 : decode cX8_init 85 = .ok (.dup, 1) := by decide +kernel
theorem dX8_init_86 : decode cX8_init 86 = .ok (.invokespecial 52, 3) := by decide +kernel
theorem dX8_init_89 : decode cX8_init 89 = .ok (.putfield 53, 3) := by decide +kernel
theorem dX8_init_92 : decode cX8_init 92 = .ok (.aload_n 0, 1) := by decide +kernel
theorem dX8_init_93 : decode cX8_init 93 = .ok (.new 57, 3) := by decide +kernel
theorem dX8_init_96 : decode cX8_init 96 = .ok (.dup, 1) := by decide +kernel
theorem dX8_init_97 : decode cX8_init 97 = .ok (.invokespecial 59, 3) := by decide +kernel
theorem dX8_init_100 : decode cX8_init 100 = .ok (.putfield 60, 3) := by decide +kernel
theorem dX8_init_103 : decode cX8_init 103 = .ok (.return_, 1) := by decide +kernel
theorem dX8_letters_0 : decode cX8_letters 0 = .ok (.lload_n 1, 1) := by decide +kernel
theorem dX8_letters_1 : decode cX8_letters 1 = .ok (.invokestatic 64, 3) := by decide +kernel
theorem dX8_letters_4 : decode cX8_letters 4 = .ok (.istore_n 3, 1) := by decide +kernel
theorem dX8_letters_5 : decode cX8_letters 5 = .ok (.iload_n 3, 1) := by decide +kernel
theorem dX8_letters_6 : decode cX8_letters 6 = .ok (.iconst (-1), 1) := by decide +kernel
theorem dX8_letters_7 : decode cX8_letters 7 = .ok (.if_icmp .ne 6, 3) := by decide +kernel
theorem dX8_letters_10 : decode cX8_letters 10 = .ok (.bipush (-102), 2) := by decide +kernel
theorem dX8_letters_12 : decode cX8_letters 12 = .ok (.ireturn, 1) := by decide +kernel
theorem dX8_letters_13 : decode cX8_letters 13 = .ok (.aload_n 0, 1) := by decide +kernel
theorem dX8_letters_14 : decode cX8_letters 14 = .ok (.getfield 12, 3) := by decide +kernel
theorem dX8_letters_17 : decode cX8_letters 17 = .ok (.getfield 68, 3) := by decide +kernel
theorem dX8_letters_20 : decode cX8_letters 20 = .ok (.iload_n 3, 1) := by decide +kernel
theorem dX8_letters_21 : decode cX8_letters 21 = .ok (.iadd, 1) := by decide +kernel
theorem dX8_letters_22 : decode cX8_letters 22 = .ok (.bipush 16, 2) := by decide +kernel
theorem dX8_letters_24 : decode cX8_letters 24 = .ok (.if_icmp .le 6, 3) := by decide +kernel
theorem dX8_letters_27 : decode cX8_letters 27 = .ok (.bipush (-104), 2) := by decide +kernel
theorem dX8_letters_29 : decode cX8_letters 29 = .ok (.ireturn, 1) := by decide +kernel
theorem dX8_letters_30 : decode cX8_letters 30 = .ok (.aload_n 0, 1) := by decide +kernel
theorem dX8_letters_31 : decode cX8_letters 31 = .ok (.getfield 12, 3) := by decide +kernel
theorem dX8_letters_34 : decode cX8_letters 34 = .ok (.lload_n 1, 1) := by decide +kernel
theorem dX8_letters_35 : decode cX8_letters 35 = .ok (.iload_n 3, 1) := by decide +kernel
theorem dX8_letters_36 : decode cX8_letters 36 = .ok (.invokevirtual 72, 3) := by decide +kernel
theorem dX8_letters_39 : decode cX8_letters 39 = .ok (.aload_n 0, 1) := by decide +kernel
theorem dX8_letters_40 : decode cX8_letters 40 = .ok (.getfield 12, 3) := by decide +kernel
theorem dX8_letters_43 : decode cX8_letters 43 = .ok (.getfield 68, 3) := by decide +kernel
theorem dX8_letters_46 : decode cX8_letters 46 = .ok (.ireturn, 1) := by decide +kernel
theorem dX8_fault_0 : decode cX8_fault 0 = .ok (.aload_n 0, 1) := by decide +kernel
theorem dX8_fault_1 : decode cX8_fault 1 = .ok (.getfield 12, 3) := by decide +kernel
theorem dX8_fault_4 : decode cX8_fault 4 = .ok (.invokevirtual 76, 3) := by decide +kernel
theorem dX8_fault_7 : decode cX8_fault 7 = .ok (.ireturn, 1) := by decide +kernel
theorem dX8_law_0 : decode cX8_law 0 = .ok (.aload_n 0, 1) := by decide +kernel
theorem dX8_law_1 : decode cX8_law 1 = .ok (.getfield 12, 3) := by decide +kernel
theorem dX8_law_4 : decode cX8_law 4 = .ok (.invokevirtual 80, 3) := by decide +kernel
theorem dX8_law_7 : decode cX8_law 7 = .ok (.ifCond .ne 6, 3) := by decide +kernel
theorem dX8_law_10 : decode cX8_law 10 = .ok (.bipush (-103), 2) := by decide +kernel
theorem dX8_law_12 : decode cX8_law 12 = .ok (.ireturn, 1) := by decide +kernel
theorem dX8_law_13 : decode cX8_law 13 = .ok (.aload_n 0, 1) := by decide +kernel
theorem dX8_law_14 : decode cX8_law 14 = .ok (.getfield 19, 3) := by decide +kernel
theorem dX8_law_17 : decode cX8_law 17 = .ok (.aload_n 0, 1) := by decide +kernel
theorem dX8_law_18 : decode cX8_law 18 = .ok (.getfield 12, 3) := by decide +kernel
theorem dX8_law_21 : decode cX8_law 21 = .ok (.invokevirtual 84, 3) := by decide +kernel
theorem dX8_law_24 : decode cX8_law 24 = .ok (.aload_n 0, 1) := by decide +kernel
theorem dX8_law_25 : decode cX8_law 25 = .ok (.getfield 12, 3) := by decide +kernel
theorem dX8_law_28 : decode cX8_law 28 = .ok (.iconst 0, 1) := by decide +kernel
theorem dX8_law_29 : decode cX8_law 29 = .ok (.putfield 68, 3) := by decide +kernel
theorem dX8_law_32 : decode cX8_law 32 = .ok (.aload_n 0, 1) := by decide +kernel
theorem dX8_law_33 : decode cX8_law 33 = .ok (.dup, 1) := by decide +kernel
theorem dX8_law_34 : decode cX8_law 34 = .ok (.getfield 88, 3) := by decide +kernel
theorem dX8_law_37 : decode cX8_law 37 = .ok (.iconst 1, 1) := by decide +kernel
theorem dX8_law_38 : decode cX8_law 38 = .ok (.iadd, 1) := by decide +kernel
theorem dX8_law_39 : decode cX8_law 39 = .ok (.putfield 88, 3) := by decide +kernel
theorem dX8_law_42 : decode cX8_law 42 = .ok (.aload_n 0, 1) := by decide +kernel
theorem dX8_law_43 : decode cX8_law 43 = .ok (.getfield 88, 3) := by decide +kernel
theorem dX8_law_46 : decode cX8_law 46 = .ok (.ireturn, 1) := by decide +kernel
theorem dX8_lawTold_0 : decode cX8_lawTold 0 = .ok (.iload_n 1, 1) := by decide +kernel
theorem dX8_lawTold_1 : decode cX8_lawTold 1 = .ok (.iconst 0, 1) := by decide +kernel
theorem dX8_lawTold_2 : decode cX8_lawTold 2 = .ok (.iconst 3, 1) := by decide +kernel
theorem dX8_lawTold_3 : decode cX8_lawTold 3 = .ok (.invokestatic 91, 3) := by decide +kernel
theorem dX8_lawTold_6 : decode cX8_lawTold 6 = .ok (.ifCond .ne 6, 3) := by decide +kernel
theorem dX8_lawTold_9 : decode cX8_lawTold 9 = .ok (.bipush (-102), 2) := by decide +kernel
theorem dX8_lawTold_11 : decode cX8_lawTold 11 = .ok (.ireturn, 1) := by decide +kernel
theorem dX8_lawTold_12 : decode cX8_lawTold 12 = .ok (.iload_n 1, 1) := by decide +kernel
theorem dX8_lawTold_13 : decode cX8_lawTold 13 = .ok (.tableswitch 67 0 2 #[27, 35, 51], 27) := by decide +kernel
theorem dX8_lawTold_40 : decode cX8_lawTold 40 = .ok (.aload_n 0, 1) := by decide +kernel
theorem dX8_lawTold_41 : decode cX8_lawTold 41 = .ok (.getfield 19, 3) := by decide +kernel
theorem dX8_lawTold_44 : decode cX8_lawTold 44 = .ok (.getfield 95, 3) := by decide +kernel
theorem dX8_lawTold_47 : decode cX8_lawTold 47 = .ok (.ireturn, 1) := by decide +kernel
theorem dX8_lawTold_48 : decode cX8_lawTold 48 = .ok (.aload_n 0, 1) := by decide +kernel
theorem dX8_lawTold_49 : decode cX8_lawTold 49 = .ok (.getfield 19, 3) := by decide +kernel
theorem dX8_lawTold_52 : decode cX8_lawTold 52 = .ok (.getfield 98, 3) := by decide +kernel
theorem dX8_lawTold_55 : decode cX8_lawTold 55 = .ok (.ifCond .eq 7, 3) := by decide +kernel
theorem dX8_lawTold_58 : decode cX8_lawTold 58 = .ok (.iconst 1, 1) := by decide +kernel
theorem dX8_lawTold_59 : decode cX8_lawTold 59 = .ok (.goto 4, 3) := by decide +kernel
theorem dX8_lawTold_62 : decode cX8_lawTold 62 = .ok (.iconst 0, 1) := by decide +kernel
theorem dX8_lawTold_63 : decode cX8_lawTold 63 = .ok (.ireturn, 1) := by decide +kernel
theorem dX8_lawTold_64 : decode cX8_lawTold 64 = .ok (.aload_n 0, 1) := by decide +kernel
theorem dX8_lawTold_65 : decode cX8_lawTold 65 = .ok (.getfield 19, 3) := by decide +kernel
theorem dX8_lawTold_68 : decode cX8_lawTold 68 = .ok (.getfield 102, 3) := by decide +kernel
theorem dX8_lawTold_71 : decode cX8_lawTold 71 = .ok (.ifCond .eq 7, 3) := by decide +kernel
theorem dX8_lawTold_74 : decode cX8_lawTold 74 = .ok (.iconst 1, 1) := by decide +kernel
theorem dX8_lawTold_75 : decode cX8_lawTold 75 = .ok (.goto 4, 3) := by decide +kernel
theorem dX8_lawTold_78 : decode cX8_lawTold 78 = .ok (.iconst 0, 1) := by decide +kernel
theorem dX8_lawTold_79 : decode cX8_lawTold 79 = .ok (.ireturn, 1) := by decide +kernel
theorem dX8_lawTold_80 : decode cX8_lawTold 80 = .ok (.aload_n 0, 1) := by decide +kernel
theorem dX8_lawTold_81 : decode cX8_lawTold 81 = .ok (.getfield 19, 3) := by decide +kernel
theorem dX8_lawTold_84 : decode cX8_lawTold 84 = .ok (.getfield 105, 3) := by decide +kernel
theorem dX8_lawTold_87 : decode cX8_lawTold 87 = .ok (.ireturn, 1) := by decide +kernel
theorem dX8_person_0 : decode cX8_person 0 = .ok (.iload_n 1, 1) := by decide +kernel
theorem dX8_person_1 : decode cX8_person 1 = .ok (.iconst 0, 1) := by decide +kernel
theorem dX8_person_2 : decode cX8_person 2 = .ok (.iconst 3, 1) := by decide +kernel
theorem dX8_person_3 : decode cX8_person 3 = .ok (.invokestatic 91, 3) := by decide +kernel
theorem dX8_person_6 : decode cX8_person 6 = .ok (.ifCond .ne 6, 3) := by decide +kernel
theorem dX8_person_9 : decode cX8_person 9 = .ok (.bipush (-102), 2) := by decide +kernel
theorem dX8_person_11 : decode cX8_person 11 = .ok (.ireturn, 1) := by decide +kernel
theorem dX8_person_12 : decode cX8_person 12 = .ok (.aload_n 0, 1) := by decide +kernel
theorem dX8_person_13 : decode cX8_person 13 = .ok (.getfield 26, 3) := by decide +kernel
theorem dX8_person_16 : decode cX8_person 16 = .ok (.getfield 108, 3) := by decide +kernel
theorem dX8_person_19 : decode cX8_person 19 = .ok (.bipush 8, 2) := by decide +kernel
theorem dX8_person_21 : decode cX8_person 21 = .ok (.if_icmp .lt 6, 3) := by decide +kernel
theorem dX8_person_24 : decode cX8_person 24 = .ok (.bipush (-104), 2) := by decide +kernel
theorem dX8_person_26 : decode cX8_person 26 = .ok (.ireturn, 1) := by decide +kernel
theorem dX8_person_27 : decode cX8_person 27 = .ok (.aload_n 0, 1) := by decide +kernel
theorem dX8_person_28 : decode cX8_person 28 = .ok (.getfield 26, 3) := by decide +kernel
theorem dX8_person_31 : decode cX8_person 31 = .ok (.iload_n 1, 1) := by decide +kernel
theorem dX8_person_32 : decode cX8_person 32 = .ok (.invokevirtual 111, 3) := by decide +kernel
theorem dX8_person_35 : decode cX8_person 35 = .ok (.ireturn, 1) := by decide +kernel
theorem dX8_know_0 : decode cX8_know 0 = .ok (.aload_n 0, 1) := by decide +kernel
theorem dX8_know_1 : decode cX8_know 1 = .ok (.iload_n 1, 1) := by decide +kernel
theorem dX8_know_2 : decode cX8_know 2 = .ok (.iload_n 2, 1) := by decide +kernel
theorem dX8_know_3 : decode cX8_know 3 = .ok (.invokevirtual 115, 3) := by decide +kernel
theorem dX8_know_6 : decode cX8_know 6 = .ok (.ifCond .ne 6, 3) := by decide +kernel
theorem dX8_know_9 : decode cX8_know 9 = .ok (.bipush (-101), 2) := by decide +kernel
theorem dX8_know_11 : decode cX8_know 11 = .ok (.ireturn, 1) := by decide +kernel
theorem dX8_know_12 : decode cX8_know 12 = .ok (.aload_n 0, 1) := by decide +kernel
theorem dX8_know_13 : decode cX8_know 13 = .ok (.getfield 26, 3) := by decide +kernel
theorem dX8_know_16 : decode cX8_know 16 = .ok (.iload_n 1, 1) := by decide +kernel
theorem dX8_know_17 : decode cX8_know 17 = .ok (.iload_n 2, 1) := by decide +kernel
theorem dX8_know_18 : decode cX8_know 18 = .ok (.invokevirtual 119, 3) := by decide +kernel
theorem dX8_know_21 : decode cX8_know 21 = .ok (.ifCond .eq 7, 3) := by decide +kernel
theorem dX8_know_24 : decode cX8_know 24 = .ok (.iconst 1, 1) := by decide +kernel
theorem dX8_know_25 : decode cX8_know 25 = .ok (.goto 4, 3) := by decide +kernel
theorem dX8_know_28 : decode cX8_know 28 = .ok (.iconst 0, 1) := by decide +kernel
theorem dX8_know_29 : decode cX8_know 29 = .ok (.istore 4, 2) := by decide +kernel
theorem dX8_know_31 : decode cX8_know 31 = .ok (.aload_n 0, 1) := by decide +kernel
theorem dX8_know_32 : decode cX8_know 32 = .ok (.getfield 26, 3) := by decide +kernel
theorem dX8_know_35 : decode cX8_know 35 = .ok (.iload_n 1, 1) := by decide +kernel
theorem dX8_know_36 : decode cX8_know 36 = .ok (.iload_n 2, 1) := by decide +kernel
theorem dX8_know_37 : decode cX8_know 37 = .ok (.iload_n 3, 1) := by decide +kernel
theorem dX8_know_38 : decode cX8_know 38 = .ok (.invokevirtual 122, 3) := by decide +kernel
theorem dX8_know_41 : decode cX8_know 41 = .ok (.iload 4, 2) := by decide +kernel
theorem dX8_know_43 : decode cX8_know 43 = .ok (.ireturn, 1) := by decide +kernel
theorem dX8_like_0 : decode cX8_like 0 = .ok (.aload_n 0, 1) := by decide +kernel
theorem dX8_like_1 : decode cX8_like 1 = .ok (.iload_n 1, 1) := by decide +kernel
theorem dX8_like_2 : decode cX8_like 2 = .ok (.iload_n 2, 1) := by decide +kernel
theorem dX8_like_3 : decode cX8_like 3 = .ok (.invokevirtual 115, 3) := by decide +kernel
theorem dX8_like_6 : decode cX8_like 6 = .ok (.ifCond .ne 6, 3) := by decide +kernel
theorem dX8_like_9 : decode cX8_like 9 = .ok (.bipush (-101), 2) := by decide +kernel
theorem dX8_like_11 : decode cX8_like 11 = .ok (.ireturn, 1) := by decide +kernel
theorem dX8_like_12 : decode cX8_like 12 = .ok (.iload_n 3, 1) := by decide +kernel
theorem dX8_like_13 : decode cX8_like 13 = .ok (.iconst 0, 1) := by decide +kernel
theorem dX8_like_14 : decode cX8_like 14 = .ok (.bipush 9, 2) := by decide +kernel
theorem dX8_like_16 : decode cX8_like 16 = .ok (.invokestatic 91, 3) := by decide +kernel
theorem dX8_like_19 : decode cX8_like 19 = .ok (.ifCond .ne 6, 3) := by decide +kernel
theorem dX8_like_22 : decode cX8_like 22 = .ok (.bipush (-102), 2) := by decide +kernel
theorem dX8_like_24 : decode cX8_like 24 = .ok (.ireturn, 1) := by decide +kernel
theorem dX8_like_25 : decode cX8_like 25 = .ok (.aload_n 0, 1) := by decide +kernel
theorem dX8_like_26 : decode cX8_like 26 = .ok (.getfield 26, 3) := by decide +kernel
theorem dX8_like_29 : decode cX8_like 29 = .ok (.getfield 126, 3) := by decide +kernel
theorem dX8_like_32 : decode cX8_like 32 = .ok (.iload_n 1, 1) := by decide +kernel
theorem dX8_like_33 : decode cX8_like 33 = .ok (.iload_n 2, 1) := by decide +kernel
theorem dX8_like_34 : decode cX8_like 34 = .ok (.invokestatic 130, 3) := by decide +kernel
theorem dX8_like_37 : decode cX8_like 37 = .ok (.iaload, 1) := by decide +kernel
theorem dX8_like_38 : decode cX8_like 38 = .ok (.istore 4, 2) := by decide +kernel
theorem dX8_like_40 : decode cX8_like 40 = .ok (.aload_n 0, 1) := by decide +kernel
theorem dX8_like_41 : decode cX8_like 41 = .ok (.getfield 26, 3) := by decide +kernel
theorem dX8_like_44 : decode cX8_like 44 = .ok (.getfield 126, 3) := by decide +kernel
theorem dX8_like_47 : decode cX8_like 47 = .ok (.iload_n 1, 1) := by decide +kernel
theorem dX8_like_48 : decode cX8_like 48 = .ok (.iload_n 2, 1) := by decide +kernel
theorem dX8_like_49 : decode cX8_like 49 = .ok (.invokestatic 130, 3) := by decide +kernel
theorem dX8_like_52 : decode cX8_like 52 = .ok (.iload_n 3, 1) := by decide +kernel
theorem dX8_like_53 : decode cX8_like 53 = .ok (.iastore, 1) := by decide +kernel
theorem dX8_like_54 : decode cX8_like 54 = .ok (.iload 4, 2) := by decide +kernel
theorem dX8_like_56 : decode cX8_like 56 = .ok (.ireturn, 1) := by decide +kernel
theorem dX8_about_0 : decode cX8_about 0 = .ok (.aload_n 0, 1) := by decide +kernel
theorem dX8_about_1 : decode cX8_about 1 = .ok (.iload_n 1, 1) := by decide +kernel
theorem dX8_about_2 : decode cX8_about 2 = .ok (.invokevirtual 134, 3) := by decide +kernel
theorem dX8_about_5 : decode cX8_about 5 = .ok (.ifCond .ne 6, 3) := by decide +kernel
theorem dX8_about_8 : decode cX8_about 8 = .ok (.bipush (-101), 2) := by decide +kernel
theorem dX8_about_10 : decode cX8_about 10 = .ok (.ireturn, 1) := by decide +kernel
theorem dX8_about_11 : decode cX8_about 11 = .ok (.iload_n 2, 1) := by decide +kernel
theorem dX8_about_12 : decode cX8_about 12 = .ok (.iconst 0, 1) := by decide +kernel
theorem dX8_about_13 : decode cX8_about 13 = .ok (.iconst 3, 1) := by decide +kernel
theorem dX8_about_14 : decode cX8_about 14 = .ok (.invokestatic 91, 3) := by decide +kernel
theorem dX8_about_17 : decode cX8_about 17 = .ok (.ifCond .ne 6, 3) := by decide +kernel
theorem dX8_about_20 : decode cX8_about 20 = .ok (.bipush (-102), 2) := by decide +kernel
theorem dX8_about_22 : decode cX8_about 22 = .ok (.ireturn, 1) := by decide +kernel
theorem dX8_about_23 : decode cX8_about 23 = .ok (.iload_n 2, 1) := by decide +kernel
theorem dX8_about_24 : decode cX8_about 24 = .ok (.tableswitch 57 0 2 #[28, 38, 47], 28) := by decide +kernel
theorem dX8_about_52 : decode cX8_about 52 = .ok (.aload_n 0, 1) := by decide +kernel
theorem dX8_about_53 : decode cX8_about 53 = .ok (.getfield 26, 3) := by decide +kernel
theorem dX8_about_56 : decode cX8_about 56 = .ok (.getfield 138, 3) := by decide +kernel
theorem dX8_about_59 : decode cX8_about 59 = .ok (.iload_n 1, 1) := by decide +kernel
theorem dX8_about_60 : decode cX8_about 60 = .ok (.iaload, 1) := by decide +kernel
theorem dX8_about_61 : decode cX8_about 61 = .ok (.ireturn, 1) := by decide +kernel
theorem dX8_about_62 : decode cX8_about 62 = .ok (.aload_n 0, 1) := by decide +kernel
theorem dX8_about_63 : decode cX8_about 63 = .ok (.getfield 26, 3) := by decide +kernel
theorem dX8_about_66 : decode cX8_about 66 = .ok (.iload_n 1, 1) := by decide +kernel
theorem dX8_about_67 : decode cX8_about 67 = .ok (.invokevirtual 141, 3) := by decide +kernel
theorem dX8_about_70 : decode cX8_about 70 = .ok (.ireturn, 1) := by decide +kernel
theorem dX8_about_71 : decode cX8_about 71 = .ok (.aload_n 0, 1) := by decide +kernel
theorem dX8_about_72 : decode cX8_about 72 = .ok (.getfield 26, 3) := by decide +kernel
theorem dX8_about_75 : decode cX8_about 75 = .ok (.getfield 144, 3) := by decide +kernel
theorem dX8_about_78 : decode cX8_about 78 = .ok (.iload_n 1, 1) := by decide +kernel
theorem dX8_about_79 : decode cX8_about 79 = .ok (.iaload, 1) := by decide +kernel
theorem dX8_about_80 : decode cX8_about 80 = .ok (.ireturn, 1) := by decide +kernel
theorem dX8_about_81 : decode cX8_about 81 = .ok (.aload_n 0, 1) := by decide +kernel
theorem dX8_about_82 : decode cX8_about 82 = .ok (.getfield 26, 3) := by decide +kernel
theorem dX8_about_85 : decode cX8_about 85 = .ok (.getfield 147, 3) := by decide +kernel
theorem dX8_about_88 : decode cX8_about 88 = .ok (.iload_n 1, 1) := by decide +kernel
theorem dX8_about_89 : decode cX8_about 89 = .ok (.iaload, 1) := by decide +kernel
theorem dX8_about_90 : decode cX8_about 90 = .ok (.ireturn, 1) := by decide +kernel
theorem dX8_owes_0 : decode cX8_owes 0 = .ok (.aload_n 0, 1) := by decide +kernel
theorem dX8_owes_1 : decode cX8_owes 1 = .ok (.iload_n 1, 1) := by decide +kernel
theorem dX8_owes_2 : decode cX8_owes 2 = .ok (.iload_n 2, 1) := by decide +kernel
theorem dX8_owes_3 : decode cX8_owes 3 = .ok (.invokevirtual 115, 3) := by decide +kernel
theorem dX8_owes_6 : decode cX8_owes 6 = .ok (.ifCond .ne 6, 3) := by decide +kernel
theorem dX8_owes_9 : decode cX8_owes 9 = .ok (.bipush (-101), 2) := by decide +kernel
theorem dX8_owes_11 : decode cX8_owes 11 = .ok (.ireturn, 1) := by decide +kernel
theorem dX8_owes_12 : decode cX8_owes 12 = .ok (.aload_n 0, 1) := by decide +kernel
theorem dX8_owes_13 : decode cX8_owes 13 = .ok (.getfield 26, 3) := by decide +kernel
theorem dX8_owes_16 : decode cX8_owes 16 = .ok (.getfield 150, 3) := by decide +kernel
theorem dX8_owes_19 : decode cX8_owes 19 = .ok (.iload_n 1, 1) := by decide +kernel
theorem dX8_owes_20 : decode cX8_owes 20 = .ok (.iload_n 2, 1) := by decide +kernel
theorem dX8_owes_21 : decode cX8_owes 21 = .ok (.invokestatic 130, 3) := by decide +kernel
theorem dX8_owes_24 : decode cX8_owes 24 = .ok (.iaload, 1) := by decide +kernel
theorem dX8_owes_25 : decode cX8_owes 25 = .ok (.ireturn, 1) := by decide +kernel
theorem dX8_rest_0 : decode cX8_rest 0 = .ok (.aload_n 0, 1) := by decide +kernel
theorem dX8_rest_1 : decode cX8_rest 1 = .ok (.iload_n 1, 1) := by decide +kernel
theorem dX8_rest_2 : decode cX8_rest 2 = .ok (.invokevirtual 134, 3) := by decide +kernel
theorem dX8_rest_5 : decode cX8_rest 5 = .ok (.ifCond .ne 6, 3) := by decide +kernel
theorem dX8_rest_8 : decode cX8_rest 8 = .ok (.ldc 153, 2) := by decide +kernel
theorem dX8_rest_10 : decode cX8_rest 10 = .ok (.ireturn, 1) := by decide +kernel
theorem dX8_rest_11 : decode cX8_rest 11 = .ok (.aload_n 0, 1) := by decide +kernel
theorem dX8_rest_12 : decode cX8_rest 12 = .ok (.getfield 26, 3) := by decide +kernel
theorem dX8_rest_15 : decode cX8_rest 15 = .ok (.iload_n 1, 1) := by decide +kernel
theorem dX8_rest_16 : decode cX8_rest 16 = .ok (.invokevirtual 154, 3) := by decide +kernel
theorem dX8_rest_19 : decode cX8_rest 19 = .ok (.ireturn, 1) := by decide +kernel
theorem dX8_gift_0 : decode cX8_gift 0 = .ok (.iload_n 1, 1) := by decide +kernel
theorem dX8_gift_1 : decode cX8_gift 1 = .ok (.iconst 0, 1) := by decide +kernel
theorem dX8_gift_2 : decode cX8_gift 2 = .ok (.iconst 4, 1) := by decide +kernel
theorem dX8_gift_3 : decode cX8_gift 3 = .ok (.invokestatic 91, 3) := by decide +kernel
theorem dX8_gift_6 : decode cX8_gift 6 = .ok (.ifCond .ne 6, 3) := by decide +kernel
theorem dX8_gift_9 : decode cX8_gift 9 = .ok (.bipush (-102), 2) := by decide +kernel
theorem dX8_gift_11 : decode cX8_gift 11 = .ok (.ireturn, 1) := by decide +kernel
theorem dX8_gift_12 : decode cX8_gift 12 = .ok (.aload_n 0, 1) := by decide +kernel
theorem dX8_gift_13 : decode cX8_gift 13 = .ok (.iload_n 2, 1) := by decide +kernel
theorem dX8_gift_14 : decode cX8_gift 14 = .ok (.invokevirtual 134, 3) := by decide +kernel
theorem dX8_gift_17 : decode cX8_gift 17 = .ok (.ifCond .ne 6, 3) := by decide +kernel
theorem dX8_gift_20 : decode cX8_gift 20 = .ok (.bipush (-101), 2) := by decide +kernel
theorem dX8_gift_22 : decode cX8_gift 22 = .ok (.ireturn, 1) := by decide +kernel
theorem dX8_gift_23 : decode cX8_gift 23 = .ok (.aload_n 0, 1) := by decide +kernel
theorem dX8_gift_24 : decode cX8_gift 24 = .ok (.getfield 26, 3) := by decide +kernel
theorem dX8_gift_27 : decode cX8_gift 27 = .ok (.getfield 157, 3) := by decide +kernel
theorem dX8_gift_30 : decode cX8_gift 30 = .ok (.bipush 8, 2) := by decide +kernel
theorem dX8_gift_32 : decode cX8_gift 32 = .ok (.if_icmp .lt 6, 3) := by decide +kernel
theorem dX8_gift_35 : decode cX8_gift 35 = .ok (.bipush (-104), 2) := by decide +kernel
theorem dX8_gift_37 : decode cX8_gift 37 = .ok (.ireturn, 1) := by decide +kernel
theorem dX8_gift_38 : decode cX8_gift 38 = .ok (.aload_n 0, 1) := by decide +kernel
theorem dX8_gift_39 : decode cX8_gift 39 = .ok (.getfield 26, 3) := by decide +kernel
theorem dX8_gift_42 : decode cX8_gift 42 = .ok (.iload_n 1, 1) := by decide +kernel
theorem dX8_gift_43 : decode cX8_gift 43 = .ok (.iload_n 2, 1) := by decide +kernel
theorem dX8_gift_44 : decode cX8_gift 44 = .ok (.invokevirtual 160, 3) := by decide +kernel
theorem dX8_gift_47 : decode cX8_gift 47 = .ok (.ireturn, 1) := by decide +kernel
theorem dX8_told_0 : decode cX8_told 0 = .ok (.aload_n 0, 1) := by decide +kernel
theorem dX8_told_1 : decode cX8_told 1 = .ok (.iload_n 1, 1) := by decide +kernel
theorem dX8_told_2 : decode cX8_told 2 = .ok (.invokevirtual 163, 3) := by decide +kernel
theorem dX8_told_5 : decode cX8_told 5 = .ok (.ifCond .ne 6, 3) := by decide +kernel
theorem dX8_told_8 : decode cX8_told 8 = .ok (.bipush (-101), 2) := by decide +kernel
theorem dX8_told_10 : decode cX8_told 10 = .ok (.ireturn, 1) := by decide +kernel
theorem dX8_told_11 : decode cX8_told 11 = .ok (.iload_n 2, 1) := by decide +kernel
theorem dX8_told_12 : decode cX8_told 12 = .ok (.iconst 0, 1) := by decide +kernel
theorem dX8_told_13 : decode cX8_told 13 = .ok (.bipush 8, 2) := by decide +kernel
theorem dX8_told_15 : decode cX8_told 15 = .ok (.invokestatic 91, 3) := by decide +kernel
theorem dX8_told_18 : decode cX8_told 18 = .ok (.ifCond .ne 6, 3) := by decide +kernel
theorem dX8_told_21 : decode cX8_told 21 = .ok (.bipush (-102), 2) := by decide +kernel
theorem dX8_told_23 : decode cX8_told 23 = .ok (.ireturn, 1) := by decide +kernel
theorem dX8_told_24 : decode cX8_told 24 = .ok (.aload_n 0, 1) := by decide +kernel
theorem dX8_told_25 : decode cX8_told 25 = .ok (.getfield 26, 3) := by decide +kernel
theorem dX8_told_28 : decode cX8_told 28 = .ok (.getfield 166, 3) := by decide +kernel
theorem dX8_told_31 : decode cX8_told 31 = .ok (.iload_n 1, 1) := by decide +kernel
theorem dX8_told_32 : decode cX8_told 32 = .ok (.aaload, 1) := by decide +kernel
theorem dX8_told_33 : decode cX8_told 33 = .ok (.astore_n 3, 1) := by decide +kernel
theorem dX8_told_34 : decode cX8_told 34 = .ok (.iload_n 2, 1) := by decide +kernel
theorem dX8_told_35 : decode cX8_told 35 = .ok (.tableswitch 85 0 7 #[45, 50, 55, 60, 65, 70, 75, 80], 45) := by decide +kernel
theorem dX8_told_80 : decode cX8_told 80 = .ok (.aload_n 3, 1) := by decide +kernel
theorem dX8_told_81 : decode cX8_told 81 = .ok (.getfield 170, 3) := by decide +kernel
theorem dX8_told_84 : decode cX8_told 84 = .ok (.ireturn, 1) := by decide +kernel
theorem dX8_told_85 : decode cX8_told 85 = .ok (.aload_n 3, 1) := by decide +kernel
theorem dX8_told_86 : decode cX8_told 86 = .ok (.getfield 175, 3) := by decide +kernel
theorem dX8_told_89 : decode cX8_told 89 = .ok (.ireturn, 1) := by decide +kernel
theorem dX8_told_90 : decode cX8_told 90 = .ok (.aload_n 3, 1) := by decide +kernel
theorem dX8_told_91 : decode cX8_told 91 = .ok (.getfield 178, 3) := by decide +kernel
theorem dX8_told_94 : decode cX8_told 94 = .ok (.ireturn, 1) := by decide +kernel
theorem dX8_told_95 : decode cX8_told 95 = .ok (.aload_n 3, 1) := by decide +kernel
theorem dX8_told_96 : decode cX8_told 96 = .ok (.getfield 181, 3) := by decide +kernel
theorem dX8_told_99 : decode cX8_told 99 = .ok (.ireturn, 1) := by decide +kernel
theorem dX8_told_100 : decode cX8_told 100 = .ok (.aload_n 3, 1) := by decide +kernel
theorem dX8_told_101 : decode cX8_told 101 = .ok (.getfield 184, 3) := by decide +kernel
theorem dX8_told_104 : decode cX8_told 104 = .ok (.ireturn, 1) := by decide +kernel
theorem dX8_told_105 : decode cX8_told 105 = .ok (.aload_n 3, 1) := by decide +kernel
theorem dX8_told_106 : decode cX8_told 106 = .ok (.getfield 187, 3) := by decide +kernel
theorem dX8_told_109 : decode cX8_told 109 = .ok (.ireturn, 1) := by decide +kernel
theorem dX8_told_110 : decode cX8_told 110 = .ok (.aload_n 3, 1) := by decide +kernel
theorem dX8_told_111 : decode cX8_told 111 = .ok (.invokevirtual 190, 3) := by decide +kernel
theorem dX8_told_114 : decode cX8_told 114 = .ok (.ireturn, 1) := by decide +kernel
theorem dX8_told_115 : decode cX8_told 115 = .ok (.aload_n 3, 1) := by decide +kernel
theorem dX8_told_116 : decode cX8_told 116 = .ok (.getfield 193, 3) := by decide +kernel
theorem dX8_told_119 : decode cX8_told 119 = .ok (.ireturn, 1) := by decide +kernel
theorem dX8_told_120 : decode cX8_told 120 = .ok (.aload_n 3, 1) := by decide +kernel
theorem dX8_told_121 : decode cX8_told 121 = .ok (.getfield 196, 3) := by decide +kernel
theorem dX8_told_124 : decode cX8_told 124 = .ok (.ireturn, 1) := by decide +kernel
theorem dX8_as_0 : decode cX8_as 0 = .ok (.aload_n 0, 1) := by decide +kernel
theorem dX8_as_1 : decode cX8_as 1 = .ok (.iload_n 1, 1) := by decide +kernel
theorem dX8_as_2 : decode cX8_as 2 = .ok (.invokevirtual 163, 3) := by decide +kernel
theorem dX8_as_5 : decode cX8_as 5 = .ok (.ifCond .ne 6, 3) := by decide +kernel
theorem dX8_as_8 : decode cX8_as 8 = .ok (.bipush (-101), 2) := by decide +kernel
theorem dX8_as_10 : decode cX8_as 10 = .ok (.ireturn, 1) := by decide +kernel
theorem dX8_as_11 : decode cX8_as 11 = .ok (.iload_n 2, 1) := by decide +kernel
theorem dX8_as_12 : decode cX8_as 12 = .ok (.iconst 0, 1) := by decide +kernel
theorem dX8_as_13 : decode cX8_as 13 = .ok (.iconst 4, 1) := by decide +kernel
theorem dX8_as_14 : decode cX8_as 14 = .ok (.invokestatic 91, 3) := by decide +kernel
theorem dX8_as_17 : decode cX8_as 17 = .ok (.ifCond .ne 6, 3) := by decide +kernel
theorem dX8_as_20 : decode cX8_as 20 = .ok (.bipush (-102), 2) := by decide +kernel
theorem dX8_as_22 : decode cX8_as 22 = .ok (.ireturn, 1) := by decide +kernel
theorem dX8_as_23 : decode cX8_as 23 = .ok (.aload_n 0, 1) := by decide +kernel
theorem dX8_as_24 : decode cX8_as 24 = .ok (.getfield 26, 3) := by decide +kernel
theorem dX8_as_27 : decode cX8_as 27 = .ok (.getfield 166, 3) := by decide +kernel
theorem dX8_as_30 : decode cX8_as 30 = .ok (.iload_n 1, 1) := by decide +kernel
theorem dX8_as_31 : decode cX8_as 31 = .ok (.aaload, 1) := by decide +kernel
theorem dX8_as_32 : decode cX8_as 32 = .ok (.iload_n 2, 1) := by decide +kernel
theorem dX8_as_33 : decode cX8_as 33 = .ok (.invokevirtual 199, 3) := by decide +kernel
theorem dX8_as_36 : decode cX8_as 36 = .ok (.ifCond .eq 7, 3) := by decide +kernel
theorem dX8_as_39 : decode cX8_as 39 = .ok (.iload_n 1, 1) := by decide +kernel
theorem dX8_as_40 : decode cX8_as 40 = .ok (.goto 4, 3) := by decide +kernel
theorem dX8_as_43 : decode cX8_as 43 = .ok (.iconst (-1), 1) := by decide +kernel
theorem dX8_as_44 : decode cX8_as 44 = .ok (.ireturn, 1) := by decide +kernel
theorem dX8_may_0 : decode cX8_may 0 = .ok (.aload_n 0, 1) := by decide +kernel
theorem dX8_may_1 : decode cX8_may 1 = .ok (.iload_n 1, 1) := by decide +kernel
theorem dX8_may_2 : decode cX8_may 2 = .ok (.invokevirtual 163, 3) := by decide +kernel
theorem dX8_may_5 : decode cX8_may 5 = .ok (.ifCond .ne 6, 3) := by decide +kernel
theorem dX8_may_8 : decode cX8_may 8 = .ok (.bipush (-101), 2) := by decide +kernel
theorem dX8_may_10 : decode cX8_may 10 = .ok (.ireturn, 1) := by decide +kernel
theorem dX8_may_11 : decode cX8_may 11 = .ok (.aload_n 0, 1) := by decide +kernel
theorem dX8_may_12 : decode cX8_may 12 = .ok (.getfield 26, 3) := by decide +kernel
theorem dX8_may_15 : decode cX8_may 15 = .ok (.getfield 166, 3) := by decide +kernel
theorem dX8_may_18 : decode cX8_may 18 = .ok (.iload_n 1, 1) := by decide +kernel
theorem dX8_may_19 : decode cX8_may 19 = .ok (.aaload, 1) := by decide +kernel
theorem dX8_may_20 : decode cX8_may 20 = .ok (.invokevirtual 202, 3) := by decide +kernel
theorem dX8_may_23 : decode cX8_may 23 = .ok (.ifCond .ne 6, 3) := by decide +kernel
theorem dX8_may_26 : decode cX8_may 26 = .ok (.bipush (-103), 2) := by decide +kernel
theorem dX8_may_28 : decode cX8_may 28 = .ok (.ireturn, 1) := by decide +kernel
theorem dX8_may_29 : decode cX8_may 29 = .ok (.aload_n 0, 1) := by decide +kernel
theorem dX8_may_30 : decode cX8_may 30 = .ok (.iload_n 1, 1) := by decide +kernel
theorem dX8_may_31 : decode cX8_may 31 = .ok (.invokevirtual 205, 3) := by decide +kernel
theorem dX8_may_34 : decode cX8_may 34 = .ok (.ireturn, 1) := by decide +kernel
theorem dX8_give_0 : decode cX8_give 0 = .ok (.aload_n 0, 1) := by decide +kernel
theorem dX8_give_1 : decode cX8_give 1 = .ok (.iload_n 1, 1) := by decide +kernel
theorem dX8_give_2 : decode cX8_give 2 = .ok (.invokevirtual 163, 3) := by decide +kernel
theorem dX8_give_5 : decode cX8_give 5 = .ok (.ifCond .eq 11, 3) := by decide +kernel
theorem dX8_give_8 : decode cX8_give 8 = .ok (.aload_n 0, 1) := by decide +kernel
theorem dX8_give_9 : decode cX8_give 9 = .ok (.iload_n 2, 1) := by decide +kernel
theorem dX8_give_10 : decode cX8_give 10 = .ok (.invokevirtual 134, 3) := by decide +kernel
theorem dX8_give_13 : decode cX8_give 13 = .ok (.ifCond .ne 6, 3) := by decide +kernel
theorem dX8_give_16 : decode cX8_give 16 = .ok (.bipush (-101), 2) := by decide +kernel
theorem dX8_give_18 : decode cX8_give 18 = .ok (.ireturn, 1) := by decide +kernel
theorem dX8_give_19 : decode cX8_give 19 = .ok (.aload_n 0, 1) := by decide +kernel
theorem dX8_give_20 : decode cX8_give 20 = .ok (.getfield 26, 3) := by decide +kernel
theorem dX8_give_23 : decode cX8_give 23 = .ok (.getfield 166, 3) := by decide +kernel
theorem dX8_give_26 : decode cX8_give 26 = .ok (.iload_n 1, 1) := by decide +kernel
theorem dX8_give_27 : decode cX8_give 27 = .ok (.aaload, 1) := by decide +kernel
theorem dX8_give_28 : decode cX8_give 28 = .ok (.invokevirtual 202, 3) := by decide +kernel
theorem dX8_give_31 : decode cX8_give 31 = .ok (.ifCond .ne 6, 3) := by decide +kernel
theorem dX8_give_34 : decode cX8_give 34 = .ok (.bipush (-103), 2) := by decide +kernel
theorem dX8_give_36 : decode cX8_give 36 = .ok (.ireturn, 1) := by decide +kernel
theorem dX8_give_37 : decode cX8_give 37 = .ok (.aload_n 0, 1) := by decide +kernel
theorem dX8_give_38 : decode cX8_give 38 = .ok (.iload_n 1, 1) := by decide +kernel
theorem dX8_give_39 : decode cX8_give 39 = .ok (.invokevirtual 205, 3) := by decide +kernel
theorem dX8_give_42 : decode cX8_give 42 = .ok (.iload_n 2, 1) := by decide +kernel
theorem dX8_give_43 : decode cX8_give 43 = .ok (.invokestatic 208, 3) := by decide +kernel
theorem dX8_give_46 : decode cX8_give 46 = .ok (.iand, 1) := by decide +kernel
theorem dX8_give_47 : decode cX8_give 47 = .ok (.ifCond .ne 6, 3) := by decide +kernel
theorem dX8_give_50 : decode cX8_give 50 = .ok (.bipush (-103), 2) := by decide +kernel
theorem dX8_give_52 : decode cX8_give 52 = .ok (.ireturn, 1) := by decide +kernel
theorem dX8_give_53 : decode cX8_give 53 = .ok (.aload_n 0, 1) := by decide +kernel
theorem dX8_give_54 : decode cX8_give 54 = .ok (.getfield 26, 3) := by decide +kernel
theorem dX8_give_57 : decode cX8_give 57 = .ok (.aload_n 0, 1) := by decide +kernel
theorem dX8_give_58 : decode cX8_give 58 = .ok (.getfield 26, 3) := by decide +kernel
theorem dX8_give_61 : decode cX8_give 61 = .ok (.getfield 166, 3) := by decide +kernel
theorem dX8_give_64 : decode cX8_give 64 = .ok (.iload_n 1, 1) := by decide +kernel
theorem dX8_give_65 : decode cX8_give 65 = .ok (.aaload, 1) := by decide +kernel
theorem dX8_give_66 : decode cX8_give 66 = .ok (.iload_n 2, 1) := by decide +kernel
theorem dX8_give_67 : decode cX8_give 67 = .ok (.aload_n 0, 1) := by decide +kernel
theorem dX8_give_68 : decode cX8_give 68 = .ok (.getfield 19, 3) := by decide +kernel
theorem dX8_give_71 : decode cX8_give 71 = .ok (.getfield 105, 3) := by decide +kernel
theorem dX8_give_74 : decode cX8_give 74 = .ok (.invokevirtual 211, 3) := by decide +kernel
theorem dX8_give_77 : decode cX8_give 77 = .ok (.aload_n 0, 1) := by decide +kernel
theorem dX8_give_78 : decode cX8_give 78 = .ok (.getfield 26, 3) := by decide +kernel
theorem dX8_give_81 : decode cX8_give 81 = .ok (.getfield 166, 3) := by decide +kernel
theorem dX8_give_84 : decode cX8_give 84 = .ok (.iload_n 1, 1) := by decide +kernel
theorem dX8_give_85 : decode cX8_give 85 = .ok (.aaload, 1) := by decide +kernel
theorem dX8_give_86 : decode cX8_give 86 = .ok (.getfield 193, 3) := by decide +kernel
theorem dX8_give_89 : decode cX8_give 89 = .ok (.ireturn, 1) := by decide +kernel
theorem dX8_years_0 : decode cX8_years 0 = .ok (.iload_n 1, 1) := by decide +kernel
theorem dX8_years_1 : decode cX8_years 1 = .ok (.iconst 1, 1) := by decide +kernel
theorem dX8_years_2 : decode cX8_years 2 = .ok (.bipush 30, 2) := by decide +kernel
theorem dX8_years_4 : decode cX8_years 4 = .ok (.invokestatic 91, 3) := by decide +kernel
theorem dX8_years_7 : decode cX8_years 7 = .ok (.ifCond .ne 6, 3) := by decide +kernel
theorem dX8_years_10 : decode cX8_years 10 = .ok (.bipush (-102), 2) := by decide +kernel
theorem dX8_years_12 : decode cX8_years 12 = .ok (.ireturn, 1) := by decide +kernel
theorem dX8_years_13 : decode cX8_years 13 = .ok (.iconst 0, 1) := by decide +kernel
theorem dX8_years_14 : decode cX8_years 14 = .ok (.istore_n 2, 1) := by decide +kernel
theorem dX8_years_15 : decode cX8_years 15 = .ok (.iconst 0, 1) := by decide +kernel
theorem dX8_years_16 : decode cX8_years 16 = .ok (.istore_n 3, 1) := by decide +kernel
theorem dX8_years_17 : decode cX8_years 17 = .ok (.iload_n 3, 1) := by decide +kernel
theorem dX8_years_18 : decode cX8_years 18 = .ok (.iload_n 1, 1) := by decide +kernel
theorem dX8_years_19 : decode cX8_years 19 = .ok (.if_icmp .ge 24, 3) := by decide +kernel
theorem dX8_years_22 : decode cX8_years 22 = .ok (.iload_n 2, 1) := by decide +kernel
theorem dX8_years_23 : decode cX8_years 23 = .ok (.aload_n 0, 1) := by decide +kernel
theorem dX8_years_24 : decode cX8_years 24 = .ok (.getfield 26, 3) := by decide +kernel
theorem dX8_years_27 : decode cX8_years 27 = .ok (.aload_n 0, 1) := by decide +kernel
theorem dX8_years_28 : decode cX8_years 28 = .ok (.getfield 19, 3) := by decide +kernel
theorem dX8_years_31 : decode cX8_years 31 = .ok (.aconst_null, 1) := by decide +kernel
theorem dX8_years_32 : decode cX8_years 32 = .ok (.invokevirtual 215, 3) := by decide +kernel
theorem dX8_years_35 : decode cX8_years 35 = .ok (.iadd, 1) := by decide +kernel
theorem dX8_years_36 : decode cX8_years 36 = .ok (.istore_n 2, 1) := by decide +kernel
theorem dX8_years_37 : decode cX8_years 37 = .ok (.iinc 3 1, 3) := by decide +kernel
theorem dX8_years_40 : decode cX8_years 40 = .ok (.goto (-23), 3) := by decide +kernel
theorem dX8_years_43 : decode cX8_years 43 = .ok (.iload_n 2, 1) := by decide +kernel
theorem dX8_years_44 : decode cX8_years 44 = .ok (.ireturn, 1) := by decide +kernel
theorem dX8_drawn_0 : decode cX8_drawn 0 = .ok (.iload_n 1, 1) := by decide +kernel
theorem dX8_drawn_1 : decode cX8_drawn 1 = .ok (.iconst 1, 1) := by decide +kernel
theorem dX8_drawn_2 : decode cX8_drawn 2 = .ok (.bipush 30, 2) := by decide +kernel
theorem dX8_drawn_4 : decode cX8_drawn 4 = .ok (.invokestatic 91, 3) := by decide +kernel
theorem dX8_drawn_7 : decode cX8_drawn 7 = .ok (.ifCond .ne 6, 3) := by decide +kernel
theorem dX8_drawn_10 : decode cX8_drawn 10 = .ok (.bipush (-102), 2) := by decide +kernel
theorem dX8_drawn_12 : decode cX8_drawn 12 = .ok (.ireturn, 1) := by decide +kernel
theorem dX8_drawn_13 : decode cX8_drawn 13 = .ok (.iload_n 2, 1) := by decide +kernel
theorem dX8_drawn_14 : decode cX8_drawn 14 = .ok (.ifCond .lt 12, 3) := by decide +kernel
theorem dX8_drawn_17 : decode cX8_drawn 17 = .ok (.iload_n 3, 1) := by decide +kernel
theorem dX8_drawn_18 : decode cX8_drawn 18 = .ok (.iconst 0, 1) := by decide +kernel
theorem dX8_drawn_19 : decode cX8_drawn 19 = .ok (.iconst 3, 1) := by decide +kernel
theorem dX8_drawn_20 : decode cX8_drawn 20 = .ok (.invokestatic 91, 3) := by decide +kernel
theorem dX8_drawn_23 : decode cX8_drawn 23 = .ok (.ifCond .ne 6, 3) := by decide +kernel
theorem dX8_drawn_26 : decode cX8_drawn 26 = .ok (.bipush (-102), 2) := by decide +kernel
theorem dX8_drawn_28 : decode cX8_drawn 28 = .ok (.ireturn, 1) := by decide +kernel
theorem dX8_drawn_29 : decode cX8_drawn 29 = .ok (.aload_n 0, 1) := by decide +kernel
theorem dX8_drawn_30 : decode cX8_drawn 30 = .ok (.getfield 33, 3) := by decide +kernel
theorem dX8_drawn_33 : decode cX8_drawn 33 = .ok (.aload_n 0, 1) := by decide +kernel
theorem dX8_drawn_34 : decode cX8_drawn 34 = .ok (.getfield 26, 3) := by decide +kernel
theorem dX8_drawn_37 : decode cX8_drawn 37 = .ok (.invokevirtual 265, 3) := by decide +kernel
theorem dX8_drawn_40 : decode cX8_drawn 40 = .ok (.aload_n 0, 1) := by decide +kernel
theorem dX8_drawn_41 : decode cX8_drawn 41 = .ok (.getfield 39, 3) := by decide +kernel
theorem dX8_drawn_44 : decode cX8_drawn 44 = .ok (.iload_n 2, 1) := by decide +kernel
theorem dX8_drawn_45 : decode cX8_drawn 45 = .ok (.i2l, 1) := by decide +kernel
theorem dX8_drawn_46 : decode cX8_drawn 46 = .ok (.putfield 268, 3) := by decide +kernel
theorem dX8_drawn_49 : decode cX8_drawn 49 = .ok (.iconst 0, 1) := by decide +kernel
theorem dX8_drawn_50 : decode cX8_drawn 50 = .ok (.istore 4, 2) := by decide +kernel
theorem dX8_drawn_52 : decode cX8_drawn 52 = .ok (.iconst 0, 1) := by decide +kernel
theorem dX8_drawn_53 : decode cX8_drawn 53 = .ok (.istore 5, 2) := by decide +kernel
theorem dX8_drawn_55 : decode cX8_drawn 55 = .ok (.iload 5, 2) := by decide +kernel
theorem dX8_drawn_57 : decode cX8_drawn 57 = .ok (.iload_n 1, 1) := by decide +kernel
theorem dX8_drawn_58 : decode cX8_drawn 58 = .ok (.if_icmp .ge 29, 3) := by decide +kernel
theorem dX8_drawn_61 : decode cX8_drawn 61 = .ok (.iload 4, 2) := by decide +kernel
theorem dX8_drawn_63 : decode cX8_drawn 63 = .ok (.aload_n 0, 1) := by decide +kernel
theorem dX8_drawn_64 : decode cX8_drawn 64 = .ok (.getfield 33, 3) := by decide +kernel
theorem dX8_drawn_67 : decode cX8_drawn 67 = .ok (.aload_n 0, 1) := by decide +kernel
theorem dX8_drawn_68 : decode cX8_drawn 68 = .ok (.getfield 19, 3) := by decide +kernel
theorem dX8_drawn_71 : decode cX8_drawn 71 = .ok (.aload_n 0, 1) := by decide +kernel
theorem dX8_drawn_72 : decode cX8_drawn 72 = .ok (.getfield 39, 3) := by decide +kernel
theorem dX8_drawn_75 : decode cX8_drawn 75 = .ok (.invokevirtual 215, 3) := by decide +kernel
theorem dX8_drawn_78 : decode cX8_drawn 78 = .ok (.iadd, 1) := by decide +kernel
theorem dX8_drawn_79 : decode cX8_drawn 79 = .ok (.istore 4, 2) := by decide +kernel
theorem dX8_drawn_81 : decode cX8_drawn 81 = .ok (.iinc 5 1, 3) := by decide +kernel
theorem dX8_drawn_84 : decode cX8_drawn 84 = .ok (.goto (-29), 3) := by decide +kernel
theorem dX8_drawn_87 : decode cX8_drawn 87 = .ok (.iload_n 3, 1) := by decide +kernel
theorem dX8_drawn_88 : decode cX8_drawn 88 = .ok (.tableswitch 55 0 2 #[28, 31, 39], 28) := by decide +kernel
theorem dX8_drawn_116 : decode cX8_drawn 116 = .ok (.iload 4, 2) := by decide +kernel
theorem dX8_drawn_118 : decode cX8_drawn 118 = .ok (.ireturn, 1) := by decide +kernel
theorem dX8_drawn_119 : decode cX8_drawn 119 = .ok (.aload_n 0, 1) := by decide +kernel
theorem dX8_drawn_120 : decode cX8_drawn 120 = .ok (.getfield 33, 3) := by decide +kernel
theorem dX8_drawn_123 : decode cX8_drawn 123 = .ok (.invokevirtual 272, 3) := by decide +kernel
theorem dX8_drawn_126 : decode cX8_drawn 126 = .ok (.ireturn, 1) := by decide +kernel
theorem dX8_drawn_127 : decode cX8_drawn 127 = .ok (.aload_n 0, 1) := by decide +kernel
theorem dX8_drawn_128 : decode cX8_drawn 128 = .ok (.getfield 33, 3) := by decide +kernel
theorem dX8_drawn_131 : decode cX8_drawn 131 = .ok (.invokevirtual 275, 3) := by decide +kernel
theorem dX8_drawn_134 : decode cX8_drawn 134 = .ok (.aload_n 0, 1) := by decide +kernel
theorem dX8_drawn_135 : decode cX8_drawn 135 = .ok (.getfield 26, 3) := by decide +kernel
theorem dX8_drawn_138 : decode cX8_drawn 138 = .ok (.invokevirtual 275, 3) := by decide +kernel
theorem dX8_drawn_141 : decode cX8_drawn 141 = .ok (.isub, 1) := by decide +kernel
theorem dX8_drawn_142 : decode cX8_drawn 142 = .ok (.ireturn, 1) := by decide +kernel
theorem dX8_drawn_143 : decode cX8_drawn 143 = .ok (.aload_n 0, 1) := by decide +kernel
theorem dX8_drawn_144 : decode cX8_drawn 144 = .ok (.getfield 39, 3) := by decide +kernel
theorem dX8_drawn_147 : decode cX8_drawn 147 = .ok (.getfield 268, 3) := by decide +kernel
theorem dX8_drawn_150 : decode cX8_drawn 150 = .ok (.l2i, 1) := by decide +kernel
theorem dX8_drawn_151 : decode cX8_drawn 151 = .ok (.ireturn, 1) := by decide +kernel
theorem dX8_count_0 : decode cX8_count 0 = .ok (.iload_n 1, 1) := by decide +kernel
theorem dX8_count_1 : decode cX8_count 1 = .ok (.iconst 0, 1) := by decide +kernel
theorem dX8_count_2 : decode cX8_count 2 = .ok (.bipush 6, 2) := by decide +kernel
theorem dX8_count_4 : decode cX8_count 4 = .ok (.invokestatic 91, 3) := by decide +kernel
theorem dX8_count_7 : decode cX8_count 7 = .ok (.ifCond .ne 6, 3) := by decide +kernel
theorem dX8_count_10 : decode cX8_count 10 = .ok (.bipush (-102), 2) := by decide +kernel
theorem dX8_count_12 : decode cX8_count 12 = .ok (.ireturn, 1) := by decide +kernel
theorem dX8_count_13 : decode cX8_count 13 = .ok (.iload_n 1, 1) := by decide +kernel
theorem dX8_count_14 : decode cX8_count 14 = .ok (.tableswitch 86 0 5 #[38, 46, 54, 62, 70, 78], 38) := by decide +kernel
theorem dX8_count_52 : decode cX8_count 52 = .ok (.aload_n 0, 1) := by decide +kernel
theorem dX8_count_53 : decode cX8_count 53 = .ok (.getfield 26, 3) := by decide +kernel
theorem dX8_count_56 : decode cX8_count 56 = .ok (.getfield 108, 3) := by decide +kernel
theorem dX8_count_59 : decode cX8_count 59 = .ok (.ireturn, 1) := by decide +kernel
theorem dX8_count_60 : decode cX8_count 60 = .ok (.aload_n 0, 1) := by decide +kernel
theorem dX8_count_61 : decode cX8_count 61 = .ok (.getfield 26, 3) := by decide +kernel
theorem dX8_count_64 : decode cX8_count 64 = .ok (.getfield 157, 3) := by decide +kernel
theorem dX8_count_67 : decode cX8_count 67 = .ok (.ireturn, 1) := by decide +kernel
theorem dX8_count_68 : decode cX8_count 68 = .ok (.aload_n 0, 1) := by decide +kernel
theorem dX8_count_69 : decode cX8_count 69 = .ok (.getfield 26, 3) := by decide +kernel
theorem dX8_count_72 : decode cX8_count 72 = .ok (.invokevirtual 272, 3) := by decide +kernel
theorem dX8_count_75 : decode cX8_count 75 = .ok (.ireturn, 1) := by decide +kernel
theorem dX8_count_76 : decode cX8_count 76 = .ok (.aload_n 0, 1) := by decide +kernel
theorem dX8_count_77 : decode cX8_count 77 = .ok (.getfield 26, 3) := by decide +kernel
theorem dX8_count_80 : decode cX8_count 80 = .ok (.getfield 299, 3) := by decide +kernel
theorem dX8_count_83 : decode cX8_count 83 = .ok (.ireturn, 1) := by decide +kernel
theorem dX8_count_84 : decode cX8_count 84 = .ok (.aload_n 0, 1) := by decide +kernel
theorem dX8_count_85 : decode cX8_count 85 = .ok (.getfield 26, 3) := by decide +kernel
theorem dX8_count_88 : decode cX8_count 88 = .ok (.invokevirtual 275, 3) := by decide +kernel
theorem dX8_count_91 : decode cX8_count 91 = .ok (.ireturn, 1) := by decide +kernel
theorem dX8_count_92 : decode cX8_count 92 = .ok (.aload_n 0, 1) := by decide +kernel
theorem dX8_count_93 : decode cX8_count 93 = .ok (.getfield 12, 3) := by decide +kernel
theorem dX8_count_96 : decode cX8_count 96 = .ok (.getfield 68, 3) := by decide +kernel
theorem dX8_count_99 : decode cX8_count 99 = .ok (.ireturn, 1) := by decide +kernel
theorem dX8_count_100 : decode cX8_count 100 = .ok (.aload_n 0, 1) := by decide +kernel
theorem dX8_count_101 : decode cX8_count 101 = .ok (.getfield 88, 3) := by decide +kernel
theorem dX8_count_104 : decode cX8_count 104 = .ok (.ireturn, 1) := by decide +kernel
theorem dX8_isPerson_0 : decode cX8_isPerson 0 = .ok (.iload_n 1, 1) := by decide +kernel
theorem dX8_isPerson_1 : decode cX8_isPerson 1 = .ok (.ifCond .lt 18, 3) := by decide +kernel
theorem dX8_isPerson_4 : decode cX8_isPerson 4 = .ok (.iload_n 1, 1) := by decide +kernel
theorem dX8_isPerson_5 : decode cX8_isPerson 5 = .ok (.aload_n 0, 1) := by decide +kernel
theorem dX8_isPerson_6 : decode cX8_isPerson 6 = .ok (.getfield 26, 3) := by decide +kernel
theorem dX8_isPerson_9 : decode cX8_isPerson 9 = .ok (.getfield 108, 3) := by decide +kernel
theorem dX8_isPerson_12 : decode cX8_isPerson 12 = .ok (.if_icmp .ge 7, 3) := by decide +kernel
theorem dX8_isPerson_15 : decode cX8_isPerson 15 = .ok (.iconst 1, 1) := by decide +kernel
theorem dX8_isPerson_16 : decode cX8_isPerson 16 = .ok (.goto 4, 3) := by decide +kernel
theorem dX8_isPerson_19 : decode cX8_isPerson 19 = .ok (.iconst 0, 1) := by decide +kernel
theorem dX8_isPerson_20 : decode cX8_isPerson 20 = .ok (.ireturn, 1) := by decide +kernel
theorem dX8_areTwo_0 : decode cX8_areTwo 0 = .ok (.aload_n 0, 1) := by decide +kernel
theorem dX8_areTwo_1 : decode cX8_areTwo 1 = .ok (.iload_n 1, 1) := by decide +kernel
theorem dX8_areTwo_2 : decode cX8_areTwo 2 = .ok (.invokevirtual 134, 3) := by decide +kernel
theorem dX8_areTwo_5 : decode cX8_areTwo 5 = .ok (.ifCond .eq 20, 3) := by decide +kernel
theorem dX8_areTwo_8 : decode cX8_areTwo 8 = .ok (.aload_n 0, 1) := by decide +kernel
theorem dX8_areTwo_9 : decode cX8_areTwo 9 = .ok (.iload_n 2, 1) := by decide +kernel
theorem dX8_areTwo_10 : decode cX8_areTwo 10 = .ok (.invokevirtual 134, 3) := by decide +kernel
theorem dX8_areTwo_13 : decode cX8_areTwo 13 = .ok (.ifCond .eq 12, 3) := by decide +kernel
theorem dX8_areTwo_16 : decode cX8_areTwo 16 = .ok (.iload_n 1, 1) := by decide +kernel
theorem dX8_areTwo_17 : decode cX8_areTwo 17 = .ok (.iload_n 2, 1) := by decide +kernel
theorem dX8_areTwo_18 : decode cX8_areTwo 18 = .ok (.if_icmp .eq 7, 3) := by decide +kernel
theorem dX8_areTwo_21 : decode cX8_areTwo 21 = .ok (.iconst 1, 1) := by decide +kernel
theorem dX8_areTwo_22 : decode cX8_areTwo 22 = .ok (.goto 4, 3) := by decide +kernel
theorem dX8_areTwo_25 : decode cX8_areTwo 25 = .ok (.iconst 0, 1) := by decide +kernel
theorem dX8_areTwo_26 : decode cX8_areTwo 26 = .ok (.ireturn, 1) := by decide +kernel
theorem dX8_isGift_0 : decode cX8_isGift 0 = .ok (.iload_n 1, 1) := by decide +kernel
theorem dX8_isGift_1 : decode cX8_isGift 1 = .ok (.ifCond .lt 18, 3) := by decide +kernel
theorem dX8_isGift_4 : decode cX8_isGift 4 = .ok (.iload_n 1, 1) := by decide +kernel
theorem dX8_isGift_5 : decode cX8_isGift 5 = .ok (.aload_n 0, 1) := by decide +kernel
theorem dX8_isGift_6 : decode cX8_isGift 6 = .ok (.getfield 26, 3) := by decide +kernel
theorem dX8_isGift_9 : decode cX8_isGift 9 = .ok (.getfield 157, 3) := by decide +kernel
theorem dX8_isGift_12 : decode cX8_isGift 12 = .ok (.if_icmp .ge 7, 3) := by decide +kernel
theorem dX8_isGift_15 : decode cX8_isGift 15 = .ok (.iconst 1, 1) := by decide +kernel
theorem dX8_isGift_16 : decode cX8_isGift 16 = .ok (.goto 4, 3) := by decide +kernel
theorem dX8_isGift_19 : decode cX8_isGift 19 = .ok (.iconst 0, 1) := by decide +kernel
theorem dX8_isGift_20 : decode cX8_isGift 20 = .ok (.ireturn, 1) := by decide +kernel
theorem dX8_whoMayHave_0 : decode cX8_whoMayHave 0 = .ok (.aload_n 0, 1) := by decide +kernel
theorem dX8_whoMayHave_1 : decode cX8_whoMayHave 1 = .ok (.getfield 26, 3) := by decide +kernel
theorem dX8_whoMayHave_4 : decode cX8_whoMayHave 4 = .ok (.getfield 166, 3) := by decide +kernel
theorem dX8_whoMayHave_7 : decode cX8_whoMayHave 7 = .ok (.iload_n 1, 1) := by decide +kernel
theorem dX8_whoMayHave_8 : decode cX8_whoMayHave 8 = .ok (.aaload, 1) := by decide +kernel
theorem dX8_whoMayHave_9 : decode cX8_whoMayHave 9 = .ok (.astore_n 2, 1) := by decide +kernel
theorem dX8_whoMayHave_10 : decode cX8_whoMayHave 10 = .ok (.aload_n 0, 1) := by decide +kernel
theorem dX8_whoMayHave_11 : decode cX8_whoMayHave 11 = .ok (.getfield 26, 3) := by decide +kernel
theorem dX8_whoMayHave_14 : decode cX8_whoMayHave 14 = .ok (.aload_n 2, 1) := by decide +kernel
theorem dX8_whoMayHave_15 : decode cX8_whoMayHave 15 = .ok (.getfield 181, 3) := by decide +kernel
theorem dX8_whoMayHave_18 : decode cX8_whoMayHave 18 = .ok (.aload_n 2, 1) := by decide +kernel
theorem dX8_whoMayHave_19 : decode cX8_whoMayHave 19 = .ok (.getfield 178, 3) := by decide +kernel
theorem dX8_whoMayHave_22 : decode cX8_whoMayHave 22 = .ok (.aload_n 0, 1) := by decide +kernel
theorem dX8_whoMayHave_23 : decode cX8_whoMayHave 23 = .ok (.getfield 19, 3) := by decide +kernel
theorem dX8_whoMayHave_26 : decode cX8_whoMayHave 26 = .ok (.getfield 98, 3) := by decide +kernel
theorem dX8_whoMayHave_29 : decode cX8_whoMayHave 29 = .ok (.invokevirtual 347, 3) := by decide +kernel
theorem dX8_whoMayHave_32 : decode cX8_whoMayHave 32 = .ok (.ireturn, 1) := by decide +kernel
theorem dX8_within_0 : decode cX8_within 0 = .ok (.iload_n 0, 1) := by decide +kernel
theorem dX8_within_1 : decode cX8_within 1 = .ok (.iload_n 1, 1) := by decide +kernel
theorem dX8_within_2 : decode cX8_within 2 = .ok (.if_icmp .lt 12, 3) := by decide +kernel
theorem dX8_within_5 : decode cX8_within 5 = .ok (.iload_n 0, 1) := by decide +kernel
theorem dX8_within_6 : decode cX8_within 6 = .ok (.iload_n 2, 1) := by decide +kernel
theorem dX8_within_7 : decode cX8_within 7 = .ok (.if_icmp .gt 7, 3) := by decide +kernel
theorem dX8_within_10 : decode cX8_within 10 = .ok (.iconst 1, 1) := by decide +kernel
theorem dX8_within_11 : decode cX8_within 11 = .ok (.goto 4, 3) := by decide +kernel
theorem dX8_within_14 : decode cX8_within 14 = .ok (.iconst 0, 1) := by decide +kernel
theorem dX8_within_15 : decode cX8_within 15 = .ok (.ireturn, 1) := by decide +kernel
theorem dX8_pair_0 : decode cX8_pair 0 = .ok (.iload_n 0, 1) := by decide +kernel
theorem dX8_pair_1 : decode cX8_pair 1 = .ok (.bipush 8, 2) := by decide +kernel
theorem dX8_pair_3 : decode cX8_pair 3 = .ok (.imul, 1) := by decide +kernel
theorem dX8_pair_4 : decode cX8_pair 4 = .ok (.iload_n 1, 1) := by decide +kernel
theorem dX8_pair_5 : decode cX8_pair 5 = .ok (.iadd, 1) := by decide +kernel
theorem dX8_pair_6 : decode cX8_pair 6 = .ok (.ireturn, 1) := by decide +kernel
theorem dX8_bit_0 : decode cX8_bit 0 = .ok (.iload_n 0, 1) := by decide +kernel
theorem dX8_bit_1 : decode cX8_bit 1 = .ok (.iconst (-1), 1) := by decide +kernel
theorem dX8_bit_2 : decode cX8_bit 2 = .ok (.if_icmp .ne 7, 3) := by decide +kernel
theorem dX8_bit_5 : decode cX8_bit 5 = .ok (.iconst 0, 1) := by decide +kernel
theorem dX8_bit_6 : decode cX8_bit 6 = .ok (.goto 6, 3) := by decide +kernel
theorem dX8_bit_9 : decode cX8_bit 9 = .ok (.iconst 1, 1) := by decide +kernel
theorem dX8_bit_10 : decode cX8_bit 10 = .ok (.iload_n 0, 1) := by decide +kernel
theorem dX8_bit_11 : decode cX8_bit 11 = .ok (.ishl, 1) := by decide +kernel
theorem dX8_bit_12 : decode cX8_bit 12 = .ok (.ireturn, 1) := by decide +kernel
theorem dJ6_bitCount_0f7a4_0 : decode cJ6_bitCount_0f7a4 0 = .ok (.iload_n 0, 1) := by decide +kernel
theorem dJ6_bitCount_0f7a4_1 : decode cJ6_bitCount_0f7a4 1 = .ok (.iload_n 0, 1) := by decide +kernel
theorem dJ6_bitCount_0f7a4_2 : decode cJ6_bitCount_0f7a4 2 = .ok (.iconst 1, 1) := by decide +kernel
theorem dJ6_bitCount_0f7a4_3 : decode cJ6_bitCount_0f7a4 3 = .ok (.iushr, 1) := by decide +kernel
theorem dJ6_bitCount_0f7a4_4 : decode cJ6_bitCount_0f7a4 4 = .ok (.ldc_w 265, 3) := by decide +kernel
theorem dJ6_bitCount_0f7a4_7 : decode cJ6_bitCount_0f7a4 7 = .ok (.iand, 1) := by decide +kernel
theorem dJ6_bitCount_0f7a4_8 : decode cJ6_bitCount_0f7a4 8 = .ok (.isub, 1) := by decide +kernel
theorem dJ6_bitCount_0f7a4_9 : decode cJ6_bitCount_0f7a4 9 = .ok (.istore_n 0, 1) := by decide +kernel
theorem dJ6_bitCount_0f7a4_10 : decode cJ6_bitCount_0f7a4 10 = .ok (.iload_n 0, 1) := by decide +kernel
theorem dJ6_bitCount_0f7a4_11 : decode cJ6_bitCount_0f7a4 11 = .ok (.ldc_w 266, 3) := by decide +kernel
theorem dJ6_bitCount_0f7a4_14 : decode cJ6_bitCount_0f7a4 14 = .ok (.iand, 1) := by decide +kernel
theorem dJ6_bitCount_0f7a4_15 : decode cJ6_bitCount_0f7a4 15 = .ok (.iload_n 0, 1) := by decide +kernel
theorem dJ6_bitCount_0f7a4_16 : decode cJ6_bitCount_0f7a4 16 = .ok (.iconst 2, 1) := by decide +kernel
theorem dJ6_bitCount_0f7a4_17 : decode cJ6_bitCount_0f7a4 17 = .ok (.iushr, 1) := by decide +kernel
theorem dJ6_bitCount_0f7a4_18 : decode cJ6_bitCount_0f7a4 18 = .ok (.ldc_w 266, 3) := by decide +kernel
theorem dJ6_bitCount_0f7a4_21 : decode cJ6_bitCount_0f7a4 21 = .ok (.iand, 1) := by decide +kernel
theorem dJ6_bitCount_0f7a4_22 : decode cJ6_bitCount_0f7a4 22 = .ok (.iadd, 1) := by decide +kernel
theorem dJ6_bitCount_0f7a4_23 : decode cJ6_bitCount_0f7a4 23 = .ok (.istore_n 0, 1) := by decide +kernel
theorem dJ6_bitCount_0f7a4_24 : decode cJ6_bitCount_0f7a4 24 = .ok (.iload_n 0, 1) := by decide +kernel
theorem dJ6_bitCount_0f7a4_25 : decode cJ6_bitCount_0f7a4 25 = .ok (.iload_n 0, 1) := by decide +kernel
theorem dJ6_bitCount_0f7a4_26 : decode cJ6_bitCount_0f7a4 26 = .ok (.iconst 4, 1) := by decide +kernel
theorem dJ6_bitCount_0f7a4_27 : decode cJ6_bitCount_0f7a4 27 = .ok (.iushr, 1) := by decide +kernel
theorem dJ6_bitCount_0f7a4_28 : decode cJ6_bitCount_0f7a4 28 = .ok (.iadd, 1) := by decide +kernel
theorem dJ6_bitCount_0f7a4_29 : decode cJ6_bitCount_0f7a4 29 = .ok (.ldc_w 267, 3) := by decide +kernel
theorem dJ6_bitCount_0f7a4_32 : decode cJ6_bitCount_0f7a4 32 = .ok (.iand, 1) := by decide +kernel
theorem dJ6_bitCount_0f7a4_33 : decode cJ6_bitCount_0f7a4 33 = .ok (.istore_n 0, 1) := by decide +kernel
theorem dJ6_bitCount_0f7a4_34 : decode cJ6_bitCount_0f7a4 34 = .ok (.iload_n 0, 1) := by decide +kernel
theorem dJ6_bitCount_0f7a4_35 : decode cJ6_bitCount_0f7a4 35 = .ok (.iload_n 0, 1) := by decide +kernel
theorem dJ6_bitCount_0f7a4_36 : decode cJ6_bitCount_0f7a4 36 = .ok (.bipush 8, 2) := by decide +kernel
theorem dJ6_bitCount_0f7a4_38 : decode cJ6_bitCount_0f7a4 38 = .ok (.iushr, 1) := by decide +kernel
theorem dJ6_bitCount_0f7a4_39 : decode cJ6_bitCount_0f7a4 39 = .ok (.iadd, 1) := by decide +kernel
theorem dJ6_bitCount_0f7a4_40 : decode cJ6_bitCount_0f7a4 40 = .ok (.istore_n 0, 1) := by decide +kernel
theorem dJ6_bitCount_0f7a4_41 : decode cJ6_bitCount_0f7a4 41 = .ok (.iload_n 0, 1) := by decide +kernel
theorem dJ6_bitCount_0f7a4_42 : decode cJ6_bitCount_0f7a4 42 = .ok (.iload_n 0, 1) := by decide +kernel
theorem dJ6_bitCount_0f7a4_43 : decode cJ6_bitCount_0f7a4 43 = .ok (.bipush 16, 2) := by decide +kernel
theorem dJ6_bitCount_0f7a4_45 : decode cJ6_bitCount_0f7a4 45 = .ok (.iushr, 1) := by decide +kernel
theorem dJ6_bitCount_0f7a4_46 : decode cJ6_bitCount_0f7a4 46 = .ok (.iadd, 1) := by decide +kernel
theorem dJ6_bitCount_0f7a4_47 : decode cJ6_bitCount_0f7a4 47 = .ok (.istore_n 0, 1) := by decide +kernel
theorem dJ6_bitCount_0f7a4_48 : decode cJ6_bitCount_0f7a4 48 = .ok (.iload_n 0, 1) := by decide +kernel
theorem dJ6_bitCount_0f7a4_49 : decode cJ6_bitCount_0f7a4 49 = .ok (.bipush 63, 2) := by decide +kernel
theorem dJ6_bitCount_0f7a4_51 : decode cJ6_bitCount_0f7a4 51 = .ok (.iand, 1) := by decide +kernel
theorem dJ6_bitCount_0f7a4_52 : decode cJ6_bitCount_0f7a4 52 = .ok (.ireturn, 1) := by decide +kernel
theorem dJ9_max_7cf53_0 : decode cJ9_max_7cf53 0 = .ok (.iload_n 0, 1) := by decide +kernel
theorem dJ9_max_7cf53_1 : decode cJ9_max_7cf53 1 = .ok (.iload_n 1, 1) := by decide +kernel
theorem dJ9_max_7cf53_2 : decode cJ9_max_7cf53 2 = .ok (.if_icmp .lt 7, 3) := by decide +kernel
theorem dJ9_max_7cf53_5 : decode cJ9_max_7cf53 5 = .ok (.iload_n 0, 1) := by decide +kernel
theorem dJ9_max_7cf53_6 : decode cJ9_max_7cf53 6 = .ok (.goto 4, 3) := by decide +kernel
theorem dJ9_max_7cf53_9 : decode cJ9_max_7cf53 9 = .ok (.iload_n 1, 1) := by decide +kernel
theorem dJ9_max_7cf53_10 : decode cJ9_max_7cf53 10 = .ok (.ireturn, 1) := by decide +kernel
theorem dJ9_min_7cf53_0 : decode cJ9_min_7cf53 0 = .ok (.iload_n 0, 1) := by decide +kernel
theorem dJ9_min_7cf53_1 : decode cJ9_min_7cf53 1 = .ok (.iload_n 1, 1) := by decide +kernel
theorem dJ9_min_7cf53_2 : decode cJ9_min_7cf53 2 = .ok (.if_icmp .gt 7, 3) := by decide +kernel
theorem dJ9_min_7cf53_5 : decode cJ9_min_7cf53 5 = .ok (.iload_n 0, 1) := by decide +kernel
theorem dJ9_min_7cf53_6 : decode cJ9_min_7cf53 6 = .ok (.goto 4, 3) := by decide +kernel
theorem dJ9_min_7cf53_9 : decode cJ9_min_7cf53 9 = .ok (.iload_n 1, 1) := by decide +kernel
theorem dJ9_min_7cf53_10 : decode cJ9_min_7cf53 10 = .ok (.ireturn, 1) := by decide +kernel
