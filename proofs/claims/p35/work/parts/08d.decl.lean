theorem dL_cell_0 : decode cL_cell 0 = .ok (.iload_n 1, 1) := by decide +kernel
theorem dL_cell_1 : decode cL_cell 1 = .ok (.aload_n 0, 1) := by decide +kernel
theorem dL_cell_2 : decode cL_cell 2 = .ok (.arraylength, 1) := by decide +kernel
theorem dL_cell_3 : decode cL_cell 3 = .ok (.if_icmp .ge 9, 3) := by decide +kernel
theorem dL_cell_6 : decode cL_cell 6 = .ok (.aload_n 0, 1) := by decide +kernel
theorem dL_cell_7 : decode cL_cell 7 = .ok (.iload_n 1, 1) := by decide +kernel
theorem dL_cell_8 : decode cL_cell 8 = .ok (.iaload, 1) := by decide +kernel
theorem dL_cell_9 : decode cL_cell 9 = .ok (.goto 9, 3) := by decide +kernel
theorem dL_cell_12 : decode cL_cell 12 = .ok (.ldc 7, 2) := by decide +kernel
theorem dL_cell_14 : decode cL_cell 14 = .ok (.iload_n 1, 1) := by decide +kernel
theorem dL_cell_15 : decode cL_cell 15 = .ok (.iconst 1, 1) := by decide +kernel
theorem dL_cell_16 : decode cL_cell 16 = .ok (.iadd, 1) := by decide +kernel
theorem dL_cell_17 : decode cL_cell 17 = .ok (.imul, 1) := by decide +kernel
theorem dL_cell_18 : decode cL_cell 18 = .ok (.ireturn, 1) := by decide +kernel
theorem dL_at_0 : decode cL_at 0 = .ok (.iload_n 0, 1) := by decide +kernel
theorem dL_at_1 : decode cL_at 1 = .ok (.iconst 1, 1) := by decide +kernel
theorem dL_at_2 : decode cL_at 2 = .ok (.iushr, 1) := by decide +kernel
theorem dL_at_3 : decode cL_at 3 = .ok (.iload_n 1, 1) := by decide +kernel
theorem dL_at_4 : decode cL_at 4 = .ok (.irem, 1) := by decide +kernel
theorem dL_at_5 : decode cL_at 5 = .ok (.ireturn, 1) := by decide +kernel
theorem dL_lawText_0 : decode cL_lawText 0 = .ok (.iconst 0, 1) := by decide +kernel
theorem dL_lawText_1 : decode cL_lawText 1 = .ok (.istore_n 3, 1) := by decide +kernel
theorem dL_lawText_2 : decode cL_lawText 2 = .ok (.aload_n 1, 1) := by decide +kernel
theorem dL_lawText_3 : decode cL_lawText 3 = .ok (.iconst 0, 1) := by decide +kernel
theorem dL_lawText_4 : decode cL_lawText 4 = .ok (.iload_n 0, 1) := by decide +kernel
theorem dL_lawText_5 : decode cL_lawText 5 = .ok (.iconst 2, 1) := by decide +kernel
theorem dL_lawText_6 : decode cL_lawText 6 = .ok (.invokestatic 8, 3) := by decide +kernel
theorem dL_lawText_9 : decode cL_lawText 9 = .ok (.ifCond .ne 7, 3) := by decide +kernel
theorem dL_lawText_12 : decode cL_lawText 12 = .ok (.iconst 1, 1) := by decide +kernel
theorem dL_lawText_13 : decode cL_lawText 13 = .ok (.goto 12, 3) := by decide +kernel
theorem dL_lawText_16 : decode cL_lawText 16 = .ok (.iconst 1, 1) := by decide +kernel
theorem dL_lawText_17 : decode cL_lawText 17 = .ok (.iload_n 0, 1) := by decide +kernel
theorem dL_lawText_18 : decode cL_lawText 18 = .ok (.iconst 1, 1) := by decide +kernel
theorem dL_lawText_19 : decode cL_lawText 19 = .ok (.ishr, 1) := by decide +kernel
theorem dL_lawText_20 : decode cL_lawText 20 = .ok (.iconst 3, 1) := by decide +kernel
theorem dL_lawText_21 : decode cL_lawText 21 = .ok (.invokestatic 8, 3) := by decide +kernel
theorem dL_lawText_24 : decode cL_lawText 24 = .ok (.iadd, 1) := by decide +kernel
theorem dL_lawText_25 : decode cL_lawText 25 = .ok (.iastore, 1) := by decide +kernel
theorem dL_lawText_26 : decode cL_lawText 26 = .ok (.aload_n 1, 1) := by decide +kernel
theorem dL_lawText_27 : decode cL_lawText 27 = .ok (.iconst 1, 1) := by decide +kernel
theorem dL_lawText_28 : decode cL_lawText 28 = .ok (.iload_n 0, 1) := by decide +kernel
theorem dL_lawText_29 : decode cL_lawText 29 = .ok (.iconst 4, 1) := by decide +kernel
theorem dL_lawText_30 : decode cL_lawText 30 = .ok (.ishr, 1) := by decide +kernel
theorem dL_lawText_31 : decode cL_lawText 31 = .ok (.iconst 2, 1) := by decide +kernel
theorem dL_lawText_32 : decode cL_lawText 32 = .ok (.invokestatic 8, 3) := by decide +kernel
theorem dL_lawText_35 : decode cL_lawText 35 = .ok (.iastore, 1) := by decide +kernel
theorem dL_lawText_36 : decode cL_lawText 36 = .ok (.aload_n 1, 1) := by decide +kernel
theorem dL_lawText_37 : decode cL_lawText 37 = .ok (.iconst 2, 1) := by decide +kernel
theorem dL_lawText_38 : decode cL_lawText 38 = .ok (.iload_n 0, 1) := by decide +kernel
theorem dL_lawText_39 : decode cL_lawText 39 = .ok (.iconst 5, 1) := by decide +kernel
theorem dL_lawText_40 : decode cL_lawText 40 = .ok (.ishr, 1) := by decide +kernel
theorem dL_lawText_41 : decode cL_lawText 41 = .ok (.iconst 3, 1) := by decide +kernel
theorem dL_lawText_42 : decode cL_lawText 42 = .ok (.invokestatic 8, 3) := by decide +kernel
theorem dL_lawText_45 : decode cL_lawText 45 = .ok (.ifCond .ne 7, 3) := by decide +kernel
theorem dL_lawText_48 : decode cL_lawText 48 = .ok (.iconst 1, 1) := by decide +kernel
theorem dL_lawText_49 : decode cL_lawText 49 = .ok (.goto 4, 3) := by decide +kernel
theorem dL_lawText_52 : decode cL_lawText 52 = .ok (.iconst 0, 1) := by decide +kernel
theorem dL_lawText_53 : decode cL_lawText 53 = .ok (.iastore, 1) := by decide +kernel
theorem dL_lawText_54 : decode cL_lawText 54 = .ok (.aload_n 1, 1) := by decide +kernel
theorem dL_lawText_55 : decode cL_lawText 55 = .ok (.iconst 3, 1) := by decide +kernel
theorem dL_lawText_56 : decode cL_lawText 56 = .ok (.iload_n 0, 1) := by decide +kernel
theorem dL_lawText_57 : decode cL_lawText 57 = .ok (.bipush 7, 2) := by decide +kernel
theorem dL_lawText_59 : decode cL_lawText 59 = .ok (.ishr, 1) := by decide +kernel
theorem dL_lawText_60 : decode cL_lawText 60 = .ok (.iconst 2, 1) := by decide +kernel
theorem dL_lawText_61 : decode cL_lawText 61 = .ok (.invokestatic 8, 3) := by decide +kernel
theorem dL_lawText_64 : decode cL_lawText 64 = .ok (.ifCond .ne 7, 3) := by decide +kernel
theorem dL_lawText_67 : decode cL_lawText 67 = .ok (.iconst 3, 1) := by decide +kernel
theorem dL_lawText_68 : decode cL_lawText 68 = .ok (.goto 14, 3) := by decide +kernel
theorem dL_lawText_71 : decode cL_lawText 71 = .ok (.iconst 1, 1) := by decide +kernel
theorem dL_lawText_72 : decode cL_lawText 72 = .ok (.iload_n 0, 1) := by decide +kernel
theorem dL_lawText_73 : decode cL_lawText 73 = .ok (.bipush 8, 2) := by decide +kernel
theorem dL_lawText_75 : decode cL_lawText 75 = .ok (.ishr, 1) := by decide +kernel
theorem dL_lawText_76 : decode cL_lawText 76 = .ok (.bipush 9, 2) := by decide +kernel
theorem dL_lawText_78 : decode cL_lawText 78 = .ok (.invokestatic 8, 3) := by decide +kernel
theorem dL_lawText_81 : decode cL_lawText 81 = .ok (.iadd, 1) := by decide +kernel
theorem dL_lawText_82 : decode cL_lawText 82 = .ok (.iastore, 1) := by decide +kernel
theorem dL_lawText_83 : decode cL_lawText 83 = .ok (.iload_n 0, 1) := by decide +kernel
theorem dL_lawText_84 : decode cL_lawText 84 = .ok (.iconst 2, 1) := by decide +kernel
theorem dL_lawText_85 : decode cL_lawText 85 = .ok (.invokestatic 8, 3) := by decide +kernel
theorem dL_lawText_88 : decode cL_lawText 88 = .ok (.ifCond .le 23, 3) := by decide +kernel
theorem dL_lawText_91 : decode cL_lawText 91 = .ok (.aload_n 2, 1) := by decide +kernel
theorem dL_lawText_92 : decode cL_lawText 92 = .ok (.iload_n 3, 1) := by decide +kernel
theorem dL_lawText_93 : decode cL_lawText 93 = .ok (.iinc 3 1, 3) := by decide +kernel
theorem dL_lawText_96 : decode cL_lawText 96 = .ok (.bipush 107, 2) := by decide +kernel
theorem dL_lawText_98 : decode cL_lawText 98 = .ok (.iastore, 1) := by decide +kernel
theorem dL_lawText_99 : decode cL_lawText 99 = .ok (.aload_n 2, 1) := by decide +kernel
theorem dL_lawText_100 : decode cL_lawText 100 = .ok (.iload_n 3, 1) := by decide +kernel
theorem dL_lawText_101 : decode cL_lawText 101 = .ok (.iinc 3 1, 3) := by decide +kernel
theorem dL_lawText_104 : decode cL_lawText 104 = .ok (.bipush 48, 2) := by decide +kernel
theorem dL_lawText_106 : decode cL_lawText 106 = .ok (.aload_n 1, 1) := by decide +kernel
theorem dL_lawText_107 : decode cL_lawText 107 = .ok (.iconst 0, 1) := by decide +kernel
theorem dL_lawText_108 : decode cL_lawText 108 = .ok (.iaload, 1) := by decide +kernel
theorem dL_lawText_109 : decode cL_lawText 109 = .ok (.iadd, 1) := by decide +kernel
theorem dL_lawText_110 : decode cL_lawText 110 = .ok (.iastore, 1) := by decide +kernel
theorem dL_lawText_111 : decode cL_lawText 111 = .ok (.aload_n 1, 1) := by decide +kernel
theorem dL_lawText_112 : decode cL_lawText 112 = .ok (.iconst 1, 1) := by decide +kernel
theorem dL_lawText_113 : decode cL_lawText 113 = .ok (.iaload, 1) := by decide +kernel
theorem dL_lawText_114 : decode cL_lawText 114 = .ok (.iconst 1, 1) := by decide +kernel
theorem dL_lawText_115 : decode cL_lawText 115 = .ok (.if_icmp .ne 11, 3) := by decide +kernel
theorem dL_lawText_118 : decode cL_lawText 118 = .ok (.aload_n 2, 1) := by decide +kernel
theorem dL_lawText_119 : decode cL_lawText 119 = .ok (.iload_n 3, 1) := by decide +kernel
theorem dL_lawText_120 : decode cL_lawText 120 = .ok (.iinc 3 1, 3) := by decide +kernel
theorem dL_lawText_123 : decode cL_lawText 123 = .ok (.bipush 98, 2) := by decide +kernel
theorem dL_lawText_125 : decode cL_lawText 125 = .ok (.iastore, 1) := by decide +kernel
theorem dL_lawText_126 : decode cL_lawText 126 = .ok (.aload_n 1, 1) := by decide +kernel
theorem dL_lawText_127 : decode cL_lawText 127 = .ok (.iconst 2, 1) := by decide +kernel
theorem dL_lawText_128 : decode cL_lawText 128 = .ok (.iaload, 1) := by decide +kernel
theorem dL_lawText_129 : decode cL_lawText 129 = .ok (.iconst 1, 1) := by decide +kernel
theorem dL_lawText_130 : decode cL_lawText 130 = .ok (.if_icmp .ne 11, 3) := by decide +kernel
theorem dL_lawText_133 : decode cL_lawText 133 = .ok (.aload_n 2, 1) := by decide +kernel
theorem dL_lawText_134 : decode cL_lawText 134 = .ok (.iload_n 3, 1) := by decide +kernel
theorem dL_lawText_135 : decode cL_lawText 135 = .ok (.iinc 3 1, 3) := by decide +kernel
theorem dL_lawText_138 : decode cL_lawText 138 = .ok (.bipush 111, 2) := by decide +kernel
theorem dL_lawText_140 : decode cL_lawText 140 = .ok (.iastore, 1) := by decide +kernel
theorem dL_lawText_141 : decode cL_lawText 141 = .ok (.iload_n 0, 1) := by decide +kernel
theorem dL_lawText_142 : decode cL_lawText 142 = .ok (.bipush 7, 2) := by decide +kernel
theorem dL_lawText_144 : decode cL_lawText 144 = .ok (.ishr, 1) := by decide +kernel
theorem dL_lawText_145 : decode cL_lawText 145 = .ok (.iconst 2, 1) := by decide +kernel
theorem dL_lawText_146 : decode cL_lawText 146 = .ok (.invokestatic 8, 3) := by decide +kernel
theorem dL_lawText_149 : decode cL_lawText 149 = .ok (.ifCond .le 23, 3) := by decide +kernel
theorem dL_lawText_152 : decode cL_lawText 152 = .ok (.aload_n 2, 1) := by decide +kernel
theorem dL_lawText_153 : decode cL_lawText 153 = .ok (.iload_n 3, 1) := by decide +kernel
theorem dL_lawText_154 : decode cL_lawText 154 = .ok (.iinc 3 1, 3) := by decide +kernel
theorem dL_lawText_157 : decode cL_lawText 157 = .ok (.bipush 119, 2) := by decide +kernel
theorem dL_lawText_159 : decode cL_lawText 159 = .ok (.iastore, 1) := by decide +kernel
theorem dL_lawText_160 : decode cL_lawText 160 = .ok (.aload_n 2, 1) := by decide +kernel
theorem dL_lawText_161 : decode cL_lawText 161 = .ok (.iload_n 3, 1) := by decide +kernel
theorem dL_lawText_162 : decode cL_lawText 162 = .ok (.iinc 3 1, 3) := by decide +kernel
theorem dL_lawText_165 : decode cL_lawText 165 = .ok (.bipush 48, 2) := by decide +kernel
theorem dL_lawText_167 : decode cL_lawText 167 = .ok (.aload_n 1, 1) := by decide +kernel
theorem dL_lawText_168 : decode cL_lawText 168 = .ok (.iconst 3, 1) := by decide +kernel
theorem dL_lawText_169 : decode cL_lawText 169 = .ok (.iaload, 1) := by decide +kernel
theorem dL_lawText_170 : decode cL_lawText 170 = .ok (.iadd, 1) := by decide +kernel
theorem dL_lawText_171 : decode cL_lawText 171 = .ok (.iastore, 1) := by decide +kernel
theorem dL_lawText_172 : decode cL_lawText 172 = .ok (.iload_n 3, 1) := by decide +kernel
theorem dL_lawText_173 : decode cL_lawText 173 = .ok (.ireturn, 1) := by decide +kernel
theorem dL_write_0 : decode cL_write 0 = .ok (.iconst 0, 1) := by decide +kernel
theorem dL_write_1 : decode cL_write 1 = .ok (.istore_n 3, 1) := by decide +kernel
theorem dL_write_2 : decode cL_write 2 = .ok (.iload_n 3, 1) := by decide +kernel
theorem dL_write_3 : decode cL_write 3 = .ok (.iload_n 2, 1) := by decide +kernel
theorem dL_write_4 : decode cL_write 4 = .ok (.if_icmp .ge 25, 3) := by decide +kernel
theorem dL_write_7 : decode cL_write 7 = .ok (.aload_n 0, 1) := by decide +kernel
theorem dL_write_8 : decode cL_write 8 = .ok (.aload_n 1, 1) := by decide +kernel
theorem dL_write_9 : decode cL_write 9 = .ok (.iload_n 3, 1) := by decide +kernel
theorem dL_write_10 : decode cL_write 10 = .ok (.iaload, 1) := by decide +kernel
theorem dL_write_11 : decode cL_write 11 = .ok (.i2l, 1) := by decide +kernel
theorem dL_write_12 : decode cL_write 12 = .ok (.invokevirtual 14, 3) := by decide +kernel
theorem dL_write_15 : decode cL_write 15 = .ok (.iload_n 3, 1) := by decide +kernel
theorem dL_write_16 : decode cL_write 16 = .ok (.iconst 1, 1) := by decide +kernel
theorem dL_write_17 : decode cL_write 17 = .ok (.iadd, 1) := by decide +kernel
theorem dL_write_18 : decode cL_write 18 = .ok (.if_icmp .eq 5, 3) := by decide +kernel
theorem dL_write_21 : decode cL_write 21 = .ok (.iconst 0, 1) := by decide +kernel
theorem dL_write_22 : decode cL_write 22 = .ok (.ireturn, 1) := by decide +kernel
theorem dL_write_23 : decode cL_write 23 = .ok (.iinc 3 1, 3) := by decide +kernel
theorem dL_write_26 : decode cL_write 26 = .ok (.goto (-24), 3) := by decide +kernel
theorem dL_write_29 : decode cL_write 29 = .ok (.iconst 1, 1) := by decide +kernel
theorem dL_write_30 : decode cL_write 30 = .ok (.ireturn, 1) := by decide +kernel
theorem dL_people_0 : decode cL_people 0 = .ok (.aload_n 1, 1) := by decide +kernel
theorem dL_people_1 : decode cL_people 1 = .ok (.iload_n 2, 1) := by decide +kernel
theorem dL_people_2 : decode cL_people 2 = .ok (.invokestatic 20, 3) := by decide +kernel
theorem dL_people_5 : decode cL_people 5 = .ok (.istore 6, 2) := by decide +kernel
theorem dL_people_7 : decode cL_people 7 = .ok (.aload 4, 2) := by decide +kernel
theorem dL_people_9 : decode cL_people 9 = .ok (.iconst 0, 1) := by decide +kernel
theorem dL_people_10 : decode cL_people 10 = .ok (.iconst 2, 1) := by decide +kernel
theorem dL_people_11 : decode cL_people 11 = .ok (.iload 6, 2) := by decide +kernel
theorem dL_people_13 : decode cL_people 13 = .ok (.iload_n 3, 1) := by decide +kernel
theorem dL_people_14 : decode cL_people 14 = .ok (.iconst 1, 1) := by decide +kernel
theorem dL_people_15 : decode cL_people 15 = .ok (.isub, 1) := by decide +kernel
theorem dL_people_16 : decode cL_people 16 = .ok (.invokestatic 8, 3) := by decide +kernel
theorem dL_people_19 : decode cL_people 19 = .ok (.iadd, 1) := by decide +kernel
theorem dL_people_20 : decode cL_people 20 = .ok (.iastore, 1) := by decide +kernel
theorem dL_people_21 : decode cL_people 21 = .ok (.iconst 0, 1) := by decide +kernel
theorem dL_people_22 : decode cL_people 22 = .ok (.istore 7, 2) := by decide +kernel
theorem dL_people_24 : decode cL_people 24 = .ok (.iload 7, 2) := by decide +kernel
theorem dL_people_26 : decode cL_people 26 = .ok (.aload 4, 2) := by decide +kernel
theorem dL_people_28 : decode cL_people 28 = .ok (.iconst 0, 1) := by decide +kernel
theorem dL_people_29 : decode cL_people 29 = .ok (.iaload, 1) := by decide +kernel
theorem dL_people_30 : decode cL_people 30 = .ok (.if_icmp .ge 47, 3) := by decide +kernel
theorem dL_people_33 : decode cL_people 33 = .ok (.aload 4, 2) := by decide +kernel
theorem dL_people_35 : decode cL_people 35 = .ok (.iconst 1, 1) := by decide +kernel
theorem dL_people_36 : decode cL_people 36 = .ok (.iload 7, 2) := by decide +kernel
theorem dL_people_38 : decode cL_people 38 = .ok (.iadd, 1) := by decide +kernel
theorem dL_people_39 : decode cL_people 39 = .ok (.iload 6, 2) := by decide +kernel
theorem dL_people_41 : decode cL_people 41 = .ok (.iconst 3, 1) := by decide +kernel
theorem dL_people_42 : decode cL_people 42 = .ok (.iconst 2, 1) := by decide +kernel
theorem dL_people_43 : decode cL_people 43 = .ok (.iload 7, 2) := by decide +kernel
theorem dL_people_45 : decode cL_people 45 = .ok (.imul, 1) := by decide +kernel
theorem dL_people_46 : decode cL_people 46 = .ok (.iadd, 1) := by decide +kernel
theorem dL_people_47 : decode cL_people 47 = .ok (.ishr, 1) := by decide +kernel
theorem dL_people_48 : decode cL_people 48 = .ok (.iconst 4, 1) := by decide +kernel
theorem dL_people_49 : decode cL_people 49 = .ok (.invokestatic 8, 3) := by decide +kernel
theorem dL_people_52 : decode cL_people 52 = .ok (.iastore, 1) := by decide +kernel
theorem dL_people_53 : decode cL_people 53 = .ok (.aload_n 0, 1) := by decide +kernel
theorem dL_people_54 : decode cL_people 54 = .ok (.aload 4, 2) := by decide +kernel
theorem dL_people_56 : decode cL_people 56 = .ok (.iconst 1, 1) := by decide +kernel
theorem dL_people_57 : decode cL_people 57 = .ok (.iload 7, 2) := by decide +kernel
theorem dL_people_59 : decode cL_people 59 = .ok (.iadd, 1) := by decide +kernel
theorem dL_people_60 : decode cL_people 60 = .ok (.iaload, 1) := by decide +kernel
theorem dL_people_61 : decode cL_people 61 = .ok (.invokevirtual 24, 3) := by decide +kernel
theorem dL_people_64 : decode cL_people 64 = .ok (.iload 7, 2) := by decide +kernel
theorem dL_people_66 : decode cL_people 66 = .ok (.if_icmp .eq 5, 3) := by decide +kernel
theorem dL_people_69 : decode cL_people 69 = .ok (.iconst 0, 1) := by decide +kernel
theorem dL_people_70 : decode cL_people 70 = .ok (.ireturn, 1) := by decide +kernel
theorem dL_people_71 : decode cL_people 71 = .ok (.iinc 7 1, 3) := by decide +kernel
theorem dL_people_74 : decode cL_people 74 = .ok (.goto (-50), 3) := by decide +kernel
theorem dL_people_77 : decode cL_people 77 = .ok (.iconst 0, 1) := by decide +kernel
theorem dL_people_78 : decode cL_people 78 = .ok (.istore 7, 2) := by decide +kernel
theorem dL_people_80 : decode cL_people 80 = .ok (.iload 7, 2) := by decide +kernel
theorem dL_people_82 : decode cL_people 82 = .ok (.aload 4, 2) := by decide +kernel
theorem dL_people_84 : decode cL_people 84 = .ok (.iconst 0, 1) := by decide +kernel
theorem dL_people_85 : decode cL_people 85 = .ok (.iaload, 1) := by decide +kernel
theorem dL_people_86 : decode cL_people 86 = .ok (.if_icmp .ge 106, 3) := by decide +kernel
theorem dL_people_89 : decode cL_people 89 = .ok (.iconst 0, 1) := by decide +kernel
theorem dL_people_90 : decode cL_people 90 = .ok (.istore 8, 2) := by decide +kernel
theorem dL_people_92 : decode cL_people 92 = .ok (.iload 8, 2) := by decide +kernel
theorem dL_people_94 : decode cL_people 94 = .ok (.iload 7, 2) := by decide +kernel
theorem dL_people_96 : decode cL_people 96 = .ok (.if_icmp .ge 90, 3) := by decide +kernel
theorem dL_people_99 : decode cL_people 99 = .ok (.aload_n 1, 1) := by decide +kernel
theorem dL_people_100 : decode cL_people 100 = .ok (.iload_n 2, 1) := by decide +kernel
theorem dL_people_101 : decode cL_people 101 = .ok (.iconst 1, 1) := by decide +kernel
theorem dL_people_102 : decode cL_people 102 = .ok (.iadd, 1) := by decide +kernel
theorem dL_people_103 : decode cL_people 103 = .ok (.iload 7, 2) := by decide +kernel
theorem dL_people_105 : decode cL_people 105 = .ok (.iconst 4, 1) := by decide +kernel
theorem dL_people_106 : decode cL_people 106 = .ok (.irem, 1) := by decide +kernel
theorem dL_people_107 : decode cL_people 107 = .ok (.iadd, 1) := by decide +kernel
theorem dL_people_108 : decode cL_people 108 = .ok (.invokestatic 20, 3) := by decide +kernel
theorem dL_people_111 : decode cL_people 111 = .ok (.iconst 3, 1) := by decide +kernel
theorem dL_people_112 : decode cL_people 112 = .ok (.iload 8, 2) := by decide +kernel
theorem dL_people_114 : decode cL_people 114 = .ok (.imul, 1) := by decide +kernel
theorem dL_people_115 : decode cL_people 115 = .ok (.iload 7, 2) := by decide +kernel
theorem dL_people_117 : decode cL_people 117 = .ok (.iconst 4, 1) := by decide +kernel
theorem dL_people_118 : decode cL_people 118 = .ok (.idiv, 1) := by decide +kernel
theorem dL_people_119 : decode cL_people 119 = .ok (.iadd, 1) := by decide +kernel
theorem dL_people_120 : decode cL_people 120 = .ok (.ishr, 1) := by decide +kernel
theorem dL_people_121 : decode cL_people 121 = .ok (.istore 9, 2) := by decide +kernel
theorem dL_people_123 : decode cL_people 123 = .ok (.iload 9, 2) := by decide +kernel
theorem dL_people_125 : decode cL_people 125 = .ok (.iconst 5, 1) := by decide +kernel
theorem dL_people_126 : decode cL_people 126 = .ok (.invokestatic 8, 3) := by decide +kernel
theorem dL_people_129 : decode cL_people 129 = .ok (.iconst 2, 1) := by decide +kernel
theorem dL_people_130 : decode cL_people 130 = .ok (.if_icmp .le 6, 3) := by decide +kernel
theorem dL_people_133 : decode cL_people 133 = .ok (.goto 47, 3) := by decide +kernel
theorem dL_people_136 : decode cL_people 136 = .ok (.aload_n 0, 1) := by decide +kernel
theorem dL_people_137 : decode cL_people 137 = .ok (.iload 7, 2) := by decide +kernel
theorem dL_people_139 : decode cL_people 139 = .ok (.iload 8, 2) := by decide +kernel
theorem dL_people_141 : decode cL_people 141 = .ok (.iconst 1, 1) := by decide +kernel
theorem dL_people_142 : decode cL_people 142 = .ok (.invokevirtual 28, 3) := by decide +kernel
theorem dL_people_145 : decode cL_people 145 = .ok (.ifCond .eq 5, 3) := by decide +kernel
theorem dL_people_148 : decode cL_people 148 = .ok (.iconst 0, 1) := by decide +kernel
theorem dL_people_149 : decode cL_people 149 = .ok (.ireturn, 1) := by decide +kernel
theorem dL_people_150 : decode cL_people 150 = .ok (.aload 4, 2) := by decide +kernel
theorem dL_people_152 : decode cL_people 152 = .ok (.bipush 9, 2) := by decide +kernel
theorem dL_people_154 : decode cL_people 154 = .ok (.iload 7, 2) := by decide +kernel
theorem dL_people_156 : decode cL_people 156 = .ok (.iadd, 1) := by decide +kernel
theorem dL_people_157 : decode cL_people 157 = .ok (.dup2, 1) := by decide +kernel
theorem dL_people_158 : decode cL_people 158 = .ok (.iaload, 1) := by decide +kernel
theorem dL_people_159 : decode cL_people 159 = .ok (.iconst 1, 1) := by decide +kernel
theorem dL_people_160 : decode cL_people 160 = .ok (.iload 8, 2) := by decide +kernel
theorem dL_people_162 : decode cL_people 162 = .ok (.ishl, 1) := by decide +kernel
theorem dL_people_163 : decode cL_people 163 = .ok (.ior, 1) := by decide +kernel
theorem dL_people_164 : decode cL_people 164 = .ok (.iastore, 1) := by decide +kernel
theorem dL_people_165 : decode cL_people 165 = .ok (.aload 4, 2) := by decide +kernel
theorem dL_people_167 : decode cL_people 167 = .ok (.bipush 9, 2) := by decide +kernel
theorem dL_people_169 : decode cL_people 169 = .ok (.iload 8, 2) := by decide +kernel
theorem dL_people_171 : decode cL_people 171 = .ok (.iadd, 1) := by decide +kernel
theorem dL_people_172 : decode cL_people 172 = .ok (.dup2, 1) := by decide +kernel
theorem dL_people_173 : decode cL_people 173 = .ok (.iaload, 1) := by decide +kernel
theorem dL_people_174 : decode cL_people 174 = .ok (.iconst 1, 1) := by decide +kernel
theorem dL_people_175 : decode cL_people 175 = .ok (.iload 7, 2) := by decide +kernel
theorem dL_people_177 : decode cL_people 177 = .ok (.ishl, 1) := by decide +kernel
theorem dL_people_178 : decode cL_people 178 = .ok (.ior, 1) := by decide +kernel
theorem dL_people_179 : decode cL_people 179 = .ok (.iastore, 1) := by decide +kernel
theorem dL_people_180 : decode cL_people 180 = .ok (.iinc 8 1, 3) := by decide +kernel
theorem dL_people_183 : decode cL_people 183 = .ok (.goto (-91), 3) := by decide +kernel
theorem dL_people_186 : decode cL_people 186 = .ok (.iinc 7 1, 3) := by decide +kernel
theorem dL_people_189 : decode cL_people 189 = .ok (.goto (-109), 3) := by decide +kernel
theorem dL_people_192 : decode cL_people 192 = .ok (.iconst 0, 1) := by decide +kernel
theorem dL_people_193 : decode cL_people 193 = .ok (.istore 7, 2) := by decide +kernel
theorem dL_people_195 : decode cL_people 195 = .ok (.iload 7, 2) := by decide +kernel
theorem dL_people_197 : decode cL_people 197 = .ok (.bipush 8, 2) := by decide +kernel
theorem dL_people_199 : decode cL_people 199 = .ok (.if_icmp .ge 118, 3) := by decide +kernel
theorem dL_people_202 : decode cL_people 202 = .ok (.aload_n 1, 1) := by decide +kernel
theorem dL_people_203 : decode cL_people 203 = .ok (.iload_n 2, 1) := by decide +kernel
theorem dL_people_204 : decode cL_people 204 = .ok (.iconst 5, 1) := by decide +kernel
theorem dL_people_205 : decode cL_people 205 = .ok (.iadd, 1) := by decide +kernel
theorem dL_people_206 : decode cL_people 206 = .ok (.iload 7, 2) := by decide +kernel
theorem dL_people_208 : decode cL_people 208 = .ok (.iconst 4, 1) := by decide +kernel
theorem dL_people_209 : decode cL_people 209 = .ok (.irem, 1) := by decide +kernel
theorem dL_people_210 : decode cL_people 210 = .ok (.iadd, 1) := by decide +kernel
theorem dL_people_211 : decode cL_people 211 = .ok (.invokestatic 20, 3) := by decide +kernel
theorem dL_people_214 : decode cL_people 214 = .ok (.bipush 12, 2) := by decide +kernel
theorem dL_people_216 : decode cL_people 216 = .ok (.iload 7, 2) := by decide +kernel
theorem dL_people_218 : decode cL_people 218 = .ok (.iconst 4, 1) := by decide +kernel
theorem dL_people_219 : decode cL_people 219 = .ok (.idiv, 1) := by decide +kernel
theorem dL_people_220 : decode cL_people 220 = .ok (.imul, 1) := by decide +kernel
theorem dL_people_221 : decode cL_people 221 = .ok (.ishr, 1) := by decide +kernel
theorem dL_people_222 : decode cL_people 222 = .ok (.istore 8, 2) := by decide +kernel
theorem dL_people_224 : decode cL_people 224 = .ok (.iload 8, 2) := by decide +kernel
theorem dL_people_226 : decode cL_people 226 = .ok (.aload 4, 2) := by decide +kernel
theorem dL_people_228 : decode cL_people 228 = .ok (.iconst 0, 1) := by decide +kernel
theorem dL_people_229 : decode cL_people 229 = .ok (.iaload, 1) := by decide +kernel
theorem dL_people_230 : decode cL_people 230 = .ok (.invokestatic 8, 3) := by decide +kernel
theorem dL_people_233 : decode cL_people 233 = .ok (.istore 9, 2) := by decide +kernel
theorem dL_people_235 : decode cL_people 235 = .ok (.iload 9, 2) := by decide +kernel
theorem dL_people_237 : decode cL_people 237 = .ok (.iconst 1, 1) := by decide +kernel
theorem dL_people_238 : decode cL_people 238 = .ok (.iadd, 1) := by decide +kernel
theorem dL_people_239 : decode cL_people 239 = .ok (.iload 8, 2) := by decide +kernel
theorem dL_people_241 : decode cL_people 241 = .ok (.iconst 3, 1) := by decide +kernel
theorem dL_people_242 : decode cL_people 242 = .ok (.ishr, 1) := by decide +kernel
theorem dL_people_243 : decode cL_people 243 = .ok (.aload 4, 2) := by decide +kernel
theorem dL_people_245 : decode cL_people 245 = .ok (.iconst 0, 1) := by decide +kernel
theorem dL_people_246 : decode cL_people 246 = .ok (.iaload, 1) := by decide +kernel
theorem dL_people_247 : decode cL_people 247 = .ok (.iconst 1, 1) := by decide +kernel
theorem dL_people_248 : decode cL_people 248 = .ok (.isub, 1) := by decide +kernel
theorem dL_people_249 : decode cL_people 249 = .ok (.invokestatic 8, 3) := by decide +kernel
theorem dL_people_252 : decode cL_people 252 = .ok (.iadd, 1) := by decide +kernel
theorem dL_people_253 : decode cL_people 253 = .ok (.aload 4, 2) := by decide +kernel
theorem dL_people_255 : decode cL_people 255 = .ok (.iconst 0, 1) := by decide +kernel
theorem dL_people_256 : decode cL_people 256 = .ok (.iaload, 1) := by decide +kernel
theorem dL_people_257 : decode cL_people 257 = .ok (.irem, 1) := by decide +kernel
theorem dL_people_258 : decode cL_people 258 = .ok (.istore 10, 2) := by decide +kernel
theorem dL_people_260 : decode cL_people 260 = .ok (.iload 8, 2) := by decide +kernel
theorem dL_people_262 : decode cL_people 262 = .ok (.bipush 6, 2) := by decide +kernel
theorem dL_people_264 : decode cL_people 264 = .ok (.ishr, 1) := by decide +kernel
theorem dL_people_265 : decode cL_people 265 = .ok (.bipush 10, 2) := by decide +kernel
theorem dL_people_267 : decode cL_people 267 = .ok (.invokestatic 8, 3) := by decide +kernel
theorem dL_people_270 : decode cL_people 270 = .ok (.istore 11, 2) := by decide +kernel
theorem dL_people_272 : decode cL_people 272 = .ok (.aload_n 0, 1) := by decide +kernel
theorem dL_people_273 : decode cL_people 273 = .ok (.iload 9, 2) := by decide +kernel
theorem dL_people_275 : decode cL_people 275 = .ok (.iload 10, 2) := by decide +kernel
theorem dL_people_277 : decode cL_people 277 = .ok (.iload 11, 2) := by decide +kernel
theorem dL_people_279 : decode cL_people 279 = .ok (.invokevirtual 32, 3) := by decide +kernel
theorem dL_people_282 : decode cL_people 282 = .ok (.aload 5, 2) := by decide +kernel
theorem dL_people_284 : decode cL_people 284 = .ok (.bipush 8, 2) := by decide +kernel
theorem dL_people_286 : decode cL_people 286 = .ok (.iload 9, 2) := by decide +kernel
theorem dL_people_288 : decode cL_people 288 = .ok (.imul, 1) := by decide +kernel
theorem dL_people_289 : decode cL_people 289 = .ok (.iload 10, 2) := by decide +kernel
theorem dL_people_291 : decode cL_people 291 = .ok (.iadd, 1) := by decide +kernel
theorem dL_people_292 : decode cL_people 292 = .ok (.iaload, 1) := by decide +kernel
theorem dL_people_293 : decode cL_people 293 = .ok (.if_icmp .eq 5, 3) := by decide +kernel
theorem dL_people_296 : decode cL_people 296 = .ok (.iconst 0, 1) := by decide +kernel
theorem dL_people_297 : decode cL_people 297 = .ok (.ireturn, 1) := by decide +kernel
theorem dL_people_298 : decode cL_people 298 = .ok (.aload 5, 2) := by decide +kernel
theorem dL_people_300 : decode cL_people 300 = .ok (.bipush 8, 2) := by decide +kernel
theorem dL_people_302 : decode cL_people 302 = .ok (.iload 9, 2) := by decide +kernel
theorem dL_people_304 : decode cL_people 304 = .ok (.imul, 1) := by decide +kernel
theorem dL_people_305 : decode cL_people 305 = .ok (.iload 10, 2) := by decide +kernel
theorem dL_people_307 : decode cL_people 307 = .ok (.iadd, 1) := by decide +kernel
theorem dL_people_308 : decode cL_people 308 = .ok (.iload 11, 2) := by decide +kernel
theorem dL_people_310 : decode cL_people 310 = .ok (.iastore, 1) := by decide +kernel
theorem dL_people_311 : decode cL_people 311 = .ok (.iinc 7 1, 3) := by decide +kernel
theorem dL_people_314 : decode cL_people 314 = .ok (.goto (-119), 3) := by decide +kernel
theorem dL_people_317 : decode cL_people 317 = .ok (.iconst 1, 1) := by decide +kernel
theorem dL_people_318 : decode cL_people 318 = .ok (.ireturn, 1) := by decide +kernel
theorem dL_gifts_0 : decode cL_gifts 0 = .ok (.aload 4, 2) := by decide +kernel
theorem dL_gifts_2 : decode cL_gifts 2 = .ok (.bipush 25, 2) := by decide +kernel
theorem dL_gifts_4 : decode cL_gifts 4 = .ok (.iconst 1, 1) := by decide +kernel
theorem dL_gifts_5 : decode cL_gifts 5 = .ok (.aload_n 1, 1) := by decide +kernel
theorem dL_gifts_6 : decode cL_gifts 6 = .ok (.iload_n 2, 1) := by decide +kernel
theorem dL_gifts_7 : decode cL_gifts 7 = .ok (.invokestatic 20, 3) := by decide +kernel
theorem dL_gifts_10 : decode cL_gifts 10 = .ok (.iload_n 3, 1) := by decide +kernel
theorem dL_gifts_11 : decode cL_gifts 11 = .ok (.invokestatic 8, 3) := by decide +kernel
theorem dL_gifts_14 : decode cL_gifts 14 = .ok (.iadd, 1) := by decide +kernel
theorem dL_gifts_15 : decode cL_gifts 15 = .ok (.iastore, 1) := by decide +kernel
theorem dL_gifts_16 : decode cL_gifts 16 = .ok (.iconst 0, 1) := by decide +kernel
theorem dL_gifts_17 : decode cL_gifts 17 = .ok (.istore 6, 2) := by decide +kernel
theorem dL_gifts_19 : decode cL_gifts 19 = .ok (.iload 6, 2) := by decide +kernel
theorem dL_gifts_21 : decode cL_gifts 21 = .ok (.aload 4, 2) := by decide +kernel
theorem dL_gifts_23 : decode cL_gifts 23 = .ok (.bipush 25, 2) := by decide +kernel
theorem dL_gifts_25 : decode cL_gifts 25 = .ok (.iaload, 1) := by decide +kernel
theorem dL_gifts_26 : decode cL_gifts 26 = .ok (.if_icmp .ge 126, 3) := by decide +kernel
theorem dL_gifts_29 : decode cL_gifts 29 = .ok (.aload_n 1, 1) := by decide +kernel
theorem dL_gifts_30 : decode cL_gifts 30 = .ok (.iload_n 2, 1) := by decide +kernel
theorem dL_gifts_31 : decode cL_gifts 31 = .ok (.iconst 1, 1) := by decide +kernel
theorem dL_gifts_32 : decode cL_gifts 32 = .ok (.iadd, 1) := by decide +kernel
theorem dL_gifts_33 : decode cL_gifts 33 = .ok (.iload 6, 2) := by decide +kernel
theorem dL_gifts_35 : decode cL_gifts 35 = .ok (.iconst 3, 1) := by decide +kernel
theorem dL_gifts_36 : decode cL_gifts 36 = .ok (.irem, 1) := by decide +kernel
theorem dL_gifts_37 : decode cL_gifts 37 = .ok (.iadd, 1) := by decide +kernel
theorem dL_gifts_38 : decode cL_gifts 38 = .ok (.invokestatic 20, 3) := by decide +kernel
theorem dL_gifts_41 : decode cL_gifts 41 = .ok (.bipush 9, 2) := by decide +kernel
theorem dL_gifts_43 : decode cL_gifts 43 = .ok (.iload 6, 2) := by decide +kernel
theorem dL_gifts_45 : decode cL_gifts 45 = .ok (.iconst 3, 1) := by decide +kernel
theorem dL_gifts_46 : decode cL_gifts 46 = .ok (.idiv, 1) := by decide +kernel
theorem dL_gifts_47 : decode cL_gifts 47 = .ok (.imul, 1) := by decide +kernel
theorem dL_gifts_48 : decode cL_gifts 48 = .ok (.ishr, 1) := by decide +kernel
theorem dL_gifts_49 : decode cL_gifts 49 = .ok (.istore 7, 2) := by decide +kernel
theorem dL_gifts_51 : decode cL_gifts 51 = .ok (.aload 5, 2) := by decide +kernel
theorem dL_gifts_53 : decode cL_gifts 53 = .ok (.bipush 8, 2) := by decide +kernel
theorem dL_gifts_55 : decode cL_gifts 55 = .ok (.iload 6, 2) := by decide +kernel
theorem dL_gifts_57 : decode cL_gifts 57 = .ok (.imul, 1) := by decide +kernel
theorem dL_gifts_58 : decode cL_gifts 58 = .ok (.iload 7, 2) := by decide +kernel
theorem dL_gifts_60 : decode cL_gifts 60 = .ok (.iconst 5, 1) := by decide +kernel
theorem dL_gifts_61 : decode cL_gifts 61 = .ok (.invokestatic 8, 3) := by decide +kernel
theorem dL_gifts_64 : decode cL_gifts 64 = .ok (.iastore, 1) := by decide +kernel
theorem dL_gifts_65 : decode cL_gifts 65 = .ok (.aload 5, 2) := by decide +kernel
theorem dL_gifts_67 : decode cL_gifts 67 = .ok (.bipush 8, 2) := by decide +kernel
theorem dL_gifts_69 : decode cL_gifts 69 = .ok (.iload 6, 2) := by decide +kernel
theorem dL_gifts_71 : decode cL_gifts 71 = .ok (.imul, 1) := by decide +kernel
theorem dL_gifts_72 : decode cL_gifts 72 = .ok (.iconst 1, 1) := by decide +kernel
theorem dL_gifts_73 : decode cL_gifts 73 = .ok (.iadd, 1) := by decide +kernel
theorem dL_gifts_74 : decode cL_gifts 74 = .ok (.iload 7, 2) := by decide +kernel
theorem dL_gifts_76 : decode cL_gifts 76 = .ok (.iconst 3, 1) := by decide +kernel
theorem dL_gifts_77 : decode cL_gifts 77 = .ok (.ishr, 1) := by decide +kernel
theorem dL_gifts_78 : decode cL_gifts 78 = .ok (.aload 4, 2) := by decide +kernel
theorem dL_gifts_80 : decode cL_gifts 80 = .ok (.iconst 0, 1) := by decide +kernel
theorem dL_gifts_81 : decode cL_gifts 81 = .ok (.iaload, 1) := by decide +kernel
theorem dL_gifts_82 : decode cL_gifts 82 = .ok (.invokestatic 8, 3) := by decide +kernel
theorem dL_gifts_85 : decode cL_gifts 85 = .ok (.iastore, 1) := by decide +kernel
theorem dL_gifts_86 : decode cL_gifts 86 = .ok (.aload 5, 2) := by decide +kernel
theorem dL_gifts_88 : decode cL_gifts 88 = .ok (.bipush 8, 2) := by decide +kernel
theorem dL_gifts_90 : decode cL_gifts 90 = .ok (.iload 6, 2) := by decide +kernel
theorem dL_gifts_92 : decode cL_gifts 92 = .ok (.imul, 1) := by decide +kernel
theorem dL_gifts_93 : decode cL_gifts 93 = .ok (.iconst 2, 1) := by decide +kernel
theorem dL_gifts_94 : decode cL_gifts 94 = .ok (.iadd, 1) := by decide +kernel
theorem dL_gifts_95 : decode cL_gifts 95 = .ok (.aload 5, 2) := by decide +kernel
theorem dL_gifts_97 : decode cL_gifts 97 = .ok (.bipush 8, 2) := by decide +kernel
theorem dL_gifts_99 : decode cL_gifts 99 = .ok (.iload 6, 2) := by decide +kernel
theorem dL_gifts_101 : decode cL_gifts 101 = .ok (.imul, 1) := by decide +kernel
theorem dL_gifts_102 : decode cL_gifts 102 = .ok (.iconst 1, 1) := by decide +kernel
theorem dL_gifts_103 : decode cL_gifts 103 = .ok (.iadd, 1) := by decide +kernel
theorem dL_gifts_104 : decode cL_gifts 104 = .ok (.iaload, 1) := by decide +kernel
theorem dL_gifts_105 : decode cL_gifts 105 = .ok (.iastore, 1) := by decide +kernel
theorem dL_gifts_106 : decode cL_gifts 106 = .ok (.aload 5, 2) := by decide +kernel
theorem dL_gifts_108 : decode cL_gifts 108 = .ok (.bipush 8, 2) := by decide +kernel
theorem dL_gifts_110 : decode cL_gifts 110 = .ok (.iload 6, 2) := by decide +kernel
theorem dL_gifts_112 : decode cL_gifts 112 = .ok (.imul, 1) := by decide +kernel
theorem dL_gifts_113 : decode cL_gifts 113 = .ok (.iconst 3, 1) := by decide +kernel
theorem dL_gifts_114 : decode cL_gifts 114 = .ok (.iadd, 1) := by decide +kernel
theorem dL_gifts_115 : decode cL_gifts 115 = .ok (.iconst (-1), 1) := by decide +kernel
theorem dL_gifts_116 : decode cL_gifts 116 = .ok (.iastore, 1) := by decide +kernel
theorem dL_gifts_117 : decode cL_gifts 117 = .ok (.aload_n 0, 1) := by decide +kernel
theorem dL_gifts_118 : decode cL_gifts 118 = .ok (.aload 5, 2) := by decide +kernel
theorem dL_gifts_120 : decode cL_gifts 120 = .ok (.bipush 8, 2) := by decide +kernel
theorem dL_gifts_122 : decode cL_gifts 122 = .ok (.iload 6, 2) := by decide +kernel
theorem dL_gifts_124 : decode cL_gifts 124 = .ok (.imul, 1) := by decide +kernel
theorem dL_gifts_125 : decode cL_gifts 125 = .ok (.iaload, 1) := by decide +kernel
theorem dL_gifts_126 : decode cL_gifts 126 = .ok (.aload 5, 2) := by decide +kernel
theorem dL_gifts_128 : decode cL_gifts 128 = .ok (.bipush 8, 2) := by decide +kernel
theorem dL_gifts_130 : decode cL_gifts 130 = .ok (.iload 6, 2) := by decide +kernel
theorem dL_gifts_132 : decode cL_gifts 132 = .ok (.imul, 1) := by decide +kernel
theorem dL_gifts_133 : decode cL_gifts 133 = .ok (.iconst 1, 1) := by decide +kernel
theorem dL_gifts_134 : decode cL_gifts 134 = .ok (.iadd, 1) := by decide +kernel
theorem dL_gifts_135 : decode cL_gifts 135 = .ok (.iaload, 1) := by decide +kernel
theorem dL_gifts_136 : decode cL_gifts 136 = .ok (.invokevirtual 36, 3) := by decide +kernel
theorem dL_gifts_139 : decode cL_gifts 139 = .ok (.iload 6, 2) := by decide +kernel
theorem dL_gifts_141 : decode cL_gifts 141 = .ok (.if_icmp .eq 5, 3) := by decide +kernel
theorem dL_gifts_144 : decode cL_gifts 144 = .ok (.iconst 0, 1) := by decide +kernel
theorem dL_gifts_145 : decode cL_gifts 145 = .ok (.ireturn, 1) := by decide +kernel
theorem dL_gifts_146 : decode cL_gifts 146 = .ok (.iinc 6 1, 3) := by decide +kernel
theorem dL_gifts_149 : decode cL_gifts 149 = .ok (.goto (-130), 3) := by decide +kernel
theorem dL_gifts_152 : decode cL_gifts 152 = .ok (.iconst 1, 1) := by decide +kernel
theorem dL_gifts_153 : decode cL_gifts 153 = .ok (.ireturn, 1) := by decide +kernel
theorem dL_may_0 : decode cL_may 0 = .ok (.aload_n 0, 1) := by decide +kernel
theorem dL_may_1 : decode cL_may 1 = .ok (.bipush 9, 2) := by decide +kernel
theorem dL_may_3 : decode cL_may 3 = .ok (.iload_n 2, 1) := by decide +kernel
theorem dL_may_4 : decode cL_may 4 = .ok (.iadd, 1) := by decide +kernel
theorem dL_may_5 : decode cL_may 5 = .ok (.iaload, 1) := by decide +kernel
theorem dL_may_6 : decode cL_may 6 = .ok (.istore 4, 2) := by decide +kernel
theorem dL_may_8 : decode cL_may 8 = .ok (.iload_n 3, 1) := by decide +kernel
theorem dL_may_9 : decode cL_may 9 = .ok (.ifCond .lt 13, 3) := by decide +kernel
theorem dL_may_12 : decode cL_may 12 = .ok (.iload 4, 2) := by decide +kernel
theorem dL_may_14 : decode cL_may 14 = .ok (.iconst 1, 1) := by decide +kernel
theorem dL_may_15 : decode cL_may 15 = .ok (.iload_n 3, 1) := by decide +kernel
theorem dL_may_16 : decode cL_may 16 = .ok (.ishl, 1) := by decide +kernel
theorem dL_may_17 : decode cL_may 17 = .ok (.iconst (-1), 1) := by decide +kernel
theorem dL_may_18 : decode cL_may 18 = .ok (.ixor, 1) := by decide +kernel
theorem dL_may_19 : decode cL_may 19 = .ok (.iand, 1) := by decide +kernel
theorem dL_may_20 : decode cL_may 20 = .ok (.istore 4, 2) := by decide +kernel
theorem dL_may_22 : decode cL_may 22 = .ok (.iload 4, 2) := by decide +kernel
theorem dL_may_24 : decode cL_may 24 = .ok (.ifCond .ne 26, 3) := by decide +kernel
theorem dL_may_27 : decode cL_may 27 = .ok (.aload_n 1, 1) := by decide +kernel
theorem dL_may_28 : decode cL_may 28 = .ok (.iconst 1, 1) := by decide +kernel
theorem dL_may_29 : decode cL_may 29 = .ok (.iaload, 1) := by decide +kernel
theorem dL_may_30 : decode cL_may 30 = .ok (.iconst 1, 1) := by decide +kernel
theorem dL_may_31 : decode cL_may 31 = .ok (.if_icmp .ne 19, 3) := by decide +kernel
theorem dL_may_34 : decode cL_may 34 = .ok (.iload_n 3, 1) := by decide +kernel
theorem dL_may_35 : decode cL_may 35 = .ok (.ifCond .lt 15, 3) := by decide +kernel
theorem dL_may_38 : decode cL_may 38 = .ok (.aload_n 0, 1) := by decide +kernel
theorem dL_may_39 : decode cL_may 39 = .ok (.bipush 9, 2) := by decide +kernel
theorem dL_may_41 : decode cL_may 41 = .ok (.iload_n 2, 1) := by decide +kernel
theorem dL_may_42 : decode cL_may 42 = .ok (.iadd, 1) := by decide +kernel
theorem dL_may_43 : decode cL_may 43 = .ok (.iaload, 1) := by decide +kernel
theorem dL_may_44 : decode cL_may 44 = .ok (.iconst 1, 1) := by decide +kernel
theorem dL_may_45 : decode cL_may 45 = .ok (.iload_n 3, 1) := by decide +kernel
theorem dL_may_46 : decode cL_may 46 = .ok (.ishl, 1) := by decide +kernel
theorem dL_may_47 : decode cL_may 47 = .ok (.iand, 1) := by decide +kernel
theorem dL_may_48 : decode cL_may 48 = .ok (.istore 4, 2) := by decide +kernel
theorem dL_may_50 : decode cL_may 50 = .ok (.iload 4, 2) := by decide +kernel
theorem dL_may_52 : decode cL_may 52 = .ok (.ireturn, 1) := by decide +kernel
theorem dL_worth_0 : decode cL_worth 0 = .ok (.aload_n 0, 1) := by decide +kernel
theorem dL_worth_1 : decode cL_worth 1 = .ok (.iload_n 1, 1) := by decide +kernel
theorem dL_worth_2 : decode cL_worth 2 = .ok (.iconst 4, 1) := by decide +kernel
theorem dL_worth_3 : decode cL_worth 3 = .ok (.iadd, 1) := by decide +kernel
theorem dL_worth_4 : decode cL_worth 4 = .ok (.iaload, 1) := by decide +kernel
theorem dL_worth_5 : decode cL_worth 5 = .ok (.bipush 9, 2) := by decide +kernel
theorem dL_worth_7 : decode cL_worth 7 = .ok (.if_icmp .ge 14, 3) := by decide +kernel
theorem dL_worth_10 : decode cL_worth 10 = .ok (.bipush 10, 2) := by decide +kernel
theorem dL_worth_12 : decode cL_worth 12 = .ok (.aload_n 0, 1) := by decide +kernel
theorem dL_worth_13 : decode cL_worth 13 = .ok (.iload_n 1, 1) := by decide +kernel
theorem dL_worth_14 : decode cL_worth 14 = .ok (.iconst 4, 1) := by decide +kernel
theorem dL_worth_15 : decode cL_worth 15 = .ok (.iadd, 1) := by decide +kernel
theorem dL_worth_16 : decode cL_worth 16 = .ok (.iaload, 1) := by decide +kernel
theorem dL_worth_17 : decode cL_worth 17 = .ok (.isub, 1) := by decide +kernel
theorem dL_worth_18 : decode cL_worth 18 = .ok (.goto 4, 3) := by decide +kernel
theorem dL_worth_21 : decode cL_worth 21 = .ok (.iconst 1, 1) := by decide +kernel
theorem dL_worth_22 : decode cL_worth 22 = .ok (.istore_n 2, 1) := by decide +kernel
theorem dL_worth_23 : decode cL_worth 23 = .ok (.aload_n 0, 1) := by decide +kernel
theorem dL_worth_24 : decode cL_worth 24 = .ok (.iload_n 1, 1) := by decide +kernel
theorem dL_worth_25 : decode cL_worth 25 = .ok (.iaload, 1) := by decide +kernel
theorem dL_worth_26 : decode cL_worth 26 = .ok (.iconst 2, 1) := by decide +kernel
theorem dL_worth_27 : decode cL_worth 27 = .ok (.if_icmp .ne 30, 3) := by decide +kernel
theorem dL_worth_30 : decode cL_worth 30 = .ok (.iload_n 2, 1) := by decide +kernel
theorem dL_worth_31 : decode cL_worth 31 = .ok (.aload_n 0, 1) := by decide +kernel
theorem dL_worth_32 : decode cL_worth 32 = .ok (.iload_n 1, 1) := by decide +kernel
theorem dL_worth_33 : decode cL_worth 33 = .ok (.bipush 6, 2) := by decide +kernel
theorem dL_worth_35 : decode cL_worth 35 = .ok (.iadd, 1) := by decide +kernel
theorem dL_worth_36 : decode cL_worth 36 = .ok (.iaload, 1) := by decide +kernel
theorem dL_worth_37 : decode cL_worth 37 = .ok (.bipush 9, 2) := by decide +kernel
theorem dL_worth_39 : decode cL_worth 39 = .ok (.if_icmp .ge 12, 3) := by decide +kernel
theorem dL_worth_42 : decode cL_worth 42 = .ok (.aload_n 0, 1) := by decide +kernel
theorem dL_worth_43 : decode cL_worth 43 = .ok (.iload_n 1, 1) := by decide +kernel
theorem dL_worth_44 : decode cL_worth 44 = .ok (.bipush 6, 2) := by decide +kernel
theorem dL_worth_46 : decode cL_worth 46 = .ok (.iadd, 1) := by decide +kernel
theorem dL_worth_47 : decode cL_worth 47 = .ok (.iaload, 1) := by decide +kernel
theorem dL_worth_48 : decode cL_worth 48 = .ok (.goto 5, 3) := by decide +kernel
theorem dL_worth_51 : decode cL_worth 51 = .ok (.bipush 9, 2) := by decide +kernel
theorem dL_worth_53 : decode cL_worth 53 = .ok (.iadd, 1) := by decide +kernel
theorem dL_worth_54 : decode cL_worth 54 = .ok (.goto 4, 3) := by decide +kernel
theorem dL_worth_57 : decode cL_worth 57 = .ok (.iload_n 2, 1) := by decide +kernel
theorem dL_worth_58 : decode cL_worth 58 = .ok (.ireturn, 1) := by decide +kernel
theorem dL_give_0 : decode cL_give 0 = .ok (.bipush 8, 2) := by decide +kernel
theorem dL_give_2 : decode cL_give 2 = .ok (.iload 4, 2) := by decide +kernel
theorem dL_give_4 : decode cL_give 4 = .ok (.imul, 1) := by decide +kernel
theorem dL_give_5 : decode cL_give 5 = .ok (.istore 6, 2) := by decide +kernel
theorem dL_give_7 : decode cL_give 7 = .ok (.aload_n 2, 1) := by decide +kernel
theorem dL_give_8 : decode cL_give 8 = .ok (.iload 6, 2) := by decide +kernel
theorem dL_give_10 : decode cL_give 10 = .ok (.iconst 2, 1) := by decide +kernel
theorem dL_give_11 : decode cL_give 11 = .ok (.iadd, 1) := by decide +kernel
theorem dL_give_12 : decode cL_give 12 = .ok (.iaload, 1) := by decide +kernel
theorem dL_give_13 : decode cL_give 13 = .ok (.istore 7, 2) := by decide +kernel
theorem dL_give_15 : decode cL_give 15 = .ok (.aload_n 3, 1) := by decide +kernel
theorem dL_give_16 : decode cL_give 16 = .ok (.bipush 8, 2) := by decide +kernel
theorem dL_give_18 : decode cL_give 18 = .ok (.iload 5, 2) := by decide +kernel
theorem dL_give_20 : decode cL_give 20 = .ok (.imul, 1) := by decide +kernel
theorem dL_give_21 : decode cL_give 21 = .ok (.iload 7, 2) := by decide +kernel
theorem dL_give_23 : decode cL_give 23 = .ok (.iadd, 1) := by decide +kernel
theorem dL_give_24 : decode cL_give 24 = .ok (.dup2, 1) := by decide +kernel
theorem dL_give_25 : decode cL_give 25 = .ok (.iaload, 1) := by decide +kernel
theorem dL_give_26 : decode cL_give 26 = .ok (.aload_n 2, 1) := by decide +kernel
theorem dL_give_27 : decode cL_give 27 = .ok (.iload 6, 2) := by decide +kernel
theorem dL_give_29 : decode cL_give 29 = .ok (.invokestatic 39, 3) := by decide +kernel
theorem dL_give_32 : decode cL_give 32 = .ok (.iadd, 1) := by decide +kernel
theorem dL_give_33 : decode cL_give 33 = .ok (.iastore, 1) := by decide +kernel
theorem dL_give_34 : decode cL_give 34 = .ok (.aload_n 2, 1) := by decide +kernel
theorem dL_give_35 : decode cL_give 35 = .ok (.iload 6, 2) := by decide +kernel
theorem dL_give_37 : decode cL_give 37 = .ok (.iconst 2, 1) := by decide +kernel
theorem dL_give_38 : decode cL_give 38 = .ok (.iadd, 1) := by decide +kernel
theorem dL_give_39 : decode cL_give 39 = .ok (.iload 5, 2) := by decide +kernel
theorem dL_give_41 : decode cL_give 41 = .ok (.iastore, 1) := by decide +kernel
theorem dL_give_42 : decode cL_give 42 = .ok (.aload_n 2, 1) := by decide +kernel
theorem dL_give_43 : decode cL_give 43 = .ok (.iload 6, 2) := by decide +kernel
theorem dL_give_45 : decode cL_give 45 = .ok (.iconst 3, 1) := by decide +kernel
theorem dL_give_46 : decode cL_give 46 = .ok (.iadd, 1) := by decide +kernel
theorem dL_give_47 : decode cL_give 47 = .ok (.iload 7, 2) := by decide +kernel
theorem dL_give_49 : decode cL_give 49 = .ok (.iastore, 1) := by decide +kernel
theorem dL_give_50 : decode cL_give 50 = .ok (.aload_n 2, 1) := by decide +kernel
theorem dL_give_51 : decode cL_give 51 = .ok (.iload 6, 2) := by decide +kernel
theorem dL_give_53 : decode cL_give 53 = .ok (.iconst 4, 1) := by decide +kernel
theorem dL_give_54 : decode cL_give 54 = .ok (.iadd, 1) := by decide +kernel
theorem dL_give_55 : decode cL_give 55 = .ok (.dup2, 1) := by decide +kernel
theorem dL_give_56 : decode cL_give 56 = .ok (.iaload, 1) := by decide +kernel
theorem dL_give_57 : decode cL_give 57 = .ok (.aload_n 2, 1) := by decide +kernel
theorem dL_give_58 : decode cL_give 58 = .ok (.iload 6, 2) := by decide +kernel
theorem dL_give_60 : decode cL_give 60 = .ok (.iaload, 1) := by decide +kernel
theorem dL_give_61 : decode cL_give 61 = .ok (.iconst 2, 1) := by decide +kernel
theorem dL_give_62 : decode cL_give 62 = .ok (.if_icmp .ne 7, 3) := by decide +kernel
theorem dL_give_65 : decode cL_give 65 = .ok (.iconst 0, 1) := by decide +kernel
theorem dL_give_66 : decode cL_give 66 = .ok (.goto 16, 3) := by decide +kernel
theorem dL_give_69 : decode cL_give 69 = .ok (.aload_n 2, 1) := by decide +kernel
theorem dL_give_70 : decode cL_give 70 = .ok (.iload 6, 2) := by decide +kernel
theorem dL_give_72 : decode cL_give 72 = .ok (.iaload, 1) := by decide +kernel
theorem dL_give_73 : decode cL_give 73 = .ok (.iconst 4, 1) := by decide +kernel
theorem dL_give_74 : decode cL_give 74 = .ok (.if_icmp .ne 7, 3) := by decide +kernel
theorem dL_give_77 : decode cL_give 77 = .ok (.iconst 2, 1) := by decide +kernel
theorem dL_give_78 : decode cL_give 78 = .ok (.goto 4, 3) := by decide +kernel
theorem dL_give_81 : decode cL_give 81 = .ok (.iconst 1, 1) := by decide +kernel
theorem dL_give_82 : decode cL_give 82 = .ok (.iadd, 1) := by decide +kernel
theorem dL_give_83 : decode cL_give 83 = .ok (.iastore, 1) := by decide +kernel
theorem dL_give_84 : decode cL_give 84 = .ok (.aload_n 2, 1) := by decide +kernel
theorem dL_give_85 : decode cL_give 85 = .ok (.iload 6, 2) := by decide +kernel
theorem dL_give_87 : decode cL_give 87 = .ok (.iconst 5, 1) := by decide +kernel
theorem dL_give_88 : decode cL_give 88 = .ok (.iadd, 1) := by decide +kernel
theorem dL_give_89 : decode cL_give 89 = .ok (.iconst 0, 1) := by decide +kernel
theorem dL_give_90 : decode cL_give 90 = .ok (.iastore, 1) := by decide +kernel
theorem dL_give_91 : decode cL_give 91 = .ok (.aload_n 2, 1) := by decide +kernel
theorem dL_give_92 : decode cL_give 92 = .ok (.iload 6, 2) := by decide +kernel
theorem dL_give_94 : decode cL_give 94 = .ok (.bipush 6, 2) := by decide +kernel
theorem dL_give_96 : decode cL_give 96 = .ok (.iadd, 1) := by decide +kernel
theorem dL_give_97 : decode cL_give 97 = .ok (.dup2, 1) := by decide +kernel
theorem dL_give_98 : decode cL_give 98 = .ok (.iaload, 1) := by decide +kernel
theorem dL_give_99 : decode cL_give 99 = .ok (.iconst 1, 1) := by decide +kernel
theorem dL_give_100 : decode cL_give 100 = .ok (.iadd, 1) := by decide +kernel
theorem dL_give_101 : decode cL_give 101 = .ok (.iastore, 1) := by decide +kernel
theorem dL_give_102 : decode cL_give 102 = .ok (.aload_n 2, 1) := by decide +kernel
theorem dL_give_103 : decode cL_give 103 = .ok (.iload 6, 2) := by decide +kernel
theorem dL_give_105 : decode cL_give 105 = .ok (.iaload, 1) := by decide +kernel
theorem dL_give_106 : decode cL_give 106 = .ok (.iconst 1, 1) := by decide +kernel
theorem dL_give_107 : decode cL_give 107 = .ok (.if_icmp .eq 11, 3) := by decide +kernel
theorem dL_give_110 : decode cL_give 110 = .ok (.aload_n 2, 1) := by decide +kernel
theorem dL_give_111 : decode cL_give 111 = .ok (.iload 6, 2) := by decide +kernel
theorem dL_give_113 : decode cL_give 113 = .ok (.iaload, 1) := by decide +kernel
theorem dL_give_114 : decode cL_give 114 = .ok (.iconst 4, 1) := by decide +kernel
theorem dL_give_115 : decode cL_give 115 = .ok (.if_icmp .ne 26, 3) := by decide +kernel
theorem dL_give_118 : decode cL_give 118 = .ok (.aload_n 2, 1) := by decide +kernel
theorem dL_give_119 : decode cL_give 119 = .ok (.iload 6, 2) := by decide +kernel
theorem dL_give_121 : decode cL_give 121 = .ok (.iconst 4, 1) := by decide +kernel
theorem dL_give_122 : decode cL_give 122 = .ok (.iadd, 1) := by decide +kernel
theorem dL_give_123 : decode cL_give 123 = .ok (.iaload, 1) := by decide +kernel
theorem dL_give_124 : decode cL_give 124 = .ok (.aload_n 1, 1) := by decide +kernel
theorem dL_give_125 : decode cL_give 125 = .ok (.iconst 3, 1) := by decide +kernel
theorem dL_give_126 : decode cL_give 126 = .ok (.iaload, 1) := by decide +kernel
theorem dL_give_127 : decode cL_give 127 = .ok (.if_icmp .lt 14, 3) := by decide +kernel
theorem dL_give_130 : decode cL_give 130 = .ok (.aload_n 2, 1) := by decide +kernel
theorem dL_give_131 : decode cL_give 131 = .ok (.iload 6, 2) := by decide +kernel
theorem dL_give_133 : decode cL_give 133 = .ok (.bipush 7, 2) := by decide +kernel
theorem dL_give_135 : decode cL_give 135 = .ok (.iadd, 1) := by decide +kernel
theorem dL_give_136 : decode cL_give 136 = .ok (.iconst 2, 1) := by decide +kernel
theorem dL_give_137 : decode cL_give 137 = .ok (.iastore, 1) := by decide +kernel
theorem dL_give_138 : decode cL_give 138 = .ok (.goto 33, 3) := by decide +kernel
theorem dL_give_141 : decode cL_give 141 = .ok (.iload 5, 2) := by decide +kernel
theorem dL_give_143 : decode cL_give 143 = .ok (.aload_n 2, 1) := by decide +kernel
theorem dL_give_144 : decode cL_give 144 = .ok (.iload 6, 2) := by decide +kernel
theorem dL_give_146 : decode cL_give 146 = .ok (.iconst 1, 1) := by decide +kernel
theorem dL_give_147 : decode cL_give 147 = .ok (.iadd, 1) := by decide +kernel
theorem dL_give_148 : decode cL_give 148 = .ok (.iaload, 1) := by decide +kernel
theorem dL_give_149 : decode cL_give 149 = .ok (.if_icmp .ne 22, 3) := by decide +kernel
theorem dL_give_152 : decode cL_give 152 = .ok (.aload_n 2, 1) := by decide +kernel
theorem dL_give_153 : decode cL_give 153 = .ok (.iload 6, 2) := by decide +kernel
theorem dL_give_155 : decode cL_give 155 = .ok (.bipush 7, 2) := by decide +kernel
theorem dL_give_157 : decode cL_give 157 = .ok (.iadd, 1) := by decide +kernel
theorem dL_give_158 : decode cL_give 158 = .ok (.iconst 1, 1) := by decide +kernel
theorem dL_give_159 : decode cL_give 159 = .ok (.iastore, 1) := by decide +kernel
theorem dL_give_160 : decode cL_give 160 = .ok (.aload_n 0, 1) := by decide +kernel
theorem dL_give_161 : decode cL_give 161 = .ok (.bipush 17, 2) := by decide +kernel
theorem dL_give_163 : decode cL_give 163 = .ok (.iload 5, 2) := by decide +kernel
theorem dL_give_165 : decode cL_give 165 = .ok (.iadd, 1) := by decide +kernel
theorem dL_give_166 : decode cL_give 166 = .ok (.dup2, 1) := by decide +kernel
theorem dL_give_167 : decode cL_give 167 = .ok (.iaload, 1) := by decide +kernel
theorem dL_give_168 : decode cL_give 168 = .ok (.iconst 1, 1) := by decide +kernel
theorem dL_give_169 : decode cL_give 169 = .ok (.iadd, 1) := by decide +kernel
theorem dL_give_170 : decode cL_give 170 = .ok (.iastore, 1) := by decide +kernel
theorem dL_give_171 : decode cL_give 171 = .ok (.aload_n 2, 1) := by decide +kernel
theorem dL_give_172 : decode cL_give 172 = .ok (.iload 6, 2) := by decide +kernel
theorem dL_give_174 : decode cL_give 174 = .ok (.bipush 7, 2) := by decide +kernel
theorem dL_give_176 : decode cL_give 176 = .ok (.iadd, 1) := by decide +kernel
theorem dL_give_177 : decode cL_give 177 = .ok (.iaload, 1) := by decide +kernel
theorem dL_give_178 : decode cL_give 178 = .ok (.ireturn, 1) := by decide +kernel
theorem dL_holds_0 : decode cL_holds 0 = .ok (.iconst 0, 1) := by decide +kernel
theorem dL_holds_1 : decode cL_holds 1 = .ok (.istore_n 3, 1) := by decide +kernel
theorem dL_holds_2 : decode cL_holds 2 = .ok (.iconst 0, 1) := by decide +kernel
theorem dL_holds_3 : decode cL_holds 3 = .ok (.istore 4, 2) := by decide +kernel
theorem dL_holds_5 : decode cL_holds 5 = .ok (.iload 4, 2) := by decide +kernel
theorem dL_holds_7 : decode cL_holds 7 = .ok (.aload_n 0, 1) := by decide +kernel
theorem dL_holds_8 : decode cL_holds 8 = .ok (.bipush 25, 2) := by decide +kernel
theorem dL_holds_10 : decode cL_holds 10 = .ok (.iaload, 1) := by decide +kernel
theorem dL_holds_11 : decode cL_holds 11 = .ok (.if_icmp .ge 43, 3) := by decide +kernel
theorem dL_holds_14 : decode cL_holds 14 = .ok (.iload_n 3, 1) := by decide +kernel
theorem dL_holds_15 : decode cL_holds 15 = .ok (.aload_n 1, 1) := by decide +kernel
theorem dL_holds_16 : decode cL_holds 16 = .ok (.bipush 8, 2) := by decide +kernel
theorem dL_holds_18 : decode cL_holds 18 = .ok (.iload 4, 2) := by decide +kernel
theorem dL_holds_20 : decode cL_holds 20 = .ok (.imul, 1) := by decide +kernel
theorem dL_holds_21 : decode cL_holds 21 = .ok (.bipush 7, 2) := by decide +kernel
theorem dL_holds_23 : decode cL_holds 23 = .ok (.iadd, 1) := by decide +kernel
theorem dL_holds_24 : decode cL_holds 24 = .ok (.iaload, 1) := by decide +kernel
theorem dL_holds_25 : decode cL_holds 25 = .ok (.ifCond .ne 20, 3) := by decide +kernel
theorem dL_holds_28 : decode cL_holds 28 = .ok (.aload_n 1, 1) := by decide +kernel
theorem dL_holds_29 : decode cL_holds 29 = .ok (.bipush 8, 2) := by decide +kernel
theorem dL_holds_31 : decode cL_holds 31 = .ok (.iload 4, 2) := by decide +kernel
theorem dL_holds_33 : decode cL_holds 33 = .ok (.imul, 1) := by decide +kernel
theorem dL_holds_34 : decode cL_holds 34 = .ok (.iconst 2, 1) := by decide +kernel
theorem dL_holds_35 : decode cL_holds 35 = .ok (.iadd, 1) := by decide +kernel
theorem dL_holds_36 : decode cL_holds 36 = .ok (.iaload, 1) := by decide +kernel
theorem dL_holds_37 : decode cL_holds 37 = .ok (.iload_n 2, 1) := by decide +kernel
theorem dL_holds_38 : decode cL_holds 38 = .ok (.if_icmp .ne 7, 3) := by decide +kernel
theorem dL_holds_41 : decode cL_holds 41 = .ok (.iconst 1, 1) := by decide +kernel
theorem dL_holds_42 : decode cL_holds 42 = .ok (.goto 4, 3) := by decide +kernel
theorem dL_holds_45 : decode cL_holds 45 = .ok (.iconst 0, 1) := by decide +kernel
theorem dL_holds_46 : decode cL_holds 46 = .ok (.iadd, 1) := by decide +kernel
theorem dL_holds_47 : decode cL_holds 47 = .ok (.istore_n 3, 1) := by decide +kernel
theorem dL_holds_48 : decode cL_holds 48 = .ok (.iinc 4 1, 3) := by decide +kernel
theorem dL_holds_51 : decode cL_holds 51 = .ok (.goto (-46), 3) := by decide +kernel
theorem dL_holds_54 : decode cL_holds 54 = .ok (.iload_n 3, 1) := by decide +kernel
theorem dL_holds_55 : decode cL_holds 55 = .ok (.ireturn, 1) := by decide +kernel
theorem dL_habit_0 : decode cL_habit 0 = .ok (.iconst (-1), 1) := by decide +kernel
theorem dL_habit_1 : decode cL_habit 1 = .ok (.istore 5, 2) := by decide +kernel
theorem dL_habit_3 : decode cL_habit 3 = .ok (.iconst 0, 1) := by decide +kernel
theorem dL_habit_4 : decode cL_habit 4 = .ok (.istore 6, 2) := by decide +kernel
theorem dL_habit_6 : decode cL_habit 6 = .ok (.iload 6, 2) := by decide +kernel
theorem dL_habit_8 : decode cL_habit 8 = .ok (.aload_n 0, 1) := by decide +kernel
theorem dL_habit_9 : decode cL_habit 9 = .ok (.iconst 0, 1) := by decide +kernel
theorem dL_habit_10 : decode cL_habit 10 = .ok (.iaload, 1) := by decide +kernel
theorem dL_habit_11 : decode cL_habit 11 = .ok (.if_icmp .ge 94, 3) := by decide +kernel
theorem dL_habit_14 : decode cL_habit 14 = .ok (.iload 4, 2) := by decide +kernel
theorem dL_habit_16 : decode cL_habit 16 = .ok (.iload 6, 2) := by decide +kernel
theorem dL_habit_18 : decode cL_habit 18 = .ok (.ishr, 1) := by decide +kernel
theorem dL_habit_19 : decode cL_habit 19 = .ok (.iconst 1, 1) := by decide +kernel
theorem dL_habit_20 : decode cL_habit 20 = .ok (.iand, 1) := by decide +kernel
theorem dL_habit_21 : decode cL_habit 21 = .ok (.ifCond .ne 6, 3) := by decide +kernel
theorem dL_habit_24 : decode cL_habit 24 = .ok (.goto 75, 3) := by decide +kernel
theorem dL_habit_27 : decode cL_habit 27 = .ok (.aload_n 0, 1) := by decide +kernel
theorem dL_habit_28 : decode cL_habit 28 = .ok (.iconst 1, 1) := by decide +kernel
theorem dL_habit_29 : decode cL_habit 29 = .ok (.iload_n 3, 1) := by decide +kernel
theorem dL_habit_30 : decode cL_habit 30 = .ok (.iadd, 1) := by decide +kernel
theorem dL_habit_31 : decode cL_habit 31 = .ok (.iaload, 1) := by decide +kernel
theorem dL_habit_32 : decode cL_habit 32 = .ok (.istore 7, 2) := by decide +kernel
theorem dL_habit_34 : decode cL_habit 34 = .ok (.iload 5, 2) := by decide +kernel
theorem dL_habit_36 : decode cL_habit 36 = .ok (.ifCond .lt 59, 3) := by decide +kernel
theorem dL_habit_39 : decode cL_habit 39 = .ok (.iload 7, 2) := by decide +kernel
theorem dL_habit_41 : decode cL_habit 41 = .ok (.iconst 1, 1) := by decide +kernel
theorem dL_habit_42 : decode cL_habit 42 = .ok (.if_icmp .eq 53, 3) := by decide +kernel
theorem dL_habit_45 : decode cL_habit 45 = .ok (.iload 7, 2) := by decide +kernel
theorem dL_habit_47 : decode cL_habit 47 = .ok (.iconst 2, 1) := by decide +kernel
theorem dL_habit_48 : decode cL_habit 48 = .ok (.if_icmp .ne 24, 3) := by decide +kernel
theorem dL_habit_51 : decode cL_habit 51 = .ok (.aload_n 2, 1) := by decide +kernel
theorem dL_habit_52 : decode cL_habit 52 = .ok (.bipush 8, 2) := by decide +kernel
theorem dL_habit_54 : decode cL_habit 54 = .ok (.iload_n 3, 1) := by decide +kernel
theorem dL_habit_55 : decode cL_habit 55 = .ok (.imul, 1) := by decide +kernel
theorem dL_habit_56 : decode cL_habit 56 = .ok (.iload 6, 2) := by decide +kernel
theorem dL_habit_58 : decode cL_habit 58 = .ok (.iadd, 1) := by decide +kernel
theorem dL_habit_59 : decode cL_habit 59 = .ok (.iaload, 1) := by decide +kernel
theorem dL_habit_60 : decode cL_habit 60 = .ok (.aload_n 2, 1) := by decide +kernel
theorem dL_habit_61 : decode cL_habit 61 = .ok (.bipush 8, 2) := by decide +kernel
theorem dL_habit_63 : decode cL_habit 63 = .ok (.iload_n 3, 1) := by decide +kernel
theorem dL_habit_64 : decode cL_habit 64 = .ok (.imul, 1) := by decide +kernel
theorem dL_habit_65 : decode cL_habit 65 = .ok (.iload 5, 2) := by decide +kernel
theorem dL_habit_67 : decode cL_habit 67 = .ok (.iadd, 1) := by decide +kernel
theorem dL_habit_68 : decode cL_habit 68 = .ok (.iaload, 1) := by decide +kernel
theorem dL_habit_69 : decode cL_habit 69 = .ok (.if_icmp .gt 26, 3) := by decide +kernel
theorem dL_habit_72 : decode cL_habit 72 = .ok (.iload 7, 2) := by decide +kernel
theorem dL_habit_74 : decode cL_habit 74 = .ok (.iconst 3, 1) := by decide +kernel
theorem dL_habit_75 : decode cL_habit 75 = .ok (.if_icmp .ne 24, 3) := by decide +kernel
theorem dL_habit_78 : decode cL_habit 78 = .ok (.aload_n 0, 1) := by decide +kernel
theorem dL_habit_79 : decode cL_habit 79 = .ok (.aload_n 1, 1) := by decide +kernel
theorem dL_habit_80 : decode cL_habit 80 = .ok (.iload 6, 2) := by decide +kernel
theorem dL_habit_82 : decode cL_habit 82 = .ok (.invokestatic 42, 3) := by decide +kernel
theorem dL_habit_85 : decode cL_habit 85 = .ok (.aload_n 0, 1) := by decide +kernel
theorem dL_habit_86 : decode cL_habit 86 = .ok (.aload_n 1, 1) := by decide +kernel
theorem dL_habit_87 : decode cL_habit 87 = .ok (.iload 5, 2) := by decide +kernel
theorem dL_habit_89 : decode cL_habit 89 = .ok (.invokestatic 42, 3) := by decide +kernel
theorem dL_habit_92 : decode cL_habit 92 = .ok (.if_icmp .ge 7, 3) := by decide +kernel
theorem dL_habit_95 : decode cL_habit 95 = .ok (.iload 6, 2) := by decide +kernel
theorem dL_habit_97 : decode cL_habit 97 = .ok (.istore 5, 2) := by decide +kernel
theorem dL_habit_99 : decode cL_habit 99 = .ok (.iinc 6 1, 3) := by decide +kernel
theorem dL_habit_102 : decode cL_habit 102 = .ok (.goto (-96), 3) := by decide +kernel
theorem dL_habit_105 : decode cL_habit 105 = .ok (.iload 5, 2) := by decide +kernel
theorem dL_habit_107 : decode cL_habit 107 = .ok (.ireturn, 1) := by decide +kernel
theorem dL_year_0 : decode cL_year 0 = .ok (.iconst 0, 1) := by decide +kernel
theorem dL_year_1 : decode cL_year 1 = .ok (.istore 6, 2) := by decide +kernel
theorem dL_year_3 : decode cL_year 3 = .ok (.iconst 0, 1) := by decide +kernel
theorem dL_year_4 : decode cL_year 4 = .ok (.istore 7, 2) := by decide +kernel
theorem dL_year_6 : decode cL_year 6 = .ok (.iconst 0, 1) := by decide +kernel
theorem dL_year_7 : decode cL_year 7 = .ok (.istore 8, 2) := by decide +kernel
theorem dL_year_9 : decode cL_year 9 = .ok (.iload 8, 2) := by decide +kernel
theorem dL_year_11 : decode cL_year 11 = .ok (.aload_n 0, 1) := by decide +kernel
theorem dL_year_12 : decode cL_year 12 = .ok (.bipush 25, 2) := by decide +kernel
theorem dL_year_14 : decode cL_year 14 = .ok (.iaload, 1) := by decide +kernel
theorem dL_year_15 : decode cL_year 15 = .ok (.if_icmp .ge 39, 3) := by decide +kernel
theorem dL_year_18 : decode cL_year 18 = .ok (.aload_n 2, 1) := by decide +kernel
theorem dL_year_19 : decode cL_year 19 = .ok (.bipush 8, 2) := by decide +kernel
theorem dL_year_21 : decode cL_year 21 = .ok (.iload 8, 2) := by decide +kernel
theorem dL_year_23 : decode cL_year 23 = .ok (.imul, 1) := by decide +kernel
theorem dL_year_24 : decode cL_year 24 = .ok (.iconst 5, 1) := by decide +kernel
theorem dL_year_25 : decode cL_year 25 = .ok (.iadd, 1) := by decide +kernel
theorem dL_year_26 : decode cL_year 26 = .ok (.dup2, 1) := by decide +kernel
theorem dL_year_27 : decode cL_year 27 = .ok (.iaload, 1) := by decide +kernel
theorem dL_year_28 : decode cL_year 28 = .ok (.aload_n 2, 1) := by decide +kernel
theorem dL_year_29 : decode cL_year 29 = .ok (.bipush 8, 2) := by decide +kernel
theorem dL_year_31 : decode cL_year 31 = .ok (.iload 8, 2) := by decide +kernel
theorem dL_year_33 : decode cL_year 33 = .ok (.imul, 1) := by decide +kernel
theorem dL_year_34 : decode cL_year 34 = .ok (.bipush 7, 2) := by decide +kernel
theorem dL_year_36 : decode cL_year 36 = .ok (.iadd, 1) := by decide +kernel
theorem dL_year_37 : decode cL_year 37 = .ok (.iaload, 1) := by decide +kernel
theorem dL_year_38 : decode cL_year 38 = .ok (.ifCond .ne 7, 3) := by decide +kernel
theorem dL_year_41 : decode cL_year 41 = .ok (.iconst 1, 1) := by decide +kernel
theorem dL_year_42 : decode cL_year 42 = .ok (.goto 4, 3) := by decide +kernel
theorem dL_year_45 : decode cL_year 45 = .ok (.iconst 0, 1) := by decide +kernel
theorem dL_year_46 : decode cL_year 46 = .ok (.iadd, 1) := by decide +kernel
theorem dL_year_47 : decode cL_year 47 = .ok (.iastore, 1) := by decide +kernel
theorem dL_year_48 : decode cL_year 48 = .ok (.iinc 8 1, 3) := by decide +kernel
theorem dL_year_51 : decode cL_year 51 = .ok (.goto (-42), 3) := by decide +kernel
theorem dL_year_54 : decode cL_year 54 = .ok (.iconst 0, 1) := by decide +kernel
theorem dL_year_55 : decode cL_year 55 = .ok (.istore 8, 2) := by decide +kernel
theorem dL_year_57 : decode cL_year 57 = .ok (.iload 8, 2) := by decide +kernel
theorem dL_year_59 : decode cL_year 59 = .ok (.aload_n 0, 1) := by decide +kernel
theorem dL_year_60 : decode cL_year 60 = .ok (.bipush 25, 2) := by decide +kernel
theorem dL_year_62 : decode cL_year 62 = .ok (.iaload, 1) := by decide +kernel
theorem dL_year_63 : decode cL_year 63 = .ok (.if_icmp .ge 268, 3) := by decide +kernel
theorem dL_year_66 : decode cL_year 66 = .ok (.bipush 8, 2) := by decide +kernel
theorem dL_year_68 : decode cL_year 68 = .ok (.iload 8, 2) := by decide +kernel
theorem dL_year_70 : decode cL_year 70 = .ok (.imul, 1) := by decide +kernel
theorem dL_year_71 : decode cL_year 71 = .ok (.istore 9, 2) := by decide +kernel
theorem dL_year_73 : decode cL_year 73 = .ok (.aload_n 2, 1) := by decide +kernel
theorem dL_year_74 : decode cL_year 74 = .ok (.iload 9, 2) := by decide +kernel
theorem dL_year_76 : decode cL_year 76 = .ok (.iconst 2, 1) := by decide +kernel
theorem dL_year_77 : decode cL_year 77 = .ok (.iadd, 1) := by decide +kernel
theorem dL_year_78 : decode cL_year 78 = .ok (.iaload, 1) := by decide +kernel
theorem dL_year_79 : decode cL_year 79 = .ok (.istore 10, 2) := by decide +kernel
theorem dL_year_81 : decode cL_year 81 = .ok (.aload_n 2, 1) := by decide +kernel
theorem dL_year_82 : decode cL_year 82 = .ok (.iload 9, 2) := by decide +kernel
theorem dL_year_84 : decode cL_year 84 = .ok (.bipush 7, 2) := by decide +kernel
theorem dL_year_86 : decode cL_year 86 = .ok (.iadd, 1) := by decide +kernel
theorem dL_year_87 : decode cL_year 87 = .ok (.iaload, 1) := by decide +kernel
theorem dL_year_88 : decode cL_year 88 = .ok (.ifCond .gt 237, 3) := by decide +kernel
theorem dL_year_91 : decode cL_year 91 = .ok (.aload_n 2, 1) := by decide +kernel
theorem dL_year_92 : decode cL_year 92 = .ok (.iload 9, 2) := by decide +kernel
theorem dL_year_94 : decode cL_year 94 = .ok (.iconst 5, 1) := by decide +kernel
theorem dL_year_95 : decode cL_year 95 = .ok (.iadd, 1) := by decide +kernel
theorem dL_year_96 : decode cL_year 96 = .ok (.iaload, 1) := by decide +kernel
theorem dL_year_97 : decode cL_year 97 = .ok (.aload_n 1, 1) := by decide +kernel
theorem dL_year_98 : decode cL_year 98 = .ok (.iconst 0, 1) := by decide +kernel
theorem dL_year_99 : decode cL_year 99 = .ok (.iaload, 1) := by decide +kernel
theorem dL_year_100 : decode cL_year 100 = .ok (.aload_n 2, 1) := by decide +kernel
theorem dL_year_101 : decode cL_year 101 = .ok (.iload 9, 2) := by decide +kernel
theorem dL_year_103 : decode cL_year 103 = .ok (.iaload, 1) := by decide +kernel
theorem dL_year_104 : decode cL_year 104 = .ok (.iconst 3, 1) := by decide +kernel
theorem dL_year_105 : decode cL_year 105 = .ok (.if_icmp .ne 7, 3) := by decide +kernel
theorem dL_year_108 : decode cL_year 108 = .ok (.iconst 1, 1) := by decide +kernel
theorem dL_year_109 : decode cL_year 109 = .ok (.goto 4, 3) := by decide +kernel
theorem dL_year_112 : decode cL_year 112 = .ok (.iconst 0, 1) := by decide +kernel
theorem dL_year_113 : decode cL_year 113 = .ok (.iadd, 1) := by decide +kernel
theorem dL_year_114 : decode cL_year 114 = .ok (.if_icmp .lt 211, 3) := by decide +kernel
theorem dL_year_117 : decode cL_year 117 = .ok (.aload_n 1, 1) := by decide +kernel
theorem dL_year_118 : decode cL_year 118 = .ok (.iconst 2, 1) := by decide +kernel
theorem dL_year_119 : decode cL_year 119 = .ok (.iaload, 1) := by decide +kernel
theorem dL_year_120 : decode cL_year 120 = .ok (.iconst 1, 1) := by decide +kernel
theorem dL_year_121 : decode cL_year 121 = .ok (.if_icmp .ne 17, 3) := by decide +kernel
theorem dL_year_124 : decode cL_year 124 = .ok (.iload 7, 2) := by decide +kernel
theorem dL_year_126 : decode cL_year 126 = .ok (.iload 10, 2) := by decide +kernel
theorem dL_year_128 : decode cL_year 128 = .ok (.ishr, 1) := by decide +kernel
theorem dL_year_129 : decode cL_year 129 = .ok (.iconst 1, 1) := by decide +kernel
theorem dL_year_130 : decode cL_year 130 = .ok (.iand, 1) := by decide +kernel
theorem dL_year_131 : decode cL_year 131 = .ok (.iconst 1, 1) := by decide +kernel
theorem dL_year_132 : decode cL_year 132 = .ok (.if_icmp .ne 6, 3) := by decide +kernel
theorem dL_year_135 : decode cL_year 135 = .ok (.goto 190, 3) := by decide +kernel
theorem dL_year_138 : decode cL_year 138 = .ok (.aload_n 0, 1) := by decide +kernel
theorem dL_year_139 : decode cL_year 139 = .ok (.aload_n 1, 1) := by decide +kernel
theorem dL_year_140 : decode cL_year 140 = .ok (.iload 10, 2) := by decide +kernel
theorem dL_year_142 : decode cL_year 142 = .ok (.aload_n 2, 1) := by decide +kernel
theorem dL_year_143 : decode cL_year 143 = .ok (.iload 9, 2) := by decide +kernel
theorem dL_year_145 : decode cL_year 145 = .ok (.iconst 3, 1) := by decide +kernel
theorem dL_year_146 : decode cL_year 146 = .ok (.iadd, 1) := by decide +kernel
theorem dL_year_147 : decode cL_year 147 = .ok (.iaload, 1) := by decide +kernel
theorem dL_year_148 : decode cL_year 148 = .ok (.invokestatic 46, 3) := by decide +kernel
theorem dL_year_151 : decode cL_year 151 = .ok (.istore 11, 2) := by decide +kernel
theorem dL_year_153 : decode cL_year 153 = .ok (.iload 11, 2) := by decide +kernel
theorem dL_year_155 : decode cL_year 155 = .ok (.ifCond .ne 6, 3) := by decide +kernel
theorem dL_year_158 : decode cL_year 158 = .ok (.goto 167, 3) := by decide +kernel
theorem dL_year_161 : decode cL_year 161 = .ok (.iconst (-1), 1) := by decide +kernel
theorem dL_year_162 : decode cL_year 162 = .ok (.istore 12, 2) := by decide +kernel
theorem dL_year_164 : decode cL_year 164 = .ok (.aload 5, 2) := by decide +kernel
theorem dL_year_166 : decode cL_year 166 = .ok (.iconst 0, 1) := by decide +kernel
theorem dL_year_167 : decode cL_year 167 = .ok (.laload, 1) := by decide +kernel
theorem dL_year_168 : decode cL_year 168 = .ok (.lconst 0, 1) := by decide +kernel
theorem dL_year_169 : decode cL_year 169 = .ok (.lcmp, 1) := by decide +kernel
theorem dL_year_170 : decode cL_year 170 = .ok (.ifCond .ge 18, 3) := by decide +kernel
theorem dL_year_173 : decode cL_year 173 = .ok (.aload_n 0, 1) := by decide +kernel
theorem dL_year_174 : decode cL_year 174 = .ok (.aload_n 2, 1) := by decide +kernel
theorem dL_year_175 : decode cL_year 175 = .ok (.aload_n 3, 1) := by decide +kernel
theorem dL_year_176 : decode cL_year 176 = .ok (.iload 10, 2) := by decide +kernel
theorem dL_year_178 : decode cL_year 178 = .ok (.iload 11, 2) := by decide +kernel
theorem dL_year_180 : decode cL_year 180 = .ok (.invokestatic 50, 3) := by decide +kernel
theorem dL_year_183 : decode cL_year 183 = .ok (.istore 12, 2) := by decide +kernel
theorem dL_year_185 : decode cL_year 185 = .ok (.goto 115, 3) := by decide +kernel
theorem dL_year_188 : decode cL_year 188 = .ok (.aload 5, 2) := by decide +kernel
theorem dL_year_190 : decode cL_year 190 = .ok (.iconst 0, 1) := by decide +kernel
theorem dL_year_191 : decode cL_year 191 = .ok (.aload 5, 2) := by decide +kernel
theorem dL_year_193 : decode cL_year 193 = .ok (.iconst 0, 1) := by decide +kernel
theorem dL_year_194 : decode cL_year 194 = .ok (.laload, 1) := by decide +kernel
theorem dL_year_195 : decode cL_year 195 = .ok (.ldc2_w 54, 3) := by decide +kernel
theorem dL_year_198 : decode cL_year 198 = .ok (.lmul, 1) := by decide +kernel
theorem dL_year_199 : decode cL_year 199 = .ok (.ldc2_w 56, 3) := by decide +kernel
theorem dL_year_202 : decode cL_year 202 = .ok (.ladd, 1) := by decide +kernel
theorem dL_year_203 : decode cL_year 203 = .ok (.ldc2_w 58, 3) := by decide +kernel
theorem dL_year_206 : decode cL_year 206 = .ok (.lrem, 1) := by decide +kernel
theorem dL_year_207 : decode cL_year 207 = .ok (.lastore, 1) := by decide +kernel
theorem dL_year_208 : decode cL_year 208 = .ok (.iconst 0, 1) := by decide +kernel
theorem dL_year_209 : decode cL_year 209 = .ok (.istore 13, 2) := by decide +kernel
theorem dL_year_211 : decode cL_year 211 = .ok (.iconst 0, 1) := by decide +kernel
theorem dL_year_212 : decode cL_year 212 = .ok (.istore 14, 2) := by decide +kernel
theorem dL_year_214 : decode cL_year 214 = .ok (.iload 14, 2) := by decide +kernel
theorem dL_year_216 : decode cL_year 216 = .ok (.aload_n 0, 1) := by decide +kernel
theorem dL_year_217 : decode cL_year 217 = .ok (.iconst 0, 1) := by decide +kernel
theorem dL_year_218 : decode cL_year 218 = .ok (.iaload, 1) := by decide +kernel
theorem dL_year_219 : decode cL_year 219 = .ok (.if_icmp .ge 21, 3) := by decide +kernel
theorem dL_year_222 : decode cL_year 222 = .ok (.iload 13, 2) := by decide +kernel
theorem dL_year_224 : decode cL_year 224 = .ok (.iload 11, 2) := by decide +kernel
theorem dL_year_226 : decode cL_year 226 = .ok (.iload 14, 2) := by decide +kernel
theorem dL_year_228 : decode cL_year 228 = .ok (.ishr, 1) := by decide +kernel
theorem dL_year_229 : decode cL_year 229 = .ok (.iconst 1, 1) := by decide +kernel
theorem dL_year_230 : decode cL_year 230 = .ok (.iand, 1) := by decide +kernel
theorem dL_year_231 : decode cL_year 231 = .ok (.iadd, 1) := by decide +kernel
theorem dL_year_232 : decode cL_year 232 = .ok (.istore 13, 2) := by decide +kernel
theorem dL_year_234 : decode cL_year 234 = .ok (.iinc 14 1, 3) := by decide +kernel
theorem dL_year_237 : decode cL_year 237 = .ok (.goto (-23), 3) := by decide +kernel
theorem dL_year_240 : decode cL_year 240 = .ok (.aload 5, 2) := by decide +kernel
theorem dL_year_242 : decode cL_year 242 = .ok (.iconst 0, 1) := by decide +kernel
theorem dL_year_243 : decode cL_year 243 = .ok (.laload, 1) := by decide +kernel
theorem dL_year_244 : decode cL_year 244 = .ok (.ldc2_w 60, 3) := by decide +kernel
theorem dL_year_247 : decode cL_year 247 = .ok (.ldiv, 1) := by decide +kernel
theorem dL_year_248 : decode cL_year 248 = .ok (.iload 13, 2) := by decide +kernel
theorem dL_year_250 : decode cL_year 250 = .ok (.i2l, 1) := by decide +kernel
theorem dL_year_251 : decode cL_year 251 = .ok (.lrem, 1) := by decide +kernel
theorem dL_year_252 : decode cL_year 252 = .ok (.l2i, 1) := by decide +kernel
theorem dL_year_253 : decode cL_year 253 = .ok (.istore 14, 2) := by decide +kernel
theorem dL_year_255 : decode cL_year 255 = .ok (.iconst 0, 1) := by decide +kernel
theorem dL_year_256 : decode cL_year 256 = .ok (.istore 15, 2) := by decide +kernel
theorem dL_year_258 : decode cL_year 258 = .ok (.iload 15, 2) := by decide +kernel
theorem dL_year_260 : decode cL_year 260 = .ok (.aload_n 0, 1) := by decide +kernel
theorem dL_year_261 : decode cL_year 261 = .ok (.iconst 0, 1) := by decide +kernel
theorem dL_year_262 : decode cL_year 262 = .ok (.iaload, 1) := by decide +kernel
theorem dL_year_263 : decode cL_year 263 = .ok (.if_icmp .ge 37, 3) := by decide +kernel
theorem dL_year_266 : decode cL_year 266 = .ok (.iload 12, 2) := by decide +kernel
theorem dL_year_268 : decode cL_year 268 = .ok (.ifCond .ge 32, 3) := by decide +kernel
theorem dL_year_271 : decode cL_year 271 = .ok (.iload 11, 2) := by decide +kernel
theorem dL_year_273 : decode cL_year 273 = .ok (.iload 15, 2) := by decide +kernel
theorem dL_year_275 : decode cL_year 275 = .ok (.ishr, 1) := by decide +kernel
theorem dL_year_276 : decode cL_year 276 = .ok (.iconst 1, 1) := by decide +kernel
theorem dL_year_277 : decode cL_year 277 = .ok (.iand, 1) := by decide +kernel
theorem dL_year_278 : decode cL_year 278 = .ok (.iconst 1, 1) := by decide +kernel
theorem dL_year_279 : decode cL_year 279 = .ok (.if_icmp .ne 15, 3) := by decide +kernel
theorem dL_year_282 : decode cL_year 282 = .ok (.iload 14, 2) := by decide +kernel
theorem dL_year_284 : decode cL_year 284 = .ok (.iinc 14 (-1), 3) := by decide +kernel
theorem dL_year_287 : decode cL_year 287 = .ok (.ifCond .ne 7, 3) := by decide +kernel
theorem dL_year_290 : decode cL_year 290 = .ok (.iload 15, 2) := by decide +kernel
theorem dL_year_292 : decode cL_year 292 = .ok (.istore 12, 2) := by decide +kernel
theorem dL_year_294 : decode cL_year 294 = .ok (.iinc 15 1, 3) := by decide +kernel
theorem dL_year_297 : decode cL_year 297 = .ok (.goto (-39), 3) := by decide +kernel
theorem dL_year_300 : decode cL_year 300 = .ok (.aload_n 0, 1) := by decide +kernel
theorem dL_year_301 : decode cL_year 301 = .ok (.aload_n 1, 1) := by decide +kernel
theorem dL_year_302 : decode cL_year 302 = .ok (.aload_n 2, 1) := by decide +kernel
theorem dL_year_303 : decode cL_year 303 = .ok (.aload 4, 2) := by decide +kernel
theorem dL_year_305 : decode cL_year 305 = .ok (.iload 8, 2) := by decide +kernel
theorem dL_year_307 : decode cL_year 307 = .ok (.iload 12, 2) := by decide +kernel
theorem dL_year_309 : decode cL_year 309 = .ok (.invokestatic 62, 3) := by decide +kernel
theorem dL_year_312 : decode cL_year 312 = .ok (.pop, 1) := by decide +kernel
theorem dL_year_313 : decode cL_year 313 = .ok (.iload 7, 2) := by decide +kernel
theorem dL_year_315 : decode cL_year 315 = .ok (.iconst 1, 1) := by decide +kernel
theorem dL_year_316 : decode cL_year 316 = .ok (.iload 10, 2) := by decide +kernel
theorem dL_year_318 : decode cL_year 318 = .ok (.ishl, 1) := by decide +kernel
theorem dL_year_319 : decode cL_year 319 = .ok (.ior, 1) := by decide +kernel
theorem dL_year_320 : decode cL_year 320 = .ok (.istore 7, 2) := by decide +kernel
theorem dL_year_322 : decode cL_year 322 = .ok (.iinc 6 1, 3) := by decide +kernel
theorem dL_year_325 : decode cL_year 325 = .ok (.iinc 8 1, 3) := by decide +kernel
theorem dL_year_328 : decode cL_year 328 = .ok (.goto (-271), 3) := by decide +kernel
theorem dL_year_331 : decode cL_year 331 = .ok (.iload 6, 2) := by decide +kernel
theorem dL_year_333 : decode cL_year 333 = .ok (.ireturn, 1) := by decide +kernel
theorem dL_stands_0 : decode cL_stands 0 = .ok (.iconst 0, 1) := by decide +kernel
theorem dL_stands_1 : decode cL_stands 1 = .ok (.istore 4, 2) := by decide +kernel
theorem dL_stands_3 : decode cL_stands 3 = .ok (.iconst 0, 1) := by decide +kernel
theorem dL_stands_4 : decode cL_stands 4 = .ok (.istore 5, 2) := by decide +kernel
theorem dL_stands_6 : decode cL_stands 6 = .ok (.iconst 0, 1) := by decide +kernel
theorem dL_stands_7 : decode cL_stands 7 = .ok (.istore 6, 2) := by decide +kernel
theorem dL_stands_9 : decode cL_stands 9 = .ok (.iload 6, 2) := by decide +kernel
theorem dL_stands_11 : decode cL_stands 11 = .ok (.aload_n 1, 1) := by decide +kernel
theorem dL_stands_12 : decode cL_stands 12 = .ok (.iconst 0, 1) := by decide +kernel
theorem dL_stands_13 : decode cL_stands 13 = .ok (.iaload, 1) := by decide +kernel
theorem dL_stands_14 : decode cL_stands 14 = .ok (.if_icmp .ge 180, 3) := by decide +kernel
theorem dL_stands_17 : decode cL_stands 17 = .ok (.iconst 0, 1) := by decide +kernel
theorem dL_stands_18 : decode cL_stands 18 = .ok (.istore 7, 2) := by decide +kernel
theorem dL_stands_20 : decode cL_stands 20 = .ok (.iconst 0, 1) := by decide +kernel
theorem dL_stands_21 : decode cL_stands 21 = .ok (.istore 8, 2) := by decide +kernel
theorem dL_stands_23 : decode cL_stands 23 = .ok (.iload 8, 2) := by decide +kernel
theorem dL_stands_25 : decode cL_stands 25 = .ok (.aload_n 1, 1) := by decide +kernel
theorem dL_stands_26 : decode cL_stands 26 = .ok (.iconst 0, 1) := by decide +kernel
theorem dL_stands_27 : decode cL_stands 27 = .ok (.iaload, 1) := by decide +kernel
theorem dL_stands_28 : decode cL_stands 28 = .ok (.if_icmp .ge 68, 3) := by decide +kernel
theorem dL_stands_31 : decode cL_stands 31 = .ok (.iload 6, 2) := by decide +kernel
theorem dL_stands_33 : decode cL_stands 33 = .ok (.iload 8, 2) := by decide +kernel
theorem dL_stands_35 : decode cL_stands 35 = .ok (.if_icmp .ne 6, 3) := by decide +kernel
theorem dL_stands_38 : decode cL_stands 38 = .ok (.goto 52, 3) := by decide +kernel
theorem dL_stands_41 : decode cL_stands 41 = .ok (.aload_n 0, 1) := by decide +kernel
theorem dL_stands_42 : decode cL_stands 42 = .ok (.iload 6, 2) := by decide +kernel
theorem dL_stands_44 : decode cL_stands 44 = .ok (.iload 8, 2) := by decide +kernel
theorem dL_stands_46 : decode cL_stands 46 = .ok (.invokevirtual 66, 3) := by decide +kernel
theorem dL_stands_49 : decode cL_stands 49 = .ok (.aload_n 3, 1) := by decide +kernel
theorem dL_stands_50 : decode cL_stands 50 = .ok (.bipush 8, 2) := by decide +kernel
theorem dL_stands_52 : decode cL_stands 52 = .ok (.iload 6, 2) := by decide +kernel
theorem dL_stands_54 : decode cL_stands 54 = .ok (.imul, 1) := by decide +kernel
theorem dL_stands_55 : decode cL_stands 55 = .ok (.iload 8, 2) := by decide +kernel
theorem dL_stands_57 : decode cL_stands 57 = .ok (.iadd, 1) := by decide +kernel
theorem dL_stands_58 : decode cL_stands 58 = .ok (.iaload, 1) := by decide +kernel
theorem dL_stands_59 : decode cL_stands 59 = .ok (.if_icmp .eq 5, 3) := by decide +kernel
theorem dL_stands_62 : decode cL_stands 62 = .ok (.iconst 0, 1) := by decide +kernel
theorem dL_stands_63 : decode cL_stands 63 = .ok (.ireturn, 1) := by decide +kernel
theorem dL_stands_64 : decode cL_stands 64 = .ok (.iload 7, 2) := by decide +kernel
theorem dL_stands_66 : decode cL_stands 66 = .ok (.aload_n 3, 1) := by decide +kernel
theorem dL_stands_67 : decode cL_stands 67 = .ok (.bipush 8, 2) := by decide +kernel
theorem dL_stands_69 : decode cL_stands 69 = .ok (.iload 8, 2) := by decide +kernel
theorem dL_stands_71 : decode cL_stands 71 = .ok (.imul, 1) := by decide +kernel
theorem dL_stands_72 : decode cL_stands 72 = .ok (.iload 6, 2) := by decide +kernel
theorem dL_stands_74 : decode cL_stands 74 = .ok (.iadd, 1) := by decide +kernel
theorem dL_stands_75 : decode cL_stands 75 = .ok (.iaload, 1) := by decide +kernel
theorem dL_stands_76 : decode cL_stands 76 = .ok (.aload_n 3, 1) := by decide +kernel
theorem dL_stands_77 : decode cL_stands 77 = .ok (.bipush 8, 2) := by decide +kernel
theorem dL_stands_79 : decode cL_stands 79 = .ok (.iload 6, 2) := by decide +kernel
theorem dL_stands_81 : decode cL_stands 81 = .ok (.imul, 1) := by decide +kernel
theorem dL_stands_82 : decode cL_stands 82 = .ok (.iload 8, 2) := by decide +kernel
theorem dL_stands_84 : decode cL_stands 84 = .ok (.iadd, 1) := by decide +kernel
theorem dL_stands_85 : decode cL_stands 85 = .ok (.iaload, 1) := by decide +kernel
theorem dL_stands_86 : decode cL_stands 86 = .ok (.isub, 1) := by decide +kernel
theorem dL_stands_87 : decode cL_stands 87 = .ok (.iadd, 1) := by decide +kernel
theorem dL_stands_88 : decode cL_stands 88 = .ok (.istore 7, 2) := by decide +kernel
theorem dL_stands_90 : decode cL_stands 90 = .ok (.iinc 8 1, 3) := by decide +kernel
theorem dL_stands_93 : decode cL_stands 93 = .ok (.goto (-70), 3) := by decide +kernel
theorem dL_stands_96 : decode cL_stands 96 = .ok (.aload_n 0, 1) := by decide +kernel
theorem dL_stands_97 : decode cL_stands 97 = .ok (.iload 6, 2) := by decide +kernel
theorem dL_stands_99 : decode cL_stands 99 = .ok (.invokevirtual 69, 3) := by decide +kernel
theorem dL_stands_102 : decode cL_stands 102 = .ok (.iload 7, 2) := by decide +kernel
theorem dL_stands_104 : decode cL_stands 104 = .ok (.if_icmp .ne 70, 3) := by decide +kernel
theorem dL_stands_107 : decode cL_stands 107 = .ok (.aload_n 0, 1) := by decide +kernel
theorem dL_stands_108 : decode cL_stands 108 = .ok (.iload 6, 2) := by decide +kernel
theorem dL_stands_110 : decode cL_stands 110 = .ok (.iconst 0, 1) := by decide +kernel
theorem dL_stands_111 : decode cL_stands 111 = .ok (.invokevirtual 72, 3) := by decide +kernel
theorem dL_stands_114 : decode cL_stands 114 = .ok (.aload_n 1, 1) := by decide +kernel
theorem dL_stands_115 : decode cL_stands 115 = .ok (.iconst 1, 1) := by decide +kernel
theorem dL_stands_116 : decode cL_stands 116 = .ok (.iload 6, 2) := by decide +kernel
theorem dL_stands_118 : decode cL_stands 118 = .ok (.iadd, 1) := by decide +kernel
theorem dL_stands_119 : decode cL_stands 119 = .ok (.iaload, 1) := by decide +kernel
theorem dL_stands_120 : decode cL_stands 120 = .ok (.if_icmp .ne 54, 3) := by decide +kernel
theorem dL_stands_123 : decode cL_stands 123 = .ok (.aload_n 0, 1) := by decide +kernel
theorem dL_stands_124 : decode cL_stands 124 = .ok (.iload 6, 2) := by decide +kernel
theorem dL_stands_126 : decode cL_stands 126 = .ok (.iconst 1, 1) := by decide +kernel
theorem dL_stands_127 : decode cL_stands 127 = .ok (.invokevirtual 72, 3) := by decide +kernel
theorem dL_stands_130 : decode cL_stands 130 = .ok (.aload_n 1, 1) := by decide +kernel
theorem dL_stands_131 : decode cL_stands 131 = .ok (.aload_n 2, 1) := by decide +kernel
theorem dL_stands_132 : decode cL_stands 132 = .ok (.iload 6, 2) := by decide +kernel
theorem dL_stands_134 : decode cL_stands 134 = .ok (.invokestatic 42, 3) := by decide +kernel
theorem dL_stands_137 : decode cL_stands 137 = .ok (.if_icmp .ne 37, 3) := by decide +kernel
theorem dL_stands_140 : decode cL_stands 140 = .ok (.aload_n 0, 1) := by decide +kernel
theorem dL_stands_141 : decode cL_stands 141 = .ok (.iload 6, 2) := by decide +kernel
theorem dL_stands_143 : decode cL_stands 143 = .ok (.iconst 2, 1) := by decide +kernel
theorem dL_stands_144 : decode cL_stands 144 = .ok (.invokevirtual 72, 3) := by decide +kernel
theorem dL_stands_147 : decode cL_stands 147 = .ok (.aload_n 1, 1) := by decide +kernel
theorem dL_stands_148 : decode cL_stands 148 = .ok (.bipush 9, 2) := by decide +kernel
theorem dL_stands_150 : decode cL_stands 150 = .ok (.iload 6, 2) := by decide +kernel
theorem dL_stands_152 : decode cL_stands 152 = .ok (.iadd, 1) := by decide +kernel
theorem dL_stands_153 : decode cL_stands 153 = .ok (.iaload, 1) := by decide +kernel
theorem dL_stands_154 : decode cL_stands 154 = .ok (.if_icmp .ne 20, 3) := by decide +kernel
theorem dL_stands_157 : decode cL_stands 157 = .ok (.aload_n 0, 1) := by decide +kernel
theorem dL_stands_158 : decode cL_stands 158 = .ok (.iload 6, 2) := by decide +kernel
theorem dL_stands_160 : decode cL_stands 160 = .ok (.iconst 3, 1) := by decide +kernel
theorem dL_stands_161 : decode cL_stands 161 = .ok (.invokevirtual 72, 3) := by decide +kernel
theorem dL_stands_164 : decode cL_stands 164 = .ok (.aload_n 1, 1) := by decide +kernel
theorem dL_stands_165 : decode cL_stands 165 = .ok (.bipush 17, 2) := by decide +kernel
theorem dL_stands_167 : decode cL_stands 167 = .ok (.iload 6, 2) := by decide +kernel
theorem dL_stands_169 : decode cL_stands 169 = .ok (.iadd, 1) := by decide +kernel
theorem dL_stands_170 : decode cL_stands 170 = .ok (.iaload, 1) := by decide +kernel
theorem dL_stands_171 : decode cL_stands 171 = .ok (.if_icmp .eq 5, 3) := by decide +kernel
theorem dL_stands_174 : decode cL_stands 174 = .ok (.iconst 0, 1) := by decide +kernel
theorem dL_stands_175 : decode cL_stands 175 = .ok (.ireturn, 1) := by decide +kernel
theorem dL_stands_176 : decode cL_stands 176 = .ok (.iload 4, 2) := by decide +kernel
theorem dL_stands_178 : decode cL_stands 178 = .ok (.aload_n 1, 1) := by decide +kernel
theorem dL_stands_179 : decode cL_stands 179 = .ok (.bipush 17, 2) := by decide +kernel
theorem dL_stands_181 : decode cL_stands 181 = .ok (.iload 6, 2) := by decide +kernel
theorem dL_stands_183 : decode cL_stands 183 = .ok (.iadd, 1) := by decide +kernel
theorem dL_stands_184 : decode cL_stands 184 = .ok (.iaload, 1) := by decide +kernel
theorem dL_stands_185 : decode cL_stands 185 = .ok (.iadd, 1) := by decide +kernel
theorem dL_stands_186 : decode cL_stands 186 = .ok (.istore 4, 2) := by decide +kernel
theorem dL_stands_188 : decode cL_stands 188 = .ok (.iinc 6 1, 3) := by decide +kernel
theorem dL_stands_191 : decode cL_stands 191 = .ok (.goto (-182), 3) := by decide +kernel
theorem dL_stands_194 : decode cL_stands 194 = .ok (.iconst 0, 1) := by decide +kernel
theorem dL_stands_195 : decode cL_stands 195 = .ok (.istore 6, 2) := by decide +kernel
theorem dL_stands_197 : decode cL_stands 197 = .ok (.iload 6, 2) := by decide +kernel
theorem dL_stands_199 : decode cL_stands 199 = .ok (.aload_n 1, 1) := by decide +kernel
theorem dL_stands_200 : decode cL_stands 200 = .ok (.bipush 25, 2) := by decide +kernel
theorem dL_stands_202 : decode cL_stands 202 = .ok (.iaload, 1) := by decide +kernel
theorem dL_stands_203 : decode cL_stands 203 = .ok (.if_icmp .ge 127, 3) := by decide +kernel
theorem dL_stands_206 : decode cL_stands 206 = .ok (.bipush 8, 2) := by decide +kernel
theorem dL_stands_208 : decode cL_stands 208 = .ok (.iload 6, 2) := by decide +kernel
theorem dL_stands_210 : decode cL_stands 210 = .ok (.imul, 1) := by decide +kernel
theorem dL_stands_211 : decode cL_stands 211 = .ok (.istore 7, 2) := by decide +kernel
theorem dL_stands_213 : decode cL_stands 213 = .ok (.iconst 0, 1) := by decide +kernel
theorem dL_stands_214 : decode cL_stands 214 = .ok (.istore 8, 2) := by decide +kernel
theorem dL_stands_216 : decode cL_stands 216 = .ok (.iload 8, 2) := by decide +kernel
theorem dL_stands_218 : decode cL_stands 218 = .ok (.bipush 6, 2) := by decide +kernel
theorem dL_stands_220 : decode cL_stands 220 = .ok (.if_icmp .ge 29, 3) := by decide +kernel
theorem dL_stands_223 : decode cL_stands 223 = .ok (.aload_n 0, 1) := by decide +kernel
theorem dL_stands_224 : decode cL_stands 224 = .ok (.iload 6, 2) := by decide +kernel
theorem dL_stands_226 : decode cL_stands 226 = .ok (.iload 8, 2) := by decide +kernel
theorem dL_stands_228 : decode cL_stands 228 = .ok (.invokevirtual 75, 3) := by decide +kernel
theorem dL_stands_231 : decode cL_stands 231 = .ok (.aload_n 2, 1) := by decide +kernel
theorem dL_stands_232 : decode cL_stands 232 = .ok (.iload 7, 2) := by decide +kernel
theorem dL_stands_234 : decode cL_stands 234 = .ok (.iload 8, 2) := by decide +kernel
theorem dL_stands_236 : decode cL_stands 236 = .ok (.iadd, 1) := by decide +kernel
theorem dL_stands_237 : decode cL_stands 237 = .ok (.iaload, 1) := by decide +kernel
theorem dL_stands_238 : decode cL_stands 238 = .ok (.if_icmp .eq 5, 3) := by decide +kernel
theorem dL_stands_241 : decode cL_stands 241 = .ok (.iconst 0, 1) := by decide +kernel
theorem dL_stands_242 : decode cL_stands 242 = .ok (.ireturn, 1) := by decide +kernel
theorem dL_stands_243 : decode cL_stands 243 = .ok (.iinc 8 1, 3) := by decide +kernel
theorem dL_stands_246 : decode cL_stands 246 = .ok (.goto (-30), 3) := by decide +kernel
theorem dL_stands_249 : decode cL_stands 249 = .ok (.aload_n 0, 1) := by decide +kernel
theorem dL_stands_250 : decode cL_stands 250 = .ok (.iload 6, 2) := by decide +kernel
theorem dL_stands_252 : decode cL_stands 252 = .ok (.bipush 6, 2) := by decide +kernel
theorem dL_stands_254 : decode cL_stands 254 = .ok (.invokevirtual 75, 3) := by decide +kernel
theorem dL_stands_257 : decode cL_stands 257 = .ok (.aload_n 2, 1) := by decide +kernel
theorem dL_stands_258 : decode cL_stands 258 = .ok (.iload 7, 2) := by decide +kernel
theorem dL_stands_260 : decode cL_stands 260 = .ok (.invokestatic 39, 3) := by decide +kernel
theorem dL_stands_263 : decode cL_stands 263 = .ok (.if_icmp .ne 39, 3) := by decide +kernel
theorem dL_stands_266 : decode cL_stands 266 = .ok (.aload_n 0, 1) := by decide +kernel
theorem dL_stands_267 : decode cL_stands 267 = .ok (.iload 6, 2) := by decide +kernel
theorem dL_stands_269 : decode cL_stands 269 = .ok (.bipush 7, 2) := by decide +kernel
theorem dL_stands_271 : decode cL_stands 271 = .ok (.invokevirtual 75, 3) := by decide +kernel
theorem dL_stands_274 : decode cL_stands 274 = .ok (.aload_n 2, 1) := by decide +kernel
theorem dL_stands_275 : decode cL_stands 275 = .ok (.iload 7, 2) := by decide +kernel
theorem dL_stands_277 : decode cL_stands 277 = .ok (.bipush 7, 2) := by decide +kernel
theorem dL_stands_279 : decode cL_stands 279 = .ok (.iadd, 1) := by decide +kernel
theorem dL_stands_280 : decode cL_stands 280 = .ok (.iaload, 1) := by decide +kernel
theorem dL_stands_281 : decode cL_stands 281 = .ok (.if_icmp .ne 21, 3) := by decide +kernel
theorem dL_stands_284 : decode cL_stands 284 = .ok (.aload_n 0, 1) := by decide +kernel
theorem dL_stands_285 : decode cL_stands 285 = .ok (.iload 6, 2) := by decide +kernel
theorem dL_stands_287 : decode cL_stands 287 = .ok (.bipush 8, 2) := by decide +kernel
theorem dL_stands_289 : decode cL_stands 289 = .ok (.invokevirtual 75, 3) := by decide +kernel
theorem dL_stands_292 : decode cL_stands 292 = .ok (.aload_n 2, 1) := by decide +kernel
theorem dL_stands_293 : decode cL_stands 293 = .ok (.iload 7, 2) := by decide +kernel
theorem dL_stands_295 : decode cL_stands 295 = .ok (.bipush 6, 2) := by decide +kernel
theorem dL_stands_297 : decode cL_stands 297 = .ok (.iadd, 1) := by decide +kernel
theorem dL_stands_298 : decode cL_stands 298 = .ok (.iaload, 1) := by decide +kernel
theorem dL_stands_299 : decode cL_stands 299 = .ok (.if_icmp .eq 5, 3) := by decide +kernel
theorem dL_stands_302 : decode cL_stands 302 = .ok (.iconst 0, 1) := by decide +kernel
theorem dL_stands_303 : decode cL_stands 303 = .ok (.ireturn, 1) := by decide +kernel
theorem dL_stands_304 : decode cL_stands 304 = .ok (.iload 5, 2) := by decide +kernel
theorem dL_stands_306 : decode cL_stands 306 = .ok (.aload_n 2, 1) := by decide +kernel
theorem dL_stands_307 : decode cL_stands 307 = .ok (.iload 7, 2) := by decide +kernel
theorem dL_stands_309 : decode cL_stands 309 = .ok (.bipush 7, 2) := by decide +kernel
theorem dL_stands_311 : decode cL_stands 311 = .ok (.iadd, 1) := by decide +kernel
theorem dL_stands_312 : decode cL_stands 312 = .ok (.iaload, 1) := by decide +kernel
theorem dL_stands_313 : decode cL_stands 313 = .ok (.ifCond .ne 7, 3) := by decide +kernel
theorem dL_stands_316 : decode cL_stands 316 = .ok (.iconst 1, 1) := by decide +kernel
theorem dL_stands_317 : decode cL_stands 317 = .ok (.goto 4, 3) := by decide +kernel
theorem dL_stands_320 : decode cL_stands 320 = .ok (.iconst 0, 1) := by decide +kernel
theorem dL_stands_321 : decode cL_stands 321 = .ok (.iadd, 1) := by decide +kernel
theorem dL_stands_322 : decode cL_stands 322 = .ok (.istore 5, 2) := by decide +kernel
theorem dL_stands_324 : decode cL_stands 324 = .ok (.iinc 6 1, 3) := by decide +kernel
theorem dL_stands_327 : decode cL_stands 327 = .ok (.goto (-130), 3) := by decide +kernel
theorem dL_stands_330 : decode cL_stands 330 = .ok (.aload_n 0, 1) := by decide +kernel
theorem dL_stands_331 : decode cL_stands 331 = .ok (.iconst 0, 1) := by decide +kernel
theorem dL_stands_332 : decode cL_stands 332 = .ok (.invokevirtual 78, 3) := by decide +kernel
theorem dL_stands_335 : decode cL_stands 335 = .ok (.aload_n 1, 1) := by decide +kernel
theorem dL_stands_336 : decode cL_stands 336 = .ok (.iconst 0, 1) := by decide +kernel
theorem dL_stands_337 : decode cL_stands 337 = .ok (.iaload, 1) := by decide +kernel
theorem dL_stands_338 : decode cL_stands 338 = .ok (.if_icmp .ne 51, 3) := by decide +kernel
theorem dL_stands_341 : decode cL_stands 341 = .ok (.aload_n 0, 1) := by decide +kernel
theorem dL_stands_342 : decode cL_stands 342 = .ok (.iconst 1, 1) := by decide +kernel
theorem dL_stands_343 : decode cL_stands 343 = .ok (.invokevirtual 78, 3) := by decide +kernel
theorem dL_stands_346 : decode cL_stands 346 = .ok (.aload_n 1, 1) := by decide +kernel
theorem dL_stands_347 : decode cL_stands 347 = .ok (.bipush 25, 2) := by decide +kernel
theorem dL_stands_349 : decode cL_stands 349 = .ok (.iaload, 1) := by decide +kernel
theorem dL_stands_350 : decode cL_stands 350 = .ok (.if_icmp .ne 39, 3) := by decide +kernel
theorem dL_stands_353 : decode cL_stands 353 = .ok (.aload_n 0, 1) := by decide +kernel
theorem dL_stands_354 : decode cL_stands 354 = .ok (.iconst 2, 1) := by decide +kernel
theorem dL_stands_355 : decode cL_stands 355 = .ok (.invokevirtual 78, 3) := by decide +kernel
theorem dL_stands_358 : decode cL_stands 358 = .ok (.iload 5, 2) := by decide +kernel
theorem dL_stands_360 : decode cL_stands 360 = .ok (.if_icmp .ne 29, 3) := by decide +kernel
theorem dL_stands_363 : decode cL_stands 363 = .ok (.aload_n 0, 1) := by decide +kernel
theorem dL_stands_364 : decode cL_stands 364 = .ok (.iconst 3, 1) := by decide +kernel
theorem dL_stands_365 : decode cL_stands 365 = .ok (.invokevirtual 78, 3) := by decide +kernel
theorem dL_stands_368 : decode cL_stands 368 = .ok (.aload_n 1, 1) := by decide +kernel
theorem dL_stands_369 : decode cL_stands 369 = .ok (.bipush 26, 2) := by decide +kernel
theorem dL_stands_371 : decode cL_stands 371 = .ok (.iaload, 1) := by decide +kernel
theorem dL_stands_372 : decode cL_stands 372 = .ok (.if_icmp .ne 17, 3) := by decide +kernel
theorem dL_stands_375 : decode cL_stands 375 = .ok (.aload_n 0, 1) := by decide +kernel
theorem dL_stands_376 : decode cL_stands 376 = .ok (.iconst 4, 1) := by decide +kernel
theorem dL_stands_377 : decode cL_stands 377 = .ok (.invokevirtual 78, 3) := by decide +kernel
theorem dL_stands_380 : decode cL_stands 380 = .ok (.iload 4, 2) := by decide +kernel
theorem dL_stands_382 : decode cL_stands 382 = .ok (.if_icmp .ne 7, 3) := by decide +kernel
theorem dL_stands_385 : decode cL_stands 385 = .ok (.iconst 1, 1) := by decide +kernel
theorem dL_stands_386 : decode cL_stands 386 = .ok (.goto 4, 3) := by decide +kernel
theorem dL_stands_389 : decode cL_stands 389 = .ok (.iconst 0, 1) := by decide +kernel
theorem dL_stands_390 : decode cL_stands 390 = .ok (.ireturn, 1) := by decide +kernel
theorem dL_law_0 : decode cL_law 0 = .ok (.new 15, 3) := by decide +kernel
theorem dL_law_3 : decode cL_law 3 = .ok (.dup, 1) := by decide +kernel
theorem dL_law_4 : decode cL_law 4 = .ok (.invokespecial 81, 3) := by decide +kernel
theorem dL_law_7 : decode cL_law 7 = .ok (.astore_n 1, 1) := by decide +kernel
theorem dL_law_8 : decode cL_law 8 = .ok (.iconst 4, 1) := by decide +kernel
theorem dL_law_9 : decode cL_law 9 = .ok (.newarray .int, 2) := by decide +kernel
theorem dL_law_11 : decode cL_law 11 = .ok (.astore_n 2, 1) := by decide +kernel
theorem dL_law_12 : decode cL_law 12 = .ok (.bipush 16, 2) := by decide +kernel
theorem dL_law_14 : decode cL_law 14 = .ok (.newarray .int, 2) := by decide +kernel
theorem dL_law_16 : decode cL_law 16 = .ok (.astore_n 3, 1) := by decide +kernel
theorem dL_law_17 : decode cL_law 17 = .ok (.bipush 27, 2) := by decide +kernel
theorem dL_law_19 : decode cL_law 19 = .ok (.newarray .int, 2) := by decide +kernel
theorem dL_law_21 : decode cL_law 21 = .ok (.astore 4, 2) := by decide +kernel
theorem dL_law_23 : decode cL_law 23 = .ok (.bipush 64, 2) := by decide +kernel
theorem dL_law_25 : decode cL_law 25 = .ok (.newarray .int, 2) := by decide +kernel
theorem dL_law_27 : decode cL_law 27 = .ok (.astore 5, 2) := by decide +kernel
theorem dL_law_29 : decode cL_law 29 = .ok (.bipush 64, 2) := by decide +kernel
theorem dL_law_31 : decode cL_law 31 = .ok (.newarray .int, 2) := by decide +kernel
theorem dL_law_33 : decode cL_law 33 = .ok (.astore 6, 2) := by decide +kernel
theorem dL_law_35 : decode cL_law 35 = .ok (.bipush 64, 2) := by decide +kernel
theorem dL_law_37 : decode cL_law 37 = .ok (.newarray .int, 2) := by decide +kernel
theorem dL_law_39 : decode cL_law 39 = .ok (.astore 7, 2) := by decide +kernel
theorem dL_law_41 : decode cL_law 41 = .ok (.aload_n 0, 1) := by decide +kernel
theorem dL_law_42 : decode cL_law 42 = .ok (.iconst 0, 1) := by decide +kernel
theorem dL_law_43 : decode cL_law 43 = .ok (.invokestatic 20, 3) := by decide +kernel
theorem dL_law_46 : decode cL_law 46 = .ok (.aload_n 2, 1) := by decide +kernel
theorem dL_law_47 : decode cL_law 47 = .ok (.aload_n 3, 1) := by decide +kernel
theorem dL_law_48 : decode cL_law 48 = .ok (.invokestatic 82, 3) := by decide +kernel
theorem dL_law_51 : decode cL_law 51 = .ok (.istore 8, 2) := by decide +kernel
theorem dL_law_53 : decode cL_law 53 = .ok (.aload_n 1, 1) := by decide +kernel
theorem dL_law_54 : decode cL_law 54 = .ok (.aload_n 3, 1) := by decide +kernel
theorem dL_law_55 : decode cL_law 55 = .ok (.iload 8, 2) := by decide +kernel
theorem dL_law_57 : decode cL_law 57 = .ok (.invokestatic 86, 3) := by decide +kernel
theorem dL_law_60 : decode cL_law 60 = .ok (.ifCond .eq 20, 3) := by decide +kernel
theorem dL_law_63 : decode cL_law 63 = .ok (.aload_n 1, 1) := by decide +kernel
theorem dL_law_64 : decode cL_law 64 = .ok (.invokevirtual 90, 3) := by decide +kernel
theorem dL_law_67 : decode cL_law 67 = .ok (.iload 8, 2) := by decide +kernel
theorem dL_law_69 : decode cL_law 69 = .ok (.if_icmp .ne 11, 3) := by decide +kernel
theorem dL_law_72 : decode cL_law 72 = .ok (.aload_n 1, 1) := by decide +kernel
theorem dL_law_73 : decode cL_law 73 = .ok (.invokevirtual 94, 3) := by decide +kernel
theorem dL_law_76 : decode cL_law 76 = .ok (.iconst 1, 1) := by decide +kernel
theorem dL_law_77 : decode cL_law 77 = .ok (.if_icmp .eq 5, 3) := by decide +kernel
theorem dL_law_80 : decode cL_law 80 = .ok (.iconst 0, 1) := by decide +kernel
theorem dL_law_81 : decode cL_law 81 = .ok (.ireturn, 1) := by decide +kernel
theorem dL_law_82 : decode cL_law 82 = .ok (.iconst 0, 1) := by decide +kernel
theorem dL_law_83 : decode cL_law 83 = .ok (.istore 9, 2) := by decide +kernel
theorem dL_law_85 : decode cL_law 85 = .ok (.iload 9, 2) := by decide +kernel
theorem dL_law_87 : decode cL_law 87 = .ok (.iconst 4, 1) := by decide +kernel
theorem dL_law_88 : decode cL_law 88 = .ok (.if_icmp .ge 24, 3) := by decide +kernel
theorem dL_law_91 : decode cL_law 91 = .ok (.aload_n 1, 1) := by decide +kernel
theorem dL_law_92 : decode cL_law 92 = .ok (.iload 9, 2) := by decide +kernel
theorem dL_law_94 : decode cL_law 94 = .ok (.invokevirtual 97, 3) := by decide +kernel
theorem dL_law_97 : decode cL_law 97 = .ok (.aload_n 2, 1) := by decide +kernel
theorem dL_law_98 : decode cL_law 98 = .ok (.iload 9, 2) := by decide +kernel
theorem dL_law_100 : decode cL_law 100 = .ok (.iaload, 1) := by decide +kernel
theorem dL_law_101 : decode cL_law 101 = .ok (.if_icmp .eq 5, 3) := by decide +kernel
theorem dL_law_104 : decode cL_law 104 = .ok (.iconst 0, 1) := by decide +kernel
theorem dL_law_105 : decode cL_law 105 = .ok (.ireturn, 1) := by decide +kernel
theorem dL_law_106 : decode cL_law 106 = .ok (.iinc 9 1, 3) := by decide +kernel
theorem dL_law_109 : decode cL_law 109 = .ok (.goto (-24), 3) := by decide +kernel
theorem dL_law_112 : decode cL_law 112 = .ok (.aload_n 1, 1) := by decide +kernel
theorem dL_law_113 : decode cL_law 113 = .ok (.aload_n 0, 1) := by decide +kernel
theorem dL_law_114 : decode cL_law 114 = .ok (.iconst 1, 1) := by decide +kernel
theorem dL_law_115 : decode cL_law 115 = .ok (.bipush 8, 2) := by decide +kernel
theorem dL_law_117 : decode cL_law 117 = .ok (.aload 4, 2) := by decide +kernel
theorem dL_law_119 : decode cL_law 119 = .ok (.aload 5, 2) := by decide +kernel
theorem dL_law_121 : decode cL_law 121 = .ok (.invokestatic 100, 3) := by decide +kernel
theorem dL_law_124 : decode cL_law 124 = .ok (.ifCond .eq 32, 3) := by decide +kernel
theorem dL_law_127 : decode cL_law 127 = .ok (.aload_n 1, 1) := by decide +kernel
theorem dL_law_128 : decode cL_law 128 = .ok (.aload_n 0, 1) := by decide +kernel
theorem dL_law_129 : decode cL_law 129 = .ok (.bipush 10, 2) := by decide +kernel
theorem dL_law_131 : decode cL_law 131 = .ok (.bipush 8, 2) := by decide +kernel
theorem dL_law_133 : decode cL_law 133 = .ok (.aload 4, 2) := by decide +kernel
theorem dL_law_135 : decode cL_law 135 = .ok (.aload 7, 2) := by decide +kernel
theorem dL_law_137 : decode cL_law 137 = .ok (.invokestatic 104, 3) := by decide +kernel
theorem dL_law_140 : decode cL_law 140 = .ok (.ifCond .eq 16, 3) := by decide +kernel
theorem dL_law_143 : decode cL_law 143 = .ok (.aload_n 1, 1) := by decide +kernel
theorem dL_law_144 : decode cL_law 144 = .ok (.aload 4, 2) := by decide +kernel
theorem dL_law_146 : decode cL_law 146 = .ok (.aload 7, 2) := by decide +kernel
theorem dL_law_148 : decode cL_law 148 = .ok (.aload 6, 2) := by decide +kernel
theorem dL_law_150 : decode cL_law 150 = .ok (.invokestatic 107, 3) := by decide +kernel
theorem dL_law_153 : decode cL_law 153 = .ok (.ifCond .ne 5, 3) := by decide +kernel
theorem dL_law_156 : decode cL_law 156 = .ok (.iconst 0, 1) := by decide +kernel
theorem dL_law_157 : decode cL_law 157 = .ok (.ireturn, 1) := by decide +kernel
theorem dL_law_158 : decode cL_law 158 = .ok (.iconst 0, 1) := by decide +kernel
theorem dL_law_159 : decode cL_law 159 = .ok (.istore 9, 2) := by decide +kernel
theorem dL_law_161 : decode cL_law 161 = .ok (.iload 9, 2) := by decide +kernel
theorem dL_law_163 : decode cL_law 163 = .ok (.aload 4, 2) := by decide +kernel
theorem dL_law_165 : decode cL_law 165 = .ok (.bipush 25, 2) := by decide +kernel
theorem dL_law_167 : decode cL_law 167 = .ok (.iaload, 1) := by decide +kernel
theorem dL_law_168 : decode cL_law 168 = .ok (.if_icmp .ge 79, 3) := by decide +kernel
theorem dL_law_171 : decode cL_law 171 = .ok (.iconst 0, 1) := by decide +kernel
theorem dL_law_172 : decode cL_law 172 = .ok (.istore 10, 2) := by decide +kernel
theorem dL_law_174 : decode cL_law 174 = .ok (.iload 10, 2) := by decide +kernel
theorem dL_law_176 : decode cL_law 176 = .ok (.iconst 5, 1) := by decide +kernel
theorem dL_law_177 : decode cL_law 177 = .ok (.if_icmp .ge 64, 3) := by decide +kernel
theorem dL_law_180 : decode cL_law 180 = .ok (.aload_n 1, 1) := by decide +kernel
theorem dL_law_181 : decode cL_law 181 = .ok (.iload 9, 2) := by decide +kernel
theorem dL_law_183 : decode cL_law 183 = .ok (.iload 10, 2) := by decide +kernel
theorem dL_law_185 : decode cL_law 185 = .ok (.invokevirtual 111, 3) := by decide +kernel
theorem dL_law_188 : decode cL_law 188 = .ok (.iload 10, 2) := by decide +kernel
theorem dL_law_190 : decode cL_law 190 = .ok (.ifCond .eq 34, 3) := by decide +kernel
theorem dL_law_193 : decode cL_law 193 = .ok (.iload 10, 2) := by decide +kernel
theorem dL_law_195 : decode cL_law 195 = .ok (.aload 7, 2) := by decide +kernel
theorem dL_law_197 : decode cL_law 197 = .ok (.bipush 8, 2) := by decide +kernel
theorem dL_law_199 : decode cL_law 199 = .ok (.iload 9, 2) := by decide +kernel
theorem dL_law_201 : decode cL_law 201 = .ok (.imul, 1) := by decide +kernel
theorem dL_law_202 : decode cL_law 202 = .ok (.iaload, 1) := by decide +kernel
theorem dL_law_203 : decode cL_law 203 = .ok (.if_icmp .eq 21, 3) := by decide +kernel
theorem dL_law_206 : decode cL_law 206 = .ok (.iload 10, 2) := by decide +kernel
theorem dL_law_208 : decode cL_law 208 = .ok (.iconst 1, 1) := by decide +kernel
theorem dL_law_209 : decode cL_law 209 = .ok (.if_icmp .ne 20, 3) := by decide +kernel
theorem dL_law_212 : decode cL_law 212 = .ok (.aload 7, 2) := by decide +kernel
theorem dL_law_214 : decode cL_law 214 = .ok (.bipush 8, 2) := by decide +kernel
theorem dL_law_216 : decode cL_law 216 = .ok (.iload 9, 2) := by decide +kernel
theorem dL_law_218 : decode cL_law 218 = .ok (.imul, 1) := by decide +kernel
theorem dL_law_219 : decode cL_law 219 = .ok (.iaload, 1) := by decide +kernel
theorem dL_law_220 : decode cL_law 220 = .ok (.iconst 4, 1) := by decide +kernel
theorem dL_law_221 : decode cL_law 221 = .ok (.if_icmp .ne 8, 3) := by decide +kernel
theorem dL_law_224 : decode cL_law 224 = .ok (.iload 9, 2) := by decide +kernel
theorem dL_law_226 : decode cL_law 226 = .ok (.goto 4, 3) := by decide +kernel
theorem dL_law_229 : decode cL_law 229 = .ok (.iconst (-1), 1) := by decide +kernel
theorem dL_law_230 : decode cL_law 230 = .ok (.if_icmp .eq 5, 3) := by decide +kernel
theorem dL_law_233 : decode cL_law 233 = .ok (.iconst 0, 1) := by decide +kernel
theorem dL_law_234 : decode cL_law 234 = .ok (.ireturn, 1) := by decide +kernel
theorem dL_law_235 : decode cL_law 235 = .ok (.iinc 10 1, 3) := by decide +kernel
theorem dL_law_238 : decode cL_law 238 = .ok (.goto (-64), 3) := by decide +kernel
theorem dL_law_241 : decode cL_law 241 = .ok (.iinc 9 1, 3) := by decide +kernel
theorem dL_law_244 : decode cL_law 244 = .ok (.goto (-83), 3) := by decide +kernel
theorem dL_law_247 : decode cL_law 247 = .ok (.iconst 1, 1) := by decide +kernel
theorem dL_law_248 : decode cL_law 248 = .ok (.newarray .long, 2) := by decide +kernel
theorem dL_law_250 : decode cL_law 250 = .ok (.astore 9, 2) := by decide +kernel
theorem dL_law_252 : decode cL_law 252 = .ok (.iconst 0, 1) := by decide +kernel
theorem dL_law_253 : decode cL_law 253 = .ok (.istore 10, 2) := by decide +kernel
theorem dL_law_255 : decode cL_law 255 = .ok (.iload 10, 2) := by decide +kernel
theorem dL_law_257 : decode cL_law 257 = .ok (.bipush 14, 2) := by decide +kernel
theorem dL_law_259 : decode cL_law 259 = .ok (.if_icmp .ge 676, 3) := by decide +kernel
theorem dL_law_262 : decode cL_law 262 = .ok (.aload_n 0, 1) := by decide +kernel
theorem dL_law_263 : decode cL_law 263 = .ok (.bipush 14, 2) := by decide +kernel
theorem dL_law_265 : decode cL_law 265 = .ok (.iload 10, 2) := by decide +kernel
theorem dL_law_267 : decode cL_law 267 = .ok (.iadd, 1) := by decide +kernel
theorem dL_law_268 : decode cL_law 268 = .ok (.invokestatic 20, 3) := by decide +kernel
theorem dL_law_271 : decode cL_law 271 = .ok (.istore 11, 2) := by decide +kernel
theorem dL_law_273 : decode cL_law 273 = .ok (.iload 11, 2) := by decide +kernel
theorem dL_law_275 : decode cL_law 275 = .ok (.iconst 2, 1) := by decide +kernel
theorem dL_law_276 : decode cL_law 276 = .ok (.ishr, 1) := by decide +kernel
theorem dL_law_277 : decode cL_law 277 = .ok (.aload 4, 2) := by decide +kernel
theorem dL_law_279 : decode cL_law 279 = .ok (.bipush 25, 2) := by decide +kernel
theorem dL_law_281 : decode cL_law 281 = .ok (.iaload, 1) := by decide +kernel
theorem dL_law_282 : decode cL_law 282 = .ok (.invokestatic 8, 3) := by decide +kernel
theorem dL_law_285 : decode cL_law 285 = .ok (.istore 12, 2) := by decide +kernel
theorem dL_law_287 : decode cL_law 287 = .ok (.bipush 8, 2) := by decide +kernel
theorem dL_law_289 : decode cL_law 289 = .ok (.iload 12, 2) := by decide +kernel
theorem dL_law_291 : decode cL_law 291 = .ok (.imul, 1) := by decide +kernel
theorem dL_law_292 : decode cL_law 292 = .ok (.istore 13, 2) := by decide +kernel
theorem dL_law_294 : decode cL_law 294 = .ok (.aload 4, 2) := by decide +kernel
theorem dL_law_296 : decode cL_law 296 = .ok (.aload_n 2, 1) := by decide +kernel
theorem dL_law_297 : decode cL_law 297 = .ok (.aload 7, 2) := by decide +kernel
theorem dL_law_299 : decode cL_law 299 = .ok (.iload 13, 2) := by decide +kernel
theorem dL_law_301 : decode cL_law 301 = .ok (.iconst 2, 1) := by decide +kernel
theorem dL_law_302 : decode cL_law 302 = .ok (.iadd, 1) := by decide +kernel
theorem dL_law_303 : decode cL_law 303 = .ok (.iaload, 1) := by decide +kernel
theorem dL_law_304 : decode cL_law 304 = .ok (.aload 7, 2) := by decide +kernel
theorem dL_law_306 : decode cL_law 306 = .ok (.iload 13, 2) := by decide +kernel
theorem dL_law_308 : decode cL_law 308 = .ok (.iconst 3, 1) := by decide +kernel
theorem dL_law_309 : decode cL_law 309 = .ok (.iadd, 1) := by decide +kernel
theorem dL_law_310 : decode cL_law 310 = .ok (.iaload, 1) := by decide +kernel
theorem dL_law_311 : decode cL_law 311 = .ok (.invokestatic 46, 3) := by decide +kernel
theorem dL_law_314 : decode cL_law 314 = .ok (.istore 14, 2) := by decide +kernel
theorem dL_law_316 : decode cL_law 316 = .ok (.aload_n 1, 1) := by decide +kernel
theorem dL_law_317 : decode cL_law 317 = .ok (.iload 12, 2) := by decide +kernel
theorem dL_law_319 : decode cL_law 319 = .ok (.invokevirtual 114, 3) := by decide +kernel
theorem dL_law_322 : decode cL_law 322 = .ok (.aload 7, 2) := by decide +kernel
theorem dL_law_324 : decode cL_law 324 = .ok (.iload 13, 2) := by decide +kernel
theorem dL_law_326 : decode cL_law 326 = .ok (.bipush 7, 2) := by decide +kernel
theorem dL_law_328 : decode cL_law 328 = .ok (.iadd, 1) := by decide +kernel
theorem dL_law_329 : decode cL_law 329 = .ok (.iaload, 1) := by decide +kernel
theorem dL_law_330 : decode cL_law 330 = .ok (.ifCond .le 8, 3) := by decide +kernel
theorem dL_law_333 : decode cL_law 333 = .ok (.bipush (-103), 2) := by decide +kernel
theorem dL_law_335 : decode cL_law 335 = .ok (.goto 5, 3) := by decide +kernel
theorem dL_law_338 : decode cL_law 338 = .ok (.iload 14, 2) := by decide +kernel
theorem dL_law_340 : decode cL_law 340 = .ok (.if_icmp .eq 5, 3) := by decide +kernel
theorem dL_law_343 : decode cL_law 343 = .ok (.iconst 0, 1) := by decide +kernel
theorem dL_law_344 : decode cL_law 344 = .ok (.ireturn, 1) := by decide +kernel
theorem dL_law_345 : decode cL_law 345 = .ok (.iload 11, 2) := by decide +kernel
theorem dL_law_347 : decode cL_law 347 = .ok (.iconst 4, 1) := by decide +kernel
theorem dL_law_348 : decode cL_law 348 = .ok (.invokestatic 8, 3) := by decide +kernel
theorem dL_law_351 : decode cL_law 351 = .ok (.istore 15, 2) := by decide +kernel
theorem dL_law_353 : decode cL_law 353 = .ok (.iload 15, 2) := by decide +kernel
theorem dL_law_355 : decode cL_law 355 = .ok (.iconst 2, 1) := by decide +kernel
theorem dL_law_356 : decode cL_law 356 = .ok (.if_icmp .ge 135, 3) := by decide +kernel
theorem dL_law_359 : decode cL_law 359 = .ok (.iload 11, 2) := by decide +kernel
theorem dL_law_361 : decode cL_law 361 = .ok (.iconst 5, 1) := by decide +kernel
theorem dL_law_362 : decode cL_law 362 = .ok (.ishr, 1) := by decide +kernel
theorem dL_law_363 : decode cL_law 363 = .ok (.aload 4, 2) := by decide +kernel
theorem dL_law_365 : decode cL_law 365 = .ok (.iconst 0, 1) := by decide +kernel
theorem dL_law_366 : decode cL_law 366 = .ok (.iaload, 1) := by decide +kernel
theorem dL_law_367 : decode cL_law 367 = .ok (.invokestatic 8, 3) := by decide +kernel
theorem dL_law_370 : decode cL_law 370 = .ok (.istore 16, 2) := by decide +kernel
theorem dL_law_372 : decode cL_law 372 = .ok (.iconst 0, 1) := by decide +kernel
theorem dL_law_373 : decode cL_law 373 = .ok (.istore 17, 2) := by decide +kernel
theorem dL_law_375 : decode cL_law 375 = .ok (.iload 17, 2) := by decide +kernel
theorem dL_law_377 : decode cL_law 377 = .ok (.bipush 8, 2) := by decide +kernel
theorem dL_law_379 : decode cL_law 379 = .ok (.if_icmp .ge 43, 3) := by decide +kernel
theorem dL_law_382 : decode cL_law 382 = .ok (.iload 11, 2) := by decide +kernel
theorem dL_law_384 : decode cL_law 384 = .ok (.bipush 8, 2) := by decide +kernel
theorem dL_law_386 : decode cL_law 386 = .ok (.ishr, 1) := by decide +kernel
theorem dL_law_387 : decode cL_law 387 = .ok (.bipush 8, 2) := by decide +kernel
theorem dL_law_389 : decode cL_law 389 = .ok (.invokestatic 8, 3) := by decide +kernel
theorem dL_law_392 : decode cL_law 392 = .ok (.ifCond .le 30, 3) := by decide +kernel
theorem dL_law_395 : decode cL_law 395 = .ok (.iload 14, 2) := by decide +kernel
theorem dL_law_397 : decode cL_law 397 = .ok (.iload 16, 2) := by decide +kernel
theorem dL_law_399 : decode cL_law 399 = .ok (.ishr, 1) := by decide +kernel
theorem dL_law_400 : decode cL_law 400 = .ok (.iconst 1, 1) := by decide +kernel
theorem dL_law_401 : decode cL_law 401 = .ok (.iand, 1) := by decide +kernel
theorem dL_law_402 : decode cL_law 402 = .ok (.ifCond .ne 20, 3) := by decide +kernel
theorem dL_law_405 : decode cL_law 405 = .ok (.iload 16, 2) := by decide +kernel
theorem dL_law_407 : decode cL_law 407 = .ok (.iconst 1, 1) := by decide +kernel
theorem dL_law_408 : decode cL_law 408 = .ok (.iadd, 1) := by decide +kernel
theorem dL_law_409 : decode cL_law 409 = .ok (.aload 4, 2) := by decide +kernel
theorem dL_law_411 : decode cL_law 411 = .ok (.iconst 0, 1) := by decide +kernel
theorem dL_law_412 : decode cL_law 412 = .ok (.iaload, 1) := by decide +kernel
theorem dL_law_413 : decode cL_law 413 = .ok (.irem, 1) := by decide +kernel
theorem dL_law_414 : decode cL_law 414 = .ok (.istore 16, 2) := by decide +kernel
theorem dL_law_416 : decode cL_law 416 = .ok (.iinc 17 1, 3) := by decide +kernel
theorem dL_law_419 : decode cL_law 419 = .ok (.goto (-44), 3) := by decide +kernel
theorem dL_law_422 : decode cL_law 422 = .ok (.aload 7, 2) := by decide +kernel
theorem dL_law_424 : decode cL_law 424 = .ok (.iload 13, 2) := by decide +kernel
theorem dL_law_426 : decode cL_law 426 = .ok (.bipush 7, 2) := by decide +kernel
theorem dL_law_428 : decode cL_law 428 = .ok (.iadd, 1) := by decide +kernel
theorem dL_law_429 : decode cL_law 429 = .ok (.iaload, 1) := by decide +kernel
theorem dL_law_430 : decode cL_law 430 = .ok (.ifCond .ne 18, 3) := by decide +kernel
theorem dL_law_433 : decode cL_law 433 = .ok (.iload 14, 2) := by decide +kernel
theorem dL_law_435 : decode cL_law 435 = .ok (.iload 16, 2) := by decide +kernel
theorem dL_law_437 : decode cL_law 437 = .ok (.ishr, 1) := by decide +kernel
theorem dL_law_438 : decode cL_law 438 = .ok (.iconst 1, 1) := by decide +kernel
theorem dL_law_439 : decode cL_law 439 = .ok (.iand, 1) := by decide +kernel
theorem dL_law_440 : decode cL_law 440 = .ok (.iconst 1, 1) := by decide +kernel
theorem dL_law_441 : decode cL_law 441 = .ok (.if_icmp .ne 7, 3) := by decide +kernel
theorem dL_law_444 : decode cL_law 444 = .ok (.iconst 1, 1) := by decide +kernel
theorem dL_law_445 : decode cL_law 445 = .ok (.goto 4, 3) := by decide +kernel
theorem dL_law_448 : decode cL_law 448 = .ok (.iconst 0, 1) := by decide +kernel
theorem dL_law_449 : decode cL_law 449 = .ok (.istore 17, 2) := by decide +kernel
theorem dL_law_451 : decode cL_law 451 = .ok (.aload_n 1, 1) := by decide +kernel
theorem dL_law_452 : decode cL_law 452 = .ok (.iload 12, 2) := by decide +kernel
theorem dL_law_454 : decode cL_law 454 = .ok (.iload 16, 2) := by decide +kernel
theorem dL_law_456 : decode cL_law 456 = .ok (.invokevirtual 116, 3) := by decide +kernel
theorem dL_law_459 : decode cL_law 459 = .ok (.iload 17, 2) := by decide +kernel
theorem dL_law_461 : decode cL_law 461 = .ok (.ifCond .eq 20, 3) := by decide +kernel
theorem dL_law_464 : decode cL_law 464 = .ok (.aload 4, 2) := by decide +kernel
theorem dL_law_466 : decode cL_law 466 = .ok (.aload_n 2, 1) := by decide +kernel
theorem dL_law_467 : decode cL_law 467 = .ok (.aload 7, 2) := by decide +kernel
theorem dL_law_469 : decode cL_law 469 = .ok (.aload 6, 2) := by decide +kernel
theorem dL_law_471 : decode cL_law 471 = .ok (.iload 12, 2) := by decide +kernel
theorem dL_law_473 : decode cL_law 473 = .ok (.iload 16, 2) := by decide +kernel
theorem dL_law_475 : decode cL_law 475 = .ok (.invokestatic 62, 3) := by decide +kernel
theorem dL_law_478 : decode cL_law 478 = .ok (.goto 5, 3) := by decide +kernel
theorem dL_law_481 : decode cL_law 481 = .ok (.bipush (-103), 2) := by decide +kernel
theorem dL_law_483 : decode cL_law 483 = .ok (.if_icmp .eq 5, 3) := by decide +kernel
theorem dL_law_486 : decode cL_law 486 = .ok (.iconst 0, 1) := by decide +kernel
theorem dL_law_487 : decode cL_law 487 = .ok (.ireturn, 1) := by decide +kernel
theorem dL_law_488 : decode cL_law 488 = .ok (.goto 426, 3) := by decide +kernel
theorem dL_law_491 : decode cL_law 491 = .ok (.iload 15, 2) := by decide +kernel
theorem dL_law_493 : decode cL_law 493 = .ok (.iconst 2, 1) := by decide +kernel
theorem dL_law_494 : decode cL_law 494 = .ok (.if_icmp .ne 103, 3) := by decide +kernel
theorem dL_law_497 : decode cL_law 497 = .ok (.iconst 1, 1) := by decide +kernel
theorem dL_law_498 : decode cL_law 498 = .ok (.iload 11, 2) := by decide +kernel
theorem dL_law_500 : decode cL_law 500 = .ok (.iconst 5, 1) := by decide +kernel
theorem dL_law_501 : decode cL_law 501 = .ok (.ishr, 1) := by decide +kernel
theorem dL_law_502 : decode cL_law 502 = .ok (.iload 11, 2) := by decide +kernel
theorem dL_law_504 : decode cL_law 504 = .ok (.bipush 20, 2) := by decide +kernel
theorem dL_law_506 : decode cL_law 506 = .ok (.ishr, 1) := by decide +kernel
theorem dL_law_507 : decode cL_law 507 = .ok (.iconst 4, 1) := by decide +kernel
theorem dL_law_508 : decode cL_law 508 = .ok (.invokestatic 8, 3) := by decide +kernel
theorem dL_law_511 : decode cL_law 511 = .ok (.ifCond .ne 8, 3) := by decide +kernel
theorem dL_law_514 : decode cL_law 514 = .ok (.bipush 30, 2) := by decide +kernel
theorem dL_law_516 : decode cL_law 516 = .ok (.goto 4, 3) := by decide +kernel
theorem dL_law_519 : decode cL_law 519 = .ok (.iconst 3, 1) := by decide +kernel
theorem dL_law_520 : decode cL_law 520 = .ok (.invokestatic 8, 3) := by decide +kernel
theorem dL_law_523 : decode cL_law 523 = .ok (.iadd, 1) := by decide +kernel
theorem dL_law_524 : decode cL_law 524 = .ok (.istore 16, 2) := by decide +kernel
theorem dL_law_526 : decode cL_law 526 = .ok (.iconst 0, 1) := by decide +kernel
theorem dL_law_527 : decode cL_law 527 = .ok (.istore 17, 2) := by decide +kernel
theorem dL_law_529 : decode cL_law 529 = .ok (.aload 9, 2) := by decide +kernel
theorem dL_law_531 : decode cL_law 531 = .ok (.iconst 0, 1) := by decide +kernel
theorem dL_law_532 : decode cL_law 532 = .ok (.ldc2_w 118, 3) := by decide +kernel
theorem dL_law_535 : decode cL_law 535 = .ok (.lastore, 1) := by decide +kernel
theorem dL_law_536 : decode cL_law 536 = .ok (.iconst 0, 1) := by decide +kernel
theorem dL_law_537 : decode cL_law 537 = .ok (.istore 18, 2) := by decide +kernel
theorem dL_law_539 : decode cL_law 539 = .ok (.iload 18, 2) := by decide +kernel
theorem dL_law_541 : decode cL_law 541 = .ok (.iload 16, 2) := by decide +kernel
theorem dL_law_543 : decode cL_law 543 = .ok (.if_icmp .ge 28, 3) := by decide +kernel
theorem dL_law_546 : decode cL_law 546 = .ok (.iload 17, 2) := by decide +kernel
theorem dL_law_548 : decode cL_law 548 = .ok (.aload 4, 2) := by decide +kernel
theorem dL_law_550 : decode cL_law 550 = .ok (.aload_n 2, 1) := by decide +kernel
theorem dL_law_551 : decode cL_law 551 = .ok (.aload 7, 2) := by decide +kernel
theorem dL_law_553 : decode cL_law 553 = .ok (.aload 5, 2) := by decide +kernel
theorem dL_law_555 : decode cL_law 555 = .ok (.aload 6, 2) := by decide +kernel
theorem dL_law_557 : decode cL_law 557 = .ok (.aload 9, 2) := by decide +kernel
theorem dL_law_559 : decode cL_law 559 = .ok (.invokestatic 120, 3) := by decide +kernel
theorem dL_law_562 : decode cL_law 562 = .ok (.iadd, 1) := by decide +kernel
theorem dL_law_563 : decode cL_law 563 = .ok (.istore 17, 2) := by decide +kernel
theorem dL_law_565 : decode cL_law 565 = .ok (.iinc 18 1, 3) := by decide +kernel
theorem dL_law_568 : decode cL_law 568 = .ok (.goto (-29), 3) := by decide +kernel
theorem dL_law_571 : decode cL_law 571 = .ok (.aload 4, 2) := by decide +kernel
theorem dL_law_573 : decode cL_law 573 = .ok (.bipush 26, 2) := by decide +kernel
theorem dL_law_575 : decode cL_law 575 = .ok (.dup2, 1) := by decide +kernel
theorem dL_law_576 : decode cL_law 576 = .ok (.iaload, 1) := by decide +kernel
theorem dL_law_577 : decode cL_law 577 = .ok (.iload 16, 2) := by decide +kernel
theorem dL_law_579 : decode cL_law 579 = .ok (.iadd, 1) := by decide +kernel
theorem dL_law_580 : decode cL_law 580 = .ok (.iastore, 1) := by decide +kernel
theorem dL_law_581 : decode cL_law 581 = .ok (.aload_n 1, 1) := by decide +kernel
theorem dL_law_582 : decode cL_law 582 = .ok (.iload 16, 2) := by decide +kernel
theorem dL_law_584 : decode cL_law 584 = .ok (.invokevirtual 124, 3) := by decide +kernel
theorem dL_law_587 : decode cL_law 587 = .ok (.iload 17, 2) := by decide +kernel
theorem dL_law_589 : decode cL_law 589 = .ok (.if_icmp .eq 5, 3) := by decide +kernel
theorem dL_law_592 : decode cL_law 592 = .ok (.iconst 0, 1) := by decide +kernel
theorem dL_law_593 : decode cL_law 593 = .ok (.ireturn, 1) := by decide +kernel
theorem dL_law_594 : decode cL_law 594 = .ok (.goto 320, 3) := by decide +kernel
theorem dL_law_597 : decode cL_law 597 = .ok (.iconst 1, 1) := by decide +kernel
theorem dL_law_598 : decode cL_law 598 = .ok (.iload 11, 2) := by decide +kernel
theorem dL_law_600 : decode cL_law 600 = .ok (.iconst 5, 1) := by decide +kernel
theorem dL_law_601 : decode cL_law 601 = .ok (.ishr, 1) := by decide +kernel
theorem dL_law_602 : decode cL_law 602 = .ok (.iload 11, 2) := by decide +kernel
theorem dL_law_604 : decode cL_law 604 = .ok (.bipush 20, 2) := by decide +kernel
theorem dL_law_606 : decode cL_law 606 = .ok (.ishr, 1) := by decide +kernel
theorem dL_law_607 : decode cL_law 607 = .ok (.iconst 3, 1) := by decide +kernel
theorem dL_law_608 : decode cL_law 608 = .ok (.invokestatic 8, 3) := by decide +kernel
theorem dL_law_611 : decode cL_law 611 = .ok (.ifCond .ne 8, 3) := by decide +kernel
theorem dL_law_614 : decode cL_law 614 = .ok (.bipush 30, 2) := by decide +kernel
theorem dL_law_616 : decode cL_law 616 = .ok (.goto 4, 3) := by decide +kernel
theorem dL_law_619 : decode cL_law 619 = .ok (.iconst 4, 1) := by decide +kernel
theorem dL_law_620 : decode cL_law 620 = .ok (.invokestatic 8, 3) := by decide +kernel
theorem dL_law_623 : decode cL_law 623 = .ok (.iadd, 1) := by decide +kernel
theorem dL_law_624 : decode cL_law 624 = .ok (.istore 16, 2) := by decide +kernel
theorem dL_law_626 : decode cL_law 626 = .ok (.bipush 64, 2) := by decide +kernel
theorem dL_law_628 : decode cL_law 628 = .ok (.newarray .int, 2) := by decide +kernel
theorem dL_law_630 : decode cL_law 630 = .ok (.astore 17, 2) := by decide +kernel
theorem dL_law_632 : decode cL_law 632 = .ok (.bipush 64, 2) := by decide +kernel
theorem dL_law_634 : decode cL_law 634 = .ok (.newarray .int, 2) := by decide +kernel
theorem dL_law_636 : decode cL_law 636 = .ok (.astore 18, 2) := by decide +kernel
theorem dL_law_638 : decode cL_law 638 = .ok (.bipush 27, 2) := by decide +kernel
theorem dL_law_640 : decode cL_law 640 = .ok (.newarray .int, 2) := by decide +kernel
theorem dL_law_642 : decode cL_law 642 = .ok (.astore 19, 2) := by decide +kernel
theorem dL_law_644 : decode cL_law 644 = .ok (.iconst 0, 1) := by decide +kernel
theorem dL_law_645 : decode cL_law 645 = .ok (.istore 20, 2) := by decide +kernel
theorem dL_law_647 : decode cL_law 647 = .ok (.iload 20, 2) := by decide +kernel
theorem dL_law_649 : decode cL_law 649 = .ok (.bipush 64, 2) := by decide +kernel
theorem dL_law_651 : decode cL_law 651 = .ok (.if_icmp .ge 29, 3) := by decide +kernel
theorem dL_law_654 : decode cL_law 654 = .ok (.aload 17, 2) := by decide +kernel
theorem dL_law_656 : decode cL_law 656 = .ok (.iload 20, 2) := by decide +kernel
theorem dL_law_658 : decode cL_law 658 = .ok (.aload 7, 2) := by decide +kernel
theorem dL_law_660 : decode cL_law 660 = .ok (.iload 20, 2) := by decide +kernel
theorem dL_law_662 : decode cL_law 662 = .ok (.iaload, 1) := by decide +kernel
theorem dL_law_663 : decode cL_law 663 = .ok (.iastore, 1) := by decide +kernel
theorem dL_law_664 : decode cL_law 664 = .ok (.aload 18, 2) := by decide +kernel
theorem dL_law_666 : decode cL_law 666 = .ok (.iload 20, 2) := by decide +kernel
theorem dL_law_668 : decode cL_law 668 = .ok (.aload 6, 2) := by decide +kernel
theorem dL_law_670 : decode cL_law 670 = .ok (.iload 20, 2) := by decide +kernel
theorem dL_law_672 : decode cL_law 672 = .ok (.iaload, 1) := by decide +kernel
theorem dL_law_673 : decode cL_law 673 = .ok (.iastore, 1) := by decide +kernel
theorem dL_law_674 : decode cL_law 674 = .ok (.iinc 20 1, 3) := by decide +kernel
theorem dL_law_677 : decode cL_law 677 = .ok (.goto (-30), 3) := by decide +kernel
theorem dL_law_680 : decode cL_law 680 = .ok (.iconst 0, 1) := by decide +kernel
theorem dL_law_681 : decode cL_law 681 = .ok (.istore 20, 2) := by decide +kernel
theorem dL_law_683 : decode cL_law 683 = .ok (.iload 20, 2) := by decide +kernel
theorem dL_law_685 : decode cL_law 685 = .ok (.bipush 27, 2) := by decide +kernel
theorem dL_law_687 : decode cL_law 687 = .ok (.if_icmp .ge 19, 3) := by decide +kernel
theorem dL_law_690 : decode cL_law 690 = .ok (.aload 19, 2) := by decide +kernel
theorem dL_law_692 : decode cL_law 692 = .ok (.iload 20, 2) := by decide +kernel
theorem dL_law_694 : decode cL_law 694 = .ok (.aload 4, 2) := by decide +kernel
theorem dL_law_696 : decode cL_law 696 = .ok (.iload 20, 2) := by decide +kernel
theorem dL_law_698 : decode cL_law 698 = .ok (.iaload, 1) := by decide +kernel
theorem dL_law_699 : decode cL_law 699 = .ok (.iastore, 1) := by decide +kernel
theorem dL_law_700 : decode cL_law 700 = .ok (.iinc 20 1, 3) := by decide +kernel
theorem dL_law_703 : decode cL_law 703 = .ok (.goto (-20), 3) := by decide +kernel
theorem dL_law_706 : decode cL_law 706 = .ok (.aload 9, 2) := by decide +kernel
theorem dL_law_708 : decode cL_law 708 = .ok (.iconst 0, 1) := by decide +kernel
theorem dL_law_709 : decode cL_law 709 = .ok (.iload 11, 2) := by decide +kernel
theorem dL_law_711 : decode cL_law 711 = .ok (.iconst 1, 1) := by decide +kernel
theorem dL_law_712 : decode cL_law 712 = .ok (.ishr, 1) := by decide +kernel
theorem dL_law_713 : decode cL_law 713 = .ok (.ldc 127, 2) := by decide +kernel
theorem dL_law_715 : decode cL_law 715 = .ok (.iand, 1) := by decide +kernel
theorem dL_law_716 : decode cL_law 716 = .ok (.i2l, 1) := by decide +kernel
theorem dL_law_717 : decode cL_law 717 = .ok (.lastore, 1) := by decide +kernel
theorem dL_law_718 : decode cL_law 718 = .ok (.aload 9, 2) := by decide +kernel
theorem dL_law_720 : decode cL_law 720 = .ok (.iconst 0, 1) := by decide +kernel
theorem dL_law_721 : decode cL_law 721 = .ok (.laload, 1) := by decide +kernel
theorem dL_law_722 : decode cL_law 722 = .ok (.l2i, 1) := by decide +kernel
theorem dL_law_723 : decode cL_law 723 = .ok (.istore 20, 2) := by decide +kernel
theorem dL_law_725 : decode cL_law 725 = .ok (.iconst 0, 1) := by decide +kernel
theorem dL_law_726 : decode cL_law 726 = .ok (.istore 21, 2) := by decide +kernel
theorem dL_law_728 : decode cL_law 728 = .ok (.iconst 0, 1) := by decide +kernel
theorem dL_law_729 : decode cL_law 729 = .ok (.istore 22, 2) := by decide +kernel
theorem dL_law_731 : decode cL_law 731 = .ok (.iload 22, 2) := by decide +kernel
theorem dL_law_733 : decode cL_law 733 = .ok (.iload 16, 2) := by decide +kernel
theorem dL_law_735 : decode cL_law 735 = .ok (.if_icmp .ge 28, 3) := by decide +kernel
theorem dL_law_738 : decode cL_law 738 = .ok (.iload 21, 2) := by decide +kernel
theorem dL_law_740 : decode cL_law 740 = .ok (.aload 19, 2) := by decide +kernel
theorem dL_law_742 : decode cL_law 742 = .ok (.aload_n 2, 1) := by decide +kernel
theorem dL_law_743 : decode cL_law 743 = .ok (.aload 17, 2) := by decide +kernel
theorem dL_law_745 : decode cL_law 745 = .ok (.aload 5, 2) := by decide +kernel
theorem dL_law_747 : decode cL_law 747 = .ok (.aload 18, 2) := by decide +kernel
theorem dL_law_749 : decode cL_law 749 = .ok (.aload 9, 2) := by decide +kernel
theorem dL_law_751 : decode cL_law 751 = .ok (.invokestatic 120, 3) := by decide +kernel
theorem dL_law_754 : decode cL_law 754 = .ok (.iadd, 1) := by decide +kernel
theorem dL_law_755 : decode cL_law 755 = .ok (.istore 21, 2) := by decide +kernel
theorem dL_law_757 : decode cL_law 757 = .ok (.iinc 22 1, 3) := by decide +kernel
theorem dL_law_760 : decode cL_law 760 = .ok (.goto (-29), 3) := by decide +kernel
theorem dL_law_763 : decode cL_law 763 = .ok (.iconst 0, 1) := by decide +kernel
theorem dL_law_764 : decode cL_law 764 = .ok (.istore 22, 2) := by decide +kernel
theorem dL_law_766 : decode cL_law 766 = .ok (.iconst 0, 1) := by decide +kernel
theorem dL_law_767 : decode cL_law 767 = .ok (.istore 23, 2) := by decide +kernel
theorem dL_law_769 : decode cL_law 769 = .ok (.iconst 0, 1) := by decide +kernel
theorem dL_law_770 : decode cL_law 770 = .ok (.istore 24, 2) := by decide +kernel
theorem dL_law_772 : decode cL_law 772 = .ok (.iload 24, 2) := by decide +kernel
theorem dL_law_774 : decode cL_law 774 = .ok (.aload 4, 2) := by decide +kernel
theorem dL_law_776 : decode cL_law 776 = .ok (.bipush 25, 2) := by decide +kernel
theorem dL_law_778 : decode cL_law 778 = .ok (.iaload, 1) := by decide +kernel
theorem dL_law_779 : decode cL_law 779 = .ok (.if_icmp .ge 33, 3) := by decide +kernel
theorem dL_law_782 : decode cL_law 782 = .ok (.iload 22, 2) := by decide +kernel
theorem dL_law_784 : decode cL_law 784 = .ok (.aload 17, 2) := by decide +kernel
theorem dL_law_786 : decode cL_law 786 = .ok (.bipush 8, 2) := by decide +kernel
theorem dL_law_788 : decode cL_law 788 = .ok (.iload 24, 2) := by decide +kernel
theorem dL_law_790 : decode cL_law 790 = .ok (.imul, 1) := by decide +kernel
theorem dL_law_791 : decode cL_law 791 = .ok (.bipush 7, 2) := by decide +kernel
theorem dL_law_793 : decode cL_law 793 = .ok (.iadd, 1) := by decide +kernel
theorem dL_law_794 : decode cL_law 794 = .ok (.iaload, 1) := by decide +kernel
theorem dL_law_795 : decode cL_law 795 = .ok (.ifCond .ne 7, 3) := by decide +kernel
theorem dL_law_798 : decode cL_law 798 = .ok (.iconst 1, 1) := by decide +kernel
theorem dL_law_799 : decode cL_law 799 = .ok (.goto 4, 3) := by decide +kernel
theorem dL_law_802 : decode cL_law 802 = .ok (.iconst 0, 1) := by decide +kernel
theorem dL_law_803 : decode cL_law 803 = .ok (.iadd, 1) := by decide +kernel
theorem dL_law_804 : decode cL_law 804 = .ok (.istore 22, 2) := by decide +kernel
theorem dL_law_806 : decode cL_law 806 = .ok (.iinc 24 1, 3) := by decide +kernel
theorem dL_law_809 : decode cL_law 809 = .ok (.goto (-37), 3) := by decide +kernel
theorem dL_law_812 : decode cL_law 812 = .ok (.iconst 0, 1) := by decide +kernel
theorem dL_law_813 : decode cL_law 813 = .ok (.istore 24, 2) := by decide +kernel
theorem dL_law_815 : decode cL_law 815 = .ok (.iload 24, 2) := by decide +kernel
theorem dL_law_817 : decode cL_law 817 = .ok (.aload 4, 2) := by decide +kernel
theorem dL_law_819 : decode cL_law 819 = .ok (.iconst 0, 1) := by decide +kernel
theorem dL_law_820 : decode cL_law 820 = .ok (.iaload, 1) := by decide +kernel
theorem dL_law_821 : decode cL_law 821 = .ok (.if_icmp .ge 31, 3) := by decide +kernel
theorem dL_law_824 : decode cL_law 824 = .ok (.iload 23, 2) := by decide +kernel
theorem dL_law_826 : decode cL_law 826 = .ok (.aload 19, 2) := by decide +kernel
theorem dL_law_828 : decode cL_law 828 = .ok (.bipush 17, 2) := by decide +kernel
theorem dL_law_830 : decode cL_law 830 = .ok (.iload 24, 2) := by decide +kernel
theorem dL_law_832 : decode cL_law 832 = .ok (.iadd, 1) := by decide +kernel
theorem dL_law_833 : decode cL_law 833 = .ok (.iaload, 1) := by decide +kernel
theorem dL_law_834 : decode cL_law 834 = .ok (.aload 4, 2) := by decide +kernel
theorem dL_law_836 : decode cL_law 836 = .ok (.bipush 17, 2) := by decide +kernel
theorem dL_law_838 : decode cL_law 838 = .ok (.iload 24, 2) := by decide +kernel
theorem dL_law_840 : decode cL_law 840 = .ok (.iadd, 1) := by decide +kernel
theorem dL_law_841 : decode cL_law 841 = .ok (.iaload, 1) := by decide +kernel
theorem dL_law_842 : decode cL_law 842 = .ok (.isub, 1) := by decide +kernel
theorem dL_law_843 : decode cL_law 843 = .ok (.iadd, 1) := by decide +kernel
theorem dL_law_844 : decode cL_law 844 = .ok (.istore 23, 2) := by decide +kernel
theorem dL_law_846 : decode cL_law 846 = .ok (.iinc 24 1, 3) := by decide +kernel
theorem dL_law_849 : decode cL_law 849 = .ok (.goto (-34), 3) := by decide +kernel
theorem dL_law_852 : decode cL_law 852 = .ok (.aload_n 1, 1) := by decide +kernel
theorem dL_law_853 : decode cL_law 853 = .ok (.iload 16, 2) := by decide +kernel
theorem dL_law_855 : decode cL_law 855 = .ok (.iload 20, 2) := by decide +kernel
theorem dL_law_857 : decode cL_law 857 = .ok (.iconst 0, 1) := by decide +kernel
theorem dL_law_858 : decode cL_law 858 = .ok (.invokevirtual 128, 3) := by decide +kernel
theorem dL_law_861 : decode cL_law 861 = .ok (.iload 21, 2) := by decide +kernel
theorem dL_law_863 : decode cL_law 863 = .ok (.if_icmp .ne 49, 3) := by decide +kernel
theorem dL_law_866 : decode cL_law 866 = .ok (.aload_n 1, 1) := by decide +kernel
theorem dL_law_867 : decode cL_law 867 = .ok (.iload 16, 2) := by decide +kernel
theorem dL_law_869 : decode cL_law 869 = .ok (.iload 20, 2) := by decide +kernel
theorem dL_law_871 : decode cL_law 871 = .ok (.iconst 1, 1) := by decide +kernel
theorem dL_law_872 : decode cL_law 872 = .ok (.invokevirtual 128, 3) := by decide +kernel
theorem dL_law_875 : decode cL_law 875 = .ok (.iload 22, 2) := by decide +kernel
theorem dL_law_877 : decode cL_law 877 = .ok (.if_icmp .ne 35, 3) := by decide +kernel
theorem dL_law_880 : decode cL_law 880 = .ok (.aload_n 1, 1) := by decide +kernel
theorem dL_law_881 : decode cL_law 881 = .ok (.iload 16, 2) := by decide +kernel
theorem dL_law_883 : decode cL_law 883 = .ok (.iload 20, 2) := by decide +kernel
theorem dL_law_885 : decode cL_law 885 = .ok (.iconst 2, 1) := by decide +kernel
theorem dL_law_886 : decode cL_law 886 = .ok (.invokevirtual 128, 3) := by decide +kernel
theorem dL_law_889 : decode cL_law 889 = .ok (.iload 23, 2) := by decide +kernel
theorem dL_law_891 : decode cL_law 891 = .ok (.if_icmp .ne 21, 3) := by decide +kernel
theorem dL_law_894 : decode cL_law 894 = .ok (.aload_n 1, 1) := by decide +kernel
theorem dL_law_895 : decode cL_law 895 = .ok (.iload 16, 2) := by decide +kernel
theorem dL_law_897 : decode cL_law 897 = .ok (.iload 20, 2) := by decide +kernel
theorem dL_law_899 : decode cL_law 899 = .ok (.iconst 3, 1) := by decide +kernel
theorem dL_law_900 : decode cL_law 900 = .ok (.invokevirtual 128, 3) := by decide +kernel
theorem dL_law_903 : decode cL_law 903 = .ok (.i2l, 1) := by decide +kernel
theorem dL_law_904 : decode cL_law 904 = .ok (.aload 9, 2) := by decide +kernel
theorem dL_law_906 : decode cL_law 906 = .ok (.iconst 0, 1) := by decide +kernel
theorem dL_law_907 : decode cL_law 907 = .ok (.laload, 1) := by decide +kernel
theorem dL_law_908 : decode cL_law 908 = .ok (.lcmp, 1) := by decide +kernel
theorem dL_law_909 : decode cL_law 909 = .ok (.ifCond .eq 5, 3) := by decide +kernel
theorem dL_law_912 : decode cL_law 912 = .ok (.iconst 0, 1) := by decide +kernel
theorem dL_law_913 : decode cL_law 913 = .ok (.ireturn, 1) := by decide +kernel
theorem dL_law_914 : decode cL_law 914 = .ok (.aload_n 1, 1) := by decide +kernel
theorem dL_law_915 : decode cL_law 915 = .ok (.aload 4, 2) := by decide +kernel
theorem dL_law_917 : decode cL_law 917 = .ok (.aload 7, 2) := by decide +kernel
theorem dL_law_919 : decode cL_law 919 = .ok (.aload 6, 2) := by decide +kernel
theorem dL_law_921 : decode cL_law 921 = .ok (.invokestatic 107, 3) := by decide +kernel
theorem dL_law_924 : decode cL_law 924 = .ok (.ifCond .ne 5, 3) := by decide +kernel
theorem dL_law_927 : decode cL_law 927 = .ok (.iconst 0, 1) := by decide +kernel
theorem dL_law_928 : decode cL_law 928 = .ok (.ireturn, 1) := by decide +kernel
theorem dL_law_929 : decode cL_law 929 = .ok (.iinc 10 1, 3) := by decide +kernel
theorem dL_law_932 : decode cL_law 932 = .ok (.goto (-677), 3) := by decide +kernel
theorem dL_law_935 : decode cL_law 935 = .ok (.aload_n 1, 1) := by decide +kernel
theorem dL_law_936 : decode cL_law 936 = .ok (.iconst 4, 1) := by decide +kernel
theorem dL_law_937 : decode cL_law 937 = .ok (.invokevirtual 97, 3) := by decide +kernel
theorem dL_law_940 : decode cL_law 940 = .ok (.bipush (-102), 2) := by decide +kernel
theorem dL_law_942 : decode cL_law 942 = .ok (.if_icmp .ne 292, 3) := by decide +kernel
theorem dL_law_945 : decode cL_law 945 = .ok (.aload_n 1, 1) := by decide +kernel
theorem dL_law_946 : decode cL_law 946 = .ok (.iconst 4, 1) := by decide +kernel
theorem dL_law_947 : decode cL_law 947 = .ok (.invokevirtual 24, 3) := by decide +kernel
theorem dL_law_950 : decode cL_law 950 = .ok (.bipush (-102), 2) := by decide +kernel
theorem dL_law_952 : decode cL_law 952 = .ok (.if_icmp .ne 282, 3) := by decide +kernel
theorem dL_law_955 : decode cL_law 955 = .ok (.aload_n 1, 1) := by decide +kernel
theorem dL_law_956 : decode cL_law 956 = .ok (.iconst 0, 1) := by decide +kernel
theorem dL_law_957 : decode cL_law 957 = .ok (.iconst 0, 1) := by decide +kernel
theorem dL_law_958 : decode cL_law 958 = .ok (.iconst 1, 1) := by decide +kernel
theorem dL_law_959 : decode cL_law 959 = .ok (.invokevirtual 28, 3) := by decide +kernel
theorem dL_law_962 : decode cL_law 962 = .ok (.bipush (-101), 2) := by decide +kernel
theorem dL_law_964 : decode cL_law 964 = .ok (.if_icmp .ne 270, 3) := by decide +kernel
theorem dL_law_967 : decode cL_law 967 = .ok (.aload_n 1, 1) := by decide +kernel
theorem dL_law_968 : decode cL_law 968 = .ok (.iconst 0, 1) := by decide +kernel
theorem dL_law_969 : decode cL_law 969 = .ok (.aload 4, 2) := by decide +kernel
theorem dL_law_971 : decode cL_law 971 = .ok (.iconst 0, 1) := by decide +kernel
theorem dL_law_972 : decode cL_law 972 = .ok (.iaload, 1) := by decide +kernel
theorem dL_law_973 : decode cL_law 973 = .ok (.iconst 1, 1) := by decide +kernel
theorem dL_law_974 : decode cL_law 974 = .ok (.invokevirtual 28, 3) := by decide +kernel
theorem dL_law_977 : decode cL_law 977 = .ok (.bipush (-101), 2) := by decide +kernel
theorem dL_law_979 : decode cL_law 979 = .ok (.if_icmp .ne 255, 3) := by decide +kernel
theorem dL_law_982 : decode cL_law 982 = .ok (.aload_n 1, 1) := by decide +kernel
theorem dL_law_983 : decode cL_law 983 = .ok (.iconst 1, 1) := by decide +kernel
theorem dL_law_984 : decode cL_law 984 = .ok (.iconst 1, 1) := by decide +kernel
theorem dL_law_985 : decode cL_law 985 = .ok (.iconst 0, 1) := by decide +kernel
theorem dL_law_986 : decode cL_law 986 = .ok (.invokevirtual 32, 3) := by decide +kernel
theorem dL_law_989 : decode cL_law 989 = .ok (.bipush (-101), 2) := by decide +kernel
theorem dL_law_991 : decode cL_law 991 = .ok (.if_icmp .ne 243, 3) := by decide +kernel
theorem dL_law_994 : decode cL_law 994 = .ok (.aload_n 1, 1) := by decide +kernel
theorem dL_law_995 : decode cL_law 995 = .ok (.iconst 0, 1) := by decide +kernel
theorem dL_law_996 : decode cL_law 996 = .ok (.iconst 1, 1) := by decide +kernel
theorem dL_law_997 : decode cL_law 997 = .ok (.bipush 10, 2) := by decide +kernel
theorem dL_law_999 : decode cL_law 999 = .ok (.invokevirtual 32, 3) := by decide +kernel
theorem dL_law_1002 : decode cL_law 1002 = .ok (.bipush (-102), 2) := by decide +kernel
theorem dL_law_1004 : decode cL_law 1004 = .ok (.if_icmp .ne 230, 3) := by decide +kernel
theorem dL_law_1007 : decode cL_law 1007 = .ok (.aload_n 1, 1) := by decide +kernel
theorem dL_law_1008 : decode cL_law 1008 = .ok (.aload 4, 2) := by decide +kernel
theorem dL_law_1010 : decode cL_law 1010 = .ok (.iconst 0, 1) := by decide +kernel
theorem dL_law_1011 : decode cL_law 1011 = .ok (.iaload, 1) := by decide +kernel
theorem dL_law_1012 : decode cL_law 1012 = .ok (.iconst 0, 1) := by decide +kernel
theorem dL_law_1013 : decode cL_law 1013 = .ok (.invokevirtual 72, 3) := by decide +kernel
theorem dL_law_1016 : decode cL_law 1016 = .ok (.bipush (-101), 2) := by decide +kernel
theorem dL_law_1018 : decode cL_law 1018 = .ok (.if_icmp .ne 216, 3) := by decide +kernel
theorem dL_law_1021 : decode cL_law 1021 = .ok (.aload_n 1, 1) := by decide +kernel
theorem dL_law_1022 : decode cL_law 1022 = .ok (.iconst 0, 1) := by decide +kernel
theorem dL_law_1023 : decode cL_law 1023 = .ok (.iconst 4, 1) := by decide +kernel
theorem dL_law_1024 : decode cL_law 1024 = .ok (.invokevirtual 72, 3) := by decide +kernel
theorem dL_law_1027 : decode cL_law 1027 = .ok (.bipush (-102), 2) := by decide +kernel
theorem dL_law_1029 : decode cL_law 1029 = .ok (.if_icmp .ne 205, 3) := by decide +kernel
theorem dL_law_1032 : decode cL_law 1032 = .ok (.aload_n 1, 1) := by decide +kernel
theorem dL_law_1033 : decode cL_law 1033 = .ok (.iconst 0, 1) := by decide +kernel
theorem dL_law_1034 : decode cL_law 1034 = .ok (.iconst 0, 1) := by decide +kernel
theorem dL_law_1035 : decode cL_law 1035 = .ok (.invokevirtual 66, 3) := by decide +kernel
theorem dL_law_1038 : decode cL_law 1038 = .ok (.bipush (-101), 2) := by decide +kernel
theorem dL_law_1040 : decode cL_law 1040 = .ok (.if_icmp .ne 194, 3) := by decide +kernel
theorem dL_law_1043 : decode cL_law 1043 = .ok (.aload_n 1, 1) := by decide +kernel
theorem dL_law_1044 : decode cL_law 1044 = .ok (.aload 4, 2) := by decide +kernel
theorem dL_law_1046 : decode cL_law 1046 = .ok (.iconst 0, 1) := by decide +kernel
theorem dL_law_1047 : decode cL_law 1047 = .ok (.iaload, 1) := by decide +kernel
theorem dL_law_1048 : decode cL_law 1048 = .ok (.invokevirtual 69, 3) := by decide +kernel
theorem dL_law_1051 : decode cL_law 1051 = .ok (.ldc 131, 2) := by decide +kernel
theorem dL_law_1053 : decode cL_law 1053 = .ok (.if_icmp .ne 181, 3) := by decide +kernel
theorem dL_law_1056 : decode cL_law 1056 = .ok (.aload_n 1, 1) := by decide +kernel
theorem dL_law_1057 : decode cL_law 1057 = .ok (.iconst 5, 1) := by decide +kernel
theorem dL_law_1058 : decode cL_law 1058 = .ok (.iconst 0, 1) := by decide +kernel
theorem dL_law_1059 : decode cL_law 1059 = .ok (.invokevirtual 36, 3) := by decide +kernel
theorem dL_law_1062 : decode cL_law 1062 = .ok (.bipush (-102), 2) := by decide +kernel
theorem dL_law_1064 : decode cL_law 1064 = .ok (.if_icmp .ne 170, 3) := by decide +kernel
theorem dL_law_1067 : decode cL_law 1067 = .ok (.aload_n 1, 1) := by decide +kernel
theorem dL_law_1068 : decode cL_law 1068 = .ok (.iconst 0, 1) := by decide +kernel
theorem dL_law_1069 : decode cL_law 1069 = .ok (.aload 4, 2) := by decide +kernel
theorem dL_law_1071 : decode cL_law 1071 = .ok (.iconst 0, 1) := by decide +kernel
theorem dL_law_1072 : decode cL_law 1072 = .ok (.iaload, 1) := by decide +kernel
theorem dL_law_1073 : decode cL_law 1073 = .ok (.invokevirtual 36, 3) := by decide +kernel
theorem dL_law_1076 : decode cL_law 1076 = .ok (.bipush (-101), 2) := by decide +kernel
theorem dL_law_1078 : decode cL_law 1078 = .ok (.if_icmp .ne 156, 3) := by decide +kernel
theorem dL_law_1081 : decode cL_law 1081 = .ok (.aload_n 1, 1) := by decide +kernel
theorem dL_law_1082 : decode cL_law 1082 = .ok (.aload 4, 2) := by decide +kernel
theorem dL_law_1084 : decode cL_law 1084 = .ok (.bipush 25, 2) := by decide +kernel
theorem dL_law_1086 : decode cL_law 1086 = .ok (.iaload, 1) := by decide +kernel
theorem dL_law_1087 : decode cL_law 1087 = .ok (.iconst 0, 1) := by decide +kernel
theorem dL_law_1088 : decode cL_law 1088 = .ok (.invokevirtual 75, 3) := by decide +kernel
theorem dL_law_1091 : decode cL_law 1091 = .ok (.bipush (-101), 2) := by decide +kernel
theorem dL_law_1093 : decode cL_law 1093 = .ok (.if_icmp .ne 141, 3) := by decide +kernel
theorem dL_law_1096 : decode cL_law 1096 = .ok (.aload_n 1, 1) := by decide +kernel
theorem dL_law_1097 : decode cL_law 1097 = .ok (.iconst 0, 1) := by decide +kernel
theorem dL_law_1098 : decode cL_law 1098 = .ok (.bipush 9, 2) := by decide +kernel
theorem dL_law_1100 : decode cL_law 1100 = .ok (.invokevirtual 75, 3) := by decide +kernel
theorem dL_law_1103 : decode cL_law 1103 = .ok (.bipush (-102), 2) := by decide +kernel
theorem dL_law_1105 : decode cL_law 1105 = .ok (.if_icmp .ne 129, 3) := by decide +kernel
theorem dL_law_1108 : decode cL_law 1108 = .ok (.aload_n 1, 1) := by decide +kernel
theorem dL_law_1109 : decode cL_law 1109 = .ok (.aload 4, 2) := by decide +kernel
theorem dL_law_1111 : decode cL_law 1111 = .ok (.bipush 25, 2) := by decide +kernel
theorem dL_law_1113 : decode cL_law 1113 = .ok (.iaload, 1) := by decide +kernel
theorem dL_law_1114 : decode cL_law 1114 = .ok (.iconst 0, 1) := by decide +kernel
theorem dL_law_1115 : decode cL_law 1115 = .ok (.invokevirtual 111, 3) := by decide +kernel
theorem dL_law_1118 : decode cL_law 1118 = .ok (.bipush (-101), 2) := by decide +kernel
theorem dL_law_1120 : decode cL_law 1120 = .ok (.if_icmp .ne 114, 3) := by decide +kernel
theorem dL_law_1123 : decode cL_law 1123 = .ok (.aload_n 1, 1) := by decide +kernel
theorem dL_law_1124 : decode cL_law 1124 = .ok (.iconst 0, 1) := by decide +kernel
theorem dL_law_1125 : decode cL_law 1125 = .ok (.iconst 5, 1) := by decide +kernel
theorem dL_law_1126 : decode cL_law 1126 = .ok (.invokevirtual 111, 3) := by decide +kernel
theorem dL_law_1129 : decode cL_law 1129 = .ok (.bipush (-102), 2) := by decide +kernel
theorem dL_law_1131 : decode cL_law 1131 = .ok (.if_icmp .ne 103, 3) := by decide +kernel
theorem dL_law_1134 : decode cL_law 1134 = .ok (.aload_n 1, 1) := by decide +kernel
theorem dL_law_1135 : decode cL_law 1135 = .ok (.iconst (-1), 1) := by decide +kernel
theorem dL_law_1136 : decode cL_law 1136 = .ok (.invokevirtual 114, 3) := by decide +kernel
theorem dL_law_1139 : decode cL_law 1139 = .ok (.bipush (-101), 2) := by decide +kernel
theorem dL_law_1141 : decode cL_law 1141 = .ok (.if_icmp .ne 93, 3) := by decide +kernel
theorem dL_law_1144 : decode cL_law 1144 = .ok (.aload_n 1, 1) := by decide +kernel
theorem dL_law_1145 : decode cL_law 1145 = .ok (.iconst 0, 1) := by decide +kernel
theorem dL_law_1146 : decode cL_law 1146 = .ok (.aload 4, 2) := by decide +kernel
theorem dL_law_1148 : decode cL_law 1148 = .ok (.iconst 0, 1) := by decide +kernel
theorem dL_law_1149 : decode cL_law 1149 = .ok (.iaload, 1) := by decide +kernel
theorem dL_law_1150 : decode cL_law 1150 = .ok (.invokevirtual 116, 3) := by decide +kernel
theorem dL_law_1153 : decode cL_law 1153 = .ok (.bipush (-101), 2) := by decide +kernel
theorem dL_law_1155 : decode cL_law 1155 = .ok (.if_icmp .ne 79, 3) := by decide +kernel
theorem dL_law_1158 : decode cL_law 1158 = .ok (.aload_n 1, 1) := by decide +kernel
theorem dL_law_1159 : decode cL_law 1159 = .ok (.aload 4, 2) := by decide +kernel
theorem dL_law_1161 : decode cL_law 1161 = .ok (.bipush 25, 2) := by decide +kernel
theorem dL_law_1163 : decode cL_law 1163 = .ok (.iaload, 1) := by decide +kernel
theorem dL_law_1164 : decode cL_law 1164 = .ok (.iconst 0, 1) := by decide +kernel
theorem dL_law_1165 : decode cL_law 1165 = .ok (.invokevirtual 116, 3) := by decide +kernel
theorem dL_law_1168 : decode cL_law 1168 = .ok (.bipush (-101), 2) := by decide +kernel
theorem dL_law_1170 : decode cL_law 1170 = .ok (.if_icmp .ne 64, 3) := by decide +kernel
theorem dL_law_1173 : decode cL_law 1173 = .ok (.aload_n 1, 1) := by decide +kernel
theorem dL_law_1174 : decode cL_law 1174 = .ok (.iconst 0, 1) := by decide +kernel
theorem dL_law_1175 : decode cL_law 1175 = .ok (.invokevirtual 124, 3) := by decide +kernel
theorem dL_law_1178 : decode cL_law 1178 = .ok (.bipush (-102), 2) := by decide +kernel
theorem dL_law_1180 : decode cL_law 1180 = .ok (.if_icmp .ne 54, 3) := by decide +kernel
theorem dL_law_1183 : decode cL_law 1183 = .ok (.aload_n 1, 1) := by decide +kernel
theorem dL_law_1184 : decode cL_law 1184 = .ok (.bipush 31, 2) := by decide +kernel
theorem dL_law_1186 : decode cL_law 1186 = .ok (.invokevirtual 124, 3) := by decide +kernel
theorem dL_law_1189 : decode cL_law 1189 = .ok (.bipush (-102), 2) := by decide +kernel
theorem dL_law_1191 : decode cL_law 1191 = .ok (.if_icmp .ne 43, 3) := by decide +kernel
theorem dL_law_1194 : decode cL_law 1194 = .ok (.aload_n 1, 1) := by decide +kernel
theorem dL_law_1195 : decode cL_law 1195 = .ok (.iconst 0, 1) := by decide +kernel
theorem dL_law_1196 : decode cL_law 1196 = .ok (.iconst 0, 1) := by decide +kernel
theorem dL_law_1197 : decode cL_law 1197 = .ok (.iconst 0, 1) := by decide +kernel
theorem dL_law_1198 : decode cL_law 1198 = .ok (.invokevirtual 128, 3) := by decide +kernel
theorem dL_law_1201 : decode cL_law 1201 = .ok (.bipush (-102), 2) := by decide +kernel
theorem dL_law_1203 : decode cL_law 1203 = .ok (.if_icmp .ne 31, 3) := by decide +kernel
theorem dL_law_1206 : decode cL_law 1206 = .ok (.aload_n 1, 1) := by decide +kernel
theorem dL_law_1207 : decode cL_law 1207 = .ok (.iconst 1, 1) := by decide +kernel
theorem dL_law_1208 : decode cL_law 1208 = .ok (.iconst (-1), 1) := by decide +kernel
theorem dL_law_1209 : decode cL_law 1209 = .ok (.iconst 0, 1) := by decide +kernel
theorem dL_law_1210 : decode cL_law 1210 = .ok (.invokevirtual 128, 3) := by decide +kernel
theorem dL_law_1213 : decode cL_law 1213 = .ok (.bipush (-102), 2) := by decide +kernel
theorem dL_law_1215 : decode cL_law 1215 = .ok (.if_icmp .ne 19, 3) := by decide +kernel
theorem dL_law_1218 : decode cL_law 1218 = .ok (.aload_n 1, 1) := by decide +kernel
theorem dL_law_1219 : decode cL_law 1219 = .ok (.iconst 1, 1) := by decide +kernel
theorem dL_law_1220 : decode cL_law 1220 = .ok (.iconst 0, 1) := by decide +kernel
theorem dL_law_1221 : decode cL_law 1221 = .ok (.iconst 4, 1) := by decide +kernel
theorem dL_law_1222 : decode cL_law 1222 = .ok (.invokevirtual 128, 3) := by decide +kernel
theorem dL_law_1225 : decode cL_law 1225 = .ok (.bipush (-102), 2) := by decide +kernel
theorem dL_law_1227 : decode cL_law 1227 = .ok (.if_icmp .ne 7, 3) := by decide +kernel
theorem dL_law_1230 : decode cL_law 1230 = .ok (.iconst 1, 1) := by decide +kernel
theorem dL_law_1231 : decode cL_law 1231 = .ok (.goto 4, 3) := by decide +kernel
theorem dL_law_1234 : decode cL_law 1234 = .ok (.iconst 0, 1) := by decide +kernel
theorem dL_law_1235 : decode cL_law 1235 = .ok (.ireturn, 1) := by decide +kernel
