theorem dX9_init_0 : decode cX9_init 0 = .ok (.aload_n 0, 1) := by decide +kernel
theorem dX9_init_1 : decode cX9_init 1 = .ok (.invokespecial 1, 3) := by decide +kernel
theorem dX9_init_4 : decode cX9_init 4 = .ok (.aload_n 0, 1) := by decide +kernel
theorem dX9_init_5 : decode cX9_init 5 = .ok (.bipush 16, 2) := by decide +kernel
theorem dX9_init_7 : decode cX9_init 7 = .ok (.newarray .int, 2) := by decide +kernel
theorem dX9_init_9 : decode cX9_init 9 = .ok (.putfield 7, 3) := by decide +kernel
theorem dX9_init_12 : decode cX9_init 12 = .ok (.aload_n 0, 1) := by decide +kernel
theorem dX9_init_13 : decode cX9_init 13 = .ok (.bipush 8, 2) := by decide +kernel
theorem dX9_init_15 : decode cX9_init 15 = .ok (.newarray .int, 2) := by decide +kernel
theorem dX9_init_17 : decode cX9_init 17 = .ok (.putfield 13, 3) := by decide +kernel
theorem dX9_init_20 : decode cX9_init 20 = .ok (.aload_n 0, 1) := by decide +kernel
theorem dX9_init_21 : decode cX9_init 21 = .ok (.bipush 8, 2) := by decide +kernel
theorem dX9_init_23 : decode cX9_init 23 = .ok (.newarray .int, 2) := by decide +kernel
theorem dX9_init_25 : decode cX9_init 25 = .ok (.putfield 16, 3) := by decide +kernel
theorem dX9_init_28 : decode cX9_init 28 = .ok (.aload_n 0, 1) := by decide +kernel
theorem dX9_init_29 : decode cX9_init 29 = .ok (.bipush 64, 2) := by decide +kernel
theorem dX9_init_31 : decode cX9_init 31 = .ok (.newarray .int, 2) := by decide +kernel
theorem dX9_init_33 : decode cX9_init 33 = .ok (.putfield 19, 3) := by decide +kernel
theorem dX9_init_36 : decode cX9_init 36 = .ok (.aload_n 0, 1) := by decide +kernel
theorem dX9_init_37 : decode cX9_init 37 = .ok (.bipush 64, 2) := by decide +kernel
theorem dX9_init_39 : decode cX9_init 39 = .ok (.newarray .int, 2) := by decide +kernel
theorem dX9_init_41 : decode cX9_init 41 = .ok (.putfield 22, 3) := by decide +kernel
theorem dX9_init_44 : decode cX9_init 44 = .ok (.aload_n 0, 1) := by decide +kernel
theorem dX9_init_45 : decode cX9_init 45 = .ok (.bipush 8, 2) := by decide +kernel
theorem dX9_init_47 : decode cX9_init 47 = .ok (.newarray .int, 2) := by decide +kernel
theorem dX9_init_49 : decode cX9_init 49 = .ok (.putfield 25, 3) := by decide +kernel
theorem dX9_init_52 : decode cX9_init 52 = .ok (.aload_n 0, 1) := by decide +kernel
theorem dX9_init_53 : decode cX9_init 53 = .ok (.bipush 64, 2) := by decide +kernel
theorem dX9_init_55 : decode cX9_init 55 = .ok (.newarray .int, 2) := by decide +kernel
theorem dX9_init_57 : decode cX9_init 57 = .ok (.putfield 28, 3) := by decide +kernel
theorem dX9_init_60 : decode cX9_init 60 = .ok (.aload_n 0, 1) := by decide +kernel
theorem dX9_init_61 : decode cX9_init 61 = .ok (.bipush 8, 2) := by decide +kernel
theorem dX9_init_63 : decode cX9_init 63 = .ok (.newarray .int, 2) := by decide +kernel
theorem dX9_init_65 : decode cX9_init 65 = .ok (.putfield 31, 3) := by decide +kernel
theorem dX9_init_68 : decode cX9_init 68 = .ok (.aload_n 0, 1) := by decide +kernel
theorem dX9_init_69 : decode cX9_init 69 = .ok (.bipush 72, 2) := by decide +kernel
theorem dX9_init_71 : decode cX9_init 71 = .ok (.newarray .long, 2) := by decide +kernel
theorem dX9_init_73 : decode cX9_init 73 = .ok (.putfield 34, 3) := by decide +kernel
theorem dX9_init_76 : decode cX9_init 76 = .ok (.aload_n 0, 1) := by decide +kernel
theorem dX9_init_77 : decode cX9_init 77 = .ok (.bipush 72, 2) := by decide +kernel
theorem dX9_init_79 : decode cX9_init 79 = .ok (.newarray .long, 2) := by decide +kernel
theorem dX9_init_81 : decode cX9_init 81 = .ok (.putfield 38, 3) := by decide +kernel
theorem dX9_init_84 : decode cX9_init 84 = .ok (.aload_n 0, 1) := by decide +kernel
theorem dX9_init_85 : decode cX9_init 85 = .ok (.bipush 9, 2) := by decide +kernel
theorem dX9_init_87 : decode cX9_init 87 = .ok (.newarray .long, 2) := by decide +kernel
theorem dX9_init_89 : decode cX9_init 89 = .ok (.putfield 41, 3) := by decide +kernel
theorem dX9_init_92 : decode cX9_init 92 = .ok (.aload_n 0, 1) := by decide +kernel
theorem dX9_init_93 : decode cX9_init 93 = .ok (.sipush 2304, 3) := by decide +kernel
theorem dX9_init_96 : decode cX9_init 96 = .ok (.newarray .int, 2) := by decide +kernel
theorem dX9_init_98 : decode cX9_init 98 = .ok (.putfield 44, 3) := by decide +kernel
theorem dX9_init_101 : decode cX9_init 101 = .ok (.aload_n 0, 1) := by decide +kernel
theorem dX9_init_102 : decode cX9_init 102 = .ok (.bipush 8, 2) := by decide +kernel
theorem dX9_init_104 : decode cX9_init 104 = .ok (.newarray .int, 2) := by decide +kernel
theorem dX9_init_106 : decode cX9_init 106 = .ok (.putfield 47, 3) := by decide +kernel
theorem dX9_init_109 : decode cX9_init 109 = .ok (.aload_n 0, 1) := by decide +kernel
theorem dX9_init_110 : decode cX9_init 110 = .ok (.bipush 8, 2) := by decide +kernel
theorem dX9_init_112 : decode cX9_init 112 = .ok (.newarray .int, 2) := by decide +kernel
theorem dX9_init_114 : decode cX9_init 114 = .ok (.putfield 50, 3) := by decide +kernel
theorem dX9_init_117 : decode cX9_init 117 = .ok (.aload_n 0, 1) := by decide +kernel
theorem dX9_init_118 : decode cX9_init 118 = .ok (.bipush 64, 2) := by decide +kernel
theorem dX9_init_120 : decode cX9_init 120 = .ok (.newarray .int, 2) := by decide +kernel
theorem dX9_init_122 : decode cX9_init 122 = .ok (.putfield 53, 3) := by decide +kernel
theorem dX9_init_125 : decode cX9_init 125 = .ok (.aload_n 0, 1) := by decide +kernel
theorem dX9_init_126 : decode cX9_init 126 = .ok (.bipush 64, 2) := by decide +kernel
theorem dX9_init_128 : decode cX9_init 128 = .ok (.newarray .int, 2) := by decide +kernel
theorem dX9_init_130 : decode cX9_init 130 = .ok (.putfield 56, 3) := by decide +kernel
theorem dX9_init_133 : decode cX9_init 133 = .ok (.aload_n 0, 1) := by decide +kernel
theorem dX9_init_134 : decode cX9_init 134 = .ok (.bipush 8, 2) := by decide +kernel
theorem dX9_init_136 : decode cX9_init 136 = .ok (.newarray .int, 2) := by decide +kernel
theorem dX9_init_138 : decode cX9_init 138 = .ok (.putfield 59, 3) := by decide +kernel
theorem dX9_init_141 : decode cX9_init 141 = .ok (.aload_n 0, 1) := by decide +kernel
theorem dX9_init_142 : decode cX9_init 142 = .ok (.bipush 8, 2) := by decide +kernel
theorem dX9_init_144 : decode cX9_init 144 = .ok (.newarray .int, 2) := by decide +kernel
theorem dX9_init_146 : decode cX9_init 146 = .ok (.putfield 62, 3) := by decide +kernel
theorem dX9_init_149 : decode cX9_init 149 = .ok (.aload_n 0, 1) := by decide +kernel
theorem dX9_init_150 : decode cX9_init 150 = .ok (.bipush 64, 2) := by decide +kernel
theorem dX9_init_152 : decode cX9_init 152 = .ok (.newarray .int, 2) := by decide +kernel
theorem dX9_init_154 : decode cX9_init 154 = .ok (.putfield 65, 3) := by decide +kernel
theorem dX9_init_157 : decode cX9_init 157 = .ok (.aload_n 0, 1) := by decide +kernel
theorem dX9_init_158 : decode cX9_init 158 = .ok (.bipush 64, 2) := by decide +kernel
theorem dX9_init_160 : decode cX9_init 160 = .ok (.newarray .int, 2) := by decide +kernel
theorem dX9_init_162 : decode cX9_init 162 = .ok (.putfield 68, 3) := by decide +kernel
theorem dX9_init_165 : decode cX9_init 165 = .ok (.aload_n 0, 1) := by decide +kernel
theorem dX9_init_166 : decode cX9_init 166 = .ok (.bipush 64, 2) := by decide +kernel
theorem dX9_init_168 : decode cX9_init 168 = .ok (.newarray .int, 2) := by decide +kernel
theorem dX9_init_170 : decode cX9_init 170 = .ok (.putfield 71, 3) := by decide +kernel
theorem dX9_init_173 : decode cX9_init 173 = .ok (.aload_n 0, 1) := by decide +kernel
theorem dX9_init_174 : decode cX9_init 174 = .ok (.bipush 8, 2) := by decide +kernel
theorem dX9_init_176 : decode cX9_init 176 = .ok (.newarray .int, 2) := by decide +kernel
theorem dX9_init_178 : decode cX9_init 178 = .ok (.putfield 74, 3) := by decide +kernel
theorem dX9_init_181 : decode cX9_init 181 = .ok (.aload_n 0, 1) := by decide +kernel
theorem dX9_init_182 : decode cX9_init 182 = .ok (.bipush 8, 2) := by decide +kernel
theorem dX9_init_184 : decode cX9_init 184 = .ok (.newarray .int, 2) := by decide +kernel
theorem dX9_init_186 : decode cX9_init 186 = .ok (.putfield 77, 3) := by decide +kernel
theorem dX9_init_189 : decode cX9_init 189 = .ok (.aload_n 0, 1) := by decide +kernel
theorem dX9_init_190 : decode cX9_init 190 = .ok (.iconst (-1), 1) := by decide +kernel
theorem dX9_init_191 : decode cX9_init 191 = .ok (.putfield 80, 3) := by decide +kernel
theorem dX9_init_194 : decode cX9_init 194 = .ok (.aload_n 0, 1) := by decide +kernel
theorem dX9_init_195 : decode cX9_init 195 = .ok (.iconst 1, 1) := by decide +kernel
theorem dX9_init_196 : decode cX9_init 196 = .ok (.putfield 84, 3) := by decide +kernel
theorem dX9_init_199 : decode cX9_init 199 = .ok (.aload_n 0, 1) := by decide +kernel
theorem dX9_init_200 : decode cX9_init 200 = .ok (.iconst 3, 1) := by decide +kernel
theorem dX9_init_201 : decode cX9_init 201 = .ok (.putfield 87, 3) := by decide +kernel
theorem dX9_init_204 : decode cX9_init 204 = .ok (.aload_n 0, 1) := by decide +kernel
theorem dX9_init_205 : decode cX9_init 205 = .ok (.iconst (-1), 1) := by decide +kernel
theorem dX9_init_206 : decode cX9_init 206 = .ok (.putfield 90, 3) := by decide +kernel
theorem dX9_init_209 : decode cX9_init 209 = .ok (.return_, 1) := by decide +kernel
theorem dX9_in_0 : decode cX9_in 0 = .ok (.lload_n 0, 1) := by decide +kernel
theorem dX9_in_1 : decode cX9_in 1 = .ok (.lload_n 2, 1) := by decide +kernel
theorem dX9_in_2 : decode cX9_in 2 = .ok (.lcmp, 1) := by decide +kernel
theorem dX9_in_3 : decode cX9_in 3 = .ok (.ifCond .lt 14, 3) := by decide +kernel
theorem dX9_in_6 : decode cX9_in 6 = .ok (.lload_n 0, 1) := by decide +kernel
theorem dX9_in_7 : decode cX9_in 7 = .ok (.lload 4, 2) := by decide +kernel
theorem dX9_in_9 : decode cX9_in 9 = .ok (.lcmp, 1) := by decide +kernel
theorem dX9_in_10 : decode cX9_in 10 = .ok (.ifCond .gt 7, 3) := by decide +kernel
theorem dX9_in_13 : decode cX9_in 13 = .ok (.iconst 1, 1) := by decide +kernel
theorem dX9_in_14 : decode cX9_in 14 = .ok (.goto 4, 3) := by decide +kernel
theorem dX9_in_17 : decode cX9_in 17 = .ok (.iconst 0, 1) := by decide +kernel
theorem dX9_in_18 : decode cX9_in 18 = .ok (.ireturn, 1) := by decide +kernel
theorem dX9_letters_0 : decode cX9_letters 0 = .ok (.iconst 0, 1) := by decide +kernel
theorem dX9_letters_1 : decode cX9_letters 1 = .ok (.istore_n 3, 1) := by decide +kernel
theorem dX9_letters_2 : decode cX9_letters 2 = .ok (.iconst 1, 1) := by decide +kernel
theorem dX9_letters_3 : decode cX9_letters 3 = .ok (.istore 4, 2) := by decide +kernel
theorem dX9_letters_5 : decode cX9_letters 5 = .ok (.lload_n 1, 1) := by decide +kernel
theorem dX9_letters_6 : decode cX9_letters 6 = .ok (.lstore 5, 2) := by decide +kernel
theorem dX9_letters_8 : decode cX9_letters 8 = .ok (.iconst 0, 1) := by decide +kernel
theorem dX9_letters_9 : decode cX9_letters 9 = .ok (.istore 7, 2) := by decide +kernel
theorem dX9_letters_11 : decode cX9_letters 11 = .ok (.iload 7, 2) := by decide +kernel
theorem dX9_letters_13 : decode cX9_letters 13 = .ok (.bipush 8, 2) := by decide +kernel
theorem dX9_letters_15 : decode cX9_letters 15 = .ok (.if_icmp .ge 68, 3) := by decide +kernel
theorem dX9_letters_18 : decode cX9_letters 18 = .ok (.lload 5, 2) := by decide +kernel
theorem dX9_letters_20 : decode cX9_letters 20 = .ok (.ldc2_w 93, 3) := by decide +kernel
theorem dX9_letters_23 : decode cX9_letters 23 = .ok (.land, 1) := by decide +kernel
theorem dX9_letters_24 : decode cX9_letters 24 = .ok (.l2i, 1) := by decide +kernel
theorem dX9_letters_25 : decode cX9_letters 25 = .ok (.istore 8, 2) := by decide +kernel
theorem dX9_letters_27 : decode cX9_letters 27 = .ok (.lload 5, 2) := by decide +kernel
theorem dX9_letters_29 : decode cX9_letters 29 = .ok (.bipush 8, 2) := by decide +kernel
theorem dX9_letters_31 : decode cX9_letters 31 = .ok (.lushr, 1) := by decide +kernel
theorem dX9_letters_32 : decode cX9_letters 32 = .ok (.lstore 5, 2) := by decide +kernel
theorem dX9_letters_34 : decode cX9_letters 34 = .ok (.iload 4, 2) := by decide +kernel
theorem dX9_letters_36 : decode cX9_letters 36 = .ok (.ifCond .eq 25, 3) := by decide +kernel
theorem dX9_letters_39 : decode cX9_letters 39 = .ok (.iload 8, 2) := by decide +kernel
theorem dX9_letters_41 : decode cX9_letters 41 = .ok (.bipush 126, 2) := by decide +kernel
theorem dX9_letters_43 : decode cX9_letters 43 = .ok (.if_icmp .gt 18, 3) := by decide +kernel
theorem dX9_letters_46 : decode cX9_letters 46 = .ok (.iload 8, 2) := by decide +kernel
theorem dX9_letters_48 : decode cX9_letters 48 = .ok (.ifCond .eq 9, 3) := by decide +kernel
theorem dX9_letters_51 : decode cX9_letters 51 = .ok (.iload_n 3, 1) := by decide +kernel
theorem dX9_letters_52 : decode cX9_letters 52 = .ok (.iload 7, 2) := by decide +kernel
theorem dX9_letters_54 : decode cX9_letters 54 = .ok (.if_icmp .ne 7, 3) := by decide +kernel
theorem dX9_letters_57 : decode cX9_letters 57 = .ok (.iconst 1, 1) := by decide +kernel
theorem dX9_letters_58 : decode cX9_letters 58 = .ok (.goto 4, 3) := by decide +kernel
theorem dX9_letters_61 : decode cX9_letters 61 = .ok (.iconst 0, 1) := by decide +kernel
theorem dX9_letters_62 : decode cX9_letters 62 = .ok (.istore 4, 2) := by decide +kernel
theorem dX9_letters_64 : decode cX9_letters 64 = .ok (.iload_n 3, 1) := by decide +kernel
theorem dX9_letters_65 : decode cX9_letters 65 = .ok (.iload 8, 2) := by decide +kernel
theorem dX9_letters_67 : decode cX9_letters 67 = .ok (.ifCond .le 7, 3) := by decide +kernel
theorem dX9_letters_70 : decode cX9_letters 70 = .ok (.iconst 1, 1) := by decide +kernel
theorem dX9_letters_71 : decode cX9_letters 71 = .ok (.goto 4, 3) := by decide +kernel
theorem dX9_letters_74 : decode cX9_letters 74 = .ok (.iconst 0, 1) := by decide +kernel
theorem dX9_letters_75 : decode cX9_letters 75 = .ok (.iadd, 1) := by decide +kernel
theorem dX9_letters_76 : decode cX9_letters 76 = .ok (.istore_n 3, 1) := by decide +kernel
theorem dX9_letters_77 : decode cX9_letters 77 = .ok (.iinc 7 1, 3) := by decide +kernel
theorem dX9_letters_80 : decode cX9_letters 80 = .ok (.goto (-69), 3) := by decide +kernel
theorem dX9_letters_83 : decode cX9_letters 83 = .ok (.iload 4, 2) := by decide +kernel
theorem dX9_letters_85 : decode cX9_letters 85 = .ok (.ifCond .ne 6, 3) := by decide +kernel
theorem dX9_letters_88 : decode cX9_letters 88 = .ok (.bipush (-102), 2) := by decide +kernel
theorem dX9_letters_90 : decode cX9_letters 90 = .ok (.ireturn, 1) := by decide +kernel
theorem dX9_letters_91 : decode cX9_letters 91 = .ok (.aload_n 0, 1) := by decide +kernel
theorem dX9_letters_92 : decode cX9_letters 92 = .ok (.getfield 95, 3) := by decide +kernel
theorem dX9_letters_95 : decode cX9_letters 95 = .ok (.iload_n 3, 1) := by decide +kernel
theorem dX9_letters_96 : decode cX9_letters 96 = .ok (.iadd, 1) := by decide +kernel
theorem dX9_letters_97 : decode cX9_letters 97 = .ok (.bipush 16, 2) := by decide +kernel
theorem dX9_letters_99 : decode cX9_letters 99 = .ok (.if_icmp .le 6, 3) := by decide +kernel
theorem dX9_letters_102 : decode cX9_letters 102 = .ok (.bipush (-104), 2) := by decide +kernel
theorem dX9_letters_104 : decode cX9_letters 104 = .ok (.ireturn, 1) := by decide +kernel
theorem dX9_letters_105 : decode cX9_letters 105 = .ok (.iconst 0, 1) := by decide +kernel
theorem dX9_letters_106 : decode cX9_letters 106 = .ok (.istore 7, 2) := by decide +kernel
theorem dX9_letters_108 : decode cX9_letters 108 = .ok (.iload 7, 2) := by decide +kernel
theorem dX9_letters_110 : decode cX9_letters 110 = .ok (.iload_n 3, 1) := by decide +kernel
theorem dX9_letters_111 : decode cX9_letters 111 = .ok (.if_icmp .ge 40, 3) := by decide +kernel
theorem dX9_letters_114 : decode cX9_letters 114 = .ok (.aload_n 0, 1) := by decide +kernel
theorem dX9_letters_115 : decode cX9_letters 115 = .ok (.getfield 7, 3) := by decide +kernel
theorem dX9_letters_118 : decode cX9_letters 118 = .ok (.aload_n 0, 1) := by decide +kernel
theorem dX9_letters_119 : decode cX9_letters 119 = .ok (.getfield 95, 3) := by decide +kernel
theorem dX9_letters_122 : decode cX9_letters 122 = .ok (.lload_n 1, 1) := by decide +kernel
theorem dX9_letters_123 : decode cX9_letters 123 = .ok (.bipush 8, 2) := by decide +kernel
theorem dX9_letters_125 : decode cX9_letters 125 = .ok (.iload 7, 2) := by decide +kernel
theorem dX9_letters_127 : decode cX9_letters 127 = .ok (.imul, 1) := by decide +kernel
theorem dX9_letters_128 : decode cX9_letters 128 = .ok (.lushr, 1) := by decide +kernel
theorem dX9_letters_129 : decode cX9_letters 129 = .ok (.ldc2_w 93, 3) := by decide +kernel
theorem dX9_letters_132 : decode cX9_letters 132 = .ok (.land, 1) := by decide +kernel
theorem dX9_letters_133 : decode cX9_letters 133 = .ok (.l2i, 1) := by decide +kernel
theorem dX9_letters_134 : decode cX9_letters 134 = .ok (.iastore, 1) := by decide +kernel
theorem dX9_letters_135 : decode cX9_letters 135 = .ok (.aload_n 0, 1) := by decide +kernel
theorem dX9_letters_136 : decode cX9_letters 136 = .ok (.dup, 1) := by decide +kernel
theorem dX9_letters_137 : decode cX9_letters 137 = .ok (.getfield 95, 3) := by decide +kernel
theorem dX9_letters_140 : decode cX9_letters 140 = .ok (.iconst 1, 1) := by decide +kernel
theorem dX9_letters_141 : decode cX9_letters 141 = .ok (.iadd, 1) := by decide +kernel
theorem dX9_letters_142 : decode cX9_letters 142 = .ok (.putfield 95, 3) := by decide +kernel
theorem dX9_letters_145 : decode cX9_letters 145 = .ok (.iinc 7 1, 3) := by decide +kernel
theorem dX9_letters_148 : decode cX9_letters 148 = .ok (.goto (-40), 3) := by decide +kernel
theorem dX9_letters_151 : decode cX9_letters 151 = .ok (.aload_n 0, 1) := by decide +kernel
theorem dX9_letters_152 : decode cX9_letters 152 = .ok (.getfield 95, 3) := by decide +kernel
theorem dX9_letters_155 : decode cX9_letters 155 = .ok (.ireturn, 1) := by decide +kernel
theorem dX9_blank_0 : decode cX9_blank 0 = .ok (.aload_n 0, 1) := by decide +kernel
theorem dX9_blank_1 : decode cX9_blank 1 = .ok (.getfield 95, 3) := by decide +kernel
theorem dX9_blank_4 : decode cX9_blank 4 = .ok (.istore_n 1, 1) := by decide +kernel
theorem dX9_blank_5 : decode cX9_blank 5 = .ok (.aload_n 0, 1) := by decide +kernel
theorem dX9_blank_6 : decode cX9_blank 6 = .ok (.iconst 0, 1) := by decide +kernel
theorem dX9_blank_7 : decode cX9_blank 7 = .ok (.putfield 95, 3) := by decide +kernel
theorem dX9_blank_10 : decode cX9_blank 10 = .ok (.iload_n 1, 1) := by decide +kernel
theorem dX9_blank_11 : decode cX9_blank 11 = .ok (.ireturn, 1) := by decide +kernel
theorem dX9_go_0 : decode cX9_go 0 = .ok (.aload_n 0, 1) := by decide +kernel
theorem dX9_go_1 : decode cX9_go 1 = .ok (.getfield 98, 3) := by decide +kernel
theorem dX9_go_4 : decode cX9_go 4 = .ok (.iconst 1, 1) := by decide +kernel
theorem dX9_go_5 : decode cX9_go 5 = .ok (.if_icmp .ne 28, 3) := by decide +kernel
theorem dX9_go_8 : decode cX9_go 8 = .ok (.aload_n 0, 1) := by decide +kernel
theorem dX9_go_9 : decode cX9_go 9 = .ok (.iload_n 1, 1) := by decide +kernel
theorem dX9_go_10 : decode cX9_go 10 = .ok (.bipush 48, 2) := by decide +kernel
theorem dX9_go_12 : decode cX9_go 12 = .ok (.isub, 1) := by decide +kernel
theorem dX9_go_13 : decode cX9_go 13 = .ok (.putfield 101, 3) := by decide +kernel
theorem dX9_go_16 : decode cX9_go 16 = .ok (.aload_n 0, 1) := by decide +kernel
theorem dX9_go_17 : decode cX9_go 17 = .ok (.iconst 2, 1) := by decide +kernel
theorem dX9_go_18 : decode cX9_go 18 = .ok (.putfield 98, 3) := by decide +kernel
theorem dX9_go_21 : decode cX9_go 21 = .ok (.iload_n 1, 1) := by decide +kernel
theorem dX9_go_22 : decode cX9_go 22 = .ok (.i2l, 1) := by decide +kernel
theorem dX9_go_23 : decode cX9_go 23 = .ok (.ldc2_w 104, 3) := by decide +kernel
theorem dX9_go_26 : decode cX9_go 26 = .ok (.ldc2_w 106, 3) := by decide +kernel
theorem dX9_go_29 : decode cX9_go 29 = .ok (.invokestatic 108, 3) := by decide +kernel
theorem dX9_go_32 : decode cX9_go 32 = .ok (.ireturn, 1) := by decide +kernel
theorem dX9_go_33 : decode cX9_go 33 = .ok (.aload_n 0, 1) := by decide +kernel
theorem dX9_go_34 : decode cX9_go 34 = .ok (.getfield 98, 3) := by decide +kernel
theorem dX9_go_37 : decode cX9_go 37 = .ok (.iconst 5, 1) := by decide +kernel
theorem dX9_go_38 : decode cX9_go 38 = .ok (.if_icmp .ne 29, 3) := by decide +kernel
theorem dX9_go_41 : decode cX9_go 41 = .ok (.aload_n 0, 1) := by decide +kernel
theorem dX9_go_42 : decode cX9_go 42 = .ok (.iload_n 1, 1) := by decide +kernel
theorem dX9_go_43 : decode cX9_go 43 = .ok (.bipush 48, 2) := by decide +kernel
theorem dX9_go_45 : decode cX9_go 45 = .ok (.isub, 1) := by decide +kernel
theorem dX9_go_46 : decode cX9_go 46 = .ok (.putfield 112, 3) := by decide +kernel
theorem dX9_go_49 : decode cX9_go 49 = .ok (.aload_n 0, 1) := by decide +kernel
theorem dX9_go_50 : decode cX9_go 50 = .ok (.bipush 6, 2) := by decide +kernel
theorem dX9_go_52 : decode cX9_go 52 = .ok (.putfield 98, 3) := by decide +kernel
theorem dX9_go_55 : decode cX9_go 55 = .ok (.iload_n 1, 1) := by decide +kernel
theorem dX9_go_56 : decode cX9_go 56 = .ok (.i2l, 1) := by decide +kernel
theorem dX9_go_57 : decode cX9_go 57 = .ok (.ldc2_w 104, 3) := by decide +kernel
theorem dX9_go_60 : decode cX9_go 60 = .ok (.ldc2_w 115, 3) := by decide +kernel
theorem dX9_go_63 : decode cX9_go 63 = .ok (.invokestatic 108, 3) := by decide +kernel
theorem dX9_go_66 : decode cX9_go 66 = .ok (.ireturn, 1) := by decide +kernel
theorem dX9_go_67 : decode cX9_go 67 = .ok (.iload_n 1, 1) := by decide +kernel
theorem dX9_go_68 : decode cX9_go 68 = .ok (.bipush 107, 2) := by decide +kernel
theorem dX9_go_70 : decode cX9_go 70 = .ok (.if_icmp .ne 10, 3) := by decide +kernel
theorem dX9_go_73 : decode cX9_go 73 = .ok (.aload_n 0, 1) := by decide +kernel
theorem dX9_go_74 : decode cX9_go 74 = .ok (.getfield 98, 3) := by decide +kernel
theorem dX9_go_77 : decode cX9_go 77 = .ok (.ifCond .eq 45, 3) := by decide +kernel
theorem dX9_go_80 : decode cX9_go 80 = .ok (.iload_n 1, 1) := by decide +kernel
theorem dX9_go_81 : decode cX9_go 81 = .ok (.bipush 98, 2) := by decide +kernel
theorem dX9_go_83 : decode cX9_go 83 = .ok (.if_icmp .ne 11, 3) := by decide +kernel
theorem dX9_go_86 : decode cX9_go 86 = .ok (.aload_n 0, 1) := by decide +kernel
theorem dX9_go_87 : decode cX9_go 87 = .ok (.getfield 98, 3) := by decide +kernel
theorem dX9_go_90 : decode cX9_go 90 = .ok (.iconst 3, 1) := by decide +kernel
theorem dX9_go_91 : decode cX9_go 91 = .ok (.if_icmp .lt 31, 3) := by decide +kernel
theorem dX9_go_94 : decode cX9_go 94 = .ok (.iload_n 1, 1) := by decide +kernel
theorem dX9_go_95 : decode cX9_go 95 = .ok (.bipush 111, 2) := by decide +kernel
theorem dX9_go_97 : decode cX9_go 97 = .ok (.if_icmp .ne 11, 3) := by decide +kernel
theorem dX9_go_100 : decode cX9_go 100 = .ok (.aload_n 0, 1) := by decide +kernel
theorem dX9_go_101 : decode cX9_go 101 = .ok (.getfield 98, 3) := by decide +kernel
theorem dX9_go_104 : decode cX9_go 104 = .ok (.iconst 4, 1) := by decide +kernel
theorem dX9_go_105 : decode cX9_go 105 = .ok (.if_icmp .lt 17, 3) := by decide +kernel
theorem dX9_go_108 : decode cX9_go 108 = .ok (.iload_n 1, 1) := by decide +kernel
theorem dX9_go_109 : decode cX9_go 109 = .ok (.bipush 119, 2) := by decide +kernel
theorem dX9_go_111 : decode cX9_go 111 = .ok (.if_icmp .ne 15, 3) := by decide +kernel
theorem dX9_go_114 : decode cX9_go 114 = .ok (.aload_n 0, 1) := by decide +kernel
theorem dX9_go_115 : decode cX9_go 115 = .ok (.getfield 98, 3) := by decide +kernel
theorem dX9_go_118 : decode cX9_go 118 = .ok (.iconst 5, 1) := by decide +kernel
theorem dX9_go_119 : decode cX9_go 119 = .ok (.if_icmp .ge 7, 3) := by decide +kernel
theorem dX9_go_122 : decode cX9_go 122 = .ok (.iconst 1, 1) := by decide +kernel
theorem dX9_go_123 : decode cX9_go 123 = .ok (.goto 4, 3) := by decide +kernel
theorem dX9_go_126 : decode cX9_go 126 = .ok (.iconst 0, 1) := by decide +kernel
theorem dX9_go_127 : decode cX9_go 127 = .ok (.istore_n 2, 1) := by decide +kernel
theorem dX9_go_128 : decode cX9_go 128 = .ok (.aload_n 0, 1) := by decide +kernel
theorem dX9_go_129 : decode cX9_go 129 = .ok (.iload_n 1, 1) := by decide +kernel
theorem dX9_go_130 : decode cX9_go 130 = .ok (.bipush 98, 2) := by decide +kernel
theorem dX9_go_132 : decode cX9_go 132 = .ok (.if_icmp .ne 7, 3) := by decide +kernel
theorem dX9_go_135 : decode cX9_go 135 = .ok (.iconst 1, 1) := by decide +kernel
theorem dX9_go_136 : decode cX9_go 136 = .ok (.goto 7, 3) := by decide +kernel
theorem dX9_go_139 : decode cX9_go 139 = .ok (.aload_n 0, 1) := by decide +kernel
theorem dX9_go_140 : decode cX9_go 140 = .ok (.getfield 117, 3) := by decide +kernel
theorem dX9_go_143 : decode cX9_go 143 = .ok (.putfield 117, 3) := by decide +kernel
theorem dX9_go_146 : decode cX9_go 146 = .ok (.aload_n 0, 1) := by decide +kernel
theorem dX9_go_147 : decode cX9_go 147 = .ok (.iload_n 1, 1) := by decide +kernel
theorem dX9_go_148 : decode cX9_go 148 = .ok (.bipush 111, 2) := by decide +kernel
theorem dX9_go_150 : decode cX9_go 150 = .ok (.if_icmp .ne 7, 3) := by decide +kernel
theorem dX9_go_153 : decode cX9_go 153 = .ok (.iconst 1, 1) := by decide +kernel
theorem dX9_go_154 : decode cX9_go 154 = .ok (.goto 7, 3) := by decide +kernel
theorem dX9_go_157 : decode cX9_go 157 = .ok (.aload_n 0, 1) := by decide +kernel
theorem dX9_go_158 : decode cX9_go 158 = .ok (.getfield 120, 3) := by decide +kernel
theorem dX9_go_161 : decode cX9_go 161 = .ok (.putfield 120, 3) := by decide +kernel
theorem dX9_go_164 : decode cX9_go 164 = .ok (.aload_n 0, 1) := by decide +kernel
theorem dX9_go_165 : decode cX9_go 165 = .ok (.iload_n 1, 1) := by decide +kernel
theorem dX9_go_166 : decode cX9_go 166 = .ok (.bipush 107, 2) := by decide +kernel
theorem dX9_go_168 : decode cX9_go 168 = .ok (.if_icmp .ne 7, 3) := by decide +kernel
theorem dX9_go_171 : decode cX9_go 171 = .ok (.iconst 1, 1) := by decide +kernel
theorem dX9_go_172 : decode cX9_go 172 = .ok (.goto 24, 3) := by decide +kernel
theorem dX9_go_175 : decode cX9_go 175 = .ok (.iload_n 1, 1) := by decide +kernel
theorem dX9_go_176 : decode cX9_go 176 = .ok (.bipush 98, 2) := by decide +kernel
theorem dX9_go_178 : decode cX9_go 178 = .ok (.if_icmp .ne 7, 3) := by decide +kernel
theorem dX9_go_181 : decode cX9_go 181 = .ok (.iconst 3, 1) := by decide +kernel
theorem dX9_go_182 : decode cX9_go 182 = .ok (.goto 14, 3) := by decide +kernel
theorem dX9_go_185 : decode cX9_go 185 = .ok (.iload_n 1, 1) := by decide +kernel
theorem dX9_go_186 : decode cX9_go 186 = .ok (.bipush 111, 2) := by decide +kernel
theorem dX9_go_188 : decode cX9_go 188 = .ok (.if_icmp .ne 7, 3) := by decide +kernel
theorem dX9_go_191 : decode cX9_go 191 = .ok (.iconst 4, 1) := by decide +kernel
theorem dX9_go_192 : decode cX9_go 192 = .ok (.goto 4, 3) := by decide +kernel
theorem dX9_go_195 : decode cX9_go 195 = .ok (.iconst 5, 1) := by decide +kernel
theorem dX9_go_196 : decode cX9_go 196 = .ok (.putfield 98, 3) := by decide +kernel
theorem dX9_go_199 : decode cX9_go 199 = .ok (.iload_n 2, 1) := by decide +kernel
theorem dX9_go_200 : decode cX9_go 200 = .ok (.ireturn, 1) := by decide +kernel
theorem dX9_faultOf_0 : decode cX9_faultOf 0 = .ok (.aload_n 0, 1) := by decide +kernel
theorem dX9_faultOf_1 : decode cX9_faultOf 1 = .ok (.iconst 0, 1) := by decide +kernel
theorem dX9_faultOf_2 : decode cX9_faultOf 2 = .ok (.putfield 98, 3) := by decide +kernel
theorem dX9_faultOf_5 : decode cX9_faultOf 5 = .ok (.aload_n 0, 1) := by decide +kernel
theorem dX9_faultOf_6 : decode cX9_faultOf 6 = .ok (.iconst 1, 1) := by decide +kernel
theorem dX9_faultOf_7 : decode cX9_faultOf 7 = .ok (.putfield 101, 3) := by decide +kernel
theorem dX9_faultOf_10 : decode cX9_faultOf 10 = .ok (.aload_n 0, 1) := by decide +kernel
theorem dX9_faultOf_11 : decode cX9_faultOf 11 = .ok (.iconst 0, 1) := by decide +kernel
theorem dX9_faultOf_12 : decode cX9_faultOf 12 = .ok (.putfield 117, 3) := by decide +kernel
theorem dX9_faultOf_15 : decode cX9_faultOf 15 = .ok (.aload_n 0, 1) := by decide +kernel
theorem dX9_faultOf_16 : decode cX9_faultOf 16 = .ok (.iconst 0, 1) := by decide +kernel
theorem dX9_faultOf_17 : decode cX9_faultOf 17 = .ok (.putfield 120, 3) := by decide +kernel
theorem dX9_faultOf_20 : decode cX9_faultOf 20 = .ok (.aload_n 0, 1) := by decide +kernel
theorem dX9_faultOf_21 : decode cX9_faultOf 21 = .ok (.iconst 3, 1) := by decide +kernel
theorem dX9_faultOf_22 : decode cX9_faultOf 22 = .ok (.putfield 112, 3) := by decide +kernel
theorem dX9_faultOf_25 : decode cX9_faultOf 25 = .ok (.iconst 0, 1) := by decide +kernel
theorem dX9_faultOf_26 : decode cX9_faultOf 26 = .ok (.istore_n 1, 1) := by decide +kernel
theorem dX9_faultOf_27 : decode cX9_faultOf 27 = .ok (.iload_n 1, 1) := by decide +kernel
theorem dX9_faultOf_28 : decode cX9_faultOf 28 = .ok (.aload_n 0, 1) := by decide +kernel
theorem dX9_faultOf_29 : decode cX9_faultOf 29 = .ok (.getfield 95, 3) := by decide +kernel
theorem dX9_faultOf_32 : decode cX9_faultOf 32 = .ok (.if_icmp .ge 22, 3) := by decide +kernel
theorem dX9_faultOf_35 : decode cX9_faultOf 35 = .ok (.aload_n 0, 1) := by decide +kernel
theorem dX9_faultOf_36 : decode cX9_faultOf 36 = .ok (.aload_n 0, 1) := by decide +kernel
theorem dX9_faultOf_37 : decode cX9_faultOf 37 = .ok (.getfield 7, 3) := by decide +kernel
theorem dX9_faultOf_40 : decode cX9_faultOf 40 = .ok (.iload_n 1, 1) := by decide +kernel
theorem dX9_faultOf_41 : decode cX9_faultOf 41 = .ok (.iaload, 1) := by decide +kernel
theorem dX9_faultOf_42 : decode cX9_faultOf 42 = .ok (.invokevirtual 123, 3) := by decide +kernel
theorem dX9_faultOf_45 : decode cX9_faultOf 45 = .ok (.ifCond .eq 9, 3) := by decide +kernel
theorem dX9_faultOf_48 : decode cX9_faultOf 48 = .ok (.iinc 1 1, 3) := by decide +kernel
theorem dX9_faultOf_51 : decode cX9_faultOf 51 = .ok (.goto (-24), 3) := by decide +kernel
theorem dX9_faultOf_54 : decode cX9_faultOf 54 = .ok (.iload_n 1, 1) := by decide +kernel
theorem dX9_faultOf_55 : decode cX9_faultOf 55 = .ok (.ireturn, 1) := by decide +kernel
theorem dX9_fault_0 : decode cX9_fault 0 = .ok (.aload_n 0, 1) := by decide +kernel
theorem dX9_fault_1 : decode cX9_fault 1 = .ok (.invokevirtual 127, 3) := by decide +kernel
theorem dX9_fault_4 : decode cX9_fault 4 = .ok (.ireturn, 1) := by decide +kernel
theorem dX9_law_0 : decode cX9_law 0 = .ok (.aload_n 0, 1) := by decide +kernel
theorem dX9_law_1 : decode cX9_law 1 = .ok (.invokevirtual 127, 3) := by decide +kernel
theorem dX9_law_4 : decode cX9_law 4 = .ok (.aload_n 0, 1) := by decide +kernel
theorem dX9_law_5 : decode cX9_law 5 = .ok (.getfield 95, 3) := by decide +kernel
theorem dX9_law_8 : decode cX9_law 8 = .ok (.if_icmp .lt 19, 3) := by decide +kernel
theorem dX9_law_11 : decode cX9_law 11 = .ok (.aload_n 0, 1) := by decide +kernel
theorem dX9_law_12 : decode cX9_law 12 = .ok (.getfield 98, 3) := by decide +kernel
theorem dX9_law_15 : decode cX9_law 15 = .ok (.iconst 1, 1) := by decide +kernel
theorem dX9_law_16 : decode cX9_law 16 = .ok (.if_icmp .eq 11, 3) := by decide +kernel
theorem dX9_law_19 : decode cX9_law 19 = .ok (.aload_n 0, 1) := by decide +kernel
theorem dX9_law_20 : decode cX9_law 20 = .ok (.getfield 98, 3) := by decide +kernel
theorem dX9_law_23 : decode cX9_law 23 = .ok (.iconst 5, 1) := by decide +kernel
theorem dX9_law_24 : decode cX9_law 24 = .ok (.if_icmp .ne 6, 3) := by decide +kernel
theorem dX9_law_27 : decode cX9_law 27 = .ok (.bipush (-103), 2) := by decide +kernel
theorem dX9_law_29 : decode cX9_law 29 = .ok (.ireturn, 1) := by decide +kernel
theorem dX9_law_30 : decode cX9_law 30 = .ok (.aload_n 0, 1) := by decide +kernel
theorem dX9_law_31 : decode cX9_law 31 = .ok (.aload_n 0, 1) := by decide +kernel
theorem dX9_law_32 : decode cX9_law 32 = .ok (.getfield 101, 3) := by decide +kernel
theorem dX9_law_35 : decode cX9_law 35 = .ok (.putfield 84, 3) := by decide +kernel
theorem dX9_law_38 : decode cX9_law 38 = .ok (.aload_n 0, 1) := by decide +kernel
theorem dX9_law_39 : decode cX9_law 39 = .ok (.aload_n 0, 1) := by decide +kernel
theorem dX9_law_40 : decode cX9_law 40 = .ok (.getfield 117, 3) := by decide +kernel
theorem dX9_law_43 : decode cX9_law 43 = .ok (.putfield 131, 3) := by decide +kernel
theorem dX9_law_46 : decode cX9_law 46 = .ok (.aload_n 0, 1) := by decide +kernel
theorem dX9_law_47 : decode cX9_law 47 = .ok (.aload_n 0, 1) := by decide +kernel
theorem dX9_law_48 : decode cX9_law 48 = .ok (.getfield 120, 3) := by decide +kernel
theorem dX9_law_51 : decode cX9_law 51 = .ok (.putfield 134, 3) := by decide +kernel
theorem dX9_law_54 : decode cX9_law 54 = .ok (.aload_n 0, 1) := by decide +kernel
theorem dX9_law_55 : decode cX9_law 55 = .ok (.aload_n 0, 1) := by decide +kernel
theorem dX9_law_56 : decode cX9_law 56 = .ok (.getfield 112, 3) := by decide +kernel
theorem dX9_law_59 : decode cX9_law 59 = .ok (.putfield 87, 3) := by decide +kernel
theorem dX9_law_62 : decode cX9_law 62 = .ok (.aload_n 0, 1) := by decide +kernel
theorem dX9_law_63 : decode cX9_law 63 = .ok (.dup, 1) := by decide +kernel
theorem dX9_law_64 : decode cX9_law 64 = .ok (.getfield 137, 3) := by decide +kernel
theorem dX9_law_67 : decode cX9_law 67 = .ok (.iconst 1, 1) := by decide +kernel
theorem dX9_law_68 : decode cX9_law 68 = .ok (.iadd, 1) := by decide +kernel
theorem dX9_law_69 : decode cX9_law 69 = .ok (.putfield 137, 3) := by decide +kernel
theorem dX9_law_72 : decode cX9_law 72 = .ok (.aload_n 0, 1) := by decide +kernel
theorem dX9_law_73 : decode cX9_law 73 = .ok (.iconst 0, 1) := by decide +kernel
theorem dX9_law_74 : decode cX9_law 74 = .ok (.putfield 95, 3) := by decide +kernel
theorem dX9_law_77 : decode cX9_law 77 = .ok (.aload_n 0, 1) := by decide +kernel
theorem dX9_law_78 : decode cX9_law 78 = .ok (.getfield 137, 3) := by decide +kernel
theorem dX9_law_81 : decode cX9_law 81 = .ok (.ireturn, 1) := by decide +kernel
theorem dX9_tellLaw_0 : decode cX9_tellLaw 0 = .ok (.iload_n 1, 1) := by decide +kernel
theorem dX9_tellLaw_1 : decode cX9_tellLaw 1 = .ok (.ifCond .ne 10, 3) := by decide +kernel
theorem dX9_tellLaw_4 : decode cX9_tellLaw 4 = .ok (.aload_n 0, 1) := by decide +kernel
theorem dX9_tellLaw_5 : decode cX9_tellLaw 5 = .ok (.getfield 84, 3) := by decide +kernel
theorem dX9_tellLaw_8 : decode cX9_tellLaw 8 = .ok (.goto 41, 3) := by decide +kernel
theorem dX9_tellLaw_11 : decode cX9_tellLaw 11 = .ok (.iload_n 1, 1) := by decide +kernel
theorem dX9_tellLaw_12 : decode cX9_tellLaw 12 = .ok (.iconst 1, 1) := by decide +kernel
theorem dX9_tellLaw_13 : decode cX9_tellLaw 13 = .ok (.if_icmp .ne 10, 3) := by decide +kernel
theorem dX9_tellLaw_16 : decode cX9_tellLaw 16 = .ok (.aload_n 0, 1) := by decide +kernel
theorem dX9_tellLaw_17 : decode cX9_tellLaw 17 = .ok (.getfield 131, 3) := by decide +kernel
theorem dX9_tellLaw_20 : decode cX9_tellLaw 20 = .ok (.goto 29, 3) := by decide +kernel
theorem dX9_tellLaw_23 : decode cX9_tellLaw 23 = .ok (.iload_n 1, 1) := by decide +kernel
theorem dX9_tellLaw_24 : decode cX9_tellLaw 24 = .ok (.iconst 2, 1) := by decide +kernel
theorem dX9_tellLaw_25 : decode cX9_tellLaw 25 = .ok (.if_icmp .ne 10, 3) := by decide +kernel
theorem dX9_tellLaw_28 : decode cX9_tellLaw 28 = .ok (.aload_n 0, 1) := by decide +kernel
theorem dX9_tellLaw_29 : decode cX9_tellLaw 29 = .ok (.getfield 134, 3) := by decide +kernel
theorem dX9_tellLaw_32 : decode cX9_tellLaw 32 = .ok (.goto 17, 3) := by decide +kernel
theorem dX9_tellLaw_35 : decode cX9_tellLaw 35 = .ok (.iload_n 1, 1) := by decide +kernel
theorem dX9_tellLaw_36 : decode cX9_tellLaw 36 = .ok (.iconst 3, 1) := by decide +kernel
theorem dX9_tellLaw_37 : decode cX9_tellLaw 37 = .ok (.if_icmp .ne 10, 3) := by decide +kernel
theorem dX9_tellLaw_40 : decode cX9_tellLaw 40 = .ok (.aload_n 0, 1) := by decide +kernel
theorem dX9_tellLaw_41 : decode cX9_tellLaw 41 = .ok (.getfield 87, 3) := by decide +kernel
theorem dX9_tellLaw_44 : decode cX9_tellLaw 44 = .ok (.goto 5, 3) := by decide +kernel
theorem dX9_tellLaw_47 : decode cX9_tellLaw 47 = .ok (.bipush (-102), 2) := by decide +kernel
theorem dX9_tellLaw_49 : decode cX9_tellLaw 49 = .ok (.ireturn, 1) := by decide +kernel
theorem dX9_lawTold_0 : decode cX9_lawTold 0 = .ok (.aload_n 0, 1) := by decide +kernel
theorem dX9_lawTold_1 : decode cX9_lawTold 1 = .ok (.iload_n 1, 1) := by decide +kernel
theorem dX9_lawTold_2 : decode cX9_lawTold 2 = .ok (.invokevirtual 140, 3) := by decide +kernel
theorem dX9_lawTold_5 : decode cX9_lawTold 5 = .ok (.ireturn, 1) := by decide +kernel
theorem dX9_isPerson_0 : decode cX9_isPerson 0 = .ok (.iload_n 1, 1) := by decide +kernel
theorem dX9_isPerson_1 : decode cX9_isPerson 1 = .ok (.i2l, 1) := by decide +kernel
theorem dX9_isPerson_2 : decode cX9_isPerson 2 = .ok (.lconst 0, 1) := by decide +kernel
theorem dX9_isPerson_3 : decode cX9_isPerson 3 = .ok (.aload_n 0, 1) := by decide +kernel
theorem dX9_isPerson_4 : decode cX9_isPerson 4 = .ok (.getfield 144, 3) := by decide +kernel
theorem dX9_isPerson_7 : decode cX9_isPerson 7 = .ok (.iconst 1, 1) := by decide +kernel
theorem dX9_isPerson_8 : decode cX9_isPerson 8 = .ok (.isub, 1) := by decide +kernel
theorem dX9_isPerson_9 : decode cX9_isPerson 9 = .ok (.i2l, 1) := by decide +kernel
theorem dX9_isPerson_10 : decode cX9_isPerson 10 = .ok (.invokestatic 108, 3) := by decide +kernel
theorem dX9_isPerson_13 : decode cX9_isPerson 13 = .ok (.ireturn, 1) := by decide +kernel
theorem dX9_arePair_0 : decode cX9_arePair 0 = .ok (.aload_n 0, 1) := by decide +kernel
theorem dX9_arePair_1 : decode cX9_arePair 1 = .ok (.iload_n 1, 1) := by decide +kernel
theorem dX9_arePair_2 : decode cX9_arePair 2 = .ok (.invokevirtual 147, 3) := by decide +kernel
theorem dX9_arePair_5 : decode cX9_arePair 5 = .ok (.ifCond .eq 20, 3) := by decide +kernel
theorem dX9_arePair_8 : decode cX9_arePair 8 = .ok (.aload_n 0, 1) := by decide +kernel
theorem dX9_arePair_9 : decode cX9_arePair 9 = .ok (.iload_n 2, 1) := by decide +kernel
theorem dX9_arePair_10 : decode cX9_arePair 10 = .ok (.invokevirtual 147, 3) := by decide +kernel
theorem dX9_arePair_13 : decode cX9_arePair 13 = .ok (.ifCond .eq 12, 3) := by decide +kernel
theorem dX9_arePair_16 : decode cX9_arePair 16 = .ok (.iload_n 1, 1) := by decide +kernel
theorem dX9_arePair_17 : decode cX9_arePair 17 = .ok (.iload_n 2, 1) := by decide +kernel
theorem dX9_arePair_18 : decode cX9_arePair 18 = .ok (.if_icmp .eq 7, 3) := by decide +kernel
theorem dX9_arePair_21 : decode cX9_arePair 21 = .ok (.iconst 1, 1) := by decide +kernel
theorem dX9_arePair_22 : decode cX9_arePair 22 = .ok (.goto 4, 3) := by decide +kernel
theorem dX9_arePair_25 : decode cX9_arePair 25 = .ok (.iconst 0, 1) := by decide +kernel
theorem dX9_arePair_26 : decode cX9_arePair 26 = .ok (.ireturn, 1) := by decide +kernel
theorem dX9_person_0 : decode cX9_person 0 = .ok (.iload_n 1, 1) := by decide +kernel
theorem dX9_person_1 : decode cX9_person 1 = .ok (.i2l, 1) := by decide +kernel
theorem dX9_person_2 : decode cX9_person 2 = .ok (.lconst 0, 1) := by decide +kernel
theorem dX9_person_3 : decode cX9_person 3 = .ok (.ldc2_w 150, 3) := by decide +kernel
theorem dX9_person_6 : decode cX9_person 6 = .ok (.invokestatic 108, 3) := by decide +kernel
theorem dX9_person_9 : decode cX9_person 9 = .ok (.ifCond .ne 6, 3) := by decide +kernel
theorem dX9_person_12 : decode cX9_person 12 = .ok (.bipush (-102), 2) := by decide +kernel
theorem dX9_person_14 : decode cX9_person 14 = .ok (.ireturn, 1) := by decide +kernel
theorem dX9_person_15 : decode cX9_person 15 = .ok (.aload_n 0, 1) := by decide +kernel
theorem dX9_person_16 : decode cX9_person 16 = .ok (.getfield 144, 3) := by decide +kernel
theorem dX9_person_19 : decode cX9_person 19 = .ok (.bipush 8, 2) := by decide +kernel
theorem dX9_person_21 : decode cX9_person 21 = .ok (.if_icmp .ne 6, 3) := by decide +kernel
theorem dX9_person_24 : decode cX9_person 24 = .ok (.bipush (-104), 2) := by decide +kernel
theorem dX9_person_26 : decode cX9_person 26 = .ok (.ireturn, 1) := by decide +kernel
theorem dX9_person_27 : decode cX9_person 27 = .ok (.aload_n 0, 1) := by decide +kernel
theorem dX9_person_28 : decode cX9_person 28 = .ok (.getfield 13, 3) := by decide +kernel
theorem dX9_person_31 : decode cX9_person 31 = .ok (.aload_n 0, 1) := by decide +kernel
theorem dX9_person_32 : decode cX9_person 32 = .ok (.getfield 144, 3) := by decide +kernel
theorem dX9_person_35 : decode cX9_person 35 = .ok (.iload_n 1, 1) := by decide +kernel
theorem dX9_person_36 : decode cX9_person 36 = .ok (.iastore, 1) := by decide +kernel
theorem dX9_person_37 : decode cX9_person 37 = .ok (.aload_n 0, 1) := by decide +kernel
theorem dX9_person_38 : decode cX9_person 38 = .ok (.dup, 1) := by decide +kernel
theorem dX9_person_39 : decode cX9_person 39 = .ok (.getfield 144, 3) := by decide +kernel
theorem dX9_person_42 : decode cX9_person 42 = .ok (.iconst 1, 1) := by decide +kernel
theorem dX9_person_43 : decode cX9_person 43 = .ok (.iadd, 1) := by decide +kernel
theorem dX9_person_44 : decode cX9_person 44 = .ok (.putfield 144, 3) := by decide +kernel
theorem dX9_person_47 : decode cX9_person 47 = .ok (.aload_n 0, 1) := by decide +kernel
theorem dX9_person_48 : decode cX9_person 48 = .ok (.getfield 144, 3) := by decide +kernel
theorem dX9_person_51 : decode cX9_person 51 = .ok (.iconst 1, 1) := by decide +kernel
theorem dX9_person_52 : decode cX9_person 52 = .ok (.isub, 1) := by decide +kernel
theorem dX9_person_53 : decode cX9_person 53 = .ok (.ireturn, 1) := by decide +kernel
theorem dX9_know_0 : decode cX9_know 0 = .ok (.aload_n 0, 1) := by decide +kernel
theorem dX9_know_1 : decode cX9_know 1 = .ok (.iload_n 1, 1) := by decide +kernel
theorem dX9_know_2 : decode cX9_know 2 = .ok (.iload_n 2, 1) := by decide +kernel
theorem dX9_know_3 : decode cX9_know 3 = .ok (.invokevirtual 152, 3) := by decide +kernel
theorem dX9_know_6 : decode cX9_know 6 = .ok (.ifCond .ne 6, 3) := by decide +kernel
theorem dX9_know_9 : decode cX9_know 9 = .ok (.bipush (-101), 2) := by decide +kernel
theorem dX9_know_11 : decode cX9_know 11 = .ok (.ireturn, 1) := by decide +kernel
theorem dX9_know_12 : decode cX9_know 12 = .ok (.aload_n 0, 1) := by decide +kernel
theorem dX9_know_13 : decode cX9_know 13 = .ok (.getfield 16, 3) := by decide +kernel
theorem dX9_know_16 : decode cX9_know 16 = .ok (.iload_n 1, 1) := by decide +kernel
theorem dX9_know_17 : decode cX9_know 17 = .ok (.iaload, 1) := by decide +kernel
theorem dX9_know_18 : decode cX9_know 18 = .ok (.iload_n 2, 1) := by decide +kernel
theorem dX9_know_19 : decode cX9_know 19 = .ok (.ishr, 1) := by decide +kernel
theorem dX9_know_20 : decode cX9_know 20 = .ok (.iconst 1, 1) := by decide +kernel
theorem dX9_know_21 : decode cX9_know 21 = .ok (.iand, 1) := by decide +kernel
theorem dX9_know_22 : decode cX9_know 22 = .ok (.istore 4, 2) := by decide +kernel
theorem dX9_know_24 : decode cX9_know 24 = .ok (.aload_n 0, 1) := by decide +kernel
theorem dX9_know_25 : decode cX9_know 25 = .ok (.getfield 16, 3) := by decide +kernel
theorem dX9_know_28 : decode cX9_know 28 = .ok (.iload_n 1, 1) := by decide +kernel
theorem dX9_know_29 : decode cX9_know 29 = .ok (.aload_n 0, 1) := by decide +kernel
theorem dX9_know_30 : decode cX9_know 30 = .ok (.getfield 16, 3) := by decide +kernel
theorem dX9_know_33 : decode cX9_know 33 = .ok (.iload_n 1, 1) := by decide +kernel
theorem dX9_know_34 : decode cX9_know 34 = .ok (.iaload, 1) := by decide +kernel
theorem dX9_know_35 : decode cX9_know 35 = .ok (.iconst 1, 1) := by decide +kernel
theorem dX9_know_36 : decode cX9_know 36 = .ok (.iload_n 2, 1) := by decide +kernel
theorem dX9_know_37 : decode cX9_know 37 = .ok (.ishl, 1) := by decide +kernel
theorem dX9_know_38 : decode cX9_know 38 = .ok (.iconst (-1), 1) := by decide +kernel
theorem dX9_know_39 : decode cX9_know 39 = .ok (.ixor, 1) := by decide +kernel
theorem dX9_know_40 : decode cX9_know 40 = .ok (.iand, 1) := by decide +kernel
theorem dX9_know_41 : decode cX9_know 41 = .ok (.iload_n 3, 1) := by decide +kernel
theorem dX9_know_42 : decode cX9_know 42 = .ok (.ifCond .eq 9, 3) := by decide +kernel
theorem dX9_know_45 : decode cX9_know 45 = .ok (.iconst 1, 1) := by decide +kernel
theorem dX9_know_46 : decode cX9_know 46 = .ok (.iload_n 2, 1) := by decide +kernel
theorem dX9_know_47 : decode cX9_know 47 = .ok (.ishl, 1) := by decide +kernel
theorem dX9_know_48 : decode cX9_know 48 = .ok (.goto 4, 3) := by decide +kernel
theorem dX9_know_51 : decode cX9_know 51 = .ok (.iconst 0, 1) := by decide +kernel
theorem dX9_know_52 : decode cX9_know 52 = .ok (.ior, 1) := by decide +kernel
theorem dX9_know_53 : decode cX9_know 53 = .ok (.iastore, 1) := by decide +kernel
theorem dX9_know_54 : decode cX9_know 54 = .ok (.aload_n 0, 1) := by decide +kernel
theorem dX9_know_55 : decode cX9_know 55 = .ok (.getfield 16, 3) := by decide +kernel
theorem dX9_know_58 : decode cX9_know 58 = .ok (.iload_n 2, 1) := by decide +kernel
theorem dX9_know_59 : decode cX9_know 59 = .ok (.aload_n 0, 1) := by decide +kernel
theorem dX9_know_60 : decode cX9_know 60 = .ok (.getfield 16, 3) := by decide +kernel
theorem dX9_know_63 : decode cX9_know 63 = .ok (.iload_n 2, 1) := by decide +kernel
theorem dX9_know_64 : decode cX9_know 64 = .ok (.iaload, 1) := by decide +kernel
theorem dX9_know_65 : decode cX9_know 65 = .ok (.iconst 1, 1) := by decide +kernel
theorem dX9_know_66 : decode cX9_know 66 = .ok (.iload_n 1, 1) := by decide +kernel
theorem dX9_know_67 : decode cX9_know 67 = .ok (.ishl, 1) := by decide +kernel
theorem dX9_know_68 : decode cX9_know 68 = .ok (.iconst (-1), 1) := by decide +kernel
theorem dX9_know_69 : decode cX9_know 69 = .ok (.ixor, 1) := by decide +kernel
theorem dX9_know_70 : decode cX9_know 70 = .ok (.iand, 1) := by decide +kernel
theorem dX9_know_71 : decode cX9_know 71 = .ok (.iload_n 3, 1) := by decide +kernel
theorem dX9_know_72 : decode cX9_know 72 = .ok (.ifCond .eq 9, 3) := by decide +kernel
theorem dX9_know_75 : decode cX9_know 75 = .ok (.iconst 1, 1) := by decide +kernel
theorem dX9_know_76 : decode cX9_know 76 = .ok (.iload_n 1, 1) := by decide +kernel
theorem dX9_know_77 : decode cX9_know 77 = .ok (.ishl, 1) := by decide +kernel
theorem dX9_know_78 : decode cX9_know 78 = .ok (.goto 4, 3) := by decide +kernel
theorem dX9_know_81 : decode cX9_know 81 = .ok (.iconst 0, 1) := by decide +kernel
theorem dX9_know_82 : decode cX9_know 82 = .ok (.ior, 1) := by decide +kernel
theorem dX9_know_83 : decode cX9_know 83 = .ok (.iastore, 1) := by decide +kernel
theorem dX9_know_84 : decode cX9_know 84 = .ok (.iload 4, 2) := by decide +kernel
theorem dX9_know_86 : decode cX9_know 86 = .ok (.ireturn, 1) := by decide +kernel
theorem dX9_like_0 : decode cX9_like 0 = .ok (.aload_n 0, 1) := by decide +kernel
theorem dX9_like_1 : decode cX9_like 1 = .ok (.iload_n 1, 1) := by decide +kernel
theorem dX9_like_2 : decode cX9_like 2 = .ok (.iload_n 2, 1) := by decide +kernel
theorem dX9_like_3 : decode cX9_like 3 = .ok (.invokevirtual 152, 3) := by decide +kernel
theorem dX9_like_6 : decode cX9_like 6 = .ok (.ifCond .ne 6, 3) := by decide +kernel
theorem dX9_like_9 : decode cX9_like 9 = .ok (.bipush (-101), 2) := by decide +kernel
theorem dX9_like_11 : decode cX9_like 11 = .ok (.ireturn, 1) := by decide +kernel
theorem dX9_like_12 : decode cX9_like 12 = .ok (.iload_n 3, 1) := by decide +kernel
theorem dX9_like_13 : decode cX9_like 13 = .ok (.i2l, 1) := by decide +kernel
theorem dX9_like_14 : decode cX9_like 14 = .ok (.lconst 0, 1) := by decide +kernel
theorem dX9_like_15 : decode cX9_like 15 = .ok (.ldc2_w 156, 3) := by decide +kernel
theorem dX9_like_18 : decode cX9_like 18 = .ok (.invokestatic 108, 3) := by decide +kernel
theorem dX9_like_21 : decode cX9_like 21 = .ok (.ifCond .ne 6, 3) := by decide +kernel
theorem dX9_like_24 : decode cX9_like 24 = .ok (.bipush (-102), 2) := by decide +kernel
theorem dX9_like_26 : decode cX9_like 26 = .ok (.ireturn, 1) := by decide +kernel
theorem dX9_like_27 : decode cX9_like 27 = .ok (.aload_n 0, 1) := by decide +kernel
theorem dX9_like_28 : decode cX9_like 28 = .ok (.getfield 19, 3) := by decide +kernel
theorem dX9_like_31 : decode cX9_like 31 = .ok (.bipush 8, 2) := by decide +kernel
theorem dX9_like_33 : decode cX9_like 33 = .ok (.iload_n 1, 1) := by decide +kernel
theorem dX9_like_34 : decode cX9_like 34 = .ok (.imul, 1) := by decide +kernel
theorem dX9_like_35 : decode cX9_like 35 = .ok (.iload_n 2, 1) := by decide +kernel
theorem dX9_like_36 : decode cX9_like 36 = .ok (.iadd, 1) := by decide +kernel
theorem dX9_like_37 : decode cX9_like 37 = .ok (.iaload, 1) := by decide +kernel
theorem dX9_like_38 : decode cX9_like 38 = .ok (.istore 4, 2) := by decide +kernel
theorem dX9_like_40 : decode cX9_like 40 = .ok (.aload_n 0, 1) := by decide +kernel
theorem dX9_like_41 : decode cX9_like 41 = .ok (.getfield 19, 3) := by decide +kernel
theorem dX9_like_44 : decode cX9_like 44 = .ok (.bipush 8, 2) := by decide +kernel
theorem dX9_like_46 : decode cX9_like 46 = .ok (.iload_n 1, 1) := by decide +kernel
theorem dX9_like_47 : decode cX9_like 47 = .ok (.imul, 1) := by decide +kernel
theorem dX9_like_48 : decode cX9_like 48 = .ok (.iload_n 2, 1) := by decide +kernel
theorem dX9_like_49 : decode cX9_like 49 = .ok (.iadd, 1) := by decide +kernel
theorem dX9_like_50 : decode cX9_like 50 = .ok (.iload_n 3, 1) := by decide +kernel
theorem dX9_like_51 : decode cX9_like 51 = .ok (.iastore, 1) := by decide +kernel
theorem dX9_like_52 : decode cX9_like 52 = .ok (.iload 4, 2) := by decide +kernel
theorem dX9_like_54 : decode cX9_like 54 = .ok (.ireturn, 1) := by decide +kernel
theorem dX9_isGift_0 : decode cX9_isGift 0 = .ok (.iload_n 1, 1) := by decide +kernel
theorem dX9_isGift_1 : decode cX9_isGift 1 = .ok (.i2l, 1) := by decide +kernel
theorem dX9_isGift_2 : decode cX9_isGift 2 = .ok (.lconst 0, 1) := by decide +kernel
theorem dX9_isGift_3 : decode cX9_isGift 3 = .ok (.aload_n 0, 1) := by decide +kernel
theorem dX9_isGift_4 : decode cX9_isGift 4 = .ok (.getfield 158, 3) := by decide +kernel
theorem dX9_isGift_7 : decode cX9_isGift 7 = .ok (.iconst 1, 1) := by decide +kernel
theorem dX9_isGift_8 : decode cX9_isGift 8 = .ok (.isub, 1) := by decide +kernel
theorem dX9_isGift_9 : decode cX9_isGift 9 = .ok (.i2l, 1) := by decide +kernel
theorem dX9_isGift_10 : decode cX9_isGift 10 = .ok (.invokestatic 108, 3) := by decide +kernel
theorem dX9_isGift_13 : decode cX9_isGift 13 = .ok (.ireturn, 1) := by decide +kernel
theorem dX9_lives_0 : decode cX9_lives 0 = .ok (.aload_n 0, 1) := by decide +kernel
theorem dX9_lives_1 : decode cX9_lives 1 = .ok (.getfield 28, 3) := by decide +kernel
theorem dX9_lives_4 : decode cX9_lives 4 = .ok (.bipush 8, 2) := by decide +kernel
theorem dX9_lives_6 : decode cX9_lives 6 = .ok (.iload_n 1, 1) := by decide +kernel
theorem dX9_lives_7 : decode cX9_lives 7 = .ok (.imul, 1) := by decide +kernel
theorem dX9_lives_8 : decode cX9_lives 8 = .ok (.bipush 6, 2) := by decide +kernel
theorem dX9_lives_10 : decode cX9_lives 10 = .ok (.iadd, 1) := by decide +kernel
theorem dX9_lives_11 : decode cX9_lives 11 = .ok (.iaload, 1) := by decide +kernel
theorem dX9_lives_12 : decode cX9_lives 12 = .ok (.ifCond .ne 7, 3) := by decide +kernel
theorem dX9_lives_15 : decode cX9_lives 15 = .ok (.iconst 1, 1) := by decide +kernel
theorem dX9_lives_16 : decode cX9_lives 16 = .ok (.goto 4, 3) := by decide +kernel
theorem dX9_lives_19 : decode cX9_lives 19 = .ok (.iconst 0, 1) := by decide +kernel
theorem dX9_lives_20 : decode cX9_lives 20 = .ok (.ireturn, 1) := by decide +kernel
theorem dX9_holds_0 : decode cX9_holds 0 = .ok (.iconst 0, 1) := by decide +kernel
theorem dX9_holds_1 : decode cX9_holds 1 = .ok (.istore_n 2, 1) := by decide +kernel
theorem dX9_holds_2 : decode cX9_holds 2 = .ok (.iconst 0, 1) := by decide +kernel
theorem dX9_holds_3 : decode cX9_holds 3 = .ok (.istore_n 3, 1) := by decide +kernel
theorem dX9_holds_4 : decode cX9_holds 4 = .ok (.iload_n 3, 1) := by decide +kernel
theorem dX9_holds_5 : decode cX9_holds 5 = .ok (.aload_n 0, 1) := by decide +kernel
theorem dX9_holds_6 : decode cX9_holds 6 = .ok (.getfield 158, 3) := by decide +kernel
theorem dX9_holds_9 : decode cX9_holds 9 = .ok (.if_icmp .ge 40, 3) := by decide +kernel
theorem dX9_holds_12 : decode cX9_holds 12 = .ok (.iload_n 2, 1) := by decide +kernel
theorem dX9_holds_13 : decode cX9_holds 13 = .ok (.aload_n 0, 1) := by decide +kernel
theorem dX9_holds_14 : decode cX9_holds 14 = .ok (.iload_n 3, 1) := by decide +kernel
theorem dX9_holds_15 : decode cX9_holds 15 = .ok (.invokevirtual 161, 3) := by decide +kernel
theorem dX9_holds_18 : decode cX9_holds 18 = .ok (.ifCond .eq 22, 3) := by decide +kernel
theorem dX9_holds_21 : decode cX9_holds 21 = .ok (.aload_n 0, 1) := by decide +kernel
theorem dX9_holds_22 : decode cX9_holds 22 = .ok (.getfield 28, 3) := by decide +kernel
theorem dX9_holds_25 : decode cX9_holds 25 = .ok (.bipush 8, 2) := by decide +kernel
theorem dX9_holds_27 : decode cX9_holds 27 = .ok (.iload_n 3, 1) := by decide +kernel
theorem dX9_holds_28 : decode cX9_holds 28 = .ok (.imul, 1) := by decide +kernel
theorem dX9_holds_29 : decode cX9_holds 29 = .ok (.iconst 2, 1) := by decide +kernel
theorem dX9_holds_30 : decode cX9_holds 30 = .ok (.iadd, 1) := by decide +kernel
theorem dX9_holds_31 : decode cX9_holds 31 = .ok (.iaload, 1) := by decide +kernel
theorem dX9_holds_32 : decode cX9_holds 32 = .ok (.iload_n 1, 1) := by decide +kernel
theorem dX9_holds_33 : decode cX9_holds 33 = .ok (.if_icmp .ne 7, 3) := by decide +kernel
theorem dX9_holds_36 : decode cX9_holds 36 = .ok (.iconst 1, 1) := by decide +kernel
theorem dX9_holds_37 : decode cX9_holds 37 = .ok (.goto 4, 3) := by decide +kernel
theorem dX9_holds_40 : decode cX9_holds 40 = .ok (.iconst 0, 1) := by decide +kernel
theorem dX9_holds_41 : decode cX9_holds 41 = .ok (.iadd, 1) := by decide +kernel
theorem dX9_holds_42 : decode cX9_holds 42 = .ok (.istore_n 2, 1) := by decide +kernel
theorem dX9_holds_43 : decode cX9_holds 43 = .ok (.iinc 3 1, 3) := by decide +kernel
theorem dX9_holds_46 : decode cX9_holds 46 = .ok (.goto (-42), 3) := by decide +kernel
theorem dX9_holds_49 : decode cX9_holds 49 = .ok (.iload_n 2, 1) := by decide +kernel
theorem dX9_holds_50 : decode cX9_holds 50 = .ok (.ireturn, 1) := by decide +kernel
theorem dX9_tellPerson_0 : decode cX9_tellPerson 0 = .ok (.iload_n 2, 1) := by decide +kernel
theorem dX9_tellPerson_1 : decode cX9_tellPerson 1 = .ok (.tableswitch 58 0 3 #[31, 38, 44, 51], 31) := by decide +kernel
theorem dX9_tellPerson_32 : decode cX9_tellPerson 32 = .ok (.aload_n 0, 1) := by decide +kernel
theorem dX9_tellPerson_33 : decode cX9_tellPerson 33 = .ok (.getfield 13, 3) := by decide +kernel
theorem dX9_tellPerson_36 : decode cX9_tellPerson 36 = .ok (.iload_n 1, 1) := by decide +kernel
theorem dX9_tellPerson_37 : decode cX9_tellPerson 37 = .ok (.iaload, 1) := by decide +kernel
theorem dX9_tellPerson_38 : decode cX9_tellPerson 38 = .ok (.ireturn, 1) := by decide +kernel
theorem dX9_tellPerson_39 : decode cX9_tellPerson 39 = .ok (.aload_n 0, 1) := by decide +kernel
theorem dX9_tellPerson_40 : decode cX9_tellPerson 40 = .ok (.iload_n 1, 1) := by decide +kernel
theorem dX9_tellPerson_41 : decode cX9_tellPerson 41 = .ok (.invokevirtual 164, 3) := by decide +kernel
theorem dX9_tellPerson_44 : decode cX9_tellPerson 44 = .ok (.ireturn, 1) := by decide +kernel
theorem dX9_tellPerson_45 : decode cX9_tellPerson 45 = .ok (.aload_n 0, 1) := by decide +kernel
theorem dX9_tellPerson_46 : decode cX9_tellPerson 46 = .ok (.getfield 16, 3) := by decide +kernel
theorem dX9_tellPerson_49 : decode cX9_tellPerson 49 = .ok (.iload_n 1, 1) := by decide +kernel
theorem dX9_tellPerson_50 : decode cX9_tellPerson 50 = .ok (.iaload, 1) := by decide +kernel
theorem dX9_tellPerson_51 : decode cX9_tellPerson 51 = .ok (.ireturn, 1) := by decide +kernel
theorem dX9_tellPerson_52 : decode cX9_tellPerson 52 = .ok (.aload_n 0, 1) := by decide +kernel
theorem dX9_tellPerson_53 : decode cX9_tellPerson 53 = .ok (.getfield 25, 3) := by decide +kernel
theorem dX9_tellPerson_56 : decode cX9_tellPerson 56 = .ok (.iload_n 1, 1) := by decide +kernel
theorem dX9_tellPerson_57 : decode cX9_tellPerson 57 = .ok (.iaload, 1) := by decide +kernel
theorem dX9_tellPerson_58 : decode cX9_tellPerson 58 = .ok (.ireturn, 1) := by decide +kernel
theorem dX9_tellPerson_59 : decode cX9_tellPerson 59 = .ok (.bipush (-102), 2) := by decide +kernel
theorem dX9_tellPerson_61 : decode cX9_tellPerson 61 = .ok (.ireturn, 1) := by decide +kernel
theorem dX9_about_0 : decode cX9_about 0 = .ok (.aload_n 0, 1) := by decide +kernel
theorem dX9_about_1 : decode cX9_about 1 = .ok (.iload_n 1, 1) := by decide +kernel
theorem dX9_about_2 : decode cX9_about 2 = .ok (.invokevirtual 147, 3) := by decide +kernel
theorem dX9_about_5 : decode cX9_about 5 = .ok (.ifCond .eq 12, 3) := by decide +kernel
theorem dX9_about_8 : decode cX9_about 8 = .ok (.aload_n 0, 1) := by decide +kernel
theorem dX9_about_9 : decode cX9_about 9 = .ok (.iload_n 1, 1) := by decide +kernel
theorem dX9_about_10 : decode cX9_about 10 = .ok (.iload_n 2, 1) := by decide +kernel
theorem dX9_about_11 : decode cX9_about 11 = .ok (.invokevirtual 167, 3) := by decide +kernel
theorem dX9_about_14 : decode cX9_about 14 = .ok (.goto 5, 3) := by decide +kernel
theorem dX9_about_17 : decode cX9_about 17 = .ok (.bipush (-101), 2) := by decide +kernel
theorem dX9_about_19 : decode cX9_about 19 = .ok (.ireturn, 1) := by decide +kernel
theorem dX9_owes_0 : decode cX9_owes 0 = .ok (.aload_n 0, 1) := by decide +kernel
theorem dX9_owes_1 : decode cX9_owes 1 = .ok (.iload_n 1, 1) := by decide +kernel
theorem dX9_owes_2 : decode cX9_owes 2 = .ok (.iload_n 2, 1) := by decide +kernel
theorem dX9_owes_3 : decode cX9_owes 3 = .ok (.invokevirtual 152, 3) := by decide +kernel
theorem dX9_owes_6 : decode cX9_owes 6 = .ok (.ifCond .eq 17, 3) := by decide +kernel
theorem dX9_owes_9 : decode cX9_owes 9 = .ok (.aload_n 0, 1) := by decide +kernel
theorem dX9_owes_10 : decode cX9_owes 10 = .ok (.getfield 22, 3) := by decide +kernel
theorem dX9_owes_13 : decode cX9_owes 13 = .ok (.bipush 8, 2) := by decide +kernel
theorem dX9_owes_15 : decode cX9_owes 15 = .ok (.iload_n 1, 1) := by decide +kernel
theorem dX9_owes_16 : decode cX9_owes 16 = .ok (.imul, 1) := by decide +kernel
theorem dX9_owes_17 : decode cX9_owes 17 = .ok (.iload_n 2, 1) := by decide +kernel
theorem dX9_owes_18 : decode cX9_owes 18 = .ok (.iadd, 1) := by decide +kernel
theorem dX9_owes_19 : decode cX9_owes 19 = .ok (.iaload, 1) := by decide +kernel
theorem dX9_owes_20 : decode cX9_owes 20 = .ok (.goto 5, 3) := by decide +kernel
theorem dX9_owes_23 : decode cX9_owes 23 = .ok (.bipush (-101), 2) := by decide +kernel
theorem dX9_owes_25 : decode cX9_owes 25 = .ok (.ireturn, 1) := by decide +kernel
theorem dX9_restOf_0 : decode cX9_restOf 0 = .ok (.iconst 0, 1) := by decide +kernel
theorem dX9_restOf_1 : decode cX9_restOf 1 = .ok (.istore_n 2, 1) := by decide +kernel
theorem dX9_restOf_2 : decode cX9_restOf 2 = .ok (.iconst 0, 1) := by decide +kernel
theorem dX9_restOf_3 : decode cX9_restOf 3 = .ok (.istore_n 3, 1) := by decide +kernel
theorem dX9_restOf_4 : decode cX9_restOf 4 = .ok (.iload_n 3, 1) := by decide +kernel
theorem dX9_restOf_5 : decode cX9_restOf 5 = .ok (.aload_n 0, 1) := by decide +kernel
theorem dX9_restOf_6 : decode cX9_restOf 6 = .ok (.getfield 144, 3) := by decide +kernel
theorem dX9_restOf_9 : decode cX9_restOf 9 = .ok (.if_icmp .ge 35, 3) := by decide +kernel
theorem dX9_restOf_12 : decode cX9_restOf 12 = .ok (.iload_n 2, 1) := by decide +kernel
theorem dX9_restOf_13 : decode cX9_restOf 13 = .ok (.aload_n 0, 1) := by decide +kernel
theorem dX9_restOf_14 : decode cX9_restOf 14 = .ok (.getfield 22, 3) := by decide +kernel
theorem dX9_restOf_17 : decode cX9_restOf 17 = .ok (.bipush 8, 2) := by decide +kernel
theorem dX9_restOf_19 : decode cX9_restOf 19 = .ok (.iload_n 3, 1) := by decide +kernel
theorem dX9_restOf_20 : decode cX9_restOf 20 = .ok (.imul, 1) := by decide +kernel
theorem dX9_restOf_21 : decode cX9_restOf 21 = .ok (.iload_n 1, 1) := by decide +kernel
theorem dX9_restOf_22 : decode cX9_restOf 22 = .ok (.iadd, 1) := by decide +kernel
theorem dX9_restOf_23 : decode cX9_restOf 23 = .ok (.iaload, 1) := by decide +kernel
theorem dX9_restOf_24 : decode cX9_restOf 24 = .ok (.aload_n 0, 1) := by decide +kernel
theorem dX9_restOf_25 : decode cX9_restOf 25 = .ok (.getfield 22, 3) := by decide +kernel
theorem dX9_restOf_28 : decode cX9_restOf 28 = .ok (.bipush 8, 2) := by decide +kernel
theorem dX9_restOf_30 : decode cX9_restOf 30 = .ok (.iload_n 1, 1) := by decide +kernel
theorem dX9_restOf_31 : decode cX9_restOf 31 = .ok (.imul, 1) := by decide +kernel
theorem dX9_restOf_32 : decode cX9_restOf 32 = .ok (.iload_n 3, 1) := by decide +kernel
theorem dX9_restOf_33 : decode cX9_restOf 33 = .ok (.iadd, 1) := by decide +kernel
theorem dX9_restOf_34 : decode cX9_restOf 34 = .ok (.iaload, 1) := by decide +kernel
theorem dX9_restOf_35 : decode cX9_restOf 35 = .ok (.isub, 1) := by decide +kernel
theorem dX9_restOf_36 : decode cX9_restOf 36 = .ok (.iadd, 1) := by decide +kernel
theorem dX9_restOf_37 : decode cX9_restOf 37 = .ok (.istore_n 2, 1) := by decide +kernel
theorem dX9_restOf_38 : decode cX9_restOf 38 = .ok (.iinc 3 1, 3) := by decide +kernel
theorem dX9_restOf_41 : decode cX9_restOf 41 = .ok (.goto (-37), 3) := by decide +kernel
theorem dX9_restOf_44 : decode cX9_restOf 44 = .ok (.iload_n 2, 1) := by decide +kernel
theorem dX9_restOf_45 : decode cX9_restOf 45 = .ok (.ireturn, 1) := by decide +kernel
theorem dX9_rest_0 : decode cX9_rest 0 = .ok (.aload_n 0, 1) := by decide +kernel
theorem dX9_rest_1 : decode cX9_rest 1 = .ok (.iload_n 1, 1) := by decide +kernel
theorem dX9_rest_2 : decode cX9_rest 2 = .ok (.invokevirtual 147, 3) := by decide +kernel
theorem dX9_rest_5 : decode cX9_rest 5 = .ok (.ifCond .eq 11, 3) := by decide +kernel
theorem dX9_rest_8 : decode cX9_rest 8 = .ok (.aload_n 0, 1) := by decide +kernel
theorem dX9_rest_9 : decode cX9_rest 9 = .ok (.iload_n 1, 1) := by decide +kernel
theorem dX9_rest_10 : decode cX9_rest 10 = .ok (.invokevirtual 171, 3) := by decide +kernel
theorem dX9_rest_13 : decode cX9_rest 13 = .ok (.goto 5, 3) := by decide +kernel
theorem dX9_rest_16 : decode cX9_rest 16 = .ok (.ldc 174, 2) := by decide +kernel
theorem dX9_rest_18 : decode cX9_rest 18 = .ok (.ireturn, 1) := by decide +kernel
theorem dX9_gift_0 : decode cX9_gift 0 = .ok (.iload_n 1, 1) := by decide +kernel
theorem dX9_gift_1 : decode cX9_gift 1 = .ok (.i2l, 1) := by decide +kernel
theorem dX9_gift_2 : decode cX9_gift 2 = .ok (.lconst 0, 1) := by decide +kernel
theorem dX9_gift_3 : decode cX9_gift 3 = .ok (.ldc2_w 175, 3) := by decide +kernel
theorem dX9_gift_6 : decode cX9_gift 6 = .ok (.invokestatic 108, 3) := by decide +kernel
theorem dX9_gift_9 : decode cX9_gift 9 = .ok (.ifCond .ne 6, 3) := by decide +kernel
theorem dX9_gift_12 : decode cX9_gift 12 = .ok (.bipush (-102), 2) := by decide +kernel
theorem dX9_gift_14 : decode cX9_gift 14 = .ok (.ireturn, 1) := by decide +kernel
theorem dX9_gift_15 : decode cX9_gift 15 = .ok (.aload_n 0, 1) := by decide +kernel
theorem dX9_gift_16 : decode cX9_gift 16 = .ok (.iload_n 2, 1) := by decide +kernel
theorem dX9_gift_17 : decode cX9_gift 17 = .ok (.invokevirtual 147, 3) := by decide +kernel
theorem dX9_gift_20 : decode cX9_gift 20 = .ok (.ifCond .ne 6, 3) := by decide +kernel
theorem dX9_gift_23 : decode cX9_gift 23 = .ok (.bipush (-101), 2) := by decide +kernel
theorem dX9_gift_25 : decode cX9_gift 25 = .ok (.ireturn, 1) := by decide +kernel
theorem dX9_gift_26 : decode cX9_gift 26 = .ok (.aload_n 0, 1) := by decide +kernel
theorem dX9_gift_27 : decode cX9_gift 27 = .ok (.getfield 158, 3) := by decide +kernel
theorem dX9_gift_30 : decode cX9_gift 30 = .ok (.bipush 8, 2) := by decide +kernel
theorem dX9_gift_32 : decode cX9_gift 32 = .ok (.if_icmp .ne 6, 3) := by decide +kernel
theorem dX9_gift_35 : decode cX9_gift 35 = .ok (.bipush (-104), 2) := by decide +kernel
theorem dX9_gift_37 : decode cX9_gift 37 = .ok (.ireturn, 1) := by decide +kernel
theorem dX9_gift_38 : decode cX9_gift 38 = .ok (.iconst 0, 1) := by decide +kernel
theorem dX9_gift_39 : decode cX9_gift 39 = .ok (.istore_n 3, 1) := by decide +kernel
theorem dX9_gift_40 : decode cX9_gift 40 = .ok (.iload_n 3, 1) := by decide +kernel
theorem dX9_gift_41 : decode cX9_gift 41 = .ok (.bipush 8, 2) := by decide +kernel
theorem dX9_gift_43 : decode cX9_gift 43 = .ok (.if_icmp .ge 24, 3) := by decide +kernel
theorem dX9_gift_46 : decode cX9_gift 46 = .ok (.aload_n 0, 1) := by decide +kernel
theorem dX9_gift_47 : decode cX9_gift 47 = .ok (.getfield 28, 3) := by decide +kernel
theorem dX9_gift_50 : decode cX9_gift 50 = .ok (.bipush 8, 2) := by decide +kernel
theorem dX9_gift_52 : decode cX9_gift 52 = .ok (.aload_n 0, 1) := by decide +kernel
theorem dX9_gift_53 : decode cX9_gift 53 = .ok (.getfield 158, 3) := by decide +kernel
theorem dX9_gift_56 : decode cX9_gift 56 = .ok (.imul, 1) := by decide +kernel
theorem dX9_gift_57 : decode cX9_gift 57 = .ok (.iload_n 3, 1) := by decide +kernel
theorem dX9_gift_58 : decode cX9_gift 58 = .ok (.iadd, 1) := by decide +kernel
theorem dX9_gift_59 : decode cX9_gift 59 = .ok (.iconst 0, 1) := by decide +kernel
theorem dX9_gift_60 : decode cX9_gift 60 = .ok (.iastore, 1) := by decide +kernel
theorem dX9_gift_61 : decode cX9_gift 61 = .ok (.iinc 3 1, 3) := by decide +kernel
theorem dX9_gift_64 : decode cX9_gift 64 = .ok (.goto (-24), 3) := by decide +kernel
theorem dX9_gift_67 : decode cX9_gift 67 = .ok (.aload_n 0, 1) := by decide +kernel
theorem dX9_gift_68 : decode cX9_gift 68 = .ok (.getfield 28, 3) := by decide +kernel
theorem dX9_gift_71 : decode cX9_gift 71 = .ok (.bipush 8, 2) := by decide +kernel
theorem dX9_gift_73 : decode cX9_gift 73 = .ok (.aload_n 0, 1) := by decide +kernel
theorem dX9_gift_74 : decode cX9_gift 74 = .ok (.getfield 158, 3) := by decide +kernel
theorem dX9_gift_77 : decode cX9_gift 77 = .ok (.imul, 1) := by decide +kernel
theorem dX9_gift_78 : decode cX9_gift 78 = .ok (.iload_n 1, 1) := by decide +kernel
theorem dX9_gift_79 : decode cX9_gift 79 = .ok (.iastore, 1) := by decide +kernel
theorem dX9_gift_80 : decode cX9_gift 80 = .ok (.aload_n 0, 1) := by decide +kernel
theorem dX9_gift_81 : decode cX9_gift 81 = .ok (.getfield 28, 3) := by decide +kernel
theorem dX9_gift_84 : decode cX9_gift 84 = .ok (.bipush 8, 2) := by decide +kernel
theorem dX9_gift_86 : decode cX9_gift 86 = .ok (.aload_n 0, 1) := by decide +kernel
theorem dX9_gift_87 : decode cX9_gift 87 = .ok (.getfield 158, 3) := by decide +kernel
theorem dX9_gift_90 : decode cX9_gift 90 = .ok (.imul, 1) := by decide +kernel
theorem dX9_gift_91 : decode cX9_gift 91 = .ok (.iconst 1, 1) := by decide +kernel
theorem dX9_gift_92 : decode cX9_gift 92 = .ok (.iadd, 1) := by decide +kernel
theorem dX9_gift_93 : decode cX9_gift 93 = .ok (.iload_n 2, 1) := by decide +kernel
theorem dX9_gift_94 : decode cX9_gift 94 = .ok (.iastore, 1) := by decide +kernel
theorem dX9_gift_95 : decode cX9_gift 95 = .ok (.aload_n 0, 1) := by decide +kernel
theorem dX9_gift_96 : decode cX9_gift 96 = .ok (.getfield 28, 3) := by decide +kernel
theorem dX9_gift_99 : decode cX9_gift 99 = .ok (.bipush 8, 2) := by decide +kernel
theorem dX9_gift_101 : decode cX9_gift 101 = .ok (.aload_n 0, 1) := by decide +kernel
theorem dX9_gift_102 : decode cX9_gift 102 = .ok (.getfield 158, 3) := by decide +kernel
theorem dX9_gift_105 : decode cX9_gift 105 = .ok (.imul, 1) := by decide +kernel
theorem dX9_gift_106 : decode cX9_gift 106 = .ok (.iconst 2, 1) := by decide +kernel
theorem dX9_gift_107 : decode cX9_gift 107 = .ok (.iadd, 1) := by decide +kernel
theorem dX9_gift_108 : decode cX9_gift 108 = .ok (.iload_n 2, 1) := by decide +kernel
theorem dX9_gift_109 : decode cX9_gift 109 = .ok (.iastore, 1) := by decide +kernel
theorem dX9_gift_110 : decode cX9_gift 110 = .ok (.aload_n 0, 1) := by decide +kernel
theorem dX9_gift_111 : decode cX9_gift 111 = .ok (.getfield 28, 3) := by decide +kernel
theorem dX9_gift_114 : decode cX9_gift 114 = .ok (.bipush 8, 2) := by decide +kernel
theorem dX9_gift_116 : decode cX9_gift 116 = .ok (.aload_n 0, 1) := by decide +kernel
theorem dX9_gift_117 : decode cX9_gift 117 = .ok (.getfield 158, 3) := by decide +kernel
theorem dX9_gift_120 : decode cX9_gift 120 = .ok (.imul, 1) := by decide +kernel
theorem dX9_gift_121 : decode cX9_gift 121 = .ok (.iconst 3, 1) := by decide +kernel
theorem dX9_gift_122 : decode cX9_gift 122 = .ok (.iadd, 1) := by decide +kernel
theorem dX9_gift_123 : decode cX9_gift 123 = .ok (.iconst (-1), 1) := by decide +kernel
theorem dX9_gift_124 : decode cX9_gift 124 = .ok (.iastore, 1) := by decide +kernel
theorem dX9_gift_125 : decode cX9_gift 125 = .ok (.aload_n 0, 1) := by decide +kernel
theorem dX9_gift_126 : decode cX9_gift 126 = .ok (.dup, 1) := by decide +kernel
theorem dX9_gift_127 : decode cX9_gift 127 = .ok (.getfield 158, 3) := by decide +kernel
theorem dX9_gift_130 : decode cX9_gift 130 = .ok (.iconst 1, 1) := by decide +kernel
theorem dX9_gift_131 : decode cX9_gift 131 = .ok (.iadd, 1) := by decide +kernel
theorem dX9_gift_132 : decode cX9_gift 132 = .ok (.putfield 158, 3) := by decide +kernel
theorem dX9_gift_135 : decode cX9_gift 135 = .ok (.aload_n 0, 1) := by decide +kernel
theorem dX9_gift_136 : decode cX9_gift 136 = .ok (.getfield 158, 3) := by decide +kernel
theorem dX9_gift_139 : decode cX9_gift 139 = .ok (.iconst 1, 1) := by decide +kernel
theorem dX9_gift_140 : decode cX9_gift 140 = .ok (.isub, 1) := by decide +kernel
theorem dX9_gift_141 : decode cX9_gift 141 = .ok (.ireturn, 1) := by decide +kernel
theorem dX9_worthOf_0 : decode cX9_worthOf 0 = .ok (.bipush 10, 2) := by decide +kernel
theorem dX9_worthOf_2 : decode cX9_worthOf 2 = .ok (.aload_n 0, 1) := by decide +kernel
theorem dX9_worthOf_3 : decode cX9_worthOf 3 = .ok (.getfield 28, 3) := by decide +kernel
theorem dX9_worthOf_6 : decode cX9_worthOf 6 = .ok (.bipush 8, 2) := by decide +kernel
theorem dX9_worthOf_8 : decode cX9_worthOf 8 = .ok (.iload_n 1, 1) := by decide +kernel
theorem dX9_worthOf_9 : decode cX9_worthOf 9 = .ok (.imul, 1) := by decide +kernel
theorem dX9_worthOf_10 : decode cX9_worthOf 10 = .ok (.iconst 4, 1) := by decide +kernel
theorem dX9_worthOf_11 : decode cX9_worthOf 11 = .ok (.iadd, 1) := by decide +kernel
theorem dX9_worthOf_12 : decode cX9_worthOf 12 = .ok (.iaload, 1) := by decide +kernel
theorem dX9_worthOf_13 : decode cX9_worthOf 13 = .ok (.isub, 1) := by decide +kernel
theorem dX9_worthOf_14 : decode cX9_worthOf 14 = .ok (.istore_n 2, 1) := by decide +kernel
theorem dX9_worthOf_15 : decode cX9_worthOf 15 = .ok (.aload_n 0, 1) := by decide +kernel
theorem dX9_worthOf_16 : decode cX9_worthOf 16 = .ok (.getfield 28, 3) := by decide +kernel
theorem dX9_worthOf_19 : decode cX9_worthOf 19 = .ok (.bipush 8, 2) := by decide +kernel
theorem dX9_worthOf_21 : decode cX9_worthOf 21 = .ok (.iload_n 1, 1) := by decide +kernel
theorem dX9_worthOf_22 : decode cX9_worthOf 22 = .ok (.imul, 1) := by decide +kernel
theorem dX9_worthOf_23 : decode cX9_worthOf 23 = .ok (.bipush 7, 2) := by decide +kernel
theorem dX9_worthOf_25 : decode cX9_worthOf 25 = .ok (.iadd, 1) := by decide +kernel
theorem dX9_worthOf_26 : decode cX9_worthOf 26 = .ok (.iaload, 1) := by decide +kernel
theorem dX9_worthOf_27 : decode cX9_worthOf 27 = .ok (.bipush 9, 2) := by decide +kernel
theorem dX9_worthOf_29 : decode cX9_worthOf 29 = .ok (.if_icmp .le 8, 3) := by decide +kernel
theorem dX9_worthOf_32 : decode cX9_worthOf 32 = .ok (.bipush 9, 2) := by decide +kernel
theorem dX9_worthOf_34 : decode cX9_worthOf 34 = .ok (.goto 15, 3) := by decide +kernel
theorem dX9_worthOf_37 : decode cX9_worthOf 37 = .ok (.aload_n 0, 1) := by decide +kernel
theorem dX9_worthOf_38 : decode cX9_worthOf 38 = .ok (.getfield 28, 3) := by decide +kernel
theorem dX9_worthOf_41 : decode cX9_worthOf 41 = .ok (.bipush 8, 2) := by decide +kernel
theorem dX9_worthOf_43 : decode cX9_worthOf 43 = .ok (.iload_n 1, 1) := by decide +kernel
theorem dX9_worthOf_44 : decode cX9_worthOf 44 = .ok (.imul, 1) := by decide +kernel
theorem dX9_worthOf_45 : decode cX9_worthOf 45 = .ok (.bipush 7, 2) := by decide +kernel
theorem dX9_worthOf_47 : decode cX9_worthOf 47 = .ok (.iadd, 1) := by decide +kernel
theorem dX9_worthOf_48 : decode cX9_worthOf 48 = .ok (.iaload, 1) := by decide +kernel
theorem dX9_worthOf_49 : decode cX9_worthOf 49 = .ok (.istore_n 3, 1) := by decide +kernel
theorem dX9_worthOf_50 : decode cX9_worthOf 50 = .ok (.iload_n 2, 1) := by decide +kernel
theorem dX9_worthOf_51 : decode cX9_worthOf 51 = .ok (.iconst 1, 1) := by decide +kernel
theorem dX9_worthOf_52 : decode cX9_worthOf 52 = .ok (.if_icmp .ge 7, 3) := by decide +kernel
theorem dX9_worthOf_55 : decode cX9_worthOf 55 = .ok (.iconst 1, 1) := by decide +kernel
theorem dX9_worthOf_56 : decode cX9_worthOf 56 = .ok (.goto 4, 3) := by decide +kernel
theorem dX9_worthOf_59 : decode cX9_worthOf 59 = .ok (.iload_n 2, 1) := by decide +kernel
theorem dX9_worthOf_60 : decode cX9_worthOf 60 = .ok (.aload_n 0, 1) := by decide +kernel
theorem dX9_worthOf_61 : decode cX9_worthOf 61 = .ok (.getfield 28, 3) := by decide +kernel
theorem dX9_worthOf_64 : decode cX9_worthOf 64 = .ok (.bipush 8, 2) := by decide +kernel
theorem dX9_worthOf_66 : decode cX9_worthOf 66 = .ok (.iload_n 1, 1) := by decide +kernel
theorem dX9_worthOf_67 : decode cX9_worthOf 67 = .ok (.imul, 1) := by decide +kernel
theorem dX9_worthOf_68 : decode cX9_worthOf 68 = .ok (.iaload, 1) := by decide +kernel
theorem dX9_worthOf_69 : decode cX9_worthOf 69 = .ok (.iconst 2, 1) := by decide +kernel
theorem dX9_worthOf_70 : decode cX9_worthOf 70 = .ok (.if_icmp .ne 7, 3) := by decide +kernel
theorem dX9_worthOf_73 : decode cX9_worthOf 73 = .ok (.iload_n 3, 1) := by decide +kernel
theorem dX9_worthOf_74 : decode cX9_worthOf 74 = .ok (.goto 4, 3) := by decide +kernel
theorem dX9_worthOf_77 : decode cX9_worthOf 77 = .ok (.iconst 0, 1) := by decide +kernel
theorem dX9_worthOf_78 : decode cX9_worthOf 78 = .ok (.iadd, 1) := by decide +kernel
theorem dX9_worthOf_79 : decode cX9_worthOf 79 = .ok (.ireturn, 1) := by decide +kernel
theorem dX9_tellGift_0 : decode cX9_tellGift 0 = .ok (.iload_n 2, 1) := by decide +kernel
theorem dX9_tellGift_1 : decode cX9_tellGift 1 = .ok (.bipush 6, 2) := by decide +kernel
theorem dX9_tellGift_3 : decode cX9_tellGift 3 = .ok (.if_icmp .ne 9, 3) := by decide +kernel
theorem dX9_tellGift_6 : decode cX9_tellGift 6 = .ok (.aload_n 0, 1) := by decide +kernel
theorem dX9_tellGift_7 : decode cX9_tellGift 7 = .ok (.iload_n 1, 1) := by decide +kernel
theorem dX9_tellGift_8 : decode cX9_tellGift 8 = .ok (.invokevirtual 177, 3) := by decide +kernel
theorem dX9_tellGift_11 : decode cX9_tellGift 11 = .ok (.ireturn, 1) := by decide +kernel
theorem dX9_tellGift_12 : decode cX9_tellGift 12 = .ok (.iload_n 2, 1) := by decide +kernel
theorem dX9_tellGift_13 : decode cX9_tellGift 13 = .ok (.i2l, 1) := by decide +kernel
theorem dX9_tellGift_14 : decode cX9_tellGift 14 = .ok (.lconst 0, 1) := by decide +kernel
theorem dX9_tellGift_15 : decode cX9_tellGift 15 = .ok (.ldc2_w 180, 3) := by decide +kernel
theorem dX9_tellGift_18 : decode cX9_tellGift 18 = .ok (.invokestatic 108, 3) := by decide +kernel
theorem dX9_tellGift_21 : decode cX9_tellGift 21 = .ok (.ifCond .eq 29, 3) := by decide +kernel
theorem dX9_tellGift_24 : decode cX9_tellGift 24 = .ok (.aload_n 0, 1) := by decide +kernel
theorem dX9_tellGift_25 : decode cX9_tellGift 25 = .ok (.getfield 28, 3) := by decide +kernel
theorem dX9_tellGift_28 : decode cX9_tellGift 28 = .ok (.bipush 8, 2) := by decide +kernel
theorem dX9_tellGift_30 : decode cX9_tellGift 30 = .ok (.iload_n 1, 1) := by decide +kernel
theorem dX9_tellGift_31 : decode cX9_tellGift 31 = .ok (.imul, 1) := by decide +kernel
theorem dX9_tellGift_32 : decode cX9_tellGift 32 = .ok (.iload_n 2, 1) := by decide +kernel
theorem dX9_tellGift_33 : decode cX9_tellGift 33 = .ok (.bipush 6, 2) := by decide +kernel
theorem dX9_tellGift_35 : decode cX9_tellGift 35 = .ok (.if_icmp .le 9, 3) := by decide +kernel
theorem dX9_tellGift_38 : decode cX9_tellGift 38 = .ok (.iload_n 2, 1) := by decide +kernel
theorem dX9_tellGift_39 : decode cX9_tellGift 39 = .ok (.iconst 1, 1) := by decide +kernel
theorem dX9_tellGift_40 : decode cX9_tellGift 40 = .ok (.isub, 1) := by decide +kernel
theorem dX9_tellGift_41 : decode cX9_tellGift 41 = .ok (.goto 4, 3) := by decide +kernel
theorem dX9_tellGift_44 : decode cX9_tellGift 44 = .ok (.iload_n 2, 1) := by decide +kernel
theorem dX9_tellGift_45 : decode cX9_tellGift 45 = .ok (.iadd, 1) := by decide +kernel
theorem dX9_tellGift_46 : decode cX9_tellGift 46 = .ok (.iaload, 1) := by decide +kernel
theorem dX9_tellGift_47 : decode cX9_tellGift 47 = .ok (.goto 5, 3) := by decide +kernel
theorem dX9_tellGift_50 : decode cX9_tellGift 50 = .ok (.bipush (-102), 2) := by decide +kernel
theorem dX9_tellGift_52 : decode cX9_tellGift 52 = .ok (.ireturn, 1) := by decide +kernel
theorem dX9_told_0 : decode cX9_told 0 = .ok (.aload_n 0, 1) := by decide +kernel
theorem dX9_told_1 : decode cX9_told 1 = .ok (.iload_n 1, 1) := by decide +kernel
theorem dX9_told_2 : decode cX9_told 2 = .ok (.invokevirtual 182, 3) := by decide +kernel
theorem dX9_told_5 : decode cX9_told 5 = .ok (.ifCond .eq 12, 3) := by decide +kernel
theorem dX9_told_8 : decode cX9_told 8 = .ok (.aload_n 0, 1) := by decide +kernel
theorem dX9_told_9 : decode cX9_told 9 = .ok (.iload_n 1, 1) := by decide +kernel
theorem dX9_told_10 : decode cX9_told 10 = .ok (.iload_n 2, 1) := by decide +kernel
theorem dX9_told_11 : decode cX9_told 11 = .ok (.invokevirtual 185, 3) := by decide +kernel
theorem dX9_told_14 : decode cX9_told 14 = .ok (.goto 5, 3) := by decide +kernel
theorem dX9_told_17 : decode cX9_told 17 = .ok (.bipush (-101), 2) := by decide +kernel
theorem dX9_told_19 : decode cX9_told 19 = .ok (.ireturn, 1) := by decide +kernel
theorem dX9_as_0 : decode cX9_as 0 = .ok (.aload_n 0, 1) := by decide +kernel
theorem dX9_as_1 : decode cX9_as 1 = .ok (.iload_n 1, 1) := by decide +kernel
theorem dX9_as_2 : decode cX9_as 2 = .ok (.invokevirtual 182, 3) := by decide +kernel
theorem dX9_as_5 : decode cX9_as 5 = .ok (.ifCond .ne 6, 3) := by decide +kernel
theorem dX9_as_8 : decode cX9_as 8 = .ok (.bipush (-101), 2) := by decide +kernel
theorem dX9_as_10 : decode cX9_as 10 = .ok (.ireturn, 1) := by decide +kernel
theorem dX9_as_11 : decode cX9_as 11 = .ok (.iload_n 2, 1) := by decide +kernel
theorem dX9_as_12 : decode cX9_as 12 = .ok (.i2l, 1) := by decide +kernel
theorem dX9_as_13 : decode cX9_as 13 = .ok (.lconst 0, 1) := by decide +kernel
theorem dX9_as_14 : decode cX9_as 14 = .ok (.ldc2_w 175, 3) := by decide +kernel
theorem dX9_as_17 : decode cX9_as 17 = .ok (.invokestatic 108, 3) := by decide +kernel
theorem dX9_as_20 : decode cX9_as 20 = .ok (.ifCond .ne 6, 3) := by decide +kernel
theorem dX9_as_23 : decode cX9_as 23 = .ok (.bipush (-102), 2) := by decide +kernel
theorem dX9_as_25 : decode cX9_as 25 = .ok (.ireturn, 1) := by decide +kernel
theorem dX9_as_26 : decode cX9_as 26 = .ok (.aload_n 0, 1) := by decide +kernel
theorem dX9_as_27 : decode cX9_as 27 = .ok (.getfield 28, 3) := by decide +kernel
theorem dX9_as_30 : decode cX9_as 30 = .ok (.bipush 8, 2) := by decide +kernel
theorem dX9_as_32 : decode cX9_as 32 = .ok (.iload_n 1, 1) := by decide +kernel
theorem dX9_as_33 : decode cX9_as 33 = .ok (.imul, 1) := by decide +kernel
theorem dX9_as_34 : decode cX9_as 34 = .ok (.iaload, 1) := by decide +kernel
theorem dX9_as_35 : decode cX9_as 35 = .ok (.istore_n 3, 1) := by decide +kernel
theorem dX9_as_36 : decode cX9_as 36 = .ok (.iload_n 2, 1) := by decide +kernel
theorem dX9_as_37 : decode cX9_as 37 = .ok (.ifCond .eq 18, 3) := by decide +kernel
theorem dX9_as_40 : decode cX9_as 40 = .ok (.iload_n 2, 1) := by decide +kernel
theorem dX9_as_41 : decode cX9_as 41 = .ok (.iload_n 3, 1) := by decide +kernel
theorem dX9_as_42 : decode cX9_as 42 = .ok (.if_icmp .eq 13, 3) := by decide +kernel
theorem dX9_as_45 : decode cX9_as 45 = .ok (.iload_n 2, 1) := by decide +kernel
theorem dX9_as_46 : decode cX9_as 46 = .ok (.iconst 1, 1) := by decide +kernel
theorem dX9_as_47 : decode cX9_as 47 = .ok (.if_icmp .ne 12, 3) := by decide +kernel
theorem dX9_as_50 : decode cX9_as 50 = .ok (.iload_n 3, 1) := by decide +kernel
theorem dX9_as_51 : decode cX9_as 51 = .ok (.iconst 4, 1) := by decide +kernel
theorem dX9_as_52 : decode cX9_as 52 = .ok (.if_icmp .ne 7, 3) := by decide +kernel
theorem dX9_as_55 : decode cX9_as 55 = .ok (.iconst 1, 1) := by decide +kernel
theorem dX9_as_56 : decode cX9_as 56 = .ok (.goto 4, 3) := by decide +kernel
theorem dX9_as_59 : decode cX9_as 59 = .ok (.iconst 0, 1) := by decide +kernel
theorem dX9_as_60 : decode cX9_as 60 = .ok (.istore 4, 2) := by decide +kernel
theorem dX9_as_62 : decode cX9_as 62 = .ok (.iload 4, 2) := by decide +kernel
theorem dX9_as_64 : decode cX9_as 64 = .ok (.ifCond .eq 7, 3) := by decide +kernel
theorem dX9_as_67 : decode cX9_as 67 = .ok (.iload_n 1, 1) := by decide +kernel
theorem dX9_as_68 : decode cX9_as 68 = .ok (.goto 4, 3) := by decide +kernel
theorem dX9_as_71 : decode cX9_as 71 = .ok (.iconst (-1), 1) := by decide +kernel
theorem dX9_as_72 : decode cX9_as 72 = .ok (.ireturn, 1) := by decide +kernel
theorem dX9_mayHave_0 : decode cX9_mayHave 0 = .ok (.iload_n 2, 1) := by decide +kernel
theorem dX9_mayHave_1 : decode cX9_mayHave 1 = .ok (.iconst (-1), 1) := by decide +kernel
theorem dX9_mayHave_2 : decode cX9_mayHave 2 = .ok (.if_icmp .ne 12, 3) := by decide +kernel
theorem dX9_mayHave_5 : decode cX9_mayHave 5 = .ok (.aload_n 0, 1) := by decide +kernel
theorem dX9_mayHave_6 : decode cX9_mayHave 6 = .ok (.getfield 16, 3) := by decide +kernel
theorem dX9_mayHave_9 : decode cX9_mayHave 9 = .ok (.iload_n 1, 1) := by decide +kernel
theorem dX9_mayHave_10 : decode cX9_mayHave 10 = .ok (.iaload, 1) := by decide +kernel
theorem dX9_mayHave_11 : decode cX9_mayHave 11 = .ok (.goto 15, 3) := by decide +kernel
theorem dX9_mayHave_14 : decode cX9_mayHave 14 = .ok (.aload_n 0, 1) := by decide +kernel
theorem dX9_mayHave_15 : decode cX9_mayHave 15 = .ok (.getfield 16, 3) := by decide +kernel
theorem dX9_mayHave_18 : decode cX9_mayHave 18 = .ok (.iload_n 1, 1) := by decide +kernel
theorem dX9_mayHave_19 : decode cX9_mayHave 19 = .ok (.iaload, 1) := by decide +kernel
theorem dX9_mayHave_20 : decode cX9_mayHave 20 = .ok (.iconst 1, 1) := by decide +kernel
theorem dX9_mayHave_21 : decode cX9_mayHave 21 = .ok (.iload_n 2, 1) := by decide +kernel
theorem dX9_mayHave_22 : decode cX9_mayHave 22 = .ok (.ishl, 1) := by decide +kernel
theorem dX9_mayHave_23 : decode cX9_mayHave 23 = .ok (.iconst (-1), 1) := by decide +kernel
theorem dX9_mayHave_24 : decode cX9_mayHave 24 = .ok (.ixor, 1) := by decide +kernel
theorem dX9_mayHave_25 : decode cX9_mayHave 25 = .ok (.iand, 1) := by decide +kernel
theorem dX9_mayHave_26 : decode cX9_mayHave 26 = .ok (.istore_n 3, 1) := by decide +kernel
theorem dX9_mayHave_27 : decode cX9_mayHave 27 = .ok (.iload_n 3, 1) := by decide +kernel
theorem dX9_mayHave_28 : decode cX9_mayHave 28 = .ok (.ifCond .ne 20, 3) := by decide +kernel
theorem dX9_mayHave_31 : decode cX9_mayHave 31 = .ok (.aload_n 0, 1) := by decide +kernel
theorem dX9_mayHave_32 : decode cX9_mayHave 32 = .ok (.getfield 131, 3) := by decide +kernel
theorem dX9_mayHave_35 : decode cX9_mayHave 35 = .ok (.iconst 1, 1) := by decide +kernel
theorem dX9_mayHave_36 : decode cX9_mayHave 36 = .ok (.if_icmp .ne 12, 3) := by decide +kernel
theorem dX9_mayHave_39 : decode cX9_mayHave 39 = .ok (.aload_n 0, 1) := by decide +kernel
theorem dX9_mayHave_40 : decode cX9_mayHave 40 = .ok (.getfield 16, 3) := by decide +kernel
theorem dX9_mayHave_43 : decode cX9_mayHave 43 = .ok (.iload_n 1, 1) := by decide +kernel
theorem dX9_mayHave_44 : decode cX9_mayHave 44 = .ok (.iaload, 1) := by decide +kernel
theorem dX9_mayHave_45 : decode cX9_mayHave 45 = .ok (.goto 4, 3) := by decide +kernel
theorem dX9_mayHave_48 : decode cX9_mayHave 48 = .ok (.iload_n 3, 1) := by decide +kernel
theorem dX9_mayHave_49 : decode cX9_mayHave 49 = .ok (.ireturn, 1) := by decide +kernel
theorem dX9_mayOf_0 : decode cX9_mayOf 0 = .ok (.aload_n 0, 1) := by decide +kernel
theorem dX9_mayOf_1 : decode cX9_mayOf 1 = .ok (.aload_n 0, 1) := by decide +kernel
theorem dX9_mayOf_2 : decode cX9_mayOf 2 = .ok (.getfield 28, 3) := by decide +kernel
theorem dX9_mayOf_5 : decode cX9_mayOf 5 = .ok (.bipush 8, 2) := by decide +kernel
theorem dX9_mayOf_7 : decode cX9_mayOf 7 = .ok (.iload_n 1, 1) := by decide +kernel
theorem dX9_mayOf_8 : decode cX9_mayOf 8 = .ok (.imul, 1) := by decide +kernel
theorem dX9_mayOf_9 : decode cX9_mayOf 9 = .ok (.iconst 2, 1) := by decide +kernel
theorem dX9_mayOf_10 : decode cX9_mayOf 10 = .ok (.iadd, 1) := by decide +kernel
theorem dX9_mayOf_11 : decode cX9_mayOf 11 = .ok (.iaload, 1) := by decide +kernel
theorem dX9_mayOf_12 : decode cX9_mayOf 12 = .ok (.aload_n 0, 1) := by decide +kernel
theorem dX9_mayOf_13 : decode cX9_mayOf 13 = .ok (.getfield 28, 3) := by decide +kernel
theorem dX9_mayOf_16 : decode cX9_mayOf 16 = .ok (.bipush 8, 2) := by decide +kernel
theorem dX9_mayOf_18 : decode cX9_mayOf 18 = .ok (.iload_n 1, 1) := by decide +kernel
theorem dX9_mayOf_19 : decode cX9_mayOf 19 = .ok (.imul, 1) := by decide +kernel
theorem dX9_mayOf_20 : decode cX9_mayOf 20 = .ok (.iconst 3, 1) := by decide +kernel
theorem dX9_mayOf_21 : decode cX9_mayOf 21 = .ok (.iadd, 1) := by decide +kernel
theorem dX9_mayOf_22 : decode cX9_mayOf 22 = .ok (.iaload, 1) := by decide +kernel
theorem dX9_mayOf_23 : decode cX9_mayOf 23 = .ok (.invokevirtual 188, 3) := by decide +kernel
theorem dX9_mayOf_26 : decode cX9_mayOf 26 = .ok (.ireturn, 1) := by decide +kernel
theorem dX9_may_0 : decode cX9_may 0 = .ok (.aload_n 0, 1) := by decide +kernel
theorem dX9_may_1 : decode cX9_may 1 = .ok (.iload_n 1, 1) := by decide +kernel
theorem dX9_may_2 : decode cX9_may 2 = .ok (.invokevirtual 182, 3) := by decide +kernel
theorem dX9_may_5 : decode cX9_may 5 = .ok (.ifCond .ne 6, 3) := by decide +kernel
theorem dX9_may_8 : decode cX9_may 8 = .ok (.bipush (-101), 2) := by decide +kernel
theorem dX9_may_10 : decode cX9_may 10 = .ok (.ireturn, 1) := by decide +kernel
theorem dX9_may_11 : decode cX9_may 11 = .ok (.aload_n 0, 1) := by decide +kernel
theorem dX9_may_12 : decode cX9_may 12 = .ok (.iload_n 1, 1) := by decide +kernel
theorem dX9_may_13 : decode cX9_may 13 = .ok (.invokevirtual 161, 3) := by decide +kernel
theorem dX9_may_16 : decode cX9_may 16 = .ok (.ifCond .eq 11, 3) := by decide +kernel
theorem dX9_may_19 : decode cX9_may 19 = .ok (.aload_n 0, 1) := by decide +kernel
theorem dX9_may_20 : decode cX9_may 20 = .ok (.iload_n 1, 1) := by decide +kernel
theorem dX9_may_21 : decode cX9_may 21 = .ok (.invokevirtual 191, 3) := by decide +kernel
theorem dX9_may_24 : decode cX9_may 24 = .ok (.goto 5, 3) := by decide +kernel
theorem dX9_may_27 : decode cX9_may 27 = .ok (.bipush (-103), 2) := by decide +kernel
theorem dX9_may_29 : decode cX9_may 29 = .ok (.ireturn, 1) := by decide +kernel
theorem dX9_goOn_0 : decode cX9_goOn 0 = .ok (.bipush 8, 2) := by decide +kernel
theorem dX9_goOn_2 : decode cX9_goOn 2 = .ok (.iload_n 1, 1) := by decide +kernel
theorem dX9_goOn_3 : decode cX9_goOn 3 = .ok (.imul, 1) := by decide +kernel
theorem dX9_goOn_4 : decode cX9_goOn 4 = .ok (.istore_n 3, 1) := by decide +kernel
theorem dX9_goOn_5 : decode cX9_goOn 5 = .ok (.aload_n 0, 1) := by decide +kernel
theorem dX9_goOn_6 : decode cX9_goOn 6 = .ok (.getfield 28, 3) := by decide +kernel
theorem dX9_goOn_9 : decode cX9_goOn 9 = .ok (.iload_n 3, 1) := by decide +kernel
theorem dX9_goOn_10 : decode cX9_goOn 10 = .ok (.iconst 2, 1) := by decide +kernel
theorem dX9_goOn_11 : decode cX9_goOn 11 = .ok (.iadd, 1) := by decide +kernel
theorem dX9_goOn_12 : decode cX9_goOn 12 = .ok (.iaload, 1) := by decide +kernel
theorem dX9_goOn_13 : decode cX9_goOn 13 = .ok (.istore 4, 2) := by decide +kernel
theorem dX9_goOn_15 : decode cX9_goOn 15 = .ok (.aload_n 0, 1) := by decide +kernel
theorem dX9_goOn_16 : decode cX9_goOn 16 = .ok (.getfield 28, 3) := by decide +kernel
theorem dX9_goOn_19 : decode cX9_goOn 19 = .ok (.iload_n 3, 1) := by decide +kernel
theorem dX9_goOn_20 : decode cX9_goOn 20 = .ok (.iaload, 1) := by decide +kernel
theorem dX9_goOn_21 : decode cX9_goOn 21 = .ok (.istore 5, 2) := by decide +kernel
theorem dX9_goOn_23 : decode cX9_goOn 23 = .ok (.aload_n 0, 1) := by decide +kernel
theorem dX9_goOn_24 : decode cX9_goOn 24 = .ok (.getfield 22, 3) := by decide +kernel
theorem dX9_goOn_27 : decode cX9_goOn 27 = .ok (.bipush 8, 2) := by decide +kernel
theorem dX9_goOn_29 : decode cX9_goOn 29 = .ok (.iload_n 2, 1) := by decide +kernel
theorem dX9_goOn_30 : decode cX9_goOn 30 = .ok (.imul, 1) := by decide +kernel
theorem dX9_goOn_31 : decode cX9_goOn 31 = .ok (.iload 4, 2) := by decide +kernel
theorem dX9_goOn_33 : decode cX9_goOn 33 = .ok (.iadd, 1) := by decide +kernel
theorem dX9_goOn_34 : decode cX9_goOn 34 = .ok (.dup2, 1) := by decide +kernel
theorem dX9_goOn_35 : decode cX9_goOn 35 = .ok (.iaload, 1) := by decide +kernel
theorem dX9_goOn_36 : decode cX9_goOn 36 = .ok (.aload_n 0, 1) := by decide +kernel
theorem dX9_goOn_37 : decode cX9_goOn 37 = .ok (.iload_n 1, 1) := by decide +kernel
theorem dX9_goOn_38 : decode cX9_goOn 38 = .ok (.invokevirtual 177, 3) := by decide +kernel
theorem dX9_goOn_41 : decode cX9_goOn 41 = .ok (.iadd, 1) := by decide +kernel
theorem dX9_goOn_42 : decode cX9_goOn 42 = .ok (.iastore, 1) := by decide +kernel
theorem dX9_goOn_43 : decode cX9_goOn 43 = .ok (.aload_n 0, 1) := by decide +kernel
theorem dX9_goOn_44 : decode cX9_goOn 44 = .ok (.getfield 28, 3) := by decide +kernel
theorem dX9_goOn_47 : decode cX9_goOn 47 = .ok (.iload_n 3, 1) := by decide +kernel
theorem dX9_goOn_48 : decode cX9_goOn 48 = .ok (.iconst 3, 1) := by decide +kernel
theorem dX9_goOn_49 : decode cX9_goOn 49 = .ok (.iadd, 1) := by decide +kernel
theorem dX9_goOn_50 : decode cX9_goOn 50 = .ok (.iload 4, 2) := by decide +kernel
theorem dX9_goOn_52 : decode cX9_goOn 52 = .ok (.iastore, 1) := by decide +kernel
theorem dX9_goOn_53 : decode cX9_goOn 53 = .ok (.aload_n 0, 1) := by decide +kernel
theorem dX9_goOn_54 : decode cX9_goOn 54 = .ok (.getfield 28, 3) := by decide +kernel
theorem dX9_goOn_57 : decode cX9_goOn 57 = .ok (.iload_n 3, 1) := by decide +kernel
theorem dX9_goOn_58 : decode cX9_goOn 58 = .ok (.iconst 2, 1) := by decide +kernel
theorem dX9_goOn_59 : decode cX9_goOn 59 = .ok (.iadd, 1) := by decide +kernel
theorem dX9_goOn_60 : decode cX9_goOn 60 = .ok (.iload_n 2, 1) := by decide +kernel
theorem dX9_goOn_61 : decode cX9_goOn 61 = .ok (.iastore, 1) := by decide +kernel
theorem dX9_goOn_62 : decode cX9_goOn 62 = .ok (.aload_n 0, 1) := by decide +kernel
theorem dX9_goOn_63 : decode cX9_goOn 63 = .ok (.getfield 28, 3) := by decide +kernel
theorem dX9_goOn_66 : decode cX9_goOn 66 = .ok (.iload_n 3, 1) := by decide +kernel
theorem dX9_goOn_67 : decode cX9_goOn 67 = .ok (.iconst 5, 1) := by decide +kernel
theorem dX9_goOn_68 : decode cX9_goOn 68 = .ok (.iadd, 1) := by decide +kernel
theorem dX9_goOn_69 : decode cX9_goOn 69 = .ok (.iconst 0, 1) := by decide +kernel
theorem dX9_goOn_70 : decode cX9_goOn 70 = .ok (.iastore, 1) := by decide +kernel
theorem dX9_goOn_71 : decode cX9_goOn 71 = .ok (.aload_n 0, 1) := by decide +kernel
theorem dX9_goOn_72 : decode cX9_goOn 72 = .ok (.getfield 28, 3) := by decide +kernel
theorem dX9_goOn_75 : decode cX9_goOn 75 = .ok (.iload_n 3, 1) := by decide +kernel
theorem dX9_goOn_76 : decode cX9_goOn 76 = .ok (.iconst 4, 1) := by decide +kernel
theorem dX9_goOn_77 : decode cX9_goOn 77 = .ok (.iadd, 1) := by decide +kernel
theorem dX9_goOn_78 : decode cX9_goOn 78 = .ok (.dup2, 1) := by decide +kernel
theorem dX9_goOn_79 : decode cX9_goOn 79 = .ok (.iaload, 1) := by decide +kernel
theorem dX9_goOn_80 : decode cX9_goOn 80 = .ok (.iload 5, 2) := by decide +kernel
theorem dX9_goOn_82 : decode cX9_goOn 82 = .ok (.iconst 2, 1) := by decide +kernel
theorem dX9_goOn_83 : decode cX9_goOn 83 = .ok (.if_icmp .ne 7, 3) := by decide +kernel
theorem dX9_goOn_86 : decode cX9_goOn 86 = .ok (.iconst 0, 1) := by decide +kernel
theorem dX9_goOn_87 : decode cX9_goOn 87 = .ok (.goto 14, 3) := by decide +kernel
theorem dX9_goOn_90 : decode cX9_goOn 90 = .ok (.iload 5, 2) := by decide +kernel
theorem dX9_goOn_92 : decode cX9_goOn 92 = .ok (.iconst 4, 1) := by decide +kernel
theorem dX9_goOn_93 : decode cX9_goOn 93 = .ok (.if_icmp .ne 7, 3) := by decide +kernel
theorem dX9_goOn_96 : decode cX9_goOn 96 = .ok (.iconst 2, 1) := by decide +kernel
theorem dX9_goOn_97 : decode cX9_goOn 97 = .ok (.goto 4, 3) := by decide +kernel
theorem dX9_goOn_100 : decode cX9_goOn 100 = .ok (.iconst 1, 1) := by decide +kernel
theorem dX9_goOn_101 : decode cX9_goOn 101 = .ok (.iadd, 1) := by decide +kernel
theorem dX9_goOn_102 : decode cX9_goOn 102 = .ok (.iastore, 1) := by decide +kernel
theorem dX9_goOn_103 : decode cX9_goOn 103 = .ok (.aload_n 0, 1) := by decide +kernel
theorem dX9_goOn_104 : decode cX9_goOn 104 = .ok (.getfield 28, 3) := by decide +kernel
theorem dX9_goOn_107 : decode cX9_goOn 107 = .ok (.iload_n 3, 1) := by decide +kernel
theorem dX9_goOn_108 : decode cX9_goOn 108 = .ok (.bipush 7, 2) := by decide +kernel
theorem dX9_goOn_110 : decode cX9_goOn 110 = .ok (.iadd, 1) := by decide +kernel
theorem dX9_goOn_111 : decode cX9_goOn 111 = .ok (.dup2, 1) := by decide +kernel
theorem dX9_goOn_112 : decode cX9_goOn 112 = .ok (.iaload, 1) := by decide +kernel
theorem dX9_goOn_113 : decode cX9_goOn 113 = .ok (.iconst 1, 1) := by decide +kernel
theorem dX9_goOn_114 : decode cX9_goOn 114 = .ok (.iadd, 1) := by decide +kernel
theorem dX9_goOn_115 : decode cX9_goOn 115 = .ok (.iastore, 1) := by decide +kernel
theorem dX9_goOn_116 : decode cX9_goOn 116 = .ok (.iload 5, 2) := by decide +kernel
theorem dX9_goOn_118 : decode cX9_goOn 118 = .ok (.iconst 1, 1) := by decide +kernel
theorem dX9_goOn_119 : decode cX9_goOn 119 = .ok (.if_icmp .eq 9, 3) := by decide +kernel
theorem dX9_goOn_122 : decode cX9_goOn 122 = .ok (.iload 5, 2) := by decide +kernel
theorem dX9_goOn_124 : decode cX9_goOn 124 = .ok (.iconst 4, 1) := by decide +kernel
theorem dX9_goOn_125 : decode cX9_goOn 125 = .ok (.if_icmp .ne 31, 3) := by decide +kernel
theorem dX9_goOn_128 : decode cX9_goOn 128 = .ok (.aload_n 0, 1) := by decide +kernel
theorem dX9_goOn_129 : decode cX9_goOn 129 = .ok (.getfield 28, 3) := by decide +kernel
theorem dX9_goOn_132 : decode cX9_goOn 132 = .ok (.iload_n 3, 1) := by decide +kernel
theorem dX9_goOn_133 : decode cX9_goOn 133 = .ok (.iconst 4, 1) := by decide +kernel
theorem dX9_goOn_134 : decode cX9_goOn 134 = .ok (.iadd, 1) := by decide +kernel
theorem dX9_goOn_135 : decode cX9_goOn 135 = .ok (.iaload, 1) := by decide +kernel
theorem dX9_goOn_136 : decode cX9_goOn 136 = .ok (.aload_n 0, 1) := by decide +kernel
theorem dX9_goOn_137 : decode cX9_goOn 137 = .ok (.getfield 87, 3) := by decide +kernel
theorem dX9_goOn_140 : decode cX9_goOn 140 = .ok (.if_icmp .lt 16, 3) := by decide +kernel
theorem dX9_goOn_143 : decode cX9_goOn 143 = .ok (.aload_n 0, 1) := by decide +kernel
theorem dX9_goOn_144 : decode cX9_goOn 144 = .ok (.getfield 28, 3) := by decide +kernel
theorem dX9_goOn_147 : decode cX9_goOn 147 = .ok (.iload_n 3, 1) := by decide +kernel
theorem dX9_goOn_148 : decode cX9_goOn 148 = .ok (.bipush 6, 2) := by decide +kernel
theorem dX9_goOn_150 : decode cX9_goOn 150 = .ok (.iadd, 1) := by decide +kernel
theorem dX9_goOn_151 : decode cX9_goOn 151 = .ok (.iconst 2, 1) := by decide +kernel
theorem dX9_goOn_152 : decode cX9_goOn 152 = .ok (.iastore, 1) := by decide +kernel
theorem dX9_goOn_153 : decode cX9_goOn 153 = .ok (.goto 45, 3) := by decide +kernel
theorem dX9_goOn_156 : decode cX9_goOn 156 = .ok (.iload_n 2, 1) := by decide +kernel
theorem dX9_goOn_157 : decode cX9_goOn 157 = .ok (.aload_n 0, 1) := by decide +kernel
theorem dX9_goOn_158 : decode cX9_goOn 158 = .ok (.getfield 28, 3) := by decide +kernel
theorem dX9_goOn_161 : decode cX9_goOn 161 = .ok (.iload_n 3, 1) := by decide +kernel
theorem dX9_goOn_162 : decode cX9_goOn 162 = .ok (.iconst 1, 1) := by decide +kernel
theorem dX9_goOn_163 : decode cX9_goOn 163 = .ok (.iadd, 1) := by decide +kernel
theorem dX9_goOn_164 : decode cX9_goOn 164 = .ok (.iaload, 1) := by decide +kernel
theorem dX9_goOn_165 : decode cX9_goOn 165 = .ok (.if_icmp .ne 33, 3) := by decide +kernel
theorem dX9_goOn_168 : decode cX9_goOn 168 = .ok (.aload_n 0, 1) := by decide +kernel
theorem dX9_goOn_169 : decode cX9_goOn 169 = .ok (.getfield 28, 3) := by decide +kernel
theorem dX9_goOn_172 : decode cX9_goOn 172 = .ok (.iload_n 3, 1) := by decide +kernel
theorem dX9_goOn_173 : decode cX9_goOn 173 = .ok (.bipush 6, 2) := by decide +kernel
theorem dX9_goOn_175 : decode cX9_goOn 175 = .ok (.iadd, 1) := by decide +kernel
theorem dX9_goOn_176 : decode cX9_goOn 176 = .ok (.iconst 1, 1) := by decide +kernel
theorem dX9_goOn_177 : decode cX9_goOn 177 = .ok (.iastore, 1) := by decide +kernel
theorem dX9_goOn_178 : decode cX9_goOn 178 = .ok (.aload_n 0, 1) := by decide +kernel
theorem dX9_goOn_179 : decode cX9_goOn 179 = .ok (.getfield 25, 3) := by decide +kernel
theorem dX9_goOn_182 : decode cX9_goOn 182 = .ok (.iload_n 2, 1) := by decide +kernel
theorem dX9_goOn_183 : decode cX9_goOn 183 = .ok (.dup2, 1) := by decide +kernel
theorem dX9_goOn_184 : decode cX9_goOn 184 = .ok (.iaload, 1) := by decide +kernel
theorem dX9_goOn_185 : decode cX9_goOn 185 = .ok (.iconst 1, 1) := by decide +kernel
theorem dX9_goOn_186 : decode cX9_goOn 186 = .ok (.iadd, 1) := by decide +kernel
theorem dX9_goOn_187 : decode cX9_goOn 187 = .ok (.iastore, 1) := by decide +kernel
theorem dX9_goOn_188 : decode cX9_goOn 188 = .ok (.aload_n 0, 1) := by decide +kernel
theorem dX9_goOn_189 : decode cX9_goOn 189 = .ok (.dup, 1) := by decide +kernel
theorem dX9_goOn_190 : decode cX9_goOn 190 = .ok (.getfield 194, 3) := by decide +kernel
theorem dX9_goOn_193 : decode cX9_goOn 193 = .ok (.iconst 1, 1) := by decide +kernel
theorem dX9_goOn_194 : decode cX9_goOn 194 = .ok (.iadd, 1) := by decide +kernel
theorem dX9_goOn_195 : decode cX9_goOn 195 = .ok (.putfield 194, 3) := by decide +kernel
theorem dX9_goOn_198 : decode cX9_goOn 198 = .ok (.aload_n 0, 1) := by decide +kernel
theorem dX9_goOn_199 : decode cX9_goOn 199 = .ok (.getfield 28, 3) := by decide +kernel
theorem dX9_goOn_202 : decode cX9_goOn 202 = .ok (.iload_n 3, 1) := by decide +kernel
theorem dX9_goOn_203 : decode cX9_goOn 203 = .ok (.bipush 6, 2) := by decide +kernel
theorem dX9_goOn_205 : decode cX9_goOn 205 = .ok (.iadd, 1) := by decide +kernel
theorem dX9_goOn_206 : decode cX9_goOn 206 = .ok (.iaload, 1) := by decide +kernel
theorem dX9_goOn_207 : decode cX9_goOn 207 = .ok (.ireturn, 1) := by decide +kernel
theorem dX9_give_0 : decode cX9_give 0 = .ok (.aload_n 0, 1) := by decide +kernel
theorem dX9_give_1 : decode cX9_give 1 = .ok (.iload_n 1, 1) := by decide +kernel
theorem dX9_give_2 : decode cX9_give 2 = .ok (.invokevirtual 182, 3) := by decide +kernel
theorem dX9_give_5 : decode cX9_give 5 = .ok (.ifCond .eq 11, 3) := by decide +kernel
theorem dX9_give_8 : decode cX9_give 8 = .ok (.aload_n 0, 1) := by decide +kernel
theorem dX9_give_9 : decode cX9_give 9 = .ok (.iload_n 2, 1) := by decide +kernel
theorem dX9_give_10 : decode cX9_give 10 = .ok (.invokevirtual 147, 3) := by decide +kernel
theorem dX9_give_13 : decode cX9_give 13 = .ok (.ifCond .ne 6, 3) := by decide +kernel
theorem dX9_give_16 : decode cX9_give 16 = .ok (.bipush (-101), 2) := by decide +kernel
theorem dX9_give_18 : decode cX9_give 18 = .ok (.ireturn, 1) := by decide +kernel
theorem dX9_give_19 : decode cX9_give 19 = .ok (.aload_n 0, 1) := by decide +kernel
theorem dX9_give_20 : decode cX9_give 20 = .ok (.iload_n 1, 1) := by decide +kernel
theorem dX9_give_21 : decode cX9_give 21 = .ok (.invokevirtual 161, 3) := by decide +kernel
theorem dX9_give_24 : decode cX9_give 24 = .ok (.ifCond .eq 25, 3) := by decide +kernel
theorem dX9_give_27 : decode cX9_give 27 = .ok (.aload_n 0, 1) := by decide +kernel
theorem dX9_give_28 : decode cX9_give 28 = .ok (.iload_n 1, 1) := by decide +kernel
theorem dX9_give_29 : decode cX9_give 29 = .ok (.invokevirtual 191, 3) := by decide +kernel
theorem dX9_give_32 : decode cX9_give 32 = .ok (.iload_n 2, 1) := by decide +kernel
theorem dX9_give_33 : decode cX9_give 33 = .ok (.ishr, 1) := by decide +kernel
theorem dX9_give_34 : decode cX9_give 34 = .ok (.iconst 1, 1) := by decide +kernel
theorem dX9_give_35 : decode cX9_give 35 = .ok (.iand, 1) := by decide +kernel
theorem dX9_give_36 : decode cX9_give 36 = .ok (.iconst 1, 1) := by decide +kernel
theorem dX9_give_37 : decode cX9_give 37 = .ok (.if_icmp .ne 12, 3) := by decide +kernel
theorem dX9_give_40 : decode cX9_give 40 = .ok (.aload_n 0, 1) := by decide +kernel
theorem dX9_give_41 : decode cX9_give 41 = .ok (.iload_n 1, 1) := by decide +kernel
theorem dX9_give_42 : decode cX9_give 42 = .ok (.iload_n 2, 1) := by decide +kernel
theorem dX9_give_43 : decode cX9_give 43 = .ok (.invokevirtual 197, 3) := by decide +kernel
theorem dX9_give_46 : decode cX9_give 46 = .ok (.goto 5, 3) := by decide +kernel
theorem dX9_give_49 : decode cX9_give 49 = .ok (.bipush (-103), 2) := by decide +kernel
theorem dX9_give_51 : decode cX9_give 51 = .ok (.ireturn, 1) := by decide +kernel
theorem dX9_ones_0 : decode cX9_ones 0 = .ok (.iconst 0, 1) := by decide +kernel
theorem dX9_ones_1 : decode cX9_ones 1 = .ok (.istore_n 1, 1) := by decide +kernel
theorem dX9_ones_2 : decode cX9_ones 2 = .ok (.iconst 0, 1) := by decide +kernel
theorem dX9_ones_3 : decode cX9_ones 3 = .ok (.istore_n 2, 1) := by decide +kernel
theorem dX9_ones_4 : decode cX9_ones 4 = .ok (.iload_n 2, 1) := by decide +kernel
theorem dX9_ones_5 : decode cX9_ones 5 = .ok (.bipush 8, 2) := by decide +kernel
theorem dX9_ones_7 : decode cX9_ones 7 = .ok (.if_icmp .ge 17, 3) := by decide +kernel
theorem dX9_ones_10 : decode cX9_ones 10 = .ok (.iload_n 1, 1) := by decide +kernel
theorem dX9_ones_11 : decode cX9_ones 11 = .ok (.iload_n 0, 1) := by decide +kernel
theorem dX9_ones_12 : decode cX9_ones 12 = .ok (.iload_n 2, 1) := by decide +kernel
theorem dX9_ones_13 : decode cX9_ones 13 = .ok (.ishr, 1) := by decide +kernel
theorem dX9_ones_14 : decode cX9_ones 14 = .ok (.iconst 1, 1) := by decide +kernel
theorem dX9_ones_15 : decode cX9_ones 15 = .ok (.iand, 1) := by decide +kernel
theorem dX9_ones_16 : decode cX9_ones 16 = .ok (.iadd, 1) := by decide +kernel
theorem dX9_ones_17 : decode cX9_ones 17 = .ok (.istore_n 1, 1) := by decide +kernel
theorem dX9_ones_18 : decode cX9_ones 18 = .ok (.iinc 2 1, 3) := by decide +kernel
theorem dX9_ones_21 : decode cX9_ones 21 = .ok (.goto (-17), 3) := by decide +kernel
theorem dX9_ones_24 : decode cX9_ones 24 = .ok (.iload_n 1, 1) := by decide +kernel
theorem dX9_ones_25 : decode cX9_ones 25 = .ok (.ireturn, 1) := by decide +kernel
theorem dX9_byHabit_0 : decode cX9_byHabit 0 = .ok (.aload_n 0, 1) := by decide +kernel
theorem dX9_byHabit_1 : decode cX9_byHabit 1 = .ok (.getfield 13, 3) := by decide +kernel
theorem dX9_byHabit_4 : decode cX9_byHabit 4 = .ok (.iload_n 1, 1) := by decide +kernel
theorem dX9_byHabit_5 : decode cX9_byHabit 5 = .ok (.iaload, 1) := by decide +kernel
theorem dX9_byHabit_6 : decode cX9_byHabit 6 = .ok (.istore_n 3, 1) := by decide +kernel
theorem dX9_byHabit_7 : decode cX9_byHabit 7 = .ok (.iconst (-1), 1) := by decide +kernel
theorem dX9_byHabit_8 : decode cX9_byHabit 8 = .ok (.istore 4, 2) := by decide +kernel
theorem dX9_byHabit_10 : decode cX9_byHabit 10 = .ok (.iconst 0, 1) := by decide +kernel
theorem dX9_byHabit_11 : decode cX9_byHabit 11 = .ok (.istore 5, 2) := by decide +kernel
theorem dX9_byHabit_13 : decode cX9_byHabit 13 = .ok (.iload 5, 2) := by decide +kernel
theorem dX9_byHabit_15 : decode cX9_byHabit 15 = .ok (.aload_n 0, 1) := by decide +kernel
theorem dX9_byHabit_16 : decode cX9_byHabit 16 = .ok (.getfield 144, 3) := by decide +kernel
theorem dX9_byHabit_19 : decode cX9_byHabit 19 = .ok (.if_icmp .ge 127, 3) := by decide +kernel
theorem dX9_byHabit_22 : decode cX9_byHabit 22 = .ok (.iload_n 2, 1) := by decide +kernel
theorem dX9_byHabit_23 : decode cX9_byHabit 23 = .ok (.iload 5, 2) := by decide +kernel
theorem dX9_byHabit_25 : decode cX9_byHabit 25 = .ok (.ishr, 1) := by decide +kernel
theorem dX9_byHabit_26 : decode cX9_byHabit 26 = .ok (.iconst 1, 1) := by decide +kernel
theorem dX9_byHabit_27 : decode cX9_byHabit 27 = .ok (.iand, 1) := by decide +kernel
theorem dX9_byHabit_28 : decode cX9_byHabit 28 = .ok (.iconst 1, 1) := by decide +kernel
theorem dX9_byHabit_29 : decode cX9_byHabit 29 = .ok (.if_icmp .ne 111, 3) := by decide +kernel
theorem dX9_byHabit_32 : decode cX9_byHabit 32 = .ok (.iload 4, 2) := by decide +kernel
theorem dX9_byHabit_34 : decode cX9_byHabit 34 = .ok (.iconst (-1), 1) := by decide +kernel
theorem dX9_byHabit_35 : decode cX9_byHabit 35 = .ok (.if_icmp .eq 8, 3) := by decide +kernel
theorem dX9_byHabit_38 : decode cX9_byHabit 38 = .ok (.iload_n 3, 1) := by decide +kernel
theorem dX9_byHabit_39 : decode cX9_byHabit 39 = .ok (.iconst 1, 1) := by decide +kernel
theorem dX9_byHabit_40 : decode cX9_byHabit 40 = .ok (.if_icmp .ne 7, 3) := by decide +kernel
theorem dX9_byHabit_43 : decode cX9_byHabit 43 = .ok (.iconst 1, 1) := by decide +kernel
theorem dX9_byHabit_44 : decode cX9_byHabit 44 = .ok (.goto 4, 3) := by decide +kernel
theorem dX9_byHabit_47 : decode cX9_byHabit 47 = .ok (.iconst 0, 1) := by decide +kernel
theorem dX9_byHabit_48 : decode cX9_byHabit 48 = .ok (.istore 6, 2) := by decide +kernel
theorem dX9_byHabit_50 : decode cX9_byHabit 50 = .ok (.iload 6, 2) := by decide +kernel
theorem dX9_byHabit_52 : decode cX9_byHabit 52 = .ok (.ifCond .ne 35, 3) := by decide +kernel
theorem dX9_byHabit_55 : decode cX9_byHabit 55 = .ok (.iload_n 3, 1) := by decide +kernel
theorem dX9_byHabit_56 : decode cX9_byHabit 56 = .ok (.iconst 2, 1) := by decide +kernel
theorem dX9_byHabit_57 : decode cX9_byHabit 57 = .ok (.if_icmp .ne 34, 3) := by decide +kernel
theorem dX9_byHabit_60 : decode cX9_byHabit 60 = .ok (.aload_n 0, 1) := by decide +kernel
theorem dX9_byHabit_61 : decode cX9_byHabit 61 = .ok (.getfield 19, 3) := by decide +kernel
theorem dX9_byHabit_64 : decode cX9_byHabit 64 = .ok (.bipush 8, 2) := by decide +kernel
theorem dX9_byHabit_66 : decode cX9_byHabit 66 = .ok (.iload_n 1, 1) := by decide +kernel
theorem dX9_byHabit_67 : decode cX9_byHabit 67 = .ok (.imul, 1) := by decide +kernel
theorem dX9_byHabit_68 : decode cX9_byHabit 68 = .ok (.iload 5, 2) := by decide +kernel
theorem dX9_byHabit_70 : decode cX9_byHabit 70 = .ok (.iadd, 1) := by decide +kernel
theorem dX9_byHabit_71 : decode cX9_byHabit 71 = .ok (.iaload, 1) := by decide +kernel
theorem dX9_byHabit_72 : decode cX9_byHabit 72 = .ok (.aload_n 0, 1) := by decide +kernel
theorem dX9_byHabit_73 : decode cX9_byHabit 73 = .ok (.getfield 19, 3) := by decide +kernel
theorem dX9_byHabit_76 : decode cX9_byHabit 76 = .ok (.bipush 8, 2) := by decide +kernel
theorem dX9_byHabit_78 : decode cX9_byHabit 78 = .ok (.iload_n 1, 1) := by decide +kernel
theorem dX9_byHabit_79 : decode cX9_byHabit 79 = .ok (.imul, 1) := by decide +kernel
theorem dX9_byHabit_80 : decode cX9_byHabit 80 = .ok (.iload 4, 2) := by decide +kernel
theorem dX9_byHabit_82 : decode cX9_byHabit 82 = .ok (.iadd, 1) := by decide +kernel
theorem dX9_byHabit_83 : decode cX9_byHabit 83 = .ok (.iaload, 1) := by decide +kernel
theorem dX9_byHabit_84 : decode cX9_byHabit 84 = .ok (.if_icmp .le 7, 3) := by decide +kernel
theorem dX9_byHabit_87 : decode cX9_byHabit 87 = .ok (.iconst 1, 1) := by decide +kernel
theorem dX9_byHabit_88 : decode cX9_byHabit 88 = .ok (.goto 4, 3) := by decide +kernel
theorem dX9_byHabit_91 : decode cX9_byHabit 91 = .ok (.iconst 0, 1) := by decide +kernel
theorem dX9_byHabit_92 : decode cX9_byHabit 92 = .ok (.istore 6, 2) := by decide +kernel
theorem dX9_byHabit_94 : decode cX9_byHabit 94 = .ok (.iload 6, 2) := by decide +kernel
theorem dX9_byHabit_96 : decode cX9_byHabit 96 = .ok (.ifCond .ne 23, 3) := by decide +kernel
theorem dX9_byHabit_99 : decode cX9_byHabit 99 = .ok (.iload_n 3, 1) := by decide +kernel
theorem dX9_byHabit_100 : decode cX9_byHabit 100 = .ok (.iconst 3, 1) := by decide +kernel
theorem dX9_byHabit_101 : decode cX9_byHabit 101 = .ok (.if_icmp .ne 22, 3) := by decide +kernel
theorem dX9_byHabit_104 : decode cX9_byHabit 104 = .ok (.aload_n 0, 1) := by decide +kernel
theorem dX9_byHabit_105 : decode cX9_byHabit 105 = .ok (.iload 5, 2) := by decide +kernel
theorem dX9_byHabit_107 : decode cX9_byHabit 107 = .ok (.invokevirtual 164, 3) := by decide +kernel
theorem dX9_byHabit_110 : decode cX9_byHabit 110 = .ok (.aload_n 0, 1) := by decide +kernel
theorem dX9_byHabit_111 : decode cX9_byHabit 111 = .ok (.iload 4, 2) := by decide +kernel
theorem dX9_byHabit_113 : decode cX9_byHabit 113 = .ok (.invokevirtual 164, 3) := by decide +kernel
theorem dX9_byHabit_116 : decode cX9_byHabit 116 = .ok (.if_icmp .ge 7, 3) := by decide +kernel
theorem dX9_byHabit_119 : decode cX9_byHabit 119 = .ok (.iconst 1, 1) := by decide +kernel
theorem dX9_byHabit_120 : decode cX9_byHabit 120 = .ok (.goto 4, 3) := by decide +kernel
theorem dX9_byHabit_123 : decode cX9_byHabit 123 = .ok (.iconst 0, 1) := by decide +kernel
theorem dX9_byHabit_124 : decode cX9_byHabit 124 = .ok (.istore 6, 2) := by decide +kernel
theorem dX9_byHabit_126 : decode cX9_byHabit 126 = .ok (.iload 6, 2) := by decide +kernel
theorem dX9_byHabit_128 : decode cX9_byHabit 128 = .ok (.ifCond .eq 8, 3) := by decide +kernel
theorem dX9_byHabit_131 : decode cX9_byHabit 131 = .ok (.iload 5, 2) := by decide +kernel
theorem dX9_byHabit_133 : decode cX9_byHabit 133 = .ok (.goto 5, 3) := by decide +kernel
theorem dX9_byHabit_136 : decode cX9_byHabit 136 = .ok (.iload 4, 2) := by decide +kernel
theorem dX9_byHabit_138 : decode cX9_byHabit 138 = .ok (.istore 4, 2) := by decide +kernel
theorem dX9_byHabit_140 : decode cX9_byHabit 140 = .ok (.iinc 5 1, 3) := by decide +kernel
theorem dX9_byHabit_143 : decode cX9_byHabit 143 = .ok (.goto (-130), 3) := by decide +kernel
theorem dX9_byHabit_146 : decode cX9_byHabit 146 = .ok (.iload 4, 2) := by decide +kernel
theorem dX9_byHabit_148 : decode cX9_byHabit 148 = .ok (.ireturn, 1) := by decide +kernel
theorem dX9_draw_0 : decode cX9_draw 0 = .ok (.aload_n 0, 1) := by decide +kernel
theorem dX9_draw_1 : decode cX9_draw 1 = .ok (.ldc2_w 200, 3) := by decide +kernel
theorem dX9_draw_4 : decode cX9_draw 4 = .ok (.aload_n 0, 1) := by decide +kernel
theorem dX9_draw_5 : decode cX9_draw 5 = .ok (.getfield 202, 3) := by decide +kernel
theorem dX9_draw_8 : decode cX9_draw 8 = .ok (.i2l, 1) := by decide +kernel
theorem dX9_draw_9 : decode cX9_draw 9 = .ok (.lmul, 1) := by decide +kernel
theorem dX9_draw_10 : decode cX9_draw 10 = .ok (.ldc2_w 205, 3) := by decide +kernel
theorem dX9_draw_13 : decode cX9_draw 13 = .ok (.ladd, 1) := by decide +kernel
theorem dX9_draw_14 : decode cX9_draw 14 = .ok (.ldc2_w 207, 3) := by decide +kernel
theorem dX9_draw_17 : decode cX9_draw 17 = .ok (.land, 1) := by decide +kernel
theorem dX9_draw_18 : decode cX9_draw 18 = .ok (.l2i, 1) := by decide +kernel
theorem dX9_draw_19 : decode cX9_draw 19 = .ok (.putfield 202, 3) := by decide +kernel
theorem dX9_draw_22 : decode cX9_draw 22 = .ok (.aload_n 0, 1) := by decide +kernel
theorem dX9_draw_23 : decode cX9_draw 23 = .ok (.getfield 202, 3) := by decide +kernel
theorem dX9_draw_26 : decode cX9_draw 26 = .ok (.ldc 209, 2) := by decide +kernel
theorem dX9_draw_28 : decode cX9_draw 28 = .ok (.idiv, 1) := by decide +kernel
theorem dX9_draw_29 : decode cX9_draw 29 = .ok (.iload_n 1, 1) := by decide +kernel
theorem dX9_draw_30 : decode cX9_draw 30 = .ok (.irem, 1) := by decide +kernel
theorem dX9_draw_31 : decode cX9_draw 31 = .ok (.ireturn, 1) := by decide +kernel
theorem dX9_byDraw_0 : decode cX9_byDraw 0 = .ok (.aload_n 0, 1) := by decide +kernel
theorem dX9_byDraw_1 : decode cX9_byDraw 1 = .ok (.iload_n 1, 1) := by decide +kernel
theorem dX9_byDraw_2 : decode cX9_byDraw 2 = .ok (.invokestatic 210, 3) := by decide +kernel
theorem dX9_byDraw_5 : decode cX9_byDraw 5 = .ok (.invokevirtual 213, 3) := by decide +kernel
theorem dX9_byDraw_8 : decode cX9_byDraw 8 = .ok (.istore_n 2, 1) := by decide +kernel
theorem dX9_byDraw_9 : decode cX9_byDraw 9 = .ok (.iconst 0, 1) := by decide +kernel
theorem dX9_byDraw_10 : decode cX9_byDraw 10 = .ok (.istore_n 3, 1) := by decide +kernel
theorem dX9_byDraw_11 : decode cX9_byDraw 11 = .ok (.iload_n 1, 1) := by decide +kernel
theorem dX9_byDraw_12 : decode cX9_byDraw 12 = .ok (.iload_n 3, 1) := by decide +kernel
theorem dX9_byDraw_13 : decode cX9_byDraw 13 = .ok (.ishr, 1) := by decide +kernel
theorem dX9_byDraw_14 : decode cX9_byDraw 14 = .ok (.iconst 1, 1) := by decide +kernel
theorem dX9_byDraw_15 : decode cX9_byDraw 15 = .ok (.iand, 1) := by decide +kernel
theorem dX9_byDraw_16 : decode cX9_byDraw 16 = .ok (.ifCond .eq 7, 3) := by decide +kernel
theorem dX9_byDraw_19 : decode cX9_byDraw 19 = .ok (.iload_n 2, 1) := by decide +kernel
theorem dX9_byDraw_20 : decode cX9_byDraw 20 = .ok (.ifCond .le 17, 3) := by decide +kernel
theorem dX9_byDraw_23 : decode cX9_byDraw 23 = .ok (.iload_n 2, 1) := by decide +kernel
theorem dX9_byDraw_24 : decode cX9_byDraw 24 = .ok (.iload_n 1, 1) := by decide +kernel
theorem dX9_byDraw_25 : decode cX9_byDraw 25 = .ok (.iload_n 3, 1) := by decide +kernel
theorem dX9_byDraw_26 : decode cX9_byDraw 26 = .ok (.ishr, 1) := by decide +kernel
theorem dX9_byDraw_27 : decode cX9_byDraw 27 = .ok (.iconst 1, 1) := by decide +kernel
theorem dX9_byDraw_28 : decode cX9_byDraw 28 = .ok (.iand, 1) := by decide +kernel
theorem dX9_byDraw_29 : decode cX9_byDraw 29 = .ok (.isub, 1) := by decide +kernel
theorem dX9_byDraw_30 : decode cX9_byDraw 30 = .ok (.istore_n 2, 1) := by decide +kernel
theorem dX9_byDraw_31 : decode cX9_byDraw 31 = .ok (.iinc 3 1, 3) := by decide +kernel
theorem dX9_byDraw_34 : decode cX9_byDraw 34 = .ok (.goto (-23), 3) := by decide +kernel
theorem dX9_byDraw_37 : decode cX9_byDraw 37 = .ok (.iload_n 3, 1) := by decide +kernel
theorem dX9_byDraw_38 : decode cX9_byDraw 38 = .ok (.ireturn, 1) := by decide +kernel
theorem dX9_year_0 : decode cX9_year 0 = .ok (.iconst 0, 1) := by decide +kernel
theorem dX9_year_1 : decode cX9_year 1 = .ok (.istore_n 2, 1) := by decide +kernel
theorem dX9_year_2 : decode cX9_year 2 = .ok (.iload_n 2, 1) := by decide +kernel
theorem dX9_year_3 : decode cX9_year 3 = .ok (.bipush 8, 2) := by decide +kernel
theorem dX9_year_5 : decode cX9_year 5 = .ok (.if_icmp .ge 51, 3) := by decide +kernel
theorem dX9_year_8 : decode cX9_year 8 = .ok (.aload_n 0, 1) := by decide +kernel
theorem dX9_year_9 : decode cX9_year 9 = .ok (.getfield 31, 3) := by decide +kernel
theorem dX9_year_12 : decode cX9_year 12 = .ok (.iload_n 2, 1) := by decide +kernel
theorem dX9_year_13 : decode cX9_year 13 = .ok (.iconst 0, 1) := by decide +kernel
theorem dX9_year_14 : decode cX9_year 14 = .ok (.iastore, 1) := by decide +kernel
theorem dX9_year_15 : decode cX9_year 15 = .ok (.aload_n 0, 1) := by decide +kernel
theorem dX9_year_16 : decode cX9_year 16 = .ok (.getfield 28, 3) := by decide +kernel
theorem dX9_year_19 : decode cX9_year 19 = .ok (.bipush 8, 2) := by decide +kernel
theorem dX9_year_21 : decode cX9_year 21 = .ok (.iload_n 2, 1) := by decide +kernel
theorem dX9_year_22 : decode cX9_year 22 = .ok (.imul, 1) := by decide +kernel
theorem dX9_year_23 : decode cX9_year 23 = .ok (.iconst 5, 1) := by decide +kernel
theorem dX9_year_24 : decode cX9_year 24 = .ok (.iadd, 1) := by decide +kernel
theorem dX9_year_25 : decode cX9_year 25 = .ok (.dup2, 1) := by decide +kernel
theorem dX9_year_26 : decode cX9_year 26 = .ok (.iaload, 1) := by decide +kernel
theorem dX9_year_27 : decode cX9_year 27 = .ok (.iload_n 2, 1) := by decide +kernel
theorem dX9_year_28 : decode cX9_year 28 = .ok (.aload_n 0, 1) := by decide +kernel
theorem dX9_year_29 : decode cX9_year 29 = .ok (.getfield 158, 3) := by decide +kernel
theorem dX9_year_32 : decode cX9_year 32 = .ok (.if_icmp .ge 15, 3) := by decide +kernel
theorem dX9_year_35 : decode cX9_year 35 = .ok (.aload_n 0, 1) := by decide +kernel
theorem dX9_year_36 : decode cX9_year 36 = .ok (.iload_n 2, 1) := by decide +kernel
theorem dX9_year_37 : decode cX9_year 37 = .ok (.invokevirtual 161, 3) := by decide +kernel
theorem dX9_year_40 : decode cX9_year 40 = .ok (.ifCond .eq 7, 3) := by decide +kernel
theorem dX9_year_43 : decode cX9_year 43 = .ok (.iconst 1, 1) := by decide +kernel
theorem dX9_year_44 : decode cX9_year 44 = .ok (.goto 4, 3) := by decide +kernel
theorem dX9_year_47 : decode cX9_year 47 = .ok (.iconst 0, 1) := by decide +kernel
theorem dX9_year_48 : decode cX9_year 48 = .ok (.iadd, 1) := by decide +kernel
theorem dX9_year_49 : decode cX9_year 49 = .ok (.iastore, 1) := by decide +kernel
theorem dX9_year_50 : decode cX9_year 50 = .ok (.iinc 2 1, 3) := by decide +kernel
theorem dX9_year_53 : decode cX9_year 53 = .ok (.goto (-51), 3) := by decide +kernel
theorem dX9_year_56 : decode cX9_year 56 = .ok (.iconst 0, 1) := by decide +kernel
theorem dX9_year_57 : decode cX9_year 57 = .ok (.istore_n 2, 1) := by decide +kernel
theorem dX9_year_58 : decode cX9_year 58 = .ok (.iconst 0, 1) := by decide +kernel
theorem dX9_year_59 : decode cX9_year 59 = .ok (.istore_n 3, 1) := by decide +kernel
theorem dX9_year_60 : decode cX9_year 60 = .ok (.iload_n 3, 1) := by decide +kernel
theorem dX9_year_61 : decode cX9_year 61 = .ok (.aload_n 0, 1) := by decide +kernel
theorem dX9_year_62 : decode cX9_year 62 = .ok (.getfield 158, 3) := by decide +kernel
theorem dX9_year_65 : decode cX9_year 65 = .ok (.if_icmp .ge 155, 3) := by decide +kernel
theorem dX9_year_68 : decode cX9_year 68 = .ok (.aload_n 0, 1) := by decide +kernel
theorem dX9_year_69 : decode cX9_year 69 = .ok (.getfield 28, 3) := by decide +kernel
theorem dX9_year_72 : decode cX9_year 72 = .ok (.bipush 8, 2) := by decide +kernel
theorem dX9_year_74 : decode cX9_year 74 = .ok (.iload_n 3, 1) := by decide +kernel
theorem dX9_year_75 : decode cX9_year 75 = .ok (.imul, 1) := by decide +kernel
theorem dX9_year_76 : decode cX9_year 76 = .ok (.iconst 2, 1) := by decide +kernel
theorem dX9_year_77 : decode cX9_year 77 = .ok (.iadd, 1) := by decide +kernel
theorem dX9_year_78 : decode cX9_year 78 = .ok (.iaload, 1) := by decide +kernel
theorem dX9_year_79 : decode cX9_year 79 = .ok (.istore 4, 2) := by decide +kernel
theorem dX9_year_81 : decode cX9_year 81 = .ok (.aload_n 0, 1) := by decide +kernel
theorem dX9_year_82 : decode cX9_year 82 = .ok (.iload_n 3, 1) := by decide +kernel
theorem dX9_year_83 : decode cX9_year 83 = .ok (.invokevirtual 161, 3) := by decide +kernel
theorem dX9_year_86 : decode cX9_year 86 = .ok (.ifCond .eq 44, 3) := by decide +kernel
theorem dX9_year_89 : decode cX9_year 89 = .ok (.aload_n 0, 1) := by decide +kernel
theorem dX9_year_90 : decode cX9_year 90 = .ok (.getfield 28, 3) := by decide +kernel
theorem dX9_year_93 : decode cX9_year 93 = .ok (.bipush 8, 2) := by decide +kernel
theorem dX9_year_95 : decode cX9_year 95 = .ok (.iload_n 3, 1) := by decide +kernel
theorem dX9_year_96 : decode cX9_year 96 = .ok (.imul, 1) := by decide +kernel
theorem dX9_year_97 : decode cX9_year 97 = .ok (.iconst 5, 1) := by decide +kernel
theorem dX9_year_98 : decode cX9_year 98 = .ok (.iadd, 1) := by decide +kernel
theorem dX9_year_99 : decode cX9_year 99 = .ok (.iaload, 1) := by decide +kernel
theorem dX9_year_100 : decode cX9_year 100 = .ok (.aload_n 0, 1) := by decide +kernel
theorem dX9_year_101 : decode cX9_year 101 = .ok (.getfield 84, 3) := by decide +kernel
theorem dX9_year_104 : decode cX9_year 104 = .ok (.aload_n 0, 1) := by decide +kernel
theorem dX9_year_105 : decode cX9_year 105 = .ok (.getfield 28, 3) := by decide +kernel
theorem dX9_year_108 : decode cX9_year 108 = .ok (.bipush 8, 2) := by decide +kernel
theorem dX9_year_110 : decode cX9_year 110 = .ok (.iload_n 3, 1) := by decide +kernel
theorem dX9_year_111 : decode cX9_year 111 = .ok (.imul, 1) := by decide +kernel
theorem dX9_year_112 : decode cX9_year 112 = .ok (.iaload, 1) := by decide +kernel
theorem dX9_year_113 : decode cX9_year 113 = .ok (.iconst 3, 1) := by decide +kernel
theorem dX9_year_114 : decode cX9_year 114 = .ok (.if_icmp .ne 7, 3) := by decide +kernel
theorem dX9_year_117 : decode cX9_year 117 = .ok (.iconst 1, 1) := by decide +kernel
theorem dX9_year_118 : decode cX9_year 118 = .ok (.goto 4, 3) := by decide +kernel
theorem dX9_year_121 : decode cX9_year 121 = .ok (.iconst 0, 1) := by decide +kernel
theorem dX9_year_122 : decode cX9_year 122 = .ok (.iadd, 1) := by decide +kernel
theorem dX9_year_123 : decode cX9_year 123 = .ok (.if_icmp .lt 7, 3) := by decide +kernel
theorem dX9_year_126 : decode cX9_year 126 = .ok (.iconst 1, 1) := by decide +kernel
theorem dX9_year_127 : decode cX9_year 127 = .ok (.goto 4, 3) := by decide +kernel
theorem dX9_year_130 : decode cX9_year 130 = .ok (.iconst 0, 1) := by decide +kernel
theorem dX9_year_131 : decode cX9_year 131 = .ok (.istore 5, 2) := by decide +kernel
theorem dX9_year_133 : decode cX9_year 133 = .ok (.iload 5, 2) := by decide +kernel
theorem dX9_year_135 : decode cX9_year 135 = .ok (.ifCond .eq 11, 3) := by decide +kernel
theorem dX9_year_138 : decode cX9_year 138 = .ok (.aload_n 0, 1) := by decide +kernel
theorem dX9_year_139 : decode cX9_year 139 = .ok (.iload_n 3, 1) := by decide +kernel
theorem dX9_year_140 : decode cX9_year 140 = .ok (.invokevirtual 191, 3) := by decide +kernel
theorem dX9_year_143 : decode cX9_year 143 = .ok (.goto 4, 3) := by decide +kernel
theorem dX9_year_146 : decode cX9_year 146 = .ok (.iconst 0, 1) := by decide +kernel
theorem dX9_year_147 : decode cX9_year 147 = .ok (.istore 6, 2) := by decide +kernel
theorem dX9_year_149 : decode cX9_year 149 = .ok (.iload 6, 2) := by decide +kernel
theorem dX9_year_151 : decode cX9_year 151 = .ok (.ifCond .eq 63, 3) := by decide +kernel
theorem dX9_year_154 : decode cX9_year 154 = .ok (.aload_n 0, 1) := by decide +kernel
theorem dX9_year_155 : decode cX9_year 155 = .ok (.getfield 134, 3) := by decide +kernel
theorem dX9_year_158 : decode cX9_year 158 = .ok (.ifCond .eq 13, 3) := by decide +kernel
theorem dX9_year_161 : decode cX9_year 161 = .ok (.aload_n 0, 1) := by decide +kernel
theorem dX9_year_162 : decode cX9_year 162 = .ok (.getfield 31, 3) := by decide +kernel
theorem dX9_year_165 : decode cX9_year 165 = .ok (.iload 4, 2) := by decide +kernel
theorem dX9_year_167 : decode cX9_year 167 = .ok (.iaload, 1) := by decide +kernel
theorem dX9_year_168 : decode cX9_year 168 = .ok (.ifCond .ne 46, 3) := by decide +kernel
theorem dX9_year_171 : decode cX9_year 171 = .ok (.iload_n 1, 1) := by decide +kernel
theorem dX9_year_172 : decode cX9_year 172 = .ok (.ifCond .eq 12, 3) := by decide +kernel
theorem dX9_year_175 : decode cX9_year 175 = .ok (.aload_n 0, 1) := by decide +kernel
theorem dX9_year_176 : decode cX9_year 176 = .ok (.iload 6, 2) := by decide +kernel
theorem dX9_year_178 : decode cX9_year 178 = .ok (.invokevirtual 216, 3) := by decide +kernel
theorem dX9_year_181 : decode cX9_year 181 = .ok (.goto 11, 3) := by decide +kernel
theorem dX9_year_184 : decode cX9_year 184 = .ok (.aload_n 0, 1) := by decide +kernel
theorem dX9_year_185 : decode cX9_year 185 = .ok (.iload 4, 2) := by decide +kernel
theorem dX9_year_187 : decode cX9_year 187 = .ok (.iload 6, 2) := by decide +kernel
theorem dX9_year_189 : decode cX9_year 189 = .ok (.invokevirtual 219, 3) := by decide +kernel
theorem dX9_year_192 : decode cX9_year 192 = .ok (.istore 7, 2) := by decide +kernel
theorem dX9_year_194 : decode cX9_year 194 = .ok (.aload_n 0, 1) := by decide +kernel
theorem dX9_year_195 : decode cX9_year 195 = .ok (.iload_n 3, 1) := by decide +kernel
theorem dX9_year_196 : decode cX9_year 196 = .ok (.iload 7, 2) := by decide +kernel
theorem dX9_year_198 : decode cX9_year 198 = .ok (.invokevirtual 197, 3) := by decide +kernel
theorem dX9_year_201 : decode cX9_year 201 = .ok (.istore 8, 2) := by decide +kernel
theorem dX9_year_203 : decode cX9_year 203 = .ok (.aload_n 0, 1) := by decide +kernel
theorem dX9_year_204 : decode cX9_year 204 = .ok (.getfield 31, 3) := by decide +kernel
theorem dX9_year_207 : decode cX9_year 207 = .ok (.iload 4, 2) := by decide +kernel
theorem dX9_year_209 : decode cX9_year 209 = .ok (.iconst 1, 1) := by decide +kernel
theorem dX9_year_210 : decode cX9_year 210 = .ok (.iastore, 1) := by decide +kernel
theorem dX9_year_211 : decode cX9_year 211 = .ok (.iinc 2 1, 3) := by decide +kernel
theorem dX9_year_214 : decode cX9_year 214 = .ok (.iinc 3 1, 3) := by decide +kernel
theorem dX9_year_217 : decode cX9_year 217 = .ok (.goto (-157), 3) := by decide +kernel
theorem dX9_year_220 : decode cX9_year 220 = .ok (.aload_n 0, 1) := by decide +kernel
theorem dX9_year_221 : decode cX9_year 221 = .ok (.dup, 1) := by decide +kernel
theorem dX9_year_222 : decode cX9_year 222 = .ok (.getfield 222, 3) := by decide +kernel
theorem dX9_year_225 : decode cX9_year 225 = .ok (.iconst 1, 1) := by decide +kernel
theorem dX9_year_226 : decode cX9_year 226 = .ok (.iadd, 1) := by decide +kernel
theorem dX9_year_227 : decode cX9_year 227 = .ok (.putfield 222, 3) := by decide +kernel
theorem dX9_year_230 : decode cX9_year 230 = .ok (.iload_n 2, 1) := by decide +kernel
theorem dX9_year_231 : decode cX9_year 231 = .ok (.ireturn, 1) := by decide +kernel
theorem dX9_years_0 : decode cX9_years 0 = .ok (.iload_n 1, 1) := by decide +kernel
theorem dX9_years_1 : decode cX9_years 1 = .ok (.i2l, 1) := by decide +kernel
theorem dX9_years_2 : decode cX9_years 2 = .ok (.lconst 1, 1) := by decide +kernel
theorem dX9_years_3 : decode cX9_years 3 = .ok (.ldc2_w 225, 3) := by decide +kernel
theorem dX9_years_6 : decode cX9_years 6 = .ok (.invokestatic 108, 3) := by decide +kernel
theorem dX9_years_9 : decode cX9_years 9 = .ok (.ifCond .ne 6, 3) := by decide +kernel
theorem dX9_years_12 : decode cX9_years 12 = .ok (.bipush (-102), 2) := by decide +kernel
theorem dX9_years_14 : decode cX9_years 14 = .ok (.ireturn, 1) := by decide +kernel
theorem dX9_years_15 : decode cX9_years 15 = .ok (.iconst 0, 1) := by decide +kernel
theorem dX9_years_16 : decode cX9_years 16 = .ok (.istore_n 2, 1) := by decide +kernel
theorem dX9_years_17 : decode cX9_years 17 = .ok (.iconst 0, 1) := by decide +kernel
theorem dX9_years_18 : decode cX9_years 18 = .ok (.istore_n 3, 1) := by decide +kernel
theorem dX9_years_19 : decode cX9_years 19 = .ok (.iload_n 3, 1) := by decide +kernel
theorem dX9_years_20 : decode cX9_years 20 = .ok (.iload_n 1, 1) := by decide +kernel
theorem dX9_years_21 : decode cX9_years 21 = .ok (.if_icmp .ge 21, 3) := by decide +kernel
theorem dX9_years_24 : decode cX9_years 24 = .ok (.aload_n 0, 1) := by decide +kernel
theorem dX9_years_25 : decode cX9_years 25 = .ok (.iconst 0, 1) := by decide +kernel
theorem dX9_years_26 : decode cX9_years 26 = .ok (.invokevirtual 227, 3) := by decide +kernel
theorem dX9_years_29 : decode cX9_years 29 = .ok (.istore 4, 2) := by decide +kernel
theorem dX9_years_31 : decode cX9_years 31 = .ok (.iload_n 2, 1) := by decide +kernel
theorem dX9_years_32 : decode cX9_years 32 = .ok (.iload 4, 2) := by decide +kernel
theorem dX9_years_34 : decode cX9_years 34 = .ok (.iadd, 1) := by decide +kernel
theorem dX9_years_35 : decode cX9_years 35 = .ok (.istore_n 2, 1) := by decide +kernel
theorem dX9_years_36 : decode cX9_years 36 = .ok (.iinc 3 1, 3) := by decide +kernel
theorem dX9_years_39 : decode cX9_years 39 = .ok (.goto (-20), 3) := by decide +kernel
theorem dX9_years_42 : decode cX9_years 42 = .ok (.iload_n 2, 1) := by decide +kernel
theorem dX9_years_43 : decode cX9_years 43 = .ok (.ireturn, 1) := by decide +kernel
theorem dX9_goAll_0 : decode cX9_goAll 0 = .ok (.iconst 0, 1) := by decide +kernel
theorem dX9_goAll_1 : decode cX9_goAll 1 = .ok (.istore_n 3, 1) := by decide +kernel
theorem dX9_goAll_2 : decode cX9_goAll 2 = .ok (.iload_n 3, 1) := by decide +kernel
theorem dX9_goAll_3 : decode cX9_goAll 3 = .ok (.bipush 72, 2) := by decide +kernel
theorem dX9_goAll_5 : decode cX9_goAll 5 = .ok (.if_icmp .ge 16, 3) := by decide +kernel
theorem dX9_goAll_8 : decode cX9_goAll 8 = .ok (.aload_n 0, 1) := by decide +kernel
theorem dX9_goAll_9 : decode cX9_goAll 9 = .ok (.getfield 38, 3) := by decide +kernel
theorem dX9_goAll_12 : decode cX9_goAll 12 = .ok (.iload_n 3, 1) := by decide +kernel
theorem dX9_goAll_13 : decode cX9_goAll 13 = .ok (.lconst 0, 1) := by decide +kernel
theorem dX9_goAll_14 : decode cX9_goAll 14 = .ok (.lastore, 1) := by decide +kernel
theorem dX9_goAll_15 : decode cX9_goAll 15 = .ok (.iinc 3 1, 3) := by decide +kernel
theorem dX9_goAll_18 : decode cX9_goAll 18 = .ok (.goto (-16), 3) := by decide +kernel
theorem dX9_goAll_21 : decode cX9_goAll 21 = .ok (.lconst 0, 1) := by decide +kernel
theorem dX9_goAll_22 : decode cX9_goAll 22 = .ok (.lstore_n 3, 1) := by decide +kernel
theorem dX9_goAll_23 : decode cX9_goAll 23 = .ok (.iconst 0, 1) := by decide +kernel
theorem dX9_goAll_24 : decode cX9_goAll 24 = .ok (.istore 5, 2) := by decide +kernel
theorem dX9_goAll_26 : decode cX9_goAll 26 = .ok (.iload 5, 2) := by decide +kernel
theorem dX9_goAll_28 : decode cX9_goAll 28 = .ok (.bipush 72, 2) := by decide +kernel
theorem dX9_goAll_30 : decode cX9_goAll 30 = .ok (.if_icmp .ge 193, 3) := by decide +kernel
theorem dX9_goAll_33 : decode cX9_goAll 33 = .ok (.iload 5, 2) := by decide +kernel
theorem dX9_goAll_35 : decode cX9_goAll 35 = .ok (.bipush 9, 2) := by decide +kernel
theorem dX9_goAll_37 : decode cX9_goAll 37 = .ok (.idiv, 1) := by decide +kernel
theorem dX9_goAll_38 : decode cX9_goAll 38 = .ok (.istore 6, 2) := by decide +kernel
theorem dX9_goAll_40 : decode cX9_goAll 40 = .ok (.aload_n 0, 1) := by decide +kernel
theorem dX9_goAll_41 : decode cX9_goAll 41 = .ok (.getfield 34, 3) := by decide +kernel
theorem dX9_goAll_44 : decode cX9_goAll 44 = .ok (.iload 5, 2) := by decide +kernel
theorem dX9_goAll_46 : decode cX9_goAll 46 = .ok (.laload, 1) := by decide +kernel
theorem dX9_goAll_47 : decode cX9_goAll 47 = .ok (.lconst 0, 1) := by decide +kernel
theorem dX9_goAll_48 : decode cX9_goAll 48 = .ok (.lcmp, 1) := by decide +kernel
theorem dX9_goAll_49 : decode cX9_goAll 49 = .ok (.ifCond .le 31, 3) := by decide +kernel
theorem dX9_goAll_52 : decode cX9_goAll 52 = .ok (.aload_n 0, 1) := by decide +kernel
theorem dX9_goAll_53 : decode cX9_goAll 53 = .ok (.iload 6, 2) := by decide +kernel
theorem dX9_goAll_55 : decode cX9_goAll 55 = .ok (.iload 5, 2) := by decide +kernel
theorem dX9_goAll_57 : decode cX9_goAll 57 = .ok (.bipush 9, 2) := by decide +kernel
theorem dX9_goAll_59 : decode cX9_goAll 59 = .ok (.irem, 1) := by decide +kernel
theorem dX9_goAll_60 : decode cX9_goAll 60 = .ok (.bipush 8, 2) := by decide +kernel
theorem dX9_goAll_62 : decode cX9_goAll 62 = .ok (.if_icmp .ne 7, 3) := by decide +kernel
theorem dX9_goAll_65 : decode cX9_goAll 65 = .ok (.iconst (-1), 1) := by decide +kernel
theorem dX9_goAll_66 : decode cX9_goAll 66 = .ok (.goto 8, 3) := by decide +kernel
theorem dX9_goAll_69 : decode cX9_goAll 69 = .ok (.iload 5, 2) := by decide +kernel
theorem dX9_goAll_71 : decode cX9_goAll 71 = .ok (.bipush 9, 2) := by decide +kernel
theorem dX9_goAll_73 : decode cX9_goAll 73 = .ok (.irem, 1) := by decide +kernel
theorem dX9_goAll_74 : decode cX9_goAll 74 = .ok (.invokevirtual 188, 3) := by decide +kernel
theorem dX9_goAll_77 : decode cX9_goAll 77 = .ok (.goto 4, 3) := by decide +kernel
theorem dX9_goAll_80 : decode cX9_goAll 80 = .ok (.iconst 0, 1) := by decide +kernel
theorem dX9_goAll_81 : decode cX9_goAll 81 = .ok (.istore 7, 2) := by decide +kernel
theorem dX9_goAll_83 : decode cX9_goAll 83 = .ok (.aload_n 0, 1) := by decide +kernel
theorem dX9_goAll_84 : decode cX9_goAll 84 = .ok (.getfield 34, 3) := by decide +kernel
theorem dX9_goAll_87 : decode cX9_goAll 87 = .ok (.iload 5, 2) := by decide +kernel
theorem dX9_goAll_89 : decode cX9_goAll 89 = .ok (.laload, 1) := by decide +kernel
theorem dX9_goAll_90 : decode cX9_goAll 90 = .ok (.iload_n 2, 1) := by decide +kernel
theorem dX9_goAll_91 : decode cX9_goAll 91 = .ok (.ifCond .eq 24, 3) := by decide +kernel
theorem dX9_goAll_94 : decode cX9_goAll 94 = .ok (.sipush 420, 3) := by decide +kernel
theorem dX9_goAll_97 : decode cX9_goAll 97 = .ok (.iload 7, 2) := by decide +kernel
theorem dX9_goAll_99 : decode cX9_goAll 99 = .ok (.ifCond .ne 7, 3) := by decide +kernel
theorem dX9_goAll_102 : decode cX9_goAll 102 = .ok (.iconst 1, 1) := by decide +kernel
theorem dX9_goAll_103 : decode cX9_goAll 103 = .ok (.goto 8, 3) := by decide +kernel
theorem dX9_goAll_106 : decode cX9_goAll 106 = .ok (.iload 7, 2) := by decide +kernel
theorem dX9_goAll_108 : decode cX9_goAll 108 = .ok (.invokestatic 210, 3) := by decide +kernel
theorem dX9_goAll_111 : decode cX9_goAll 111 = .ok (.idiv, 1) := by decide +kernel
theorem dX9_goAll_112 : decode cX9_goAll 112 = .ok (.goto 4, 3) := by decide +kernel
theorem dX9_goAll_115 : decode cX9_goAll 115 = .ok (.iconst 1, 1) := by decide +kernel
theorem dX9_goAll_116 : decode cX9_goAll 116 = .ok (.i2l, 1) := by decide +kernel
theorem dX9_goAll_117 : decode cX9_goAll 117 = .ok (.lmul, 1) := by decide +kernel
theorem dX9_goAll_118 : decode cX9_goAll 118 = .ok (.lstore 8, 2) := by decide +kernel
theorem dX9_goAll_120 : decode cX9_goAll 120 = .ok (.aload_n 0, 1) := by decide +kernel
theorem dX9_goAll_121 : decode cX9_goAll 121 = .ok (.getfield 38, 3) := by decide +kernel
theorem dX9_goAll_124 : decode cX9_goAll 124 = .ok (.iload 5, 2) := by decide +kernel
theorem dX9_goAll_126 : decode cX9_goAll 126 = .ok (.dup2, 1) := by decide +kernel
theorem dX9_goAll_127 : decode cX9_goAll 127 = .ok (.laload, 1) := by decide +kernel
theorem dX9_goAll_128 : decode cX9_goAll 128 = .ok (.iload_n 2, 1) := by decide +kernel
theorem dX9_goAll_129 : decode cX9_goAll 129 = .ok (.ifCond .eq 13, 3) := by decide +kernel
theorem dX9_goAll_132 : decode cX9_goAll 132 = .ok (.iload 7, 2) := by decide +kernel
theorem dX9_goAll_134 : decode cX9_goAll 134 = .ok (.ifCond .ne 8, 3) := by decide +kernel
theorem dX9_goAll_137 : decode cX9_goAll 137 = .ok (.lload 8, 2) := by decide +kernel
theorem dX9_goAll_139 : decode cX9_goAll 139 = .ok (.goto 4, 3) := by decide +kernel
theorem dX9_goAll_142 : decode cX9_goAll 142 = .ok (.lconst 0, 1) := by decide +kernel
theorem dX9_goAll_143 : decode cX9_goAll 143 = .ok (.ladd, 1) := by decide +kernel
theorem dX9_goAll_144 : decode cX9_goAll 144 = .ok (.lastore, 1) := by decide +kernel
theorem dX9_goAll_145 : decode cX9_goAll 145 = .ok (.iconst 0, 1) := by decide +kernel
theorem dX9_goAll_146 : decode cX9_goAll 146 = .ok (.istore 10, 2) := by decide +kernel
theorem dX9_goAll_148 : decode cX9_goAll 148 = .ok (.iload 10, 2) := by decide +kernel
theorem dX9_goAll_150 : decode cX9_goAll 150 = .ok (.aload_n 0, 1) := by decide +kernel
theorem dX9_goAll_151 : decode cX9_goAll 151 = .ok (.getfield 144, 3) := by decide +kernel
theorem dX9_goAll_154 : decode cX9_goAll 154 = .ok (.if_icmp .ge 63, 3) := by decide +kernel
theorem dX9_goAll_157 : decode cX9_goAll 157 = .ok (.iload 7, 2) := by decide +kernel
theorem dX9_goAll_159 : decode cX9_goAll 159 = .ok (.iload 10, 2) := by decide +kernel
theorem dX9_goAll_161 : decode cX9_goAll 161 = .ok (.ishr, 1) := by decide +kernel
theorem dX9_goAll_162 : decode cX9_goAll 162 = .ok (.iconst 1, 1) := by decide +kernel
theorem dX9_goAll_163 : decode cX9_goAll 163 = .ok (.iand, 1) := by decide +kernel
theorem dX9_goAll_164 : decode cX9_goAll 164 = .ok (.iconst 1, 1) := by decide +kernel
theorem dX9_goAll_165 : decode cX9_goAll 165 = .ok (.if_icmp .ne 46, 3) := by decide +kernel
theorem dX9_goAll_168 : decode cX9_goAll 168 = .ok (.lload_n 3, 1) := by decide +kernel
theorem dX9_goAll_169 : decode cX9_goAll 169 = .ok (.iload 10, 2) := by decide +kernel
theorem dX9_goAll_171 : decode cX9_goAll 171 = .ok (.iload_n 1, 1) := by decide +kernel
theorem dX9_goAll_172 : decode cX9_goAll 172 = .ok (.if_icmp .ne 8, 3) := by decide +kernel
theorem dX9_goAll_175 : decode cX9_goAll 175 = .ok (.lload 8, 2) := by decide +kernel
theorem dX9_goAll_177 : decode cX9_goAll 177 = .ok (.goto 4, 3) := by decide +kernel
theorem dX9_goAll_180 : decode cX9_goAll 180 = .ok (.lconst 0, 1) := by decide +kernel
theorem dX9_goAll_181 : decode cX9_goAll 181 = .ok (.ladd, 1) := by decide +kernel
theorem dX9_goAll_182 : decode cX9_goAll 182 = .ok (.lstore_n 3, 1) := by decide +kernel
theorem dX9_goAll_183 : decode cX9_goAll 183 = .ok (.aload_n 0, 1) := by decide +kernel
theorem dX9_goAll_184 : decode cX9_goAll 184 = .ok (.getfield 38, 3) := by decide +kernel
theorem dX9_goAll_187 : decode cX9_goAll 187 = .ok (.bipush 9, 2) := by decide +kernel
theorem dX9_goAll_189 : decode cX9_goAll 189 = .ok (.iload 10, 2) := by decide +kernel
theorem dX9_goAll_191 : decode cX9_goAll 191 = .ok (.imul, 1) := by decide +kernel
theorem dX9_goAll_192 : decode cX9_goAll 192 = .ok (.iload 6, 2) := by decide +kernel
theorem dX9_goAll_194 : decode cX9_goAll 194 = .ok (.iadd, 1) := by decide +kernel
theorem dX9_goAll_195 : decode cX9_goAll 195 = .ok (.dup2, 1) := by decide +kernel
theorem dX9_goAll_196 : decode cX9_goAll 196 = .ok (.laload, 1) := by decide +kernel
theorem dX9_goAll_197 : decode cX9_goAll 197 = .ok (.iload 10, 2) := by decide +kernel
theorem dX9_goAll_199 : decode cX9_goAll 199 = .ok (.iload_n 1, 1) := by decide +kernel
theorem dX9_goAll_200 : decode cX9_goAll 200 = .ok (.if_icmp .ne 7, 3) := by decide +kernel
theorem dX9_goAll_203 : decode cX9_goAll 203 = .ok (.lconst 0, 1) := by decide +kernel
theorem dX9_goAll_204 : decode cX9_goAll 204 = .ok (.goto 5, 3) := by decide +kernel
theorem dX9_goAll_207 : decode cX9_goAll 207 = .ok (.lload 8, 2) := by decide +kernel
theorem dX9_goAll_209 : decode cX9_goAll 209 = .ok (.ladd, 1) := by decide +kernel
theorem dX9_goAll_210 : decode cX9_goAll 210 = .ok (.lastore, 1) := by decide +kernel
theorem dX9_goAll_211 : decode cX9_goAll 211 = .ok (.iinc 10 1, 3) := by decide +kernel
theorem dX9_goAll_214 : decode cX9_goAll 214 = .ok (.goto (-66), 3) := by decide +kernel
theorem dX9_goAll_217 : decode cX9_goAll 217 = .ok (.iinc 5 1, 3) := by decide +kernel
theorem dX9_goAll_220 : decode cX9_goAll 220 = .ok (.goto (-194), 3) := by decide +kernel
theorem dX9_goAll_223 : decode cX9_goAll 223 = .ok (.iconst 0, 1) := by decide +kernel
theorem dX9_goAll_224 : decode cX9_goAll 224 = .ok (.istore 5, 2) := by decide +kernel
theorem dX9_goAll_226 : decode cX9_goAll 226 = .ok (.iload 5, 2) := by decide +kernel
theorem dX9_goAll_228 : decode cX9_goAll 228 = .ok (.bipush 72, 2) := by decide +kernel
theorem dX9_goAll_230 : decode cX9_goAll 230 = .ok (.if_icmp .ge 23, 3) := by decide +kernel
theorem dX9_goAll_233 : decode cX9_goAll 233 = .ok (.aload_n 0, 1) := by decide +kernel
theorem dX9_goAll_234 : decode cX9_goAll 234 = .ok (.getfield 34, 3) := by decide +kernel
theorem dX9_goAll_237 : decode cX9_goAll 237 = .ok (.iload 5, 2) := by decide +kernel
theorem dX9_goAll_239 : decode cX9_goAll 239 = .ok (.aload_n 0, 1) := by decide +kernel
theorem dX9_goAll_240 : decode cX9_goAll 240 = .ok (.getfield 38, 3) := by decide +kernel
theorem dX9_goAll_243 : decode cX9_goAll 243 = .ok (.iload 5, 2) := by decide +kernel
theorem dX9_goAll_245 : decode cX9_goAll 245 = .ok (.laload, 1) := by decide +kernel
theorem dX9_goAll_246 : decode cX9_goAll 246 = .ok (.lastore, 1) := by decide +kernel
theorem dX9_goAll_247 : decode cX9_goAll 247 = .ok (.iinc 5 1, 3) := by decide +kernel
theorem dX9_goAll_250 : decode cX9_goAll 250 = .ok (.goto (-24), 3) := by decide +kernel
theorem dX9_goAll_253 : decode cX9_goAll 253 = .ok (.lload_n 3, 1) := by decide +kernel
theorem dX9_goAll_254 : decode cX9_goAll 254 = .ok (.lreturn, 1) := by decide +kernel
theorem dX9_beginWays_0 : decode cX9_beginWays 0 = .ok (.iconst 0, 1) := by decide +kernel
theorem dX9_beginWays_1 : decode cX9_beginWays 1 = .ok (.istore_n 2, 1) := by decide +kernel
theorem dX9_beginWays_2 : decode cX9_beginWays 2 = .ok (.iload_n 2, 1) := by decide +kernel
theorem dX9_beginWays_3 : decode cX9_beginWays 3 = .ok (.bipush 72, 2) := by decide +kernel
theorem dX9_beginWays_5 : decode cX9_beginWays 5 = .ok (.if_icmp .ge 16, 3) := by decide +kernel
theorem dX9_beginWays_8 : decode cX9_beginWays 8 = .ok (.aload_n 0, 1) := by decide +kernel
theorem dX9_beginWays_9 : decode cX9_beginWays 9 = .ok (.getfield 34, 3) := by decide +kernel
theorem dX9_beginWays_12 : decode cX9_beginWays 12 = .ok (.iload_n 2, 1) := by decide +kernel
theorem dX9_beginWays_13 : decode cX9_beginWays 13 = .ok (.lconst 0, 1) := by decide +kernel
theorem dX9_beginWays_14 : decode cX9_beginWays 14 = .ok (.lastore, 1) := by decide +kernel
theorem dX9_beginWays_15 : decode cX9_beginWays 15 = .ok (.iinc 2 1, 3) := by decide +kernel
theorem dX9_beginWays_18 : decode cX9_beginWays 18 = .ok (.goto (-16), 3) := by decide +kernel
theorem dX9_beginWays_21 : decode cX9_beginWays 21 = .ok (.aload_n 0, 1) := by decide +kernel
theorem dX9_beginWays_22 : decode cX9_beginWays 22 = .ok (.getfield 28, 3) := by decide +kernel
theorem dX9_beginWays_25 : decode cX9_beginWays 25 = .ok (.bipush 8, 2) := by decide +kernel
theorem dX9_beginWays_27 : decode cX9_beginWays 27 = .ok (.iload_n 1, 1) := by decide +kernel
theorem dX9_beginWays_28 : decode cX9_beginWays 28 = .ok (.imul, 1) := by decide +kernel
theorem dX9_beginWays_29 : decode cX9_beginWays 29 = .ok (.iconst 3, 1) := by decide +kernel
theorem dX9_beginWays_30 : decode cX9_beginWays 30 = .ok (.iadd, 1) := by decide +kernel
theorem dX9_beginWays_31 : decode cX9_beginWays 31 = .ok (.iaload, 1) := by decide +kernel
theorem dX9_beginWays_32 : decode cX9_beginWays 32 = .ok (.istore_n 2, 1) := by decide +kernel
theorem dX9_beginWays_33 : decode cX9_beginWays 33 = .ok (.aload_n 0, 1) := by decide +kernel
theorem dX9_beginWays_34 : decode cX9_beginWays 34 = .ok (.getfield 34, 3) := by decide +kernel
theorem dX9_beginWays_37 : decode cX9_beginWays 37 = .ok (.bipush 9, 2) := by decide +kernel
theorem dX9_beginWays_39 : decode cX9_beginWays 39 = .ok (.aload_n 0, 1) := by decide +kernel
theorem dX9_beginWays_40 : decode cX9_beginWays 40 = .ok (.getfield 28, 3) := by decide +kernel
theorem dX9_beginWays_43 : decode cX9_beginWays 43 = .ok (.bipush 8, 2) := by decide +kernel
theorem dX9_beginWays_45 : decode cX9_beginWays 45 = .ok (.iload_n 1, 1) := by decide +kernel
theorem dX9_beginWays_46 : decode cX9_beginWays 46 = .ok (.imul, 1) := by decide +kernel
theorem dX9_beginWays_47 : decode cX9_beginWays 47 = .ok (.iconst 2, 1) := by decide +kernel
theorem dX9_beginWays_48 : decode cX9_beginWays 48 = .ok (.iadd, 1) := by decide +kernel
theorem dX9_beginWays_49 : decode cX9_beginWays 49 = .ok (.iaload, 1) := by decide +kernel
theorem dX9_beginWays_50 : decode cX9_beginWays 50 = .ok (.imul, 1) := by decide +kernel
theorem dX9_beginWays_51 : decode cX9_beginWays 51 = .ok (.iload_n 2, 1) := by decide +kernel
theorem dX9_beginWays_52 : decode cX9_beginWays 52 = .ok (.iconst (-1), 1) := by decide +kernel
theorem dX9_beginWays_53 : decode cX9_beginWays 53 = .ok (.if_icmp .ne 8, 3) := by decide +kernel
theorem dX9_beginWays_56 : decode cX9_beginWays 56 = .ok (.bipush 8, 2) := by decide +kernel
theorem dX9_beginWays_58 : decode cX9_beginWays 58 = .ok (.goto 4, 3) := by decide +kernel
theorem dX9_beginWays_61 : decode cX9_beginWays 61 = .ok (.iload_n 2, 1) := by decide +kernel
theorem dX9_beginWays_62 : decode cX9_beginWays 62 = .ok (.iadd, 1) := by decide +kernel
theorem dX9_beginWays_63 : decode cX9_beginWays 63 = .ok (.lconst 1, 1) := by decide +kernel
theorem dX9_beginWays_64 : decode cX9_beginWays 64 = .ok (.lastore, 1) := by decide +kernel
theorem dX9_beginWays_65 : decode cX9_beginWays 65 = .ok (.return_, 1) := by decide +kernel
theorem dX9_layWays_0 : decode cX9_layWays 0 = .ok (.aload_n 0, 1) := by decide +kernel
theorem dX9_layWays_1 : decode cX9_layWays 1 = .ok (.iload_n 1, 1) := by decide +kernel
theorem dX9_layWays_2 : decode cX9_layWays 2 = .ok (.invokevirtual 231, 3) := by decide +kernel
theorem dX9_layWays_5 : decode cX9_layWays 5 = .ok (.iconst 1, 1) := by decide +kernel
theorem dX9_layWays_6 : decode cX9_layWays 6 = .ok (.istore_n 2, 1) := by decide +kernel
theorem dX9_layWays_7 : decode cX9_layWays 7 = .ok (.iload_n 2, 1) := by decide +kernel
theorem dX9_layWays_8 : decode cX9_layWays 8 = .ok (.bipush 9, 2) := by decide +kernel
theorem dX9_layWays_10 : decode cX9_layWays 10 = .ok (.if_icmp .ge 31, 3) := by decide +kernel
theorem dX9_layWays_13 : decode cX9_layWays 13 = .ok (.aload_n 0, 1) := by decide +kernel
theorem dX9_layWays_14 : decode cX9_layWays 14 = .ok (.getfield 41, 3) := by decide +kernel
theorem dX9_layWays_17 : decode cX9_layWays 17 = .ok (.iload_n 2, 1) := by decide +kernel
theorem dX9_layWays_18 : decode cX9_layWays 18 = .ok (.aload_n 0, 1) := by decide +kernel
theorem dX9_layWays_19 : decode cX9_layWays 19 = .ok (.aload_n 0, 1) := by decide +kernel
theorem dX9_layWays_20 : decode cX9_layWays 20 = .ok (.getfield 28, 3) := by decide +kernel
theorem dX9_layWays_23 : decode cX9_layWays 23 = .ok (.bipush 8, 2) := by decide +kernel
theorem dX9_layWays_25 : decode cX9_layWays 25 = .ok (.iload_n 1, 1) := by decide +kernel
theorem dX9_layWays_26 : decode cX9_layWays 26 = .ok (.imul, 1) := by decide +kernel
theorem dX9_layWays_27 : decode cX9_layWays 27 = .ok (.iconst 1, 1) := by decide +kernel
theorem dX9_layWays_28 : decode cX9_layWays 28 = .ok (.iadd, 1) := by decide +kernel
theorem dX9_layWays_29 : decode cX9_layWays 29 = .ok (.iaload, 1) := by decide +kernel
theorem dX9_layWays_30 : decode cX9_layWays 30 = .ok (.iconst 0, 1) := by decide +kernel
theorem dX9_layWays_31 : decode cX9_layWays 31 = .ok (.invokevirtual 235, 3) := by decide +kernel
theorem dX9_layWays_34 : decode cX9_layWays 34 = .ok (.lastore, 1) := by decide +kernel
theorem dX9_layWays_35 : decode cX9_layWays 35 = .ok (.iinc 2 1, 3) := by decide +kernel
theorem dX9_layWays_38 : decode cX9_layWays 38 = .ok (.goto (-31), 3) := by decide +kernel
theorem dX9_layWays_41 : decode cX9_layWays 41 = .ok (.return_, 1) := by decide +kernel
theorem dX9_ways_0 : decode cX9_ways 0 = .ok (.aload_n 0, 1) := by decide +kernel
theorem dX9_ways_1 : decode cX9_ways 1 = .ok (.iload_n 1, 1) := by decide +kernel
theorem dX9_ways_2 : decode cX9_ways 2 = .ok (.invokevirtual 182, 3) := by decide +kernel
theorem dX9_ways_5 : decode cX9_ways 5 = .ok (.ifCond .ne 6, 3) := by decide +kernel
theorem dX9_ways_8 : decode cX9_ways 8 = .ok (.bipush (-101), 2) := by decide +kernel
theorem dX9_ways_10 : decode cX9_ways 10 = .ok (.ireturn, 1) := by decide +kernel
theorem dX9_ways_11 : decode cX9_ways 11 = .ok (.aload_n 0, 1) := by decide +kernel
theorem dX9_ways_12 : decode cX9_ways 12 = .ok (.iload_n 1, 1) := by decide +kernel
theorem dX9_ways_13 : decode cX9_ways 13 = .ok (.invokevirtual 161, 3) := by decide +kernel
theorem dX9_ways_16 : decode cX9_ways 16 = .ok (.ifCond .ne 6, 3) := by decide +kernel
theorem dX9_ways_19 : decode cX9_ways 19 = .ok (.bipush (-103), 2) := by decide +kernel
theorem dX9_ways_21 : decode cX9_ways 21 = .ok (.ireturn, 1) := by decide +kernel
theorem dX9_ways_22 : decode cX9_ways 22 = .ok (.iload_n 2, 1) := by decide +kernel
theorem dX9_ways_23 : decode cX9_ways 23 = .ok (.i2l, 1) := by decide +kernel
theorem dX9_ways_24 : decode cX9_ways 24 = .ok (.lconst 1, 1) := by decide +kernel
theorem dX9_ways_25 : decode cX9_ways 25 = .ok (.ldc2_w 180, 3) := by decide +kernel
theorem dX9_ways_28 : decode cX9_ways 28 = .ok (.invokestatic 108, 3) := by decide +kernel
theorem dX9_ways_31 : decode cX9_ways 31 = .ok (.ifCond .ne 6, 3) := by decide +kernel
theorem dX9_ways_34 : decode cX9_ways 34 = .ok (.bipush (-102), 2) := by decide +kernel
theorem dX9_ways_36 : decode cX9_ways 36 = .ok (.ireturn, 1) := by decide +kernel
theorem dX9_ways_37 : decode cX9_ways 37 = .ok (.aload_n 0, 1) := by decide +kernel
theorem dX9_ways_38 : decode cX9_ways 38 = .ok (.iload_n 1, 1) := by decide +kernel
theorem dX9_ways_39 : decode cX9_ways 39 = .ok (.invokevirtual 239, 3) := by decide +kernel
theorem dX9_ways_42 : decode cX9_ways 42 = .ok (.aload_n 0, 1) := by decide +kernel
theorem dX9_ways_43 : decode cX9_ways 43 = .ok (.getfield 41, 3) := by decide +kernel
theorem dX9_ways_46 : decode cX9_ways 46 = .ok (.iload_n 2, 1) := by decide +kernel
theorem dX9_ways_47 : decode cX9_ways 47 = .ok (.laload, 1) := by decide +kernel
theorem dX9_ways_48 : decode cX9_ways 48 = .ok (.l2i, 1) := by decide +kernel
theorem dX9_ways_49 : decode cX9_ways 49 = .ok (.ireturn, 1) := by decide +kernel
theorem dX9_soonestOf_0 : decode cX9_soonestOf 0 = .ok (.aload_n 0, 1) := by decide +kernel
theorem dX9_soonestOf_1 : decode cX9_soonestOf 1 = .ok (.iload_n 1, 1) := by decide +kernel
theorem dX9_soonestOf_2 : decode cX9_soonestOf 2 = .ok (.invokevirtual 239, 3) := by decide +kernel
theorem dX9_soonestOf_5 : decode cX9_soonestOf 5 = .ok (.iconst 1, 1) := by decide +kernel
theorem dX9_soonestOf_6 : decode cX9_soonestOf 6 = .ok (.istore_n 2, 1) := by decide +kernel
theorem dX9_soonestOf_7 : decode cX9_soonestOf 7 = .ok (.iload_n 2, 1) := by decide +kernel
theorem dX9_soonestOf_8 : decode cX9_soonestOf 8 = .ok (.bipush 9, 2) := by decide +kernel
theorem dX9_soonestOf_10 : decode cX9_soonestOf 10 = .ok (.if_icmp .ge 22, 3) := by decide +kernel
theorem dX9_soonestOf_13 : decode cX9_soonestOf 13 = .ok (.aload_n 0, 1) := by decide +kernel
theorem dX9_soonestOf_14 : decode cX9_soonestOf 14 = .ok (.getfield 41, 3) := by decide +kernel
theorem dX9_soonestOf_17 : decode cX9_soonestOf 17 = .ok (.iload_n 2, 1) := by decide +kernel
theorem dX9_soonestOf_18 : decode cX9_soonestOf 18 = .ok (.laload, 1) := by decide +kernel
theorem dX9_soonestOf_19 : decode cX9_soonestOf 19 = .ok (.lconst 0, 1) := by decide +kernel
theorem dX9_soonestOf_20 : decode cX9_soonestOf 20 = .ok (.lcmp, 1) := by decide +kernel
theorem dX9_soonestOf_21 : decode cX9_soonestOf 21 = .ok (.ifCond .le 5, 3) := by decide +kernel
theorem dX9_soonestOf_24 : decode cX9_soonestOf 24 = .ok (.iload_n 2, 1) := by decide +kernel
theorem dX9_soonestOf_25 : decode cX9_soonestOf 25 = .ok (.ireturn, 1) := by decide +kernel
theorem dX9_soonestOf_26 : decode cX9_soonestOf 26 = .ok (.iinc 2 1, 3) := by decide +kernel
theorem dX9_soonestOf_29 : decode cX9_soonestOf 29 = .ok (.goto (-22), 3) := by decide +kernel
theorem dX9_soonestOf_32 : decode cX9_soonestOf 32 = .ok (.iconst (-1), 1) := by decide +kernel
theorem dX9_soonestOf_33 : decode cX9_soonestOf 33 = .ok (.ireturn, 1) := by decide +kernel
theorem dX9_soonest_0 : decode cX9_soonest 0 = .ok (.aload_n 0, 1) := by decide +kernel
theorem dX9_soonest_1 : decode cX9_soonest 1 = .ok (.iload_n 1, 1) := by decide +kernel
theorem dX9_soonest_2 : decode cX9_soonest 2 = .ok (.invokevirtual 182, 3) := by decide +kernel
theorem dX9_soonest_5 : decode cX9_soonest 5 = .ok (.ifCond .ne 6, 3) := by decide +kernel
theorem dX9_soonest_8 : decode cX9_soonest 8 = .ok (.bipush (-101), 2) := by decide +kernel
theorem dX9_soonest_10 : decode cX9_soonest 10 = .ok (.ireturn, 1) := by decide +kernel
theorem dX9_soonest_11 : decode cX9_soonest 11 = .ok (.aload_n 0, 1) := by decide +kernel
theorem dX9_soonest_12 : decode cX9_soonest 12 = .ok (.iload_n 1, 1) := by decide +kernel
theorem dX9_soonest_13 : decode cX9_soonest 13 = .ok (.invokevirtual 161, 3) := by decide +kernel
theorem dX9_soonest_16 : decode cX9_soonest 16 = .ok (.ifCond .eq 11, 3) := by decide +kernel
theorem dX9_soonest_19 : decode cX9_soonest 19 = .ok (.aload_n 0, 1) := by decide +kernel
theorem dX9_soonest_20 : decode cX9_soonest 20 = .ok (.iload_n 1, 1) := by decide +kernel
theorem dX9_soonest_21 : decode cX9_soonest 21 = .ok (.invokevirtual 242, 3) := by decide +kernel
theorem dX9_soonest_24 : decode cX9_soonest 24 = .ok (.goto 5, 3) := by decide +kernel
theorem dX9_soonest_27 : decode cX9_soonest 27 = .ok (.bipush (-103), 2) := by decide +kernel
theorem dX9_soonest_29 : decode cX9_soonest 29 = .ok (.ireturn, 1) := by decide +kernel
theorem dX9_term_0 : decode cX9_term 0 = .ok (.lload_n 0, 1) := by decide +kernel
theorem dX9_term_1 : decode cX9_term 1 = .ok (.lstore 5, 2) := by decide +kernel
theorem dX9_term_3 : decode cX9_term 3 = .ok (.lload_n 2, 1) := by decide +kernel
theorem dX9_term_4 : decode cX9_term 4 = .ok (.lstore 7, 2) := by decide +kernel
theorem dX9_term_6 : decode cX9_term 6 = .ok (.lload 5, 2) := by decide +kernel
theorem dX9_term_8 : decode cX9_term 8 = .ok (.lconst 0, 1) := by decide +kernel
theorem dX9_term_9 : decode cX9_term 9 = .ok (.lcmp, 1) := by decide +kernel
theorem dX9_term_10 : decode cX9_term 10 = .ok (.ifCond .eq 21, 3) := by decide +kernel
theorem dX9_term_13 : decode cX9_term 13 = .ok (.lload 7, 2) := by decide +kernel
theorem dX9_term_15 : decode cX9_term 15 = .ok (.lload 5, 2) := by decide +kernel
theorem dX9_term_17 : decode cX9_term 17 = .ok (.lrem, 1) := by decide +kernel
theorem dX9_term_18 : decode cX9_term 18 = .ok (.lstore 9, 2) := by decide +kernel
theorem dX9_term_20 : decode cX9_term 20 = .ok (.lload 5, 2) := by decide +kernel
theorem dX9_term_22 : decode cX9_term 22 = .ok (.lstore 7, 2) := by decide +kernel
theorem dX9_term_24 : decode cX9_term 24 = .ok (.lload 9, 2) := by decide +kernel
theorem dX9_term_26 : decode cX9_term 26 = .ok (.lstore 5, 2) := by decide +kernel
theorem dX9_term_28 : decode cX9_term 28 = .ok (.goto (-22), 3) := by decide +kernel
theorem dX9_term_31 : decode cX9_term 31 = .ok (.iload 4, 2) := by decide +kernel
theorem dX9_term_33 : decode cX9_term 33 = .ok (.ifCond .ne 10, 3) := by decide +kernel
theorem dX9_term_36 : decode cX9_term 36 = .ok (.lload_n 0, 1) := by decide +kernel
theorem dX9_term_37 : decode cX9_term 37 = .ok (.lload 7, 2) := by decide +kernel
theorem dX9_term_39 : decode cX9_term 39 = .ok (.ldiv, 1) := by decide +kernel
theorem dX9_term_40 : decode cX9_term 40 = .ok (.goto 7, 3) := by decide +kernel
theorem dX9_term_43 : decode cX9_term 43 = .ok (.lload_n 2, 1) := by decide +kernel
theorem dX9_term_44 : decode cX9_term 44 = .ok (.lload 7, 2) := by decide +kernel
theorem dX9_term_46 : decode cX9_term 46 = .ok (.ldiv, 1) := by decide +kernel
theorem dX9_term_47 : decode cX9_term 47 = .ok (.lreturn, 1) := by decide +kernel
theorem dX9_likely_0 : decode cX9_likely 0 = .ok (.aload_n 0, 1) := by decide +kernel
theorem dX9_likely_1 : decode cX9_likely 1 = .ok (.iload_n 1, 1) := by decide +kernel
theorem dX9_likely_2 : decode cX9_likely 2 = .ok (.invokevirtual 182, 3) := by decide +kernel
theorem dX9_likely_5 : decode cX9_likely 5 = .ok (.ifCond .ne 7, 3) := by decide +kernel
theorem dX9_likely_8 : decode cX9_likely 8 = .ok (.ldc2_w 245, 3) := by decide +kernel
theorem dX9_likely_11 : decode cX9_likely 11 = .ok (.lreturn, 1) := by decide +kernel
theorem dX9_likely_12 : decode cX9_likely 12 = .ok (.aload_n 0, 1) := by decide +kernel
theorem dX9_likely_13 : decode cX9_likely 13 = .ok (.iload_n 1, 1) := by decide +kernel
theorem dX9_likely_14 : decode cX9_likely 14 = .ok (.invokevirtual 161, 3) := by decide +kernel
theorem dX9_likely_17 : decode cX9_likely 17 = .ok (.ifCond .ne 7, 3) := by decide +kernel
theorem dX9_likely_20 : decode cX9_likely 20 = .ok (.ldc2_w 247, 3) := by decide +kernel
theorem dX9_likely_23 : decode cX9_likely 23 = .ok (.lreturn, 1) := by decide +kernel
theorem dX9_likely_24 : decode cX9_likely 24 = .ok (.iload_n 2, 1) := by decide +kernel
theorem dX9_likely_25 : decode cX9_likely 25 = .ok (.i2l, 1) := by decide +kernel
theorem dX9_likely_26 : decode cX9_likely 26 = .ok (.lconst 1, 1) := by decide +kernel
theorem dX9_likely_27 : decode cX9_likely 27 = .ok (.ldc2_w 249, 3) := by decide +kernel
theorem dX9_likely_30 : decode cX9_likely 30 = .ok (.invokestatic 108, 3) := by decide +kernel
theorem dX9_likely_33 : decode cX9_likely 33 = .ok (.ifCond .eq 13, 3) := by decide +kernel
theorem dX9_likely_36 : decode cX9_likely 36 = .ok (.iload_n 3, 1) := by decide +kernel
theorem dX9_likely_37 : decode cX9_likely 37 = .ok (.i2l, 1) := by decide +kernel
theorem dX9_likely_38 : decode cX9_likely 38 = .ok (.lconst 0, 1) := by decide +kernel
theorem dX9_likely_39 : decode cX9_likely 39 = .ok (.lconst 1, 1) := by decide +kernel
theorem dX9_likely_40 : decode cX9_likely 40 = .ok (.invokestatic 108, 3) := by decide +kernel
theorem dX9_likely_43 : decode cX9_likely 43 = .ok (.ifCond .ne 7, 3) := by decide +kernel
theorem dX9_likely_46 : decode cX9_likely 46 = .ok (.ldc2_w 251, 3) := by decide +kernel
theorem dX9_likely_49 : decode cX9_likely 49 = .ok (.lreturn, 1) := by decide +kernel
theorem dX9_likely_50 : decode cX9_likely 50 = .ok (.aload_n 0, 1) := by decide +kernel
theorem dX9_likely_51 : decode cX9_likely 51 = .ok (.iload_n 1, 1) := by decide +kernel
theorem dX9_likely_52 : decode cX9_likely 52 = .ok (.invokevirtual 231, 3) := by decide +kernel
theorem dX9_likely_55 : decode cX9_likely 55 = .ok (.lconst 0, 1) := by decide +kernel
theorem dX9_likely_56 : decode cX9_likely 56 = .ok (.lstore 4, 2) := by decide +kernel
theorem dX9_likely_58 : decode cX9_likely 58 = .ok (.lconst 1, 1) := by decide +kernel
theorem dX9_likely_59 : decode cX9_likely 59 = .ok (.lstore 6, 2) := by decide +kernel
theorem dX9_likely_61 : decode cX9_likely 61 = .ok (.iconst 0, 1) := by decide +kernel
theorem dX9_likely_62 : decode cX9_likely 62 = .ok (.istore 8, 2) := by decide +kernel
theorem dX9_likely_64 : decode cX9_likely 64 = .ok (.iload 8, 2) := by decide +kernel
theorem dX9_likely_66 : decode cX9_likely 66 = .ok (.iload_n 2, 1) := by decide +kernel
theorem dX9_likely_67 : decode cX9_likely 67 = .ok (.if_icmp .ge 46, 3) := by decide +kernel
theorem dX9_likely_70 : decode cX9_likely 70 = .ok (.aload_n 0, 1) := by decide +kernel
theorem dX9_likely_71 : decode cX9_likely 71 = .ok (.aload_n 0, 1) := by decide +kernel
theorem dX9_likely_72 : decode cX9_likely 72 = .ok (.getfield 28, 3) := by decide +kernel
theorem dX9_likely_75 : decode cX9_likely 75 = .ok (.bipush 8, 2) := by decide +kernel
theorem dX9_likely_77 : decode cX9_likely 77 = .ok (.iload_n 1, 1) := by decide +kernel
theorem dX9_likely_78 : decode cX9_likely 78 = .ok (.imul, 1) := by decide +kernel
theorem dX9_likely_79 : decode cX9_likely 79 = .ok (.iconst 1, 1) := by decide +kernel
theorem dX9_likely_80 : decode cX9_likely 80 = .ok (.iadd, 1) := by decide +kernel
theorem dX9_likely_81 : decode cX9_likely 81 = .ok (.iaload, 1) := by decide +kernel
theorem dX9_likely_82 : decode cX9_likely 82 = .ok (.iconst 1, 1) := by decide +kernel
theorem dX9_likely_83 : decode cX9_likely 83 = .ok (.invokevirtual 235, 3) := by decide +kernel
theorem dX9_likely_86 : decode cX9_likely 86 = .ok (.lstore 9, 2) := by decide +kernel
theorem dX9_likely_88 : decode cX9_likely 88 = .ok (.ldc2_w 253, 3) := by decide +kernel
theorem dX9_likely_91 : decode cX9_likely 91 = .ok (.lload 4, 2) := by decide +kernel
theorem dX9_likely_93 : decode cX9_likely 93 = .ok (.lmul, 1) := by decide +kernel
theorem dX9_likely_94 : decode cX9_likely 94 = .ok (.lload 9, 2) := by decide +kernel
theorem dX9_likely_96 : decode cX9_likely 96 = .ok (.ladd, 1) := by decide +kernel
theorem dX9_likely_97 : decode cX9_likely 97 = .ok (.lstore 4, 2) := by decide +kernel
theorem dX9_likely_99 : decode cX9_likely 99 = .ok (.lload 6, 2) := by decide +kernel
theorem dX9_likely_101 : decode cX9_likely 101 = .ok (.ldc2_w 253, 3) := by decide +kernel
theorem dX9_likely_104 : decode cX9_likely 104 = .ok (.lmul, 1) := by decide +kernel
theorem dX9_likely_105 : decode cX9_likely 105 = .ok (.lstore 6, 2) := by decide +kernel
theorem dX9_likely_107 : decode cX9_likely 107 = .ok (.iinc 8 1, 3) := by decide +kernel
theorem dX9_likely_110 : decode cX9_likely 110 = .ok (.goto (-46), 3) := by decide +kernel
theorem dX9_likely_113 : decode cX9_likely 113 = .ok (.lload 4, 2) := by decide +kernel
theorem dX9_likely_115 : decode cX9_likely 115 = .ok (.lload 6, 2) := by decide +kernel
theorem dX9_likely_117 : decode cX9_likely 117 = .ok (.iload_n 3, 1) := by decide +kernel
theorem dX9_likely_118 : decode cX9_likely 118 = .ok (.invokestatic 255, 3) := by decide +kernel
theorem dX9_likely_121 : decode cX9_likely 121 = .ok (.lreturn, 1) := by decide +kernel
theorem dX9_trapsOf_0 : decode cX9_trapsOf 0 = .ok (.iconst 0, 1) := by decide +kernel
theorem dX9_trapsOf_1 : decode cX9_trapsOf 1 = .ok (.istore_n 1, 1) := by decide +kernel
theorem dX9_trapsOf_2 : decode cX9_trapsOf 2 = .ok (.iconst 0, 1) := by decide +kernel
theorem dX9_trapsOf_3 : decode cX9_trapsOf 3 = .ok (.istore_n 2, 1) := by decide +kernel
theorem dX9_trapsOf_4 : decode cX9_trapsOf 4 = .ok (.iload_n 2, 1) := by decide +kernel
theorem dX9_trapsOf_5 : decode cX9_trapsOf 5 = .ok (.aload_n 0, 1) := by decide +kernel
theorem dX9_trapsOf_6 : decode cX9_trapsOf 6 = .ok (.getfield 144, 3) := by decide +kernel
theorem dX9_trapsOf_9 : decode cX9_trapsOf 9 = .ok (.if_icmp .ge 32, 3) := by decide +kernel
theorem dX9_trapsOf_12 : decode cX9_trapsOf 12 = .ok (.iload_n 1, 1) := by decide +kernel
theorem dX9_trapsOf_13 : decode cX9_trapsOf 13 = .ok (.aload_n 0, 1) := by decide +kernel
theorem dX9_trapsOf_14 : decode cX9_trapsOf 14 = .ok (.getfield 16, 3) := by decide +kernel
theorem dX9_trapsOf_17 : decode cX9_trapsOf 17 = .ok (.iload_n 2, 1) := by decide +kernel
theorem dX9_trapsOf_18 : decode cX9_trapsOf 18 = .ok (.iaload, 1) := by decide +kernel
theorem dX9_trapsOf_19 : decode cX9_trapsOf 19 = .ok (.invokestatic 210, 3) := by decide +kernel
theorem dX9_trapsOf_22 : decode cX9_trapsOf 22 = .ok (.iconst 1, 1) := by decide +kernel
theorem dX9_trapsOf_23 : decode cX9_trapsOf 23 = .ok (.if_icmp .ne 9, 3) := by decide +kernel
theorem dX9_trapsOf_26 : decode cX9_trapsOf 26 = .ok (.iconst 1, 1) := by decide +kernel
theorem dX9_trapsOf_27 : decode cX9_trapsOf 27 = .ok (.iload_n 2, 1) := by decide +kernel
theorem dX9_trapsOf_28 : decode cX9_trapsOf 28 = .ok (.ishl, 1) := by decide +kernel
theorem dX9_trapsOf_29 : decode cX9_trapsOf 29 = .ok (.goto 4, 3) := by decide +kernel
theorem dX9_trapsOf_32 : decode cX9_trapsOf 32 = .ok (.iconst 0, 1) := by decide +kernel
theorem dX9_trapsOf_33 : decode cX9_trapsOf 33 = .ok (.ior, 1) := by decide +kernel
theorem dX9_trapsOf_34 : decode cX9_trapsOf 34 = .ok (.istore_n 1, 1) := by decide +kernel
theorem dX9_trapsOf_35 : decode cX9_trapsOf 35 = .ok (.iinc 2 1, 3) := by decide +kernel
theorem dX9_trapsOf_38 : decode cX9_trapsOf 38 = .ok (.goto (-34), 3) := by decide +kernel
theorem dX9_trapsOf_41 : decode cX9_trapsOf 41 = .ok (.iload_n 1, 1) := by decide +kernel
theorem dX9_trapsOf_42 : decode cX9_trapsOf 42 = .ok (.ireturn, 1) := by decide +kernel
theorem dX9_traps_0 : decode cX9_traps 0 = .ok (.aload_n 0, 1) := by decide +kernel
theorem dX9_traps_1 : decode cX9_traps 1 = .ok (.invokevirtual 259, 3) := by decide +kernel
theorem dX9_traps_4 : decode cX9_traps 4 = .ok (.ireturn, 1) := by decide +kernel
theorem dX9_layRound_0 : decode cX9_layRound 0 = .ok (.iconst 1, 1) := by decide +kernel
theorem dX9_layRound_1 : decode cX9_layRound 1 = .ok (.aload_n 0, 1) := by decide +kernel
theorem dX9_layRound_2 : decode cX9_layRound 2 = .ok (.getfield 144, 3) := by decide +kernel
theorem dX9_layRound_5 : decode cX9_layRound 5 = .ok (.ishl, 1) := by decide +kernel
theorem dX9_layRound_6 : decode cX9_layRound 6 = .ok (.istore_n 1, 1) := by decide +kernel
theorem dX9_layRound_7 : decode cX9_layRound 7 = .ok (.iconst 0, 1) := by decide +kernel
theorem dX9_layRound_8 : decode cX9_layRound 8 = .ok (.istore_n 2, 1) := by decide +kernel
theorem dX9_layRound_9 : decode cX9_layRound 9 = .ok (.iload_n 2, 1) := by decide +kernel
theorem dX9_layRound_10 : decode cX9_layRound 10 = .ok (.iload_n 1, 1) := by decide +kernel
theorem dX9_layRound_11 : decode cX9_layRound 11 = .ok (.if_icmp .ge 36, 3) := by decide +kernel
theorem dX9_layRound_14 : decode cX9_layRound 14 = .ok (.aload_n 0, 1) := by decide +kernel
theorem dX9_layRound_15 : decode cX9_layRound 15 = .ok (.getfield 44, 3) := by decide +kernel
theorem dX9_layRound_18 : decode cX9_layRound 18 = .ok (.sipush 256, 3) := by decide +kernel
theorem dX9_layRound_21 : decode cX9_layRound 21 = .ok (.aload_n 0, 1) := by decide +kernel
theorem dX9_layRound_22 : decode cX9_layRound 22 = .ok (.getfield 144, 3) := by decide +kernel
theorem dX9_layRound_25 : decode cX9_layRound 25 = .ok (.imul, 1) := by decide +kernel
theorem dX9_layRound_26 : decode cX9_layRound 26 = .ok (.iload_n 2, 1) := by decide +kernel
theorem dX9_layRound_27 : decode cX9_layRound 27 = .ok (.iadd, 1) := by decide +kernel
theorem dX9_layRound_28 : decode cX9_layRound 28 = .ok (.iload_n 2, 1) := by decide +kernel
theorem dX9_layRound_29 : decode cX9_layRound 29 = .ok (.iload_n 1, 1) := by decide +kernel
theorem dX9_layRound_30 : decode cX9_layRound 30 = .ok (.iconst 1, 1) := by decide +kernel
theorem dX9_layRound_31 : decode cX9_layRound 31 = .ok (.isub, 1) := by decide +kernel
theorem dX9_layRound_32 : decode cX9_layRound 32 = .ok (.if_icmp .ne 7, 3) := by decide +kernel
theorem dX9_layRound_35 : decode cX9_layRound 35 = .ok (.iconst 0, 1) := by decide +kernel
theorem dX9_layRound_36 : decode cX9_layRound 36 = .ok (.goto 4, 3) := by decide +kernel
theorem dX9_layRound_39 : decode cX9_layRound 39 = .ok (.iconst (-1), 1) := by decide +kernel
theorem dX9_layRound_40 : decode cX9_layRound 40 = .ok (.iastore, 1) := by decide +kernel
theorem dX9_layRound_41 : decode cX9_layRound 41 = .ok (.iinc 2 1, 3) := by decide +kernel
theorem dX9_layRound_44 : decode cX9_layRound 44 = .ok (.goto (-35), 3) := by decide +kernel
theorem dX9_layRound_47 : decode cX9_layRound 47 = .ok (.aload_n 0, 1) := by decide +kernel
theorem dX9_layRound_48 : decode cX9_layRound 48 = .ok (.getfield 144, 3) := by decide +kernel
theorem dX9_layRound_51 : decode cX9_layRound 51 = .ok (.iconst 1, 1) := by decide +kernel
theorem dX9_layRound_52 : decode cX9_layRound 52 = .ok (.isub, 1) := by decide +kernel
theorem dX9_layRound_53 : decode cX9_layRound 53 = .ok (.istore_n 2, 1) := by decide +kernel
theorem dX9_layRound_54 : decode cX9_layRound 54 = .ok (.iload_n 2, 1) := by decide +kernel
theorem dX9_layRound_55 : decode cX9_layRound 55 = .ok (.ifCond .lt 166, 3) := by decide +kernel
theorem dX9_layRound_58 : decode cX9_layRound 58 = .ok (.iconst 0, 1) := by decide +kernel
theorem dX9_layRound_59 : decode cX9_layRound 59 = .ok (.istore_n 3, 1) := by decide +kernel
theorem dX9_layRound_60 : decode cX9_layRound 60 = .ok (.iload_n 3, 1) := by decide +kernel
theorem dX9_layRound_61 : decode cX9_layRound 61 = .ok (.iload_n 1, 1) := by decide +kernel
theorem dX9_layRound_62 : decode cX9_layRound 62 = .ok (.if_icmp .ge 153, 3) := by decide +kernel
theorem dX9_layRound_65 : decode cX9_layRound 65 = .ok (.iconst (-1), 1) := by decide +kernel
theorem dX9_layRound_66 : decode cX9_layRound 66 = .ok (.istore 4, 2) := by decide +kernel
theorem dX9_layRound_68 : decode cX9_layRound 68 = .ok (.iconst 0, 1) := by decide +kernel
theorem dX9_layRound_69 : decode cX9_layRound 69 = .ok (.istore 5, 2) := by decide +kernel
theorem dX9_layRound_71 : decode cX9_layRound 71 = .ok (.iload 5, 2) := by decide +kernel
theorem dX9_layRound_73 : decode cX9_layRound 73 = .ok (.aload_n 0, 1) := by decide +kernel
theorem dX9_layRound_74 : decode cX9_layRound 74 = .ok (.getfield 144, 3) := by decide +kernel
theorem dX9_layRound_77 : decode cX9_layRound 77 = .ok (.if_icmp .ge 118, 3) := by decide +kernel
theorem dX9_layRound_80 : decode cX9_layRound 80 = .ok (.aload_n 0, 1) := by decide +kernel
theorem dX9_layRound_81 : decode cX9_layRound 81 = .ok (.getfield 16, 3) := by decide +kernel
theorem dX9_layRound_84 : decode cX9_layRound 84 = .ok (.iload_n 2, 1) := by decide +kernel
theorem dX9_layRound_85 : decode cX9_layRound 85 = .ok (.iaload, 1) := by decide +kernel
theorem dX9_layRound_86 : decode cX9_layRound 86 = .ok (.iload 5, 2) := by decide +kernel
theorem dX9_layRound_88 : decode cX9_layRound 88 = .ok (.ishr, 1) := by decide +kernel
theorem dX9_layRound_89 : decode cX9_layRound 89 = .ok (.iconst 1, 1) := by decide +kernel
theorem dX9_layRound_90 : decode cX9_layRound 90 = .ok (.iand, 1) := by decide +kernel
theorem dX9_layRound_91 : decode cX9_layRound 91 = .ok (.iconst 1, 1) := by decide +kernel
theorem dX9_layRound_92 : decode cX9_layRound 92 = .ok (.if_icmp .ne 16, 3) := by decide +kernel
theorem dX9_layRound_95 : decode cX9_layRound 95 = .ok (.iload_n 3, 1) := by decide +kernel
theorem dX9_layRound_96 : decode cX9_layRound 96 = .ok (.iload 5, 2) := by decide +kernel
theorem dX9_layRound_98 : decode cX9_layRound 98 = .ok (.ishr, 1) := by decide +kernel
theorem dX9_layRound_99 : decode cX9_layRound 99 = .ok (.iconst 1, 1) := by decide +kernel
theorem dX9_layRound_100 : decode cX9_layRound 100 = .ok (.iand, 1) := by decide +kernel
theorem dX9_layRound_101 : decode cX9_layRound 101 = .ok (.ifCond .ne 7, 3) := by decide +kernel
theorem dX9_layRound_104 : decode cX9_layRound 104 = .ok (.iconst 1, 1) := by decide +kernel
theorem dX9_layRound_105 : decode cX9_layRound 105 = .ok (.goto 4, 3) := by decide +kernel
theorem dX9_layRound_108 : decode cX9_layRound 108 = .ok (.iconst 0, 1) := by decide +kernel
theorem dX9_layRound_109 : decode cX9_layRound 109 = .ok (.istore 6, 2) := by decide +kernel
theorem dX9_layRound_111 : decode cX9_layRound 111 = .ok (.iload 6, 2) := by decide +kernel
theorem dX9_layRound_113 : decode cX9_layRound 113 = .ok (.ifCond .eq 25, 3) := by decide +kernel
theorem dX9_layRound_116 : decode cX9_layRound 116 = .ok (.aload_n 0, 1) := by decide +kernel
theorem dX9_layRound_117 : decode cX9_layRound 117 = .ok (.getfield 44, 3) := by decide +kernel
theorem dX9_layRound_120 : decode cX9_layRound 120 = .ok (.sipush 256, 3) := by decide +kernel
theorem dX9_layRound_123 : decode cX9_layRound 123 = .ok (.iload_n 2, 1) := by decide +kernel
theorem dX9_layRound_124 : decode cX9_layRound 124 = .ok (.iconst 1, 1) := by decide +kernel
theorem dX9_layRound_125 : decode cX9_layRound 125 = .ok (.iadd, 1) := by decide +kernel
theorem dX9_layRound_126 : decode cX9_layRound 126 = .ok (.imul, 1) := by decide +kernel
theorem dX9_layRound_127 : decode cX9_layRound 127 = .ok (.iload_n 3, 1) := by decide +kernel
theorem dX9_layRound_128 : decode cX9_layRound 128 = .ok (.iconst 1, 1) := by decide +kernel
theorem dX9_layRound_129 : decode cX9_layRound 129 = .ok (.iload 5, 2) := by decide +kernel
theorem dX9_layRound_131 : decode cX9_layRound 131 = .ok (.ishl, 1) := by decide +kernel
theorem dX9_layRound_132 : decode cX9_layRound 132 = .ok (.ior, 1) := by decide +kernel
theorem dX9_layRound_133 : decode cX9_layRound 133 = .ok (.iadd, 1) := by decide +kernel
theorem dX9_layRound_134 : decode cX9_layRound 134 = .ok (.iaload, 1) := by decide +kernel
theorem dX9_layRound_135 : decode cX9_layRound 135 = .ok (.goto 4, 3) := by decide +kernel
theorem dX9_layRound_138 : decode cX9_layRound 138 = .ok (.iconst (-1), 1) := by decide +kernel
theorem dX9_layRound_139 : decode cX9_layRound 139 = .ok (.istore 7, 2) := by decide +kernel
theorem dX9_layRound_141 : decode cX9_layRound 141 = .ok (.iload 7, 2) := by decide +kernel
theorem dX9_layRound_143 : decode cX9_layRound 143 = .ok (.iconst (-1), 1) := by decide +kernel
theorem dX9_layRound_144 : decode cX9_layRound 144 = .ok (.if_icmp .eq 41, 3) := by decide +kernel
theorem dX9_layRound_147 : decode cX9_layRound 147 = .ok (.iload 7, 2) := by decide +kernel
theorem dX9_layRound_149 : decode cX9_layRound 149 = .ok (.aload_n 0, 1) := by decide +kernel
theorem dX9_layRound_150 : decode cX9_layRound 150 = .ok (.getfield 19, 3) := by decide +kernel
theorem dX9_layRound_153 : decode cX9_layRound 153 = .ok (.bipush 8, 2) := by decide +kernel
theorem dX9_layRound_155 : decode cX9_layRound 155 = .ok (.iload_n 2, 1) := by decide +kernel
theorem dX9_layRound_156 : decode cX9_layRound 156 = .ok (.imul, 1) := by decide +kernel
theorem dX9_layRound_157 : decode cX9_layRound 157 = .ok (.iload 5, 2) := by decide +kernel
theorem dX9_layRound_159 : decode cX9_layRound 159 = .ok (.iadd, 1) := by decide +kernel
theorem dX9_layRound_160 : decode cX9_layRound 160 = .ok (.iaload, 1) := by decide +kernel
theorem dX9_layRound_161 : decode cX9_layRound 161 = .ok (.iadd, 1) := by decide +kernel
theorem dX9_layRound_162 : decode cX9_layRound 162 = .ok (.iload 4, 2) := by decide +kernel
theorem dX9_layRound_164 : decode cX9_layRound 164 = .ok (.if_icmp .le 21, 3) := by decide +kernel
theorem dX9_layRound_167 : decode cX9_layRound 167 = .ok (.iload 7, 2) := by decide +kernel
theorem dX9_layRound_169 : decode cX9_layRound 169 = .ok (.aload_n 0, 1) := by decide +kernel
theorem dX9_layRound_170 : decode cX9_layRound 170 = .ok (.getfield 19, 3) := by decide +kernel
theorem dX9_layRound_173 : decode cX9_layRound 173 = .ok (.bipush 8, 2) := by decide +kernel
theorem dX9_layRound_175 : decode cX9_layRound 175 = .ok (.iload_n 2, 1) := by decide +kernel
theorem dX9_layRound_176 : decode cX9_layRound 176 = .ok (.imul, 1) := by decide +kernel
theorem dX9_layRound_177 : decode cX9_layRound 177 = .ok (.iload 5, 2) := by decide +kernel
theorem dX9_layRound_179 : decode cX9_layRound 179 = .ok (.iadd, 1) := by decide +kernel
theorem dX9_layRound_180 : decode cX9_layRound 180 = .ok (.iaload, 1) := by decide +kernel
theorem dX9_layRound_181 : decode cX9_layRound 181 = .ok (.iadd, 1) := by decide +kernel
theorem dX9_layRound_182 : decode cX9_layRound 182 = .ok (.goto 5, 3) := by decide +kernel
theorem dX9_layRound_185 : decode cX9_layRound 185 = .ok (.iload 4, 2) := by decide +kernel
theorem dX9_layRound_187 : decode cX9_layRound 187 = .ok (.istore 4, 2) := by decide +kernel
theorem dX9_layRound_189 : decode cX9_layRound 189 = .ok (.iinc 5 1, 3) := by decide +kernel
theorem dX9_layRound_192 : decode cX9_layRound 192 = .ok (.goto (-121), 3) := by decide +kernel
theorem dX9_layRound_195 : decode cX9_layRound 195 = .ok (.aload_n 0, 1) := by decide +kernel
theorem dX9_layRound_196 : decode cX9_layRound 196 = .ok (.getfield 44, 3) := by decide +kernel
theorem dX9_layRound_199 : decode cX9_layRound 199 = .ok (.sipush 256, 3) := by decide +kernel
theorem dX9_layRound_202 : decode cX9_layRound 202 = .ok (.iload_n 2, 1) := by decide +kernel
theorem dX9_layRound_203 : decode cX9_layRound 203 = .ok (.imul, 1) := by decide +kernel
theorem dX9_layRound_204 : decode cX9_layRound 204 = .ok (.iload_n 3, 1) := by decide +kernel
theorem dX9_layRound_205 : decode cX9_layRound 205 = .ok (.iadd, 1) := by decide +kernel
theorem dX9_layRound_206 : decode cX9_layRound 206 = .ok (.iload 4, 2) := by decide +kernel
theorem dX9_layRound_208 : decode cX9_layRound 208 = .ok (.iastore, 1) := by decide +kernel
theorem dX9_layRound_209 : decode cX9_layRound 209 = .ok (.iinc 3 1, 3) := by decide +kernel
theorem dX9_layRound_212 : decode cX9_layRound 212 = .ok (.goto (-152), 3) := by decide +kernel
theorem dX9_layRound_215 : decode cX9_layRound 215 = .ok (.iinc 2 (-1), 3) := by decide +kernel
theorem dX9_layRound_218 : decode cX9_layRound 218 = .ok (.goto (-164), 3) := by decide +kernel
theorem dX9_layRound_221 : decode cX9_layRound 221 = .ok (.iconst 0, 1) := by decide +kernel
theorem dX9_layRound_222 : decode cX9_layRound 222 = .ok (.istore_n 2, 1) := by decide +kernel
theorem dX9_layRound_223 : decode cX9_layRound 223 = .ok (.iconst 0, 1) := by decide +kernel
theorem dX9_layRound_224 : decode cX9_layRound 224 = .ok (.istore_n 3, 1) := by decide +kernel
theorem dX9_layRound_225 : decode cX9_layRound 225 = .ok (.iload_n 3, 1) := by decide +kernel
theorem dX9_layRound_226 : decode cX9_layRound 226 = .ok (.aload_n 0, 1) := by decide +kernel
theorem dX9_layRound_227 : decode cX9_layRound 227 = .ok (.getfield 144, 3) := by decide +kernel
theorem dX9_layRound_230 : decode cX9_layRound 230 = .ok (.if_icmp .ge 184, 3) := by decide +kernel
theorem dX9_layRound_233 : decode cX9_layRound 233 = .ok (.aload_n 0, 1) := by decide +kernel
theorem dX9_layRound_234 : decode cX9_layRound 234 = .ok (.getfield 47, 3) := by decide +kernel
theorem dX9_layRound_237 : decode cX9_layRound 237 = .ok (.iload_n 3, 1) := by decide +kernel
theorem dX9_layRound_238 : decode cX9_layRound 238 = .ok (.iconst (-1), 1) := by decide +kernel
theorem dX9_layRound_239 : decode cX9_layRound 239 = .ok (.iastore, 1) := by decide +kernel
theorem dX9_layRound_240 : decode cX9_layRound 240 = .ok (.aload_n 0, 1) := by decide +kernel
theorem dX9_layRound_241 : decode cX9_layRound 241 = .ok (.getfield 144, 3) := by decide +kernel
theorem dX9_layRound_244 : decode cX9_layRound 244 = .ok (.iconst 1, 1) := by decide +kernel
theorem dX9_layRound_245 : decode cX9_layRound 245 = .ok (.isub, 1) := by decide +kernel
theorem dX9_layRound_246 : decode cX9_layRound 246 = .ok (.istore 4, 2) := by decide +kernel
theorem dX9_layRound_248 : decode cX9_layRound 248 = .ok (.iload 4, 2) := by decide +kernel
theorem dX9_layRound_250 : decode cX9_layRound 250 = .ok (.ifCond .lt 133, 3) := by decide +kernel
theorem dX9_layRound_253 : decode cX9_layRound 253 = .ok (.aload_n 0, 1) := by decide +kernel
theorem dX9_layRound_254 : decode cX9_layRound 254 = .ok (.getfield 44, 3) := by decide +kernel
theorem dX9_layRound_257 : decode cX9_layRound 257 = .ok (.iconst 0, 1) := by decide +kernel
theorem dX9_layRound_258 : decode cX9_layRound 258 = .ok (.iaload, 1) := by decide +kernel
theorem dX9_layRound_259 : decode cX9_layRound 259 = .ok (.iconst (-1), 1) := by decide +kernel
theorem dX9_layRound_260 : decode cX9_layRound 260 = .ok (.if_icmp .eq 123, 3) := by decide +kernel
theorem dX9_layRound_263 : decode cX9_layRound 263 = .ok (.aload_n 0, 1) := by decide +kernel
theorem dX9_layRound_264 : decode cX9_layRound 264 = .ok (.getfield 16, 3) := by decide +kernel
theorem dX9_layRound_267 : decode cX9_layRound 267 = .ok (.iload_n 3, 1) := by decide +kernel
theorem dX9_layRound_268 : decode cX9_layRound 268 = .ok (.iaload, 1) := by decide +kernel
theorem dX9_layRound_269 : decode cX9_layRound 269 = .ok (.iload 4, 2) := by decide +kernel
theorem dX9_layRound_271 : decode cX9_layRound 271 = .ok (.ishr, 1) := by decide +kernel
theorem dX9_layRound_272 : decode cX9_layRound 272 = .ok (.iconst 1, 1) := by decide +kernel
theorem dX9_layRound_273 : decode cX9_layRound 273 = .ok (.iand, 1) := by decide +kernel
theorem dX9_layRound_274 : decode cX9_layRound 274 = .ok (.iconst 1, 1) := by decide +kernel
theorem dX9_layRound_275 : decode cX9_layRound 275 = .ok (.if_icmp .ne 16, 3) := by decide +kernel
theorem dX9_layRound_278 : decode cX9_layRound 278 = .ok (.iload_n 2, 1) := by decide +kernel
theorem dX9_layRound_279 : decode cX9_layRound 279 = .ok (.iload 4, 2) := by decide +kernel
theorem dX9_layRound_281 : decode cX9_layRound 281 = .ok (.ishr, 1) := by decide +kernel
theorem dX9_layRound_282 : decode cX9_layRound 282 = .ok (.iconst 1, 1) := by decide +kernel
theorem dX9_layRound_283 : decode cX9_layRound 283 = .ok (.iand, 1) := by decide +kernel
theorem dX9_layRound_284 : decode cX9_layRound 284 = .ok (.ifCond .ne 7, 3) := by decide +kernel
theorem dX9_layRound_287 : decode cX9_layRound 287 = .ok (.iconst 1, 1) := by decide +kernel
theorem dX9_layRound_288 : decode cX9_layRound 288 = .ok (.goto 4, 3) := by decide +kernel
theorem dX9_layRound_291 : decode cX9_layRound 291 = .ok (.iconst 0, 1) := by decide +kernel
theorem dX9_layRound_292 : decode cX9_layRound 292 = .ok (.istore 5, 2) := by decide +kernel
theorem dX9_layRound_294 : decode cX9_layRound 294 = .ok (.iload 5, 2) := by decide +kernel
theorem dX9_layRound_296 : decode cX9_layRound 296 = .ok (.ifCond .eq 25, 3) := by decide +kernel
theorem dX9_layRound_299 : decode cX9_layRound 299 = .ok (.aload_n 0, 1) := by decide +kernel
theorem dX9_layRound_300 : decode cX9_layRound 300 = .ok (.getfield 44, 3) := by decide +kernel
theorem dX9_layRound_303 : decode cX9_layRound 303 = .ok (.sipush 256, 3) := by decide +kernel
theorem dX9_layRound_306 : decode cX9_layRound 306 = .ok (.iload_n 3, 1) := by decide +kernel
theorem dX9_layRound_307 : decode cX9_layRound 307 = .ok (.iconst 1, 1) := by decide +kernel
theorem dX9_layRound_308 : decode cX9_layRound 308 = .ok (.iadd, 1) := by decide +kernel
theorem dX9_layRound_309 : decode cX9_layRound 309 = .ok (.imul, 1) := by decide +kernel
theorem dX9_layRound_310 : decode cX9_layRound 310 = .ok (.iload_n 2, 1) := by decide +kernel
theorem dX9_layRound_311 : decode cX9_layRound 311 = .ok (.iconst 1, 1) := by decide +kernel
theorem dX9_layRound_312 : decode cX9_layRound 312 = .ok (.iload 4, 2) := by decide +kernel
theorem dX9_layRound_314 : decode cX9_layRound 314 = .ok (.ishl, 1) := by decide +kernel
theorem dX9_layRound_315 : decode cX9_layRound 315 = .ok (.ior, 1) := by decide +kernel
theorem dX9_layRound_316 : decode cX9_layRound 316 = .ok (.iadd, 1) := by decide +kernel
theorem dX9_layRound_317 : decode cX9_layRound 317 = .ok (.iaload, 1) := by decide +kernel
theorem dX9_layRound_318 : decode cX9_layRound 318 = .ok (.goto 4, 3) := by decide +kernel
theorem dX9_layRound_321 : decode cX9_layRound 321 = .ok (.iconst (-1), 1) := by decide +kernel
theorem dX9_layRound_322 : decode cX9_layRound 322 = .ok (.istore 6, 2) := by decide +kernel
theorem dX9_layRound_324 : decode cX9_layRound 324 = .ok (.aload_n 0, 1) := by decide +kernel
theorem dX9_layRound_325 : decode cX9_layRound 325 = .ok (.getfield 47, 3) := by decide +kernel
theorem dX9_layRound_328 : decode cX9_layRound 328 = .ok (.iload_n 3, 1) := by decide +kernel
theorem dX9_layRound_329 : decode cX9_layRound 329 = .ok (.iload 6, 2) := by decide +kernel
theorem dX9_layRound_331 : decode cX9_layRound 331 = .ok (.iconst (-1), 1) := by decide +kernel
theorem dX9_layRound_332 : decode cX9_layRound 332 = .ok (.if_icmp .eq 38, 3) := by decide +kernel
theorem dX9_layRound_335 : decode cX9_layRound 335 = .ok (.iload 6, 2) := by decide +kernel
theorem dX9_layRound_337 : decode cX9_layRound 337 = .ok (.aload_n 0, 1) := by decide +kernel
theorem dX9_layRound_338 : decode cX9_layRound 338 = .ok (.getfield 19, 3) := by decide +kernel
theorem dX9_layRound_341 : decode cX9_layRound 341 = .ok (.bipush 8, 2) := by decide +kernel
theorem dX9_layRound_343 : decode cX9_layRound 343 = .ok (.iload_n 3, 1) := by decide +kernel
theorem dX9_layRound_344 : decode cX9_layRound 344 = .ok (.imul, 1) := by decide +kernel
theorem dX9_layRound_345 : decode cX9_layRound 345 = .ok (.iload 4, 2) := by decide +kernel
theorem dX9_layRound_347 : decode cX9_layRound 347 = .ok (.iadd, 1) := by decide +kernel
theorem dX9_layRound_348 : decode cX9_layRound 348 = .ok (.iaload, 1) := by decide +kernel
theorem dX9_layRound_349 : decode cX9_layRound 349 = .ok (.iadd, 1) := by decide +kernel
theorem dX9_layRound_350 : decode cX9_layRound 350 = .ok (.aload_n 0, 1) := by decide +kernel
theorem dX9_layRound_351 : decode cX9_layRound 351 = .ok (.getfield 44, 3) := by decide +kernel
theorem dX9_layRound_354 : decode cX9_layRound 354 = .ok (.sipush 256, 3) := by decide +kernel
theorem dX9_layRound_357 : decode cX9_layRound 357 = .ok (.iload_n 3, 1) := by decide +kernel
theorem dX9_layRound_358 : decode cX9_layRound 358 = .ok (.imul, 1) := by decide +kernel
theorem dX9_layRound_359 : decode cX9_layRound 359 = .ok (.iload_n 2, 1) := by decide +kernel
theorem dX9_layRound_360 : decode cX9_layRound 360 = .ok (.iadd, 1) := by decide +kernel
theorem dX9_layRound_361 : decode cX9_layRound 361 = .ok (.iaload, 1) := by decide +kernel
theorem dX9_layRound_362 : decode cX9_layRound 362 = .ok (.if_icmp .ne 8, 3) := by decide +kernel
theorem dX9_layRound_365 : decode cX9_layRound 365 = .ok (.iload 4, 2) := by decide +kernel
theorem dX9_layRound_367 : decode cX9_layRound 367 = .ok (.goto 9, 3) := by decide +kernel
theorem dX9_layRound_370 : decode cX9_layRound 370 = .ok (.aload_n 0, 1) := by decide +kernel
theorem dX9_layRound_371 : decode cX9_layRound 371 = .ok (.getfield 47, 3) := by decide +kernel
theorem dX9_layRound_374 : decode cX9_layRound 374 = .ok (.iload_n 3, 1) := by decide +kernel
theorem dX9_layRound_375 : decode cX9_layRound 375 = .ok (.iaload, 1) := by decide +kernel
theorem dX9_layRound_376 : decode cX9_layRound 376 = .ok (.iastore, 1) := by decide +kernel
theorem dX9_layRound_377 : decode cX9_layRound 377 = .ok (.iinc 4 (-1), 3) := by decide +kernel
theorem dX9_layRound_380 : decode cX9_layRound 380 = .ok (.goto (-132), 3) := by decide +kernel
theorem dX9_layRound_383 : decode cX9_layRound 383 = .ok (.iload_n 2, 1) := by decide +kernel
theorem dX9_layRound_384 : decode cX9_layRound 384 = .ok (.aload_n 0, 1) := by decide +kernel
theorem dX9_layRound_385 : decode cX9_layRound 385 = .ok (.getfield 47, 3) := by decide +kernel
theorem dX9_layRound_388 : decode cX9_layRound 388 = .ok (.iload_n 3, 1) := by decide +kernel
theorem dX9_layRound_389 : decode cX9_layRound 389 = .ok (.iaload, 1) := by decide +kernel
theorem dX9_layRound_390 : decode cX9_layRound 390 = .ok (.iconst (-1), 1) := by decide +kernel
theorem dX9_layRound_391 : decode cX9_layRound 391 = .ok (.if_icmp .ne 7, 3) := by decide +kernel
theorem dX9_layRound_394 : decode cX9_layRound 394 = .ok (.iconst 0, 1) := by decide +kernel
theorem dX9_layRound_395 : decode cX9_layRound 395 = .ok (.goto 11, 3) := by decide +kernel
theorem dX9_layRound_398 : decode cX9_layRound 398 = .ok (.iconst 1, 1) := by decide +kernel
theorem dX9_layRound_399 : decode cX9_layRound 399 = .ok (.aload_n 0, 1) := by decide +kernel
theorem dX9_layRound_400 : decode cX9_layRound 400 = .ok (.getfield 47, 3) := by decide +kernel
theorem dX9_layRound_403 : decode cX9_layRound 403 = .ok (.iload_n 3, 1) := by decide +kernel
theorem dX9_layRound_404 : decode cX9_layRound 404 = .ok (.iaload, 1) := by decide +kernel
theorem dX9_layRound_405 : decode cX9_layRound 405 = .ok (.ishl, 1) := by decide +kernel
theorem dX9_layRound_406 : decode cX9_layRound 406 = .ok (.ior, 1) := by decide +kernel
theorem dX9_layRound_407 : decode cX9_layRound 407 = .ok (.istore_n 2, 1) := by decide +kernel
theorem dX9_layRound_408 : decode cX9_layRound 408 = .ok (.iinc 3 1, 3) := by decide +kernel
theorem dX9_layRound_411 : decode cX9_layRound 411 = .ok (.goto (-186), 3) := by decide +kernel
theorem dX9_layRound_414 : decode cX9_layRound 414 = .ok (.return_, 1) := by decide +kernel
theorem dX9_tellRound_0 : decode cX9_tellRound 0 = .ok (.aload_n 0, 1) := by decide +kernel
theorem dX9_tellRound_1 : decode cX9_tellRound 1 = .ok (.invokevirtual 262, 3) := by decide +kernel
theorem dX9_tellRound_4 : decode cX9_tellRound 4 = .ok (.aload_n 0, 1) := by decide +kernel
theorem dX9_tellRound_5 : decode cX9_tellRound 5 = .ok (.getfield 44, 3) := by decide +kernel
theorem dX9_tellRound_8 : decode cX9_tellRound 8 = .ok (.iconst 0, 1) := by decide +kernel
theorem dX9_tellRound_9 : decode cX9_tellRound 9 = .ok (.iaload, 1) := by decide +kernel
theorem dX9_tellRound_10 : decode cX9_tellRound 10 = .ok (.istore_n 2, 1) := by decide +kernel
theorem dX9_tellRound_11 : decode cX9_tellRound 11 = .ok (.iload_n 1, 1) := by decide +kernel
theorem dX9_tellRound_12 : decode cX9_tellRound 12 = .ok (.iconst 2, 1) := by decide +kernel
theorem dX9_tellRound_13 : decode cX9_tellRound 13 = .ok (.if_icmp .ge 23, 3) := by decide +kernel
theorem dX9_tellRound_16 : decode cX9_tellRound 16 = .ok (.iload_n 1, 1) := by decide +kernel
theorem dX9_tellRound_17 : decode cX9_tellRound 17 = .ok (.iconst 1, 1) := by decide +kernel
theorem dX9_tellRound_18 : decode cX9_tellRound 18 = .ok (.if_icmp .ne 7, 3) := by decide +kernel
theorem dX9_tellRound_21 : decode cX9_tellRound 21 = .ok (.iload_n 2, 1) := by decide +kernel
theorem dX9_tellRound_22 : decode cX9_tellRound 22 = .ok (.goto 13, 3) := by decide +kernel
theorem dX9_tellRound_25 : decode cX9_tellRound 25 = .ok (.iload_n 2, 1) := by decide +kernel
theorem dX9_tellRound_26 : decode cX9_tellRound 26 = .ok (.iconst (-1), 1) := by decide +kernel
theorem dX9_tellRound_27 : decode cX9_tellRound 27 = .ok (.if_icmp .ne 7, 3) := by decide +kernel
theorem dX9_tellRound_30 : decode cX9_tellRound 30 = .ok (.iconst 0, 1) := by decide +kernel
theorem dX9_tellRound_31 : decode cX9_tellRound 31 = .ok (.goto 4, 3) := by decide +kernel
theorem dX9_tellRound_34 : decode cX9_tellRound 34 = .ok (.iconst 1, 1) := by decide +kernel
theorem dX9_tellRound_35 : decode cX9_tellRound 35 = .ok (.ireturn, 1) := by decide +kernel
theorem dX9_tellRound_36 : decode cX9_tellRound 36 = .ok (.iload_n 1, 1) := by decide +kernel
theorem dX9_tellRound_37 : decode cX9_tellRound 37 = .ok (.bipush 10, 2) := by decide +kernel
theorem dX9_tellRound_39 : decode cX9_tellRound 39 = .ok (.isub, 1) := by decide +kernel
theorem dX9_tellRound_40 : decode cX9_tellRound 40 = .ok (.aload_n 0, 1) := by decide +kernel
theorem dX9_tellRound_41 : decode cX9_tellRound 41 = .ok (.getfield 144, 3) := by decide +kernel
theorem dX9_tellRound_44 : decode cX9_tellRound 44 = .ok (.if_icmp .ge 15, 3) := by decide +kernel
theorem dX9_tellRound_47 : decode cX9_tellRound 47 = .ok (.aload_n 0, 1) := by decide +kernel
theorem dX9_tellRound_48 : decode cX9_tellRound 48 = .ok (.getfield 47, 3) := by decide +kernel
theorem dX9_tellRound_51 : decode cX9_tellRound 51 = .ok (.iload_n 1, 1) := by decide +kernel
theorem dX9_tellRound_52 : decode cX9_tellRound 52 = .ok (.bipush 10, 2) := by decide +kernel
theorem dX9_tellRound_54 : decode cX9_tellRound 54 = .ok (.isub, 1) := by decide +kernel
theorem dX9_tellRound_55 : decode cX9_tellRound 55 = .ok (.iaload, 1) := by decide +kernel
theorem dX9_tellRound_56 : decode cX9_tellRound 56 = .ok (.goto 4, 3) := by decide +kernel
theorem dX9_tellRound_59 : decode cX9_tellRound 59 = .ok (.iconst (-1), 1) := by decide +kernel
theorem dX9_tellRound_60 : decode cX9_tellRound 60 = .ok (.ireturn, 1) := by decide +kernel
theorem dX9_round_0 : decode cX9_round 0 = .ok (.iload_n 1, 1) := by decide +kernel
theorem dX9_round_1 : decode cX9_round 1 = .ok (.i2l, 1) := by decide +kernel
theorem dX9_round_2 : decode cX9_round 2 = .ok (.lconst 0, 1) := by decide +kernel
theorem dX9_round_3 : decode cX9_round 3 = .ok (.lconst 1, 1) := by decide +kernel
theorem dX9_round_4 : decode cX9_round 4 = .ok (.invokestatic 108, 3) := by decide +kernel
theorem dX9_round_7 : decode cX9_round 7 = .ok (.ifCond .ne 17, 3) := by decide +kernel
theorem dX9_round_10 : decode cX9_round 10 = .ok (.iload_n 1, 1) := by decide +kernel
theorem dX9_round_11 : decode cX9_round 11 = .ok (.i2l, 1) := by decide +kernel
theorem dX9_round_12 : decode cX9_round 12 = .ok (.ldc2_w 265, 3) := by decide +kernel
theorem dX9_round_15 : decode cX9_round 15 = .ok (.ldc2_w 267, 3) := by decide +kernel
theorem dX9_round_18 : decode cX9_round 18 = .ok (.invokestatic 108, 3) := by decide +kernel
theorem dX9_round_21 : decode cX9_round 21 = .ok (.ifCond .eq 11, 3) := by decide +kernel
theorem dX9_round_24 : decode cX9_round 24 = .ok (.aload_n 0, 1) := by decide +kernel
theorem dX9_round_25 : decode cX9_round 25 = .ok (.iload_n 1, 1) := by decide +kernel
theorem dX9_round_26 : decode cX9_round 26 = .ok (.invokevirtual 269, 3) := by decide +kernel
theorem dX9_round_29 : decode cX9_round 29 = .ok (.goto 5, 3) := by decide +kernel
theorem dX9_round_32 : decode cX9_round 32 = .ok (.bipush (-102), 2) := by decide +kernel
theorem dX9_round_34 : decode cX9_round 34 = .ok (.ireturn, 1) := by decide +kernel
theorem dX9_layFar_0 : decode cX9_layFar 0 = .ok (.iconst 0, 1) := by decide +kernel
theorem dX9_layFar_1 : decode cX9_layFar 1 = .ok (.istore_n 2, 1) := by decide +kernel
theorem dX9_layFar_2 : decode cX9_layFar 2 = .ok (.iload_n 2, 1) := by decide +kernel
theorem dX9_layFar_3 : decode cX9_layFar 3 = .ok (.bipush 8, 2) := by decide +kernel
theorem dX9_layFar_5 : decode cX9_layFar 5 = .ok (.if_icmp .ge 26, 3) := by decide +kernel
theorem dX9_layFar_8 : decode cX9_layFar 8 = .ok (.aload_n 0, 1) := by decide +kernel
theorem dX9_layFar_9 : decode cX9_layFar 9 = .ok (.getfield 50, 3) := by decide +kernel
theorem dX9_layFar_12 : decode cX9_layFar 12 = .ok (.iload_n 2, 1) := by decide +kernel
theorem dX9_layFar_13 : decode cX9_layFar 13 = .ok (.iload_n 2, 1) := by decide +kernel
theorem dX9_layFar_14 : decode cX9_layFar 14 = .ok (.iload_n 1, 1) := by decide +kernel
theorem dX9_layFar_15 : decode cX9_layFar 15 = .ok (.if_icmp .ne 7, 3) := by decide +kernel
theorem dX9_layFar_18 : decode cX9_layFar 18 = .ok (.iconst 0, 1) := by decide +kernel
theorem dX9_layFar_19 : decode cX9_layFar 19 = .ok (.goto 5, 3) := by decide +kernel
theorem dX9_layFar_22 : decode cX9_layFar 22 = .ok (.bipush 100, 2) := by decide +kernel
theorem dX9_layFar_24 : decode cX9_layFar 24 = .ok (.iastore, 1) := by decide +kernel
theorem dX9_layFar_25 : decode cX9_layFar 25 = .ok (.iinc 2 1, 3) := by decide +kernel
theorem dX9_layFar_28 : decode cX9_layFar 28 = .ok (.goto (-26), 3) := by decide +kernel
theorem dX9_layFar_31 : decode cX9_layFar 31 = .ok (.iconst 0, 1) := by decide +kernel
theorem dX9_layFar_32 : decode cX9_layFar 32 = .ok (.istore_n 2, 1) := by decide +kernel
theorem dX9_layFar_33 : decode cX9_layFar 33 = .ok (.iload_n 2, 1) := by decide +kernel
theorem dX9_layFar_34 : decode cX9_layFar 34 = .ok (.bipush 8, 2) := by decide +kernel
theorem dX9_layFar_36 : decode cX9_layFar 36 = .ok (.if_icmp .ge 112, 3) := by decide +kernel
theorem dX9_layFar_39 : decode cX9_layFar 39 = .ok (.iconst 0, 1) := by decide +kernel
theorem dX9_layFar_40 : decode cX9_layFar 40 = .ok (.istore_n 3, 1) := by decide +kernel
theorem dX9_layFar_41 : decode cX9_layFar 41 = .ok (.iload_n 3, 1) := by decide +kernel
theorem dX9_layFar_42 : decode cX9_layFar 42 = .ok (.aload_n 0, 1) := by decide +kernel
theorem dX9_layFar_43 : decode cX9_layFar 43 = .ok (.getfield 144, 3) := by decide +kernel
theorem dX9_layFar_46 : decode cX9_layFar 46 = .ok (.if_icmp .ge 96, 3) := by decide +kernel
theorem dX9_layFar_49 : decode cX9_layFar 49 = .ok (.iconst 0, 1) := by decide +kernel
theorem dX9_layFar_50 : decode cX9_layFar 50 = .ok (.istore 4, 2) := by decide +kernel
theorem dX9_layFar_52 : decode cX9_layFar 52 = .ok (.iload 4, 2) := by decide +kernel
theorem dX9_layFar_54 : decode cX9_layFar 54 = .ok (.aload_n 0, 1) := by decide +kernel
theorem dX9_layFar_55 : decode cX9_layFar 55 = .ok (.getfield 144, 3) := by decide +kernel
theorem dX9_layFar_58 : decode cX9_layFar 58 = .ok (.if_icmp .ge 78, 3) := by decide +kernel
theorem dX9_layFar_61 : decode cX9_layFar 61 = .ok (.aload_n 0, 1) := by decide +kernel
theorem dX9_layFar_62 : decode cX9_layFar 62 = .ok (.getfield 16, 3) := by decide +kernel
theorem dX9_layFar_65 : decode cX9_layFar 65 = .ok (.iload_n 3, 1) := by decide +kernel
theorem dX9_layFar_66 : decode cX9_layFar 66 = .ok (.iaload, 1) := by decide +kernel
theorem dX9_layFar_67 : decode cX9_layFar 67 = .ok (.iload 4, 2) := by decide +kernel
theorem dX9_layFar_69 : decode cX9_layFar 69 = .ok (.ishr, 1) := by decide +kernel
theorem dX9_layFar_70 : decode cX9_layFar 70 = .ok (.iconst 1, 1) := by decide +kernel
theorem dX9_layFar_71 : decode cX9_layFar 71 = .ok (.iand, 1) := by decide +kernel
theorem dX9_layFar_72 : decode cX9_layFar 72 = .ok (.iconst 1, 1) := by decide +kernel
theorem dX9_layFar_73 : decode cX9_layFar 73 = .ok (.if_icmp .ne 25, 3) := by decide +kernel
theorem dX9_layFar_76 : decode cX9_layFar 76 = .ok (.aload_n 0, 1) := by decide +kernel
theorem dX9_layFar_77 : decode cX9_layFar 77 = .ok (.getfield 50, 3) := by decide +kernel
theorem dX9_layFar_80 : decode cX9_layFar 80 = .ok (.iload 4, 2) := by decide +kernel
theorem dX9_layFar_82 : decode cX9_layFar 82 = .ok (.iaload, 1) := by decide +kernel
theorem dX9_layFar_83 : decode cX9_layFar 83 = .ok (.iconst 1, 1) := by decide +kernel
theorem dX9_layFar_84 : decode cX9_layFar 84 = .ok (.iadd, 1) := by decide +kernel
theorem dX9_layFar_85 : decode cX9_layFar 85 = .ok (.aload_n 0, 1) := by decide +kernel
theorem dX9_layFar_86 : decode cX9_layFar 86 = .ok (.getfield 50, 3) := by decide +kernel
theorem dX9_layFar_89 : decode cX9_layFar 89 = .ok (.iload_n 3, 1) := by decide +kernel
theorem dX9_layFar_90 : decode cX9_layFar 90 = .ok (.iaload, 1) := by decide +kernel
theorem dX9_layFar_91 : decode cX9_layFar 91 = .ok (.if_icmp .ge 7, 3) := by decide +kernel
theorem dX9_layFar_94 : decode cX9_layFar 94 = .ok (.iconst 1, 1) := by decide +kernel
theorem dX9_layFar_95 : decode cX9_layFar 95 = .ok (.goto 4, 3) := by decide +kernel
theorem dX9_layFar_98 : decode cX9_layFar 98 = .ok (.iconst 0, 1) := by decide +kernel
theorem dX9_layFar_99 : decode cX9_layFar 99 = .ok (.istore 5, 2) := by decide +kernel
theorem dX9_layFar_101 : decode cX9_layFar 101 = .ok (.aload_n 0, 1) := by decide +kernel
theorem dX9_layFar_102 : decode cX9_layFar 102 = .ok (.getfield 50, 3) := by decide +kernel
theorem dX9_layFar_105 : decode cX9_layFar 105 = .ok (.iload_n 3, 1) := by decide +kernel
theorem dX9_layFar_106 : decode cX9_layFar 106 = .ok (.iload 5, 2) := by decide +kernel
theorem dX9_layFar_108 : decode cX9_layFar 108 = .ok (.ifCond .eq 15, 3) := by decide +kernel
theorem dX9_layFar_111 : decode cX9_layFar 111 = .ok (.aload_n 0, 1) := by decide +kernel
theorem dX9_layFar_112 : decode cX9_layFar 112 = .ok (.getfield 50, 3) := by decide +kernel
theorem dX9_layFar_115 : decode cX9_layFar 115 = .ok (.iload 4, 2) := by decide +kernel
theorem dX9_layFar_117 : decode cX9_layFar 117 = .ok (.iaload, 1) := by decide +kernel
theorem dX9_layFar_118 : decode cX9_layFar 118 = .ok (.iconst 1, 1) := by decide +kernel
theorem dX9_layFar_119 : decode cX9_layFar 119 = .ok (.iadd, 1) := by decide +kernel
theorem dX9_layFar_120 : decode cX9_layFar 120 = .ok (.goto 9, 3) := by decide +kernel
theorem dX9_layFar_123 : decode cX9_layFar 123 = .ok (.aload_n 0, 1) := by decide +kernel
theorem dX9_layFar_124 : decode cX9_layFar 124 = .ok (.getfield 50, 3) := by decide +kernel
theorem dX9_layFar_127 : decode cX9_layFar 127 = .ok (.iload_n 3, 1) := by decide +kernel
theorem dX9_layFar_128 : decode cX9_layFar 128 = .ok (.iaload, 1) := by decide +kernel
theorem dX9_layFar_129 : decode cX9_layFar 129 = .ok (.iastore, 1) := by decide +kernel
theorem dX9_layFar_130 : decode cX9_layFar 130 = .ok (.iinc 4 1, 3) := by decide +kernel
theorem dX9_layFar_133 : decode cX9_layFar 133 = .ok (.goto (-81), 3) := by decide +kernel
theorem dX9_layFar_136 : decode cX9_layFar 136 = .ok (.iinc 3 1, 3) := by decide +kernel
theorem dX9_layFar_139 : decode cX9_layFar 139 = .ok (.goto (-98), 3) := by decide +kernel
theorem dX9_layFar_142 : decode cX9_layFar 142 = .ok (.iinc 2 1, 3) := by decide +kernel
theorem dX9_layFar_145 : decode cX9_layFar 145 = .ok (.goto (-112), 3) := by decide +kernel
theorem dX9_layFar_148 : decode cX9_layFar 148 = .ok (.return_, 1) := by decide +kernel
theorem dX9_tellStranger_0 : decode cX9_tellStranger 0 = .ok (.aload_n 0, 1) := by decide +kernel
theorem dX9_tellStranger_1 : decode cX9_tellStranger 1 = .ok (.iload_n 2, 1) := by decide +kernel
theorem dX9_tellStranger_2 : decode cX9_tellStranger 2 = .ok (.invokevirtual 272, 3) := by decide +kernel
theorem dX9_tellStranger_5 : decode cX9_tellStranger 5 = .ok (.iload_n 3, 1) := by decide +kernel
theorem dX9_tellStranger_6 : decode cX9_tellStranger 6 = .ok (.ifCond .eq 19, 3) := by decide +kernel
theorem dX9_tellStranger_9 : decode cX9_tellStranger 9 = .ok (.iload_n 1, 1) := by decide +kernel
theorem dX9_tellStranger_10 : decode cX9_tellStranger 10 = .ok (.iload_n 2, 1) := by decide +kernel
theorem dX9_tellStranger_11 : decode cX9_tellStranger 11 = .ok (.if_icmp .eq 14, 3) := by decide +kernel
theorem dX9_tellStranger_14 : decode cX9_tellStranger 14 = .ok (.aload_n 0, 1) := by decide +kernel
theorem dX9_tellStranger_15 : decode cX9_tellStranger 15 = .ok (.getfield 50, 3) := by decide +kernel
theorem dX9_tellStranger_18 : decode cX9_tellStranger 18 = .ok (.iload_n 1, 1) := by decide +kernel
theorem dX9_tellStranger_19 : decode cX9_tellStranger 19 = .ok (.iaload, 1) := by decide +kernel
theorem dX9_tellStranger_20 : decode cX9_tellStranger 20 = .ok (.bipush 100, 2) := by decide +kernel
theorem dX9_tellStranger_22 : decode cX9_tellStranger 22 = .ok (.if_icmp .ne 29, 3) := by decide +kernel
theorem dX9_tellStranger_25 : decode cX9_tellStranger 25 = .ok (.iload_n 3, 1) := by decide +kernel
theorem dX9_tellStranger_26 : decode cX9_tellStranger 26 = .ok (.ifCond .ne 23, 3) := by decide +kernel
theorem dX9_tellStranger_29 : decode cX9_tellStranger 29 = .ok (.aload_n 0, 1) := by decide +kernel
theorem dX9_tellStranger_30 : decode cX9_tellStranger 30 = .ok (.getfield 50, 3) := by decide +kernel
theorem dX9_tellStranger_33 : decode cX9_tellStranger 33 = .ok (.iload_n 1, 1) := by decide +kernel
theorem dX9_tellStranger_34 : decode cX9_tellStranger 34 = .ok (.iaload, 1) := by decide +kernel
theorem dX9_tellStranger_35 : decode cX9_tellStranger 35 = .ok (.bipush 100, 2) := by decide +kernel
theorem dX9_tellStranger_37 : decode cX9_tellStranger 37 = .ok (.if_icmp .ge 12, 3) := by decide +kernel
theorem dX9_tellStranger_40 : decode cX9_tellStranger 40 = .ok (.aload_n 0, 1) := by decide +kernel
theorem dX9_tellStranger_41 : decode cX9_tellStranger 41 = .ok (.getfield 50, 3) := by decide +kernel
theorem dX9_tellStranger_44 : decode cX9_tellStranger 44 = .ok (.iload_n 1, 1) := by decide +kernel
theorem dX9_tellStranger_45 : decode cX9_tellStranger 45 = .ok (.iaload, 1) := by decide +kernel
theorem dX9_tellStranger_46 : decode cX9_tellStranger 46 = .ok (.goto 4, 3) := by decide +kernel
theorem dX9_tellStranger_49 : decode cX9_tellStranger 49 = .ok (.iconst (-1), 1) := by decide +kernel
theorem dX9_tellStranger_50 : decode cX9_tellStranger 50 = .ok (.ireturn, 1) := by decide +kernel
theorem dX9_tellStranger_51 : decode cX9_tellStranger 51 = .ok (.iconst 0, 1) := by decide +kernel
theorem dX9_tellStranger_52 : decode cX9_tellStranger 52 = .ok (.istore 4, 2) := by decide +kernel
theorem dX9_tellStranger_54 : decode cX9_tellStranger 54 = .ok (.aload_n 0, 1) := by decide +kernel
theorem dX9_tellStranger_55 : decode cX9_tellStranger 55 = .ok (.getfield 16, 3) := by decide +kernel
theorem dX9_tellStranger_58 : decode cX9_tellStranger 58 = .ok (.iload_n 1, 1) := by decide +kernel
theorem dX9_tellStranger_59 : decode cX9_tellStranger 59 = .ok (.iaload, 1) := by decide +kernel
theorem dX9_tellStranger_60 : decode cX9_tellStranger 60 = .ok (.iload 4, 2) := by decide +kernel
theorem dX9_tellStranger_62 : decode cX9_tellStranger 62 = .ok (.ishr, 1) := by decide +kernel
theorem dX9_tellStranger_63 : decode cX9_tellStranger 63 = .ok (.iconst 1, 1) := by decide +kernel
theorem dX9_tellStranger_64 : decode cX9_tellStranger 64 = .ok (.iand, 1) := by decide +kernel
theorem dX9_tellStranger_65 : decode cX9_tellStranger 65 = .ok (.ifCond .eq 21, 3) := by decide +kernel
theorem dX9_tellStranger_68 : decode cX9_tellStranger 68 = .ok (.aload_n 0, 1) := by decide +kernel
theorem dX9_tellStranger_69 : decode cX9_tellStranger 69 = .ok (.getfield 50, 3) := by decide +kernel
theorem dX9_tellStranger_72 : decode cX9_tellStranger 72 = .ok (.iload 4, 2) := by decide +kernel
theorem dX9_tellStranger_74 : decode cX9_tellStranger 74 = .ok (.iaload, 1) := by decide +kernel
theorem dX9_tellStranger_75 : decode cX9_tellStranger 75 = .ok (.iconst 1, 1) := by decide +kernel
theorem dX9_tellStranger_76 : decode cX9_tellStranger 76 = .ok (.iadd, 1) := by decide +kernel
theorem dX9_tellStranger_77 : decode cX9_tellStranger 77 = .ok (.aload_n 0, 1) := by decide +kernel
theorem dX9_tellStranger_78 : decode cX9_tellStranger 78 = .ok (.getfield 50, 3) := by decide +kernel
theorem dX9_tellStranger_81 : decode cX9_tellStranger 81 = .ok (.iload_n 1, 1) := by decide +kernel
theorem dX9_tellStranger_82 : decode cX9_tellStranger 82 = .ok (.iaload, 1) := by decide +kernel
theorem dX9_tellStranger_83 : decode cX9_tellStranger 83 = .ok (.if_icmp .eq 9, 3) := by decide +kernel
theorem dX9_tellStranger_86 : decode cX9_tellStranger 86 = .ok (.iinc 4 1, 3) := by decide +kernel
theorem dX9_tellStranger_89 : decode cX9_tellStranger 89 = .ok (.goto (-35), 3) := by decide +kernel
theorem dX9_tellStranger_92 : decode cX9_tellStranger 92 = .ok (.iload 4, 2) := by decide +kernel
theorem dX9_tellStranger_94 : decode cX9_tellStranger 94 = .ok (.ireturn, 1) := by decide +kernel
theorem dX9_stranger_0 : decode cX9_stranger 0 = .ok (.aload_n 0, 1) := by decide +kernel
theorem dX9_stranger_1 : decode cX9_stranger 1 = .ok (.iload_n 1, 1) := by decide +kernel
theorem dX9_stranger_2 : decode cX9_stranger 2 = .ok (.invokevirtual 147, 3) := by decide +kernel
theorem dX9_stranger_5 : decode cX9_stranger 5 = .ok (.ifCond .eq 11, 3) := by decide +kernel
theorem dX9_stranger_8 : decode cX9_stranger 8 = .ok (.aload_n 0, 1) := by decide +kernel
theorem dX9_stranger_9 : decode cX9_stranger 9 = .ok (.iload_n 2, 1) := by decide +kernel
theorem dX9_stranger_10 : decode cX9_stranger 10 = .ok (.invokevirtual 147, 3) := by decide +kernel
theorem dX9_stranger_13 : decode cX9_stranger 13 = .ok (.ifCond .ne 6, 3) := by decide +kernel
theorem dX9_stranger_16 : decode cX9_stranger 16 = .ok (.bipush (-101), 2) := by decide +kernel
theorem dX9_stranger_18 : decode cX9_stranger 18 = .ok (.ireturn, 1) := by decide +kernel
theorem dX9_stranger_19 : decode cX9_stranger 19 = .ok (.iload_n 3, 1) := by decide +kernel
theorem dX9_stranger_20 : decode cX9_stranger 20 = .ok (.i2l, 1) := by decide +kernel
theorem dX9_stranger_21 : decode cX9_stranger 21 = .ok (.lconst 0, 1) := by decide +kernel
theorem dX9_stranger_22 : decode cX9_stranger 22 = .ok (.lconst 1, 1) := by decide +kernel
theorem dX9_stranger_23 : decode cX9_stranger 23 = .ok (.invokestatic 108, 3) := by decide +kernel
theorem dX9_stranger_26 : decode cX9_stranger 26 = .ok (.ifCond .eq 13, 3) := by decide +kernel
theorem dX9_stranger_29 : decode cX9_stranger 29 = .ok (.aload_n 0, 1) := by decide +kernel
theorem dX9_stranger_30 : decode cX9_stranger 30 = .ok (.iload_n 1, 1) := by decide +kernel
theorem dX9_stranger_31 : decode cX9_stranger 31 = .ok (.iload_n 2, 1) := by decide +kernel
theorem dX9_stranger_32 : decode cX9_stranger 32 = .ok (.iload_n 3, 1) := by decide +kernel
theorem dX9_stranger_33 : decode cX9_stranger 33 = .ok (.invokevirtual 275, 3) := by decide +kernel
theorem dX9_stranger_36 : decode cX9_stranger 36 = .ok (.goto 5, 3) := by decide +kernel
theorem dX9_stranger_39 : decode cX9_stranger 39 = .ok (.bipush (-102), 2) := by decide +kernel
theorem dX9_stranger_41 : decode cX9_stranger 41 = .ok (.ireturn, 1) := by decide +kernel
theorem dX9_livesMany_0 : decode cX9_livesMany 0 = .ok (.iconst 0, 1) := by decide +kernel
theorem dX9_livesMany_1 : decode cX9_livesMany 1 = .ok (.istore_n 1, 1) := by decide +kernel
theorem dX9_livesMany_2 : decode cX9_livesMany 2 = .ok (.iconst 0, 1) := by decide +kernel
theorem dX9_livesMany_3 : decode cX9_livesMany 3 = .ok (.istore_n 2, 1) := by decide +kernel
theorem dX9_livesMany_4 : decode cX9_livesMany 4 = .ok (.iload_n 2, 1) := by decide +kernel
theorem dX9_livesMany_5 : decode cX9_livesMany 5 = .ok (.aload_n 0, 1) := by decide +kernel
theorem dX9_livesMany_6 : decode cX9_livesMany 6 = .ok (.getfield 158, 3) := by decide +kernel
theorem dX9_livesMany_9 : decode cX9_livesMany 9 = .ok (.if_icmp .ge 25, 3) := by decide +kernel
theorem dX9_livesMany_12 : decode cX9_livesMany 12 = .ok (.iload_n 1, 1) := by decide +kernel
theorem dX9_livesMany_13 : decode cX9_livesMany 13 = .ok (.aload_n 0, 1) := by decide +kernel
theorem dX9_livesMany_14 : decode cX9_livesMany 14 = .ok (.iload_n 2, 1) := by decide +kernel
theorem dX9_livesMany_15 : decode cX9_livesMany 15 = .ok (.invokevirtual 161, 3) := by decide +kernel
theorem dX9_livesMany_18 : decode cX9_livesMany 18 = .ok (.ifCond .eq 7, 3) := by decide +kernel
theorem dX9_livesMany_21 : decode cX9_livesMany 21 = .ok (.iconst 1, 1) := by decide +kernel
theorem dX9_livesMany_22 : decode cX9_livesMany 22 = .ok (.goto 4, 3) := by decide +kernel
theorem dX9_livesMany_25 : decode cX9_livesMany 25 = .ok (.iconst 0, 1) := by decide +kernel
theorem dX9_livesMany_26 : decode cX9_livesMany 26 = .ok (.iadd, 1) := by decide +kernel
theorem dX9_livesMany_27 : decode cX9_livesMany 27 = .ok (.istore_n 1, 1) := by decide +kernel
theorem dX9_livesMany_28 : decode cX9_livesMany 28 = .ok (.iinc 2 1, 3) := by decide +kernel
theorem dX9_livesMany_31 : decode cX9_livesMany 31 = .ok (.goto (-27), 3) := by decide +kernel
theorem dX9_livesMany_34 : decode cX9_livesMany 34 = .ok (.iload_n 1, 1) := by decide +kernel
theorem dX9_livesMany_35 : decode cX9_livesMany 35 = .ok (.ireturn, 1) := by decide +kernel
theorem dX9_copy_0 : decode cX9_copy 0 = .ok (.iconst 0, 1) := by decide +kernel
theorem dX9_copy_1 : decode cX9_copy 1 = .ok (.istore_n 3, 1) := by decide +kernel
theorem dX9_copy_2 : decode cX9_copy 2 = .ok (.iload_n 3, 1) := by decide +kernel
theorem dX9_copy_3 : decode cX9_copy 3 = .ok (.iload_n 2, 1) := by decide +kernel
theorem dX9_copy_4 : decode cX9_copy 4 = .ok (.if_icmp .ge 15, 3) := by decide +kernel
theorem dX9_copy_7 : decode cX9_copy 7 = .ok (.aload_n 1, 1) := by decide +kernel
theorem dX9_copy_8 : decode cX9_copy 8 = .ok (.iload_n 3, 1) := by decide +kernel
theorem dX9_copy_9 : decode cX9_copy 9 = .ok (.aload_n 0, 1) := by decide +kernel
theorem dX9_copy_10 : decode cX9_copy 10 = .ok (.iload_n 3, 1) := by decide +kernel
theorem dX9_copy_11 : decode cX9_copy 11 = .ok (.iaload, 1) := by decide +kernel
theorem dX9_copy_12 : decode cX9_copy 12 = .ok (.iastore, 1) := by decide +kernel
theorem dX9_copy_13 : decode cX9_copy 13 = .ok (.iinc 3 1, 3) := by decide +kernel
theorem dX9_copy_16 : decode cX9_copy 16 = .ok (.goto (-14), 3) := by decide +kernel
theorem dX9_copy_19 : decode cX9_copy 19 = .ok (.return_, 1) := by decide +kernel
theorem dX9_drawn_0 : decode cX9_drawn 0 = .ok (.iload_n 1, 1) := by decide +kernel
theorem dX9_drawn_1 : decode cX9_drawn 1 = .ok (.i2l, 1) := by decide +kernel
theorem dX9_drawn_2 : decode cX9_drawn 2 = .ok (.lconst 1, 1) := by decide +kernel
theorem dX9_drawn_3 : decode cX9_drawn 3 = .ok (.ldc2_w 225, 3) := by decide +kernel
theorem dX9_drawn_6 : decode cX9_drawn 6 = .ok (.invokestatic 108, 3) := by decide +kernel
theorem dX9_drawn_9 : decode cX9_drawn 9 = .ok (.ifCond .eq 19, 3) := by decide +kernel
theorem dX9_drawn_12 : decode cX9_drawn 12 = .ok (.iload_n 2, 1) := by decide +kernel
theorem dX9_drawn_13 : decode cX9_drawn 13 = .ok (.ifCond .lt 15, 3) := by decide +kernel
theorem dX9_drawn_16 : decode cX9_drawn 16 = .ok (.iload_n 3, 1) := by decide +kernel
theorem dX9_drawn_17 : decode cX9_drawn 17 = .ok (.i2l, 1) := by decide +kernel
theorem dX9_drawn_18 : decode cX9_drawn 18 = .ok (.lconst 0, 1) := by decide +kernel
theorem dX9_drawn_19 : decode cX9_drawn 19 = .ok (.ldc2_w 150, 3) := by decide +kernel
theorem dX9_drawn_22 : decode cX9_drawn 22 = .ok (.invokestatic 108, 3) := by decide +kernel
theorem dX9_drawn_25 : decode cX9_drawn 25 = .ok (.ifCond .ne 6, 3) := by decide +kernel
theorem dX9_drawn_28 : decode cX9_drawn 28 = .ok (.bipush (-102), 2) := by decide +kernel
theorem dX9_drawn_30 : decode cX9_drawn 30 = .ok (.ireturn, 1) := by decide +kernel
theorem dX9_drawn_31 : decode cX9_drawn 31 = .ok (.aload_n 0, 1) := by decide +kernel
theorem dX9_drawn_32 : decode cX9_drawn 32 = .ok (.getfield 28, 3) := by decide +kernel
theorem dX9_drawn_35 : decode cX9_drawn 35 = .ok (.aload_n 0, 1) := by decide +kernel
theorem dX9_drawn_36 : decode cX9_drawn 36 = .ok (.getfield 53, 3) := by decide +kernel
theorem dX9_drawn_39 : decode cX9_drawn 39 = .ok (.bipush 64, 2) := by decide +kernel
theorem dX9_drawn_41 : decode cX9_drawn 41 = .ok (.invokestatic 279, 3) := by decide +kernel
theorem dX9_drawn_44 : decode cX9_drawn 44 = .ok (.aload_n 0, 1) := by decide +kernel
theorem dX9_drawn_45 : decode cX9_drawn 45 = .ok (.getfield 22, 3) := by decide +kernel
theorem dX9_drawn_48 : decode cX9_drawn 48 = .ok (.aload_n 0, 1) := by decide +kernel
theorem dX9_drawn_49 : decode cX9_drawn 49 = .ok (.getfield 56, 3) := by decide +kernel
theorem dX9_drawn_52 : decode cX9_drawn 52 = .ok (.bipush 64, 2) := by decide +kernel
theorem dX9_drawn_54 : decode cX9_drawn 54 = .ok (.invokestatic 279, 3) := by decide +kernel
theorem dX9_drawn_57 : decode cX9_drawn 57 = .ok (.aload_n 0, 1) := by decide +kernel
theorem dX9_drawn_58 : decode cX9_drawn 58 = .ok (.getfield 25, 3) := by decide +kernel
theorem dX9_drawn_61 : decode cX9_drawn 61 = .ok (.aload_n 0, 1) := by decide +kernel
theorem dX9_drawn_62 : decode cX9_drawn 62 = .ok (.getfield 59, 3) := by decide +kernel
theorem dX9_drawn_65 : decode cX9_drawn 65 = .ok (.bipush 8, 2) := by decide +kernel
theorem dX9_drawn_67 : decode cX9_drawn 67 = .ok (.invokestatic 279, 3) := by decide +kernel
theorem dX9_drawn_70 : decode cX9_drawn 70 = .ok (.aload_n 0, 1) := by decide +kernel
theorem dX9_drawn_71 : decode cX9_drawn 71 = .ok (.getfield 194, 3) := by decide +kernel
theorem dX9_drawn_74 : decode cX9_drawn 74 = .ok (.istore 4, 2) := by decide +kernel
theorem dX9_drawn_76 : decode cX9_drawn 76 = .ok (.aload_n 0, 1) := by decide +kernel
theorem dX9_drawn_77 : decode cX9_drawn 77 = .ok (.iload_n 2, 1) := by decide +kernel
theorem dX9_drawn_78 : decode cX9_drawn 78 = .ok (.putfield 202, 3) := by decide +kernel
theorem dX9_drawn_81 : decode cX9_drawn 81 = .ok (.iconst 0, 1) := by decide +kernel
theorem dX9_drawn_82 : decode cX9_drawn 82 = .ok (.istore 5, 2) := by decide +kernel
theorem dX9_drawn_84 : decode cX9_drawn 84 = .ok (.iconst 0, 1) := by decide +kernel
theorem dX9_drawn_85 : decode cX9_drawn 85 = .ok (.istore 6, 2) := by decide +kernel
theorem dX9_drawn_87 : decode cX9_drawn 87 = .ok (.iload 6, 2) := by decide +kernel
theorem dX9_drawn_89 : decode cX9_drawn 89 = .ok (.iload_n 1, 1) := by decide +kernel
theorem dX9_drawn_90 : decode cX9_drawn 90 = .ok (.if_icmp .ge 23, 3) := by decide +kernel
theorem dX9_drawn_93 : decode cX9_drawn 93 = .ok (.aload_n 0, 1) := by decide +kernel
theorem dX9_drawn_94 : decode cX9_drawn 94 = .ok (.iconst 1, 1) := by decide +kernel
theorem dX9_drawn_95 : decode cX9_drawn 95 = .ok (.invokevirtual 227, 3) := by decide +kernel
theorem dX9_drawn_98 : decode cX9_drawn 98 = .ok (.istore 7, 2) := by decide +kernel
theorem dX9_drawn_100 : decode cX9_drawn 100 = .ok (.iload 5, 2) := by decide +kernel
theorem dX9_drawn_102 : decode cX9_drawn 102 = .ok (.iload 7, 2) := by decide +kernel
theorem dX9_drawn_104 : decode cX9_drawn 104 = .ok (.iadd, 1) := by decide +kernel
theorem dX9_drawn_105 : decode cX9_drawn 105 = .ok (.istore 5, 2) := by decide +kernel
theorem dX9_drawn_107 : decode cX9_drawn 107 = .ok (.iinc 6 1, 3) := by decide +kernel
theorem dX9_drawn_110 : decode cX9_drawn 110 = .ok (.goto (-23), 3) := by decide +kernel
theorem dX9_drawn_113 : decode cX9_drawn 113 = .ok (.aload_n 0, 1) := by decide +kernel
theorem dX9_drawn_114 : decode cX9_drawn 114 = .ok (.invokevirtual 283, 3) := by decide +kernel
theorem dX9_drawn_117 : decode cX9_drawn 117 = .ok (.istore 6, 2) := by decide +kernel
theorem dX9_drawn_119 : decode cX9_drawn 119 = .ok (.aload_n 0, 1) := by decide +kernel
theorem dX9_drawn_120 : decode cX9_drawn 120 = .ok (.getfield 194, 3) := by decide +kernel
theorem dX9_drawn_123 : decode cX9_drawn 123 = .ok (.iload 4, 2) := by decide +kernel
theorem dX9_drawn_125 : decode cX9_drawn 125 = .ok (.isub, 1) := by decide +kernel
theorem dX9_drawn_126 : decode cX9_drawn 126 = .ok (.istore 7, 2) := by decide +kernel
theorem dX9_drawn_128 : decode cX9_drawn 128 = .ok (.aload_n 0, 1) := by decide +kernel
theorem dX9_drawn_129 : decode cX9_drawn 129 = .ok (.getfield 53, 3) := by decide +kernel
theorem dX9_drawn_132 : decode cX9_drawn 132 = .ok (.aload_n 0, 1) := by decide +kernel
theorem dX9_drawn_133 : decode cX9_drawn 133 = .ok (.getfield 28, 3) := by decide +kernel
theorem dX9_drawn_136 : decode cX9_drawn 136 = .ok (.bipush 64, 2) := by decide +kernel
theorem dX9_drawn_138 : decode cX9_drawn 138 = .ok (.invokestatic 279, 3) := by decide +kernel
theorem dX9_drawn_141 : decode cX9_drawn 141 = .ok (.aload_n 0, 1) := by decide +kernel
theorem dX9_drawn_142 : decode cX9_drawn 142 = .ok (.getfield 56, 3) := by decide +kernel
theorem dX9_drawn_145 : decode cX9_drawn 145 = .ok (.aload_n 0, 1) := by decide +kernel
theorem dX9_drawn_146 : decode cX9_drawn 146 = .ok (.getfield 22, 3) := by decide +kernel
theorem dX9_drawn_149 : decode cX9_drawn 149 = .ok (.bipush 64, 2) := by decide +kernel
theorem dX9_drawn_151 : decode cX9_drawn 151 = .ok (.invokestatic 279, 3) := by decide +kernel
theorem dX9_drawn_154 : decode cX9_drawn 154 = .ok (.aload_n 0, 1) := by decide +kernel
theorem dX9_drawn_155 : decode cX9_drawn 155 = .ok (.getfield 59, 3) := by decide +kernel
theorem dX9_drawn_158 : decode cX9_drawn 158 = .ok (.aload_n 0, 1) := by decide +kernel
theorem dX9_drawn_159 : decode cX9_drawn 159 = .ok (.getfield 25, 3) := by decide +kernel
theorem dX9_drawn_162 : decode cX9_drawn 162 = .ok (.bipush 8, 2) := by decide +kernel
theorem dX9_drawn_164 : decode cX9_drawn 164 = .ok (.invokestatic 279, 3) := by decide +kernel
theorem dX9_drawn_167 : decode cX9_drawn 167 = .ok (.aload_n 0, 1) := by decide +kernel
theorem dX9_drawn_168 : decode cX9_drawn 168 = .ok (.iload 4, 2) := by decide +kernel
theorem dX9_drawn_170 : decode cX9_drawn 170 = .ok (.putfield 194, 3) := by decide +kernel
theorem dX9_drawn_173 : decode cX9_drawn 173 = .ok (.aload_n 0, 1) := by decide +kernel
theorem dX9_drawn_174 : decode cX9_drawn 174 = .ok (.dup, 1) := by decide +kernel
theorem dX9_drawn_175 : decode cX9_drawn 175 = .ok (.getfield 222, 3) := by decide +kernel
theorem dX9_drawn_178 : decode cX9_drawn 178 = .ok (.iload_n 1, 1) := by decide +kernel
theorem dX9_drawn_179 : decode cX9_drawn 179 = .ok (.isub, 1) := by decide +kernel
theorem dX9_drawn_180 : decode cX9_drawn 180 = .ok (.putfield 222, 3) := by decide +kernel
theorem dX9_drawn_183 : decode cX9_drawn 183 = .ok (.iload_n 3, 1) := by decide +kernel
theorem dX9_drawn_184 : decode cX9_drawn 184 = .ok (.ifCond .ne 8, 3) := by decide +kernel
theorem dX9_drawn_187 : decode cX9_drawn 187 = .ok (.iload 5, 2) := by decide +kernel
theorem dX9_drawn_189 : decode cX9_drawn 189 = .ok (.goto 27, 3) := by decide +kernel
theorem dX9_drawn_192 : decode cX9_drawn 192 = .ok (.iload_n 3, 1) := by decide +kernel
theorem dX9_drawn_193 : decode cX9_drawn 193 = .ok (.iconst 1, 1) := by decide +kernel
theorem dX9_drawn_194 : decode cX9_drawn 194 = .ok (.if_icmp .ne 8, 3) := by decide +kernel
theorem dX9_drawn_197 : decode cX9_drawn 197 = .ok (.iload 6, 2) := by decide +kernel
theorem dX9_drawn_199 : decode cX9_drawn 199 = .ok (.goto 17, 3) := by decide +kernel
theorem dX9_drawn_202 : decode cX9_drawn 202 = .ok (.iload_n 3, 1) := by decide +kernel
theorem dX9_drawn_203 : decode cX9_drawn 203 = .ok (.iconst 2, 1) := by decide +kernel
theorem dX9_drawn_204 : decode cX9_drawn 204 = .ok (.if_icmp .ne 8, 3) := by decide +kernel
theorem dX9_drawn_207 : decode cX9_drawn 207 = .ok (.iload 7, 2) := by decide +kernel
theorem dX9_drawn_209 : decode cX9_drawn 209 = .ok (.goto 7, 3) := by decide +kernel
theorem dX9_drawn_212 : decode cX9_drawn 212 = .ok (.aload_n 0, 1) := by decide +kernel
theorem dX9_drawn_213 : decode cX9_drawn 213 = .ok (.getfield 202, 3) := by decide +kernel
theorem dX9_drawn_216 : decode cX9_drawn 216 = .ok (.ireturn, 1) := by decide +kernel
theorem dX9_open_0 : decode cX9_open 0 = .ok (.aload_n 0, 1) := by decide +kernel
theorem dX9_open_1 : decode cX9_open 1 = .ok (.iload_n 1, 1) := by decide +kernel
theorem dX9_open_2 : decode cX9_open 2 = .ok (.invokevirtual 147, 3) := by decide +kernel
theorem dX9_open_5 : decode cX9_open 5 = .ok (.ifCond .ne 6, 3) := by decide +kernel
theorem dX9_open_8 : decode cX9_open 8 = .ok (.bipush (-101), 2) := by decide +kernel
theorem dX9_open_10 : decode cX9_open 10 = .ok (.ireturn, 1) := by decide +kernel
theorem dX9_open_11 : decode cX9_open 11 = .ok (.iload_n 2, 1) := by decide +kernel
theorem dX9_open_12 : decode cX9_open 12 = .ok (.i2l, 1) := by decide +kernel
theorem dX9_open_13 : decode cX9_open 13 = .ok (.lconst 1, 1) := by decide +kernel
theorem dX9_open_14 : decode cX9_open 14 = .ok (.ldc2_w 249, 3) := by decide +kernel
theorem dX9_open_17 : decode cX9_open 17 = .ok (.invokestatic 108, 3) := by decide +kernel
theorem dX9_open_20 : decode cX9_open 20 = .ok (.ifCond .ne 6, 3) := by decide +kernel
theorem dX9_open_23 : decode cX9_open 23 = .ok (.bipush (-102), 2) := by decide +kernel
theorem dX9_open_25 : decode cX9_open 25 = .ok (.ireturn, 1) := by decide +kernel
theorem dX9_open_26 : decode cX9_open 26 = .ok (.aload_n 0, 1) := by decide +kernel
theorem dX9_open_27 : decode cX9_open 27 = .ok (.iload_n 1, 1) := by decide +kernel
theorem dX9_open_28 : decode cX9_open 28 = .ok (.putfield 90, 3) := by decide +kernel
theorem dX9_open_31 : decode cX9_open 31 = .ok (.aload_n 0, 1) := by decide +kernel
theorem dX9_open_32 : decode cX9_open 32 = .ok (.iload_n 2, 1) := by decide +kernel
theorem dX9_open_33 : decode cX9_open 33 = .ok (.putfield 286, 3) := by decide +kernel
theorem dX9_open_36 : decode cX9_open 36 = .ok (.iconst 0, 1) := by decide +kernel
theorem dX9_open_37 : decode cX9_open 37 = .ok (.istore_n 3, 1) := by decide +kernel
theorem dX9_open_38 : decode cX9_open 38 = .ok (.iload_n 3, 1) := by decide +kernel
theorem dX9_open_39 : decode cX9_open 39 = .ok (.bipush 8, 2) := by decide +kernel
theorem dX9_open_41 : decode cX9_open 41 = .ok (.if_icmp .ge 16, 3) := by decide +kernel
theorem dX9_open_44 : decode cX9_open 44 = .ok (.aload_n 0, 1) := by decide +kernel
theorem dX9_open_45 : decode cX9_open 45 = .ok (.getfield 62, 3) := by decide +kernel
theorem dX9_open_48 : decode cX9_open 48 = .ok (.iload_n 3, 1) := by decide +kernel
theorem dX9_open_49 : decode cX9_open 49 = .ok (.iconst (-1), 1) := by decide +kernel
theorem dX9_open_50 : decode cX9_open 50 = .ok (.iastore, 1) := by decide +kernel
theorem dX9_open_51 : decode cX9_open 51 = .ok (.iinc 3 1, 3) := by decide +kernel
theorem dX9_open_54 : decode cX9_open 54 = .ok (.goto (-16), 3) := by decide +kernel
theorem dX9_open_57 : decode cX9_open 57 = .ok (.aload_n 0, 1) := by decide +kernel
theorem dX9_open_58 : decode cX9_open 58 = .ok (.getfield 144, 3) := by decide +kernel
theorem dX9_open_61 : decode cX9_open 61 = .ok (.ireturn, 1) := by decide +kernel
theorem dX9_isYear_0 : decode cX9_isYear 0 = .ok (.iload_n 1, 1) := by decide +kernel
theorem dX9_isYear_1 : decode cX9_isYear 1 = .ok (.i2l, 1) := by decide +kernel
theorem dX9_isYear_2 : decode cX9_isYear 2 = .ok (.lconst 1, 1) := by decide +kernel
theorem dX9_isYear_3 : decode cX9_isYear 3 = .ok (.aload_n 0, 1) := by decide +kernel
theorem dX9_isYear_4 : decode cX9_isYear 4 = .ok (.getfield 286, 3) := by decide +kernel
theorem dX9_isYear_7 : decode cX9_isYear 7 = .ok (.i2l, 1) := by decide +kernel
theorem dX9_isYear_8 : decode cX9_isYear 8 = .ok (.invokestatic 108, 3) := by decide +kernel
theorem dX9_isYear_11 : decode cX9_isYear 11 = .ok (.ireturn, 1) := by decide +kernel
theorem dX9_write_0 : decode cX9_write 0 = .ok (.aload_n 0, 1) := by decide +kernel
theorem dX9_write_1 : decode cX9_write 1 = .ok (.getfield 90, 3) := by decide +kernel
theorem dX9_write_4 : decode cX9_write 4 = .ok (.iconst (-1), 1) := by decide +kernel
theorem dX9_write_5 : decode cX9_write 5 = .ok (.if_icmp .ne 6, 3) := by decide +kernel
theorem dX9_write_8 : decode cX9_write 8 = .ok (.bipush (-103), 2) := by decide +kernel
theorem dX9_write_10 : decode cX9_write 10 = .ok (.ireturn, 1) := by decide +kernel
theorem dX9_write_11 : decode cX9_write 11 = .ok (.aload_n 0, 1) := by decide +kernel
theorem dX9_write_12 : decode cX9_write 12 = .ok (.iload_n 1, 1) := by decide +kernel
theorem dX9_write_13 : decode cX9_write 13 = .ok (.invokevirtual 289, 3) := by decide +kernel
theorem dX9_write_16 : decode cX9_write 16 = .ok (.ifCond .eq 16, 3) := by decide +kernel
theorem dX9_write_19 : decode cX9_write 19 = .ok (.iload_n 2, 1) := by decide +kernel
theorem dX9_write_20 : decode cX9_write 20 = .ok (.iconst (-1), 1) := by decide +kernel
theorem dX9_write_21 : decode cX9_write 21 = .ok (.if_icmp .eq 14, 3) := by decide +kernel
theorem dX9_write_24 : decode cX9_write 24 = .ok (.aload_n 0, 1) := by decide +kernel
theorem dX9_write_25 : decode cX9_write 25 = .ok (.iload_n 2, 1) := by decide +kernel
theorem dX9_write_26 : decode cX9_write 26 = .ok (.invokevirtual 147, 3) := by decide +kernel
theorem dX9_write_29 : decode cX9_write 29 = .ok (.ifCond .ne 6, 3) := by decide +kernel
theorem dX9_write_32 : decode cX9_write 32 = .ok (.bipush (-101), 2) := by decide +kernel
theorem dX9_write_34 : decode cX9_write 34 = .ok (.ireturn, 1) := by decide +kernel
theorem dX9_write_35 : decode cX9_write 35 = .ok (.aload_n 0, 1) := by decide +kernel
theorem dX9_write_36 : decode cX9_write 36 = .ok (.getfield 62, 3) := by decide +kernel
theorem dX9_write_39 : decode cX9_write 39 = .ok (.iload_n 1, 1) := by decide +kernel
theorem dX9_write_40 : decode cX9_write 40 = .ok (.iaload, 1) := by decide +kernel
theorem dX9_write_41 : decode cX9_write 41 = .ok (.istore_n 3, 1) := by decide +kernel
theorem dX9_write_42 : decode cX9_write 42 = .ok (.aload_n 0, 1) := by decide +kernel
theorem dX9_write_43 : decode cX9_write 43 = .ok (.getfield 62, 3) := by decide +kernel
theorem dX9_write_46 : decode cX9_write 46 = .ok (.iload_n 1, 1) := by decide +kernel
theorem dX9_write_47 : decode cX9_write 47 = .ok (.iload_n 2, 1) := by decide +kernel
theorem dX9_write_48 : decode cX9_write 48 = .ok (.iastore, 1) := by decide +kernel
theorem dX9_write_49 : decode cX9_write 49 = .ok (.iload_n 3, 1) := by decide +kernel
theorem dX9_write_50 : decode cX9_write 50 = .ok (.ireturn, 1) := by decide +kernel
theorem dX9_filledOf_0 : decode cX9_filledOf 0 = .ok (.iconst 0, 1) := by decide +kernel
theorem dX9_filledOf_1 : decode cX9_filledOf 1 = .ok (.istore_n 1, 1) := by decide +kernel
theorem dX9_filledOf_2 : decode cX9_filledOf 2 = .ok (.iload_n 1, 1) := by decide +kernel
theorem dX9_filledOf_3 : decode cX9_filledOf 3 = .ok (.bipush 72, 2) := by decide +kernel
theorem dX9_filledOf_5 : decode cX9_filledOf 5 = .ok (.if_icmp .ge 34, 3) := by decide +kernel
theorem dX9_filledOf_8 : decode cX9_filledOf 8 = .ok (.aload_n 0, 1) := by decide +kernel
theorem dX9_filledOf_9 : decode cX9_filledOf 9 = .ok (.getfield 34, 3) := by decide +kernel
theorem dX9_filledOf_12 : decode cX9_filledOf 12 = .ok (.iload_n 1, 1) := by decide +kernel
theorem dX9_filledOf_13 : decode cX9_filledOf 13 = .ok (.iload_n 1, 1) := by decide +kernel
theorem dX9_filledOf_14 : decode cX9_filledOf 14 = .ok (.bipush 9, 2) := by decide +kernel
theorem dX9_filledOf_16 : decode cX9_filledOf 16 = .ok (.aload_n 0, 1) := by decide +kernel
theorem dX9_filledOf_17 : decode cX9_filledOf 17 = .ok (.getfield 90, 3) := by decide +kernel
theorem dX9_filledOf_20 : decode cX9_filledOf 20 = .ok (.imul, 1) := by decide +kernel
theorem dX9_filledOf_21 : decode cX9_filledOf 21 = .ok (.bipush 8, 2) := by decide +kernel
theorem dX9_filledOf_23 : decode cX9_filledOf 23 = .ok (.iadd, 1) := by decide +kernel
theorem dX9_filledOf_24 : decode cX9_filledOf 24 = .ok (.if_icmp .ne 7, 3) := by decide +kernel
theorem dX9_filledOf_27 : decode cX9_filledOf 27 = .ok (.lconst 1, 1) := by decide +kernel
theorem dX9_filledOf_28 : decode cX9_filledOf 28 = .ok (.goto 4, 3) := by decide +kernel
theorem dX9_filledOf_31 : decode cX9_filledOf 31 = .ok (.lconst 0, 1) := by decide +kernel
theorem dX9_filledOf_32 : decode cX9_filledOf 32 = .ok (.lastore, 1) := by decide +kernel
theorem dX9_filledOf_33 : decode cX9_filledOf 33 = .ok (.iinc 1 1, 3) := by decide +kernel
theorem dX9_filledOf_36 : decode cX9_filledOf 36 = .ok (.goto (-34), 3) := by decide +kernel
theorem dX9_filledOf_39 : decode cX9_filledOf 39 = .ok (.iconst 1, 1) := by decide +kernel
theorem dX9_filledOf_40 : decode cX9_filledOf 40 = .ok (.istore_n 1, 1) := by decide +kernel
theorem dX9_filledOf_41 : decode cX9_filledOf 41 = .ok (.iload_n 1, 1) := by decide +kernel
theorem dX9_filledOf_42 : decode cX9_filledOf 42 = .ok (.aload_n 0, 1) := by decide +kernel
theorem dX9_filledOf_43 : decode cX9_filledOf 43 = .ok (.getfield 286, 3) := by decide +kernel
theorem dX9_filledOf_46 : decode cX9_filledOf 46 = .ok (.if_icmp .gt 207, 3) := by decide +kernel
theorem dX9_filledOf_49 : decode cX9_filledOf 49 = .ok (.iconst 0, 1) := by decide +kernel
theorem dX9_filledOf_50 : decode cX9_filledOf 50 = .ok (.istore_n 2, 1) := by decide +kernel
theorem dX9_filledOf_51 : decode cX9_filledOf 51 = .ok (.iload_n 2, 1) := by decide +kernel
theorem dX9_filledOf_52 : decode cX9_filledOf 52 = .ok (.bipush 72, 2) := by decide +kernel
theorem dX9_filledOf_54 : decode cX9_filledOf 54 = .ok (.if_icmp .ge 16, 3) := by decide +kernel
theorem dX9_filledOf_57 : decode cX9_filledOf 57 = .ok (.aload_n 0, 1) := by decide +kernel
theorem dX9_filledOf_58 : decode cX9_filledOf 58 = .ok (.getfield 38, 3) := by decide +kernel
theorem dX9_filledOf_61 : decode cX9_filledOf 61 = .ok (.iload_n 2, 1) := by decide +kernel
theorem dX9_filledOf_62 : decode cX9_filledOf 62 = .ok (.lconst 0, 1) := by decide +kernel
theorem dX9_filledOf_63 : decode cX9_filledOf 63 = .ok (.lastore, 1) := by decide +kernel
theorem dX9_filledOf_64 : decode cX9_filledOf 64 = .ok (.iinc 2 1, 3) := by decide +kernel
theorem dX9_filledOf_67 : decode cX9_filledOf 67 = .ok (.goto (-16), 3) := by decide +kernel
theorem dX9_filledOf_70 : decode cX9_filledOf 70 = .ok (.iconst 0, 1) := by decide +kernel
theorem dX9_filledOf_71 : decode cX9_filledOf 71 = .ok (.istore_n 2, 1) := by decide +kernel
theorem dX9_filledOf_72 : decode cX9_filledOf 72 = .ok (.iload_n 2, 1) := by decide +kernel
theorem dX9_filledOf_73 : decode cX9_filledOf 73 = .ok (.bipush 72, 2) := by decide +kernel
theorem dX9_filledOf_75 : decode cX9_filledOf 75 = .ok (.if_icmp .ge 146, 3) := by decide +kernel
theorem dX9_filledOf_78 : decode cX9_filledOf 78 = .ok (.iload_n 2, 1) := by decide +kernel
theorem dX9_filledOf_79 : decode cX9_filledOf 79 = .ok (.bipush 9, 2) := by decide +kernel
theorem dX9_filledOf_81 : decode cX9_filledOf 81 = .ok (.idiv, 1) := by decide +kernel
theorem dX9_filledOf_82 : decode cX9_filledOf 82 = .ok (.istore_n 3, 1) := by decide +kernel
theorem dX9_filledOf_83 : decode cX9_filledOf 83 = .ok (.iconst 0, 1) := by decide +kernel
theorem dX9_filledOf_84 : decode cX9_filledOf 84 = .ok (.istore 4, 2) := by decide +kernel
theorem dX9_filledOf_86 : decode cX9_filledOf 86 = .ok (.iload 4, 2) := by decide +kernel
theorem dX9_filledOf_88 : decode cX9_filledOf 88 = .ok (.aload_n 0, 1) := by decide +kernel
theorem dX9_filledOf_89 : decode cX9_filledOf 89 = .ok (.getfield 144, 3) := by decide +kernel
theorem dX9_filledOf_92 : decode cX9_filledOf 92 = .ok (.if_icmp .ge 123, 3) := by decide +kernel
theorem dX9_filledOf_95 : decode cX9_filledOf 95 = .ok (.aload_n 0, 1) := by decide +kernel
theorem dX9_filledOf_96 : decode cX9_filledOf 96 = .ok (.getfield 34, 3) := by decide +kernel
theorem dX9_filledOf_99 : decode cX9_filledOf 99 = .ok (.iload_n 2, 1) := by decide +kernel
theorem dX9_filledOf_100 : decode cX9_filledOf 100 = .ok (.laload, 1) := by decide +kernel
theorem dX9_filledOf_101 : decode cX9_filledOf 101 = .ok (.lconst 0, 1) := by decide +kernel
theorem dX9_filledOf_102 : decode cX9_filledOf 102 = .ok (.lcmp, 1) := by decide +kernel
theorem dX9_filledOf_103 : decode cX9_filledOf 103 = .ok (.ifCond .le 112, 3) := by decide +kernel
theorem dX9_filledOf_106 : decode cX9_filledOf 106 = .ok (.aload_n 0, 1) := by decide +kernel
theorem dX9_filledOf_107 : decode cX9_filledOf 107 = .ok (.getfield 16, 3) := by decide +kernel
theorem dX9_filledOf_110 : decode cX9_filledOf 110 = .ok (.iload_n 3, 1) := by decide +kernel
theorem dX9_filledOf_111 : decode cX9_filledOf 111 = .ok (.iaload, 1) := by decide +kernel
theorem dX9_filledOf_112 : decode cX9_filledOf 112 = .ok (.iload 4, 2) := by decide +kernel
theorem dX9_filledOf_114 : decode cX9_filledOf 114 = .ok (.ishr, 1) := by decide +kernel
theorem dX9_filledOf_115 : decode cX9_filledOf 115 = .ok (.iconst 1, 1) := by decide +kernel
theorem dX9_filledOf_116 : decode cX9_filledOf 116 = .ok (.iand, 1) := by decide +kernel
theorem dX9_filledOf_117 : decode cX9_filledOf 117 = .ok (.iconst 1, 1) := by decide +kernel
theorem dX9_filledOf_118 : decode cX9_filledOf 118 = .ok (.if_icmp .ne 25, 3) := by decide +kernel
theorem dX9_filledOf_121 : decode cX9_filledOf 121 = .ok (.iload 4, 2) := by decide +kernel
theorem dX9_filledOf_123 : decode cX9_filledOf 123 = .ok (.iload_n 2, 1) := by decide +kernel
theorem dX9_filledOf_124 : decode cX9_filledOf 124 = .ok (.bipush 9, 2) := by decide +kernel
theorem dX9_filledOf_126 : decode cX9_filledOf 126 = .ok (.irem, 1) := by decide +kernel
theorem dX9_filledOf_127 : decode cX9_filledOf 127 = .ok (.if_icmp .eq 16, 3) := by decide +kernel
theorem dX9_filledOf_130 : decode cX9_filledOf 130 = .ok (.iload 4, 2) := by decide +kernel
theorem dX9_filledOf_132 : decode cX9_filledOf 132 = .ok (.aload_n 0, 1) := by decide +kernel
theorem dX9_filledOf_133 : decode cX9_filledOf 133 = .ok (.getfield 90, 3) := by decide +kernel
theorem dX9_filledOf_136 : decode cX9_filledOf 136 = .ok (.if_icmp .eq 7, 3) := by decide +kernel
theorem dX9_filledOf_139 : decode cX9_filledOf 139 = .ok (.iconst 1, 1) := by decide +kernel
theorem dX9_filledOf_140 : decode cX9_filledOf 140 = .ok (.goto 4, 3) := by decide +kernel
theorem dX9_filledOf_143 : decode cX9_filledOf 143 = .ok (.iconst 0, 1) := by decide +kernel
theorem dX9_filledOf_144 : decode cX9_filledOf 144 = .ok (.istore 5, 2) := by decide +kernel
theorem dX9_filledOf_146 : decode cX9_filledOf 146 = .ok (.iload 5, 2) := by decide +kernel
theorem dX9_filledOf_148 : decode cX9_filledOf 148 = .ok (.ifCond .eq 28, 3) := by decide +kernel
theorem dX9_filledOf_151 : decode cX9_filledOf 151 = .ok (.aload_n 0, 1) := by decide +kernel
theorem dX9_filledOf_152 : decode cX9_filledOf 152 = .ok (.getfield 62, 3) := by decide +kernel
theorem dX9_filledOf_155 : decode cX9_filledOf 155 = .ok (.iload_n 1, 1) := by decide +kernel
theorem dX9_filledOf_156 : decode cX9_filledOf 156 = .ok (.iaload, 1) := by decide +kernel
theorem dX9_filledOf_157 : decode cX9_filledOf 157 = .ok (.iconst (-1), 1) := by decide +kernel
theorem dX9_filledOf_158 : decode cX9_filledOf 158 = .ok (.if_icmp .eq 14, 3) := by decide +kernel
theorem dX9_filledOf_161 : decode cX9_filledOf 161 = .ok (.aload_n 0, 1) := by decide +kernel
theorem dX9_filledOf_162 : decode cX9_filledOf 162 = .ok (.getfield 62, 3) := by decide +kernel
theorem dX9_filledOf_165 : decode cX9_filledOf 165 = .ok (.iload_n 1, 1) := by decide +kernel
theorem dX9_filledOf_166 : decode cX9_filledOf 166 = .ok (.iaload, 1) := by decide +kernel
theorem dX9_filledOf_167 : decode cX9_filledOf 167 = .ok (.iload 4, 2) := by decide +kernel
theorem dX9_filledOf_169 : decode cX9_filledOf 169 = .ok (.if_icmp .ne 7, 3) := by decide +kernel
theorem dX9_filledOf_172 : decode cX9_filledOf 172 = .ok (.iconst 1, 1) := by decide +kernel
theorem dX9_filledOf_173 : decode cX9_filledOf 173 = .ok (.goto 4, 3) := by decide +kernel
theorem dX9_filledOf_176 : decode cX9_filledOf 176 = .ok (.iconst 0, 1) := by decide +kernel
theorem dX9_filledOf_177 : decode cX9_filledOf 177 = .ok (.istore 5, 2) := by decide +kernel
theorem dX9_filledOf_179 : decode cX9_filledOf 179 = .ok (.aload_n 0, 1) := by decide +kernel
theorem dX9_filledOf_180 : decode cX9_filledOf 180 = .ok (.getfield 38, 3) := by decide +kernel
theorem dX9_filledOf_183 : decode cX9_filledOf 183 = .ok (.bipush 9, 2) := by decide +kernel
theorem dX9_filledOf_185 : decode cX9_filledOf 185 = .ok (.iload 4, 2) := by decide +kernel
theorem dX9_filledOf_187 : decode cX9_filledOf 187 = .ok (.imul, 1) := by decide +kernel
theorem dX9_filledOf_188 : decode cX9_filledOf 188 = .ok (.iload_n 3, 1) := by decide +kernel
theorem dX9_filledOf_189 : decode cX9_filledOf 189 = .ok (.iadd, 1) := by decide +kernel
theorem dX9_filledOf_190 : decode cX9_filledOf 190 = .ok (.dup2, 1) := by decide +kernel
theorem dX9_filledOf_191 : decode cX9_filledOf 191 = .ok (.laload, 1) := by decide +kernel
theorem dX9_filledOf_192 : decode cX9_filledOf 192 = .ok (.iload 5, 2) := by decide +kernel
theorem dX9_filledOf_194 : decode cX9_filledOf 194 = .ok (.ifCond .eq 12, 3) := by decide +kernel
theorem dX9_filledOf_197 : decode cX9_filledOf 197 = .ok (.aload_n 0, 1) := by decide +kernel
theorem dX9_filledOf_198 : decode cX9_filledOf 198 = .ok (.getfield 34, 3) := by decide +kernel
theorem dX9_filledOf_201 : decode cX9_filledOf 201 = .ok (.iload_n 2, 1) := by decide +kernel
theorem dX9_filledOf_202 : decode cX9_filledOf 202 = .ok (.laload, 1) := by decide +kernel
theorem dX9_filledOf_203 : decode cX9_filledOf 203 = .ok (.goto 4, 3) := by decide +kernel
theorem dX9_filledOf_206 : decode cX9_filledOf 206 = .ok (.lconst 0, 1) := by decide +kernel
theorem dX9_filledOf_207 : decode cX9_filledOf 207 = .ok (.ladd, 1) := by decide +kernel
theorem dX9_filledOf_208 : decode cX9_filledOf 208 = .ok (.lastore, 1) := by decide +kernel
theorem dX9_filledOf_209 : decode cX9_filledOf 209 = .ok (.iinc 4 1, 3) := by decide +kernel
theorem dX9_filledOf_212 : decode cX9_filledOf 212 = .ok (.goto (-126), 3) := by decide +kernel
theorem dX9_filledOf_215 : decode cX9_filledOf 215 = .ok (.iinc 2 1, 3) := by decide +kernel
theorem dX9_filledOf_218 : decode cX9_filledOf 218 = .ok (.goto (-146), 3) := by decide +kernel
theorem dX9_filledOf_221 : decode cX9_filledOf 221 = .ok (.iconst 0, 1) := by decide +kernel
theorem dX9_filledOf_222 : decode cX9_filledOf 222 = .ok (.istore_n 2, 1) := by decide +kernel
theorem dX9_filledOf_223 : decode cX9_filledOf 223 = .ok (.iload_n 2, 1) := by decide +kernel
theorem dX9_filledOf_224 : decode cX9_filledOf 224 = .ok (.bipush 72, 2) := by decide +kernel
theorem dX9_filledOf_226 : decode cX9_filledOf 226 = .ok (.if_icmp .ge 21, 3) := by decide +kernel
theorem dX9_filledOf_229 : decode cX9_filledOf 229 = .ok (.aload_n 0, 1) := by decide +kernel
theorem dX9_filledOf_230 : decode cX9_filledOf 230 = .ok (.getfield 34, 3) := by decide +kernel
theorem dX9_filledOf_233 : decode cX9_filledOf 233 = .ok (.iload_n 2, 1) := by decide +kernel
theorem dX9_filledOf_234 : decode cX9_filledOf 234 = .ok (.aload_n 0, 1) := by decide +kernel
theorem dX9_filledOf_235 : decode cX9_filledOf 235 = .ok (.getfield 38, 3) := by decide +kernel
theorem dX9_filledOf_238 : decode cX9_filledOf 238 = .ok (.iload_n 2, 1) := by decide +kernel
theorem dX9_filledOf_239 : decode cX9_filledOf 239 = .ok (.laload, 1) := by decide +kernel
theorem dX9_filledOf_240 : decode cX9_filledOf 240 = .ok (.lastore, 1) := by decide +kernel
theorem dX9_filledOf_241 : decode cX9_filledOf 241 = .ok (.iinc 2 1, 3) := by decide +kernel
theorem dX9_filledOf_244 : decode cX9_filledOf 244 = .ok (.goto (-21), 3) := by decide +kernel
theorem dX9_filledOf_247 : decode cX9_filledOf 247 = .ok (.iinc 1 1, 3) := by decide +kernel
theorem dX9_filledOf_250 : decode cX9_filledOf 250 = .ok (.goto (-209), 3) := by decide +kernel
theorem dX9_filledOf_253 : decode cX9_filledOf 253 = .ok (.lconst 0, 1) := by decide +kernel
theorem dX9_filledOf_254 : decode cX9_filledOf 254 = .ok (.lstore_n 1, 1) := by decide +kernel
theorem dX9_filledOf_255 : decode cX9_filledOf 255 = .ok (.iconst 0, 1) := by decide +kernel
theorem dX9_filledOf_256 : decode cX9_filledOf 256 = .ok (.istore_n 3, 1) := by decide +kernel
theorem dX9_filledOf_257 : decode cX9_filledOf 257 = .ok (.iload_n 3, 1) := by decide +kernel
theorem dX9_filledOf_258 : decode cX9_filledOf 258 = .ok (.bipush 72, 2) := by decide +kernel
theorem dX9_filledOf_260 : decode cX9_filledOf 260 = .ok (.if_icmp .ge 18, 3) := by decide +kernel
theorem dX9_filledOf_263 : decode cX9_filledOf 263 = .ok (.lload_n 1, 1) := by decide +kernel
theorem dX9_filledOf_264 : decode cX9_filledOf 264 = .ok (.aload_n 0, 1) := by decide +kernel
theorem dX9_filledOf_265 : decode cX9_filledOf 265 = .ok (.getfield 34, 3) := by decide +kernel
theorem dX9_filledOf_268 : decode cX9_filledOf 268 = .ok (.iload_n 3, 1) := by decide +kernel
theorem dX9_filledOf_269 : decode cX9_filledOf 269 = .ok (.laload, 1) := by decide +kernel
theorem dX9_filledOf_270 : decode cX9_filledOf 270 = .ok (.ladd, 1) := by decide +kernel
theorem dX9_filledOf_271 : decode cX9_filledOf 271 = .ok (.lstore_n 1, 1) := by decide +kernel
theorem dX9_filledOf_272 : decode cX9_filledOf 272 = .ok (.iinc 3 1, 3) := by decide +kernel
theorem dX9_filledOf_275 : decode cX9_filledOf 275 = .ok (.goto (-18), 3) := by decide +kernel
theorem dX9_filledOf_278 : decode cX9_filledOf 278 = .ok (.lload_n 1, 1) := by decide +kernel
theorem dX9_filledOf_279 : decode cX9_filledOf 279 = .ok (.l2i, 1) := by decide +kernel
theorem dX9_filledOf_280 : decode cX9_filledOf 280 = .ok (.ireturn, 1) := by decide +kernel
theorem dX9_filled_0 : decode cX9_filled 0 = .ok (.aload_n 0, 1) := by decide +kernel
theorem dX9_filled_1 : decode cX9_filled 1 = .ok (.getfield 90, 3) := by decide +kernel
theorem dX9_filled_4 : decode cX9_filled 4 = .ok (.iconst (-1), 1) := by decide +kernel
theorem dX9_filled_5 : decode cX9_filled 5 = .ok (.if_icmp .ne 8, 3) := by decide +kernel
theorem dX9_filled_8 : decode cX9_filled 8 = .ok (.bipush (-103), 2) := by decide +kernel
theorem dX9_filled_10 : decode cX9_filled 10 = .ok (.goto 7, 3) := by decide +kernel
theorem dX9_filled_13 : decode cX9_filled 13 = .ok (.aload_n 0, 1) := by decide +kernel
theorem dX9_filled_14 : decode cX9_filled 14 = .ok (.invokevirtual 292, 3) := by decide +kernel
theorem dX9_filled_17 : decode cX9_filled 17 = .ok (.ireturn, 1) := by decide +kernel
theorem dX9_sure_0 : decode cX9_sure 0 = .ok (.aload_n 0, 1) := by decide +kernel
theorem dX9_sure_1 : decode cX9_sure 1 = .ok (.getfield 90, 3) := by decide +kernel
theorem dX9_sure_4 : decode cX9_sure 4 = .ok (.iconst (-1), 1) := by decide +kernel
theorem dX9_sure_5 : decode cX9_sure 5 = .ok (.if_icmp .ne 6, 3) := by decide +kernel
theorem dX9_sure_8 : decode cX9_sure 8 = .ok (.bipush (-103), 2) := by decide +kernel
theorem dX9_sure_10 : decode cX9_sure 10 = .ok (.ireturn, 1) := by decide +kernel
theorem dX9_sure_11 : decode cX9_sure 11 = .ok (.aload_n 0, 1) := by decide +kernel
theorem dX9_sure_12 : decode cX9_sure 12 = .ok (.iload_n 1, 1) := by decide +kernel
theorem dX9_sure_13 : decode cX9_sure 13 = .ok (.invokevirtual 289, 3) := by decide +kernel
theorem dX9_sure_16 : decode cX9_sure 16 = .ok (.ifCond .ne 6, 3) := by decide +kernel
theorem dX9_sure_19 : decode cX9_sure 19 = .ok (.bipush (-101), 2) := by decide +kernel
theorem dX9_sure_21 : decode cX9_sure 21 = .ok (.ireturn, 1) := by decide +kernel
theorem dX9_sure_22 : decode cX9_sure 22 = .ok (.aload_n 0, 1) := by decide +kernel
theorem dX9_sure_23 : decode cX9_sure 23 = .ok (.getfield 62, 3) := by decide +kernel
theorem dX9_sure_26 : decode cX9_sure 26 = .ok (.iload_n 1, 1) := by decide +kernel
theorem dX9_sure_27 : decode cX9_sure 27 = .ok (.iaload, 1) := by decide +kernel
theorem dX9_sure_28 : decode cX9_sure 28 = .ok (.istore_n 2, 1) := by decide +kernel
theorem dX9_sure_29 : decode cX9_sure 29 = .ok (.iconst (-1), 1) := by decide +kernel
theorem dX9_sure_30 : decode cX9_sure 30 = .ok (.istore_n 3, 1) := by decide +kernel
theorem dX9_sure_31 : decode cX9_sure 31 = .ok (.iconst 0, 1) := by decide +kernel
theorem dX9_sure_32 : decode cX9_sure 32 = .ok (.istore 4, 2) := by decide +kernel
theorem dX9_sure_34 : decode cX9_sure 34 = .ok (.iconst 0, 1) := by decide +kernel
theorem dX9_sure_35 : decode cX9_sure 35 = .ok (.istore 5, 2) := by decide +kernel
theorem dX9_sure_37 : decode cX9_sure 37 = .ok (.iload 5, 2) := by decide +kernel
theorem dX9_sure_39 : decode cX9_sure 39 = .ok (.aload_n 0, 1) := by decide +kernel
theorem dX9_sure_40 : decode cX9_sure 40 = .ok (.getfield 144, 3) := by decide +kernel
theorem dX9_sure_43 : decode cX9_sure 43 = .ok (.if_icmp .ge 69, 3) := by decide +kernel
theorem dX9_sure_46 : decode cX9_sure 46 = .ok (.aload_n 0, 1) := by decide +kernel
theorem dX9_sure_47 : decode cX9_sure 47 = .ok (.getfield 62, 3) := by decide +kernel
theorem dX9_sure_50 : decode cX9_sure 50 = .ok (.iload_n 1, 1) := by decide +kernel
theorem dX9_sure_51 : decode cX9_sure 51 = .ok (.iload 5, 2) := by decide +kernel
theorem dX9_sure_53 : decode cX9_sure 53 = .ok (.iastore, 1) := by decide +kernel
theorem dX9_sure_54 : decode cX9_sure 54 = .ok (.iload_n 2, 1) := by decide +kernel
theorem dX9_sure_55 : decode cX9_sure 55 = .ok (.iconst (-1), 1) := by decide +kernel
theorem dX9_sure_56 : decode cX9_sure 56 = .ok (.if_icmp .eq 9, 3) := by decide +kernel
theorem dX9_sure_59 : decode cX9_sure 59 = .ok (.iload_n 2, 1) := by decide +kernel
theorem dX9_sure_60 : decode cX9_sure 60 = .ok (.iload 5, 2) := by decide +kernel
theorem dX9_sure_62 : decode cX9_sure 62 = .ok (.if_icmp .ne 14, 3) := by decide +kernel
theorem dX9_sure_65 : decode cX9_sure 65 = .ok (.aload_n 0, 1) := by decide +kernel
theorem dX9_sure_66 : decode cX9_sure 66 = .ok (.invokevirtual 292, 3) := by decide +kernel
theorem dX9_sure_69 : decode cX9_sure 69 = .ok (.ifCond .le 7, 3) := by decide +kernel
theorem dX9_sure_72 : decode cX9_sure 72 = .ok (.iconst 1, 1) := by decide +kernel
theorem dX9_sure_73 : decode cX9_sure 73 = .ok (.goto 4, 3) := by decide +kernel
theorem dX9_sure_76 : decode cX9_sure 76 = .ok (.iconst 0, 1) := by decide +kernel
theorem dX9_sure_77 : decode cX9_sure 77 = .ok (.istore 6, 2) := by decide +kernel
theorem dX9_sure_79 : decode cX9_sure 79 = .ok (.iload 6, 2) := by decide +kernel
theorem dX9_sure_81 : decode cX9_sure 81 = .ok (.ifCond .eq 8, 3) := by decide +kernel
theorem dX9_sure_84 : decode cX9_sure 84 = .ok (.iload 5, 2) := by decide +kernel
theorem dX9_sure_86 : decode cX9_sure 86 = .ok (.goto 4, 3) := by decide +kernel
theorem dX9_sure_89 : decode cX9_sure 89 = .ok (.iload_n 3, 1) := by decide +kernel
theorem dX9_sure_90 : decode cX9_sure 90 = .ok (.istore_n 3, 1) := by decide +kernel
theorem dX9_sure_91 : decode cX9_sure 91 = .ok (.iload 4, 2) := by decide +kernel
theorem dX9_sure_93 : decode cX9_sure 93 = .ok (.iload 6, 2) := by decide +kernel
theorem dX9_sure_95 : decode cX9_sure 95 = .ok (.ifCond .eq 7, 3) := by decide +kernel
theorem dX9_sure_98 : decode cX9_sure 98 = .ok (.iconst 1, 1) := by decide +kernel
theorem dX9_sure_99 : decode cX9_sure 99 = .ok (.goto 4, 3) := by decide +kernel
theorem dX9_sure_102 : decode cX9_sure 102 = .ok (.iconst 0, 1) := by decide +kernel
theorem dX9_sure_103 : decode cX9_sure 103 = .ok (.iadd, 1) := by decide +kernel
theorem dX9_sure_104 : decode cX9_sure 104 = .ok (.istore 4, 2) := by decide +kernel
theorem dX9_sure_106 : decode cX9_sure 106 = .ok (.iinc 5 1, 3) := by decide +kernel
theorem dX9_sure_109 : decode cX9_sure 109 = .ok (.goto (-72), 3) := by decide +kernel
theorem dX9_sure_112 : decode cX9_sure 112 = .ok (.aload_n 0, 1) := by decide +kernel
theorem dX9_sure_113 : decode cX9_sure 113 = .ok (.getfield 62, 3) := by decide +kernel
theorem dX9_sure_116 : decode cX9_sure 116 = .ok (.iload_n 1, 1) := by decide +kernel
theorem dX9_sure_117 : decode cX9_sure 117 = .ok (.iload_n 2, 1) := by decide +kernel
theorem dX9_sure_118 : decode cX9_sure 118 = .ok (.iastore, 1) := by decide +kernel
theorem dX9_sure_119 : decode cX9_sure 119 = .ok (.iload 4, 2) := by decide +kernel
theorem dX9_sure_121 : decode cX9_sure 121 = .ok (.iconst 1, 1) := by decide +kernel
theorem dX9_sure_122 : decode cX9_sure 122 = .ok (.if_icmp .ne 7, 3) := by decide +kernel
theorem dX9_sure_125 : decode cX9_sure 125 = .ok (.iload_n 3, 1) := by decide +kernel
theorem dX9_sure_126 : decode cX9_sure 126 = .ok (.goto 4, 3) := by decide +kernel
theorem dX9_sure_129 : decode cX9_sure 129 = .ok (.iconst (-1), 1) := by decide +kernel
theorem dX9_sure_130 : decode cX9_sure 130 = .ok (.ireturn, 1) := by decide +kernel
theorem dX9_image_0 : decode cX9_image 0 = .ok (.aload_n 0, 1) := by decide +kernel
theorem dX9_image_1 : decode cX9_image 1 = .ok (.getfield 28, 3) := by decide +kernel
theorem dX9_image_4 : decode cX9_image 4 = .ok (.aload_n 0, 1) := by decide +kernel
theorem dX9_image_5 : decode cX9_image 5 = .ok (.getfield 65, 3) := by decide +kernel
theorem dX9_image_8 : decode cX9_image 8 = .ok (.bipush 64, 2) := by decide +kernel
theorem dX9_image_10 : decode cX9_image 10 = .ok (.invokestatic 279, 3) := by decide +kernel
theorem dX9_image_13 : decode cX9_image 13 = .ok (.aload_n 0, 1) := by decide +kernel
theorem dX9_image_14 : decode cX9_image 14 = .ok (.getfield 22, 3) := by decide +kernel
theorem dX9_image_17 : decode cX9_image 17 = .ok (.aload_n 0, 1) := by decide +kernel
theorem dX9_image_18 : decode cX9_image 18 = .ok (.getfield 68, 3) := by decide +kernel
theorem dX9_image_21 : decode cX9_image 21 = .ok (.bipush 64, 2) := by decide +kernel
theorem dX9_image_23 : decode cX9_image 23 = .ok (.invokestatic 279, 3) := by decide +kernel
theorem dX9_image_26 : decode cX9_image 26 = .ok (.aload_n 0, 1) := by decide +kernel
theorem dX9_image_27 : decode cX9_image 27 = .ok (.getfield 19, 3) := by decide +kernel
theorem dX9_image_30 : decode cX9_image 30 = .ok (.aload_n 0, 1) := by decide +kernel
theorem dX9_image_31 : decode cX9_image 31 = .ok (.getfield 71, 3) := by decide +kernel
theorem dX9_image_34 : decode cX9_image 34 = .ok (.bipush 64, 2) := by decide +kernel
theorem dX9_image_36 : decode cX9_image 36 = .ok (.invokestatic 279, 3) := by decide +kernel
theorem dX9_image_39 : decode cX9_image 39 = .ok (.aload_n 0, 1) := by decide +kernel
theorem dX9_image_40 : decode cX9_image 40 = .ok (.getfield 16, 3) := by decide +kernel
theorem dX9_image_43 : decode cX9_image 43 = .ok (.aload_n 0, 1) := by decide +kernel
theorem dX9_image_44 : decode cX9_image 44 = .ok (.getfield 74, 3) := by decide +kernel
theorem dX9_image_47 : decode cX9_image 47 = .ok (.bipush 8, 2) := by decide +kernel
theorem dX9_image_49 : decode cX9_image 49 = .ok (.invokestatic 279, 3) := by decide +kernel
theorem dX9_image_52 : decode cX9_image 52 = .ok (.aload_n 0, 1) := by decide +kernel
theorem dX9_image_53 : decode cX9_image 53 = .ok (.getfield 25, 3) := by decide +kernel
theorem dX9_image_56 : decode cX9_image 56 = .ok (.aload_n 0, 1) := by decide +kernel
theorem dX9_image_57 : decode cX9_image 57 = .ok (.getfield 77, 3) := by decide +kernel
theorem dX9_image_60 : decode cX9_image 60 = .ok (.bipush 8, 2) := by decide +kernel
theorem dX9_image_62 : decode cX9_image 62 = .ok (.invokestatic 279, 3) := by decide +kernel
theorem dX9_image_65 : decode cX9_image 65 = .ok (.aload_n 0, 1) := by decide +kernel
theorem dX9_image_66 : decode cX9_image 66 = .ok (.aload_n 0, 1) := by decide +kernel
theorem dX9_image_67 : decode cX9_image 67 = .ok (.getfield 158, 3) := by decide +kernel
theorem dX9_image_70 : decode cX9_image 70 = .ok (.putfield 80, 3) := by decide +kernel
theorem dX9_image_73 : decode cX9_image 73 = .ok (.aload_n 0, 1) := by decide +kernel
theorem dX9_image_74 : decode cX9_image 74 = .ok (.aload_n 0, 1) := by decide +kernel
theorem dX9_image_75 : decode cX9_image 75 = .ok (.getfield 144, 3) := by decide +kernel
theorem dX9_image_78 : decode cX9_image 78 = .ok (.putfield 295, 3) := by decide +kernel
theorem dX9_image_81 : decode cX9_image 81 = .ok (.aload_n 0, 1) := by decide +kernel
theorem dX9_image_82 : decode cX9_image 82 = .ok (.aload_n 0, 1) := by decide +kernel
theorem dX9_image_83 : decode cX9_image 83 = .ok (.getfield 194, 3) := by decide +kernel
theorem dX9_image_86 : decode cX9_image 86 = .ok (.putfield 298, 3) := by decide +kernel
theorem dX9_image_89 : decode cX9_image 89 = .ok (.aload_n 0, 1) := by decide +kernel
theorem dX9_image_90 : decode cX9_image 90 = .ok (.aload_n 0, 1) := by decide +kernel
theorem dX9_image_91 : decode cX9_image 91 = .ok (.getfield 222, 3) := by decide +kernel
theorem dX9_image_94 : decode cX9_image 94 = .ok (.putfield 301, 3) := by decide +kernel
theorem dX9_image_97 : decode cX9_image 97 = .ok (.aload_n 0, 1) := by decide +kernel
theorem dX9_image_98 : decode cX9_image 98 = .ok (.getfield 158, 3) := by decide +kernel
theorem dX9_image_101 : decode cX9_image 101 = .ok (.ireturn, 1) := by decide +kernel
theorem dX9_restore_0 : decode cX9_restore 0 = .ok (.aload_n 0, 1) := by decide +kernel
theorem dX9_restore_1 : decode cX9_restore 1 = .ok (.getfield 80, 3) := by decide +kernel
theorem dX9_restore_4 : decode cX9_restore 4 = .ok (.iconst (-1), 1) := by decide +kernel
theorem dX9_restore_5 : decode cX9_restore 5 = .ok (.if_icmp .eq 14, 3) := by decide +kernel
theorem dX9_restore_8 : decode cX9_restore 8 = .ok (.aload_n 0, 1) := by decide +kernel
theorem dX9_restore_9 : decode cX9_restore 9 = .ok (.getfield 295, 3) := by decide +kernel
theorem dX9_restore_12 : decode cX9_restore 12 = .ok (.aload_n 0, 1) := by decide +kernel
theorem dX9_restore_13 : decode cX9_restore 13 = .ok (.getfield 144, 3) := by decide +kernel
theorem dX9_restore_16 : decode cX9_restore 16 = .ok (.if_icmp .eq 6, 3) := by decide +kernel
theorem dX9_restore_19 : decode cX9_restore 19 = .ok (.bipush (-103), 2) := by decide +kernel
theorem dX9_restore_21 : decode cX9_restore 21 = .ok (.ireturn, 1) := by decide +kernel
theorem dX9_restore_22 : decode cX9_restore 22 = .ok (.aload_n 0, 1) := by decide +kernel
theorem dX9_restore_23 : decode cX9_restore 23 = .ok (.getfield 65, 3) := by decide +kernel
theorem dX9_restore_26 : decode cX9_restore 26 = .ok (.aload_n 0, 1) := by decide +kernel
theorem dX9_restore_27 : decode cX9_restore 27 = .ok (.getfield 28, 3) := by decide +kernel
theorem dX9_restore_30 : decode cX9_restore 30 = .ok (.bipush 64, 2) := by decide +kernel
theorem dX9_restore_32 : decode cX9_restore 32 = .ok (.invokestatic 279, 3) := by decide +kernel
theorem dX9_restore_35 : decode cX9_restore 35 = .ok (.aload_n 0, 1) := by decide +kernel
theorem dX9_restore_36 : decode cX9_restore 36 = .ok (.getfield 68, 3) := by decide +kernel
theorem dX9_restore_39 : decode cX9_restore 39 = .ok (.aload_n 0, 1) := by decide +kernel
theorem dX9_restore_40 : decode cX9_restore 40 = .ok (.getfield 22, 3) := by decide +kernel
theorem dX9_restore_43 : decode cX9_restore 43 = .ok (.bipush 64, 2) := by decide +kernel
theorem dX9_restore_45 : decode cX9_restore 45 = .ok (.invokestatic 279, 3) := by decide +kernel
theorem dX9_restore_48 : decode cX9_restore 48 = .ok (.aload_n 0, 1) := by decide +kernel
theorem dX9_restore_49 : decode cX9_restore 49 = .ok (.getfield 71, 3) := by decide +kernel
theorem dX9_restore_52 : decode cX9_restore 52 = .ok (.aload_n 0, 1) := by decide +kernel
theorem dX9_restore_53 : decode cX9_restore 53 = .ok (.getfield 19, 3) := by decide +kernel
theorem dX9_restore_56 : decode cX9_restore 56 = .ok (.bipush 64, 2) := by decide +kernel
theorem dX9_restore_58 : decode cX9_restore 58 = .ok (.invokestatic 279, 3) := by decide +kernel
theorem dX9_restore_61 : decode cX9_restore 61 = .ok (.aload_n 0, 1) := by decide +kernel
theorem dX9_restore_62 : decode cX9_restore 62 = .ok (.getfield 74, 3) := by decide +kernel
theorem dX9_restore_65 : decode cX9_restore 65 = .ok (.aload_n 0, 1) := by decide +kernel
theorem dX9_restore_66 : decode cX9_restore 66 = .ok (.getfield 16, 3) := by decide +kernel
theorem dX9_restore_69 : decode cX9_restore 69 = .ok (.bipush 8, 2) := by decide +kernel
theorem dX9_restore_71 : decode cX9_restore 71 = .ok (.invokestatic 279, 3) := by decide +kernel
theorem dX9_restore_74 : decode cX9_restore 74 = .ok (.aload_n 0, 1) := by decide +kernel
theorem dX9_restore_75 : decode cX9_restore 75 = .ok (.getfield 77, 3) := by decide +kernel
theorem dX9_restore_78 : decode cX9_restore 78 = .ok (.aload_n 0, 1) := by decide +kernel
theorem dX9_restore_79 : decode cX9_restore 79 = .ok (.getfield 25, 3) := by decide +kernel
theorem dX9_restore_82 : decode cX9_restore 82 = .ok (.bipush 8, 2) := by decide +kernel
theorem dX9_restore_84 : decode cX9_restore 84 = .ok (.invokestatic 279, 3) := by decide +kernel
theorem dX9_restore_87 : decode cX9_restore 87 = .ok (.aload_n 0, 1) := by decide +kernel
theorem dX9_restore_88 : decode cX9_restore 88 = .ok (.aload_n 0, 1) := by decide +kernel
theorem dX9_restore_89 : decode cX9_restore 89 = .ok (.getfield 80, 3) := by decide +kernel
theorem dX9_restore_92 : decode cX9_restore 92 = .ok (.putfield 158, 3) := by decide +kernel
theorem dX9_restore_95 : decode cX9_restore 95 = .ok (.aload_n 0, 1) := by decide +kernel
theorem dX9_restore_96 : decode cX9_restore 96 = .ok (.aload_n 0, 1) := by decide +kernel
theorem dX9_restore_97 : decode cX9_restore 97 = .ok (.getfield 298, 3) := by decide +kernel
theorem dX9_restore_100 : decode cX9_restore 100 = .ok (.putfield 194, 3) := by decide +kernel
theorem dX9_restore_103 : decode cX9_restore 103 = .ok (.aload_n 0, 1) := by decide +kernel
theorem dX9_restore_104 : decode cX9_restore 104 = .ok (.aload_n 0, 1) := by decide +kernel
theorem dX9_restore_105 : decode cX9_restore 105 = .ok (.getfield 301, 3) := by decide +kernel
theorem dX9_restore_108 : decode cX9_restore 108 = .ok (.putfield 222, 3) := by decide +kernel
theorem dX9_restore_111 : decode cX9_restore 111 = .ok (.aload_n 0, 1) := by decide +kernel
theorem dX9_restore_112 : decode cX9_restore 112 = .ok (.getfield 158, 3) := by decide +kernel
theorem dX9_restore_115 : decode cX9_restore 115 = .ok (.ireturn, 1) := by decide +kernel
theorem dX9_countOf_0 : decode cX9_countOf 0 = .ok (.iload_n 1, 1) := by decide +kernel
theorem dX9_countOf_1 : decode cX9_countOf 1 = .ok (.tableswitch 78 0 6 #[43, 48, 53, 58, 63, 68, 73], 43) := by decide +kernel
theorem dX9_countOf_44 : decode cX9_countOf 44 = .ok (.aload_n 0, 1) := by decide +kernel
theorem dX9_countOf_45 : decode cX9_countOf 45 = .ok (.getfield 144, 3) := by decide +kernel
theorem dX9_countOf_48 : decode cX9_countOf 48 = .ok (.ireturn, 1) := by decide +kernel
theorem dX9_countOf_49 : decode cX9_countOf 49 = .ok (.aload_n 0, 1) := by decide +kernel
theorem dX9_countOf_50 : decode cX9_countOf 50 = .ok (.getfield 158, 3) := by decide +kernel
theorem dX9_countOf_53 : decode cX9_countOf 53 = .ok (.ireturn, 1) := by decide +kernel
theorem dX9_countOf_54 : decode cX9_countOf 54 = .ok (.aload_n 0, 1) := by decide +kernel
theorem dX9_countOf_55 : decode cX9_countOf 55 = .ok (.invokevirtual 283, 3) := by decide +kernel
theorem dX9_countOf_58 : decode cX9_countOf 58 = .ok (.ireturn, 1) := by decide +kernel
theorem dX9_countOf_59 : decode cX9_countOf 59 = .ok (.aload_n 0, 1) := by decide +kernel
theorem dX9_countOf_60 : decode cX9_countOf 60 = .ok (.getfield 222, 3) := by decide +kernel
theorem dX9_countOf_63 : decode cX9_countOf 63 = .ok (.ireturn, 1) := by decide +kernel
theorem dX9_countOf_64 : decode cX9_countOf 64 = .ok (.aload_n 0, 1) := by decide +kernel
theorem dX9_countOf_65 : decode cX9_countOf 65 = .ok (.getfield 194, 3) := by decide +kernel
theorem dX9_countOf_68 : decode cX9_countOf 68 = .ok (.ireturn, 1) := by decide +kernel
theorem dX9_countOf_69 : decode cX9_countOf 69 = .ok (.aload_n 0, 1) := by decide +kernel
theorem dX9_countOf_70 : decode cX9_countOf 70 = .ok (.getfield 95, 3) := by decide +kernel
theorem dX9_countOf_73 : decode cX9_countOf 73 = .ok (.ireturn, 1) := by decide +kernel
theorem dX9_countOf_74 : decode cX9_countOf 74 = .ok (.aload_n 0, 1) := by decide +kernel
theorem dX9_countOf_75 : decode cX9_countOf 75 = .ok (.getfield 137, 3) := by decide +kernel
theorem dX9_countOf_78 : decode cX9_countOf 78 = .ok (.ireturn, 1) := by decide +kernel
theorem dX9_countOf_79 : decode cX9_countOf 79 = .ok (.bipush (-102), 2) := by decide +kernel
theorem dX9_countOf_81 : decode cX9_countOf 81 = .ok (.ireturn, 1) := by decide +kernel
theorem dX9_count_0 : decode cX9_count 0 = .ok (.aload_n 0, 1) := by decide +kernel
theorem dX9_count_1 : decode cX9_count 1 = .ok (.iload_n 1, 1) := by decide +kernel
theorem dX9_count_2 : decode cX9_count 2 = .ok (.invokevirtual 304, 3) := by decide +kernel
theorem dX9_count_5 : decode cX9_count 5 = .ok (.ireturn, 1) := by decide +kernel
theorem dX9_say_0 : decode cX9_say 0 = .ok (.aload_n 0, 1) := by decide +kernel
theorem dX9_say_1 : decode cX9_say 1 = .ok (.ldc2_w 307, 3) := by decide +kernel
theorem dX9_say_4 : decode cX9_say 4 = .ok (.aload_n 0, 1) := by decide +kernel
theorem dX9_say_5 : decode cX9_say 5 = .ok (.getfield 309, 3) := by decide +kernel
theorem dX9_say_8 : decode cX9_say 8 = .ok (.lmul, 1) := by decide +kernel
theorem dX9_say_9 : decode cX9_say 9 = .ok (.lload_n 1, 1) := by decide +kernel
theorem dX9_say_10 : decode cX9_say 10 = .ok (.ladd, 1) := by decide +kernel
theorem dX9_say_11 : decode cX9_say 11 = .ok (.putfield 309, 3) := by decide +kernel
theorem dX9_say_14 : decode cX9_say 14 = .ok (.return_, 1) := by decide +kernel
theorem dX9_sayGift_0 : decode cX9_sayGift 0 = .ok (.iconst 0, 1) := by decide +kernel
theorem dX9_sayGift_1 : decode cX9_sayGift 1 = .ok (.istore_n 2, 1) := by decide +kernel
theorem dX9_sayGift_2 : decode cX9_sayGift 2 = .ok (.iload_n 2, 1) := by decide +kernel
theorem dX9_sayGift_3 : decode cX9_sayGift 3 = .ok (.bipush 9, 2) := by decide +kernel
theorem dX9_sayGift_5 : decode cX9_sayGift 5 = .ok (.if_icmp .ge 20, 3) := by decide +kernel
theorem dX9_sayGift_8 : decode cX9_sayGift 8 = .ok (.aload_n 0, 1) := by decide +kernel
theorem dX9_sayGift_9 : decode cX9_sayGift 9 = .ok (.aload_n 0, 1) := by decide +kernel
theorem dX9_sayGift_10 : decode cX9_sayGift 10 = .ok (.iload_n 1, 1) := by decide +kernel
theorem dX9_sayGift_11 : decode cX9_sayGift 11 = .ok (.iload_n 2, 1) := by decide +kernel
theorem dX9_sayGift_12 : decode cX9_sayGift 12 = .ok (.invokevirtual 185, 3) := by decide +kernel
theorem dX9_sayGift_15 : decode cX9_sayGift 15 = .ok (.i2l, 1) := by decide +kernel
theorem dX9_sayGift_16 : decode cX9_sayGift 16 = .ok (.invokevirtual 313, 3) := by decide +kernel
theorem dX9_sayGift_19 : decode cX9_sayGift 19 = .ok (.iinc 2 1, 3) := by decide +kernel
theorem dX9_sayGift_22 : decode cX9_sayGift 22 = .ok (.goto (-20), 3) := by decide +kernel
theorem dX9_sayGift_25 : decode cX9_sayGift 25 = .ok (.aload_n 0, 1) := by decide +kernel
theorem dX9_sayGift_26 : decode cX9_sayGift 26 = .ok (.iload_n 1, 1) := by decide +kernel
theorem dX9_sayGift_27 : decode cX9_sayGift 27 = .ok (.invokevirtual 161, 3) := by decide +kernel
theorem dX9_sayGift_30 : decode cX9_sayGift 30 = .ok (.ifCond .eq 23, 3) := by decide +kernel
theorem dX9_sayGift_33 : decode cX9_sayGift 33 = .ok (.aload_n 0, 1) := by decide +kernel
theorem dX9_sayGift_34 : decode cX9_sayGift 34 = .ok (.aload_n 0, 1) := by decide +kernel
theorem dX9_sayGift_35 : decode cX9_sayGift 35 = .ok (.iload_n 1, 1) := by decide +kernel
theorem dX9_sayGift_36 : decode cX9_sayGift 36 = .ok (.invokevirtual 191, 3) := by decide +kernel
theorem dX9_sayGift_39 : decode cX9_sayGift 39 = .ok (.i2l, 1) := by decide +kernel
theorem dX9_sayGift_40 : decode cX9_sayGift 40 = .ok (.invokevirtual 313, 3) := by decide +kernel
theorem dX9_sayGift_43 : decode cX9_sayGift 43 = .ok (.aload_n 0, 1) := by decide +kernel
theorem dX9_sayGift_44 : decode cX9_sayGift 44 = .ok (.aload_n 0, 1) := by decide +kernel
theorem dX9_sayGift_45 : decode cX9_sayGift 45 = .ok (.iload_n 1, 1) := by decide +kernel
theorem dX9_sayGift_46 : decode cX9_sayGift 46 = .ok (.invokevirtual 242, 3) := by decide +kernel
theorem dX9_sayGift_49 : decode cX9_sayGift 49 = .ok (.i2l, 1) := by decide +kernel
theorem dX9_sayGift_50 : decode cX9_sayGift 50 = .ok (.invokevirtual 313, 3) := by decide +kernel
theorem dX9_sayGift_53 : decode cX9_sayGift 53 = .ok (.return_, 1) := by decide +kernel
theorem dX9_digest_0 : decode cX9_digest 0 = .ok (.aload_n 0, 1) := by decide +kernel
theorem dX9_digest_1 : decode cX9_digest 1 = .ok (.ldc2_w 317, 3) := by decide +kernel
theorem dX9_digest_4 : decode cX9_digest 4 = .ok (.putfield 309, 3) := by decide +kernel
theorem dX9_digest_7 : decode cX9_digest 7 = .ok (.iconst 0, 1) := by decide +kernel
theorem dX9_digest_8 : decode cX9_digest 8 = .ok (.istore_n 1, 1) := by decide +kernel
theorem dX9_digest_9 : decode cX9_digest 9 = .ok (.iload_n 1, 1) := by decide +kernel
theorem dX9_digest_10 : decode cX9_digest 10 = .ok (.iconst 4, 1) := by decide +kernel
theorem dX9_digest_11 : decode cX9_digest 11 = .ok (.if_icmp .ge 19, 3) := by decide +kernel
theorem dX9_digest_14 : decode cX9_digest 14 = .ok (.aload_n 0, 1) := by decide +kernel
theorem dX9_digest_15 : decode cX9_digest 15 = .ok (.aload_n 0, 1) := by decide +kernel
theorem dX9_digest_16 : decode cX9_digest 16 = .ok (.iload_n 1, 1) := by decide +kernel
theorem dX9_digest_17 : decode cX9_digest 17 = .ok (.invokevirtual 140, 3) := by decide +kernel
theorem dX9_digest_20 : decode cX9_digest 20 = .ok (.i2l, 1) := by decide +kernel
theorem dX9_digest_21 : decode cX9_digest 21 = .ok (.invokevirtual 313, 3) := by decide +kernel
theorem dX9_digest_24 : decode cX9_digest 24 = .ok (.iinc 1 1, 3) := by decide +kernel
theorem dX9_digest_27 : decode cX9_digest 27 = .ok (.goto (-18), 3) := by decide +kernel
theorem dX9_digest_30 : decode cX9_digest 30 = .ok (.iconst 0, 1) := by decide +kernel
theorem dX9_digest_31 : decode cX9_digest 31 = .ok (.istore_n 1, 1) := by decide +kernel
theorem dX9_digest_32 : decode cX9_digest 32 = .ok (.iload_n 1, 1) := by decide +kernel
theorem dX9_digest_33 : decode cX9_digest 33 = .ok (.aload_n 0, 1) := by decide +kernel
theorem dX9_digest_34 : decode cX9_digest 34 = .ok (.getfield 144, 3) := by decide +kernel
theorem dX9_digest_37 : decode cX9_digest 37 = .ok (.if_icmp .ge 43, 3) := by decide +kernel
theorem dX9_digest_40 : decode cX9_digest 40 = .ok (.iconst 0, 1) := by decide +kernel
theorem dX9_digest_41 : decode cX9_digest 41 = .ok (.istore_n 2, 1) := by decide +kernel
theorem dX9_digest_42 : decode cX9_digest 42 = .ok (.iload_n 2, 1) := by decide +kernel
theorem dX9_digest_43 : decode cX9_digest 43 = .ok (.iconst 4, 1) := by decide +kernel
theorem dX9_digest_44 : decode cX9_digest 44 = .ok (.if_icmp .ge 20, 3) := by decide +kernel
theorem dX9_digest_47 : decode cX9_digest 47 = .ok (.aload_n 0, 1) := by decide +kernel
theorem dX9_digest_48 : decode cX9_digest 48 = .ok (.aload_n 0, 1) := by decide +kernel
theorem dX9_digest_49 : decode cX9_digest 49 = .ok (.iload_n 1, 1) := by decide +kernel
theorem dX9_digest_50 : decode cX9_digest 50 = .ok (.iload_n 2, 1) := by decide +kernel
theorem dX9_digest_51 : decode cX9_digest 51 = .ok (.invokevirtual 167, 3) := by decide +kernel
theorem dX9_digest_54 : decode cX9_digest 54 = .ok (.i2l, 1) := by decide +kernel
theorem dX9_digest_55 : decode cX9_digest 55 = .ok (.invokevirtual 313, 3) := by decide +kernel
theorem dX9_digest_58 : decode cX9_digest 58 = .ok (.iinc 2 1, 3) := by decide +kernel
theorem dX9_digest_61 : decode cX9_digest 61 = .ok (.goto (-19), 3) := by decide +kernel
theorem dX9_digest_64 : decode cX9_digest 64 = .ok (.aload_n 0, 1) := by decide +kernel
theorem dX9_digest_65 : decode cX9_digest 65 = .ok (.aload_n 0, 1) := by decide +kernel
theorem dX9_digest_66 : decode cX9_digest 66 = .ok (.iload_n 1, 1) := by decide +kernel
theorem dX9_digest_67 : decode cX9_digest 67 = .ok (.invokevirtual 171, 3) := by decide +kernel
theorem dX9_digest_70 : decode cX9_digest 70 = .ok (.i2l, 1) := by decide +kernel
theorem dX9_digest_71 : decode cX9_digest 71 = .ok (.invokevirtual 313, 3) := by decide +kernel
theorem dX9_digest_74 : decode cX9_digest 74 = .ok (.iinc 1 1, 3) := by decide +kernel
theorem dX9_digest_77 : decode cX9_digest 77 = .ok (.goto (-45), 3) := by decide +kernel
theorem dX9_digest_80 : decode cX9_digest 80 = .ok (.iconst 0, 1) := by decide +kernel
theorem dX9_digest_81 : decode cX9_digest 81 = .ok (.istore_n 1, 1) := by decide +kernel
theorem dX9_digest_82 : decode cX9_digest 82 = .ok (.iload_n 1, 1) := by decide +kernel
theorem dX9_digest_83 : decode cX9_digest 83 = .ok (.aload_n 0, 1) := by decide +kernel
theorem dX9_digest_84 : decode cX9_digest 84 = .ok (.getfield 158, 3) := by decide +kernel
theorem dX9_digest_87 : decode cX9_digest 87 = .ok (.if_icmp .ge 14, 3) := by decide +kernel
theorem dX9_digest_90 : decode cX9_digest 90 = .ok (.aload_n 0, 1) := by decide +kernel
theorem dX9_digest_91 : decode cX9_digest 91 = .ok (.iload_n 1, 1) := by decide +kernel
theorem dX9_digest_92 : decode cX9_digest 92 = .ok (.invokevirtual 319, 3) := by decide +kernel
theorem dX9_digest_95 : decode cX9_digest 95 = .ok (.iinc 1 1, 3) := by decide +kernel
theorem dX9_digest_98 : decode cX9_digest 98 = .ok (.goto (-16), 3) := by decide +kernel
theorem dX9_digest_101 : decode cX9_digest 101 = .ok (.aload_n 0, 1) := by decide +kernel
theorem dX9_digest_102 : decode cX9_digest 102 = .ok (.aload_n 0, 1) := by decide +kernel
theorem dX9_digest_103 : decode cX9_digest 103 = .ok (.invokevirtual 259, 3) := by decide +kernel
theorem dX9_digest_106 : decode cX9_digest 106 = .ok (.i2l, 1) := by decide +kernel
theorem dX9_digest_107 : decode cX9_digest 107 = .ok (.invokevirtual 313, 3) := by decide +kernel
theorem dX9_digest_110 : decode cX9_digest 110 = .ok (.aload_n 0, 1) := by decide +kernel
theorem dX9_digest_111 : decode cX9_digest 111 = .ok (.aload_n 0, 1) := by decide +kernel
theorem dX9_digest_112 : decode cX9_digest 112 = .ok (.iconst 0, 1) := by decide +kernel
theorem dX9_digest_113 : decode cX9_digest 113 = .ok (.invokevirtual 269, 3) := by decide +kernel
theorem dX9_digest_116 : decode cX9_digest 116 = .ok (.i2l, 1) := by decide +kernel
theorem dX9_digest_117 : decode cX9_digest 117 = .ok (.invokevirtual 313, 3) := by decide +kernel
theorem dX9_digest_120 : decode cX9_digest 120 = .ok (.aload_n 0, 1) := by decide +kernel
theorem dX9_digest_121 : decode cX9_digest 121 = .ok (.aload_n 0, 1) := by decide +kernel
theorem dX9_digest_122 : decode cX9_digest 122 = .ok (.iconst 1, 1) := by decide +kernel
theorem dX9_digest_123 : decode cX9_digest 123 = .ok (.invokevirtual 269, 3) := by decide +kernel
theorem dX9_digest_126 : decode cX9_digest 126 = .ok (.i2l, 1) := by decide +kernel
theorem dX9_digest_127 : decode cX9_digest 127 = .ok (.invokevirtual 313, 3) := by decide +kernel
theorem dX9_digest_130 : decode cX9_digest 130 = .ok (.aload_n 0, 1) := by decide +kernel
theorem dX9_digest_131 : decode cX9_digest 131 = .ok (.getfield 90, 3) := by decide +kernel
theorem dX9_digest_134 : decode cX9_digest 134 = .ok (.iconst (-1), 1) := by decide +kernel
theorem dX9_digest_135 : decode cX9_digest 135 = .ok (.if_icmp .eq 12, 3) := by decide +kernel
theorem dX9_digest_138 : decode cX9_digest 138 = .ok (.aload_n 0, 1) := by decide +kernel
theorem dX9_digest_139 : decode cX9_digest 139 = .ok (.aload_n 0, 1) := by decide +kernel
theorem dX9_digest_140 : decode cX9_digest 140 = .ok (.invokevirtual 292, 3) := by decide +kernel
theorem dX9_digest_143 : decode cX9_digest 143 = .ok (.i2l, 1) := by decide +kernel
theorem dX9_digest_144 : decode cX9_digest 144 = .ok (.invokevirtual 313, 3) := by decide +kernel
theorem dX9_digest_147 : decode cX9_digest 147 = .ok (.iconst 0, 1) := by decide +kernel
theorem dX9_digest_148 : decode cX9_digest 148 = .ok (.istore_n 1, 1) := by decide +kernel
theorem dX9_digest_149 : decode cX9_digest 149 = .ok (.iload_n 1, 1) := by decide +kernel
theorem dX9_digest_150 : decode cX9_digest 150 = .ok (.aload_n 0, 1) := by decide +kernel
theorem dX9_digest_151 : decode cX9_digest 151 = .ok (.getfield 95, 3) := by decide +kernel
theorem dX9_digest_154 : decode cX9_digest 154 = .ok (.if_icmp .ge 20, 3) := by decide +kernel
theorem dX9_digest_157 : decode cX9_digest 157 = .ok (.aload_n 0, 1) := by decide +kernel
theorem dX9_digest_158 : decode cX9_digest 158 = .ok (.aload_n 0, 1) := by decide +kernel
theorem dX9_digest_159 : decode cX9_digest 159 = .ok (.getfield 7, 3) := by decide +kernel
theorem dX9_digest_162 : decode cX9_digest 162 = .ok (.iload_n 1, 1) := by decide +kernel
theorem dX9_digest_163 : decode cX9_digest 163 = .ok (.iaload, 1) := by decide +kernel
theorem dX9_digest_164 : decode cX9_digest 164 = .ok (.i2l, 1) := by decide +kernel
theorem dX9_digest_165 : decode cX9_digest 165 = .ok (.invokevirtual 313, 3) := by decide +kernel
theorem dX9_digest_168 : decode cX9_digest 168 = .ok (.iinc 1 1, 3) := by decide +kernel
theorem dX9_digest_171 : decode cX9_digest 171 = .ok (.goto (-22), 3) := by decide +kernel
theorem dX9_digest_174 : decode cX9_digest 174 = .ok (.iconst 0, 1) := by decide +kernel
theorem dX9_digest_175 : decode cX9_digest 175 = .ok (.istore_n 1, 1) := by decide +kernel
theorem dX9_digest_176 : decode cX9_digest 176 = .ok (.iload_n 1, 1) := by decide +kernel
theorem dX9_digest_177 : decode cX9_digest 177 = .ok (.bipush 7, 2) := by decide +kernel
theorem dX9_digest_179 : decode cX9_digest 179 = .ok (.if_icmp .ge 19, 3) := by decide +kernel
theorem dX9_digest_182 : decode cX9_digest 182 = .ok (.aload_n 0, 1) := by decide +kernel
theorem dX9_digest_183 : decode cX9_digest 183 = .ok (.aload_n 0, 1) := by decide +kernel
theorem dX9_digest_184 : decode cX9_digest 184 = .ok (.iload_n 1, 1) := by decide +kernel
theorem dX9_digest_185 : decode cX9_digest 185 = .ok (.invokevirtual 304, 3) := by decide +kernel
theorem dX9_digest_188 : decode cX9_digest 188 = .ok (.i2l, 1) := by decide +kernel
theorem dX9_digest_189 : decode cX9_digest 189 = .ok (.invokevirtual 313, 3) := by decide +kernel
theorem dX9_digest_192 : decode cX9_digest 192 = .ok (.iinc 1 1, 3) := by decide +kernel
theorem dX9_digest_195 : decode cX9_digest 195 = .ok (.goto (-19), 3) := by decide +kernel
theorem dX9_digest_198 : decode cX9_digest 198 = .ok (.aload_n 0, 1) := by decide +kernel
theorem dX9_digest_199 : decode cX9_digest 199 = .ok (.getfield 309, 3) := by decide +kernel
theorem dX9_digest_202 : decode cX9_digest 202 = .ok (.lreturn, 1) := by decide +kernel
