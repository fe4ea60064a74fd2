theorem dX12_init_0 : decode cX12_init 0 = .ok (.aload_n 0, 1) := by decide +kernel
theorem dX12_init_1 : decode cX12_init 1 = .ok (.invokespecial 1, 3) := by decide +kernel
theorem dX12_init_4 : decode cX12_init 4 = .ok (.aload_n 0, 1) := by decide +kernel
theorem dX12_init_5 : decode cX12_init 5 = .ok (.bipush 10, 2) := by decide +kernel
theorem dX12_init_7 : decode cX12_init 7 = .ok (.newarray .int, 2) := by decide +kernel
theorem dX12_init_9 : decode cX12_init 9 = .ok (.putfield 7, 3) := by decide +kernel
theorem dX12_init_12 : decode cX12_init 12 = .ok (.aload_n 0, 1) := by decide +kernel
theorem dX12_init_13 : decode cX12_init 13 = .ok (.bipush 10, 2) := by decide +kernel
theorem dX12_init_15 : decode cX12_init 15 = .ok (.newarray .int, 2) := by decide +kernel
theorem dX12_init_17 : decode cX12_init 17 = .ok (.putfield 13, 3) := by decide +kernel
theorem dX12_init_20 : decode cX12_init 20 = .ok (.aload_n 0, 1) := by decide +kernel
theorem dX12_init_21 : decode cX12_init 21 = .ok (.bipush 10, 2) := by decide +kernel
theorem dX12_init_23 : decode cX12_init 23 = .ok (.newarray .int, 2) := by decide +kernel
theorem dX12_init_25 : decode cX12_init 25 = .ok (.putfield 16, 3) := by decide +kernel
theorem dX12_init_28 : decode cX12_init 28 = .ok (.aload_n 0, 1) := by decide +kernel
theorem dX12_init_29 : decode cX12_init 29 = .ok (.bipush 10, 2) := by decide +kernel
theorem dX12_init_31 : decode cX12_init 31 = .ok (.newarray .int, 2) := by decide +kernel
theorem dX12_init_33 : decode cX12_init 33 = .ok (.putfield 19, 3) := by decide +kernel
theorem dX12_init_36 : decode cX12_init 36 = .ok (.aload_n 0, 1) := by decide +kernel
theorem dX12_init_37 : decode cX12_init 37 = .ok (.iconst 5, 1) := by decide +kernel
theorem dX12_init_38 : decode cX12_init 38 = .ok (.newarray .int, 2) := by decide +kernel
theorem dX12_init_40 : decode cX12_init 40 = .ok (.putfield 22, 3) := by decide +kernel
theorem dX12_init_43 : decode cX12_init 43 = .ok (.aload_n 0, 1) := by decide +kernel
theorem dX12_init_44 : decode cX12_init 44 = .ok (.iconst 5, 1) := by decide +kernel
theorem dX12_init_45 : decode cX12_init 45 = .ok (.newarray .int, 2) := by decide +kernel
theorem dX12_init_47 : decode cX12_init 47 = .ok (.putfield 25, 3) := by decide +kernel
theorem dX12_init_50 : decode cX12_init 50 = .ok (.aload_n 0, 1) := by decide +kernel
theorem dX12_init_51 : decode cX12_init 51 = .ok (.iconst 5, 1) := by decide +kernel
theorem dX12_init_52 : decode cX12_init 52 = .ok (.newarray .int, 2) := by decide +kernel
theorem dX12_init_54 : decode cX12_init 54 = .ok (.putfield 28, 3) := by decide +kernel
theorem dX12_init_57 : decode cX12_init 57 = .ok (.aload_n 0, 1) := by decide +kernel
theorem dX12_init_58 : decode cX12_init 58 = .ok (.bipush 6, 2) := by decide +kernel
theorem dX12_init_60 : decode cX12_init 60 = .ok (.newarray .int, 2) := by decide +kernel
theorem dX12_init_62 : decode cX12_init 62 = .ok (.putfield 31, 3) := by decide +kernel
theorem dX12_init_65 : decode cX12_init 65 = .ok (.aload_n 0, 1) := by decide +kernel
theorem dX12_init_66 : decode cX12_init 66 = .ok (.bipush 50, 2) := by decide +kernel
theorem dX12_init_68 : decode cX12_init 68 = .ok (.newarray .byte, 2) := by decide +kernel
theorem dX12_init_70 : decode cX12_init 70 = .ok (.putfield 34, 3) := by decide +kernel
theorem dX12_init_73 : decode cX12_init 73 = .ok (.aload_n 0, 1) := by decide +kernel
theorem dX12_init_74 : decode cX12_init 74 = .ok (.bipush 10, 2) := by decide +kernel
theorem dX12_init_76 : decode cX12_init 76 = .ok (.newarray .int, 2) := by decide +kernel
theorem dX12_init_78 : decode cX12_init 78 = .ok (.putfield 38, 3) := by decide +kernel
theorem dX12_init_81 : decode cX12_init 81 = .ok (.aload_n 0, 1) := by decide +kernel
theorem dX12_init_82 : decode cX12_init 82 = .ok (.bipush 10, 2) := by decide +kernel
theorem dX12_init_84 : decode cX12_init 84 = .ok (.newarray .int, 2) := by decide +kernel
theorem dX12_init_86 : decode cX12_init 86 = .ok (.putfield 41, 3) := by decide +kernel
theorem dX12_init_89 : decode cX12_init 89 = .ok (.aload_n 0, 1) := by decide +kernel
theorem dX12_init_90 : decode cX12_init 90 = .ok (.bipush 10, 2) := by decide +kernel
theorem dX12_init_92 : decode cX12_init 92 = .ok (.newarray .int, 2) := by decide +kernel
theorem dX12_init_94 : decode cX12_init 94 = .ok (.putfield 44, 3) := by decide +kernel
theorem dX12_init_97 : decode cX12_init 97 = .ok (.aload_n 0, 1) := by decide +kernel
theorem dX12_init_98 : decode cX12_init 98 = .ok (.bipush 10, 2) := by decide +kernel
theorem dX12_init_100 : decode cX12_init 100 = .ok (.newarray .int, 2) := by decide +kernel
theorem dX12_init_102 : decode cX12_init 102 = .ok (.putfield 47, 3) := by decide +kernel
theorem dX12_init_105 : decode cX12_init 105 = .ok (.aload_n 0, 1) := by decide +kernel
theorem dX12_init_106 : decode cX12_init 106 = .ok (.sipush 378, 3) := by decide +kernel
theorem dX12_init_109 : decode cX12_init 109 = .ok (.newarray .int, 2) := by decide +kernel
theorem dX12_init_111 : decode cX12_init 111 = .ok (.putfield 50, 3) := by decide +kernel
theorem dX12_init_114 : decode cX12_init 114 = .ok (.aload_n 0, 1) := by decide +kernel
theorem dX12_init_115 : decode cX12_init 115 = .ok (.sipush 378, 3) := by decide +kernel
theorem dX12_init_118 : decode cX12_init 118 = .ok (.newarray .int, 2) := by decide +kernel
theorem dX12_init_120 : decode cX12_init 120 = .ok (.putfield 53, 3) := by decide +kernel
theorem dX12_init_123 : decode cX12_init 123 = .ok (.aload_n 0, 1) := by decide +kernel
theorem dX12_init_124 : decode cX12_init 124 = .ok (.sipush 378, 3) := by decide +kernel
theorem dX12_init_127 : decode cX12_init 127 = .ok (.newarray .boolean, 2) := by decide +kernel
theorem dX12_init_129 : decode cX12_init 129 = .ok (.putfield 56, 3) := by decide +kernel
theorem dX12_init_132 : decode cX12_init 132 = .ok (.aload_n 0, 1) := by decide +kernel
theorem dX12_init_133 : decode cX12_init 133 = .ok (.bipush 11, 2) := by decide +kernel
theorem dX12_init_135 : decode cX12_init 135 = .ok (.newarray .int, 2) := by decide +kernel
theorem dX12_init_137 : decode cX12_init 137 = .ok (.putfield 60, 3) := by decide +kernel
theorem dX12_init_140 : decode cX12_init 140 = .ok (.aload_n 0, 1) := by decide +kernel
theorem dX12_init_141 : decode cX12_init 141 = .ok (.bipush 11, 2) := by decide +kernel
theorem dX12_init_143 : decode cX12_init 143 = .ok (.newarray .int, 2) := by decide +kernel
theorem dX12_init_145 : decode cX12_init 145 = .ok (.putfield 63, 3) := by decide +kernel
theorem dX12_init_148 : decode cX12_init 148 = .ok (.aload_n 0, 1) := by decide +kernel
theorem dX12_init_149 : decode cX12_init 149 = .ok (.sipush 20412, 3) := by decide +kernel
theorem dX12_init_152 : decode cX12_init 152 = .ok (.newarray .int, 2) := by decide +kernel
theorem dX12_init_154 : decode cX12_init 154 = .ok (.putfield 66, 3) := by decide +kernel
theorem dX12_init_157 : decode cX12_init 157 = .ok (.aload_n 0, 1) := by decide +kernel
theorem dX12_init_158 : decode cX12_init 158 = .ok (.sipush 20412, 3) := by decide +kernel
theorem dX12_init_161 : decode cX12_init 161 = .ok (.newarray .int, 2) := by decide +kernel
theorem dX12_init_163 : decode cX12_init 163 = .ok (.putfield 69, 3) := by decide +kernel
theorem dX12_init_166 : decode cX12_init 166 = .ok (.aload_n 0, 1) := by decide +kernel
theorem dX12_init_167 : decode cX12_init 167 = .ok (.sipush 20412, 3) := by decide +kernel
theorem dX12_init_170 : decode cX12_init 170 = .ok (.newarray .boolean, 2) := by decide +kernel
theorem dX12_init_172 : decode cX12_init 172 = .ok (.putfield 72, 3) := by decide +kernel
theorem dX12_init_175 : decode cX12_init 175 = .ok (.aload_n 0, 1) := by decide +kernel
theorem dX12_init_176 : decode cX12_init 176 = .ok (.sipush 2646, 3) := by decide +kernel
theorem dX12_init_179 : decode cX12_init 179 = .ok (.newarray .boolean, 2) := by decide +kernel
theorem dX12_init_181 : decode cX12_init 181 = .ok (.putfield 75, 3) := by decide +kernel
theorem dX12_init_184 : decode cX12_init 184 = .ok (.aload_n 0, 1) := by decide +kernel
theorem dX12_init_185 : decode cX12_init 185 = .ok (.sipush 2646, 3) := by decide +kernel
theorem dX12_init_188 : decode cX12_init 188 = .ok (.newarray .int, 2) := by decide +kernel
theorem dX12_init_190 : decode cX12_init 190 = .ok (.putfield 78, 3) := by decide +kernel
theorem dX12_init_193 : decode cX12_init 193 = .ok (.aload_n 0, 1) := by decide +kernel
theorem dX12_init_194 : decode cX12_init 194 = .ok (.iconst 5, 1) := by decide +kernel
theorem dX12_init_195 : decode cX12_init 195 = .ok (.newarray .int, 2) := by decide +kernel
theorem dX12_init_197 : decode cX12_init 197 = .ok (.putfield 81, 3) := by decide +kernel
theorem dX12_init_200 : decode cX12_init 200 = .ok (.aload_n 0, 1) := by decide +kernel
theorem dX12_init_201 : decode cX12_init 201 = .ok (.iconst 5, 1) := by decide +kernel
theorem dX12_init_202 : decode cX12_init 202 = .ok (.newarray .int, 2) := by decide +kernel
theorem dX12_init_204 : decode cX12_init 204 = .ok (.putfield 84, 3) := by decide +kernel
theorem dX12_init_207 : decode cX12_init 207 = .ok (.aload_n 0, 1) := by decide +kernel
theorem dX12_init_208 : decode cX12_init 208 = .ok (.bipush 10, 2) := by decide +kernel
theorem dX12_init_210 : decode cX12_init 210 = .ok (.newarray .int, 2) := by decide +kernel
theorem dX12_init_212 : decode cX12_init 212 = .ok (.putfield 87, 3) := by decide +kernel
theorem dX12_init_215 : decode cX12_init 215 = .ok (.aload_n 0, 1) := by decide +kernel
theorem dX12_init_216 : decode cX12_init 216 = .ok (.bipush 6, 2) := by decide +kernel
theorem dX12_init_218 : decode cX12_init 218 = .ok (.newarray .int, 2) := by decide +kernel
theorem dX12_init_220 : decode cX12_init 220 = .ok (.putfield 90, 3) := by decide +kernel
theorem dX12_init_223 : decode cX12_init 223 = .ok (.return_, 1) := by decide +kernel
theorem dX12_within_0 : decode cX12_within 0 = .ok (.iload_n 0, 1) := by decide +kernel
theorem dX12_within_1 : decode cX12_within 1 = .ok (.iload_n 1, 1) := by decide +kernel
theorem dX12_within_2 : decode cX12_within 2 = .ok (.if_icmp .lt 12, 3) := by decide +kernel
theorem dX12_within_5 : decode cX12_within 5 = .ok (.iload_n 0, 1) := by decide +kernel
theorem dX12_within_6 : decode cX12_within 6 = .ok (.iload_n 2, 1) := by decide +kernel
theorem dX12_within_7 : decode cX12_within 7 = .ok (.if_icmp .gt 7, 3) := by decide +kernel
theorem dX12_within_10 : decode cX12_within 10 = .ok (.iconst 1, 1) := by decide +kernel
theorem dX12_within_11 : decode cX12_within 11 = .ok (.goto 4, 3) := by decide +kernel
theorem dX12_within_14 : decode cX12_within 14 = .ok (.iconst 0, 1) := by decide +kernel
theorem dX12_within_15 : decode cX12_within 15 = .ok (.ireturn, 1) := by decide +kernel
theorem dX12_has_0 : decode cX12_has 0 = .ok (.iload_n 0, 1) := by decide +kernel
theorem dX12_has_1 : decode cX12_has 1 = .ok (.iload_n 1, 1) := by decide +kernel
theorem dX12_has_2 : decode cX12_has 2 = .ok (.ishr, 1) := by decide +kernel
theorem dX12_has_3 : decode cX12_has 3 = .ok (.iconst 1, 1) := by decide +kernel
theorem dX12_has_4 : decode cX12_has 4 = .ok (.iand, 1) := by decide +kernel
theorem dX12_has_5 : decode cX12_has 5 = .ok (.iconst 1, 1) := by decide +kernel
theorem dX12_has_6 : decode cX12_has 6 = .ok (.if_icmp .ne 7, 3) := by decide +kernel
theorem dX12_has_9 : decode cX12_has 9 = .ok (.iconst 1, 1) := by decide +kernel
theorem dX12_has_10 : decode cX12_has 10 = .ok (.goto 4, 3) := by decide +kernel
theorem dX12_has_13 : decode cX12_has 13 = .ok (.iconst 0, 1) := by decide +kernel
theorem dX12_has_14 : decode cX12_has 14 = .ok (.ireturn, 1) := by decide +kernel
theorem dX12_size_0 : decode cX12_size 0 = .ok (.iconst 0, 1) := by decide +kernel
theorem dX12_size_1 : decode cX12_size 1 = .ok (.istore_n 1, 1) := by decide +kernel
theorem dX12_size_2 : decode cX12_size 2 = .ok (.iconst 0, 1) := by decide +kernel
theorem dX12_size_3 : decode cX12_size 3 = .ok (.istore_n 2, 1) := by decide +kernel
theorem dX12_size_4 : decode cX12_size 4 = .ok (.iload_n 2, 1) := by decide +kernel
theorem dX12_size_5 : decode cX12_size 5 = .ok (.bipush 10, 2) := by decide +kernel
theorem dX12_size_7 : decode cX12_size 7 = .ok (.if_icmp .ge 17, 3) := by decide +kernel
theorem dX12_size_10 : decode cX12_size 10 = .ok (.iload_n 1, 1) := by decide +kernel
theorem dX12_size_11 : decode cX12_size 11 = .ok (.iload_n 0, 1) := by decide +kernel
theorem dX12_size_12 : decode cX12_size 12 = .ok (.iload_n 2, 1) := by decide +kernel
theorem dX12_size_13 : decode cX12_size 13 = .ok (.ishr, 1) := by decide +kernel
theorem dX12_size_14 : decode cX12_size 14 = .ok (.iconst 1, 1) := by decide +kernel
theorem dX12_size_15 : decode cX12_size 15 = .ok (.iand, 1) := by decide +kernel
theorem dX12_size_16 : decode cX12_size 16 = .ok (.iadd, 1) := by decide +kernel
theorem dX12_size_17 : decode cX12_size 17 = .ok (.istore_n 1, 1) := by decide +kernel
theorem dX12_size_18 : decode cX12_size 18 = .ok (.iinc 2 1, 3) := by decide +kernel
theorem dX12_size_21 : decode cX12_size 21 = .ok (.goto (-17), 3) := by decide +kernel
theorem dX12_size_24 : decode cX12_size 24 = .ok (.iload_n 1, 1) := by decide +kernel
theorem dX12_size_25 : decode cX12_size 25 = .ok (.ireturn, 1) := by decide +kernel
theorem dX12_letters_0 : decode cX12_letters 0 = .ok (.iconst 0, 1) := by decide +kernel
theorem dX12_letters_1 : decode cX12_letters 1 = .ok (.istore_n 3, 1) := by decide +kernel
theorem dX12_letters_2 : decode cX12_letters 2 = .ok (.iconst 0, 1) := by decide +kernel
theorem dX12_letters_3 : decode cX12_letters 3 = .ok (.istore 4, 2) := by decide +kernel
theorem dX12_letters_5 : decode cX12_letters 5 = .ok (.iconst 0, 1) := by decide +kernel
theorem dX12_letters_6 : decode cX12_letters 6 = .ok (.istore 5, 2) := by decide +kernel
theorem dX12_letters_8 : decode cX12_letters 8 = .ok (.iload 5, 2) := by decide +kernel
theorem dX12_letters_10 : decode cX12_letters 10 = .ok (.bipush 8, 2) := by decide +kernel
theorem dX12_letters_12 : decode cX12_letters 12 = .ok (.if_icmp .ge 73, 3) := by decide +kernel
theorem dX12_letters_15 : decode cX12_letters 15 = .ok (.lload_n 1, 1) := by decide +kernel
theorem dX12_letters_16 : decode cX12_letters 16 = .ok (.bipush 8, 2) := by decide +kernel
theorem dX12_letters_18 : decode cX12_letters 18 = .ok (.iload 5, 2) := by decide +kernel
theorem dX12_letters_20 : decode cX12_letters 20 = .ok (.imul, 1) := by decide +kernel
theorem dX12_letters_21 : decode cX12_letters 21 = .ok (.lshr, 1) := by decide +kernel
theorem dX12_letters_22 : decode cX12_letters 22 = .ok (.ldc2_w 93, 3) := by decide +kernel
theorem dX12_letters_25 : decode cX12_letters 25 = .ok (.land, 1) := by decide +kernel
theorem dX12_letters_26 : decode cX12_letters 26 = .ok (.l2i, 1) := by decide +kernel
theorem dX12_letters_27 : decode cX12_letters 27 = .ok (.istore 6, 2) := by decide +kernel
theorem dX12_letters_29 : decode cX12_letters 29 = .ok (.iload 6, 2) := by decide +kernel
theorem dX12_letters_31 : decode cX12_letters 31 = .ok (.bipush 126, 2) := by decide +kernel
theorem dX12_letters_33 : decode cX12_letters 33 = .ok (.if_icmp .gt 13, 3) := by decide +kernel
theorem dX12_letters_36 : decode cX12_letters 36 = .ok (.iload 4, 2) := by decide +kernel
theorem dX12_letters_38 : decode cX12_letters 38 = .ok (.ifCond .eq 11, 3) := by decide +kernel
theorem dX12_letters_41 : decode cX12_letters 41 = .ok (.iload 6, 2) := by decide +kernel
theorem dX12_letters_43 : decode cX12_letters 43 = .ok (.ifCond .eq 6, 3) := by decide +kernel
theorem dX12_letters_46 : decode cX12_letters 46 = .ok (.bipush (-102), 2) := by decide +kernel
theorem dX12_letters_48 : decode cX12_letters 48 = .ok (.ireturn, 1) := by decide +kernel
theorem dX12_letters_49 : decode cX12_letters 49 = .ok (.iload 4, 2) := by decide +kernel
theorem dX12_letters_51 : decode cX12_letters 51 = .ok (.ifCond .ne 8, 3) := by decide +kernel
theorem dX12_letters_54 : decode cX12_letters 54 = .ok (.iload 6, 2) := by decide +kernel
theorem dX12_letters_56 : decode cX12_letters 56 = .ok (.ifCond .ne 7, 3) := by decide +kernel
theorem dX12_letters_59 : decode cX12_letters 59 = .ok (.iconst 1, 1) := by decide +kernel
theorem dX12_letters_60 : decode cX12_letters 60 = .ok (.goto 4, 3) := by decide +kernel
theorem dX12_letters_63 : decode cX12_letters 63 = .ok (.iconst 0, 1) := by decide +kernel
theorem dX12_letters_64 : decode cX12_letters 64 = .ok (.istore 4, 2) := by decide +kernel
theorem dX12_letters_66 : decode cX12_letters 66 = .ok (.iload_n 3, 1) := by decide +kernel
theorem dX12_letters_67 : decode cX12_letters 67 = .ok (.iload 6, 2) := by decide +kernel
theorem dX12_letters_69 : decode cX12_letters 69 = .ok (.ifCond .ne 7, 3) := by decide +kernel
theorem dX12_letters_72 : decode cX12_letters 72 = .ok (.iconst 0, 1) := by decide +kernel
theorem dX12_letters_73 : decode cX12_letters 73 = .ok (.goto 4, 3) := by decide +kernel
theorem dX12_letters_76 : decode cX12_letters 76 = .ok (.iconst 1, 1) := by decide +kernel
theorem dX12_letters_77 : decode cX12_letters 77 = .ok (.iadd, 1) := by decide +kernel
theorem dX12_letters_78 : decode cX12_letters 78 = .ok (.istore_n 3, 1) := by decide +kernel
theorem dX12_letters_79 : decode cX12_letters 79 = .ok (.iinc 5 1, 3) := by decide +kernel
theorem dX12_letters_82 : decode cX12_letters 82 = .ok (.goto (-74), 3) := by decide +kernel
theorem dX12_letters_85 : decode cX12_letters 85 = .ok (.aload_n 0, 1) := by decide +kernel
theorem dX12_letters_86 : decode cX12_letters 86 = .ok (.getfield 95, 3) := by decide +kernel
theorem dX12_letters_89 : decode cX12_letters 89 = .ok (.iload_n 3, 1) := by decide +kernel
theorem dX12_letters_90 : decode cX12_letters 90 = .ok (.iadd, 1) := by decide +kernel
theorem dX12_letters_91 : decode cX12_letters 91 = .ok (.bipush 50, 2) := by decide +kernel
theorem dX12_letters_93 : decode cX12_letters 93 = .ok (.if_icmp .le 6, 3) := by decide +kernel
theorem dX12_letters_96 : decode cX12_letters 96 = .ok (.bipush (-104), 2) := by decide +kernel
theorem dX12_letters_98 : decode cX12_letters 98 = .ok (.ireturn, 1) := by decide +kernel
theorem dX12_letters_99 : decode cX12_letters 99 = .ok (.iconst 0, 1) := by decide +kernel
theorem dX12_letters_100 : decode cX12_letters 100 = .ok (.istore 5, 2) := by decide +kernel
theorem dX12_letters_102 : decode cX12_letters 102 = .ok (.iload 5, 2) := by decide +kernel
theorem dX12_letters_104 : decode cX12_letters 104 = .ok (.iload_n 3, 1) := by decide +kernel
theorem dX12_letters_105 : decode cX12_letters 105 = .ok (.if_icmp .ge 30, 3) := by decide +kernel
theorem dX12_letters_108 : decode cX12_letters 108 = .ok (.aload_n 0, 1) := by decide +kernel
theorem dX12_letters_109 : decode cX12_letters 109 = .ok (.getfield 34, 3) := by decide +kernel
theorem dX12_letters_112 : decode cX12_letters 112 = .ok (.aload_n 0, 1) := by decide +kernel
theorem dX12_letters_113 : decode cX12_letters 113 = .ok (.getfield 95, 3) := by decide +kernel
theorem dX12_letters_116 : decode cX12_letters 116 = .ok (.iload 5, 2) := by decide +kernel
theorem dX12_letters_118 : decode cX12_letters 118 = .ok (.iadd, 1) := by decide +kernel
theorem dX12_letters_119 : decode cX12_letters 119 = .ok (.lload_n 1, 1) := by decide +kernel
theorem dX12_letters_120 : decode cX12_letters 120 = .ok (.bipush 8, 2) := by decide +kernel
theorem dX12_letters_122 : decode cX12_letters 122 = .ok (.iload 5, 2) := by decide +kernel
theorem dX12_letters_124 : decode cX12_letters 124 = .ok (.imul, 1) := by decide +kernel
theorem dX12_letters_125 : decode cX12_letters 125 = .ok (.lshr, 1) := by decide +kernel
theorem dX12_letters_126 : decode cX12_letters 126 = .ok (.l2i, 1) := by decide +kernel
theorem dX12_letters_127 : decode cX12_letters 127 = .ok (.i2b, 1) := by decide +kernel
theorem dX12_letters_128 : decode cX12_letters 128 = .ok (.bastore, 1) := by decide +kernel
theorem dX12_letters_129 : decode cX12_letters 129 = .ok (.iinc 5 1, 3) := by decide +kernel
theorem dX12_letters_132 : decode cX12_letters 132 = .ok (.goto (-30), 3) := by decide +kernel
theorem dX12_letters_135 : decode cX12_letters 135 = .ok (.aload_n 0, 1) := by decide +kernel
theorem dX12_letters_136 : decode cX12_letters 136 = .ok (.dup, 1) := by decide +kernel
theorem dX12_letters_137 : decode cX12_letters 137 = .ok (.getfield 95, 3) := by decide +kernel
theorem dX12_letters_140 : decode cX12_letters 140 = .ok (.iload_n 3, 1) := by decide +kernel
theorem dX12_letters_141 : decode cX12_letters 141 = .ok (.iadd, 1) := by decide +kernel
theorem dX12_letters_142 : decode cX12_letters 142 = .ok (.putfield 95, 3) := by decide +kernel
theorem dX12_letters_145 : decode cX12_letters 145 = .ok (.aload_n 0, 1) := by decide +kernel
theorem dX12_letters_146 : decode cX12_letters 146 = .ok (.getfield 95, 3) := by decide +kernel
theorem dX12_letters_149 : decode cX12_letters 149 = .ok (.ireturn, 1) := by decide +kernel
theorem dX12_blank_0 : decode cX12_blank 0 = .ok (.aload_n 0, 1) := by decide +kernel
theorem dX12_blank_1 : decode cX12_blank 1 = .ok (.getfield 95, 3) := by decide +kernel
theorem dX12_blank_4 : decode cX12_blank 4 = .ok (.istore_n 1, 1) := by decide +kernel
theorem dX12_blank_5 : decode cX12_blank 5 = .ok (.aload_n 0, 1) := by decide +kernel
theorem dX12_blank_6 : decode cX12_blank 6 = .ok (.iconst 0, 1) := by decide +kernel
theorem dX12_blank_7 : decode cX12_blank 7 = .ok (.putfield 95, 3) := by decide +kernel
theorem dX12_blank_10 : decode cX12_blank 10 = .ok (.iload_n 1, 1) := by decide +kernel
theorem dX12_blank_11 : decode cX12_blank 11 = .ok (.ireturn, 1) := by decide +kernel
set_option maxRecDepth 20000 in
theorem ggX12_nextState_X12_within : GoodIn wsX12_nextState wsX12_within := goodIn_r _ [11] (by decide +kernel) (by decide +kernel)
set_option maxRecDepth 20000 in
theorem gX12_nextState_X12_within : GoodIn wsX12_nextState (va_wsS RX12 102 yX12_within wsX12_within) := goodIn_app (goodIn_of _ (by decide +kernel)) ggX12_nextState_X12_within
theorem dX12_nextState_0 : decode cX12_nextState 0 = .ok (.iload_n 2, 1) := by decide +kernel
theorem dX12_nextState_1 : decode cX12_nextState 1 = .ok (.bipush 48, 2) := by decide +kernel
theorem dX12_nextState_3 : decode cX12_nextState 3 = .ok (.isub, 1) := by decide +kernel
theorem dX12_nextState_4 : decode cX12_nextState 4 = .ok (.istore_n 3, 1) := by decide +kernel
theorem dX12_nextState_5 : decode cX12_nextState 5 = .ok (.iload_n 1, 1) := by decide +kernel
theorem dX12_nextState_6 : decode cX12_nextState 6 = .ok (.tableswitch 198 0 6 #[42, 68, 107, 198, 198, 167, 196], 42) := by decide +kernel
theorem dX12_nextState_48 : decode cX12_nextState 48 = .ok (.aload_n 0, 1) := by decide +kernel
theorem dX12_nextState_49 : decode cX12_nextState 49 = .ok (.getfield 38, 3) := by decide +kernel
theorem dX12_nextState_52 : decode cX12_nextState 52 = .ok (.aload_n 0, 1) := by decide +kernel
theorem dX12_nextState_53 : decode cX12_nextState 53 = .ok (.getfield 99, 3) := by decide +kernel
theorem dX12_nextState_56 : decode cX12_nextState 56 = .ok (.iload_n 3, 1) := by decide +kernel
theorem dX12_nextState_57 : decode cX12_nextState 57 = .ok (.iastore, 1) := by decide +kernel
theorem dX12_nextState_58 : decode cX12_nextState 58 = .ok (.iload_n 3, 1) := by decide +kernel
theorem dX12_nextState_59 : decode cX12_nextState 59 = .ok (.iconst 0, 1) := by decide +kernel
theorem dX12_nextState_60 : decode cX12_nextState 60 = .ok (.bipush 6, 2) := by decide +kernel
theorem dX12_nextState_62 : decode cX12_nextState 62 = .ok (.invokestatic 102, 3) := by decide +kernel
theorem dX12_nextState_65 : decode cX12_nextState 65 = .ok (.ifCond .eq 7, 3) := by decide +kernel
theorem dX12_nextState_68 : decode cX12_nextState 68 = .ok (.iconst 1, 1) := by decide +kernel
theorem dX12_nextState_69 : decode cX12_nextState 69 = .ok (.goto 4, 3) := by decide +kernel
theorem dX12_nextState_72 : decode cX12_nextState 72 = .ok (.iconst (-1), 1) := by decide +kernel
theorem dX12_nextState_73 : decode cX12_nextState 73 = .ok (.ireturn, 1) := by decide +kernel
theorem dX12_nextState_74 : decode cX12_nextState 74 = .ok (.aload_n 0, 1) := by decide +kernel
theorem dX12_nextState_75 : decode cX12_nextState 75 = .ok (.getfield 41, 3) := by decide +kernel
theorem dX12_nextState_78 : decode cX12_nextState 78 = .ok (.aload_n 0, 1) := by decide +kernel
theorem dX12_nextState_79 : decode cX12_nextState 79 = .ok (.getfield 99, 3) := by decide +kernel
theorem dX12_nextState_82 : decode cX12_nextState 82 = .ok (.iload_n 3, 1) := by decide +kernel
theorem dX12_nextState_83 : decode cX12_nextState 83 = .ok (.iastore, 1) := by decide +kernel
theorem dX12_nextState_84 : decode cX12_nextState 84 = .ok (.iload_n 3, 1) := by decide +kernel
theorem dX12_nextState_85 : decode cX12_nextState 85 = .ok (.iconst 0, 1) := by decide +kernel
theorem dX12_nextState_86 : decode cX12_nextState 86 = .ok (.bipush 6, 2) := by decide +kernel
theorem dX12_nextState_88 : decode cX12_nextState 88 = .ok (.invokestatic 102, 3) := by decide +kernel
theorem dX12_nextState_91 : decode cX12_nextState 91 = .ok (.ifCond .eq 20, 3) := by decide +kernel
theorem dX12_nextState_94 : decode cX12_nextState 94 = .ok (.iload_n 3, 1) := by decide +kernel
theorem dX12_nextState_95 : decode cX12_nextState 95 = .ok (.aload_n 0, 1) := by decide +kernel
theorem dX12_nextState_96 : decode cX12_nextState 96 = .ok (.getfield 38, 3) := by decide +kernel
theorem dX12_nextState_99 : decode cX12_nextState 99 = .ok (.aload_n 0, 1) := by decide +kernel
theorem dX12_nextState_100 : decode cX12_nextState 100 = .ok (.getfield 99, 3) := by decide +kernel
theorem dX12_nextState_103 : decode cX12_nextState 103 = .ok (.iaload, 1) := by decide +kernel
theorem dX12_nextState_104 : decode cX12_nextState 104 = .ok (.if_icmp .eq 7, 3) := by decide +kernel
theorem dX12_nextState_107 : decode cX12_nextState 107 = .ok (.iconst 2, 1) := by decide +kernel
theorem dX12_nextState_108 : decode cX12_nextState 108 = .ok (.goto 4, 3) := by decide +kernel
theorem dX12_nextState_111 : decode cX12_nextState 111 = .ok (.iconst (-1), 1) := by decide +kernel
theorem dX12_nextState_112 : decode cX12_nextState 112 = .ok (.ireturn, 1) := by decide +kernel
theorem dX12_nextState_113 : decode cX12_nextState 113 = .ok (.aload_n 0, 1) := by decide +kernel
theorem dX12_nextState_114 : decode cX12_nextState 114 = .ok (.getfield 44, 3) := by decide +kernel
theorem dX12_nextState_117 : decode cX12_nextState 117 = .ok (.aload_n 0, 1) := by decide +kernel
theorem dX12_nextState_118 : decode cX12_nextState 118 = .ok (.getfield 99, 3) := by decide +kernel
theorem dX12_nextState_121 : decode cX12_nextState 121 = .ok (.iload_n 3, 1) := by decide +kernel
theorem dX12_nextState_122 : decode cX12_nextState 122 = .ok (.iastore, 1) := by decide +kernel
theorem dX12_nextState_123 : decode cX12_nextState 123 = .ok (.aload_n 0, 1) := by decide +kernel
theorem dX12_nextState_124 : decode cX12_nextState 124 = .ok (.getfield 47, 3) := by decide +kernel
theorem dX12_nextState_127 : decode cX12_nextState 127 = .ok (.aload_n 0, 1) := by decide +kernel
theorem dX12_nextState_128 : decode cX12_nextState 128 = .ok (.getfield 99, 3) := by decide +kernel
theorem dX12_nextState_131 : decode cX12_nextState 131 = .ok (.iconst (-1), 1) := by decide +kernel
theorem dX12_nextState_132 : decode cX12_nextState 132 = .ok (.iastore, 1) := by decide +kernel
theorem dX12_nextState_133 : decode cX12_nextState 133 = .ok (.aload_n 0, 1) := by decide +kernel
theorem dX12_nextState_134 : decode cX12_nextState 134 = .ok (.dup, 1) := by decide +kernel
theorem dX12_nextState_135 : decode cX12_nextState 135 = .ok (.getfield 99, 3) := by decide +kernel
theorem dX12_nextState_138 : decode cX12_nextState 138 = .ok (.iload_n 3, 1) := by decide +kernel
theorem dX12_nextState_139 : decode cX12_nextState 139 = .ok (.iconst 0, 1) := by decide +kernel
theorem dX12_nextState_140 : decode cX12_nextState 140 = .ok (.bipush 9, 2) := by decide +kernel
theorem dX12_nextState_142 : decode cX12_nextState 142 = .ok (.invokestatic 102, 3) := by decide +kernel
theorem dX12_nextState_145 : decode cX12_nextState 145 = .ok (.ifCond .eq 7, 3) := by decide +kernel
theorem dX12_nextState_148 : decode cX12_nextState 148 = .ok (.iconst 1, 1) := by decide +kernel
theorem dX12_nextState_149 : decode cX12_nextState 149 = .ok (.goto 4, 3) := by decide +kernel
theorem dX12_nextState_152 : decode cX12_nextState 152 = .ok (.iconst 0, 1) := by decide +kernel
theorem dX12_nextState_153 : decode cX12_nextState 153 = .ok (.iadd, 1) := by decide +kernel
theorem dX12_nextState_154 : decode cX12_nextState 154 = .ok (.putfield 99, 3) := by decide +kernel
theorem dX12_nextState_157 : decode cX12_nextState 157 = .ok (.iload_n 3, 1) := by decide +kernel
theorem dX12_nextState_158 : decode cX12_nextState 158 = .ok (.iconst 0, 1) := by decide +kernel
theorem dX12_nextState_159 : decode cX12_nextState 159 = .ok (.bipush 9, 2) := by decide +kernel
theorem dX12_nextState_161 : decode cX12_nextState 161 = .ok (.invokestatic 102, 3) := by decide +kernel
theorem dX12_nextState_164 : decode cX12_nextState 164 = .ok (.ifCond .eq 7, 3) := by decide +kernel
theorem dX12_nextState_167 : decode cX12_nextState 167 = .ok (.iconst 3, 1) := by decide +kernel
theorem dX12_nextState_168 : decode cX12_nextState 168 = .ok (.goto 4, 3) := by decide +kernel
theorem dX12_nextState_171 : decode cX12_nextState 171 = .ok (.iconst (-1), 1) := by decide +kernel
theorem dX12_nextState_172 : decode cX12_nextState 172 = .ok (.ireturn, 1) := by decide +kernel
theorem dX12_nextState_173 : decode cX12_nextState 173 = .ok (.aload_n 0, 1) := by decide +kernel
theorem dX12_nextState_174 : decode cX12_nextState 174 = .ok (.iload_n 2, 1) := by decide +kernel
theorem dX12_nextState_175 : decode cX12_nextState 175 = .ok (.bipush 102, 2) := by decide +kernel
theorem dX12_nextState_177 : decode cX12_nextState 177 = .ok (.if_icmp .ne 7, 3) := by decide +kernel
theorem dX12_nextState_180 : decode cX12_nextState 180 = .ok (.iconst 1, 1) := by decide +kernel
theorem dX12_nextState_181 : decode cX12_nextState 181 = .ok (.goto 4, 3) := by decide +kernel
theorem dX12_nextState_184 : decode cX12_nextState 184 = .ok (.iconst 0, 1) := by decide +kernel
theorem dX12_nextState_185 : decode cX12_nextState 185 = .ok (.putfield 106, 3) := by decide +kernel
theorem dX12_nextState_188 : decode cX12_nextState 188 = .ok (.aload_n 0, 1) := by decide +kernel
theorem dX12_nextState_189 : decode cX12_nextState 189 = .ok (.getfield 106, 3) := by decide +kernel
theorem dX12_nextState_192 : decode cX12_nextState 192 = .ok (.ifCond .eq 8, 3) := by decide +kernel
theorem dX12_nextState_195 : decode cX12_nextState 195 = .ok (.bipush 6, 2) := by decide +kernel
theorem dX12_nextState_197 : decode cX12_nextState 197 = .ok (.goto 4, 3) := by decide +kernel
theorem dX12_nextState_200 : decode cX12_nextState 200 = .ok (.iconst (-1), 1) := by decide +kernel
theorem dX12_nextState_201 : decode cX12_nextState 201 = .ok (.ireturn, 1) := by decide +kernel
theorem dX12_nextState_202 : decode cX12_nextState 202 = .ok (.iconst (-1), 1) := by decide +kernel
theorem dX12_nextState_203 : decode cX12_nextState 203 = .ok (.ireturn, 1) := by decide +kernel
theorem dX12_nextState_204 : decode cX12_nextState 204 = .ok (.iload_n 2, 1) := by decide +kernel
theorem dX12_nextState_205 : decode cX12_nextState 205 = .ok (.bipush 33, 2) := by decide +kernel
theorem dX12_nextState_207 : decode cX12_nextState 207 = .ok (.if_icmp .ne 43, 3) := by decide +kernel
theorem dX12_nextState_210 : decode cX12_nextState 210 = .ok (.iload_n 1, 1) := by decide +kernel
theorem dX12_nextState_211 : decode cX12_nextState 211 = .ok (.iconst 3, 1) := by decide +kernel
theorem dX12_nextState_212 : decode cX12_nextState 212 = .ok (.if_icmp .ne 38, 3) := by decide +kernel
theorem dX12_nextState_215 : decode cX12_nextState 215 = .ok (.aload_n 0, 1) := by decide +kernel
theorem dX12_nextState_216 : decode cX12_nextState 216 = .ok (.getfield 110, 3) := by decide +kernel
theorem dX12_nextState_219 : decode cX12_nextState 219 = .ok (.iconst 3, 1) := by decide +kernel
theorem dX12_nextState_220 : decode cX12_nextState 220 = .ok (.if_icmp .ge 30, 3) := by decide +kernel
theorem dX12_nextState_223 : decode cX12_nextState 223 = .ok (.aload_n 0, 1) := by decide +kernel
theorem dX12_nextState_224 : decode cX12_nextState 224 = .ok (.getfield 47, 3) := by decide +kernel
theorem dX12_nextState_227 : decode cX12_nextState 227 = .ok (.aload_n 0, 1) := by decide +kernel
theorem dX12_nextState_228 : decode cX12_nextState 228 = .ok (.getfield 99, 3) := by decide +kernel
theorem dX12_nextState_231 : decode cX12_nextState 231 = .ok (.iconst 1, 1) := by decide +kernel
theorem dX12_nextState_232 : decode cX12_nextState 232 = .ok (.isub, 1) := by decide +kernel
theorem dX12_nextState_233 : decode cX12_nextState 233 = .ok (.aload_n 0, 1) := by decide +kernel
theorem dX12_nextState_234 : decode cX12_nextState 234 = .ok (.getfield 110, 3) := by decide +kernel
theorem dX12_nextState_237 : decode cX12_nextState 237 = .ok (.iastore, 1) := by decide +kernel
theorem dX12_nextState_238 : decode cX12_nextState 238 = .ok (.aload_n 0, 1) := by decide +kernel
theorem dX12_nextState_239 : decode cX12_nextState 239 = .ok (.dup, 1) := by decide +kernel
theorem dX12_nextState_240 : decode cX12_nextState 240 = .ok (.getfield 110, 3) := by decide +kernel
theorem dX12_nextState_243 : decode cX12_nextState 243 = .ok (.iconst 1, 1) := by decide +kernel
theorem dX12_nextState_244 : decode cX12_nextState 244 = .ok (.iadd, 1) := by decide +kernel
theorem dX12_nextState_245 : decode cX12_nextState 245 = .ok (.putfield 110, 3) := by decide +kernel
theorem dX12_nextState_248 : decode cX12_nextState 248 = .ok (.iconst 4, 1) := by decide +kernel
theorem dX12_nextState_249 : decode cX12_nextState 249 = .ok (.ireturn, 1) := by decide +kernel
theorem dX12_nextState_250 : decode cX12_nextState 250 = .ok (.iload_n 2, 1) := by decide +kernel
theorem dX12_nextState_251 : decode cX12_nextState 251 = .ok (.bipush 44, 2) := by decide +kernel
theorem dX12_nextState_253 : decode cX12_nextState 253 = .ok (.if_icmp .ne 16, 3) := by decide +kernel
theorem dX12_nextState_256 : decode cX12_nextState 256 = .ok (.aload_n 0, 1) := by decide +kernel
theorem dX12_nextState_257 : decode cX12_nextState 257 = .ok (.getfield 99, 3) := by decide +kernel
theorem dX12_nextState_260 : decode cX12_nextState 260 = .ok (.bipush 10, 2) := by decide +kernel
theorem dX12_nextState_262 : decode cX12_nextState 262 = .ok (.if_icmp .ge 7, 3) := by decide +kernel
theorem dX12_nextState_265 : decode cX12_nextState 265 = .ok (.iconst 0, 1) := by decide +kernel
theorem dX12_nextState_266 : decode cX12_nextState 266 = .ok (.goto 14, 3) := by decide +kernel
theorem dX12_nextState_269 : decode cX12_nextState 269 = .ok (.iload_n 2, 1) := by decide +kernel
theorem dX12_nextState_270 : decode cX12_nextState 270 = .ok (.bipush 59, 2) := by decide +kernel
theorem dX12_nextState_272 : decode cX12_nextState 272 = .ok (.if_icmp .ne 7, 3) := by decide +kernel
theorem dX12_nextState_275 : decode cX12_nextState 275 = .ok (.iconst 5, 1) := by decide +kernel
theorem dX12_nextState_276 : decode cX12_nextState 276 = .ok (.goto 4, 3) := by decide +kernel
theorem dX12_nextState_279 : decode cX12_nextState 279 = .ok (.iconst (-1), 1) := by decide +kernel
theorem dX12_nextState_280 : decode cX12_nextState 280 = .ok (.ireturn, 1) := by decide +kernel
set_option maxRecDepth 20000 in
theorem ggX12_readTown_X12_nextState : GoodIn wsX12_readTown wsX12_nextState := goodIn_r _ [12, 13, 1, 14, 15, 16, 3, 2, 17, 18, 11, 19, 20, 21, 22, 23, 24, 25, 26, 27, 28, 29, 30, 31, 32, 33, 34, 35, 36, 37, 38, 39, 40, 41, 42, 43, 44, 45, 46, 47, 48, 49, 50, 51, 52, 53, 54, 55, 56, 57, 58, 59, 60, 61, 62, 63, 64, 65, 66, 67, 68, 69, 70] (by decide +kernel) (by decide +kernel)
set_option maxRecDepth 20000 in
theorem gX12_readTown_X12_nextState : GoodIn wsX12_readTown (wsV RX12 113 RX12 yX12_nextState wsX12_nextState) := goodIn_app (goodIn_of _ (by decide +kernel)) ggX12_readTown_X12_nextState
theorem dX12_readTown_0 : decode cX12_readTown 0 = .ok (.aload_n 0, 1) := by decide +kernel
theorem dX12_readTown_1 : decode cX12_readTown 1 = .ok (.iconst 0, 1) := by decide +kernel
theorem dX12_readTown_2 : decode cX12_readTown 2 = .ok (.putfield 99, 3) := by decide +kernel
theorem dX12_readTown_5 : decode cX12_readTown 5 = .ok (.aload_n 0, 1) := by decide +kernel
theorem dX12_readTown_6 : decode cX12_readTown 6 = .ok (.iconst 0, 1) := by decide +kernel
theorem dX12_readTown_7 : decode cX12_readTown 7 = .ok (.putfield 110, 3) := by decide +kernel
theorem dX12_readTown_10 : decode cX12_readTown 10 = .ok (.aload_n 0, 1) := by decide +kernel
theorem dX12_readTown_11 : decode cX12_readTown 11 = .ok (.iconst 0, 1) := by decide +kernel
theorem dX12_readTown_12 : decode cX12_readTown 12 = .ok (.putfield 106, 3) := by decide +kernel
theorem dX12_readTown_15 : decode cX12_readTown 15 = .ok (.iconst 0, 1) := by decide +kernel
theorem dX12_readTown_16 : decode cX12_readTown 16 = .ok (.istore_n 1, 1) := by decide +kernel
theorem dX12_readTown_17 : decode cX12_readTown 17 = .ok (.iconst 0, 1) := by decide +kernel
theorem dX12_readTown_18 : decode cX12_readTown 18 = .ok (.istore_n 2, 1) := by decide +kernel
theorem dX12_readTown_19 : decode cX12_readTown 19 = .ok (.iconst 1, 1) := by decide +kernel
theorem dX12_readTown_20 : decode cX12_readTown 20 = .ok (.istore_n 3, 1) := by decide +kernel
theorem dX12_readTown_21 : decode cX12_readTown 21 = .ok (.iload_n 2, 1) := by decide +kernel
theorem dX12_readTown_22 : decode cX12_readTown 22 = .ok (.aload_n 0, 1) := by decide +kernel
theorem dX12_readTown_23 : decode cX12_readTown 23 = .ok (.getfield 95, 3) := by decide +kernel
theorem dX12_readTown_26 : decode cX12_readTown 26 = .ok (.if_icmp .ge 58, 3) := by decide +kernel
theorem dX12_readTown_29 : decode cX12_readTown 29 = .ok (.iload_n 3, 1) := by decide +kernel
theorem dX12_readTown_30 : decode cX12_readTown 30 = .ok (.ifCond .eq 54, 3) := by decide +kernel
theorem dX12_readTown_33 : decode cX12_readTown 33 = .ok (.aload_n 0, 1) := by decide +kernel
theorem dX12_readTown_34 : decode cX12_readTown 34 = .ok (.iload_n 1, 1) := by decide +kernel
theorem dX12_readTown_35 : decode cX12_readTown 35 = .ok (.aload_n 0, 1) := by decide +kernel
theorem dX12_readTown_36 : decode cX12_readTown 36 = .ok (.getfield 34, 3) := by decide +kernel
theorem dX12_readTown_39 : decode cX12_readTown 39 = .ok (.iload_n 2, 1) := by decide +kernel
theorem dX12_readTown_40 : decode cX12_readTown 40 = .ok (.baload, 1) := by decide +kernel
theorem dX12_readTown_41 : decode cX12_readTown 41 = .ok (.invokevirtual 113, 3) := by decide +kernel
theorem dX12_readTown_44 : decode cX12_readTown 44 = .ok (.istore 4, 2) := by decide +kernel
theorem dX12_readTown_46 : decode cX12_readTown 46 = .ok (.iload 4, 2) := by decide +kernel
theorem dX12_readTown_48 : decode cX12_readTown 48 = .ok (.iconst (-1), 1) := by decide +kernel
theorem dX12_readTown_49 : decode cX12_readTown 49 = .ok (.if_icmp .eq 7, 3) := by decide +kernel
theorem dX12_readTown_52 : decode cX12_readTown 52 = .ok (.iconst 1, 1) := by decide +kernel
theorem dX12_readTown_53 : decode cX12_readTown 53 = .ok (.goto 4, 3) := by decide +kernel
theorem dX12_readTown_56 : decode cX12_readTown 56 = .ok (.iconst 0, 1) := by decide +kernel
theorem dX12_readTown_57 : decode cX12_readTown 57 = .ok (.istore_n 3, 1) := by decide +kernel
theorem dX12_readTown_58 : decode cX12_readTown 58 = .ok (.iload_n 3, 1) := by decide +kernel
theorem dX12_readTown_59 : decode cX12_readTown 59 = .ok (.ifCond .eq 8, 3) := by decide +kernel
theorem dX12_readTown_62 : decode cX12_readTown 62 = .ok (.iload 4, 2) := by decide +kernel
theorem dX12_readTown_64 : decode cX12_readTown 64 = .ok (.goto 4, 3) := by decide +kernel
theorem dX12_readTown_67 : decode cX12_readTown 67 = .ok (.iload_n 1, 1) := by decide +kernel
theorem dX12_readTown_68 : decode cX12_readTown 68 = .ok (.istore_n 1, 1) := by decide +kernel
theorem dX12_readTown_69 : decode cX12_readTown 69 = .ok (.iload_n 2, 1) := by decide +kernel
theorem dX12_readTown_70 : decode cX12_readTown 70 = .ok (.iload_n 3, 1) := by decide +kernel
theorem dX12_readTown_71 : decode cX12_readTown 71 = .ok (.ifCond .eq 7, 3) := by decide +kernel
theorem dX12_readTown_74 : decode cX12_readTown 74 = .ok (.iconst 1, 1) := by decide +kernel
theorem dX12_readTown_75 : decode cX12_readTown 75 = .ok (.goto 4, 3) := by decide +kernel
theorem dX12_readTown_78 : decode cX12_readTown 78 = .ok (.iconst 0, 1) := by decide +kernel
theorem dX12_readTown_79 : decode cX12_readTown 79 = .ok (.iadd, 1) := by decide +kernel
theorem dX12_readTown_80 : decode cX12_readTown 80 = .ok (.istore_n 2, 1) := by decide +kernel
theorem dX12_readTown_81 : decode cX12_readTown 81 = .ok (.goto (-60), 3) := by decide +kernel
theorem dX12_readTown_84 : decode cX12_readTown 84 = .ok (.aload_n 0, 1) := by decide +kernel
theorem dX12_readTown_85 : decode cX12_readTown 85 = .ok (.iload_n 2, 1) := by decide +kernel
theorem dX12_readTown_86 : decode cX12_readTown 86 = .ok (.putfield 117, 3) := by decide +kernel
theorem dX12_readTown_89 : decode cX12_readTown 89 = .ok (.aload_n 0, 1) := by decide +kernel
theorem dX12_readTown_90 : decode cX12_readTown 90 = .ok (.iload_n 2, 1) := by decide +kernel
theorem dX12_readTown_91 : decode cX12_readTown 91 = .ok (.aload_n 0, 1) := by decide +kernel
theorem dX12_readTown_92 : decode cX12_readTown 92 = .ok (.getfield 95, 3) := by decide +kernel
theorem dX12_readTown_95 : decode cX12_readTown 95 = .ok (.if_icmp .ne 23, 3) := by decide +kernel
theorem dX12_readTown_98 : decode cX12_readTown 98 = .ok (.iload_n 1, 1) := by decide +kernel
theorem dX12_readTown_99 : decode cX12_readTown 99 = .ok (.iconst 3, 1) := by decide +kernel
theorem dX12_readTown_100 : decode cX12_readTown 100 = .ok (.if_icmp .eq 14, 3) := by decide +kernel
theorem dX12_readTown_103 : decode cX12_readTown 103 = .ok (.iload_n 1, 1) := by decide +kernel
theorem dX12_readTown_104 : decode cX12_readTown 104 = .ok (.iconst 4, 1) := by decide +kernel
theorem dX12_readTown_105 : decode cX12_readTown 105 = .ok (.if_icmp .eq 9, 3) := by decide +kernel
theorem dX12_readTown_108 : decode cX12_readTown 108 = .ok (.iload_n 1, 1) := by decide +kernel
theorem dX12_readTown_109 : decode cX12_readTown 109 = .ok (.bipush 6, 2) := by decide +kernel
theorem dX12_readTown_111 : decode cX12_readTown 111 = .ok (.if_icmp .ne 7, 3) := by decide +kernel
theorem dX12_readTown_114 : decode cX12_readTown 114 = .ok (.iconst 1, 1) := by decide +kernel
theorem dX12_readTown_115 : decode cX12_readTown 115 = .ok (.goto 4, 3) := by decide +kernel
theorem dX12_readTown_118 : decode cX12_readTown 118 = .ok (.iconst 0, 1) := by decide +kernel
theorem dX12_readTown_119 : decode cX12_readTown 119 = .ok (.putfield 120, 3) := by decide +kernel
theorem dX12_readTown_122 : decode cX12_readTown 122 = .ok (.return_, 1) := by decide +kernel
set_option maxRecDepth 20000 in
theorem ggX12_fault_X12_readTown : GoodIn wsX12_fault wsX12_readTown := goodIn_r _ [6, 7, 8, 9, 10, 11, 1, 12, 13, 14, 15, 5, 16, 17, 18, 19, 20, 21, 22, 23, 24, 25, 26, 27, 28, 29, 30, 31, 32, 33, 34, 35, 36, 37, 38, 39, 40, 41, 42, 43, 44, 45, 46, 47, 48, 49, 50, 51, 52, 53, 54, 55, 56, 57, 58, 59, 60, 61, 62, 63, 64, 65, 66, 67, 68, 69, 70, 71, 72, 73, 74] (by decide +kernel) (by decide +kernel)
set_option maxRecDepth 20000 in
theorem gX12_fault_X12_readTown : GoodIn wsX12_fault (wsV RX12 123 RX12 yX12_readTown wsX12_readTown) := goodIn_app (goodIn_of _ (by decide +kernel)) ggX12_fault_X12_readTown
theorem dX12_fault_0 : decode cX12_fault 0 = .ok (.aload_n 0, 1) := by decide +kernel
theorem dX12_fault_1 : decode cX12_fault 1 = .ok (.invokevirtual 123, 3) := by decide +kernel
theorem dX12_fault_4 : decode cX12_fault 4 = .ok (.aload_n 0, 1) := by decide +kernel
theorem dX12_fault_5 : decode cX12_fault 5 = .ok (.getfield 117, 3) := by decide +kernel
theorem dX12_fault_8 : decode cX12_fault 8 = .ok (.ireturn, 1) := by decide +kernel
set_option maxRecDepth 20000 in
theorem ggX12_town_X12_readTown : GoodIn wsX12_town wsX12_readTown := goodIn_r _ [24, 2, 4, 6, 19, 25, 26, 1, 27, 28, 29, 23, 30, 9, 11, 13, 15, 31, 32, 33, 34, 35, 36, 37, 38, 39, 40, 41, 42, 43, 44, 45, 46, 47, 48, 49, 50, 51, 52, 53, 54, 55, 56, 57, 58, 59, 60, 61, 62, 63, 64, 65, 66, 67, 68, 69, 70, 71, 72, 73, 74, 75, 76, 77, 78, 79, 80, 81, 82, 83, 84] (by decide +kernel) (by decide +kernel)
set_option maxRecDepth 20000 in
theorem gX12_town_X12_readTown : GoodIn wsX12_town (wsV RX12 123 RX12 yX12_readTown wsX12_readTown) := goodIn_app (goodIn_of _ (by decide +kernel)) ggX12_town_X12_readTown
theorem dX12_town_0 : decode cX12_town 0 = .ok (.aload_n 0, 1) := by decide +kernel
theorem dX12_town_1 : decode cX12_town 1 = .ok (.invokevirtual 123, 3) := by decide +kernel
theorem dX12_town_4 : decode cX12_town 4 = .ok (.aload_n 0, 1) := by decide +kernel
theorem dX12_town_5 : decode cX12_town 5 = .ok (.getfield 120, 3) := by decide +kernel
theorem dX12_town_8 : decode cX12_town 8 = .ok (.ifCond .ne 6, 3) := by decide +kernel
theorem dX12_town_11 : decode cX12_town 11 = .ok (.bipush (-103), 2) := by decide +kernel
theorem dX12_town_13 : decode cX12_town 13 = .ok (.ireturn, 1) := by decide +kernel
theorem dX12_town_14 : decode cX12_town 14 = .ok (.aload_n 0, 1) := by decide +kernel
theorem dX12_town_15 : decode cX12_town 15 = .ok (.aload_n 0, 1) := by decide +kernel
theorem dX12_town_16 : decode cX12_town 16 = .ok (.getfield 99, 3) := by decide +kernel
theorem dX12_town_19 : decode cX12_town 19 = .ok (.putfield 126, 3) := by decide +kernel
theorem dX12_town_22 : decode cX12_town 22 = .ok (.aload_n 0, 1) := by decide +kernel
theorem dX12_town_23 : decode cX12_town 23 = .ok (.aload_n 0, 1) := by decide +kernel
theorem dX12_town_24 : decode cX12_town 24 = .ok (.getfield 110, 3) := by decide +kernel
theorem dX12_town_27 : decode cX12_town 27 = .ok (.putfield 129, 3) := by decide +kernel
theorem dX12_town_30 : decode cX12_town 30 = .ok (.aload_n 0, 1) := by decide +kernel
theorem dX12_town_31 : decode cX12_town 31 = .ok (.aload_n 0, 1) := by decide +kernel
theorem dX12_town_32 : decode cX12_town 32 = .ok (.getfield 106, 3) := by decide +kernel
theorem dX12_town_35 : decode cX12_town 35 = .ok (.putfield 132, 3) := by decide +kernel
theorem dX12_town_38 : decode cX12_town 38 = .ok (.iconst 0, 1) := by decide +kernel
theorem dX12_town_39 : decode cX12_town 39 = .ok (.istore_n 1, 1) := by decide +kernel
theorem dX12_town_40 : decode cX12_town 40 = .ok (.iload_n 1, 1) := by decide +kernel
theorem dX12_town_41 : decode cX12_town 41 = .ok (.aload_n 0, 1) := by decide +kernel
theorem dX12_town_42 : decode cX12_town 42 = .ok (.getfield 126, 3) := by decide +kernel
theorem dX12_town_45 : decode cX12_town 45 = .ok (.if_icmp .ge 57, 3) := by decide +kernel
theorem dX12_town_48 : decode cX12_town 48 = .ok (.aload_n 0, 1) := by decide +kernel
theorem dX12_town_49 : decode cX12_town 49 = .ok (.getfield 7, 3) := by decide +kernel
theorem dX12_town_52 : decode cX12_town 52 = .ok (.iload_n 1, 1) := by decide +kernel
theorem dX12_town_53 : decode cX12_town 53 = .ok (.aload_n 0, 1) := by decide +kernel
theorem dX12_town_54 : decode cX12_town 54 = .ok (.getfield 38, 3) := by decide +kernel
theorem dX12_town_57 : decode cX12_town 57 = .ok (.iload_n 1, 1) := by decide +kernel
theorem dX12_town_58 : decode cX12_town 58 = .ok (.iaload, 1) := by decide +kernel
theorem dX12_town_59 : decode cX12_town 59 = .ok (.iastore, 1) := by decide +kernel
theorem dX12_town_60 : decode cX12_town 60 = .ok (.aload_n 0, 1) := by decide +kernel
theorem dX12_town_61 : decode cX12_town 61 = .ok (.getfield 13, 3) := by decide +kernel
theorem dX12_town_64 : decode cX12_town 64 = .ok (.iload_n 1, 1) := by decide +kernel
theorem dX12_town_65 : decode cX12_town 65 = .ok (.aload_n 0, 1) := by decide +kernel
theorem dX12_town_66 : decode cX12_town 66 = .ok (.getfield 41, 3) := by decide +kernel
theorem dX12_town_69 : decode cX12_town 69 = .ok (.iload_n 1, 1) := by decide +kernel
theorem dX12_town_70 : decode cX12_town 70 = .ok (.iaload, 1) := by decide +kernel
theorem dX12_town_71 : decode cX12_town 71 = .ok (.iastore, 1) := by decide +kernel
theorem dX12_town_72 : decode cX12_town 72 = .ok (.aload_n 0, 1) := by decide +kernel
theorem dX12_town_73 : decode cX12_town 73 = .ok (.getfield 16, 3) := by decide +kernel
theorem dX12_town_76 : decode cX12_town 76 = .ok (.iload_n 1, 1) := by decide +kernel
theorem dX12_town_77 : decode cX12_town 77 = .ok (.aload_n 0, 1) := by decide +kernel
theorem dX12_town_78 : decode cX12_town 78 = .ok (.getfield 44, 3) := by decide +kernel
theorem dX12_town_81 : decode cX12_town 81 = .ok (.iload_n 1, 1) := by decide +kernel
theorem dX12_town_82 : decode cX12_town 82 = .ok (.iaload, 1) := by decide +kernel
theorem dX12_town_83 : decode cX12_town 83 = .ok (.iastore, 1) := by decide +kernel
theorem dX12_town_84 : decode cX12_town 84 = .ok (.aload_n 0, 1) := by decide +kernel
theorem dX12_town_85 : decode cX12_town 85 = .ok (.getfield 19, 3) := by decide +kernel
theorem dX12_town_88 : decode cX12_town 88 = .ok (.iload_n 1, 1) := by decide +kernel
theorem dX12_town_89 : decode cX12_town 89 = .ok (.aload_n 0, 1) := by decide +kernel
theorem dX12_town_90 : decode cX12_town 90 = .ok (.getfield 47, 3) := by decide +kernel
theorem dX12_town_93 : decode cX12_town 93 = .ok (.iload_n 1, 1) := by decide +kernel
theorem dX12_town_94 : decode cX12_town 94 = .ok (.iaload, 1) := by decide +kernel
theorem dX12_town_95 : decode cX12_town 95 = .ok (.iastore, 1) := by decide +kernel
theorem dX12_town_96 : decode cX12_town 96 = .ok (.iinc 1 1, 3) := by decide +kernel
theorem dX12_town_99 : decode cX12_town 99 = .ok (.goto (-59), 3) := by decide +kernel
theorem dX12_town_102 : decode cX12_town 102 = .ok (.aload_n 0, 1) := by decide +kernel
theorem dX12_town_103 : decode cX12_town 103 = .ok (.dup, 1) := by decide +kernel
theorem dX12_town_104 : decode cX12_town 104 = .ok (.getfield 135, 3) := by decide +kernel
theorem dX12_town_107 : decode cX12_town 107 = .ok (.iconst 1, 1) := by decide +kernel
theorem dX12_town_108 : decode cX12_town 108 = .ok (.iadd, 1) := by decide +kernel
theorem dX12_town_109 : decode cX12_town 109 = .ok (.putfield 135, 3) := by decide +kernel
theorem dX12_town_112 : decode cX12_town 112 = .ok (.aload_n 0, 1) := by decide +kernel
theorem dX12_town_113 : decode cX12_town 113 = .ok (.iconst 0, 1) := by decide +kernel
theorem dX12_town_114 : decode cX12_town 114 = .ok (.putfield 138, 3) := by decide +kernel
theorem dX12_town_117 : decode cX12_town 117 = .ok (.aload_n 0, 1) := by decide +kernel
theorem dX12_town_118 : decode cX12_town 118 = .ok (.iconst 0, 1) := by decide +kernel
theorem dX12_town_119 : decode cX12_town 119 = .ok (.putfield 141, 3) := by decide +kernel
theorem dX12_town_122 : decode cX12_town 122 = .ok (.aload_n 0, 1) := by decide +kernel
theorem dX12_town_123 : decode cX12_town 123 = .ok (.iconst 0, 1) := by decide +kernel
theorem dX12_town_124 : decode cX12_town 124 = .ok (.putfield 95, 3) := by decide +kernel
theorem dX12_town_127 : decode cX12_town 127 = .ok (.aload_n 0, 1) := by decide +kernel
theorem dX12_town_128 : decode cX12_town 128 = .ok (.getfield 126, 3) := by decide +kernel
theorem dX12_town_131 : decode cX12_town 131 = .ok (.ireturn, 1) := by decide +kernel
set_option maxRecDepth 20000 in
theorem ggX12_isStreet_X12_within : GoodIn wsX12_isStreet wsX12_within := goodIn_r _ [5] (by decide +kernel) (by decide +kernel)
set_option maxRecDepth 20000 in
theorem gX12_isStreet_X12_within : GoodIn wsX12_isStreet (va_wsS RX12 102 yX12_within wsX12_within) := goodIn_app (goodIn_of _ (by decide +kernel)) ggX12_isStreet_X12_within
theorem dX12_isStreet_0 : decode cX12_isStreet 0 = .ok (.iload_n 1, 1) := by decide +kernel
theorem dX12_isStreet_1 : decode cX12_isStreet 1 = .ok (.iconst 0, 1) := by decide +kernel
theorem dX12_isStreet_2 : decode cX12_isStreet 2 = .ok (.aload_n 0, 1) := by decide +kernel
theorem dX12_isStreet_3 : decode cX12_isStreet 3 = .ok (.getfield 126, 3) := by decide +kernel
theorem dX12_isStreet_6 : decode cX12_isStreet 6 = .ok (.iconst 1, 1) := by decide +kernel
theorem dX12_isStreet_7 : decode cX12_isStreet 7 = .ok (.isub, 1) := by decide +kernel
theorem dX12_isStreet_8 : decode cX12_isStreet 8 = .ok (.invokestatic 102, 3) := by decide +kernel
theorem dX12_isStreet_11 : decode cX12_isStreet 11 = .ok (.ireturn, 1) := by decide +kernel
theorem dX12_streetNow_0 : decode cX12_streetNow 0 = .ok (.iload_n 2, 1) := by decide +kernel
theorem dX12_streetNow_1 : decode cX12_streetNow 1 = .ok (.ifCond .ne 12, 3) := by decide +kernel
theorem dX12_streetNow_4 : decode cX12_streetNow 4 = .ok (.aload_n 0, 1) := by decide +kernel
theorem dX12_streetNow_5 : decode cX12_streetNow 5 = .ok (.getfield 7, 3) := by decide +kernel
theorem dX12_streetNow_8 : decode cX12_streetNow 8 = .ok (.iload_n 1, 1) := by decide +kernel
theorem dX12_streetNow_9 : decode cX12_streetNow 9 = .ok (.iaload, 1) := by decide +kernel
theorem dX12_streetNow_10 : decode cX12_streetNow 10 = .ok (.goto 37, 3) := by decide +kernel
theorem dX12_streetNow_13 : decode cX12_streetNow 13 = .ok (.iload_n 2, 1) := by decide +kernel
theorem dX12_streetNow_14 : decode cX12_streetNow 14 = .ok (.iconst 1, 1) := by decide +kernel
theorem dX12_streetNow_15 : decode cX12_streetNow 15 = .ok (.if_icmp .ne 12, 3) := by decide +kernel
theorem dX12_streetNow_18 : decode cX12_streetNow 18 = .ok (.aload_n 0, 1) := by decide +kernel
theorem dX12_streetNow_19 : decode cX12_streetNow 19 = .ok (.getfield 13, 3) := by decide +kernel
theorem dX12_streetNow_22 : decode cX12_streetNow 22 = .ok (.iload_n 1, 1) := by decide +kernel
theorem dX12_streetNow_23 : decode cX12_streetNow 23 = .ok (.iaload, 1) := by decide +kernel
theorem dX12_streetNow_24 : decode cX12_streetNow 24 = .ok (.goto 23, 3) := by decide +kernel
theorem dX12_streetNow_27 : decode cX12_streetNow 27 = .ok (.iload_n 2, 1) := by decide +kernel
theorem dX12_streetNow_28 : decode cX12_streetNow 28 = .ok (.iconst 2, 1) := by decide +kernel
theorem dX12_streetNow_29 : decode cX12_streetNow 29 = .ok (.if_icmp .ne 12, 3) := by decide +kernel
theorem dX12_streetNow_32 : decode cX12_streetNow 32 = .ok (.aload_n 0, 1) := by decide +kernel
theorem dX12_streetNow_33 : decode cX12_streetNow 33 = .ok (.getfield 16, 3) := by decide +kernel
theorem dX12_streetNow_36 : decode cX12_streetNow 36 = .ok (.iload_n 1, 1) := by decide +kernel
theorem dX12_streetNow_37 : decode cX12_streetNow 37 = .ok (.iaload, 1) := by decide +kernel
theorem dX12_streetNow_38 : decode cX12_streetNow 38 = .ok (.goto 9, 3) := by decide +kernel
theorem dX12_streetNow_41 : decode cX12_streetNow 41 = .ok (.aload_n 0, 1) := by decide +kernel
theorem dX12_streetNow_42 : decode cX12_streetNow 42 = .ok (.getfield 19, 3) := by decide +kernel
theorem dX12_streetNow_45 : decode cX12_streetNow 45 = .ok (.iload_n 1, 1) := by decide +kernel
theorem dX12_streetNow_46 : decode cX12_streetNow 46 = .ok (.iaload, 1) := by decide +kernel
theorem dX12_streetNow_47 : decode cX12_streetNow 47 = .ok (.ireturn, 1) := by decide +kernel
set_option maxRecDepth 20000 in
theorem ggX12_street_X12_isStreet : GoodIn wsX12_street wsX12_isStreet := goodIn_r _ [5, 6, 7, 8, 4, 9, 18, 19, 20, 21, 22, 23, 24, 25, 26, 27, 28, 29, 30, 31, 32, 33, 34, 35, 36, 37, 38, 39, 40, 41, 42, 43, 44, 45, 46, 47, 48, 49, 50, 51, 52, 53, 54, 55, 56, 57, 58, 59, 60, 61, 62, 63, 64, 65, 66, 67, 68] (by decide +kernel) (by decide +kernel)
set_option maxRecDepth 20000 in
theorem gX12_street_X12_isStreet : GoodIn wsX12_street (wsV RX12 144 RX12 yX12_isStreet wsX12_isStreet) := goodIn_app (goodIn_of _ (by decide +kernel)) ggX12_street_X12_isStreet
set_option maxRecDepth 20000 in
theorem ggX12_street_X12_within : GoodIn wsX12_street wsX12_within := goodIn_r _ [9] (by decide +kernel) (by decide +kernel)
set_option maxRecDepth 20000 in
theorem gX12_street_X12_within : GoodIn wsX12_street (va_wsS RX12 102 yX12_within wsX12_within) := goodIn_app (goodIn_of _ (by decide +kernel)) ggX12_street_X12_within
set_option maxRecDepth 20000 in
theorem ggX12_street_X12_streetNow : GoodIn wsX12_street wsX12_streetNow := goodIn_r _ [13, 14, 15, 16, 17, 18, 19, 20, 21, 22, 23, 24, 25, 26, 27, 28, 29, 30, 31, 32, 33, 34, 35, 36, 37, 38, 39, 40, 41, 42, 43, 44, 45, 46, 47, 48, 49, 50, 51, 52, 53, 54, 55, 56, 57, 58, 59, 60, 61, 62, 63, 64, 65, 66, 67, 68] (by decide +kernel) (by decide +kernel)
set_option maxRecDepth 20000 in
theorem gX12_street_X12_streetNow : GoodIn wsX12_street (wsV RX12 148 RX12 yX12_streetNow wsX12_streetNow) := goodIn_app (goodIn_of _ (by decide +kernel)) ggX12_street_X12_streetNow
theorem dX12_street_0 : decode cX12_street 0 = .ok (.aload_n 0, 1) := by decide +kernel
theorem dX12_street_1 : decode cX12_street 1 = .ok (.iload_n 1, 1) := by decide +kernel
theorem dX12_street_2 : decode cX12_street 2 = .ok (.invokevirtual 144, 3) := by decide +kernel
theorem dX12_street_5 : decode cX12_street 5 = .ok (.ifCond .ne 8, 3) := by decide +kernel
theorem dX12_street_8 : decode cX12_street 8 = .ok (.bipush (-101), 2) := by decide +kernel
theorem dX12_street_10 : decode cX12_street 10 = .ok (.goto 23, 3) := by decide +kernel
theorem dX12_street_13 : decode cX12_street 13 = .ok (.iload_n 2, 1) := by decide +kernel
theorem dX12_street_14 : decode cX12_street 14 = .ok (.iconst 0, 1) := by decide +kernel
theorem dX12_street_15 : decode cX12_street 15 = .ok (.iconst 3, 1) := by decide +kernel
theorem dX12_street_16 : decode cX12_street 16 = .ok (.invokestatic 102, 3) := by decide +kernel
theorem dX12_street_19 : decode cX12_street 19 = .ok (.ifCond .eq 12, 3) := by decide +kernel
theorem dX12_street_22 : decode cX12_street 22 = .ok (.aload_n 0, 1) := by decide +kernel
theorem dX12_street_23 : decode cX12_street 23 = .ok (.iload_n 1, 1) := by decide +kernel
theorem dX12_street_24 : decode cX12_street 24 = .ok (.iload_n 2, 1) := by decide +kernel
theorem dX12_street_25 : decode cX12_street 25 = .ok (.invokevirtual 148, 3) := by decide +kernel
theorem dX12_street_28 : decode cX12_street 28 = .ok (.goto 5, 3) := by decide +kernel
theorem dX12_street_31 : decode cX12_street 31 = .ok (.bipush (-102), 2) := by decide +kernel
theorem dX12_street_33 : decode cX12_street 33 = .ok (.ireturn, 1) := by decide +kernel
set_option maxRecDepth 20000 in
theorem ggX12_repave_X12_isStreet : GoodIn wsX12_repave wsX12_isStreet := goodIn_r _ [6, 7, 8, 9, 5, 10, 11, 12, 13, 14, 15, 16, 17, 18, 19, 20, 21, 22, 23, 24, 25, 26, 27, 28, 29, 30, 31, 32, 33, 34, 35, 36, 37, 38, 39, 40, 41, 42, 43, 44, 45, 46, 47, 48, 49, 50, 51, 52, 53, 54, 55, 56, 57, 58, 59, 60, 61] (by decide +kernel) (by decide +kernel)
set_option maxRecDepth 20000 in
theorem gX12_repave_X12_isStreet : GoodIn wsX12_repave (wsV RX12 144 RX12 yX12_isStreet wsX12_isStreet) := goodIn_app (goodIn_of _ (by decide +kernel)) ggX12_repave_X12_isStreet
set_option maxRecDepth 20000 in
theorem ggX12_repave_X12_within : GoodIn wsX12_repave wsX12_within := goodIn_r _ [10] (by decide +kernel) (by decide +kernel)
set_option maxRecDepth 20000 in
theorem gX12_repave_X12_within : GoodIn wsX12_repave (va_wsS RX12 102 yX12_within wsX12_within) := goodIn_app (goodIn_of _ (by decide +kernel)) ggX12_repave_X12_within
theorem dX12_repave_0 : decode cX12_repave 0 = .ok (.aload_n 0, 1) := by decide +kernel
theorem dX12_repave_1 : decode cX12_repave 1 = .ok (.iload_n 1, 1) := by decide +kernel
theorem dX12_repave_2 : decode cX12_repave 2 = .ok (.invokevirtual 144, 3) := by decide +kernel
theorem dX12_repave_5 : decode cX12_repave 5 = .ok (.ifCond .ne 6, 3) := by decide +kernel
theorem dX12_repave_8 : decode cX12_repave 8 = .ok (.bipush (-101), 2) := by decide +kernel
theorem dX12_repave_10 : decode cX12_repave 10 = .ok (.ireturn, 1) := by decide +kernel
theorem dX12_repave_11 : decode cX12_repave 11 = .ok (.iload_n 2, 1) := by decide +kernel
theorem dX12_repave_12 : decode cX12_repave 12 = .ok (.iconst 0, 1) := by decide +kernel
theorem dX12_repave_13 : decode cX12_repave 13 = .ok (.bipush 9, 2) := by decide +kernel
theorem dX12_repave_15 : decode cX12_repave 15 = .ok (.invokestatic 102, 3) := by decide +kernel
theorem dX12_repave_18 : decode cX12_repave 18 = .ok (.ifCond .ne 6, 3) := by decide +kernel
theorem dX12_repave_21 : decode cX12_repave 21 = .ok (.bipush (-102), 2) := by decide +kernel
theorem dX12_repave_23 : decode cX12_repave 23 = .ok (.ireturn, 1) := by decide +kernel
theorem dX12_repave_24 : decode cX12_repave 24 = .ok (.aload_n 0, 1) := by decide +kernel
theorem dX12_repave_25 : decode cX12_repave 25 = .ok (.getfield 16, 3) := by decide +kernel
theorem dX12_repave_28 : decode cX12_repave 28 = .ok (.iload_n 1, 1) := by decide +kernel
theorem dX12_repave_29 : decode cX12_repave 29 = .ok (.iaload, 1) := by decide +kernel
theorem dX12_repave_30 : decode cX12_repave 30 = .ok (.istore_n 3, 1) := by decide +kernel
theorem dX12_repave_31 : decode cX12_repave 31 = .ok (.aload_n 0, 1) := by decide +kernel
theorem dX12_repave_32 : decode cX12_repave 32 = .ok (.getfield 16, 3) := by decide +kernel
theorem dX12_repave_35 : decode cX12_repave 35 = .ok (.iload_n 1, 1) := by decide +kernel
theorem dX12_repave_36 : decode cX12_repave 36 = .ok (.iload_n 2, 1) := by decide +kernel
theorem dX12_repave_37 : decode cX12_repave 37 = .ok (.iastore, 1) := by decide +kernel
theorem dX12_repave_38 : decode cX12_repave 38 = .ok (.iload_n 3, 1) := by decide +kernel
theorem dX12_repave_39 : decode cX12_repave 39 = .ok (.ireturn, 1) := by decide +kernel
set_option maxRecDepth 20000 in
theorem ggX12_isWalker_X12_within : GoodIn wsX12_isWalker wsX12_within := goodIn_r _ [5] (by decide +kernel) (by decide +kernel)
set_option maxRecDepth 20000 in
theorem gX12_isWalker_X12_within : GoodIn wsX12_isWalker (va_wsS RX12 102 yX12_within wsX12_within) := goodIn_app (goodIn_of _ (by decide +kernel)) ggX12_isWalker_X12_within
theorem dX12_isWalker_0 : decode cX12_isWalker 0 = .ok (.iload_n 1, 1) := by decide +kernel
theorem dX12_isWalker_1 : decode cX12_isWalker 1 = .ok (.iconst 0, 1) := by decide +kernel
theorem dX12_isWalker_2 : decode cX12_isWalker 2 = .ok (.aload_n 0, 1) := by decide +kernel
theorem dX12_isWalker_3 : decode cX12_isWalker 3 = .ok (.getfield 138, 3) := by decide +kernel
theorem dX12_isWalker_6 : decode cX12_isWalker 6 = .ok (.iconst 1, 1) := by decide +kernel
theorem dX12_isWalker_7 : decode cX12_isWalker 7 = .ok (.isub, 1) := by decide +kernel
theorem dX12_isWalker_8 : decode cX12_isWalker 8 = .ok (.invokestatic 102, 3) := by decide +kernel
theorem dX12_isWalker_11 : decode cX12_isWalker 11 = .ok (.ireturn, 1) := by decide +kernel
set_option maxRecDepth 20000 in
theorem ggX12_isPlace_X12_within : GoodIn wsX12_isPlace wsX12_within := goodIn_r _ [4] (by decide +kernel) (by decide +kernel)
set_option maxRecDepth 20000 in
theorem gX12_isPlace_X12_within : GoodIn wsX12_isPlace (va_wsS RX12 102 yX12_within wsX12_within) := goodIn_app (goodIn_of _ (by decide +kernel)) ggX12_isPlace_X12_within
theorem dX12_isPlace_0 : decode cX12_isPlace 0 = .ok (.iload_n 0, 1) := by decide +kernel
theorem dX12_isPlace_1 : decode cX12_isPlace 1 = .ok (.iconst 0, 1) := by decide +kernel
theorem dX12_isPlace_2 : decode cX12_isPlace 2 = .ok (.bipush 6, 2) := by decide +kernel
theorem dX12_isPlace_4 : decode cX12_isPlace 4 = .ok (.invokestatic 102, 3) := by decide +kernel
theorem dX12_isPlace_7 : decode cX12_isPlace 7 = .ok (.ireturn, 1) := by decide +kernel
set_option maxRecDepth 20000 in
theorem ggX12_walker_X12_isPlace : GoodIn wsX12_walker wsX12_isPlace := goodIn_r _ [9, 10, 11, 8, 12] (by decide +kernel) (by decide +kernel)
set_option maxRecDepth 20000 in
theorem gX12_walker_X12_isPlace : GoodIn wsX12_walker (va_wsS RX12 151 yX12_isPlace wsX12_isPlace) := goodIn_app (goodIn_of _ (by decide +kernel)) ggX12_walker_X12_isPlace
set_option maxRecDepth 20000 in
theorem ggX12_walker_X12_within : GoodIn wsX12_walker wsX12_within := goodIn_r _ [12] (by decide +kernel) (by decide +kernel)
set_option maxRecDepth 20000 in
theorem gX12_walker_X12_within : GoodIn wsX12_walker (va_wsS RX12 102 yX12_within wsX12_within) := goodIn_app (goodIn_of _ (by decide +kernel)) ggX12_walker_X12_within
theorem dX12_walker_0 : decode cX12_walker 0 = .ok (.iload_n 2, 1) := by decide +kernel
theorem dX12_walker_1 : decode cX12_walker 1 = .ok (.invokestatic 151, 3) := by decide +kernel
theorem dX12_walker_4 : decode cX12_walker 4 = .ok (.ifCond .ne 6, 3) := by decide +kernel
theorem dX12_walker_7 : decode cX12_walker 7 = .ok (.bipush (-101), 2) := by decide +kernel
theorem dX12_walker_9 : decode cX12_walker 9 = .ok (.ireturn, 1) := by decide +kernel
theorem dX12_walker_10 : decode cX12_walker 10 = .ok (.iload_n 1, 1) := by decide +kernel
theorem dX12_walker_11 : decode cX12_walker 11 = .ok (.iconst 0, 1) := by decide +kernel
theorem dX12_walker_12 : decode cX12_walker 12 = .ok (.iconst 4, 1) := by decide +kernel
theorem dX12_walker_13 : decode cX12_walker 13 = .ok (.invokestatic 102, 3) := by decide +kernel
theorem dX12_walker_16 : decode cX12_walker 16 = .ok (.ifCond .eq 12, 3) := by decide +kernel
theorem dX12_walker_19 : decode cX12_walker 19 = .ok (.iload_n 3, 1) := by decide +kernel
theorem dX12_walker_20 : decode cX12_walker 20 = .ok (.iconst 0, 1) := by decide +kernel
theorem dX12_walker_21 : decode cX12_walker 21 = .ok (.iconst 1, 1) := by decide +kernel
theorem dX12_walker_22 : decode cX12_walker 22 = .ok (.invokestatic 102, 3) := by decide +kernel
theorem dX12_walker_25 : decode cX12_walker 25 = .ok (.ifCond .ne 6, 3) := by decide +kernel
theorem dX12_walker_28 : decode cX12_walker 28 = .ok (.bipush (-102), 2) := by decide +kernel
theorem dX12_walker_30 : decode cX12_walker 30 = .ok (.ireturn, 1) := by decide +kernel
theorem dX12_walker_31 : decode cX12_walker 31 = .ok (.aload_n 0, 1) := by decide +kernel
theorem dX12_walker_32 : decode cX12_walker 32 = .ok (.getfield 135, 3) := by decide +kernel
theorem dX12_walker_35 : decode cX12_walker 35 = .ok (.ifCond .ne 6, 3) := by decide +kernel
theorem dX12_walker_38 : decode cX12_walker 38 = .ok (.bipush (-103), 2) := by decide +kernel
theorem dX12_walker_40 : decode cX12_walker 40 = .ok (.ireturn, 1) := by decide +kernel
theorem dX12_walker_41 : decode cX12_walker 41 = .ok (.aload_n 0, 1) := by decide +kernel
theorem dX12_walker_42 : decode cX12_walker 42 = .ok (.getfield 138, 3) := by decide +kernel
theorem dX12_walker_45 : decode cX12_walker 45 = .ok (.iconst 5, 1) := by decide +kernel
theorem dX12_walker_46 : decode cX12_walker 46 = .ok (.if_icmp .ne 6, 3) := by decide +kernel
theorem dX12_walker_49 : decode cX12_walker 49 = .ok (.bipush (-104), 2) := by decide +kernel
theorem dX12_walker_51 : decode cX12_walker 51 = .ok (.ireturn, 1) := by decide +kernel
theorem dX12_walker_52 : decode cX12_walker 52 = .ok (.aload_n 0, 1) := by decide +kernel
theorem dX12_walker_53 : decode cX12_walker 53 = .ok (.getfield 22, 3) := by decide +kernel
theorem dX12_walker_56 : decode cX12_walker 56 = .ok (.aload_n 0, 1) := by decide +kernel
theorem dX12_walker_57 : decode cX12_walker 57 = .ok (.getfield 138, 3) := by decide +kernel
theorem dX12_walker_60 : decode cX12_walker 60 = .ok (.iload_n 1, 1) := by decide +kernel
theorem dX12_walker_61 : decode cX12_walker 61 = .ok (.iastore, 1) := by decide +kernel
theorem dX12_walker_62 : decode cX12_walker 62 = .ok (.aload_n 0, 1) := by decide +kernel
theorem dX12_walker_63 : decode cX12_walker 63 = .ok (.getfield 25, 3) := by decide +kernel
theorem dX12_walker_66 : decode cX12_walker 66 = .ok (.aload_n 0, 1) := by decide +kernel
theorem dX12_walker_67 : decode cX12_walker 67 = .ok (.getfield 138, 3) := by decide +kernel
theorem dX12_walker_70 : decode cX12_walker 70 = .ok (.iload_n 2, 1) := by decide +kernel
theorem dX12_walker_71 : decode cX12_walker 71 = .ok (.bipush 7, 2) := by decide +kernel
theorem dX12_walker_73 : decode cX12_walker 73 = .ok (.iload_n 3, 1) := by decide +kernel
theorem dX12_walker_74 : decode cX12_walker 74 = .ok (.imul, 1) := by decide +kernel
theorem dX12_walker_75 : decode cX12_walker 75 = .ok (.iadd, 1) := by decide +kernel
theorem dX12_walker_76 : decode cX12_walker 76 = .ok (.iastore, 1) := by decide +kernel
theorem dX12_walker_77 : decode cX12_walker 77 = .ok (.aload_n 0, 1) := by decide +kernel
theorem dX12_walker_78 : decode cX12_walker 78 = .ok (.getfield 28, 3) := by decide +kernel
theorem dX12_walker_81 : decode cX12_walker 81 = .ok (.aload_n 0, 1) := by decide +kernel
theorem dX12_walker_82 : decode cX12_walker 82 = .ok (.getfield 138, 3) := by decide +kernel
theorem dX12_walker_85 : decode cX12_walker 85 = .ok (.iconst 0, 1) := by decide +kernel
theorem dX12_walker_86 : decode cX12_walker 86 = .ok (.iastore, 1) := by decide +kernel
theorem dX12_walker_87 : decode cX12_walker 87 = .ok (.aload_n 0, 1) := by decide +kernel
theorem dX12_walker_88 : decode cX12_walker 88 = .ok (.dup, 1) := by decide +kernel
theorem dX12_walker_89 : decode cX12_walker 89 = .ok (.getfield 138, 3) := by decide +kernel
theorem dX12_walker_92 : decode cX12_walker 92 = .ok (.iconst 1, 1) := by decide +kernel
theorem dX12_walker_93 : decode cX12_walker 93 = .ok (.iadd, 1) := by decide +kernel
theorem dX12_walker_94 : decode cX12_walker 94 = .ok (.putfield 138, 3) := by decide +kernel
theorem dX12_walker_97 : decode cX12_walker 97 = .ok (.aload_n 0, 1) := by decide +kernel
theorem dX12_walker_98 : decode cX12_walker 98 = .ok (.getfield 138, 3) := by decide +kernel
theorem dX12_walker_101 : decode cX12_walker 101 = .ok (.iconst 1, 1) := by decide +kernel
theorem dX12_walker_102 : decode cX12_walker 102 = .ok (.isub, 1) := by decide +kernel
theorem dX12_walker_103 : decode cX12_walker 103 = .ok (.ireturn, 1) := by decide +kernel
theorem dX12_placeIn_0 : decode cX12_placeIn 0 = .ok (.iload_n 0, 1) := by decide +kernel
theorem dX12_placeIn_1 : decode cX12_placeIn 1 = .ok (.bipush 7, 2) := by decide +kernel
theorem dX12_placeIn_3 : decode cX12_placeIn 3 = .ok (.irem, 1) := by decide +kernel
theorem dX12_placeIn_4 : decode cX12_placeIn 4 = .ok (.ireturn, 1) := by decide +kernel
theorem dX12_footIn_0 : decode cX12_footIn 0 = .ok (.iload_n 0, 1) := by decide +kernel
theorem dX12_footIn_1 : decode cX12_footIn 1 = .ok (.bipush 7, 2) := by decide +kernel
theorem dX12_footIn_3 : decode cX12_footIn 3 = .ok (.idiv, 1) := by decide +kernel
theorem dX12_footIn_4 : decode cX12_footIn 4 = .ok (.iconst 2, 1) := by decide +kernel
theorem dX12_footIn_5 : decode cX12_footIn 5 = .ok (.irem, 1) := by decide +kernel
theorem dX12_footIn_6 : decode cX12_footIn 6 = .ok (.ireturn, 1) := by decide +kernel
theorem dX12_weight_0 : decode cX12_weight 0 = .ok (.iload_n 0, 1) := by decide +kernel
theorem dX12_weight_1 : decode cX12_weight 1 = .ok (.ifCond .ne 8, 3) := by decide +kernel
theorem dX12_weight_4 : decode cX12_weight 4 = .ok (.bipush 14, 2) := by decide +kernel
theorem dX12_weight_6 : decode cX12_weight 6 = .ok (.goto 15, 3) := by decide +kernel
theorem dX12_weight_9 : decode cX12_weight 9 = .ok (.iload_n 0, 1) := by decide +kernel
theorem dX12_weight_10 : decode cX12_weight 10 = .ok (.iconst 1, 1) := by decide +kernel
theorem dX12_weight_11 : decode cX12_weight 11 = .ok (.if_icmp .ne 8, 3) := by decide +kernel
theorem dX12_weight_14 : decode cX12_weight 14 = .ok (.bipush 42, 2) := by decide +kernel
theorem dX12_weight_16 : decode cX12_weight 16 = .ok (.goto 5, 3) := by decide +kernel
theorem dX12_weight_19 : decode cX12_weight 19 = .ok (.bipush 126, 2) := by decide +kernel
theorem dX12_weight_21 : decode cX12_weight 21 = .ok (.ireturn, 1) := by decide +kernel
set_option maxRecDepth 20000 in
theorem ggX12_markIn_X12_weight : GoodIn wsX12_markIn wsX12_weight := goodIn_r _ [4] (by decide +kernel) (by decide +kernel)
set_option maxRecDepth 20000 in
theorem gX12_markIn_X12_weight : GoodIn wsX12_markIn (va_wsS RX12 154 yX12_weight wsX12_weight) := goodIn_app (goodIn_of _ (by decide +kernel)) ggX12_markIn_X12_weight
theorem dX12_markIn_0 : decode cX12_markIn 0 = .ok (.iload_n 0, 1) := by decide +kernel
theorem dX12_markIn_1 : decode cX12_markIn 1 = .ok (.iload_n 1, 1) := by decide +kernel
theorem dX12_markIn_2 : decode cX12_markIn 2 = .ok (.invokestatic 154, 3) := by decide +kernel
theorem dX12_markIn_5 : decode cX12_markIn 5 = .ok (.idiv, 1) := by decide +kernel
theorem dX12_markIn_6 : decode cX12_markIn 6 = .ok (.iconst 3, 1) := by decide +kernel
theorem dX12_markIn_7 : decode cX12_markIn 7 = .ok (.irem, 1) := by decide +kernel
theorem dX12_markIn_8 : decode cX12_markIn 8 = .ok (.iconst 1, 1) := by decide +kernel
theorem dX12_markIn_9 : decode cX12_markIn 9 = .ok (.isub, 1) := by decide +kernel
theorem dX12_markIn_10 : decode cX12_markIn 10 = .ok (.ireturn, 1) := by decide +kernel
set_option maxRecDepth 20000 in
theorem ggX12_walkerNow_X12_placeIn : GoodIn wsX12_walkerNow wsX12_placeIn := goodIn_r _ [7] (by decide +kernel) (by decide +kernel)
set_option maxRecDepth 20000 in
theorem gX12_walkerNow_X12_placeIn : GoodIn wsX12_walkerNow (va_wsS RX12 158 yX12_placeIn wsX12_placeIn) := goodIn_app (goodIn_of _ (by decide +kernel)) ggX12_walkerNow_X12_placeIn
set_option maxRecDepth 20000 in
theorem ggX12_walkerNow_X12_footIn : GoodIn wsX12_walkerNow wsX12_footIn := goodIn_r _ [10] (by decide +kernel) (by decide +kernel)
set_option maxRecDepth 20000 in
theorem gX12_walkerNow_X12_footIn : GoodIn wsX12_walkerNow (va_wsS RX12 161 yX12_footIn wsX12_footIn) := goodIn_app (goodIn_of _ (by decide +kernel)) ggX12_walkerNow_X12_footIn
set_option maxRecDepth 20000 in
theorem ggX12_walkerNow_X12_markIn : GoodIn wsX12_walkerNow wsX12_markIn := goodIn_r _ [13, 14, 15, 6, 16] (by decide +kernel) (by decide +kernel)
set_option maxRecDepth 20000 in
theorem gX12_walkerNow_X12_markIn : GoodIn wsX12_walkerNow (va_wsS RX12 164 yX12_markIn wsX12_markIn) := goodIn_app (goodIn_of _ (by decide +kernel)) ggX12_walkerNow_X12_markIn
theorem dX12_walkerNow_0 : decode cX12_walkerNow 0 = .ok (.iload_n 2, 1) := by decide +kernel
theorem dX12_walkerNow_1 : decode cX12_walkerNow 1 = .ok (.tableswitch 65 0 3 #[31, 38, 48, 58], 31) := by decide +kernel
theorem dX12_walkerNow_32 : decode cX12_walkerNow 32 = .ok (.aload_n 0, 1) := by decide +kernel
theorem dX12_walkerNow_33 : decode cX12_walkerNow 33 = .ok (.getfield 22, 3) := by decide +kernel
theorem dX12_walkerNow_36 : decode cX12_walkerNow 36 = .ok (.iload_n 1, 1) := by decide +kernel
theorem dX12_walkerNow_37 : decode cX12_walkerNow 37 = .ok (.iaload, 1) := by decide +kernel
theorem dX12_walkerNow_38 : decode cX12_walkerNow 38 = .ok (.ireturn, 1) := by decide +kernel
theorem dX12_walkerNow_39 : decode cX12_walkerNow 39 = .ok (.aload_n 0, 1) := by decide +kernel
theorem dX12_walkerNow_40 : decode cX12_walkerNow 40 = .ok (.getfield 25, 3) := by decide +kernel
theorem dX12_walkerNow_43 : decode cX12_walkerNow 43 = .ok (.iload_n 1, 1) := by decide +kernel
theorem dX12_walkerNow_44 : decode cX12_walkerNow 44 = .ok (.iaload, 1) := by decide +kernel
theorem dX12_walkerNow_45 : decode cX12_walkerNow 45 = .ok (.invokestatic 158, 3) := by decide +kernel
theorem dX12_walkerNow_48 : decode cX12_walkerNow 48 = .ok (.ireturn, 1) := by decide +kernel
theorem dX12_walkerNow_49 : decode cX12_walkerNow 49 = .ok (.aload_n 0, 1) := by decide +kernel
theorem dX12_walkerNow_50 : decode cX12_walkerNow 50 = .ok (.getfield 25, 3) := by decide +kernel
theorem dX12_walkerNow_53 : decode cX12_walkerNow 53 = .ok (.iload_n 1, 1) := by decide +kernel
theorem dX12_walkerNow_54 : decode cX12_walkerNow 54 = .ok (.iaload, 1) := by decide +kernel
theorem dX12_walkerNow_55 : decode cX12_walkerNow 55 = .ok (.invokestatic 161, 3) := by decide +kernel
theorem dX12_walkerNow_58 : decode cX12_walkerNow 58 = .ok (.ireturn, 1) := by decide +kernel
theorem dX12_walkerNow_59 : decode cX12_walkerNow 59 = .ok (.aload_n 0, 1) := by decide +kernel
theorem dX12_walkerNow_60 : decode cX12_walkerNow 60 = .ok (.getfield 28, 3) := by decide +kernel
theorem dX12_walkerNow_63 : decode cX12_walkerNow 63 = .ok (.iload_n 1, 1) := by decide +kernel
theorem dX12_walkerNow_64 : decode cX12_walkerNow 64 = .ok (.iaload, 1) := by decide +kernel
theorem dX12_walkerNow_65 : decode cX12_walkerNow 65 = .ok (.ireturn, 1) := by decide +kernel
theorem dX12_walkerNow_66 : decode cX12_walkerNow 66 = .ok (.aload_n 0, 1) := by decide +kernel
theorem dX12_walkerNow_67 : decode cX12_walkerNow 67 = .ok (.getfield 25, 3) := by decide +kernel
theorem dX12_walkerNow_70 : decode cX12_walkerNow 70 = .ok (.iload_n 1, 1) := by decide +kernel
theorem dX12_walkerNow_71 : decode cX12_walkerNow 71 = .ok (.iaload, 1) := by decide +kernel
theorem dX12_walkerNow_72 : decode cX12_walkerNow 72 = .ok (.iload_n 2, 1) := by decide +kernel
theorem dX12_walkerNow_73 : decode cX12_walkerNow 73 = .ok (.iconst 4, 1) := by decide +kernel
theorem dX12_walkerNow_74 : decode cX12_walkerNow 74 = .ok (.isub, 1) := by decide +kernel
theorem dX12_walkerNow_75 : decode cX12_walkerNow 75 = .ok (.invokestatic 164, 3) := by decide +kernel
theorem dX12_walkerNow_78 : decode cX12_walkerNow 78 = .ok (.ireturn, 1) := by decide +kernel
set_option maxRecDepth 20000 in
theorem ggX12_about_X12_isWalker : GoodIn wsX12_about wsX12_isWalker := goodIn_r _ [5, 6, 7, 8, 4, 9, 29, 30, 31, 32, 33, 34, 35, 36, 37, 38, 39, 40, 41, 42, 43, 44, 45, 46, 47, 48, 49, 50, 51, 52, 53, 54, 55, 56, 57, 58, 59, 60, 61, 62, 63, 64, 65, 66, 67, 68, 69, 70, 71, 72, 73, 74, 75, 76, 77, 78, 79] (by decide +kernel) (by decide +kernel)
set_option maxRecDepth 20000 in
theorem gX12_about_X12_isWalker : GoodIn wsX12_about (wsV RX12 167 RX12 yX12_isWalker wsX12_isWalker) := goodIn_app (goodIn_of _ (by decide +kernel)) ggX12_about_X12_isWalker
set_option maxRecDepth 20000 in
theorem ggX12_about_X12_within : GoodIn wsX12_about wsX12_within := goodIn_r _ [9] (by decide +kernel) (by decide +kernel)
set_option maxRecDepth 20000 in
theorem gX12_about_X12_within : GoodIn wsX12_about (va_wsS RX12 102 yX12_within wsX12_within) := goodIn_app (goodIn_of _ (by decide +kernel)) ggX12_about_X12_within
set_option maxRecDepth 20000 in
theorem ggX12_about_X12_walkerNow : GoodIn wsX12_about wsX12_walkerNow := goodIn_r _ [13, 14, 15, 16, 17, 18, 4, 19, 20, 21, 22, 23, 24, 25, 26, 27, 28, 29, 30, 31, 32, 33, 34, 35, 36, 37, 38, 39, 40, 41, 42, 43, 44, 45, 46, 47, 48, 49, 50, 51, 52, 53, 54, 55, 56, 57, 58, 59, 60, 61, 62, 63, 64, 65, 66, 67, 68, 69, 70, 71, 72, 73, 74, 75, 76, 77, 78, 79] (by decide +kernel) (by decide +kernel)
set_option maxRecDepth 20000 in
theorem gX12_about_X12_walkerNow : GoodIn wsX12_about (wsV RX12 170 RX12 yX12_walkerNow wsX12_walkerNow) := goodIn_app (goodIn_of _ (by decide +kernel)) ggX12_about_X12_walkerNow
theorem dX12_about_0 : decode cX12_about 0 = .ok (.aload_n 0, 1) := by decide +kernel
theorem dX12_about_1 : decode cX12_about 1 = .ok (.iload_n 1, 1) := by decide +kernel
theorem dX12_about_2 : decode cX12_about 2 = .ok (.invokevirtual 167, 3) := by decide +kernel
theorem dX12_about_5 : decode cX12_about 5 = .ok (.ifCond .ne 8, 3) := by decide +kernel
theorem dX12_about_8 : decode cX12_about 8 = .ok (.bipush (-101), 2) := by decide +kernel
theorem dX12_about_10 : decode cX12_about 10 = .ok (.goto 24, 3) := by decide +kernel
theorem dX12_about_13 : decode cX12_about 13 = .ok (.iload_n 2, 1) := by decide +kernel
theorem dX12_about_14 : decode cX12_about 14 = .ok (.iconst 0, 1) := by decide +kernel
theorem dX12_about_15 : decode cX12_about 15 = .ok (.bipush 6, 2) := by decide +kernel
theorem dX12_about_17 : decode cX12_about 17 = .ok (.invokestatic 102, 3) := by decide +kernel
theorem dX12_about_20 : decode cX12_about 20 = .ok (.ifCond .eq 12, 3) := by decide +kernel
theorem dX12_about_23 : decode cX12_about 23 = .ok (.aload_n 0, 1) := by decide +kernel
theorem dX12_about_24 : decode cX12_about 24 = .ok (.iload_n 1, 1) := by decide +kernel
theorem dX12_about_25 : decode cX12_about 25 = .ok (.iload_n 2, 1) := by decide +kernel
theorem dX12_about_26 : decode cX12_about 26 = .ok (.invokevirtual 170, 3) := by decide +kernel
theorem dX12_about_29 : decode cX12_about 29 = .ok (.goto 5, 3) := by decide +kernel
theorem dX12_about_32 : decode cX12_about 32 = .ok (.bipush (-102), 2) := by decide +kernel
theorem dX12_about_34 : decode cX12_about 34 = .ok (.ireturn, 1) := by decide +kernel
set_option maxRecDepth 20000 in
theorem ggX12_as_X12_isWalker : GoodIn wsX12_as wsX12_isWalker := goodIn_r _ [6, 7, 8, 9, 5, 10, 11, 12, 13, 14, 15, 16, 17, 18, 19, 20, 21, 22, 23, 24, 25, 26, 27, 28, 29, 30, 31, 32, 33, 34, 35, 36, 37, 38, 39, 40, 41, 42, 43, 44, 45, 46, 47, 48, 49, 50, 51, 52, 53, 54, 55, 56, 57, 58, 59, 60, 61] (by decide +kernel) (by decide +kernel)
set_option maxRecDepth 20000 in
theorem gX12_as_X12_isWalker : GoodIn wsX12_as (wsV RX12 167 RX12 yX12_isWalker wsX12_isWalker) := goodIn_app (goodIn_of _ (by decide +kernel)) ggX12_as_X12_isWalker
set_option maxRecDepth 20000 in
theorem ggX12_as_X12_within : GoodIn wsX12_as wsX12_within := goodIn_r _ [10] (by decide +kernel) (by decide +kernel)
set_option maxRecDepth 20000 in
theorem gX12_as_X12_within : GoodIn wsX12_as (va_wsS RX12 102 yX12_within wsX12_within) := goodIn_app (goodIn_of _ (by decide +kernel)) ggX12_as_X12_within
theorem dX12_as_0 : decode cX12_as 0 = .ok (.aload_n 0, 1) := by decide +kernel
theorem dX12_as_1 : decode cX12_as 1 = .ok (.iload_n 1, 1) := by decide +kernel
theorem dX12_as_2 : decode cX12_as 2 = .ok (.invokevirtual 167, 3) := by decide +kernel
theorem dX12_as_5 : decode cX12_as 5 = .ok (.ifCond .ne 6, 3) := by decide +kernel
theorem dX12_as_8 : decode cX12_as 8 = .ok (.bipush (-101), 2) := by decide +kernel
theorem dX12_as_10 : decode cX12_as 10 = .ok (.ireturn, 1) := by decide +kernel
theorem dX12_as_11 : decode cX12_as 11 = .ok (.iload_n 2, 1) := by decide +kernel
theorem dX12_as_12 : decode cX12_as 12 = .ok (.iconst 0, 1) := by decide +kernel
theorem dX12_as_13 : decode cX12_as 13 = .ok (.iconst 4, 1) := by decide +kernel
theorem dX12_as_14 : decode cX12_as 14 = .ok (.invokestatic 102, 3) := by decide +kernel
theorem dX12_as_17 : decode cX12_as 17 = .ok (.ifCond .ne 6, 3) := by decide +kernel
theorem dX12_as_20 : decode cX12_as 20 = .ok (.bipush (-102), 2) := by decide +kernel
theorem dX12_as_22 : decode cX12_as 22 = .ok (.ireturn, 1) := by decide +kernel
theorem dX12_as_23 : decode cX12_as 23 = .ok (.aload_n 0, 1) := by decide +kernel
theorem dX12_as_24 : decode cX12_as 24 = .ok (.getfield 22, 3) := by decide +kernel
theorem dX12_as_27 : decode cX12_as 27 = .ok (.iload_n 1, 1) := by decide +kernel
theorem dX12_as_28 : decode cX12_as 28 = .ok (.iaload, 1) := by decide +kernel
theorem dX12_as_29 : decode cX12_as 29 = .ok (.istore_n 3, 1) := by decide +kernel
theorem dX12_as_30 : decode cX12_as 30 = .ok (.iload_n 2, 1) := by decide +kernel
theorem dX12_as_31 : decode cX12_as 31 = .ok (.ifCond .eq 18, 3) := by decide +kernel
theorem dX12_as_34 : decode cX12_as 34 = .ok (.iload_n 3, 1) := by decide +kernel
theorem dX12_as_35 : decode cX12_as 35 = .ok (.iload_n 2, 1) := by decide +kernel
theorem dX12_as_36 : decode cX12_as 36 = .ok (.if_icmp .eq 13, 3) := by decide +kernel
theorem dX12_as_39 : decode cX12_as 39 = .ok (.iload_n 2, 1) := by decide +kernel
theorem dX12_as_40 : decode cX12_as 40 = .ok (.iconst 2, 1) := by decide +kernel
theorem dX12_as_41 : decode cX12_as 41 = .ok (.if_icmp .ne 12, 3) := by decide +kernel
theorem dX12_as_44 : decode cX12_as 44 = .ok (.iload_n 3, 1) := by decide +kernel
theorem dX12_as_45 : decode cX12_as 45 = .ok (.iconst 4, 1) := by decide +kernel
theorem dX12_as_46 : decode cX12_as 46 = .ok (.if_icmp .ne 7, 3) := by decide +kernel
theorem dX12_as_49 : decode cX12_as 49 = .ok (.iload_n 1, 1) := by decide +kernel
theorem dX12_as_50 : decode cX12_as 50 = .ok (.goto 4, 3) := by decide +kernel
theorem dX12_as_53 : decode cX12_as 53 = .ok (.iconst (-1), 1) := by decide +kernel
theorem dX12_as_54 : decode cX12_as 54 = .ok (.ireturn, 1) := by decide +kernel
theorem dX12_stepsBy_0 : decode cX12_stepsBy 0 = .ok (.iload_n 0, 1) := by decide +kernel
theorem dX12_stepsBy_1 : decode cX12_stepsBy 1 = .ok (.tableswitch 51 1 4 #[31, 37, 51, 43], 31) := by decide +kernel
theorem dX12_stepsBy_32 : decode cX12_stepsBy 32 = .ok (.iload_n 1, 1) := by decide +kernel
theorem dX12_stepsBy_33 : decode cX12_stepsBy 33 = .ok (.iload_n 1, 1) := by decide +kernel
theorem dX12_stepsBy_34 : decode cX12_stepsBy 34 = .ok (.iconst 2, 1) := by decide +kernel
theorem dX12_stepsBy_35 : decode cX12_stepsBy 35 = .ok (.idiv, 1) := by decide +kernel
theorem dX12_stepsBy_36 : decode cX12_stepsBy 36 = .ok (.iadd, 1) := by decide +kernel
theorem dX12_stepsBy_37 : decode cX12_stepsBy 37 = .ok (.ireturn, 1) := by decide +kernel
theorem dX12_stepsBy_38 : decode cX12_stepsBy 38 = .ok (.iload_n 1, 1) := by decide +kernel
theorem dX12_stepsBy_39 : decode cX12_stepsBy 39 = .ok (.iconst 1, 1) := by decide +kernel
theorem dX12_stepsBy_40 : decode cX12_stepsBy 40 = .ok (.iadd, 1) := by decide +kernel
theorem dX12_stepsBy_41 : decode cX12_stepsBy 41 = .ok (.iconst 2, 1) := by decide +kernel
theorem dX12_stepsBy_42 : decode cX12_stepsBy 42 = .ok (.idiv, 1) := by decide +kernel
theorem dX12_stepsBy_43 : decode cX12_stepsBy 43 = .ok (.ireturn, 1) := by decide +kernel
theorem dX12_stepsBy_44 : decode cX12_stepsBy 44 = .ok (.iload_n 1, 1) := by decide +kernel
theorem dX12_stepsBy_45 : decode cX12_stepsBy 45 = .ok (.iconst 1, 1) := by decide +kernel
theorem dX12_stepsBy_46 : decode cX12_stepsBy 46 = .ok (.iadd, 1) := by decide +kernel
theorem dX12_stepsBy_47 : decode cX12_stepsBy 47 = .ok (.iconst 2, 1) := by decide +kernel
theorem dX12_stepsBy_48 : decode cX12_stepsBy 48 = .ok (.idiv, 1) := by decide +kernel
theorem dX12_stepsBy_49 : decode cX12_stepsBy 49 = .ok (.iconst 1, 1) := by decide +kernel
theorem dX12_stepsBy_50 : decode cX12_stepsBy 50 = .ok (.iadd, 1) := by decide +kernel
theorem dX12_stepsBy_51 : decode cX12_stepsBy 51 = .ok (.ireturn, 1) := by decide +kernel
theorem dX12_stepsBy_52 : decode cX12_stepsBy 52 = .ok (.iload_n 1, 1) := by decide +kernel
theorem dX12_stepsBy_53 : decode cX12_stepsBy 53 = .ok (.ireturn, 1) := by decide +kernel
set_option maxRecDepth 20000 in
theorem ggX12_steps_X12_isWalker : GoodIn wsX12_steps wsX12_isWalker := goodIn_r _ [7, 8, 9, 10, 6, 11, 20, 21, 22, 23, 24, 25, 26, 27, 28, 29, 30, 31, 32, 33, 34, 35, 36, 37, 38, 39, 40, 41, 42, 43, 44, 45, 46, 47, 48, 49, 50, 51, 52, 53, 54, 55, 56, 57, 58, 59, 60, 61, 62, 63, 64, 65, 66, 67, 68, 69, 70] (by decide +kernel) (by decide +kernel)
set_option maxRecDepth 20000 in
theorem gX12_steps_X12_isWalker : GoodIn wsX12_steps (wsV RX12 167 RX12 yX12_isWalker wsX12_isWalker) := goodIn_app (goodIn_of _ (by decide +kernel)) ggX12_steps_X12_isWalker
set_option maxRecDepth 20000 in
theorem ggX12_steps_X12_isStreet : GoodIn wsX12_steps wsX12_isStreet := goodIn_r _ [15, 16, 9, 10, 6, 11, 20, 21, 22, 23, 24, 25, 26, 27, 28, 29, 30, 31, 32, 33, 34, 35, 36, 37, 38, 39, 40, 41, 42, 43, 44, 45, 46, 47, 48, 49, 50, 51, 52, 53, 54, 55, 56, 57, 58, 59, 60, 61, 62, 63, 64, 65, 66, 67, 68, 69, 70] (by decide +kernel) (by decide +kernel)
set_option maxRecDepth 20000 in
theorem gX12_steps_X12_isStreet : GoodIn wsX12_steps (wsV RX12 144 RX12 yX12_isStreet wsX12_isStreet) := goodIn_app (goodIn_of _ (by decide +kernel)) ggX12_steps_X12_isStreet
set_option maxRecDepth 20000 in
theorem ggX12_steps_X12_stepsBy : GoodIn wsX12_steps wsX12_stepsBy := goodIn_r _ [19] (by decide +kernel) (by decide +kernel)
set_option maxRecDepth 20000 in
theorem gX12_steps_X12_stepsBy : GoodIn wsX12_steps (va_wsS RX12 173 yX12_stepsBy wsX12_stepsBy) := goodIn_app (goodIn_of _ (by decide +kernel)) ggX12_steps_X12_stepsBy
theorem dX12_steps_0 : decode cX12_steps 0 = .ok (.aload_n 0, 1) := by decide +kernel
theorem dX12_steps_1 : decode cX12_steps 1 = .ok (.iload_n 1, 1) := by decide +kernel
theorem dX12_steps_2 : decode cX12_steps 2 = .ok (.invokevirtual 167, 3) := by decide +kernel
theorem dX12_steps_5 : decode cX12_steps 5 = .ok (.ifCond .eq 29, 3) := by decide +kernel
theorem dX12_steps_8 : decode cX12_steps 8 = .ok (.aload_n 0, 1) := by decide +kernel
theorem dX12_steps_9 : decode cX12_steps 9 = .ok (.iload_n 2, 1) := by decide +kernel
theorem dX12_steps_10 : decode cX12_steps 10 = .ok (.invokevirtual 144, 3) := by decide +kernel
theorem dX12_steps_13 : decode cX12_steps 13 = .ok (.ifCond .eq 21, 3) := by decide +kernel
theorem dX12_steps_16 : decode cX12_steps 16 = .ok (.aload_n 0, 1) := by decide +kernel
theorem dX12_steps_17 : decode cX12_steps 17 = .ok (.getfield 22, 3) := by decide +kernel
theorem dX12_steps_20 : decode cX12_steps 20 = .ok (.iload_n 1, 1) := by decide +kernel
theorem dX12_steps_21 : decode cX12_steps 21 = .ok (.iaload, 1) := by decide +kernel
theorem dX12_steps_22 : decode cX12_steps 22 = .ok (.aload_n 0, 1) := by decide +kernel
theorem dX12_steps_23 : decode cX12_steps 23 = .ok (.getfield 16, 3) := by decide +kernel
theorem dX12_steps_26 : decode cX12_steps 26 = .ok (.iload_n 2, 1) := by decide +kernel
theorem dX12_steps_27 : decode cX12_steps 27 = .ok (.iaload, 1) := by decide +kernel
theorem dX12_steps_28 : decode cX12_steps 28 = .ok (.invokestatic 173, 3) := by decide +kernel
theorem dX12_steps_31 : decode cX12_steps 31 = .ok (.goto 5, 3) := by decide +kernel
theorem dX12_steps_34 : decode cX12_steps 34 = .ok (.bipush (-101), 2) := by decide +kernel
theorem dX12_steps_36 : decode cX12_steps 36 = .ok (.ireturn, 1) := by decide +kernel
set_option maxRecDepth 20000 in
theorem ggX12_isAt_X12_placeIn : GoodIn wsX12_isAt wsX12_placeIn := goodIn_r _ [6] (by decide +kernel) (by decide +kernel)
set_option maxRecDepth 20000 in
theorem gX12_isAt_X12_placeIn : GoodIn wsX12_isAt (va_wsS RX12 158 yX12_placeIn wsX12_placeIn) := goodIn_app (goodIn_of _ (by decide +kernel)) ggX12_isAt_X12_placeIn
theorem dX12_isAt_0 : decode cX12_isAt 0 = .ok (.aload_n 0, 1) := by decide +kernel
theorem dX12_isAt_1 : decode cX12_isAt 1 = .ok (.getfield 7, 3) := by decide +kernel
theorem dX12_isAt_4 : decode cX12_isAt 4 = .ok (.iload_n 2, 1) := by decide +kernel
theorem dX12_isAt_5 : decode cX12_isAt 5 = .ok (.iaload, 1) := by decide +kernel
theorem dX12_isAt_6 : decode cX12_isAt 6 = .ok (.iload_n 1, 1) := by decide +kernel
theorem dX12_isAt_7 : decode cX12_isAt 7 = .ok (.invokestatic 158, 3) := by decide +kernel
theorem dX12_isAt_10 : decode cX12_isAt 10 = .ok (.if_icmp .eq 16, 3) := by decide +kernel
theorem dX12_isAt_13 : decode cX12_isAt 13 = .ok (.aload_n 0, 1) := by decide +kernel
theorem dX12_isAt_14 : decode cX12_isAt 14 = .ok (.getfield 13, 3) := by decide +kernel
theorem dX12_isAt_17 : decode cX12_isAt 17 = .ok (.iload_n 2, 1) := by decide +kernel
theorem dX12_isAt_18 : decode cX12_isAt 18 = .ok (.iaload, 1) := by decide +kernel
theorem dX12_isAt_19 : decode cX12_isAt 19 = .ok (.iload_n 1, 1) := by decide +kernel
theorem dX12_isAt_20 : decode cX12_isAt 20 = .ok (.invokestatic 158, 3) := by decide +kernel
theorem dX12_isAt_23 : decode cX12_isAt 23 = .ok (.if_icmp .ne 7, 3) := by decide +kernel
theorem dX12_isAt_26 : decode cX12_isAt 26 = .ok (.iconst 1, 1) := by decide +kernel
theorem dX12_isAt_27 : decode cX12_isAt 27 = .ok (.goto 4, 3) := by decide +kernel
theorem dX12_isAt_30 : decode cX12_isAt 30 = .ok (.iconst 0, 1) := by decide +kernel
theorem dX12_isAt_31 : decode cX12_isAt 31 = .ok (.ireturn, 1) := by decide +kernel
set_option maxRecDepth 20000 in
theorem ggX12_behind_X12_isAt : GoodIn wsX12_behind wsX12_isAt := goodIn_r _ [10, 1, 4, 11, 12, 9, 13, 26, 27, 28, 29, 30, 31, 32, 33, 34, 35, 36, 37, 38, 39, 40, 41, 42, 43, 44, 45, 46, 47, 48, 49, 50, 51, 52, 53, 54, 55, 56, 57, 58, 59, 60, 61, 62, 63, 64, 65, 66, 67, 68, 69, 70, 71, 72, 73, 74, 75, 76] (by decide +kernel) (by decide +kernel)
set_option maxRecDepth 20000 in
theorem gX12_behind_X12_isAt : GoodIn wsX12_behind (wsV RX12 176 RX12 yX12_isAt wsX12_isAt) := goodIn_app (goodIn_of _ (by decide +kernel)) ggX12_behind_X12_isAt
set_option maxRecDepth 20000 in
theorem ggX12_behind_X12_placeIn : GoodIn wsX12_behind wsX12_placeIn := goodIn_r _ [13] (by decide +kernel) (by decide +kernel)
set_option maxRecDepth 20000 in
theorem gX12_behind_X12_placeIn : GoodIn wsX12_behind (va_wsS RX12 158 yX12_placeIn wsX12_placeIn) := goodIn_app (goodIn_of _ (by decide +kernel)) ggX12_behind_X12_placeIn
set_option maxRecDepth 20000 in
theorem ggX12_behind_X12_stepsBy : GoodIn wsX12_behind wsX12_stepsBy := goodIn_r _ [16] (by decide +kernel) (by decide +kernel)
set_option maxRecDepth 20000 in
theorem gX12_behind_X12_stepsBy : GoodIn wsX12_behind (va_wsS RX12 173 yX12_stepsBy wsX12_stepsBy) := goodIn_app (goodIn_of _ (by decide +kernel)) ggX12_behind_X12_stepsBy
set_option maxRecDepth 20000 in
theorem ggX12_behind_X12_footIn : GoodIn wsX12_behind wsX12_footIn := goodIn_r _ [19] (by decide +kernel) (by decide +kernel)
set_option maxRecDepth 20000 in
theorem gX12_behind_X12_footIn : GoodIn wsX12_behind (va_wsS RX12 161 yX12_footIn wsX12_footIn) := goodIn_app (goodIn_of _ (by decide +kernel)) ggX12_behind_X12_footIn
set_option maxRecDepth 20000 in
theorem ggX12_behind_X12_markIn : GoodIn wsX12_behind wsX12_markIn := goodIn_r _ [22, 23, 24, 9, 25] (by decide +kernel) (by decide +kernel)
set_option maxRecDepth 20000 in
theorem gX12_behind_X12_markIn : GoodIn wsX12_behind (va_wsS RX12 164 yX12_markIn wsX12_markIn) := goodIn_app (goodIn_of _ (by decide +kernel)) ggX12_behind_X12_markIn
set_option maxRecDepth 20000 in
theorem ggX12_behind_X12_weight : GoodIn wsX12_behind wsX12_weight := goodIn_r _ [25] (by decide +kernel) (by decide +kernel)
set_option maxRecDepth 20000 in
theorem gX12_behind_X12_weight : GoodIn wsX12_behind (va_wsS RX12 154 yX12_weight wsX12_weight) := goodIn_app (goodIn_of _ (by decide +kernel)) ggX12_behind_X12_weight
theorem dX12_behind_0 : decode cX12_behind 0 = .ok (.aload_n 0, 1) := by decide +kernel
theorem dX12_behind_1 : decode cX12_behind 1 = .ok (.iload_n 2, 1) := by decide +kernel
theorem dX12_behind_2 : decode cX12_behind 2 = .ok (.iload_n 3, 1) := by decide +kernel
theorem dX12_behind_3 : decode cX12_behind 3 = .ok (.invokevirtual 176, 3) := by decide +kernel
theorem dX12_behind_6 : decode cX12_behind 6 = .ok (.ifCond .ne 5, 3) := by decide +kernel
theorem dX12_behind_9 : decode cX12_behind 9 = .ok (.iconst (-1), 1) := by decide +kernel
theorem dX12_behind_10 : decode cX12_behind 10 = .ok (.ireturn, 1) := by decide +kernel
theorem dX12_behind_11 : decode cX12_behind 11 = .ok (.aload_n 0, 1) := by decide +kernel
theorem dX12_behind_12 : decode cX12_behind 12 = .ok (.getfield 7, 3) := by decide +kernel
theorem dX12_behind_15 : decode cX12_behind 15 = .ok (.iload_n 3, 1) := by decide +kernel
theorem dX12_behind_16 : decode cX12_behind 16 = .ok (.iaload, 1) := by decide +kernel
theorem dX12_behind_17 : decode cX12_behind 17 = .ok (.iload_n 2, 1) := by decide +kernel
theorem dX12_behind_18 : decode cX12_behind 18 = .ok (.invokestatic 158, 3) := by decide +kernel
theorem dX12_behind_21 : decode cX12_behind 21 = .ok (.if_icmp .ne 7, 3) := by decide +kernel
theorem dX12_behind_24 : decode cX12_behind 24 = .ok (.iconst 1, 1) := by decide +kernel
theorem dX12_behind_25 : decode cX12_behind 25 = .ok (.goto 4, 3) := by decide +kernel
theorem dX12_behind_28 : decode cX12_behind 28 = .ok (.iconst 0, 1) := by decide +kernel
theorem dX12_behind_29 : decode cX12_behind 29 = .ok (.istore 4, 2) := by decide +kernel
theorem dX12_behind_31 : decode cX12_behind 31 = .ok (.iload_n 1, 1) := by decide +kernel
theorem dX12_behind_32 : decode cX12_behind 32 = .ok (.iconst 3, 1) := by decide +kernel
theorem dX12_behind_33 : decode cX12_behind 33 = .ok (.if_icmp .ne 7, 3) := by decide +kernel
theorem dX12_behind_36 : decode cX12_behind 36 = .ok (.iconst 0, 1) := by decide +kernel
theorem dX12_behind_37 : decode cX12_behind 37 = .ok (.goto 15, 3) := by decide +kernel
theorem dX12_behind_40 : decode cX12_behind 40 = .ok (.iload_n 1, 1) := by decide +kernel
theorem dX12_behind_41 : decode cX12_behind 41 = .ok (.aload_n 0, 1) := by decide +kernel
theorem dX12_behind_42 : decode cX12_behind 42 = .ok (.getfield 16, 3) := by decide +kernel
theorem dX12_behind_45 : decode cX12_behind 45 = .ok (.iload_n 3, 1) := by decide +kernel
theorem dX12_behind_46 : decode cX12_behind 46 = .ok (.iaload, 1) := by decide +kernel
theorem dX12_behind_47 : decode cX12_behind 47 = .ok (.invokestatic 173, 3) := by decide +kernel
theorem dX12_behind_50 : decode cX12_behind 50 = .ok (.iconst 2, 1) := by decide +kernel
theorem dX12_behind_51 : decode cX12_behind 51 = .ok (.irem, 1) := by decide +kernel
theorem dX12_behind_52 : decode cX12_behind 52 = .ok (.istore 5, 2) := by decide +kernel
theorem dX12_behind_54 : decode cX12_behind 54 = .ok (.iload_n 2, 1) := by decide +kernel
theorem dX12_behind_55 : decode cX12_behind 55 = .ok (.invokestatic 161, 3) := by decide +kernel
theorem dX12_behind_58 : decode cX12_behind 58 = .ok (.iload 5, 2) := by decide +kernel
theorem dX12_behind_60 : decode cX12_behind 60 = .ok (.iadd, 1) := by decide +kernel
theorem dX12_behind_61 : decode cX12_behind 61 = .ok (.iconst 2, 1) := by decide +kernel
theorem dX12_behind_62 : decode cX12_behind 62 = .ok (.irem, 1) := by decide +kernel
theorem dX12_behind_63 : decode cX12_behind 63 = .ok (.istore 6, 2) := by decide +kernel
theorem dX12_behind_65 : decode cX12_behind 65 = .ok (.aload_n 0, 1) := by decide +kernel
theorem dX12_behind_66 : decode cX12_behind 66 = .ok (.getfield 19, 3) := by decide +kernel
theorem dX12_behind_69 : decode cX12_behind 69 = .ok (.iload_n 3, 1) := by decide +kernel
theorem dX12_behind_70 : decode cX12_behind 70 = .ok (.iaload, 1) := by decide +kernel
theorem dX12_behind_71 : decode cX12_behind 71 = .ok (.istore 7, 2) := by decide +kernel
theorem dX12_behind_73 : decode cX12_behind 73 = .ok (.iload_n 2, 1) := by decide +kernel
theorem dX12_behind_74 : decode cX12_behind 74 = .ok (.iload_n 2, 1) := by decide +kernel
theorem dX12_behind_75 : decode cX12_behind 75 = .ok (.invokestatic 158, 3) := by decide +kernel
theorem dX12_behind_78 : decode cX12_behind 78 = .ok (.isub, 1) := by decide +kernel
theorem dX12_behind_79 : decode cX12_behind 79 = .ok (.bipush 7, 2) := by decide +kernel
theorem dX12_behind_81 : decode cX12_behind 81 = .ok (.iload_n 2, 1) := by decide +kernel
theorem dX12_behind_82 : decode cX12_behind 82 = .ok (.invokestatic 161, 3) := by decide +kernel
theorem dX12_behind_85 : decode cX12_behind 85 = .ok (.imul, 1) := by decide +kernel
theorem dX12_behind_86 : decode cX12_behind 86 = .ok (.isub, 1) := by decide +kernel
theorem dX12_behind_87 : decode cX12_behind 87 = .ok (.bipush 7, 2) := by decide +kernel
theorem dX12_behind_89 : decode cX12_behind 89 = .ok (.iload 6, 2) := by decide +kernel
theorem dX12_behind_91 : decode cX12_behind 91 = .ok (.imul, 1) := by decide +kernel
theorem dX12_behind_92 : decode cX12_behind 92 = .ok (.iadd, 1) := by decide +kernel
theorem dX12_behind_93 : decode cX12_behind 93 = .ok (.iload 4, 2) := by decide +kernel
theorem dX12_behind_95 : decode cX12_behind 95 = .ok (.ifCond .eq 12, 3) := by decide +kernel
theorem dX12_behind_98 : decode cX12_behind 98 = .ok (.aload_n 0, 1) := by decide +kernel
theorem dX12_behind_99 : decode cX12_behind 99 = .ok (.getfield 13, 3) := by decide +kernel
theorem dX12_behind_102 : decode cX12_behind 102 = .ok (.iload_n 3, 1) := by decide +kernel
theorem dX12_behind_103 : decode cX12_behind 103 = .ok (.iaload, 1) := by decide +kernel
theorem dX12_behind_104 : decode cX12_behind 104 = .ok (.goto 9, 3) := by decide +kernel
theorem dX12_behind_107 : decode cX12_behind 107 = .ok (.aload_n 0, 1) := by decide +kernel
theorem dX12_behind_108 : decode cX12_behind 108 = .ok (.getfield 7, 3) := by decide +kernel
theorem dX12_behind_111 : decode cX12_behind 111 = .ok (.iload_n 3, 1) := by decide +kernel
theorem dX12_behind_112 : decode cX12_behind 112 = .ok (.iaload, 1) := by decide +kernel
theorem dX12_behind_113 : decode cX12_behind 113 = .ok (.iadd, 1) := by decide +kernel
theorem dX12_behind_114 : decode cX12_behind 114 = .ok (.istore 8, 2) := by decide +kernel
theorem dX12_behind_116 : decode cX12_behind 116 = .ok (.iload 7, 2) := by decide +kernel
theorem dX12_behind_118 : decode cX12_behind 118 = .ok (.iconst (-1), 1) := by decide +kernel
theorem dX12_behind_119 : decode cX12_behind 119 = .ok (.if_icmp .ne 6, 3) := by decide +kernel
theorem dX12_behind_122 : decode cX12_behind 122 = .ok (.iload 8, 2) := by decide +kernel
theorem dX12_behind_124 : decode cX12_behind 124 = .ok (.ireturn, 1) := by decide +kernel
theorem dX12_behind_125 : decode cX12_behind 125 = .ok (.iload_n 2, 1) := by decide +kernel
theorem dX12_behind_126 : decode cX12_behind 126 = .ok (.iload 7, 2) := by decide +kernel
theorem dX12_behind_128 : decode cX12_behind 128 = .ok (.invokestatic 164, 3) := by decide +kernel
theorem dX12_behind_131 : decode cX12_behind 131 = .ok (.istore 9, 2) := by decide +kernel
theorem dX12_behind_133 : decode cX12_behind 133 = .ok (.iload 4, 2) := by decide +kernel
theorem dX12_behind_135 : decode cX12_behind 135 = .ok (.ifCond .eq 18, 3) := by decide +kernel
theorem dX12_behind_138 : decode cX12_behind 138 = .ok (.iload 8, 2) := by decide +kernel
theorem dX12_behind_140 : decode cX12_behind 140 = .ok (.iload 7, 2) := by decide +kernel
theorem dX12_behind_142 : decode cX12_behind 142 = .ok (.invokestatic 154, 3) := by decide +kernel
theorem dX12_behind_145 : decode cX12_behind 145 = .ok (.iload 6, 2) := by decide +kernel
theorem dX12_behind_147 : decode cX12_behind 147 = .ok (.iload 9, 2) := by decide +kernel
theorem dX12_behind_149 : decode cX12_behind 149 = .ok (.isub, 1) := by decide +kernel
theorem dX12_behind_150 : decode cX12_behind 150 = .ok (.imul, 1) := by decide +kernel
theorem dX12_behind_151 : decode cX12_behind 151 = .ok (.iadd, 1) := by decide +kernel
theorem dX12_behind_152 : decode cX12_behind 152 = .ok (.ireturn, 1) := by decide +kernel
theorem dX12_behind_153 : decode cX12_behind 153 = .ok (.iload 9, 2) := by decide +kernel
theorem dX12_behind_155 : decode cX12_behind 155 = .ok (.iload 6, 2) := by decide +kernel
theorem dX12_behind_157 : decode cX12_behind 157 = .ok (.if_icmp .eq 16, 3) := by decide +kernel
theorem dX12_behind_160 : decode cX12_behind 160 = .ok (.iload 9, 2) := by decide +kernel
theorem dX12_behind_162 : decode cX12_behind 162 = .ok (.iconst (-1), 1) := by decide +kernel
theorem dX12_behind_163 : decode cX12_behind 163 = .ok (.if_icmp .ne 15, 3) := by decide +kernel
theorem dX12_behind_166 : decode cX12_behind 166 = .ok (.aload_n 0, 1) := by decide +kernel
theorem dX12_behind_167 : decode cX12_behind 167 = .ok (.getfield 132, 3) := by decide +kernel
theorem dX12_behind_170 : decode cX12_behind 170 = .ok (.ifCond .eq 8, 3) := by decide +kernel
theorem dX12_behind_173 : decode cX12_behind 173 = .ok (.iload 8, 2) := by decide +kernel
theorem dX12_behind_175 : decode cX12_behind 175 = .ok (.goto 4, 3) := by decide +kernel
theorem dX12_behind_178 : decode cX12_behind 178 = .ok (.iconst (-1), 1) := by decide +kernel
theorem dX12_behind_179 : decode cX12_behind 179 = .ok (.ireturn, 1) := by decide +kernel
set_option maxRecDepth 20000 in
theorem ggX12_may_X12_isWalker : GoodIn wsX12_may wsX12_isWalker := goodIn_r _ [7, 8, 9, 10, 6, 11, 45, 46, 47, 48, 49, 50, 51, 52, 53, 54, 55, 56, 57, 58, 59, 60, 61, 62, 63, 64, 65, 66, 67, 68, 69, 70, 71, 72, 73, 74, 75, 76, 77, 78, 79, 80, 81, 82, 83, 84, 85, 86, 87, 88, 89, 90, 91, 92, 93, 94, 95] (by decide +kernel) (by decide +kernel)
set_option maxRecDepth 20000 in
theorem gX12_may_X12_isWalker : GoodIn wsX12_may (wsV RX12 167 RX12 yX12_isWalker wsX12_isWalker) := goodIn_app (goodIn_of _ (by decide +kernel)) ggX12_may_X12_isWalker
set_option maxRecDepth 20000 in
theorem ggX12_may_X12_isStreet : GoodIn wsX12_may wsX12_isStreet := goodIn_r _ [15, 16, 9, 10, 6, 11, 45, 46, 47, 48, 49, 50, 51, 52, 53, 54, 55, 56, 57, 58, 59, 60, 61, 62, 63, 64, 65, 66, 67, 68, 69, 70, 71, 72, 73, 74, 75, 76, 77, 78, 79, 80, 81, 82, 83, 84, 85, 86, 87, 88, 89, 90, 91, 92, 93, 94, 95] (by decide +kernel) (by decide +kernel)
set_option maxRecDepth 20000 in
theorem gX12_may_X12_isStreet : GoodIn wsX12_may (wsV RX12 144 RX12 yX12_isStreet wsX12_isStreet) := goodIn_app (goodIn_of _ (by decide +kernel)) ggX12_may_X12_isStreet
set_option maxRecDepth 20000 in
theorem ggX12_may_X12_isAt : GoodIn wsX12_may wsX12_isAt := goodIn_r _ [20, 21, 22, 23, 24, 6, 25, 45, 46, 47, 48, 49, 50, 51, 52, 53, 54, 55, 56, 57, 58, 59, 60, 61, 62, 63, 64, 65, 66, 67, 68, 69, 70, 71, 72, 73, 74, 75, 76, 77, 78, 79, 80, 81, 82, 83, 84, 85, 86, 87, 88, 89, 90, 91, 92, 93, 94, 95] (by decide +kernel) (by decide +kernel)
set_option maxRecDepth 20000 in
theorem gX12_may_X12_isAt : GoodIn wsX12_may (wsV RX12 176 RX12 yX12_isAt wsX12_isAt) := goodIn_app (goodIn_of _ (by decide +kernel)) ggX12_may_X12_isAt
set_option maxRecDepth 20000 in
theorem ggX12_may_X12_behind : GoodIn wsX12_may wsX12_behind := goodIn_r _ [29, 21, 30, 31, 22, 32, 17, 18, 19, 6, 20, 23, 24, 25, 33, 34, 35, 36, 37, 38, 39, 40, 41, 42, 43, 44, 45, 46, 47, 48, 49, 50, 51, 52, 53, 54, 55, 56, 57, 58, 59, 60, 61, 62, 63, 64, 65, 66, 67, 68, 69, 70, 71, 72, 73, 74, 75, 76, 77, 78, 79, 80, 81, 82, 83, 84, 85, 86, 87, 88, 89, 90, 91, 92, 93, 94, 95] (by decide +kernel) (by decide +kernel)
set_option maxRecDepth 20000 in
theorem gX12_may_X12_behind : GoodIn wsX12_may (wsV RX12 180 RX12 yX12_behind wsX12_behind) := goodIn_app (goodIn_of _ (by decide +kernel)) ggX12_may_X12_behind
theorem dX12_may_0 : decode cX12_may 0 = .ok (.aload_n 0, 1) := by decide +kernel
theorem dX12_may_1 : decode cX12_may 1 = .ok (.iload_n 1, 1) := by decide +kernel
theorem dX12_may_2 : decode cX12_may 2 = .ok (.invokevirtual 167, 3) := by decide +kernel
theorem dX12_may_5 : decode cX12_may 5 = .ok (.ifCond .eq 11, 3) := by decide +kernel
theorem dX12_may_8 : decode cX12_may 8 = .ok (.aload_n 0, 1) := by decide +kernel
theorem dX12_may_9 : decode cX12_may 9 = .ok (.iload_n 2, 1) := by decide +kernel
theorem dX12_may_10 : decode cX12_may 10 = .ok (.invokevirtual 144, 3) := by decide +kernel
theorem dX12_may_13 : decode cX12_may 13 = .ok (.ifCond .ne 6, 3) := by decide +kernel
theorem dX12_may_16 : decode cX12_may 16 = .ok (.bipush (-101), 2) := by decide +kernel
theorem dX12_may_18 : decode cX12_may 18 = .ok (.ireturn, 1) := by decide +kernel
theorem dX12_may_19 : decode cX12_may 19 = .ok (.aload_n 0, 1) := by decide +kernel
theorem dX12_may_20 : decode cX12_may 20 = .ok (.aload_n 0, 1) := by decide +kernel
theorem dX12_may_21 : decode cX12_may 21 = .ok (.getfield 25, 3) := by decide +kernel
theorem dX12_may_24 : decode cX12_may 24 = .ok (.iload_n 1, 1) := by decide +kernel
theorem dX12_may_25 : decode cX12_may 25 = .ok (.iaload, 1) := by decide +kernel
theorem dX12_may_26 : decode cX12_may 26 = .ok (.iload_n 2, 1) := by decide +kernel
theorem dX12_may_27 : decode cX12_may 27 = .ok (.invokevirtual 176, 3) := by decide +kernel
theorem dX12_may_30 : decode cX12_may 30 = .ok (.ifCond .ne 5, 3) := by decide +kernel
theorem dX12_may_33 : decode cX12_may 33 = .ok (.iconst (-1), 1) := by decide +kernel
theorem dX12_may_34 : decode cX12_may 34 = .ok (.ireturn, 1) := by decide +kernel
theorem dX12_may_35 : decode cX12_may 35 = .ok (.aload_n 0, 1) := by decide +kernel
theorem dX12_may_36 : decode cX12_may 36 = .ok (.aload_n 0, 1) := by decide +kernel
theorem dX12_may_37 : decode cX12_may 37 = .ok (.getfield 22, 3) := by decide +kernel
theorem dX12_may_40 : decode cX12_may 40 = .ok (.iload_n 1, 1) := by decide +kernel
theorem dX12_may_41 : decode cX12_may 41 = .ok (.iaload, 1) := by decide +kernel
theorem dX12_may_42 : decode cX12_may 42 = .ok (.aload_n 0, 1) := by decide +kernel
theorem dX12_may_43 : decode cX12_may 43 = .ok (.getfield 25, 3) := by decide +kernel
theorem dX12_may_46 : decode cX12_may 46 = .ok (.iload_n 1, 1) := by decide +kernel
theorem dX12_may_47 : decode cX12_may 47 = .ok (.iaload, 1) := by decide +kernel
theorem dX12_may_48 : decode cX12_may 48 = .ok (.iload_n 2, 1) := by decide +kernel
theorem dX12_may_49 : decode cX12_may 49 = .ok (.invokevirtual 180, 3) := by decide +kernel
theorem dX12_may_52 : decode cX12_may 52 = .ok (.iconst (-1), 1) := by decide +kernel
theorem dX12_may_53 : decode cX12_may 53 = .ok (.if_icmp .ne 7, 3) := by decide +kernel
theorem dX12_may_56 : decode cX12_may 56 = .ok (.iconst 0, 1) := by decide +kernel
theorem dX12_may_57 : decode cX12_may 57 = .ok (.goto 4, 3) := by decide +kernel
theorem dX12_may_60 : decode cX12_may 60 = .ok (.iconst 1, 1) := by decide +kernel
theorem dX12_may_61 : decode cX12_may 61 = .ok (.ireturn, 1) := by decide +kernel
set_option maxRecDepth 20000 in
theorem ggX12_go_X12_isWalker : GoodIn wsX12_go wsX12_isWalker := goodIn_r _ [7, 8, 9, 10, 6, 11, 45, 46, 47, 48, 49, 50, 51, 52, 53, 54, 55, 56, 57, 58, 59, 60, 61, 62, 63, 64, 65, 66, 67, 68, 69, 70, 71, 72, 73, 74, 75, 76, 77, 78, 79, 80, 81, 82, 83, 84, 85, 86, 87, 88, 89, 90, 91, 92, 93, 94, 95] (by decide +kernel) (by decide +kernel)
set_option maxRecDepth 20000 in
theorem gX12_go_X12_isWalker : GoodIn wsX12_go (wsV RX12 167 RX12 yX12_isWalker wsX12_isWalker) := goodIn_app (goodIn_of _ (by decide +kernel)) ggX12_go_X12_isWalker
set_option maxRecDepth 20000 in
theorem ggX12_go_X12_isStreet : GoodIn wsX12_go wsX12_isStreet := goodIn_r _ [15, 16, 9, 10, 6, 11, 45, 46, 47, 48, 49, 50, 51, 52, 53, 54, 55, 56, 57, 58, 59, 60, 61, 62, 63, 64, 65, 66, 67, 68, 69, 70, 71, 72, 73, 74, 75, 76, 77, 78, 79, 80, 81, 82, 83, 84, 85, 86, 87, 88, 89, 90, 91, 92, 93, 94, 95] (by decide +kernel) (by decide +kernel)
set_option maxRecDepth 20000 in
theorem gX12_go_X12_isStreet : GoodIn wsX12_go (wsV RX12 144 RX12 yX12_isStreet wsX12_isStreet) := goodIn_app (goodIn_of _ (by decide +kernel)) ggX12_go_X12_isStreet
set_option maxRecDepth 20000 in
theorem ggX12_go_X12_behind : GoodIn wsX12_go wsX12_behind := goodIn_r _ [20, 21, 22, 23, 24, 25, 26, 27, 28, 6, 29, 30, 31, 32, 33, 34, 35, 36, 37, 38, 39, 40, 41, 42, 43, 44, 45, 46, 47, 48, 49, 50, 51, 52, 53, 54, 55, 56, 57, 58, 59, 60, 61, 62, 63, 64, 65, 66, 67, 68, 69, 70, 71, 72, 73, 74, 75, 76, 77, 78, 79, 80, 81, 82, 83, 84, 85, 86, 87, 88, 89, 90, 91, 92, 93, 94, 95] (by decide +kernel) (by decide +kernel)
set_option maxRecDepth 20000 in
theorem gX12_go_X12_behind : GoodIn wsX12_go (wsV RX12 180 RX12 yX12_behind wsX12_behind) := goodIn_app (goodIn_of _ (by decide +kernel)) ggX12_go_X12_behind
set_option maxRecDepth 20000 in
theorem ggX12_go_X12_placeIn : GoodIn wsX12_go wsX12_placeIn := goodIn_r _ [32] (by decide +kernel) (by decide +kernel)
set_option maxRecDepth 20000 in
theorem gX12_go_X12_placeIn : GoodIn wsX12_go (va_wsS RX12 158 yX12_placeIn wsX12_placeIn) := goodIn_app (goodIn_of _ (by decide +kernel)) ggX12_go_X12_placeIn
theorem dX12_go_0 : decode cX12_go 0 = .ok (.aload_n 0, 1) := by decide +kernel
theorem dX12_go_1 : decode cX12_go 1 = .ok (.iload_n 1, 1) := by decide +kernel
theorem dX12_go_2 : decode cX12_go 2 = .ok (.invokevirtual 167, 3) := by decide +kernel
theorem dX12_go_5 : decode cX12_go 5 = .ok (.ifCond .eq 11, 3) := by decide +kernel
theorem dX12_go_8 : decode cX12_go 8 = .ok (.aload_n 0, 1) := by decide +kernel
theorem dX12_go_9 : decode cX12_go 9 = .ok (.iload_n 2, 1) := by decide +kernel
theorem dX12_go_10 : decode cX12_go 10 = .ok (.invokevirtual 144, 3) := by decide +kernel
theorem dX12_go_13 : decode cX12_go 13 = .ok (.ifCond .ne 6, 3) := by decide +kernel
theorem dX12_go_16 : decode cX12_go 16 = .ok (.bipush (-101), 2) := by decide +kernel
theorem dX12_go_18 : decode cX12_go 18 = .ok (.ireturn, 1) := by decide +kernel
theorem dX12_go_19 : decode cX12_go 19 = .ok (.aload_n 0, 1) := by decide +kernel
theorem dX12_go_20 : decode cX12_go 20 = .ok (.aload_n 0, 1) := by decide +kernel
theorem dX12_go_21 : decode cX12_go 21 = .ok (.getfield 22, 3) := by decide +kernel
theorem dX12_go_24 : decode cX12_go 24 = .ok (.iload_n 1, 1) := by decide +kernel
theorem dX12_go_25 : decode cX12_go 25 = .ok (.iaload, 1) := by decide +kernel
theorem dX12_go_26 : decode cX12_go 26 = .ok (.aload_n 0, 1) := by decide +kernel
theorem dX12_go_27 : decode cX12_go 27 = .ok (.getfield 25, 3) := by decide +kernel
theorem dX12_go_30 : decode cX12_go 30 = .ok (.iload_n 1, 1) := by decide +kernel
theorem dX12_go_31 : decode cX12_go 31 = .ok (.iaload, 1) := by decide +kernel
theorem dX12_go_32 : decode cX12_go 32 = .ok (.iload_n 2, 1) := by decide +kernel
theorem dX12_go_33 : decode cX12_go 33 = .ok (.invokevirtual 180, 3) := by decide +kernel
theorem dX12_go_36 : decode cX12_go 36 = .ok (.istore_n 3, 1) := by decide +kernel
theorem dX12_go_37 : decode cX12_go 37 = .ok (.iload_n 3, 1) := by decide +kernel
theorem dX12_go_38 : decode cX12_go 38 = .ok (.iconst (-1), 1) := by decide +kernel
theorem dX12_go_39 : decode cX12_go 39 = .ok (.if_icmp .ne 6, 3) := by decide +kernel
theorem dX12_go_42 : decode cX12_go 42 = .ok (.bipush (-103), 2) := by decide +kernel
theorem dX12_go_44 : decode cX12_go 44 = .ok (.ireturn, 1) := by decide +kernel
theorem dX12_go_45 : decode cX12_go 45 = .ok (.aload_n 0, 1) := by decide +kernel
theorem dX12_go_46 : decode cX12_go 46 = .ok (.getfield 25, 3) := by decide +kernel
theorem dX12_go_49 : decode cX12_go 49 = .ok (.iload_n 1, 1) := by decide +kernel
theorem dX12_go_50 : decode cX12_go 50 = .ok (.iload_n 3, 1) := by decide +kernel
theorem dX12_go_51 : decode cX12_go 51 = .ok (.iastore, 1) := by decide +kernel
theorem dX12_go_52 : decode cX12_go 52 = .ok (.iload_n 3, 1) := by decide +kernel
theorem dX12_go_53 : decode cX12_go 53 = .ok (.invokestatic 158, 3) := by decide +kernel
theorem dX12_go_56 : decode cX12_go 56 = .ok (.ireturn, 1) := by decide +kernel
set_option maxRecDepth 20000 in
theorem ggX12_turned_X12_footIn : GoodIn wsX12_turned wsX12_footIn := goodIn_r _ [4] (by decide +kernel) (by decide +kernel)
set_option maxRecDepth 20000 in
theorem gX12_turned_X12_footIn : GoodIn wsX12_turned (va_wsS RX12 161 yX12_footIn wsX12_footIn) := goodIn_app (goodIn_of _ (by decide +kernel)) ggX12_turned_X12_footIn
theorem dX12_turned_0 : decode cX12_turned 0 = .ok (.iload_n 0, 1) := by decide +kernel
theorem dX12_turned_1 : decode cX12_turned 1 = .ok (.invokestatic 161, 3) := by decide +kernel
theorem dX12_turned_4 : decode cX12_turned 4 = .ok (.ifCond .ne 10, 3) := by decide +kernel
theorem dX12_turned_7 : decode cX12_turned 7 = .ok (.iload_n 0, 1) := by decide +kernel
theorem dX12_turned_8 : decode cX12_turned 8 = .ok (.bipush 7, 2) := by decide +kernel
theorem dX12_turned_10 : decode cX12_turned 10 = .ok (.iadd, 1) := by decide +kernel
theorem dX12_turned_11 : decode cX12_turned 11 = .ok (.goto 7, 3) := by decide +kernel
theorem dX12_turned_14 : decode cX12_turned 14 = .ok (.iload_n 0, 1) := by decide +kernel
theorem dX12_turned_15 : decode cX12_turned 15 = .ok (.bipush 7, 2) := by decide +kernel
theorem dX12_turned_17 : decode cX12_turned 17 = .ok (.isub, 1) := by decide +kernel
theorem dX12_turned_18 : decode cX12_turned 18 = .ok (.ireturn, 1) := by decide +kernel
set_option maxRecDepth 20000 in
theorem ggX12_skip_X12_isWalker : GoodIn wsX12_skip wsX12_isWalker := goodIn_r _ [8, 9, 10, 11, 7, 12, 19, 20, 21, 22, 23, 24, 25, 26, 27, 28, 29, 30, 31, 32, 33, 34, 35, 36, 37, 38, 39, 40, 41, 42, 43, 44, 45, 46, 47, 48, 49, 50, 51, 52, 53, 54, 55, 56, 57, 58, 59, 60, 61, 62, 63, 64, 65, 66, 67, 68, 69] (by decide +kernel) (by decide +kernel)
set_option maxRecDepth 20000 in
theorem gX12_skip_X12_isWalker : GoodIn wsX12_skip (wsV RX12 167 RX12 yX12_isWalker wsX12_isWalker) := goodIn_app (goodIn_of _ (by decide +kernel)) ggX12_skip_X12_isWalker
set_option maxRecDepth 20000 in
theorem ggX12_skip_X12_turned : GoodIn wsX12_skip wsX12_turned := goodIn_r _ [15, 16, 17, 7, 18] (by decide +kernel) (by decide +kernel)
set_option maxRecDepth 20000 in
theorem gX12_skip_X12_turned : GoodIn wsX12_skip (va_wsS RX12 184 yX12_turned wsX12_turned) := goodIn_app (goodIn_of _ (by decide +kernel)) ggX12_skip_X12_turned
set_option maxRecDepth 20000 in
theorem ggX12_skip_X12_footIn : GoodIn wsX12_skip wsX12_footIn := goodIn_r _ [18] (by decide +kernel) (by decide +kernel)
set_option maxRecDepth 20000 in
theorem gX12_skip_X12_footIn : GoodIn wsX12_skip (va_wsS RX12 161 yX12_footIn wsX12_footIn) := goodIn_app (goodIn_of _ (by decide +kernel)) ggX12_skip_X12_footIn
theorem dX12_skip_0 : decode cX12_skip 0 = .ok (.aload_n 0, 1) := by decide +kernel
theorem dX12_skip_1 : decode cX12_skip 1 = .ok (.iload_n 1, 1) := by decide +kernel
theorem dX12_skip_2 : decode cX12_skip 2 = .ok (.invokevirtual 167, 3) := by decide +kernel
theorem dX12_skip_5 : decode cX12_skip 5 = .ok (.ifCond .ne 6, 3) := by decide +kernel
theorem dX12_skip_8 : decode cX12_skip 8 = .ok (.bipush (-101), 2) := by decide +kernel
theorem dX12_skip_10 : decode cX12_skip 10 = .ok (.ireturn, 1) := by decide +kernel
theorem dX12_skip_11 : decode cX12_skip 11 = .ok (.aload_n 0, 1) := by decide +kernel
theorem dX12_skip_12 : decode cX12_skip 12 = .ok (.getfield 22, 3) := by decide +kernel
theorem dX12_skip_15 : decode cX12_skip 15 = .ok (.iload_n 1, 1) := by decide +kernel
theorem dX12_skip_16 : decode cX12_skip 16 = .ok (.iaload, 1) := by decide +kernel
theorem dX12_skip_17 : decode cX12_skip 17 = .ok (.iconst 3, 1) := by decide +kernel
theorem dX12_skip_18 : decode cX12_skip 18 = .ok (.if_icmp .ne 6, 3) := by decide +kernel
theorem dX12_skip_21 : decode cX12_skip 21 = .ok (.bipush (-103), 2) := by decide +kernel
theorem dX12_skip_23 : decode cX12_skip 23 = .ok (.ireturn, 1) := by decide +kernel
theorem dX12_skip_24 : decode cX12_skip 24 = .ok (.aload_n 0, 1) := by decide +kernel
theorem dX12_skip_25 : decode cX12_skip 25 = .ok (.getfield 25, 3) := by decide +kernel
theorem dX12_skip_28 : decode cX12_skip 28 = .ok (.iload_n 1, 1) := by decide +kernel
theorem dX12_skip_29 : decode cX12_skip 29 = .ok (.aload_n 0, 1) := by decide +kernel
theorem dX12_skip_30 : decode cX12_skip 30 = .ok (.getfield 25, 3) := by decide +kernel
theorem dX12_skip_33 : decode cX12_skip 33 = .ok (.iload_n 1, 1) := by decide +kernel
theorem dX12_skip_34 : decode cX12_skip 34 = .ok (.iaload, 1) := by decide +kernel
theorem dX12_skip_35 : decode cX12_skip 35 = .ok (.invokestatic 184, 3) := by decide +kernel
theorem dX12_skip_38 : decode cX12_skip 38 = .ok (.iastore, 1) := by decide +kernel
theorem dX12_skip_39 : decode cX12_skip 39 = .ok (.aload_n 0, 1) := by decide +kernel
theorem dX12_skip_40 : decode cX12_skip 40 = .ok (.getfield 28, 3) := by decide +kernel
theorem dX12_skip_43 : decode cX12_skip 43 = .ok (.iload_n 1, 1) := by decide +kernel
theorem dX12_skip_44 : decode cX12_skip 44 = .ok (.dup2, 1) := by decide +kernel
theorem dX12_skip_45 : decode cX12_skip 45 = .ok (.iaload, 1) := by decide +kernel
theorem dX12_skip_46 : decode cX12_skip 46 = .ok (.iconst 1, 1) := by decide +kernel
theorem dX12_skip_47 : decode cX12_skip 47 = .ok (.iadd, 1) := by decide +kernel
theorem dX12_skip_48 : decode cX12_skip 48 = .ok (.iastore, 1) := by decide +kernel
theorem dX12_skip_49 : decode cX12_skip 49 = .ok (.aload_n 0, 1) := by decide +kernel
theorem dX12_skip_50 : decode cX12_skip 50 = .ok (.getfield 25, 3) := by decide +kernel
theorem dX12_skip_53 : decode cX12_skip 53 = .ok (.iload_n 1, 1) := by decide +kernel
theorem dX12_skip_54 : decode cX12_skip 54 = .ok (.iaload, 1) := by decide +kernel
theorem dX12_skip_55 : decode cX12_skip 55 = .ok (.invokestatic 161, 3) := by decide +kernel
theorem dX12_skip_58 : decode cX12_skip 58 = .ok (.ireturn, 1) := by decide +kernel
theorem dX12_come_0 : decode cX12_come 0 = .ok (.iload_n 2, 1) := by decide +kernel
theorem dX12_come_1 : decode cX12_come 1 = .ok (.aload_n 0, 1) := by decide +kernel
theorem dX12_come_2 : decode cX12_come 2 = .ok (.getfield 50, 3) := by decide +kernel
theorem dX12_come_5 : decode cX12_come 5 = .ok (.iload_n 1, 1) := by decide +kernel
theorem dX12_come_6 : decode cX12_come 6 = .ok (.iaload, 1) := by decide +kernel
theorem dX12_come_7 : decode cX12_come 7 = .ok (.if_icmp .lt 4, 3) := by decide +kernel
theorem dX12_come_10 : decode cX12_come 10 = .ok (.return_, 1) := by decide +kernel
theorem dX12_come_11 : decode cX12_come 11 = .ok (.aload_n 0, 1) := by decide +kernel
theorem dX12_come_12 : decode cX12_come 12 = .ok (.getfield 50, 3) := by decide +kernel
theorem dX12_come_15 : decode cX12_come 15 = .ok (.iload_n 1, 1) := by decide +kernel
theorem dX12_come_16 : decode cX12_come 16 = .ok (.iload_n 2, 1) := by decide +kernel
theorem dX12_come_17 : decode cX12_come 17 = .ok (.iastore, 1) := by decide +kernel
theorem dX12_come_18 : decode cX12_come 18 = .ok (.aload_n 0, 1) := by decide +kernel
theorem dX12_come_19 : decode cX12_come 19 = .ok (.getfield 56, 3) := by decide +kernel
theorem dX12_come_22 : decode cX12_come 22 = .ok (.iload_n 1, 1) := by decide +kernel
theorem dX12_come_23 : decode cX12_come 23 = .ok (.baload, 1) := by decide +kernel
theorem dX12_come_24 : decode cX12_come 24 = .ok (.ifCond .ne 39, 3) := by decide +kernel
theorem dX12_come_27 : decode cX12_come 27 = .ok (.aload_n 0, 1) := by decide +kernel
theorem dX12_come_28 : decode cX12_come 28 = .ok (.getfield 56, 3) := by decide +kernel
theorem dX12_come_31 : decode cX12_come 31 = .ok (.iload_n 1, 1) := by decide +kernel
theorem dX12_come_32 : decode cX12_come 32 = .ok (.iconst 1, 1) := by decide +kernel
theorem dX12_come_33 : decode cX12_come 33 = .ok (.bastore, 1) := by decide +kernel
theorem dX12_come_34 : decode cX12_come 34 = .ok (.aload_n 0, 1) := by decide +kernel
theorem dX12_come_35 : decode cX12_come 35 = .ok (.getfield 53, 3) := by decide +kernel
theorem dX12_come_38 : decode cX12_come 38 = .ok (.aload_n 0, 1) := by decide +kernel
theorem dX12_come_39 : decode cX12_come 39 = .ok (.getfield 187, 3) := by decide +kernel
theorem dX12_come_42 : decode cX12_come 42 = .ok (.aload_n 0, 1) := by decide +kernel
theorem dX12_come_43 : decode cX12_come 43 = .ok (.getfield 190, 3) := by decide +kernel
theorem dX12_come_46 : decode cX12_come 46 = .ok (.iadd, 1) := by decide +kernel
theorem dX12_come_47 : decode cX12_come 47 = .ok (.sipush 378, 3) := by decide +kernel
theorem dX12_come_50 : decode cX12_come 50 = .ok (.irem, 1) := by decide +kernel
theorem dX12_come_51 : decode cX12_come 51 = .ok (.iload_n 1, 1) := by decide +kernel
theorem dX12_come_52 : decode cX12_come 52 = .ok (.iastore, 1) := by decide +kernel
theorem dX12_come_53 : decode cX12_come 53 = .ok (.aload_n 0, 1) := by decide +kernel
theorem dX12_come_54 : decode cX12_come 54 = .ok (.dup, 1) := by decide +kernel
theorem dX12_come_55 : decode cX12_come 55 = .ok (.getfield 190, 3) := by decide +kernel
theorem dX12_come_58 : decode cX12_come 58 = .ok (.iconst 1, 1) := by decide +kernel
theorem dX12_come_59 : decode cX12_come 59 = .ok (.iadd, 1) := by decide +kernel
theorem dX12_come_60 : decode cX12_come 60 = .ok (.putfield 190, 3) := by decide +kernel
theorem dX12_come_63 : decode cX12_come 63 = .ok (.return_, 1) := by decide +kernel
set_option maxRecDepth 20000 in
theorem ggX12_layCosts_X12_come : GoodIn wsX12_layCosts wsX12_come := goodIn_r _ [13, 1, 3, 6, 4, 5, 44, 45, 46, 47, 48, 49, 50, 51, 52, 53, 54, 55, 56, 57, 58, 59, 60, 61, 62, 63, 64, 65, 66, 67, 68, 69, 70, 71, 72, 73, 74, 75, 76, 77, 78, 79, 80, 81, 82, 83, 84, 85, 86, 87, 88, 89, 90, 91, 92, 93, 94] (by decide +kernel) (by decide +kernel)
set_option maxRecDepth 20000 in
theorem gX12_layCosts_X12_come : GoodIn wsX12_layCosts (wsV RX12 194 RX12 yX12_come wsX12_come) := goodIn_app (goodIn_of _ (by decide +kernel)) ggX12_layCosts_X12_come
set_option maxRecDepth 20000 in
theorem ggX12_layCosts_X12_behind : GoodIn wsX12_layCosts wsX12_behind := goodIn_r _ [17, 18, 8, 19, 20, 21, 22, 23, 24, 12, 25, 26, 27, 28, 29, 30, 31, 32, 33, 34, 35, 36, 37, 38, 39, 40, 44, 45, 46, 47, 48, 49, 50, 51, 52, 53, 54, 55, 56, 57, 58, 59, 60, 61, 62, 63, 64, 65, 66, 67, 68, 69, 70, 71, 72, 73, 74, 75, 76, 77, 78, 79, 80, 81, 82, 83, 84, 85, 86, 87, 88, 89, 90, 91, 92, 93, 94] (by decide +kernel) (by decide +kernel)
set_option maxRecDepth 20000 in
theorem gX12_layCosts_X12_behind : GoodIn wsX12_layCosts (wsV RX12 180 RX12 yX12_behind wsX12_behind) := goodIn_app (goodIn_of _ (by decide +kernel)) ggX12_layCosts_X12_behind
set_option maxRecDepth 20000 in
theorem ggX12_layCosts_X12_stepsBy : GoodIn wsX12_layCosts wsX12_stepsBy := goodIn_r _ [31] (by decide +kernel) (by decide +kernel)
set_option maxRecDepth 20000 in
theorem gX12_layCosts_X12_stepsBy : GoodIn wsX12_layCosts (va_wsS RX12 173 yX12_stepsBy wsX12_stepsBy) := goodIn_app (goodIn_of _ (by decide +kernel)) ggX12_layCosts_X12_stepsBy
set_option maxRecDepth 20000 in
theorem ggX12_layCosts_X12_turned : GoodIn wsX12_layCosts wsX12_turned := goodIn_r _ [43, 32, 33, 12, 34] (by decide +kernel) (by decide +kernel)
set_option maxRecDepth 20000 in
theorem gX12_layCosts_X12_turned : GoodIn wsX12_layCosts (va_wsS RX12 184 yX12_turned wsX12_turned) := goodIn_app (goodIn_of _ (by decide +kernel)) ggX12_layCosts_X12_turned
theorem dX12_layCosts_0 : decode cX12_layCosts 0 = .ok (.iconst 0, 1) := by decide +kernel
theorem dX12_layCosts_1 : decode cX12_layCosts 1 = .ok (.istore 4, 2) := by decide +kernel
theorem dX12_layCosts_3 : decode cX12_layCosts 3 = .ok (.iload 4, 2) := by decide +kernel
theorem dX12_layCosts_5 : decode cX12_layCosts 5 = .ok (.sipush 378, 3) := by decide +kernel
theorem dX12_layCosts_8 : decode cX12_layCosts 8 = .ok (.if_icmp .ge 26, 3) := by decide +kernel
theorem dX12_layCosts_11 : decode cX12_layCosts 11 = .ok (.aload_n 0, 1) := by decide +kernel
theorem dX12_layCosts_12 : decode cX12_layCosts 12 = .ok (.getfield 50, 3) := by decide +kernel
theorem dX12_layCosts_15 : decode cX12_layCosts 15 = .ok (.iload 4, 2) := by decide +kernel
theorem dX12_layCosts_17 : decode cX12_layCosts 17 = .ok (.ldc 193, 2) := by decide +kernel
theorem dX12_layCosts_19 : decode cX12_layCosts 19 = .ok (.iastore, 1) := by decide +kernel
theorem dX12_layCosts_20 : decode cX12_layCosts 20 = .ok (.aload_n 0, 1) := by decide +kernel
theorem dX12_layCosts_21 : decode cX12_layCosts 21 = .ok (.getfield 56, 3) := by decide +kernel
theorem dX12_layCosts_24 : decode cX12_layCosts 24 = .ok (.iload 4, 2) := by decide +kernel
theorem dX12_layCosts_26 : decode cX12_layCosts 26 = .ok (.iconst 0, 1) := by decide +kernel
theorem dX12_layCosts_27 : decode cX12_layCosts 27 = .ok (.bastore, 1) := by decide +kernel
theorem dX12_layCosts_28 : decode cX12_layCosts 28 = .ok (.iinc 4 1, 3) := by decide +kernel
theorem dX12_layCosts_31 : decode cX12_layCosts 31 = .ok (.goto (-28), 3) := by decide +kernel
theorem dX12_layCosts_34 : decode cX12_layCosts 34 = .ok (.aload_n 0, 1) := by decide +kernel
theorem dX12_layCosts_35 : decode cX12_layCosts 35 = .ok (.iconst 0, 1) := by decide +kernel
theorem dX12_layCosts_36 : decode cX12_layCosts 36 = .ok (.putfield 187, 3) := by decide +kernel
theorem dX12_layCosts_39 : decode cX12_layCosts 39 = .ok (.aload_n 0, 1) := by decide +kernel
theorem dX12_layCosts_40 : decode cX12_layCosts 40 = .ok (.iconst 0, 1) := by decide +kernel
theorem dX12_layCosts_41 : decode cX12_layCosts 41 = .ok (.putfield 190, 3) := by decide +kernel
theorem dX12_layCosts_44 : decode cX12_layCosts 44 = .ok (.aload_n 0, 1) := by decide +kernel
theorem dX12_layCosts_45 : decode cX12_layCosts 45 = .ok (.iload_n 2, 1) := by decide +kernel
theorem dX12_layCosts_46 : decode cX12_layCosts 46 = .ok (.iconst 0, 1) := by decide +kernel
theorem dX12_layCosts_47 : decode cX12_layCosts 47 = .ok (.invokevirtual 194, 3) := by decide +kernel
theorem dX12_layCosts_50 : decode cX12_layCosts 50 = .ok (.aload_n 0, 1) := by decide +kernel
theorem dX12_layCosts_51 : decode cX12_layCosts 51 = .ok (.getfield 190, 3) := by decide +kernel
theorem dX12_layCosts_54 : decode cX12_layCosts 54 = .ok (.ifCond .le 138, 3) := by decide +kernel
theorem dX12_layCosts_57 : decode cX12_layCosts 57 = .ok (.aload_n 0, 1) := by decide +kernel
theorem dX12_layCosts_58 : decode cX12_layCosts 58 = .ok (.getfield 53, 3) := by decide +kernel
theorem dX12_layCosts_61 : decode cX12_layCosts 61 = .ok (.aload_n 0, 1) := by decide +kernel
theorem dX12_layCosts_62 : decode cX12_layCosts 62 = .ok (.getfield 187, 3) := by decide +kernel
theorem dX12_layCosts_65 : decode cX12_layCosts 65 = .ok (.iaload, 1) := by decide +kernel
theorem dX12_layCosts_66 : decode cX12_layCosts 66 = .ok (.istore 4, 2) := by decide +kernel
theorem dX12_layCosts_68 : decode cX12_layCosts 68 = .ok (.aload_n 0, 1) := by decide +kernel
theorem dX12_layCosts_69 : decode cX12_layCosts 69 = .ok (.aload_n 0, 1) := by decide +kernel
theorem dX12_layCosts_70 : decode cX12_layCosts 70 = .ok (.getfield 187, 3) := by decide +kernel
theorem dX12_layCosts_73 : decode cX12_layCosts 73 = .ok (.iconst 1, 1) := by decide +kernel
theorem dX12_layCosts_74 : decode cX12_layCosts 74 = .ok (.iadd, 1) := by decide +kernel
theorem dX12_layCosts_75 : decode cX12_layCosts 75 = .ok (.sipush 378, 3) := by decide +kernel
theorem dX12_layCosts_78 : decode cX12_layCosts 78 = .ok (.irem, 1) := by decide +kernel
theorem dX12_layCosts_79 : decode cX12_layCosts 79 = .ok (.putfield 187, 3) := by decide +kernel
theorem dX12_layCosts_82 : decode cX12_layCosts 82 = .ok (.aload_n 0, 1) := by decide +kernel
theorem dX12_layCosts_83 : decode cX12_layCosts 83 = .ok (.dup, 1) := by decide +kernel
theorem dX12_layCosts_84 : decode cX12_layCosts 84 = .ok (.getfield 190, 3) := by decide +kernel
theorem dX12_layCosts_87 : decode cX12_layCosts 87 = .ok (.iconst 1, 1) := by decide +kernel
theorem dX12_layCosts_88 : decode cX12_layCosts 88 = .ok (.isub, 1) := by decide +kernel
theorem dX12_layCosts_89 : decode cX12_layCosts 89 = .ok (.putfield 190, 3) := by decide +kernel
theorem dX12_layCosts_92 : decode cX12_layCosts 92 = .ok (.aload_n 0, 1) := by decide +kernel
theorem dX12_layCosts_93 : decode cX12_layCosts 93 = .ok (.getfield 56, 3) := by decide +kernel
theorem dX12_layCosts_96 : decode cX12_layCosts 96 = .ok (.iload 4, 2) := by decide +kernel
theorem dX12_layCosts_98 : decode cX12_layCosts 98 = .ok (.iconst 0, 1) := by decide +kernel
theorem dX12_layCosts_99 : decode cX12_layCosts 99 = .ok (.bastore, 1) := by decide +kernel
theorem dX12_layCosts_100 : decode cX12_layCosts 100 = .ok (.iconst 0, 1) := by decide +kernel
theorem dX12_layCosts_101 : decode cX12_layCosts 101 = .ok (.istore 5, 2) := by decide +kernel
theorem dX12_layCosts_103 : decode cX12_layCosts 103 = .ok (.iload 5, 2) := by decide +kernel
theorem dX12_layCosts_105 : decode cX12_layCosts 105 = .ok (.aload_n 0, 1) := by decide +kernel
theorem dX12_layCosts_106 : decode cX12_layCosts 106 = .ok (.getfield 126, 3) := by decide +kernel
theorem dX12_layCosts_109 : decode cX12_layCosts 109 = .ok (.if_icmp .ge 51, 3) := by decide +kernel
theorem dX12_layCosts_112 : decode cX12_layCosts 112 = .ok (.aload_n 0, 1) := by decide +kernel
theorem dX12_layCosts_113 : decode cX12_layCosts 113 = .ok (.iload_n 1, 1) := by decide +kernel
theorem dX12_layCosts_114 : decode cX12_layCosts 114 = .ok (.iload 4, 2) := by decide +kernel
theorem dX12_layCosts_116 : decode cX12_layCosts 116 = .ok (.iload 5, 2) := by decide +kernel
theorem dX12_layCosts_118 : decode cX12_layCosts 118 = .ok (.invokevirtual 180, 3) := by decide +kernel
theorem dX12_layCosts_121 : decode cX12_layCosts 121 = .ok (.istore 6, 2) := by decide +kernel
theorem dX12_layCosts_123 : decode cX12_layCosts 123 = .ok (.iload 6, 2) := by decide +kernel
theorem dX12_layCosts_125 : decode cX12_layCosts 125 = .ok (.iconst (-1), 1) := by decide +kernel
theorem dX12_layCosts_126 : decode cX12_layCosts 126 = .ok (.if_icmp .eq 28, 3) := by decide +kernel
theorem dX12_layCosts_129 : decode cX12_layCosts 129 = .ok (.aload_n 0, 1) := by decide +kernel
theorem dX12_layCosts_130 : decode cX12_layCosts 130 = .ok (.iload 6, 2) := by decide +kernel
theorem dX12_layCosts_132 : decode cX12_layCosts 132 = .ok (.aload_n 0, 1) := by decide +kernel
theorem dX12_layCosts_133 : decode cX12_layCosts 133 = .ok (.getfield 50, 3) := by decide +kernel
theorem dX12_layCosts_136 : decode cX12_layCosts 136 = .ok (.iload 4, 2) := by decide +kernel
theorem dX12_layCosts_138 : decode cX12_layCosts 138 = .ok (.iaload, 1) := by decide +kernel
theorem dX12_layCosts_139 : decode cX12_layCosts 139 = .ok (.iload_n 1, 1) := by decide +kernel
theorem dX12_layCosts_140 : decode cX12_layCosts 140 = .ok (.aload_n 0, 1) := by decide +kernel
theorem dX12_layCosts_141 : decode cX12_layCosts 141 = .ok (.getfield 16, 3) := by decide +kernel
theorem dX12_layCosts_144 : decode cX12_layCosts 144 = .ok (.iload 5, 2) := by decide +kernel
theorem dX12_layCosts_146 : decode cX12_layCosts 146 = .ok (.iaload, 1) := by decide +kernel
theorem dX12_layCosts_147 : decode cX12_layCosts 147 = .ok (.invokestatic 173, 3) := by decide +kernel
theorem dX12_layCosts_150 : decode cX12_layCosts 150 = .ok (.iadd, 1) := by decide +kernel
theorem dX12_layCosts_151 : decode cX12_layCosts 151 = .ok (.invokevirtual 194, 3) := by decide +kernel
theorem dX12_layCosts_154 : decode cX12_layCosts 154 = .ok (.iinc 5 1, 3) := by decide +kernel
theorem dX12_layCosts_157 : decode cX12_layCosts 157 = .ok (.goto (-54), 3) := by decide +kernel
theorem dX12_layCosts_160 : decode cX12_layCosts 160 = .ok (.iload_n 3, 1) := by decide +kernel
theorem dX12_layCosts_161 : decode cX12_layCosts 161 = .ok (.ifCond .eq 28, 3) := by decide +kernel
theorem dX12_layCosts_164 : decode cX12_layCosts 164 = .ok (.iload_n 1, 1) := by decide +kernel
theorem dX12_layCosts_165 : decode cX12_layCosts 165 = .ok (.iconst 3, 1) := by decide +kernel
theorem dX12_layCosts_166 : decode cX12_layCosts 166 = .ok (.if_icmp .eq 23, 3) := by decide +kernel
theorem dX12_layCosts_169 : decode cX12_layCosts 169 = .ok (.aload_n 0, 1) := by decide +kernel
theorem dX12_layCosts_170 : decode cX12_layCosts 170 = .ok (.iload 4, 2) := by decide +kernel
theorem dX12_layCosts_172 : decode cX12_layCosts 172 = .ok (.invokestatic 184, 3) := by decide +kernel
theorem dX12_layCosts_175 : decode cX12_layCosts 175 = .ok (.aload_n 0, 1) := by decide +kernel
theorem dX12_layCosts_176 : decode cX12_layCosts 176 = .ok (.getfield 50, 3) := by decide +kernel
theorem dX12_layCosts_179 : decode cX12_layCosts 179 = .ok (.iload 4, 2) := by decide +kernel
theorem dX12_layCosts_181 : decode cX12_layCosts 181 = .ok (.iaload, 1) := by decide +kernel
theorem dX12_layCosts_182 : decode cX12_layCosts 182 = .ok (.sipush 10000, 3) := by decide +kernel
theorem dX12_layCosts_185 : decode cX12_layCosts 185 = .ok (.iadd, 1) := by decide +kernel
theorem dX12_layCosts_186 : decode cX12_layCosts 186 = .ok (.invokevirtual 194, 3) := by decide +kernel
theorem dX12_layCosts_189 : decode cX12_layCosts 189 = .ok (.goto (-139), 3) := by decide +kernel
theorem dX12_layCosts_192 : decode cX12_layCosts 192 = .ok (.return_, 1) := by decide +kernel
theorem dX12_costTo_0 : decode cX12_costTo 0 = .ok (.ldc 193, 2) := by decide +kernel
theorem dX12_costTo_2 : decode cX12_costTo 2 = .ok (.istore_n 2, 1) := by decide +kernel
theorem dX12_costTo_3 : decode cX12_costTo 3 = .ok (.iload_n 1, 1) := by decide +kernel
theorem dX12_costTo_4 : decode cX12_costTo 4 = .ok (.istore_n 3, 1) := by decide +kernel
theorem dX12_costTo_5 : decode cX12_costTo 5 = .ok (.iload_n 3, 1) := by decide +kernel
theorem dX12_costTo_6 : decode cX12_costTo 6 = .ok (.sipush 378, 3) := by decide +kernel
theorem dX12_costTo_9 : decode cX12_costTo 9 = .ok (.if_icmp .ge 30, 3) := by decide +kernel
theorem dX12_costTo_12 : decode cX12_costTo 12 = .ok (.aload_n 0, 1) := by decide +kernel
theorem dX12_costTo_13 : decode cX12_costTo 13 = .ok (.getfield 50, 3) := by decide +kernel
theorem dX12_costTo_16 : decode cX12_costTo 16 = .ok (.iload_n 3, 1) := by decide +kernel
theorem dX12_costTo_17 : decode cX12_costTo 17 = .ok (.iaload, 1) := by decide +kernel
theorem dX12_costTo_18 : decode cX12_costTo 18 = .ok (.iload_n 2, 1) := by decide +kernel
theorem dX12_costTo_19 : decode cX12_costTo 19 = .ok (.if_icmp .ge 12, 3) := by decide +kernel
theorem dX12_costTo_22 : decode cX12_costTo 22 = .ok (.aload_n 0, 1) := by decide +kernel
theorem dX12_costTo_23 : decode cX12_costTo 23 = .ok (.getfield 50, 3) := by decide +kernel
theorem dX12_costTo_26 : decode cX12_costTo 26 = .ok (.iload_n 3, 1) := by decide +kernel
theorem dX12_costTo_27 : decode cX12_costTo 27 = .ok (.iaload, 1) := by decide +kernel
theorem dX12_costTo_28 : decode cX12_costTo 28 = .ok (.goto 4, 3) := by decide +kernel
theorem dX12_costTo_31 : decode cX12_costTo 31 = .ok (.iload_n 2, 1) := by decide +kernel
theorem dX12_costTo_32 : decode cX12_costTo 32 = .ok (.istore_n 2, 1) := by decide +kernel
theorem dX12_costTo_33 : decode cX12_costTo 33 = .ok (.iinc 3 7, 3) := by decide +kernel
theorem dX12_costTo_36 : decode cX12_costTo 36 = .ok (.goto (-31), 3) := by decide +kernel
theorem dX12_costTo_39 : decode cX12_costTo 39 = .ok (.iload_n 2, 1) := by decide +kernel
theorem dX12_costTo_40 : decode cX12_costTo 40 = .ok (.ireturn, 1) := by decide +kernel
set_option maxRecDepth 20000 in
theorem ggX12_fewestNow_X12_layCosts : GoodIn wsX12_fewestNow wsX12_layCosts := goodIn_r _ [10, 11, 3, 12, 13, 14, 15, 4, 5, 16, 17, 18, 9, 19, 20, 21, 22, 23, 24, 25, 26, 27, 28, 29, 30, 31, 32, 33, 34, 35, 36, 37, 38, 39, 40, 41, 42, 43, 44, 45, 46, 47, 48, 49, 54, 55, 56, 57, 58, 59, 60, 61, 62, 63, 64, 65, 66, 67, 68, 69, 70, 71, 72, 73, 74, 75, 76, 77, 78, 79, 80, 81, 82, 83, 84, 85, 86, 87, 88, 89, 90, 91, 92, 93, 94, 95, 96, 97, 98, 99, 100, 101, 102, 103, 104] (by decide +kernel) (by decide +kernel)
set_option maxRecDepth 20000 in
theorem gX12_fewestNow_X12_layCosts : GoodIn wsX12_fewestNow (wsV RX12 198 RX12 yX12_layCosts wsX12_layCosts) := goodIn_app (goodIn_of _ (by decide +kernel)) ggX12_fewestNow_X12_layCosts
set_option maxRecDepth 20000 in
theorem ggX12_fewestNow_X12_costTo : GoodIn wsX12_fewestNow wsX12_costTo := goodIn_r _ [53, 3, 11, 54, 55, 56, 57, 58, 59, 60, 61, 62, 63, 64, 65, 66, 67, 68, 69, 70, 71, 72, 73, 74, 75, 76, 77, 78, 79, 80, 81, 82, 83, 84, 85, 86, 87, 88, 89, 90, 91, 92, 93, 94, 95, 96, 97, 98, 99, 100, 101, 102, 103, 104] (by decide +kernel) (by decide +kernel)
set_option maxRecDepth 20000 in
theorem gX12_fewestNow_X12_costTo : GoodIn wsX12_fewestNow (wsV RX12 202 RX12 yX12_costTo wsX12_costTo) := goodIn_app (goodIn_of _ (by decide +kernel)) ggX12_fewestNow_X12_costTo
set_option maxRecDepth 20000 in
theorem ggX12_fewestNow_X12_placeIn : GoodIn wsX12_fewestNow wsX12_placeIn := goodIn_r _ [34] (by decide +kernel) (by decide +kernel)
set_option maxRecDepth 20000 in
theorem gX12_fewestNow_X12_placeIn : GoodIn wsX12_fewestNow (va_wsS RX12 158 yX12_placeIn wsX12_placeIn) := goodIn_app (goodIn_of _ (by decide +kernel)) ggX12_fewestNow_X12_placeIn
set_option maxRecDepth 20000 in
theorem ggX12_fewestNow_X12_behind : GoodIn wsX12_fewestNow wsX12_behind := goodIn_r _ [23, 24, 5, 25, 26, 27, 28, 29, 30, 9, 31, 32, 33, 34, 35, 36, 37, 38, 39, 40, 41, 42, 43, 44, 45, 46, 54, 55, 56, 57, 58, 59, 60, 61, 62, 63, 64, 65, 66, 67, 68, 69, 70, 71, 72, 73, 74, 75, 76, 77, 78, 79, 80, 81, 82, 83, 84, 85, 86, 87, 88, 89, 90, 91, 92, 93, 94, 95, 96, 97, 98, 99, 100, 101, 102, 103, 104] (by decide +kernel) (by decide +kernel)
set_option maxRecDepth 20000 in
theorem gX12_fewestNow_X12_behind : GoodIn wsX12_fewestNow (wsV RX12 180 RX12 yX12_behind wsX12_behind) := goodIn_app (goodIn_of _ (by decide +kernel)) ggX12_fewestNow_X12_behind
set_option maxRecDepth 20000 in
theorem ggX12_fewestNow_X12_stepsBy : GoodIn wsX12_fewestNow wsX12_stepsBy := goodIn_r _ [37] (by decide +kernel) (by decide +kernel)
set_option maxRecDepth 20000 in
theorem gX12_fewestNow_X12_stepsBy : GoodIn wsX12_fewestNow (va_wsS RX12 173 yX12_stepsBy wsX12_stepsBy) := goodIn_app (goodIn_of _ (by decide +kernel)) ggX12_fewestNow_X12_stepsBy
theorem dX12_fewestNow_0 : decode cX12_fewestNow 0 = .ok (.aload_n 0, 1) := by decide +kernel
theorem dX12_fewestNow_1 : decode cX12_fewestNow 1 = .ok (.aload_n 0, 1) := by decide +kernel
theorem dX12_fewestNow_2 : decode cX12_fewestNow 2 = .ok (.getfield 22, 3) := by decide +kernel
theorem dX12_fewestNow_5 : decode cX12_fewestNow 5 = .ok (.iload_n 1, 1) := by decide +kernel
theorem dX12_fewestNow_6 : decode cX12_fewestNow 6 = .ok (.iaload, 1) := by decide +kernel
theorem dX12_fewestNow_7 : decode cX12_fewestNow 7 = .ok (.aload_n 0, 1) := by decide +kernel
theorem dX12_fewestNow_8 : decode cX12_fewestNow 8 = .ok (.getfield 25, 3) := by decide +kernel
theorem dX12_fewestNow_11 : decode cX12_fewestNow 11 = .ok (.iload_n 1, 1) := by decide +kernel
theorem dX12_fewestNow_12 : decode cX12_fewestNow 12 = .ok (.iaload, 1) := by decide +kernel
theorem dX12_fewestNow_13 : decode cX12_fewestNow 13 = .ok (.iconst 0, 1) := by decide +kernel
theorem dX12_fewestNow_14 : decode cX12_fewestNow 14 = .ok (.invokevirtual 198, 3) := by decide +kernel
theorem dX12_fewestNow_17 : decode cX12_fewestNow 17 = .ok (.aload_n 0, 1) := by decide +kernel
theorem dX12_fewestNow_18 : decode cX12_fewestNow 18 = .ok (.iload_n 2, 1) := by decide +kernel
theorem dX12_fewestNow_19 : decode cX12_fewestNow 19 = .ok (.invokevirtual 202, 3) := by decide +kernel
theorem dX12_fewestNow_22 : decode cX12_fewestNow 22 = .ok (.istore 4, 2) := by decide +kernel
theorem dX12_fewestNow_24 : decode cX12_fewestNow 24 = .ok (.iload 4, 2) := by decide +kernel
theorem dX12_fewestNow_26 : decode cX12_fewestNow 26 = .ok (.ldc 193, 2) := by decide +kernel
theorem dX12_fewestNow_28 : decode cX12_fewestNow 28 = .ok (.if_icmp .eq 7, 3) := by decide +kernel
theorem dX12_fewestNow_31 : decode cX12_fewestNow 31 = .ok (.iload_n 3, 1) := by decide +kernel
theorem dX12_fewestNow_32 : decode cX12_fewestNow 32 = .ok (.ifCond .ne 17, 3) := by decide +kernel
theorem dX12_fewestNow_35 : decode cX12_fewestNow 35 = .ok (.iload 4, 2) := by decide +kernel
theorem dX12_fewestNow_37 : decode cX12_fewestNow 37 = .ok (.ldc 193, 2) := by decide +kernel
theorem dX12_fewestNow_39 : decode cX12_fewestNow 39 = .ok (.if_icmp .ne 7, 3) := by decide +kernel
theorem dX12_fewestNow_42 : decode cX12_fewestNow 42 = .ok (.iconst (-1), 1) := by decide +kernel
theorem dX12_fewestNow_43 : decode cX12_fewestNow 43 = .ok (.goto 5, 3) := by decide +kernel
theorem dX12_fewestNow_46 : decode cX12_fewestNow 46 = .ok (.iload 4, 2) := by decide +kernel
theorem dX12_fewestNow_48 : decode cX12_fewestNow 48 = .ok (.ireturn, 1) := by decide +kernel
theorem dX12_fewestNow_49 : decode cX12_fewestNow 49 = .ok (.iconst 0, 1) := by decide +kernel
theorem dX12_fewestNow_50 : decode cX12_fewestNow 50 = .ok (.istore 5, 2) := by decide +kernel
theorem dX12_fewestNow_52 : decode cX12_fewestNow 52 = .ok (.iload 5, 2) := by decide +kernel
theorem dX12_fewestNow_54 : decode cX12_fewestNow 54 = .ok (.aload_n 0, 1) := by decide +kernel
theorem dX12_fewestNow_55 : decode cX12_fewestNow 55 = .ok (.getfield 126, 3) := by decide +kernel
theorem dX12_fewestNow_58 : decode cX12_fewestNow 58 = .ok (.if_icmp .ge 91, 3) := by decide +kernel
theorem dX12_fewestNow_61 : decode cX12_fewestNow 61 = .ok (.aload_n 0, 1) := by decide +kernel
theorem dX12_fewestNow_62 : decode cX12_fewestNow 62 = .ok (.getfield 25, 3) := by decide +kernel
theorem dX12_fewestNow_65 : decode cX12_fewestNow 65 = .ok (.iload_n 1, 1) := by decide +kernel
theorem dX12_fewestNow_66 : decode cX12_fewestNow 66 = .ok (.iaload, 1) := by decide +kernel
theorem dX12_fewestNow_67 : decode cX12_fewestNow 67 = .ok (.invokestatic 158, 3) := by decide +kernel
theorem dX12_fewestNow_70 : decode cX12_fewestNow 70 = .ok (.iload_n 2, 1) := by decide +kernel
theorem dX12_fewestNow_71 : decode cX12_fewestNow 71 = .ok (.if_icmp .eq 78, 3) := by decide +kernel
theorem dX12_fewestNow_74 : decode cX12_fewestNow 74 = .ok (.aload_n 0, 1) := by decide +kernel
theorem dX12_fewestNow_75 : decode cX12_fewestNow 75 = .ok (.aload_n 0, 1) := by decide +kernel
theorem dX12_fewestNow_76 : decode cX12_fewestNow 76 = .ok (.getfield 22, 3) := by decide +kernel
theorem dX12_fewestNow_79 : decode cX12_fewestNow 79 = .ok (.iload_n 1, 1) := by decide +kernel
theorem dX12_fewestNow_80 : decode cX12_fewestNow 80 = .ok (.iaload, 1) := by decide +kernel
theorem dX12_fewestNow_81 : decode cX12_fewestNow 81 = .ok (.aload_n 0, 1) := by decide +kernel
theorem dX12_fewestNow_82 : decode cX12_fewestNow 82 = .ok (.getfield 25, 3) := by decide +kernel
theorem dX12_fewestNow_85 : decode cX12_fewestNow 85 = .ok (.iload_n 1, 1) := by decide +kernel
theorem dX12_fewestNow_86 : decode cX12_fewestNow 86 = .ok (.iaload, 1) := by decide +kernel
theorem dX12_fewestNow_87 : decode cX12_fewestNow 87 = .ok (.iload 5, 2) := by decide +kernel
theorem dX12_fewestNow_89 : decode cX12_fewestNow 89 = .ok (.invokevirtual 180, 3) := by decide +kernel
theorem dX12_fewestNow_92 : decode cX12_fewestNow 92 = .ok (.istore 6, 2) := by decide +kernel
theorem dX12_fewestNow_94 : decode cX12_fewestNow 94 = .ok (.iload 6, 2) := by decide +kernel
theorem dX12_fewestNow_96 : decode cX12_fewestNow 96 = .ok (.iconst (-1), 1) := by decide +kernel
theorem dX12_fewestNow_97 : decode cX12_fewestNow 97 = .ok (.if_icmp .eq 46, 3) := by decide +kernel
theorem dX12_fewestNow_100 : decode cX12_fewestNow 100 = .ok (.aload_n 0, 1) := by decide +kernel
theorem dX12_fewestNow_101 : decode cX12_fewestNow 101 = .ok (.aload_n 0, 1) := by decide +kernel
theorem dX12_fewestNow_102 : decode cX12_fewestNow 102 = .ok (.getfield 22, 3) := by decide +kernel
theorem dX12_fewestNow_105 : decode cX12_fewestNow 105 = .ok (.iload_n 1, 1) := by decide +kernel
theorem dX12_fewestNow_106 : decode cX12_fewestNow 106 = .ok (.iaload, 1) := by decide +kernel
theorem dX12_fewestNow_107 : decode cX12_fewestNow 107 = .ok (.iload 6, 2) := by decide +kernel
theorem dX12_fewestNow_109 : decode cX12_fewestNow 109 = .ok (.iconst 0, 1) := by decide +kernel
theorem dX12_fewestNow_110 : decode cX12_fewestNow 110 = .ok (.invokevirtual 198, 3) := by decide +kernel
theorem dX12_fewestNow_113 : decode cX12_fewestNow 113 = .ok (.aload_n 0, 1) := by decide +kernel
theorem dX12_fewestNow_114 : decode cX12_fewestNow 114 = .ok (.getfield 22, 3) := by decide +kernel
theorem dX12_fewestNow_117 : decode cX12_fewestNow 117 = .ok (.iload_n 1, 1) := by decide +kernel
theorem dX12_fewestNow_118 : decode cX12_fewestNow 118 = .ok (.iaload, 1) := by decide +kernel
theorem dX12_fewestNow_119 : decode cX12_fewestNow 119 = .ok (.aload_n 0, 1) := by decide +kernel
theorem dX12_fewestNow_120 : decode cX12_fewestNow 120 = .ok (.getfield 16, 3) := by decide +kernel
theorem dX12_fewestNow_123 : decode cX12_fewestNow 123 = .ok (.iload 5, 2) := by decide +kernel
theorem dX12_fewestNow_125 : decode cX12_fewestNow 125 = .ok (.iaload, 1) := by decide +kernel
theorem dX12_fewestNow_126 : decode cX12_fewestNow 126 = .ok (.invokestatic 173, 3) := by decide +kernel
theorem dX12_fewestNow_129 : decode cX12_fewestNow 129 = .ok (.aload_n 0, 1) := by decide +kernel
theorem dX12_fewestNow_130 : decode cX12_fewestNow 130 = .ok (.iload_n 2, 1) := by decide +kernel
theorem dX12_fewestNow_131 : decode cX12_fewestNow 131 = .ok (.invokevirtual 202, 3) := by decide +kernel
theorem dX12_fewestNow_134 : decode cX12_fewestNow 134 = .ok (.iadd, 1) := by decide +kernel
theorem dX12_fewestNow_135 : decode cX12_fewestNow 135 = .ok (.iload 4, 2) := by decide +kernel
theorem dX12_fewestNow_137 : decode cX12_fewestNow 137 = .ok (.if_icmp .ne 6, 3) := by decide +kernel
theorem dX12_fewestNow_140 : decode cX12_fewestNow 140 = .ok (.iload 5, 2) := by decide +kernel
theorem dX12_fewestNow_142 : decode cX12_fewestNow 142 = .ok (.ireturn, 1) := by decide +kernel
theorem dX12_fewestNow_143 : decode cX12_fewestNow 143 = .ok (.iinc 5 1, 3) := by decide +kernel
theorem dX12_fewestNow_146 : decode cX12_fewestNow 146 = .ok (.goto (-94), 3) := by decide +kernel
theorem dX12_fewestNow_149 : decode cX12_fewestNow 149 = .ok (.iconst (-1), 1) := by decide +kernel
theorem dX12_fewestNow_150 : decode cX12_fewestNow 150 = .ok (.ireturn, 1) := by decide +kernel
set_option maxRecDepth 20000 in
theorem ggX12_fewest_X12_isWalker : GoodIn wsX12_fewest wsX12_isWalker := goodIn_r _ [5, 6, 7, 8, 4, 9, 69, 70, 71, 72, 73, 74, 75, 76, 77, 78, 79, 80, 81, 82, 83, 84, 85, 86, 87, 88, 89, 90, 91, 92, 93, 94, 95, 96, 97, 98, 99, 100, 101, 102, 103, 104, 105, 106, 107, 108, 109, 110, 111, 112, 113, 114, 115, 116, 117, 118, 119] (by decide +kernel) (by decide +kernel)
set_option maxRecDepth 20000 in
theorem gX12_fewest_X12_isWalker : GoodIn wsX12_fewest (wsV RX12 167 RX12 yX12_isWalker wsX12_isWalker) := goodIn_app (goodIn_of _ (by decide +kernel)) ggX12_fewest_X12_isWalker
set_option maxRecDepth 20000 in
theorem ggX12_fewest_X12_isPlace : GoodIn wsX12_fewest wsX12_isPlace := goodIn_r _ [12, 7, 8, 4, 9] (by decide +kernel) (by decide +kernel)
set_option maxRecDepth 20000 in
theorem gX12_fewest_X12_isPlace : GoodIn wsX12_fewest (va_wsS RX12 151 yX12_isPlace wsX12_isPlace) := goodIn_app (goodIn_of _ (by decide +kernel)) ggX12_fewest_X12_isPlace
set_option maxRecDepth 20000 in
theorem ggX12_fewest_X12_within : GoodIn wsX12_fewest wsX12_within := goodIn_r _ [9] (by decide +kernel) (by decide +kernel)
set_option maxRecDepth 20000 in
theorem gX12_fewest_X12_within : GoodIn wsX12_fewest (va_wsS RX12 102 yX12_within wsX12_within) := goodIn_app (goodIn_of _ (by decide +kernel)) ggX12_fewest_X12_within
set_option maxRecDepth 20000 in
theorem ggX12_fewest_X12_fewestNow : GoodIn wsX12_fewest wsX12_fewestNow := goodIn_r _ [16, 17, 18, 19, 20, 21, 22, 23, 24, 4, 25, 26, 27, 28, 29, 30, 31, 32, 33, 34, 35, 36, 37, 38, 39, 40, 41, 42, 43, 44, 45, 46, 47, 48, 49, 50, 51, 52, 53, 54, 55, 56, 57, 58, 59, 60, 61, 62, 63, 64, 65, 66, 67, 68, 69, 70, 71, 72, 73, 74, 75, 76, 77, 78, 79, 80, 81, 82, 83, 84, 85, 86, 87, 88, 89, 90, 91, 92, 93, 94, 95, 96, 97, 98, 99, 100, 101, 102, 103, 104, 105, 106, 107, 108, 109, 110, 111, 112, 113, 114, 115, 116, 117, 118, 119] (by decide +kernel) (by decide +kernel)
set_option maxRecDepth 20000 in
theorem gX12_fewest_X12_fewestNow : GoodIn wsX12_fewest (wsV RX12 205 RX12 yX12_fewestNow wsX12_fewestNow) := goodIn_app (goodIn_of _ (by decide +kernel)) ggX12_fewest_X12_fewestNow
theorem dX12_fewest_0 : decode cX12_fewest 0 = .ok (.aload_n 0, 1) := by decide +kernel
theorem dX12_fewest_1 : decode cX12_fewest 1 = .ok (.iload_n 1, 1) := by decide +kernel
theorem dX12_fewest_2 : decode cX12_fewest 2 = .ok (.invokevirtual 167, 3) := by decide +kernel
theorem dX12_fewest_5 : decode cX12_fewest 5 = .ok (.ifCond .eq 10, 3) := by decide +kernel
theorem dX12_fewest_8 : decode cX12_fewest 8 = .ok (.iload_n 2, 1) := by decide +kernel
theorem dX12_fewest_9 : decode cX12_fewest 9 = .ok (.invokestatic 151, 3) := by decide +kernel
theorem dX12_fewest_12 : decode cX12_fewest 12 = .ok (.ifCond .ne 6, 3) := by decide +kernel
theorem dX12_fewest_15 : decode cX12_fewest 15 = .ok (.bipush (-101), 2) := by decide +kernel
theorem dX12_fewest_17 : decode cX12_fewest 17 = .ok (.ireturn, 1) := by decide +kernel
theorem dX12_fewest_18 : decode cX12_fewest 18 = .ok (.iload_n 3, 1) := by decide +kernel
theorem dX12_fewest_19 : decode cX12_fewest 19 = .ok (.iconst 0, 1) := by decide +kernel
theorem dX12_fewest_20 : decode cX12_fewest 20 = .ok (.iconst 1, 1) := by decide +kernel
theorem dX12_fewest_21 : decode cX12_fewest 21 = .ok (.invokestatic 102, 3) := by decide +kernel
theorem dX12_fewest_24 : decode cX12_fewest 24 = .ok (.ifCond .eq 13, 3) := by decide +kernel
theorem dX12_fewest_27 : decode cX12_fewest 27 = .ok (.aload_n 0, 1) := by decide +kernel
theorem dX12_fewest_28 : decode cX12_fewest 28 = .ok (.iload_n 1, 1) := by decide +kernel
theorem dX12_fewest_29 : decode cX12_fewest 29 = .ok (.iload_n 2, 1) := by decide +kernel
theorem dX12_fewest_30 : decode cX12_fewest 30 = .ok (.iload_n 3, 1) := by decide +kernel
theorem dX12_fewest_31 : decode cX12_fewest 31 = .ok (.invokevirtual 205, 3) := by decide +kernel
theorem dX12_fewest_34 : decode cX12_fewest 34 = .ok (.goto 5, 3) := by decide +kernel
theorem dX12_fewest_37 : decode cX12_fewest 37 = .ok (.bipush (-102), 2) := by decide +kernel
theorem dX12_fewest_39 : decode cX12_fewest 39 = .ok (.ireturn, 1) := by decide +kernel
set_option maxRecDepth 20000 in
theorem ggX12_skipsNow_X12_layCosts : GoodIn wsX12_skipsNow wsX12_layCosts := goodIn_r _ [8, 9, 3, 10, 11, 12, 13, 14, 15, 16, 17, 18, 7, 19, 20, 21, 22, 23, 24, 25, 26, 27, 28, 29, 30, 31, 32, 33, 34, 35, 36, 37, 38, 39, 40, 41, 42, 43, 44, 45, 46, 47, 48, 49, 54, 55, 56, 57, 58, 59, 60, 61, 62, 63, 64, 65, 66, 67, 68, 69, 70, 71, 72, 73, 74, 75, 76, 77, 78, 79, 80, 81, 82, 83, 84, 85, 86, 87, 88, 89, 90, 91, 92, 93, 94, 95, 96, 97, 98, 99, 100, 101, 102, 103, 104] (by decide +kernel) (by decide +kernel)
set_option maxRecDepth 20000 in
theorem gX12_skipsNow_X12_layCosts : GoodIn wsX12_skipsNow (wsV RX12 198 RX12 yX12_layCosts wsX12_layCosts) := goodIn_app (goodIn_of _ (by decide +kernel)) ggX12_skipsNow_X12_layCosts
set_option maxRecDepth 20000 in
theorem ggX12_skipsNow_X12_costTo : GoodIn wsX12_skipsNow wsX12_costTo := goodIn_r _ [53, 3, 9, 54, 55, 56, 57, 58, 59, 60, 61, 62, 63, 64, 65, 66, 67, 68, 69, 70, 71, 72, 73, 74, 75, 76, 77, 78, 79, 80, 81, 82, 83, 84, 85, 86, 87, 88, 89, 90, 91, 92, 93, 94, 95, 96, 97, 98, 99, 100, 101, 102, 103, 104] (by decide +kernel) (by decide +kernel)
set_option maxRecDepth 20000 in
theorem gX12_skipsNow_X12_costTo : GoodIn wsX12_skipsNow (wsV RX12 202 RX12 yX12_costTo wsX12_costTo) := goodIn_app (goodIn_of _ (by decide +kernel)) ggX12_skipsNow_X12_costTo
theorem dX12_skipsNow_0 : decode cX12_skipsNow 0 = .ok (.aload_n 0, 1) := by decide +kernel
theorem dX12_skipsNow_1 : decode cX12_skipsNow 1 = .ok (.aload_n 0, 1) := by decide +kernel
theorem dX12_skipsNow_2 : decode cX12_skipsNow 2 = .ok (.getfield 22, 3) := by decide +kernel
theorem dX12_skipsNow_5 : decode cX12_skipsNow 5 = .ok (.iload_n 1, 1) := by decide +kernel
theorem dX12_skipsNow_6 : decode cX12_skipsNow 6 = .ok (.iaload, 1) := by decide +kernel
theorem dX12_skipsNow_7 : decode cX12_skipsNow 7 = .ok (.aload_n 0, 1) := by decide +kernel
theorem dX12_skipsNow_8 : decode cX12_skipsNow 8 = .ok (.getfield 25, 3) := by decide +kernel
theorem dX12_skipsNow_11 : decode cX12_skipsNow 11 = .ok (.iload_n 1, 1) := by decide +kernel
theorem dX12_skipsNow_12 : decode cX12_skipsNow 12 = .ok (.iaload, 1) := by decide +kernel
theorem dX12_skipsNow_13 : decode cX12_skipsNow 13 = .ok (.iconst 1, 1) := by decide +kernel
theorem dX12_skipsNow_14 : decode cX12_skipsNow 14 = .ok (.invokevirtual 198, 3) := by decide +kernel
theorem dX12_skipsNow_17 : decode cX12_skipsNow 17 = .ok (.aload_n 0, 1) := by decide +kernel
theorem dX12_skipsNow_18 : decode cX12_skipsNow 18 = .ok (.iload_n 2, 1) := by decide +kernel
theorem dX12_skipsNow_19 : decode cX12_skipsNow 19 = .ok (.invokevirtual 202, 3) := by decide +kernel
theorem dX12_skipsNow_22 : decode cX12_skipsNow 22 = .ok (.istore 4, 2) := by decide +kernel
theorem dX12_skipsNow_24 : decode cX12_skipsNow 24 = .ok (.iload 4, 2) := by decide +kernel
theorem dX12_skipsNow_26 : decode cX12_skipsNow 26 = .ok (.ldc 193, 2) := by decide +kernel
theorem dX12_skipsNow_28 : decode cX12_skipsNow 28 = .ok (.if_icmp .ne 7, 3) := by decide +kernel
theorem dX12_skipsNow_31 : decode cX12_skipsNow 31 = .ok (.iconst (-1), 1) := by decide +kernel
theorem dX12_skipsNow_32 : decode cX12_skipsNow 32 = .ok (.goto 22, 3) := by decide +kernel
theorem dX12_skipsNow_35 : decode cX12_skipsNow 35 = .ok (.iload_n 3, 1) := by decide +kernel
theorem dX12_skipsNow_36 : decode cX12_skipsNow 36 = .ok (.ifCond .ne 12, 3) := by decide +kernel
theorem dX12_skipsNow_39 : decode cX12_skipsNow 39 = .ok (.iload 4, 2) := by decide +kernel
theorem dX12_skipsNow_41 : decode cX12_skipsNow 41 = .ok (.sipush 10000, 3) := by decide +kernel
theorem dX12_skipsNow_44 : decode cX12_skipsNow 44 = .ok (.idiv, 1) := by decide +kernel
theorem dX12_skipsNow_45 : decode cX12_skipsNow 45 = .ok (.goto 9, 3) := by decide +kernel
theorem dX12_skipsNow_48 : decode cX12_skipsNow 48 = .ok (.iload 4, 2) := by decide +kernel
theorem dX12_skipsNow_50 : decode cX12_skipsNow 50 = .ok (.sipush 10000, 3) := by decide +kernel
theorem dX12_skipsNow_53 : decode cX12_skipsNow 53 = .ok (.irem, 1) := by decide +kernel
theorem dX12_skipsNow_54 : decode cX12_skipsNow 54 = .ok (.ireturn, 1) := by decide +kernel
set_option maxRecDepth 20000 in
theorem ggX12_skips_X12_isWalker : GoodIn wsX12_skips wsX12_isWalker := goodIn_r _ [5, 6, 7, 8, 4, 9, 69, 70, 71, 72, 73, 74, 75, 76, 77, 78, 79, 80, 81, 82, 83, 84, 85, 86, 87, 88, 89, 90, 91, 92, 93, 94, 95, 96, 97, 98, 99, 100, 101, 102, 103, 104, 105, 106, 107, 108, 109, 110, 111, 112, 113, 114, 115, 116, 117, 118, 119] (by decide +kernel) (by decide +kernel)
set_option maxRecDepth 20000 in
theorem gX12_skips_X12_isWalker : GoodIn wsX12_skips (wsV RX12 167 RX12 yX12_isWalker wsX12_isWalker) := goodIn_app (goodIn_of _ (by decide +kernel)) ggX12_skips_X12_isWalker
set_option maxRecDepth 20000 in
theorem ggX12_skips_X12_isPlace : GoodIn wsX12_skips wsX12_isPlace := goodIn_r _ [12, 7, 8, 4, 9] (by decide +kernel) (by decide +kernel)
set_option maxRecDepth 20000 in
theorem gX12_skips_X12_isPlace : GoodIn wsX12_skips (va_wsS RX12 151 yX12_isPlace wsX12_isPlace) := goodIn_app (goodIn_of _ (by decide +kernel)) ggX12_skips_X12_isPlace
set_option maxRecDepth 20000 in
theorem ggX12_skips_X12_within : GoodIn wsX12_skips wsX12_within := goodIn_r _ [9] (by decide +kernel) (by decide +kernel)
set_option maxRecDepth 20000 in
theorem gX12_skips_X12_within : GoodIn wsX12_skips (va_wsS RX12 102 yX12_within wsX12_within) := goodIn_app (goodIn_of _ (by decide +kernel)) ggX12_skips_X12_within
set_option maxRecDepth 20000 in
theorem ggX12_skips_X12_skipsNow : GoodIn wsX12_skips wsX12_skipsNow := goodIn_r _ [16, 17, 18, 19, 20, 21, 22, 4, 23, 24, 25, 26, 27, 28, 29, 30, 31, 32, 33, 34, 35, 36, 37, 38, 39, 40, 41, 42, 43, 44, 45, 46, 47, 48, 49, 50, 51, 52, 53, 54, 55, 56, 57, 58, 59, 60, 61, 62, 63, 64, 65, 66, 67, 68, 69, 70, 71, 72, 73, 74, 75, 76, 77, 78, 79, 80, 81, 82, 83, 84, 85, 86, 87, 88, 89, 90, 91, 92, 93, 94, 95, 96, 97, 98, 99, 100, 101, 102, 103, 104, 105, 106, 107, 108, 109, 110, 111, 112, 113, 114, 115, 116, 117, 118, 119] (by decide +kernel) (by decide +kernel)
set_option maxRecDepth 20000 in
theorem gX12_skips_X12_skipsNow : GoodIn wsX12_skips (wsV RX12 208 RX12 yX12_skipsNow wsX12_skipsNow) := goodIn_app (goodIn_of _ (by decide +kernel)) ggX12_skips_X12_skipsNow
theorem dX12_skips_0 : decode cX12_skips 0 = .ok (.aload_n 0, 1) := by decide +kernel
theorem dX12_skips_1 : decode cX12_skips 1 = .ok (.iload_n 1, 1) := by decide +kernel
theorem dX12_skips_2 : decode cX12_skips 2 = .ok (.invokevirtual 167, 3) := by decide +kernel
theorem dX12_skips_5 : decode cX12_skips 5 = .ok (.ifCond .eq 10, 3) := by decide +kernel
theorem dX12_skips_8 : decode cX12_skips 8 = .ok (.iload_n 2, 1) := by decide +kernel
theorem dX12_skips_9 : decode cX12_skips 9 = .ok (.invokestatic 151, 3) := by decide +kernel
theorem dX12_skips_12 : decode cX12_skips 12 = .ok (.ifCond .ne 6, 3) := by decide +kernel
theorem dX12_skips_15 : decode cX12_skips 15 = .ok (.bipush (-101), 2) := by decide +kernel
theorem dX12_skips_17 : decode cX12_skips 17 = .ok (.ireturn, 1) := by decide +kernel
theorem dX12_skips_18 : decode cX12_skips 18 = .ok (.iload_n 3, 1) := by decide +kernel
theorem dX12_skips_19 : decode cX12_skips 19 = .ok (.iconst 0, 1) := by decide +kernel
theorem dX12_skips_20 : decode cX12_skips 20 = .ok (.iconst 1, 1) := by decide +kernel
theorem dX12_skips_21 : decode cX12_skips 21 = .ok (.invokestatic 102, 3) := by decide +kernel
theorem dX12_skips_24 : decode cX12_skips 24 = .ok (.ifCond .eq 13, 3) := by decide +kernel
theorem dX12_skips_27 : decode cX12_skips 27 = .ok (.aload_n 0, 1) := by decide +kernel
theorem dX12_skips_28 : decode cX12_skips 28 = .ok (.iload_n 1, 1) := by decide +kernel
theorem dX12_skips_29 : decode cX12_skips 29 = .ok (.iload_n 2, 1) := by decide +kernel
theorem dX12_skips_30 : decode cX12_skips 30 = .ok (.iload_n 3, 1) := by decide +kernel
theorem dX12_skips_31 : decode cX12_skips 31 = .ok (.invokevirtual 208, 3) := by decide +kernel
theorem dX12_skips_34 : decode cX12_skips 34 = .ok (.goto 5, 3) := by decide +kernel
theorem dX12_skips_37 : decode cX12_skips 37 = .ok (.bipush (-102), 2) := by decide +kernel
theorem dX12_skips_39 : decode cX12_skips 39 = .ok (.ireturn, 1) := by decide +kernel
set_option maxRecDepth 20000 in
theorem ggX12_shutNow_X12_layCosts : GoodIn wsX12_shutNow wsX12_layCosts := goodIn_r _ [8, 9, 3, 10, 11, 12, 13, 14, 15, 16, 17, 18, 7, 19, 20, 21, 22, 23, 24, 25, 26, 27, 28, 29, 30, 31, 32, 33, 34, 35, 36, 37, 38, 39, 40, 41, 42, 43, 44, 45, 46, 47, 48, 49, 54, 55, 56, 57, 58, 59, 60, 61, 62, 63, 64, 65, 66, 67, 68, 69, 70, 71, 72, 73, 74, 75, 76, 77, 78, 79, 80, 81, 82, 83, 84, 85, 86, 87, 88, 89, 90, 91, 92, 93, 94, 95, 96, 97, 98, 99, 100, 101, 102, 103, 104] (by decide +kernel) (by decide +kernel)
set_option maxRecDepth 20000 in
theorem gX12_shutNow_X12_layCosts : GoodIn wsX12_shutNow (wsV RX12 198 RX12 yX12_layCosts wsX12_layCosts) := goodIn_app (goodIn_of _ (by decide +kernel)) ggX12_shutNow_X12_layCosts
set_option maxRecDepth 20000 in
theorem ggX12_shutNow_X12_costTo : GoodIn wsX12_shutNow wsX12_costTo := goodIn_r _ [53, 3, 9, 54, 55, 56, 57, 58, 59, 60, 61, 62, 63, 64, 65, 66, 67, 68, 69, 70, 71, 72, 73, 74, 75, 76, 77, 78, 79, 80, 81, 82, 83, 84, 85, 86, 87, 88, 89, 90, 91, 92, 93, 94, 95, 96, 97, 98, 99, 100, 101, 102, 103, 104] (by decide +kernel) (by decide +kernel)
set_option maxRecDepth 20000 in
theorem gX12_shutNow_X12_costTo : GoodIn wsX12_shutNow (wsV RX12 202 RX12 yX12_costTo wsX12_costTo) := goodIn_app (goodIn_of _ (by decide +kernel)) ggX12_shutNow_X12_costTo
theorem dX12_shutNow_0 : decode cX12_shutNow 0 = .ok (.aload_n 0, 1) := by decide +kernel
theorem dX12_shutNow_1 : decode cX12_shutNow 1 = .ok (.aload_n 0, 1) := by decide +kernel
theorem dX12_shutNow_2 : decode cX12_shutNow 2 = .ok (.getfield 22, 3) := by decide +kernel
theorem dX12_shutNow_5 : decode cX12_shutNow 5 = .ok (.iload_n 1, 1) := by decide +kernel
theorem dX12_shutNow_6 : decode cX12_shutNow 6 = .ok (.iaload, 1) := by decide +kernel
theorem dX12_shutNow_7 : decode cX12_shutNow 7 = .ok (.aload_n 0, 1) := by decide +kernel
theorem dX12_shutNow_8 : decode cX12_shutNow 8 = .ok (.getfield 25, 3) := by decide +kernel
theorem dX12_shutNow_11 : decode cX12_shutNow 11 = .ok (.iload_n 1, 1) := by decide +kernel
theorem dX12_shutNow_12 : decode cX12_shutNow 12 = .ok (.iaload, 1) := by decide +kernel
theorem dX12_shutNow_13 : decode cX12_shutNow 13 = .ok (.iconst 0, 1) := by decide +kernel
theorem dX12_shutNow_14 : decode cX12_shutNow 14 = .ok (.invokevirtual 198, 3) := by decide +kernel
theorem dX12_shutNow_17 : decode cX12_shutNow 17 = .ok (.iconst 0, 1) := by decide +kernel
theorem dX12_shutNow_18 : decode cX12_shutNow 18 = .ok (.istore_n 2, 1) := by decide +kernel
theorem dX12_shutNow_19 : decode cX12_shutNow 19 = .ok (.iconst 0, 1) := by decide +kernel
theorem dX12_shutNow_20 : decode cX12_shutNow 20 = .ok (.istore_n 3, 1) := by decide +kernel
theorem dX12_shutNow_21 : decode cX12_shutNow 21 = .ok (.iload_n 3, 1) := by decide +kernel
theorem dX12_shutNow_22 : decode cX12_shutNow 22 = .ok (.bipush 7, 2) := by decide +kernel
theorem dX12_shutNow_24 : decode cX12_shutNow 24 = .ok (.if_icmp .ge 29, 3) := by decide +kernel
theorem dX12_shutNow_27 : decode cX12_shutNow 27 = .ok (.iload_n 2, 1) := by decide +kernel
theorem dX12_shutNow_28 : decode cX12_shutNow 28 = .ok (.aload_n 0, 1) := by decide +kernel
theorem dX12_shutNow_29 : decode cX12_shutNow 29 = .ok (.iload_n 3, 1) := by decide +kernel
theorem dX12_shutNow_30 : decode cX12_shutNow 30 = .ok (.invokevirtual 202, 3) := by decide +kernel
theorem dX12_shutNow_33 : decode cX12_shutNow 33 = .ok (.ldc 193, 2) := by decide +kernel
theorem dX12_shutNow_35 : decode cX12_shutNow 35 = .ok (.if_icmp .ne 9, 3) := by decide +kernel
theorem dX12_shutNow_38 : decode cX12_shutNow 38 = .ok (.iconst 1, 1) := by decide +kernel
theorem dX12_shutNow_39 : decode cX12_shutNow 39 = .ok (.iload_n 3, 1) := by decide +kernel
theorem dX12_shutNow_40 : decode cX12_shutNow 40 = .ok (.ishl, 1) := by decide +kernel
theorem dX12_shutNow_41 : decode cX12_shutNow 41 = .ok (.goto 4, 3) := by decide +kernel
theorem dX12_shutNow_44 : decode cX12_shutNow 44 = .ok (.iconst 0, 1) := by decide +kernel
theorem dX12_shutNow_45 : decode cX12_shutNow 45 = .ok (.ior, 1) := by decide +kernel
theorem dX12_shutNow_46 : decode cX12_shutNow 46 = .ok (.istore_n 2, 1) := by decide +kernel
theorem dX12_shutNow_47 : decode cX12_shutNow 47 = .ok (.iinc 3 1, 3) := by decide +kernel
theorem dX12_shutNow_50 : decode cX12_shutNow 50 = .ok (.goto (-29), 3) := by decide +kernel
theorem dX12_shutNow_53 : decode cX12_shutNow 53 = .ok (.iload_n 2, 1) := by decide +kernel
theorem dX12_shutNow_54 : decode cX12_shutNow 54 = .ok (.ireturn, 1) := by decide +kernel
set_option maxRecDepth 20000 in
theorem ggX12_shut_X12_isWalker : GoodIn wsX12_shut wsX12_isWalker := goodIn_r _ [5, 6, 7, 8, 4, 9, 66, 67, 68, 69, 70, 71, 72, 73, 74, 75, 76, 77, 78, 79, 80, 81, 82, 83, 84, 85, 86, 87, 88, 89, 90, 91, 92, 93, 94, 95, 96, 97, 98, 99, 100, 101, 102, 103, 104, 105, 106, 107, 108, 109, 110, 111, 112, 113, 114, 115, 116] (by decide +kernel) (by decide +kernel)
set_option maxRecDepth 20000 in
theorem gX12_shut_X12_isWalker : GoodIn wsX12_shut (wsV RX12 167 RX12 yX12_isWalker wsX12_isWalker) := goodIn_app (goodIn_of _ (by decide +kernel)) ggX12_shut_X12_isWalker
set_option maxRecDepth 20000 in
theorem ggX12_shut_X12_shutNow : GoodIn wsX12_shut wsX12_shutNow := goodIn_r _ [13, 14, 15, 16, 17, 18, 19, 4, 20, 21, 22, 23, 24, 25, 26, 27, 28, 29, 30, 31, 32, 33, 34, 35, 36, 37, 38, 39, 40, 41, 42, 43, 44, 45, 46, 47, 48, 49, 50, 51, 52, 53, 54, 55, 56, 57, 58, 59, 60, 61, 62, 63, 64, 65, 66, 67, 68, 69, 70, 71, 72, 73, 74, 75, 76, 77, 78, 79, 80, 81, 82, 83, 84, 85, 86, 87, 88, 89, 90, 91, 92, 93, 94, 95, 96, 97, 98, 99, 100, 101, 102, 103, 104, 105, 106, 107, 108, 109, 110, 111, 112, 113, 114, 115, 116] (by decide +kernel) (by decide +kernel)
set_option maxRecDepth 20000 in
theorem gX12_shut_X12_shutNow : GoodIn wsX12_shut (wsV RX12 211 RX12 yX12_shutNow wsX12_shutNow) := goodIn_app (goodIn_of _ (by decide +kernel)) ggX12_shut_X12_shutNow
theorem dX12_shut_0 : decode cX12_shut 0 = .ok (.aload_n 0, 1) := by decide +kernel
theorem dX12_shut_1 : decode cX12_shut 1 = .ok (.iload_n 1, 1) := by decide +kernel
theorem dX12_shut_2 : decode cX12_shut 2 = .ok (.invokevirtual 167, 3) := by decide +kernel
theorem dX12_shut_5 : decode cX12_shut 5 = .ok (.ifCond .eq 11, 3) := by decide +kernel
theorem dX12_shut_8 : decode cX12_shut 8 = .ok (.aload_n 0, 1) := by decide +kernel
theorem dX12_shut_9 : decode cX12_shut 9 = .ok (.iload_n 1, 1) := by decide +kernel
theorem dX12_shut_10 : decode cX12_shut 10 = .ok (.invokevirtual 211, 3) := by decide +kernel
theorem dX12_shut_13 : decode cX12_shut 13 = .ok (.goto 5, 3) := by decide +kernel
theorem dX12_shut_16 : decode cX12_shut 16 = .ok (.bipush (-101), 2) := by decide +kernel
theorem dX12_shut_18 : decode cX12_shut 18 = .ok (.ireturn, 1) := by decide +kernel
theorem dX12_isEvenTown_0 : decode cX12_isEvenTown 0 = .ok (.iconst 0, 1) := by decide +kernel
theorem dX12_isEvenTown_1 : decode cX12_isEvenTown 1 = .ok (.istore_n 1, 1) := by decide +kernel
theorem dX12_isEvenTown_2 : decode cX12_isEvenTown 2 = .ok (.iconst 0, 1) := by decide +kernel
theorem dX12_isEvenTown_3 : decode cX12_isEvenTown 3 = .ok (.istore_n 2, 1) := by decide +kernel
theorem dX12_isEvenTown_4 : decode cX12_isEvenTown 4 = .ok (.iload_n 2, 1) := by decide +kernel
theorem dX12_isEvenTown_5 : decode cX12_isEvenTown 5 = .ok (.aload_n 0, 1) := by decide +kernel
theorem dX12_isEvenTown_6 : decode cX12_isEvenTown 6 = .ok (.getfield 126, 3) := by decide +kernel
theorem dX12_isEvenTown_9 : decode cX12_isEvenTown 9 = .ok (.if_icmp .ge 29, 3) := by decide +kernel
theorem dX12_isEvenTown_12 : decode cX12_isEvenTown 12 = .ok (.iload_n 1, 1) := by decide +kernel
theorem dX12_isEvenTown_13 : decode cX12_isEvenTown 13 = .ok (.iconst 1, 1) := by decide +kernel
theorem dX12_isEvenTown_14 : decode cX12_isEvenTown 14 = .ok (.aload_n 0, 1) := by decide +kernel
theorem dX12_isEvenTown_15 : decode cX12_isEvenTown 15 = .ok (.getfield 7, 3) := by decide +kernel
theorem dX12_isEvenTown_18 : decode cX12_isEvenTown 18 = .ok (.iload_n 2, 1) := by decide +kernel
theorem dX12_isEvenTown_19 : decode cX12_isEvenTown 19 = .ok (.iaload, 1) := by decide +kernel
theorem dX12_isEvenTown_20 : decode cX12_isEvenTown 20 = .ok (.ishl, 1) := by decide +kernel
theorem dX12_isEvenTown_21 : decode cX12_isEvenTown 21 = .ok (.iconst 1, 1) := by decide +kernel
theorem dX12_isEvenTown_22 : decode cX12_isEvenTown 22 = .ok (.aload_n 0, 1) := by decide +kernel
theorem dX12_isEvenTown_23 : decode cX12_isEvenTown 23 = .ok (.getfield 13, 3) := by decide +kernel
theorem dX12_isEvenTown_26 : decode cX12_isEvenTown 26 = .ok (.iload_n 2, 1) := by decide +kernel
theorem dX12_isEvenTown_27 : decode cX12_isEvenTown 27 = .ok (.iaload, 1) := by decide +kernel
theorem dX12_isEvenTown_28 : decode cX12_isEvenTown 28 = .ok (.ishl, 1) := by decide +kernel
theorem dX12_isEvenTown_29 : decode cX12_isEvenTown 29 = .ok (.ixor, 1) := by decide +kernel
theorem dX12_isEvenTown_30 : decode cX12_isEvenTown 30 = .ok (.ixor, 1) := by decide +kernel
theorem dX12_isEvenTown_31 : decode cX12_isEvenTown 31 = .ok (.istore_n 1, 1) := by decide +kernel
theorem dX12_isEvenTown_32 : decode cX12_isEvenTown 32 = .ok (.iinc 2 1, 3) := by decide +kernel
theorem dX12_isEvenTown_35 : decode cX12_isEvenTown 35 = .ok (.goto (-31), 3) := by decide +kernel
theorem dX12_isEvenTown_38 : decode cX12_isEvenTown 38 = .ok (.iload_n 1, 1) := by decide +kernel
theorem dX12_isEvenTown_39 : decode cX12_isEvenTown 39 = .ok (.ifCond .ne 7, 3) := by decide +kernel
theorem dX12_isEvenTown_42 : decode cX12_isEvenTown 42 = .ok (.iconst 1, 1) := by decide +kernel
theorem dX12_isEvenTown_43 : decode cX12_isEvenTown 43 = .ok (.goto 4, 3) := by decide +kernel
theorem dX12_isEvenTown_46 : decode cX12_isEvenTown 46 = .ok (.iconst 0, 1) := by decide +kernel
theorem dX12_isEvenTown_47 : decode cX12_isEvenTown 47 = .ok (.ireturn, 1) := by decide +kernel
set_option maxRecDepth 20000 in
theorem ggX12_roundNow_X12_placeIn : GoodIn wsX12_roundNow wsX12_placeIn := goodIn_r _ [9] (by decide +kernel) (by decide +kernel)
set_option maxRecDepth 20000 in
theorem gX12_roundNow_X12_placeIn : GoodIn wsX12_roundNow (va_wsS RX12 158 yX12_placeIn wsX12_placeIn) := goodIn_app (goodIn_of _ (by decide +kernel)) ggX12_roundNow_X12_placeIn
set_option maxRecDepth 20000 in
theorem ggX12_roundNow_X12_isEvenTown : GoodIn wsX12_roundNow wsX12_isEvenTown := goodIn_r _ [13, 4, 14, 15, 42, 43, 44, 45, 46, 47, 48, 49, 50, 51, 52, 53, 54, 55, 56, 57, 58, 59, 60, 61, 62, 63, 64, 65, 66, 67, 68, 69, 70, 71, 72, 73, 74, 75, 76, 77, 78, 79, 80, 81, 82, 83, 84, 85, 86, 87, 88, 89, 90, 91, 92] (by decide +kernel) (by decide +kernel)
set_option maxRecDepth 20000 in
theorem gX12_roundNow_X12_isEvenTown : GoodIn wsX12_roundNow (wsV RX12 214 RX12 yX12_isEvenTown wsX12_isEvenTown) := goodIn_app (goodIn_of _ (by decide +kernel)) ggX12_roundNow_X12_isEvenTown
set_option maxRecDepth 20000 in
theorem ggX12_roundNow_X12_has : GoodIn wsX12_roundNow wsX12_has := goodIn_r _ [18] (by decide +kernel) (by decide +kernel)
set_option maxRecDepth 20000 in
theorem gX12_roundNow_X12_has : GoodIn wsX12_roundNow (va_wsS RX12 218 yX12_has wsX12_has) := goodIn_app (goodIn_of _ (by decide +kernel)) ggX12_roundNow_X12_has
set_option maxRecDepth 20000 in
theorem ggX12_roundNow_X12_behind : GoodIn wsX12_roundNow wsX12_behind := goodIn_r _ [22, 14, 23, 24, 15, 25, 26, 27, 28, 8, 29, 6, 7, 9, 30, 31, 32, 33, 34, 35, 36, 37, 38, 39, 40, 41, 42, 43, 44, 45, 46, 47, 48, 49, 50, 51, 52, 53, 54, 55, 56, 57, 58, 59, 60, 61, 62, 63, 64, 65, 66, 67, 68, 69, 70, 71, 72, 73, 74, 75, 76, 77, 78, 79, 80, 81, 82, 83, 84, 85, 86, 87, 88, 89, 90, 91, 92] (by decide +kernel) (by decide +kernel)
set_option maxRecDepth 20000 in
theorem gX12_roundNow_X12_behind : GoodIn wsX12_roundNow (wsV RX12 180 RX12 yX12_behind wsX12_behind) := goodIn_app (goodIn_of _ (by decide +kernel)) ggX12_roundNow_X12_behind
theorem dX12_roundNow_0 : decode cX12_roundNow 0 = .ok (.aload_n 0, 1) := by decide +kernel
theorem dX12_roundNow_1 : decode cX12_roundNow 1 = .ok (.getfield 25, 3) := by decide +kernel
theorem dX12_roundNow_4 : decode cX12_roundNow 4 = .ok (.iload_n 1, 1) := by decide +kernel
theorem dX12_roundNow_5 : decode cX12_roundNow 5 = .ok (.iaload, 1) := by decide +kernel
theorem dX12_roundNow_6 : decode cX12_roundNow 6 = .ok (.invokestatic 158, 3) := by decide +kernel
theorem dX12_roundNow_9 : decode cX12_roundNow 9 = .ok (.istore_n 2, 1) := by decide +kernel
theorem dX12_roundNow_10 : decode cX12_roundNow 10 = .ok (.aload_n 0, 1) := by decide +kernel
theorem dX12_roundNow_11 : decode cX12_roundNow 11 = .ok (.invokevirtual 214, 3) := by decide +kernel
theorem dX12_roundNow_14 : decode cX12_roundNow 14 = .ok (.ifCond .ne 5, 3) := by decide +kernel
theorem dX12_roundNow_17 : decode cX12_roundNow 17 = .ok (.iconst (-1), 1) := by decide +kernel
theorem dX12_roundNow_18 : decode cX12_roundNow 18 = .ok (.ireturn, 1) := by decide +kernel
theorem dX12_roundNow_19 : decode cX12_roundNow 19 = .ok (.iconst 0, 1) := by decide +kernel
theorem dX12_roundNow_20 : decode cX12_roundNow 20 = .ok (.istore_n 3, 1) := by decide +kernel
theorem dX12_roundNow_21 : decode cX12_roundNow 21 = .ok (.iconst 0, 1) := by decide +kernel
theorem dX12_roundNow_22 : decode cX12_roundNow 22 = .ok (.istore 4, 2) := by decide +kernel
theorem dX12_roundNow_24 : decode cX12_roundNow 24 = .ok (.aload_n 0, 1) := by decide +kernel
theorem dX12_roundNow_25 : decode cX12_roundNow 25 = .ok (.getfield 60, 3) := by decide +kernel
theorem dX12_roundNow_28 : decode cX12_roundNow 28 = .ok (.iconst 0, 1) := by decide +kernel
theorem dX12_roundNow_29 : decode cX12_roundNow 29 = .ok (.aload_n 0, 1) := by decide +kernel
theorem dX12_roundNow_30 : decode cX12_roundNow 30 = .ok (.getfield 25, 3) := by decide +kernel
theorem dX12_roundNow_33 : decode cX12_roundNow 33 = .ok (.iload_n 1, 1) := by decide +kernel
theorem dX12_roundNow_34 : decode cX12_roundNow 34 = .ok (.iaload, 1) := by decide +kernel
theorem dX12_roundNow_35 : decode cX12_roundNow 35 = .ok (.iastore, 1) := by decide +kernel
theorem dX12_roundNow_36 : decode cX12_roundNow 36 = .ok (.aload_n 0, 1) := by decide +kernel
theorem dX12_roundNow_37 : decode cX12_roundNow 37 = .ok (.getfield 63, 3) := by decide +kernel
theorem dX12_roundNow_40 : decode cX12_roundNow 40 = .ok (.iconst 0, 1) := by decide +kernel
theorem dX12_roundNow_41 : decode cX12_roundNow 41 = .ok (.iconst 0, 1) := by decide +kernel
theorem dX12_roundNow_42 : decode cX12_roundNow 42 = .ok (.iastore, 1) := by decide +kernel
theorem dX12_roundNow_43 : decode cX12_roundNow 43 = .ok (.iload_n 3, 1) := by decide +kernel
theorem dX12_roundNow_44 : decode cX12_roundNow 44 = .ok (.ifCond .lt 161, 3) := by decide +kernel
theorem dX12_roundNow_47 : decode cX12_roundNow 47 = .ok (.iload_n 3, 1) := by decide +kernel
theorem dX12_roundNow_48 : decode cX12_roundNow 48 = .ok (.aload_n 0, 1) := by decide +kernel
theorem dX12_roundNow_49 : decode cX12_roundNow 49 = .ok (.getfield 126, 3) := by decide +kernel
theorem dX12_roundNow_52 : decode cX12_roundNow 52 = .ok (.if_icmp .ne 25, 3) := by decide +kernel
theorem dX12_roundNow_55 : decode cX12_roundNow 55 = .ok (.aload_n 0, 1) := by decide +kernel
theorem dX12_roundNow_56 : decode cX12_roundNow 56 = .ok (.getfield 60, 3) := by decide +kernel
theorem dX12_roundNow_59 : decode cX12_roundNow 59 = .ok (.iload_n 3, 1) := by decide +kernel
theorem dX12_roundNow_60 : decode cX12_roundNow 60 = .ok (.iaload, 1) := by decide +kernel
theorem dX12_roundNow_61 : decode cX12_roundNow 61 = .ok (.invokestatic 158, 3) := by decide +kernel
theorem dX12_roundNow_64 : decode cX12_roundNow 64 = .ok (.iload_n 2, 1) := by decide +kernel
theorem dX12_roundNow_65 : decode cX12_roundNow 65 = .ok (.if_icmp .ne 12, 3) := by decide +kernel
theorem dX12_roundNow_68 : decode cX12_roundNow 68 = .ok (.aload_n 0, 1) := by decide +kernel
theorem dX12_roundNow_69 : decode cX12_roundNow 69 = .ok (.getfield 63, 3) := by decide +kernel
theorem dX12_roundNow_72 : decode cX12_roundNow 72 = .ok (.iconst 0, 1) := by decide +kernel
theorem dX12_roundNow_73 : decode cX12_roundNow 73 = .ok (.iaload, 1) := by decide +kernel
theorem dX12_roundNow_74 : decode cX12_roundNow 74 = .ok (.iconst 1, 1) := by decide +kernel
theorem dX12_roundNow_75 : decode cX12_roundNow 75 = .ok (.isub, 1) := by decide +kernel
theorem dX12_roundNow_76 : decode cX12_roundNow 76 = .ok (.ireturn, 1) := by decide +kernel
theorem dX12_roundNow_77 : decode cX12_roundNow 77 = .ok (.aload_n 0, 1) := by decide +kernel
theorem dX12_roundNow_78 : decode cX12_roundNow 78 = .ok (.getfield 63, 3) := by decide +kernel
theorem dX12_roundNow_81 : decode cX12_roundNow 81 = .ok (.iload_n 3, 1) := by decide +kernel
theorem dX12_roundNow_82 : decode cX12_roundNow 82 = .ok (.iaload, 1) := by decide +kernel
theorem dX12_roundNow_83 : decode cX12_roundNow 83 = .ok (.istore 5, 2) := by decide +kernel
theorem dX12_roundNow_85 : decode cX12_roundNow 85 = .ok (.iload 5, 2) := by decide +kernel
theorem dX12_roundNow_87 : decode cX12_roundNow 87 = .ok (.aload_n 0, 1) := by decide +kernel
theorem dX12_roundNow_88 : decode cX12_roundNow 88 = .ok (.getfield 126, 3) := by decide +kernel
theorem dX12_roundNow_91 : decode cX12_roundNow 91 = .ok (.if_icmp .lt 34, 3) := by decide +kernel
theorem dX12_roundNow_94 : decode cX12_roundNow 94 = .ok (.iinc 3 (-1), 3) := by decide +kernel
theorem dX12_roundNow_97 : decode cX12_roundNow 97 = .ok (.iload_n 3, 1) := by decide +kernel
theorem dX12_roundNow_98 : decode cX12_roundNow 98 = .ok (.ifCond .lt 21, 3) := by decide +kernel
theorem dX12_roundNow_101 : decode cX12_roundNow 101 = .ok (.iload 4, 2) := by decide +kernel
theorem dX12_roundNow_103 : decode cX12_roundNow 103 = .ok (.iconst 1, 1) := by decide +kernel
theorem dX12_roundNow_104 : decode cX12_roundNow 104 = .ok (.aload_n 0, 1) := by decide +kernel
theorem dX12_roundNow_105 : decode cX12_roundNow 105 = .ok (.getfield 63, 3) := by decide +kernel
theorem dX12_roundNow_108 : decode cX12_roundNow 108 = .ok (.iload_n 3, 1) := by decide +kernel
theorem dX12_roundNow_109 : decode cX12_roundNow 109 = .ok (.iaload, 1) := by decide +kernel
theorem dX12_roundNow_110 : decode cX12_roundNow 110 = .ok (.iconst 1, 1) := by decide +kernel
theorem dX12_roundNow_111 : decode cX12_roundNow 111 = .ok (.isub, 1) := by decide +kernel
theorem dX12_roundNow_112 : decode cX12_roundNow 112 = .ok (.ishl, 1) := by decide +kernel
theorem dX12_roundNow_113 : decode cX12_roundNow 113 = .ok (.iconst (-1), 1) := by decide +kernel
theorem dX12_roundNow_114 : decode cX12_roundNow 114 = .ok (.ixor, 1) := by decide +kernel
theorem dX12_roundNow_115 : decode cX12_roundNow 115 = .ok (.iand, 1) := by decide +kernel
theorem dX12_roundNow_116 : decode cX12_roundNow 116 = .ok (.goto 4, 3) := by decide +kernel
theorem dX12_roundNow_119 : decode cX12_roundNow 119 = .ok (.iconst 0, 1) := by decide +kernel
theorem dX12_roundNow_120 : decode cX12_roundNow 120 = .ok (.istore 4, 2) := by decide +kernel
theorem dX12_roundNow_122 : decode cX12_roundNow 122 = .ok (.goto 80, 3) := by decide +kernel
theorem dX12_roundNow_125 : decode cX12_roundNow 125 = .ok (.aload_n 0, 1) := by decide +kernel
theorem dX12_roundNow_126 : decode cX12_roundNow 126 = .ok (.getfield 63, 3) := by decide +kernel
theorem dX12_roundNow_129 : decode cX12_roundNow 129 = .ok (.iload_n 3, 1) := by decide +kernel
theorem dX12_roundNow_130 : decode cX12_roundNow 130 = .ok (.dup2, 1) := by decide +kernel
theorem dX12_roundNow_131 : decode cX12_roundNow 131 = .ok (.iaload, 1) := by decide +kernel
theorem dX12_roundNow_132 : decode cX12_roundNow 132 = .ok (.iconst 1, 1) := by decide +kernel
theorem dX12_roundNow_133 : decode cX12_roundNow 133 = .ok (.iadd, 1) := by decide +kernel
theorem dX12_roundNow_134 : decode cX12_roundNow 134 = .ok (.iastore, 1) := by decide +kernel
theorem dX12_roundNow_135 : decode cX12_roundNow 135 = .ok (.iload 4, 2) := by decide +kernel
theorem dX12_roundNow_137 : decode cX12_roundNow 137 = .ok (.iload 5, 2) := by decide +kernel
theorem dX12_roundNow_139 : decode cX12_roundNow 139 = .ok (.invokestatic 218, 3) := by decide +kernel
theorem dX12_roundNow_142 : decode cX12_roundNow 142 = .ok (.ifCond .eq 7, 3) := by decide +kernel
theorem dX12_roundNow_145 : decode cX12_roundNow 145 = .ok (.iconst (-1), 1) := by decide +kernel
theorem dX12_roundNow_146 : decode cX12_roundNow 146 = .ok (.goto 21, 3) := by decide +kernel
theorem dX12_roundNow_149 : decode cX12_roundNow 149 = .ok (.aload_n 0, 1) := by decide +kernel
theorem dX12_roundNow_150 : decode cX12_roundNow 150 = .ok (.aload_n 0, 1) := by decide +kernel
theorem dX12_roundNow_151 : decode cX12_roundNow 151 = .ok (.getfield 22, 3) := by decide +kernel
theorem dX12_roundNow_154 : decode cX12_roundNow 154 = .ok (.iload_n 1, 1) := by decide +kernel
theorem dX12_roundNow_155 : decode cX12_roundNow 155 = .ok (.iaload, 1) := by decide +kernel
theorem dX12_roundNow_156 : decode cX12_roundNow 156 = .ok (.aload_n 0, 1) := by decide +kernel
theorem dX12_roundNow_157 : decode cX12_roundNow 157 = .ok (.getfield 60, 3) := by decide +kernel
theorem dX12_roundNow_160 : decode cX12_roundNow 160 = .ok (.iload_n 3, 1) := by decide +kernel
theorem dX12_roundNow_161 : decode cX12_roundNow 161 = .ok (.iaload, 1) := by decide +kernel
theorem dX12_roundNow_162 : decode cX12_roundNow 162 = .ok (.iload 5, 2) := by decide +kernel
theorem dX12_roundNow_164 : decode cX12_roundNow 164 = .ok (.invokevirtual 180, 3) := by decide +kernel
theorem dX12_roundNow_167 : decode cX12_roundNow 167 = .ok (.istore 6, 2) := by decide +kernel
theorem dX12_roundNow_169 : decode cX12_roundNow 169 = .ok (.iload 6, 2) := by decide +kernel
theorem dX12_roundNow_171 : decode cX12_roundNow 171 = .ok (.iconst (-1), 1) := by decide +kernel
theorem dX12_roundNow_172 : decode cX12_roundNow 172 = .ok (.if_icmp .eq 30, 3) := by decide +kernel
theorem dX12_roundNow_175 : decode cX12_roundNow 175 = .ok (.iload 4, 2) := by decide +kernel
theorem dX12_roundNow_177 : decode cX12_roundNow 177 = .ok (.iconst 1, 1) := by decide +kernel
theorem dX12_roundNow_178 : decode cX12_roundNow 178 = .ok (.iload 5, 2) := by decide +kernel
theorem dX12_roundNow_180 : decode cX12_roundNow 180 = .ok (.ishl, 1) := by decide +kernel
theorem dX12_roundNow_181 : decode cX12_roundNow 181 = .ok (.ior, 1) := by decide +kernel
theorem dX12_roundNow_182 : decode cX12_roundNow 182 = .ok (.istore 4, 2) := by decide +kernel
theorem dX12_roundNow_184 : decode cX12_roundNow 184 = .ok (.iinc 3 1, 3) := by decide +kernel
theorem dX12_roundNow_187 : decode cX12_roundNow 187 = .ok (.aload_n 0, 1) := by decide +kernel
theorem dX12_roundNow_188 : decode cX12_roundNow 188 = .ok (.getfield 60, 3) := by decide +kernel
theorem dX12_roundNow_191 : decode cX12_roundNow 191 = .ok (.iload_n 3, 1) := by decide +kernel
theorem dX12_roundNow_192 : decode cX12_roundNow 192 = .ok (.iload 6, 2) := by decide +kernel
theorem dX12_roundNow_194 : decode cX12_roundNow 194 = .ok (.iastore, 1) := by decide +kernel
theorem dX12_roundNow_195 : decode cX12_roundNow 195 = .ok (.aload_n 0, 1) := by decide +kernel
theorem dX12_roundNow_196 : decode cX12_roundNow 196 = .ok (.getfield 63, 3) := by decide +kernel
theorem dX12_roundNow_199 : decode cX12_roundNow 199 = .ok (.iload_n 3, 1) := by decide +kernel
theorem dX12_roundNow_200 : decode cX12_roundNow 200 = .ok (.iconst 0, 1) := by decide +kernel
theorem dX12_roundNow_201 : decode cX12_roundNow 201 = .ok (.iastore, 1) := by decide +kernel
theorem dX12_roundNow_202 : decode cX12_roundNow 202 = .ok (.goto (-159), 3) := by decide +kernel
theorem dX12_roundNow_205 : decode cX12_roundNow 205 = .ok (.iconst (-1), 1) := by decide +kernel
theorem dX12_roundNow_206 : decode cX12_roundNow 206 = .ok (.ireturn, 1) := by decide +kernel
set_option maxRecDepth 20000 in
theorem ggX12_round_X12_isWalker : GoodIn wsX12_round wsX12_isWalker := goodIn_r _ [6, 7, 8, 9, 5, 10, 55, 56, 57, 58, 59, 60, 61, 62, 63, 64, 65, 66, 67, 68, 69, 70, 71, 72, 73, 74, 75, 76, 77, 78, 79, 80, 81, 82, 83, 84, 85, 86, 87, 88, 89, 90, 91, 92, 93, 94, 95, 96, 97, 98, 99, 100, 101, 102, 103, 104, 105] (by decide +kernel) (by decide +kernel)
set_option maxRecDepth 20000 in
theorem gX12_round_X12_isWalker : GoodIn wsX12_round (wsV RX12 167 RX12 yX12_isWalker wsX12_isWalker) := goodIn_app (goodIn_of _ (by decide +kernel)) ggX12_round_X12_isWalker
set_option maxRecDepth 20000 in
theorem ggX12_round_X12_within : GoodIn wsX12_round wsX12_within := goodIn_r _ [10] (by decide +kernel) (by decide +kernel)
set_option maxRecDepth 20000 in
theorem gX12_round_X12_within : GoodIn wsX12_round (va_wsS RX12 102 yX12_within wsX12_within) := goodIn_app (goodIn_of _ (by decide +kernel)) ggX12_round_X12_within
set_option maxRecDepth 20000 in
theorem ggX12_round_X12_roundNow : GoodIn wsX12_round wsX12_roundNow := goodIn_r _ [14, 15, 16, 17, 18, 19, 20, 21, 5, 22, 23, 24, 25, 26, 27, 28, 29, 30, 31, 32, 33, 34, 35, 36, 37, 38, 39, 40, 41, 42, 43, 44, 45, 46, 47, 48, 49, 50, 51, 52, 53, 54, 55, 56, 57, 58, 59, 60, 61, 62, 63, 64, 65, 66, 67, 68, 69, 70, 71, 72, 73, 74, 75, 76, 77, 78, 79, 80, 81, 82, 83, 84, 85, 86, 87, 88, 89, 90, 91, 92, 93, 94, 95, 96, 97, 98, 99, 100, 101, 102, 103, 104, 105] (by decide +kernel) (by decide +kernel)
set_option maxRecDepth 20000 in
theorem gX12_round_X12_roundNow : GoodIn wsX12_round (wsV RX12 224 RX12 yX12_roundNow wsX12_roundNow) := goodIn_app (goodIn_of _ (by decide +kernel)) ggX12_round_X12_roundNow
theorem dX12_round_0 : decode cX12_round 0 = .ok (.aload_n 0, 1) := by decide +kernel
theorem dX12_round_1 : decode cX12_round 1 = .ok (.iload_n 1, 1) := by decide +kernel
theorem dX12_round_2 : decode cX12_round 2 = .ok (.invokevirtual 167, 3) := by decide +kernel
theorem dX12_round_5 : decode cX12_round 5 = .ok (.ifCond .ne 6, 3) := by decide +kernel
theorem dX12_round_8 : decode cX12_round 8 = .ok (.bipush (-101), 2) := by decide +kernel
theorem dX12_round_10 : decode cX12_round 10 = .ok (.ireturn, 1) := by decide +kernel
theorem dX12_round_11 : decode cX12_round 11 = .ok (.iload_n 2, 1) := by decide +kernel
theorem dX12_round_12 : decode cX12_round 12 = .ok (.iconst 0, 1) := by decide +kernel
theorem dX12_round_13 : decode cX12_round 13 = .ok (.iconst 1, 1) := by decide +kernel
theorem dX12_round_14 : decode cX12_round 14 = .ok (.invokestatic 102, 3) := by decide +kernel
theorem dX12_round_17 : decode cX12_round 17 = .ok (.ifCond .ne 6, 3) := by decide +kernel
theorem dX12_round_20 : decode cX12_round 20 = .ok (.bipush (-102), 2) := by decide +kernel
theorem dX12_round_22 : decode cX12_round 22 = .ok (.ireturn, 1) := by decide +kernel
theorem dX12_round_23 : decode cX12_round 23 = .ok (.aload_n 0, 1) := by decide +kernel
theorem dX12_round_24 : decode cX12_round 24 = .ok (.getfield 221, 3) := by decide +kernel
theorem dX12_round_27 : decode cX12_round 27 = .ok (.bipush 40, 2) := by decide +kernel
theorem dX12_round_29 : decode cX12_round 29 = .ok (.if_icmp .ne 6, 3) := by decide +kernel
theorem dX12_round_32 : decode cX12_round 32 = .ok (.bipush (-103), 2) := by decide +kernel
theorem dX12_round_34 : decode cX12_round 34 = .ok (.ireturn, 1) := by decide +kernel
theorem dX12_round_35 : decode cX12_round 35 = .ok (.aload_n 0, 1) := by decide +kernel
theorem dX12_round_36 : decode cX12_round 36 = .ok (.dup, 1) := by decide +kernel
theorem dX12_round_37 : decode cX12_round 37 = .ok (.getfield 221, 3) := by decide +kernel
theorem dX12_round_40 : decode cX12_round 40 = .ok (.iconst 1, 1) := by decide +kernel
theorem dX12_round_41 : decode cX12_round 41 = .ok (.iadd, 1) := by decide +kernel
theorem dX12_round_42 : decode cX12_round 42 = .ok (.putfield 221, 3) := by decide +kernel
theorem dX12_round_45 : decode cX12_round 45 = .ok (.aload_n 0, 1) := by decide +kernel
theorem dX12_round_46 : decode cX12_round 46 = .ok (.iload_n 1, 1) := by decide +kernel
theorem dX12_round_47 : decode cX12_round 47 = .ok (.invokevirtual 224, 3) := by decide +kernel
theorem dX12_round_50 : decode cX12_round 50 = .ok (.istore_n 3, 1) := by decide +kernel
theorem dX12_round_51 : decode cX12_round 51 = .ok (.iload_n 2, 1) := by decide +kernel
theorem dX12_round_52 : decode cX12_round 52 = .ok (.iconst 1, 1) := by decide +kernel
theorem dX12_round_53 : decode cX12_round 53 = .ok (.if_icmp .ne 7, 3) := by decide +kernel
theorem dX12_round_56 : decode cX12_round 56 = .ok (.iload_n 3, 1) := by decide +kernel
theorem dX12_round_57 : decode cX12_round 57 = .ok (.goto 13, 3) := by decide +kernel
theorem dX12_round_60 : decode cX12_round 60 = .ok (.iload_n 3, 1) := by decide +kernel
theorem dX12_round_61 : decode cX12_round 61 = .ok (.iconst (-1), 1) := by decide +kernel
theorem dX12_round_62 : decode cX12_round 62 = .ok (.if_icmp .ne 7, 3) := by decide +kernel
theorem dX12_round_65 : decode cX12_round 65 = .ok (.iconst 0, 1) := by decide +kernel
theorem dX12_round_66 : decode cX12_round 66 = .ok (.goto 4, 3) := by decide +kernel
theorem dX12_round_69 : decode cX12_round 69 = .ok (.iconst 1, 1) := by decide +kernel
theorem dX12_round_70 : decode cX12_round 70 = .ok (.ireturn, 1) := by decide +kernel
set_option maxRecDepth 20000 in
theorem ggX12_layStones_X12_has : GoodIn wsX12_layStones wsX12_has := goodIn_r _ [6] (by decide +kernel) (by decide +kernel)
set_option maxRecDepth 20000 in
theorem gX12_layStones_X12_has : GoodIn wsX12_layStones (va_wsS RX12 218 yX12_has wsX12_has) := goodIn_app (goodIn_of _ (by decide +kernel)) ggX12_layStones_X12_has
theorem dX12_layStones_0 : decode cX12_layStones 0 = .ok (.iconst 0, 1) := by decide +kernel
theorem dX12_layStones_1 : decode cX12_layStones 1 = .ok (.istore_n 3, 1) := by decide +kernel
theorem dX12_layStones_2 : decode cX12_layStones 2 = .ok (.iload_n 3, 1) := by decide +kernel
theorem dX12_layStones_3 : decode cX12_layStones 3 = .ok (.aload_n 0, 1) := by decide +kernel
theorem dX12_layStones_4 : decode cX12_layStones 4 = .ok (.getfield 126, 3) := by decide +kernel
theorem dX12_layStones_7 : decode cX12_layStones 7 = .ok (.if_icmp .ge 31, 3) := by decide +kernel
theorem dX12_layStones_10 : decode cX12_layStones 10 = .ok (.aload_n 0, 1) := by decide +kernel
theorem dX12_layStones_11 : decode cX12_layStones 11 = .ok (.getfield 16, 3) := by decide +kernel
theorem dX12_layStones_14 : decode cX12_layStones 14 = .ok (.iload_n 3, 1) := by decide +kernel
theorem dX12_layStones_15 : decode cX12_layStones 15 = .ok (.dup2, 1) := by decide +kernel
theorem dX12_layStones_16 : decode cX12_layStones 16 = .ok (.iaload, 1) := by decide +kernel
theorem dX12_layStones_17 : decode cX12_layStones 17 = .ok (.iload_n 1, 1) := by decide +kernel
theorem dX12_layStones_18 : decode cX12_layStones 18 = .ok (.iload_n 3, 1) := by decide +kernel
theorem dX12_layStones_19 : decode cX12_layStones 19 = .ok (.invokestatic 218, 3) := by decide +kernel
theorem dX12_layStones_22 : decode cX12_layStones 22 = .ok (.ifCond .eq 7, 3) := by decide +kernel
theorem dX12_layStones_25 : decode cX12_layStones 25 = .ok (.iload_n 2, 1) := by decide +kernel
theorem dX12_layStones_26 : decode cX12_layStones 26 = .ok (.goto 4, 3) := by decide +kernel
theorem dX12_layStones_29 : decode cX12_layStones 29 = .ok (.iconst 0, 1) := by decide +kernel
theorem dX12_layStones_30 : decode cX12_layStones 30 = .ok (.iadd, 1) := by decide +kernel
theorem dX12_layStones_31 : decode cX12_layStones 31 = .ok (.iastore, 1) := by decide +kernel
theorem dX12_layStones_32 : decode cX12_layStones 32 = .ok (.iinc 3 1, 3) := by decide +kernel
theorem dX12_layStones_35 : decode cX12_layStones 35 = .ok (.goto (-33), 3) := by decide +kernel
theorem dX12_layStones_38 : decode cX12_layStones 38 = .ok (.return_, 1) := by decide +kernel
set_option maxRecDepth 20000 in
theorem ggX12_comesBy_X12_layStones : GoodIn wsX12_comesBy wsX12_layStones := goodIn_r _ [8, 9, 10, 11, 12, 7, 13, 61, 62, 63, 64, 65, 66, 67, 68, 69, 70, 71, 72, 73, 74, 75, 76, 77, 78, 79, 80, 81, 82, 83, 84, 85, 86, 87, 88, 89, 90, 91, 92, 93, 94, 95, 96, 97, 98, 99, 100, 101, 102, 103, 104, 105, 106, 107, 108, 109, 110, 111] (by decide +kernel) (by decide +kernel)
set_option maxRecDepth 20000 in
theorem gX12_comesBy_X12_layStones : GoodIn wsX12_comesBy (wsV RX12 227 RX12 yX12_layStones wsX12_layStones) := goodIn_app (goodIn_of _ (by decide +kernel)) ggX12_comesBy_X12_layStones
set_option maxRecDepth 20000 in
theorem ggX12_comesBy_X12_layCosts : GoodIn wsX12_comesBy wsX12_layCosts := goodIn_r _ [17, 18, 3, 19, 20, 21, 22, 9, 10, 23, 24, 25, 7, 26, 27, 28, 29, 30, 31, 32, 33, 34, 35, 36, 37, 38, 39, 40, 41, 42, 43, 44, 45, 46, 47, 48, 49, 50, 51, 52, 53, 54, 55, 56, 61, 62, 63, 64, 65, 66, 67, 68, 69, 70, 71, 72, 73, 74, 75, 76, 77, 78, 79, 80, 81, 82, 83, 84, 85, 86, 87, 88, 89, 90, 91, 92, 93, 94, 95, 96, 97, 98, 99, 100, 101, 102, 103, 104, 105, 106, 107, 108, 109, 110, 111] (by decide +kernel) (by decide +kernel)
set_option maxRecDepth 20000 in
theorem gX12_comesBy_X12_layCosts : GoodIn wsX12_comesBy (wsV RX12 198 RX12 yX12_layCosts wsX12_layCosts) := goodIn_app (goodIn_of _ (by decide +kernel)) ggX12_comesBy_X12_layCosts
set_option maxRecDepth 20000 in
theorem ggX12_comesBy_X12_costTo : GoodIn wsX12_comesBy wsX12_costTo := goodIn_r _ [60, 3, 18, 61, 62, 63, 64, 65, 66, 67, 68, 69, 70, 71, 72, 73, 74, 75, 76, 77, 78, 79, 80, 81, 82, 83, 84, 85, 86, 87, 88, 89, 90, 91, 92, 93, 94, 95, 96, 97, 98, 99, 100, 101, 102, 103, 104, 105, 106, 107, 108, 109, 110, 111] (by decide +kernel) (by decide +kernel)
set_option maxRecDepth 20000 in
theorem gX12_comesBy_X12_costTo : GoodIn wsX12_comesBy (wsV RX12 202 RX12 yX12_costTo wsX12_costTo) := goodIn_app (goodIn_of _ (by decide +kernel)) ggX12_comesBy_X12_costTo
theorem dX12_comesBy_0 : decode cX12_comesBy 0 = .ok (.aload_n 0, 1) := by decide +kernel
theorem dX12_comesBy_1 : decode cX12_comesBy 1 = .ok (.iload_n 3, 1) := by decide +kernel
theorem dX12_comesBy_2 : decode cX12_comesBy 2 = .ok (.iconst 1, 1) := by decide +kernel
theorem dX12_comesBy_3 : decode cX12_comesBy 3 = .ok (.invokevirtual 227, 3) := by decide +kernel
theorem dX12_comesBy_6 : decode cX12_comesBy 6 = .ok (.aload_n 0, 1) := by decide +kernel
theorem dX12_comesBy_7 : decode cX12_comesBy 7 = .ok (.aload_n 0, 1) := by decide +kernel
theorem dX12_comesBy_8 : decode cX12_comesBy 8 = .ok (.getfield 22, 3) := by decide +kernel
theorem dX12_comesBy_11 : decode cX12_comesBy 11 = .ok (.iload_n 1, 1) := by decide +kernel
theorem dX12_comesBy_12 : decode cX12_comesBy 12 = .ok (.iaload, 1) := by decide +kernel
theorem dX12_comesBy_13 : decode cX12_comesBy 13 = .ok (.aload_n 0, 1) := by decide +kernel
theorem dX12_comesBy_14 : decode cX12_comesBy 14 = .ok (.getfield 25, 3) := by decide +kernel
theorem dX12_comesBy_17 : decode cX12_comesBy 17 = .ok (.iload_n 1, 1) := by decide +kernel
theorem dX12_comesBy_18 : decode cX12_comesBy 18 = .ok (.iaload, 1) := by decide +kernel
theorem dX12_comesBy_19 : decode cX12_comesBy 19 = .ok (.iconst 0, 1) := by decide +kernel
theorem dX12_comesBy_20 : decode cX12_comesBy 20 = .ok (.invokevirtual 198, 3) := by decide +kernel
theorem dX12_comesBy_23 : decode cX12_comesBy 23 = .ok (.aload_n 0, 1) := by decide +kernel
theorem dX12_comesBy_24 : decode cX12_comesBy 24 = .ok (.iload_n 3, 1) := by decide +kernel
theorem dX12_comesBy_25 : decode cX12_comesBy 25 = .ok (.iconst (-1), 1) := by decide +kernel
theorem dX12_comesBy_26 : decode cX12_comesBy 26 = .ok (.invokevirtual 227, 3) := by decide +kernel
theorem dX12_comesBy_29 : decode cX12_comesBy 29 = .ok (.aload_n 0, 1) := by decide +kernel
theorem dX12_comesBy_30 : decode cX12_comesBy 30 = .ok (.iload_n 2, 1) := by decide +kernel
theorem dX12_comesBy_31 : decode cX12_comesBy 31 = .ok (.invokevirtual 202, 3) := by decide +kernel
theorem dX12_comesBy_34 : decode cX12_comesBy 34 = .ok (.ldc 193, 2) := by decide +kernel
theorem dX12_comesBy_36 : decode cX12_comesBy 36 = .ok (.if_icmp .ge 7, 3) := by decide +kernel
theorem dX12_comesBy_39 : decode cX12_comesBy 39 = .ok (.iconst 1, 1) := by decide +kernel
theorem dX12_comesBy_40 : decode cX12_comesBy 40 = .ok (.goto 4, 3) := by decide +kernel
theorem dX12_comesBy_43 : decode cX12_comesBy 43 = .ok (.iconst 0, 1) := by decide +kernel
theorem dX12_comesBy_44 : decode cX12_comesBy 44 = .ok (.ireturn, 1) := by decide +kernel
set_option maxRecDepth 20000 in
theorem ggX12_stonesOf_X12_size : GoodIn wsX12_stonesOf wsX12_size := goodIn_r _ [5] (by decide +kernel) (by decide +kernel)
set_option maxRecDepth 20000 in
theorem gX12_stonesOf_X12_size : GoodIn wsX12_stonesOf (va_wsS RX12 230 yX12_size wsX12_size) := goodIn_app (goodIn_of _ (by decide +kernel)) ggX12_stonesOf_X12_size
set_option maxRecDepth 20000 in
theorem ggX12_stonesOf_X12_comesBy : GoodIn wsX12_stonesOf wsX12_comesBy := goodIn_r _ [9, 10, 11, 12, 13, 14, 15, 4, 16, 1, 17, 18, 19, 20, 21, 22, 23, 24, 25, 26, 27, 28, 29, 30, 31, 32, 33, 34, 35, 36, 37, 38, 39, 40, 41, 42, 43, 44, 45, 46, 47, 48, 49, 50, 51, 52, 53, 54, 55, 56, 57, 58, 59, 60, 61, 62, 63, 64, 65, 66, 67, 68, 69, 70, 71, 72, 73, 74, 75, 76, 77, 78, 79, 80, 81, 82, 83, 84, 85, 86, 87, 88, 89, 90, 91, 92, 93, 94, 95, 96, 97, 98, 99, 100, 101, 102, 103, 104, 105, 106, 107, 108, 109, 110, 111, 112, 113, 114, 115, 116, 117, 118] (by decide +kernel) (by decide +kernel)
set_option maxRecDepth 20000 in
theorem gX12_stonesOf_X12_comesBy : GoodIn wsX12_stonesOf (wsV RX12 233 RX12 yX12_comesBy wsX12_comesBy) := goodIn_app (goodIn_of _ (by decide +kernel)) ggX12_stonesOf_X12_comesBy
theorem dX12_stonesOf_0 : decode cX12_stonesOf 0 = .ok (.iconst 0, 1) := by decide +kernel
theorem dX12_stonesOf_1 : decode cX12_stonesOf 1 = .ok (.istore_n 3, 1) := by decide +kernel
theorem dX12_stonesOf_2 : decode cX12_stonesOf 2 = .ok (.iload_n 3, 1) := by decide +kernel
theorem dX12_stonesOf_3 : decode cX12_stonesOf 3 = .ok (.aload_n 0, 1) := by decide +kernel
theorem dX12_stonesOf_4 : decode cX12_stonesOf 4 = .ok (.getfield 126, 3) := by decide +kernel
theorem dX12_stonesOf_7 : decode cX12_stonesOf 7 = .ok (.if_icmp .gt 52, 3) := by decide +kernel
theorem dX12_stonesOf_10 : decode cX12_stonesOf 10 = .ok (.iconst 0, 1) := by decide +kernel
theorem dX12_stonesOf_11 : decode cX12_stonesOf 11 = .ok (.istore 4, 2) := by decide +kernel
theorem dX12_stonesOf_13 : decode cX12_stonesOf 13 = .ok (.iload 4, 2) := by decide +kernel
theorem dX12_stonesOf_15 : decode cX12_stonesOf 15 = .ok (.iconst 1, 1) := by decide +kernel
theorem dX12_stonesOf_16 : decode cX12_stonesOf 16 = .ok (.aload_n 0, 1) := by decide +kernel
theorem dX12_stonesOf_17 : decode cX12_stonesOf 17 = .ok (.getfield 126, 3) := by decide +kernel
theorem dX12_stonesOf_20 : decode cX12_stonesOf 20 = .ok (.ishl, 1) := by decide +kernel
theorem dX12_stonesOf_21 : decode cX12_stonesOf 21 = .ok (.if_icmp .ge 32, 3) := by decide +kernel
theorem dX12_stonesOf_24 : decode cX12_stonesOf 24 = .ok (.iload 4, 2) := by decide +kernel
theorem dX12_stonesOf_26 : decode cX12_stonesOf 26 = .ok (.invokestatic 230, 3) := by decide +kernel
theorem dX12_stonesOf_29 : decode cX12_stonesOf 29 = .ok (.iload_n 3, 1) := by decide +kernel
theorem dX12_stonesOf_30 : decode cX12_stonesOf 30 = .ok (.if_icmp .ne 17, 3) := by decide +kernel
theorem dX12_stonesOf_33 : decode cX12_stonesOf 33 = .ok (.aload_n 0, 1) := by decide +kernel
theorem dX12_stonesOf_34 : decode cX12_stonesOf 34 = .ok (.iload_n 1, 1) := by decide +kernel
theorem dX12_stonesOf_35 : decode cX12_stonesOf 35 = .ok (.iload_n 2, 1) := by decide +kernel
theorem dX12_stonesOf_36 : decode cX12_stonesOf 36 = .ok (.iload 4, 2) := by decide +kernel
theorem dX12_stonesOf_38 : decode cX12_stonesOf 38 = .ok (.invokevirtual 233, 3) := by decide +kernel
theorem dX12_stonesOf_41 : decode cX12_stonesOf 41 = .ok (.ifCond .eq 6, 3) := by decide +kernel
theorem dX12_stonesOf_44 : decode cX12_stonesOf 44 = .ok (.iload 4, 2) := by decide +kernel
theorem dX12_stonesOf_46 : decode cX12_stonesOf 46 = .ok (.ireturn, 1) := by decide +kernel
theorem dX12_stonesOf_47 : decode cX12_stonesOf 47 = .ok (.iinc 4 1, 3) := by decide +kernel
theorem dX12_stonesOf_50 : decode cX12_stonesOf 50 = .ok (.goto (-37), 3) := by decide +kernel
theorem dX12_stonesOf_53 : decode cX12_stonesOf 53 = .ok (.iinc 3 1, 3) := by decide +kernel
theorem dX12_stonesOf_56 : decode cX12_stonesOf 56 = .ok (.goto (-54), 3) := by decide +kernel
theorem dX12_stonesOf_59 : decode cX12_stonesOf 59 = .ok (.iconst (-1), 1) := by decide +kernel
theorem dX12_stonesOf_60 : decode cX12_stonesOf 60 = .ok (.ireturn, 1) := by decide +kernel
set_option maxRecDepth 20000 in
theorem ggX12_stones_X12_isWalker : GoodIn wsX12_stones wsX12_isWalker := goodIn_r _ [6, 7, 8, 9, 5, 10, 84, 85, 86, 87, 88, 89, 90, 91, 92, 93, 94, 95, 96, 97, 98, 99, 100, 101, 102, 103, 104, 105, 106, 107, 108, 109, 110, 111, 112, 113, 114, 115, 116, 117, 118, 119, 120, 121, 122, 123, 124, 125, 126, 127, 128, 129, 130, 131, 132, 133, 134] (by decide +kernel) (by decide +kernel)
set_option maxRecDepth 20000 in
theorem gX12_stones_X12_isWalker : GoodIn wsX12_stones (wsV RX12 167 RX12 yX12_isWalker wsX12_isWalker) := goodIn_app (goodIn_of _ (by decide +kernel)) ggX12_stones_X12_isWalker
set_option maxRecDepth 20000 in
theorem ggX12_stones_X12_isPlace : GoodIn wsX12_stones wsX12_isPlace := goodIn_r _ [13, 8, 9, 5, 10] (by decide +kernel) (by decide +kernel)
set_option maxRecDepth 20000 in
theorem gX12_stones_X12_isPlace : GoodIn wsX12_stones (va_wsS RX12 151 yX12_isPlace wsX12_isPlace) := goodIn_app (goodIn_of _ (by decide +kernel)) ggX12_stones_X12_isPlace
set_option maxRecDepth 20000 in
theorem ggX12_stones_X12_within : GoodIn wsX12_stones wsX12_within := goodIn_r _ [10] (by decide +kernel) (by decide +kernel)
set_option maxRecDepth 20000 in
theorem gX12_stones_X12_within : GoodIn wsX12_stones (va_wsS RX12 102 yX12_within wsX12_within) := goodIn_app (goodIn_of _ (by decide +kernel)) ggX12_stones_X12_within
set_option maxRecDepth 20000 in
theorem ggX12_stones_X12_stonesOf : GoodIn wsX12_stones wsX12_stonesOf := goodIn_r _ [17, 18, 19, 20, 5, 21, 22, 23, 24, 25, 26, 27, 28, 29, 30, 31, 32, 33, 34, 35, 36, 37, 38, 39, 40, 41, 42, 43, 44, 45, 46, 47, 48, 49, 50, 51, 52, 53, 54, 55, 56, 57, 58, 59, 60, 61, 62, 63, 64, 65, 66, 67, 68, 69, 70, 71, 72, 73, 74, 75, 76, 77, 78, 79, 80, 81, 82, 83, 84, 85, 86, 87, 88, 89, 90, 91, 92, 93, 94, 95, 96, 97, 98, 99, 100, 101, 102, 103, 104, 105, 106, 107, 108, 109, 110, 111, 112, 113, 114, 115, 116, 117, 118, 119, 120, 121, 122, 123, 124, 125, 126, 127, 128, 129, 130, 131, 132, 133, 134] (by decide +kernel) (by decide +kernel)
set_option maxRecDepth 20000 in
theorem gX12_stones_X12_stonesOf : GoodIn wsX12_stones (wsV RX12 236 RX12 yX12_stonesOf wsX12_stonesOf) := goodIn_app (goodIn_of _ (by decide +kernel)) ggX12_stones_X12_stonesOf
set_option maxRecDepth 20000 in
theorem ggX12_stones_X12_size : GoodIn wsX12_stones wsX12_size := goodIn_r _ [21] (by decide +kernel) (by decide +kernel)
set_option maxRecDepth 20000 in
theorem gX12_stones_X12_size : GoodIn wsX12_stones (va_wsS RX12 230 yX12_size wsX12_size) := goodIn_app (goodIn_of _ (by decide +kernel)) ggX12_stones_X12_size
theorem dX12_stones_0 : decode cX12_stones 0 = .ok (.aload_n 0, 1) := by decide +kernel
theorem dX12_stones_1 : decode cX12_stones 1 = .ok (.iload_n 1, 1) := by decide +kernel
theorem dX12_stones_2 : decode cX12_stones 2 = .ok (.invokevirtual 167, 3) := by decide +kernel
theorem dX12_stones_5 : decode cX12_stones 5 = .ok (.ifCond .eq 10, 3) := by decide +kernel
theorem dX12_stones_8 : decode cX12_stones 8 = .ok (.iload_n 2, 1) := by decide +kernel
theorem dX12_stones_9 : decode cX12_stones 9 = .ok (.invokestatic 151, 3) := by decide +kernel
theorem dX12_stones_12 : decode cX12_stones 12 = .ok (.ifCond .ne 6, 3) := by decide +kernel
theorem dX12_stones_15 : decode cX12_stones 15 = .ok (.bipush (-101), 2) := by decide +kernel
theorem dX12_stones_17 : decode cX12_stones 17 = .ok (.ireturn, 1) := by decide +kernel
theorem dX12_stones_18 : decode cX12_stones 18 = .ok (.iload_n 3, 1) := by decide +kernel
theorem dX12_stones_19 : decode cX12_stones 19 = .ok (.iconst 0, 1) := by decide +kernel
theorem dX12_stones_20 : decode cX12_stones 20 = .ok (.iconst 1, 1) := by decide +kernel
theorem dX12_stones_21 : decode cX12_stones 21 = .ok (.invokestatic 102, 3) := by decide +kernel
theorem dX12_stones_24 : decode cX12_stones 24 = .ok (.ifCond .ne 6, 3) := by decide +kernel
theorem dX12_stones_27 : decode cX12_stones 27 = .ok (.bipush (-102), 2) := by decide +kernel
theorem dX12_stones_29 : decode cX12_stones 29 = .ok (.ireturn, 1) := by decide +kernel
theorem dX12_stones_30 : decode cX12_stones 30 = .ok (.aload_n 0, 1) := by decide +kernel
theorem dX12_stones_31 : decode cX12_stones 31 = .ok (.getfield 221, 3) := by decide +kernel
theorem dX12_stones_34 : decode cX12_stones 34 = .ok (.bipush 40, 2) := by decide +kernel
theorem dX12_stones_36 : decode cX12_stones 36 = .ok (.if_icmp .ne 6, 3) := by decide +kernel
theorem dX12_stones_39 : decode cX12_stones 39 = .ok (.bipush (-103), 2) := by decide +kernel
theorem dX12_stones_41 : decode cX12_stones 41 = .ok (.ireturn, 1) := by decide +kernel
theorem dX12_stones_42 : decode cX12_stones 42 = .ok (.aload_n 0, 1) := by decide +kernel
theorem dX12_stones_43 : decode cX12_stones 43 = .ok (.dup, 1) := by decide +kernel
theorem dX12_stones_44 : decode cX12_stones 44 = .ok (.getfield 221, 3) := by decide +kernel
theorem dX12_stones_47 : decode cX12_stones 47 = .ok (.iconst 1, 1) := by decide +kernel
theorem dX12_stones_48 : decode cX12_stones 48 = .ok (.iadd, 1) := by decide +kernel
theorem dX12_stones_49 : decode cX12_stones 49 = .ok (.putfield 221, 3) := by decide +kernel
theorem dX12_stones_52 : decode cX12_stones 52 = .ok (.aload_n 0, 1) := by decide +kernel
theorem dX12_stones_53 : decode cX12_stones 53 = .ok (.iload_n 1, 1) := by decide +kernel
theorem dX12_stones_54 : decode cX12_stones 54 = .ok (.iload_n 2, 1) := by decide +kernel
theorem dX12_stones_55 : decode cX12_stones 55 = .ok (.invokevirtual 236, 3) := by decide +kernel
theorem dX12_stones_58 : decode cX12_stones 58 = .ok (.istore 4, 2) := by decide +kernel
theorem dX12_stones_60 : decode cX12_stones 60 = .ok (.iload 4, 2) := by decide +kernel
theorem dX12_stones_62 : decode cX12_stones 62 = .ok (.iconst (-1), 1) := by decide +kernel
theorem dX12_stones_63 : decode cX12_stones 63 = .ok (.if_icmp .eq 8, 3) := by decide +kernel
theorem dX12_stones_66 : decode cX12_stones 66 = .ok (.iload_n 3, 1) := by decide +kernel
theorem dX12_stones_67 : decode cX12_stones 67 = .ok (.iconst 1, 1) := by decide +kernel
theorem dX12_stones_68 : decode cX12_stones 68 = .ok (.if_icmp .ne 8, 3) := by decide +kernel
theorem dX12_stones_71 : decode cX12_stones 71 = .ok (.iload 4, 2) := by decide +kernel
theorem dX12_stones_73 : decode cX12_stones 73 = .ok (.goto 8, 3) := by decide +kernel
theorem dX12_stones_76 : decode cX12_stones 76 = .ok (.iload 4, 2) := by decide +kernel
theorem dX12_stones_78 : decode cX12_stones 78 = .ok (.invokestatic 230, 3) := by decide +kernel
theorem dX12_stones_81 : decode cX12_stones 81 = .ok (.ireturn, 1) := by decide +kernel
set_option maxRecDepth 20000 in
theorem ggX12_evenBy_X12_stepsBy : GoodIn wsX12_evenBy wsX12_stepsBy := goodIn_r _ [8] (by decide +kernel) (by decide +kernel)
set_option maxRecDepth 20000 in
theorem gX12_evenBy_X12_stepsBy : GoodIn wsX12_evenBy (va_wsS RX12 173 yX12_stepsBy wsX12_stepsBy) := goodIn_app (goodIn_of _ (by decide +kernel)) ggX12_evenBy_X12_stepsBy
theorem dX12_evenBy_0 : decode cX12_evenBy 0 = .ok (.iconst 0, 1) := by decide +kernel
theorem dX12_evenBy_1 : decode cX12_evenBy 1 = .ok (.istore_n 3, 1) := by decide +kernel
theorem dX12_evenBy_2 : decode cX12_evenBy 2 = .ok (.iconst 0, 1) := by decide +kernel
theorem dX12_evenBy_3 : decode cX12_evenBy 3 = .ok (.istore 4, 2) := by decide +kernel
theorem dX12_evenBy_5 : decode cX12_evenBy 5 = .ok (.iload 4, 2) := by decide +kernel
theorem dX12_evenBy_7 : decode cX12_evenBy 7 = .ok (.aload_n 0, 1) := by decide +kernel
theorem dX12_evenBy_8 : decode cX12_evenBy 8 = .ok (.getfield 126, 3) := by decide +kernel
theorem dX12_evenBy_11 : decode cX12_evenBy 11 = .ok (.if_icmp .ge 112, 3) := by decide +kernel
theorem dX12_evenBy_14 : decode cX12_evenBy 14 = .ok (.iload_n 2, 1) := by decide +kernel
theorem dX12_evenBy_15 : decode cX12_evenBy 15 = .ok (.aload_n 0, 1) := by decide +kernel
theorem dX12_evenBy_16 : decode cX12_evenBy 16 = .ok (.getfield 7, 3) := by decide +kernel
theorem dX12_evenBy_19 : decode cX12_evenBy 19 = .ok (.iload 4, 2) := by decide +kernel
theorem dX12_evenBy_21 : decode cX12_evenBy 21 = .ok (.iaload, 1) := by decide +kernel
theorem dX12_evenBy_22 : decode cX12_evenBy 22 = .ok (.ishr, 1) := by decide +kernel
theorem dX12_evenBy_23 : decode cX12_evenBy 23 = .ok (.iload_n 2, 1) := by decide +kernel
theorem dX12_evenBy_24 : decode cX12_evenBy 24 = .ok (.aload_n 0, 1) := by decide +kernel
theorem dX12_evenBy_25 : decode cX12_evenBy 25 = .ok (.getfield 13, 3) := by decide +kernel
theorem dX12_evenBy_28 : decode cX12_evenBy 28 = .ok (.iload 4, 2) := by decide +kernel
theorem dX12_evenBy_30 : decode cX12_evenBy 30 = .ok (.iaload, 1) := by decide +kernel
theorem dX12_evenBy_31 : decode cX12_evenBy 31 = .ok (.ishr, 1) := by decide +kernel
theorem dX12_evenBy_32 : decode cX12_evenBy 32 = .ok (.ixor, 1) := by decide +kernel
theorem dX12_evenBy_33 : decode cX12_evenBy 33 = .ok (.iconst 1, 1) := by decide +kernel
theorem dX12_evenBy_34 : decode cX12_evenBy 34 = .ok (.iand, 1) := by decide +kernel
theorem dX12_evenBy_35 : decode cX12_evenBy 35 = .ok (.istore 5, 2) := by decide +kernel
theorem dX12_evenBy_37 : decode cX12_evenBy 37 = .ok (.iload_n 1, 1) := by decide +kernel
theorem dX12_evenBy_38 : decode cX12_evenBy 38 = .ok (.aload_n 0, 1) := by decide +kernel
theorem dX12_evenBy_39 : decode cX12_evenBy 39 = .ok (.getfield 16, 3) := by decide +kernel
theorem dX12_evenBy_42 : decode cX12_evenBy 42 = .ok (.iload 4, 2) := by decide +kernel
theorem dX12_evenBy_44 : decode cX12_evenBy 44 = .ok (.iaload, 1) := by decide +kernel
theorem dX12_evenBy_45 : decode cX12_evenBy 45 = .ok (.invokestatic 173, 3) := by decide +kernel
theorem dX12_evenBy_48 : decode cX12_evenBy 48 = .ok (.iconst 2, 1) := by decide +kernel
theorem dX12_evenBy_49 : decode cX12_evenBy 49 = .ok (.irem, 1) := by decide +kernel
theorem dX12_evenBy_50 : decode cX12_evenBy 50 = .ok (.iload 5, 2) := by decide +kernel
theorem dX12_evenBy_52 : decode cX12_evenBy 52 = .ok (.if_icmp .ne 7, 3) := by decide +kernel
theorem dX12_evenBy_55 : decode cX12_evenBy 55 = .ok (.iconst 1, 1) := by decide +kernel
theorem dX12_evenBy_56 : decode cX12_evenBy 56 = .ok (.goto 4, 3) := by decide +kernel
theorem dX12_evenBy_59 : decode cX12_evenBy 59 = .ok (.iconst 0, 1) := by decide +kernel
theorem dX12_evenBy_60 : decode cX12_evenBy 60 = .ok (.istore 6, 2) := by decide +kernel
theorem dX12_evenBy_62 : decode cX12_evenBy 62 = .ok (.iload_n 1, 1) := by decide +kernel
theorem dX12_evenBy_63 : decode cX12_evenBy 63 = .ok (.aload_n 0, 1) := by decide +kernel
theorem dX12_evenBy_64 : decode cX12_evenBy 64 = .ok (.getfield 16, 3) := by decide +kernel
theorem dX12_evenBy_67 : decode cX12_evenBy 67 = .ok (.iload 4, 2) := by decide +kernel
theorem dX12_evenBy_69 : decode cX12_evenBy 69 = .ok (.iaload, 1) := by decide +kernel
theorem dX12_evenBy_70 : decode cX12_evenBy 70 = .ok (.iconst 1, 1) := by decide +kernel
theorem dX12_evenBy_71 : decode cX12_evenBy 71 = .ok (.iadd, 1) := by decide +kernel
theorem dX12_evenBy_72 : decode cX12_evenBy 72 = .ok (.invokestatic 173, 3) := by decide +kernel
theorem dX12_evenBy_75 : decode cX12_evenBy 75 = .ok (.iconst 2, 1) := by decide +kernel
theorem dX12_evenBy_76 : decode cX12_evenBy 76 = .ok (.irem, 1) := by decide +kernel
theorem dX12_evenBy_77 : decode cX12_evenBy 77 = .ok (.iload 5, 2) := by decide +kernel
theorem dX12_evenBy_79 : decode cX12_evenBy 79 = .ok (.if_icmp .ne 7, 3) := by decide +kernel
theorem dX12_evenBy_82 : decode cX12_evenBy 82 = .ok (.iconst 1, 1) := by decide +kernel
theorem dX12_evenBy_83 : decode cX12_evenBy 83 = .ok (.goto 4, 3) := by decide +kernel
theorem dX12_evenBy_86 : decode cX12_evenBy 86 = .ok (.iconst 0, 1) := by decide +kernel
theorem dX12_evenBy_87 : decode cX12_evenBy 87 = .ok (.istore 7, 2) := by decide +kernel
theorem dX12_evenBy_89 : decode cX12_evenBy 89 = .ok (.iload 6, 2) := by decide +kernel
theorem dX12_evenBy_91 : decode cX12_evenBy 91 = .ok (.ifCond .ne 10, 3) := by decide +kernel
theorem dX12_evenBy_94 : decode cX12_evenBy 94 = .ok (.iload 7, 2) := by decide +kernel
theorem dX12_evenBy_96 : decode cX12_evenBy 96 = .ok (.ifCond .ne 5, 3) := by decide +kernel
theorem dX12_evenBy_99 : decode cX12_evenBy 99 = .ok (.iconst (-1), 1) := by decide +kernel
theorem dX12_evenBy_100 : decode cX12_evenBy 100 = .ok (.ireturn, 1) := by decide +kernel
theorem dX12_evenBy_101 : decode cX12_evenBy 101 = .ok (.iload_n 3, 1) := by decide +kernel
theorem dX12_evenBy_102 : decode cX12_evenBy 102 = .ok (.iload 6, 2) := by decide +kernel
theorem dX12_evenBy_104 : decode cX12_evenBy 104 = .ok (.ifCond .eq 7, 3) := by decide +kernel
theorem dX12_evenBy_107 : decode cX12_evenBy 107 = .ok (.iconst 0, 1) := by decide +kernel
theorem dX12_evenBy_108 : decode cX12_evenBy 108 = .ok (.goto 7, 3) := by decide +kernel
theorem dX12_evenBy_111 : decode cX12_evenBy 111 = .ok (.iconst 1, 1) := by decide +kernel
theorem dX12_evenBy_112 : decode cX12_evenBy 112 = .ok (.iload 4, 2) := by decide +kernel
theorem dX12_evenBy_114 : decode cX12_evenBy 114 = .ok (.ishl, 1) := by decide +kernel
theorem dX12_evenBy_115 : decode cX12_evenBy 115 = .ok (.ior, 1) := by decide +kernel
theorem dX12_evenBy_116 : decode cX12_evenBy 116 = .ok (.istore_n 3, 1) := by decide +kernel
theorem dX12_evenBy_117 : decode cX12_evenBy 117 = .ok (.iinc 4 1, 3) := by decide +kernel
theorem dX12_evenBy_120 : decode cX12_evenBy 120 = .ok (.goto (-115), 3) := by decide +kernel
theorem dX12_evenBy_123 : decode cX12_evenBy 123 = .ok (.iload_n 3, 1) := by decide +kernel
theorem dX12_evenBy_124 : decode cX12_evenBy 124 = .ok (.ireturn, 1) := by decide +kernel
set_option maxRecDepth 20000 in
theorem ggX12_evenNow_X12_evenBy : GoodIn wsX12_evenNow wsX12_evenBy := goodIn_r _ [5, 6, 7, 8, 9, 10, 11, 4, 12, 16, 17, 18, 19, 20, 21, 22, 23, 24, 25, 26, 27, 28, 29, 30, 31, 32, 33, 34, 35, 36, 37, 38, 39, 40, 41, 42, 43, 44, 45, 46, 47, 48, 49, 50, 51, 52, 53, 54, 55, 56, 57, 58, 59, 60, 61, 62, 63, 64, 65, 66] (by decide +kernel) (by decide +kernel)
set_option maxRecDepth 20000 in
theorem gX12_evenNow_X12_evenBy : GoodIn wsX12_evenNow (wsV RX12 239 RX12 yX12_evenBy wsX12_evenBy) := goodIn_app (goodIn_of _ (by decide +kernel)) ggX12_evenNow_X12_evenBy
set_option maxRecDepth 20000 in
theorem ggX12_evenNow_X12_size : GoodIn wsX12_evenNow wsX12_size := goodIn_r _ [15] (by decide +kernel) (by decide +kernel)
set_option maxRecDepth 20000 in
theorem gX12_evenNow_X12_size : GoodIn wsX12_evenNow (va_wsS RX12 230 yX12_size wsX12_size) := goodIn_app (goodIn_of _ (by decide +kernel)) ggX12_evenNow_X12_size
theorem dX12_evenNow_0 : decode cX12_evenNow 0 = .ok (.iconst (-1), 1) := by decide +kernel
theorem dX12_evenNow_1 : decode cX12_evenNow 1 = .ok (.istore_n 3, 1) := by decide +kernel
theorem dX12_evenNow_2 : decode cX12_evenNow 2 = .ok (.iconst 0, 1) := by decide +kernel
theorem dX12_evenNow_3 : decode cX12_evenNow 3 = .ok (.istore 4, 2) := by decide +kernel
theorem dX12_evenNow_5 : decode cX12_evenNow 5 = .ok (.iload 4, 2) := by decide +kernel
theorem dX12_evenNow_7 : decode cX12_evenNow 7 = .ok (.sipush 128, 3) := by decide +kernel
theorem dX12_evenNow_10 : decode cX12_evenNow 10 = .ok (.if_icmp .ge 68, 3) := by decide +kernel
theorem dX12_evenNow_13 : decode cX12_evenNow 13 = .ok (.aload_n 0, 1) := by decide +kernel
theorem dX12_evenNow_14 : decode cX12_evenNow 14 = .ok (.iload_n 1, 1) := by decide +kernel
theorem dX12_evenNow_15 : decode cX12_evenNow 15 = .ok (.iload 4, 2) := by decide +kernel
theorem dX12_evenNow_17 : decode cX12_evenNow 17 = .ok (.invokevirtual 239, 3) := by decide +kernel
theorem dX12_evenNow_20 : decode cX12_evenNow 20 = .ok (.istore 5, 2) := by decide +kernel
theorem dX12_evenNow_22 : decode cX12_evenNow 22 = .ok (.iload 5, 2) := by decide +kernel
theorem dX12_evenNow_24 : decode cX12_evenNow 24 = .ok (.iconst (-1), 1) := by decide +kernel
theorem dX12_evenNow_25 : decode cX12_evenNow 25 = .ok (.if_icmp .eq 47, 3) := by decide +kernel
theorem dX12_evenNow_28 : decode cX12_evenNow 28 = .ok (.iload_n 3, 1) := by decide +kernel
theorem dX12_evenNow_29 : decode cX12_evenNow 29 = .ok (.iconst (-1), 1) := by decide +kernel
theorem dX12_evenNow_30 : decode cX12_evenNow 30 = .ok (.if_icmp .ne 7, 3) := by decide +kernel
theorem dX12_evenNow_33 : decode cX12_evenNow 33 = .ok (.iconst 1, 1) := by decide +kernel
theorem dX12_evenNow_34 : decode cX12_evenNow 34 = .ok (.goto 13, 3) := by decide +kernel
theorem dX12_evenNow_37 : decode cX12_evenNow 37 = .ok (.iload_n 3, 1) := by decide +kernel
theorem dX12_evenNow_38 : decode cX12_evenNow 38 = .ok (.invokestatic 230, 3) := by decide +kernel
theorem dX12_evenNow_41 : decode cX12_evenNow 41 = .ok (.iload 5, 2) := by decide +kernel
theorem dX12_evenNow_43 : decode cX12_evenNow 43 = .ok (.invokestatic 230, 3) := by decide +kernel
theorem dX12_evenNow_46 : decode cX12_evenNow 46 = .ok (.isub, 1) := by decide +kernel
theorem dX12_evenNow_47 : decode cX12_evenNow 47 = .ok (.istore 6, 2) := by decide +kernel
theorem dX12_evenNow_49 : decode cX12_evenNow 49 = .ok (.iload 6, 2) := by decide +kernel
theorem dX12_evenNow_51 : decode cX12_evenNow 51 = .ok (.ifCond .gt 14, 3) := by decide +kernel
theorem dX12_evenNow_54 : decode cX12_evenNow 54 = .ok (.iload 6, 2) := by decide +kernel
theorem dX12_evenNow_56 : decode cX12_evenNow 56 = .ok (.ifCond .ne 14, 3) := by decide +kernel
theorem dX12_evenNow_59 : decode cX12_evenNow 59 = .ok (.iload 5, 2) := by decide +kernel
theorem dX12_evenNow_61 : decode cX12_evenNow 61 = .ok (.iload_n 3, 1) := by decide +kernel
theorem dX12_evenNow_62 : decode cX12_evenNow 62 = .ok (.if_icmp .ge 8, 3) := by decide +kernel
theorem dX12_evenNow_65 : decode cX12_evenNow 65 = .ok (.iload 5, 2) := by decide +kernel
theorem dX12_evenNow_67 : decode cX12_evenNow 67 = .ok (.goto 4, 3) := by decide +kernel
theorem dX12_evenNow_70 : decode cX12_evenNow 70 = .ok (.iload_n 3, 1) := by decide +kernel
theorem dX12_evenNow_71 : decode cX12_evenNow 71 = .ok (.istore_n 3, 1) := by decide +kernel
theorem dX12_evenNow_72 : decode cX12_evenNow 72 = .ok (.iinc 4 1, 3) := by decide +kernel
theorem dX12_evenNow_75 : decode cX12_evenNow 75 = .ok (.goto (-70), 3) := by decide +kernel
theorem dX12_evenNow_78 : decode cX12_evenNow 78 = .ok (.iload_n 3, 1) := by decide +kernel
theorem dX12_evenNow_79 : decode cX12_evenNow 79 = .ok (.iconst (-1), 1) := by decide +kernel
theorem dX12_evenNow_80 : decode cX12_evenNow 80 = .ok (.if_icmp .eq 8, 3) := by decide +kernel
theorem dX12_evenNow_83 : decode cX12_evenNow 83 = .ok (.iload_n 2, 1) := by decide +kernel
theorem dX12_evenNow_84 : decode cX12_evenNow 84 = .ok (.iconst 1, 1) := by decide +kernel
theorem dX12_evenNow_85 : decode cX12_evenNow 85 = .ok (.if_icmp .ne 7, 3) := by decide +kernel
theorem dX12_evenNow_88 : decode cX12_evenNow 88 = .ok (.iload_n 3, 1) := by decide +kernel
theorem dX12_evenNow_89 : decode cX12_evenNow 89 = .ok (.goto 7, 3) := by decide +kernel
theorem dX12_evenNow_92 : decode cX12_evenNow 92 = .ok (.iload_n 3, 1) := by decide +kernel
theorem dX12_evenNow_93 : decode cX12_evenNow 93 = .ok (.invokestatic 230, 3) := by decide +kernel
theorem dX12_evenNow_96 : decode cX12_evenNow 96 = .ok (.ireturn, 1) := by decide +kernel
set_option maxRecDepth 20000 in
theorem ggX12_even_X12_within : GoodIn wsX12_even wsX12_within := goodIn_r _ [5] (by decide +kernel) (by decide +kernel)
set_option maxRecDepth 20000 in
theorem gX12_even_X12_within : GoodIn wsX12_even (va_wsS RX12 102 yX12_within wsX12_within) := goodIn_app (goodIn_of _ (by decide +kernel)) ggX12_even_X12_within
set_option maxRecDepth 20000 in
theorem ggX12_even_X12_evenNow : GoodIn wsX12_even wsX12_evenNow := goodIn_r _ [9, 10, 11, 12, 4, 13, 14, 15, 16, 17, 18, 19, 20, 21, 22, 23, 24, 25, 26, 27, 28, 29, 30, 31, 32, 33, 34, 35, 36, 37, 38, 39, 40, 41, 42, 43, 44, 45, 46, 47, 48, 49, 50, 51, 52, 53, 54, 55, 56, 57, 58, 59, 60, 61, 62, 63, 64, 65, 66, 67, 68, 69, 70, 71, 72, 73, 74] (by decide +kernel) (by decide +kernel)
set_option maxRecDepth 20000 in
theorem gX12_even_X12_evenNow : GoodIn wsX12_even (wsV RX12 242 RX12 yX12_evenNow wsX12_evenNow) := goodIn_app (goodIn_of _ (by decide +kernel)) ggX12_even_X12_evenNow
theorem dX12_even_0 : decode cX12_even 0 = .ok (.iload_n 1, 1) := by decide +kernel
theorem dX12_even_1 : decode cX12_even 1 = .ok (.iconst 0, 1) := by decide +kernel
theorem dX12_even_2 : decode cX12_even 2 = .ok (.iconst 4, 1) := by decide +kernel
theorem dX12_even_3 : decode cX12_even 3 = .ok (.invokestatic 102, 3) := by decide +kernel
theorem dX12_even_6 : decode cX12_even 6 = .ok (.ifCond .eq 12, 3) := by decide +kernel
theorem dX12_even_9 : decode cX12_even 9 = .ok (.iload_n 2, 1) := by decide +kernel
theorem dX12_even_10 : decode cX12_even 10 = .ok (.iconst 0, 1) := by decide +kernel
theorem dX12_even_11 : decode cX12_even 11 = .ok (.iconst 1, 1) := by decide +kernel
theorem dX12_even_12 : decode cX12_even 12 = .ok (.invokestatic 102, 3) := by decide +kernel
theorem dX12_even_15 : decode cX12_even 15 = .ok (.ifCond .ne 6, 3) := by decide +kernel
theorem dX12_even_18 : decode cX12_even 18 = .ok (.bipush (-102), 2) := by decide +kernel
theorem dX12_even_20 : decode cX12_even 20 = .ok (.ireturn, 1) := by decide +kernel
theorem dX12_even_21 : decode cX12_even 21 = .ok (.aload_n 0, 1) := by decide +kernel
theorem dX12_even_22 : decode cX12_even 22 = .ok (.getfield 135, 3) := by decide +kernel
theorem dX12_even_25 : decode cX12_even 25 = .ok (.ifCond .ne 8, 3) := by decide +kernel
theorem dX12_even_28 : decode cX12_even 28 = .ok (.bipush (-103), 2) := by decide +kernel
theorem dX12_even_30 : decode cX12_even 30 = .ok (.goto 9, 3) := by decide +kernel
theorem dX12_even_33 : decode cX12_even 33 = .ok (.aload_n 0, 1) := by decide +kernel
theorem dX12_even_34 : decode cX12_even 34 = .ok (.iload_n 1, 1) := by decide +kernel
theorem dX12_even_35 : decode cX12_even 35 = .ok (.iload_n 2, 1) := by decide +kernel
theorem dX12_even_36 : decode cX12_even 36 = .ok (.invokevirtual 242, 3) := by decide +kernel
theorem dX12_even_39 : decode cX12_even 39 = .ok (.ireturn, 1) := by decide +kernel
theorem dX12_comeBoth_0 : decode cX12_comeBoth 0 = .ok (.iload_n 2, 1) := by decide +kernel
theorem dX12_comeBoth_1 : decode cX12_comeBoth 1 = .ok (.aload_n 0, 1) := by decide +kernel
theorem dX12_comeBoth_2 : decode cX12_comeBoth 2 = .ok (.getfield 66, 3) := by decide +kernel
theorem dX12_comeBoth_5 : decode cX12_comeBoth 5 = .ok (.iload_n 1, 1) := by decide +kernel
theorem dX12_comeBoth_6 : decode cX12_comeBoth 6 = .ok (.iaload, 1) := by decide +kernel
theorem dX12_comeBoth_7 : decode cX12_comeBoth 7 = .ok (.if_icmp .lt 4, 3) := by decide +kernel
theorem dX12_comeBoth_10 : decode cX12_comeBoth 10 = .ok (.return_, 1) := by decide +kernel
theorem dX12_comeBoth_11 : decode cX12_comeBoth 11 = .ok (.aload_n 0, 1) := by decide +kernel
theorem dX12_comeBoth_12 : decode cX12_comeBoth 12 = .ok (.getfield 66, 3) := by decide +kernel
theorem dX12_comeBoth_15 : decode cX12_comeBoth 15 = .ok (.iload_n 1, 1) := by decide +kernel
theorem dX12_comeBoth_16 : decode cX12_comeBoth 16 = .ok (.iload_n 2, 1) := by decide +kernel
theorem dX12_comeBoth_17 : decode cX12_comeBoth 17 = .ok (.iastore, 1) := by decide +kernel
theorem dX12_comeBoth_18 : decode cX12_comeBoth 18 = .ok (.aload_n 0, 1) := by decide +kernel
theorem dX12_comeBoth_19 : decode cX12_comeBoth 19 = .ok (.getfield 72, 3) := by decide +kernel
theorem dX12_comeBoth_22 : decode cX12_comeBoth 22 = .ok (.iload_n 1, 1) := by decide +kernel
theorem dX12_comeBoth_23 : decode cX12_comeBoth 23 = .ok (.baload, 1) := by decide +kernel
theorem dX12_comeBoth_24 : decode cX12_comeBoth 24 = .ok (.ifCond .ne 56, 3) := by decide +kernel
theorem dX12_comeBoth_27 : decode cX12_comeBoth 27 = .ok (.aload_n 0, 1) := by decide +kernel
theorem dX12_comeBoth_28 : decode cX12_comeBoth 28 = .ok (.getfield 72, 3) := by decide +kernel
theorem dX12_comeBoth_31 : decode cX12_comeBoth 31 = .ok (.iload_n 1, 1) := by decide +kernel
theorem dX12_comeBoth_32 : decode cX12_comeBoth 32 = .ok (.iconst 1, 1) := by decide +kernel
theorem dX12_comeBoth_33 : decode cX12_comeBoth 33 = .ok (.bastore, 1) := by decide +kernel
theorem dX12_comeBoth_34 : decode cX12_comeBoth 34 = .ok (.aload_n 0, 1) := by decide +kernel
theorem dX12_comeBoth_35 : decode cX12_comeBoth 35 = .ok (.getfield 69, 3) := by decide +kernel
theorem dX12_comeBoth_38 : decode cX12_comeBoth 38 = .ok (.aload_n 0, 1) := by decide +kernel
theorem dX12_comeBoth_39 : decode cX12_comeBoth 39 = .ok (.getfield 245, 3) := by decide +kernel
theorem dX12_comeBoth_42 : decode cX12_comeBoth 42 = .ok (.iload_n 1, 1) := by decide +kernel
theorem dX12_comeBoth_43 : decode cX12_comeBoth 43 = .ok (.iastore, 1) := by decide +kernel
theorem dX12_comeBoth_44 : decode cX12_comeBoth 44 = .ok (.aload_n 0, 1) := by decide +kernel
theorem dX12_comeBoth_45 : decode cX12_comeBoth 45 = .ok (.aload_n 0, 1) := by decide +kernel
theorem dX12_comeBoth_46 : decode cX12_comeBoth 46 = .ok (.getfield 245, 3) := by decide +kernel
theorem dX12_comeBoth_49 : decode cX12_comeBoth 49 = .ok (.iconst 1, 1) := by decide +kernel
theorem dX12_comeBoth_50 : decode cX12_comeBoth 50 = .ok (.iadd, 1) := by decide +kernel
theorem dX12_comeBoth_51 : decode cX12_comeBoth 51 = .ok (.sipush 20412, 3) := by decide +kernel
theorem dX12_comeBoth_54 : decode cX12_comeBoth 54 = .ok (.if_icmp .ne 7, 3) := by decide +kernel
theorem dX12_comeBoth_57 : decode cX12_comeBoth 57 = .ok (.iconst 0, 1) := by decide +kernel
theorem dX12_comeBoth_58 : decode cX12_comeBoth 58 = .ok (.goto 9, 3) := by decide +kernel
theorem dX12_comeBoth_61 : decode cX12_comeBoth 61 = .ok (.aload_n 0, 1) := by decide +kernel
theorem dX12_comeBoth_62 : decode cX12_comeBoth 62 = .ok (.getfield 245, 3) := by decide +kernel
theorem dX12_comeBoth_65 : decode cX12_comeBoth 65 = .ok (.iconst 1, 1) := by decide +kernel
theorem dX12_comeBoth_66 : decode cX12_comeBoth 66 = .ok (.iadd, 1) := by decide +kernel
theorem dX12_comeBoth_67 : decode cX12_comeBoth 67 = .ok (.putfield 245, 3) := by decide +kernel
theorem dX12_comeBoth_70 : decode cX12_comeBoth 70 = .ok (.aload_n 0, 1) := by decide +kernel
theorem dX12_comeBoth_71 : decode cX12_comeBoth 71 = .ok (.dup, 1) := by decide +kernel
theorem dX12_comeBoth_72 : decode cX12_comeBoth 72 = .ok (.getfield 248, 3) := by decide +kernel
theorem dX12_comeBoth_75 : decode cX12_comeBoth 75 = .ok (.iconst 1, 1) := by decide +kernel
theorem dX12_comeBoth_76 : decode cX12_comeBoth 76 = .ok (.iadd, 1) := by decide +kernel
theorem dX12_comeBoth_77 : decode cX12_comeBoth 77 = .ok (.putfield 248, 3) := by decide +kernel
theorem dX12_comeBoth_80 : decode cX12_comeBoth 80 = .ok (.return_, 1) := by decide +kernel
theorem dX12_together_0 : decode cX12_together 0 = .ok (.iload_n 0, 1) := by decide +kernel
theorem dX12_together_1 : decode cX12_together 1 = .ok (.bipush 7, 2) := by decide +kernel
theorem dX12_together_3 : decode cX12_together 3 = .ok (.idiv, 1) := by decide +kernel
theorem dX12_together_4 : decode cX12_together 4 = .ok (.bipush 54, 2) := by decide +kernel
theorem dX12_together_6 : decode cX12_together 6 = .ok (.imul, 1) := by decide +kernel
theorem dX12_together_7 : decode cX12_together 7 = .ok (.iload_n 1, 1) := by decide +kernel
theorem dX12_together_8 : decode cX12_together 8 = .ok (.bipush 7, 2) := by decide +kernel
theorem dX12_together_10 : decode cX12_together 10 = .ok (.idiv, 1) := by decide +kernel
theorem dX12_together_11 : decode cX12_together 11 = .ok (.iadd, 1) := by decide +kernel
theorem dX12_together_12 : decode cX12_together 12 = .ok (.bipush 7, 2) := by decide +kernel
theorem dX12_together_14 : decode cX12_together 14 = .ok (.imul, 1) := by decide +kernel
theorem dX12_together_15 : decode cX12_together 15 = .ok (.iload_n 0, 1) := by decide +kernel
theorem dX12_together_16 : decode cX12_together 16 = .ok (.bipush 7, 2) := by decide +kernel
theorem dX12_together_18 : decode cX12_together 18 = .ok (.irem, 1) := by decide +kernel
theorem dX12_together_19 : decode cX12_together 19 = .ok (.iadd, 1) := by decide +kernel
theorem dX12_together_20 : decode cX12_together 20 = .ok (.ireturn, 1) := by decide +kernel
set_option maxRecDepth 20000 in
theorem ggX12_bothNow_X12_together : GoodIn wsX12_bothNow wsX12_together := goodIn_r _ [15] (by decide +kernel) (by decide +kernel)
set_option maxRecDepth 20000 in
theorem gX12_bothNow_X12_together : GoodIn wsX12_bothNow (va_wsS RX12 254 yX12_together wsX12_together) := goodIn_app (goodIn_of _ (by decide +kernel)) ggX12_bothNow_X12_together
set_option maxRecDepth 20000 in
theorem ggX12_bothNow_X12_comeBoth : GoodIn wsX12_bothNow wsX12_comeBoth := goodIn_r _ [19, 2, 3, 8, 5, 4, 47, 48, 49, 50, 51, 52, 53, 54, 55, 56, 57, 58, 59, 60, 61, 62, 63, 64, 65, 66, 67, 68, 69, 70, 71, 72, 73, 74, 75, 76, 77, 78, 79, 80, 81, 82, 83, 84, 85, 86, 87, 88, 89, 90, 91, 92, 93, 94, 95, 96, 97] (by decide +kernel) (by decide +kernel)
set_option maxRecDepth 20000 in
theorem gX12_bothNow_X12_comeBoth : GoodIn wsX12_bothNow (wsV RX12 257 RX12 yX12_comeBoth wsX12_comeBoth) := goodIn_app (goodIn_of _ (by decide +kernel)) ggX12_bothNow_X12_comeBoth
set_option maxRecDepth 20000 in
theorem ggX12_bothNow_X12_behind : GoodIn wsX12_bothNow wsX12_behind := goodIn_r _ [23, 24, 11, 25, 26, 27, 28, 29, 30, 14, 31, 32, 33, 34, 35, 36, 37, 38, 39, 40, 41, 42, 43, 44, 45, 46, 47, 48, 49, 50, 51, 52, 53, 54, 55, 56, 57, 58, 59, 60, 61, 62, 63, 64, 65, 66, 67, 68, 69, 70, 71, 72, 73, 74, 75, 76, 77, 78, 79, 80, 81, 82, 83, 84, 85, 86, 87, 88, 89, 90, 91, 92, 93, 94, 95, 96, 97] (by decide +kernel) (by decide +kernel)
set_option maxRecDepth 20000 in
theorem gX12_bothNow_X12_behind : GoodIn wsX12_bothNow (wsV RX12 180 RX12 yX12_behind wsX12_behind) := goodIn_app (goodIn_of _ (by decide +kernel)) ggX12_bothNow_X12_behind
set_option maxRecDepth 20000 in
theorem ggX12_bothNow_X12_stepsBy : GoodIn wsX12_bothNow wsX12_stepsBy := goodIn_r _ [37] (by decide +kernel) (by decide +kernel)
set_option maxRecDepth 20000 in
theorem gX12_bothNow_X12_stepsBy : GoodIn wsX12_bothNow (va_wsS RX12 173 yX12_stepsBy wsX12_stepsBy) := goodIn_app (goodIn_of _ (by decide +kernel)) ggX12_bothNow_X12_stepsBy
theorem dX12_bothNow_0 : decode cX12_bothNow 0 = .ok (.ldc 193, 2) := by decide +kernel
theorem dX12_bothNow_2 : decode cX12_bothNow 2 = .ok (.istore 4, 2) := by decide +kernel
theorem dX12_bothNow_4 : decode cX12_bothNow 4 = .ok (.iconst 0, 1) := by decide +kernel
theorem dX12_bothNow_5 : decode cX12_bothNow 5 = .ok (.istore 5, 2) := by decide +kernel
theorem dX12_bothNow_7 : decode cX12_bothNow 7 = .ok (.iload 5, 2) := by decide +kernel
theorem dX12_bothNow_9 : decode cX12_bothNow 9 = .ok (.sipush 20412, 3) := by decide +kernel
theorem dX12_bothNow_12 : decode cX12_bothNow 12 = .ok (.if_icmp .ge 26, 3) := by decide +kernel
theorem dX12_bothNow_15 : decode cX12_bothNow 15 = .ok (.aload_n 0, 1) := by decide +kernel
theorem dX12_bothNow_16 : decode cX12_bothNow 16 = .ok (.getfield 66, 3) := by decide +kernel
theorem dX12_bothNow_19 : decode cX12_bothNow 19 = .ok (.iload 5, 2) := by decide +kernel
theorem dX12_bothNow_21 : decode cX12_bothNow 21 = .ok (.ldc 193, 2) := by decide +kernel
theorem dX12_bothNow_23 : decode cX12_bothNow 23 = .ok (.iastore, 1) := by decide +kernel
theorem dX12_bothNow_24 : decode cX12_bothNow 24 = .ok (.aload_n 0, 1) := by decide +kernel
theorem dX12_bothNow_25 : decode cX12_bothNow 25 = .ok (.getfield 72, 3) := by decide +kernel
theorem dX12_bothNow_28 : decode cX12_bothNow 28 = .ok (.iload 5, 2) := by decide +kernel
theorem dX12_bothNow_30 : decode cX12_bothNow 30 = .ok (.iconst 0, 1) := by decide +kernel
theorem dX12_bothNow_31 : decode cX12_bothNow 31 = .ok (.bastore, 1) := by decide +kernel
theorem dX12_bothNow_32 : decode cX12_bothNow 32 = .ok (.iinc 5 1, 3) := by decide +kernel
theorem dX12_bothNow_35 : decode cX12_bothNow 35 = .ok (.goto (-28), 3) := by decide +kernel
theorem dX12_bothNow_38 : decode cX12_bothNow 38 = .ok (.aload_n 0, 1) := by decide +kernel
theorem dX12_bothNow_39 : decode cX12_bothNow 39 = .ok (.iconst 0, 1) := by decide +kernel
theorem dX12_bothNow_40 : decode cX12_bothNow 40 = .ok (.putfield 248, 3) := by decide +kernel
theorem dX12_bothNow_43 : decode cX12_bothNow 43 = .ok (.aload_n 0, 1) := by decide +kernel
theorem dX12_bothNow_44 : decode cX12_bothNow 44 = .ok (.iconst 0, 1) := by decide +kernel
theorem dX12_bothNow_45 : decode cX12_bothNow 45 = .ok (.putfield 245, 3) := by decide +kernel
theorem dX12_bothNow_48 : decode cX12_bothNow 48 = .ok (.aload_n 0, 1) := by decide +kernel
theorem dX12_bothNow_49 : decode cX12_bothNow 49 = .ok (.iconst 0, 1) := by decide +kernel
theorem dX12_bothNow_50 : decode cX12_bothNow 50 = .ok (.putfield 251, 3) := by decide +kernel
theorem dX12_bothNow_53 : decode cX12_bothNow 53 = .ok (.aload_n 0, 1) := by decide +kernel
theorem dX12_bothNow_54 : decode cX12_bothNow 54 = .ok (.aload_n 0, 1) := by decide +kernel
theorem dX12_bothNow_55 : decode cX12_bothNow 55 = .ok (.getfield 25, 3) := by decide +kernel
theorem dX12_bothNow_58 : decode cX12_bothNow 58 = .ok (.iload_n 1, 1) := by decide +kernel
theorem dX12_bothNow_59 : decode cX12_bothNow 59 = .ok (.iaload, 1) := by decide +kernel
theorem dX12_bothNow_60 : decode cX12_bothNow 60 = .ok (.aload_n 0, 1) := by decide +kernel
theorem dX12_bothNow_61 : decode cX12_bothNow 61 = .ok (.getfield 25, 3) := by decide +kernel
theorem dX12_bothNow_64 : decode cX12_bothNow 64 = .ok (.iload_n 2, 1) := by decide +kernel
theorem dX12_bothNow_65 : decode cX12_bothNow 65 = .ok (.iaload, 1) := by decide +kernel
theorem dX12_bothNow_66 : decode cX12_bothNow 66 = .ok (.invokestatic 254, 3) := by decide +kernel
theorem dX12_bothNow_69 : decode cX12_bothNow 69 = .ok (.iconst 0, 1) := by decide +kernel
theorem dX12_bothNow_70 : decode cX12_bothNow 70 = .ok (.invokevirtual 257, 3) := by decide +kernel
theorem dX12_bothNow_73 : decode cX12_bothNow 73 = .ok (.aload_n 0, 1) := by decide +kernel
theorem dX12_bothNow_74 : decode cX12_bothNow 74 = .ok (.getfield 248, 3) := by decide +kernel
theorem dX12_bothNow_77 : decode cX12_bothNow 77 = .ok (.ifCond .le 242, 3) := by decide +kernel
theorem dX12_bothNow_80 : decode cX12_bothNow 80 = .ok (.aload_n 0, 1) := by decide +kernel
theorem dX12_bothNow_81 : decode cX12_bothNow 81 = .ok (.getfield 69, 3) := by decide +kernel
theorem dX12_bothNow_84 : decode cX12_bothNow 84 = .ok (.aload_n 0, 1) := by decide +kernel
theorem dX12_bothNow_85 : decode cX12_bothNow 85 = .ok (.getfield 251, 3) := by decide +kernel
theorem dX12_bothNow_88 : decode cX12_bothNow 88 = .ok (.iaload, 1) := by decide +kernel
theorem dX12_bothNow_89 : decode cX12_bothNow 89 = .ok (.istore 5, 2) := by decide +kernel
theorem dX12_bothNow_91 : decode cX12_bothNow 91 = .ok (.aload_n 0, 1) := by decide +kernel
theorem dX12_bothNow_92 : decode cX12_bothNow 92 = .ok (.aload_n 0, 1) := by decide +kernel
theorem dX12_bothNow_93 : decode cX12_bothNow 93 = .ok (.getfield 251, 3) := by decide +kernel
theorem dX12_bothNow_96 : decode cX12_bothNow 96 = .ok (.iconst 1, 1) := by decide +kernel
theorem dX12_bothNow_97 : decode cX12_bothNow 97 = .ok (.iadd, 1) := by decide +kernel
theorem dX12_bothNow_98 : decode cX12_bothNow 98 = .ok (.sipush 20412, 3) := by decide +kernel
theorem dX12_bothNow_101 : decode cX12_bothNow 101 = .ok (.if_icmp .ne 7, 3) := by decide +kernel
theorem dX12_bothNow_104 : decode cX12_bothNow 104 = .ok (.iconst 0, 1) := by decide +kernel
theorem dX12_bothNow_105 : decode cX12_bothNow 105 = .ok (.goto 9, 3) := by decide +kernel
theorem dX12_bothNow_108 : decode cX12_bothNow 108 = .ok (.aload_n 0, 1) := by decide +kernel
theorem dX12_bothNow_109 : decode cX12_bothNow 109 = .ok (.getfield 251, 3) := by decide +kernel
theorem dX12_bothNow_112 : decode cX12_bothNow 112 = .ok (.iconst 1, 1) := by decide +kernel
theorem dX12_bothNow_113 : decode cX12_bothNow 113 = .ok (.iadd, 1) := by decide +kernel
theorem dX12_bothNow_114 : decode cX12_bothNow 114 = .ok (.putfield 251, 3) := by decide +kernel
theorem dX12_bothNow_117 : decode cX12_bothNow 117 = .ok (.aload_n 0, 1) := by decide +kernel
theorem dX12_bothNow_118 : decode cX12_bothNow 118 = .ok (.dup, 1) := by decide +kernel
theorem dX12_bothNow_119 : decode cX12_bothNow 119 = .ok (.getfield 248, 3) := by decide +kernel
theorem dX12_bothNow_122 : decode cX12_bothNow 122 = .ok (.iconst 1, 1) := by decide +kernel
theorem dX12_bothNow_123 : decode cX12_bothNow 123 = .ok (.isub, 1) := by decide +kernel
theorem dX12_bothNow_124 : decode cX12_bothNow 124 = .ok (.putfield 248, 3) := by decide +kernel
theorem dX12_bothNow_127 : decode cX12_bothNow 127 = .ok (.aload_n 0, 1) := by decide +kernel
theorem dX12_bothNow_128 : decode cX12_bothNow 128 = .ok (.getfield 72, 3) := by decide +kernel
theorem dX12_bothNow_131 : decode cX12_bothNow 131 = .ok (.iload 5, 2) := by decide +kernel
theorem dX12_bothNow_133 : decode cX12_bothNow 133 = .ok (.iconst 0, 1) := by decide +kernel
theorem dX12_bothNow_134 : decode cX12_bothNow 134 = .ok (.bastore, 1) := by decide +kernel
theorem dX12_bothNow_135 : decode cX12_bothNow 135 = .ok (.aload_n 0, 1) := by decide +kernel
theorem dX12_bothNow_136 : decode cX12_bothNow 136 = .ok (.getfield 66, 3) := by decide +kernel
theorem dX12_bothNow_139 : decode cX12_bothNow 139 = .ok (.iload 5, 2) := by decide +kernel
theorem dX12_bothNow_141 : decode cX12_bothNow 141 = .ok (.iaload, 1) := by decide +kernel
theorem dX12_bothNow_142 : decode cX12_bothNow 142 = .ok (.istore 6, 2) := by decide +kernel
theorem dX12_bothNow_144 : decode cX12_bothNow 144 = .ok (.iload 5, 2) := by decide +kernel
theorem dX12_bothNow_146 : decode cX12_bothNow 146 = .ok (.bipush 7, 2) := by decide +kernel
theorem dX12_bothNow_148 : decode cX12_bothNow 148 = .ok (.irem, 1) := by decide +kernel
theorem dX12_bothNow_149 : decode cX12_bothNow 149 = .ok (.iload_n 3, 1) := by decide +kernel
theorem dX12_bothNow_150 : decode cX12_bothNow 150 = .ok (.if_icmp .ne 15, 3) := by decide +kernel
theorem dX12_bothNow_153 : decode cX12_bothNow 153 = .ok (.iload 6, 2) := by decide +kernel
theorem dX12_bothNow_155 : decode cX12_bothNow 155 = .ok (.iload 4, 2) := by decide +kernel
theorem dX12_bothNow_157 : decode cX12_bothNow 157 = .ok (.if_icmp .ge 8, 3) := by decide +kernel
theorem dX12_bothNow_160 : decode cX12_bothNow 160 = .ok (.iload 6, 2) := by decide +kernel
theorem dX12_bothNow_162 : decode cX12_bothNow 162 = .ok (.goto 5, 3) := by decide +kernel
theorem dX12_bothNow_165 : decode cX12_bothNow 165 = .ok (.iload 4, 2) := by decide +kernel
theorem dX12_bothNow_167 : decode cX12_bothNow 167 = .ok (.istore 4, 2) := by decide +kernel
theorem dX12_bothNow_169 : decode cX12_bothNow 169 = .ok (.iload 5, 2) := by decide +kernel
theorem dX12_bothNow_171 : decode cX12_bothNow 171 = .ok (.bipush 7, 2) := by decide +kernel
theorem dX12_bothNow_173 : decode cX12_bothNow 173 = .ok (.idiv, 1) := by decide +kernel
theorem dX12_bothNow_174 : decode cX12_bothNow 174 = .ok (.bipush 54, 2) := by decide +kernel
theorem dX12_bothNow_176 : decode cX12_bothNow 176 = .ok (.idiv, 1) := by decide +kernel
theorem dX12_bothNow_177 : decode cX12_bothNow 177 = .ok (.bipush 7, 2) := by decide +kernel
theorem dX12_bothNow_179 : decode cX12_bothNow 179 = .ok (.imul, 1) := by decide +kernel
theorem dX12_bothNow_180 : decode cX12_bothNow 180 = .ok (.iload 5, 2) := by decide +kernel
theorem dX12_bothNow_182 : decode cX12_bothNow 182 = .ok (.bipush 7, 2) := by decide +kernel
theorem dX12_bothNow_184 : decode cX12_bothNow 184 = .ok (.irem, 1) := by decide +kernel
theorem dX12_bothNow_185 : decode cX12_bothNow 185 = .ok (.iadd, 1) := by decide +kernel
theorem dX12_bothNow_186 : decode cX12_bothNow 186 = .ok (.istore 7, 2) := by decide +kernel
theorem dX12_bothNow_188 : decode cX12_bothNow 188 = .ok (.iload 5, 2) := by decide +kernel
theorem dX12_bothNow_190 : decode cX12_bothNow 190 = .ok (.bipush 7, 2) := by decide +kernel
theorem dX12_bothNow_192 : decode cX12_bothNow 192 = .ok (.idiv, 1) := by decide +kernel
theorem dX12_bothNow_193 : decode cX12_bothNow 193 = .ok (.bipush 54, 2) := by decide +kernel
theorem dX12_bothNow_195 : decode cX12_bothNow 195 = .ok (.irem, 1) := by decide +kernel
theorem dX12_bothNow_196 : decode cX12_bothNow 196 = .ok (.bipush 7, 2) := by decide +kernel
theorem dX12_bothNow_198 : decode cX12_bothNow 198 = .ok (.imul, 1) := by decide +kernel
theorem dX12_bothNow_199 : decode cX12_bothNow 199 = .ok (.iload 5, 2) := by decide +kernel
theorem dX12_bothNow_201 : decode cX12_bothNow 201 = .ok (.bipush 7, 2) := by decide +kernel
theorem dX12_bothNow_203 : decode cX12_bothNow 203 = .ok (.irem, 1) := by decide +kernel
theorem dX12_bothNow_204 : decode cX12_bothNow 204 = .ok (.iadd, 1) := by decide +kernel
theorem dX12_bothNow_205 : decode cX12_bothNow 205 = .ok (.istore 8, 2) := by decide +kernel
theorem dX12_bothNow_207 : decode cX12_bothNow 207 = .ok (.iconst 0, 1) := by decide +kernel
theorem dX12_bothNow_208 : decode cX12_bothNow 208 = .ok (.istore 9, 2) := by decide +kernel
theorem dX12_bothNow_210 : decode cX12_bothNow 210 = .ok (.iload 9, 2) := by decide +kernel
theorem dX12_bothNow_212 : decode cX12_bothNow 212 = .ok (.aload_n 0, 1) := by decide +kernel
theorem dX12_bothNow_213 : decode cX12_bothNow 213 = .ok (.getfield 126, 3) := by decide +kernel
theorem dX12_bothNow_216 : decode cX12_bothNow 216 = .ok (.if_icmp .ge 100, 3) := by decide +kernel
theorem dX12_bothNow_219 : decode cX12_bothNow 219 = .ok (.aload_n 0, 1) := by decide +kernel
theorem dX12_bothNow_220 : decode cX12_bothNow 220 = .ok (.aload_n 0, 1) := by decide +kernel
theorem dX12_bothNow_221 : decode cX12_bothNow 221 = .ok (.getfield 22, 3) := by decide +kernel
theorem dX12_bothNow_224 : decode cX12_bothNow 224 = .ok (.iload_n 1, 1) := by decide +kernel
theorem dX12_bothNow_225 : decode cX12_bothNow 225 = .ok (.iaload, 1) := by decide +kernel
theorem dX12_bothNow_226 : decode cX12_bothNow 226 = .ok (.iload 7, 2) := by decide +kernel
theorem dX12_bothNow_228 : decode cX12_bothNow 228 = .ok (.iload 9, 2) := by decide +kernel
theorem dX12_bothNow_230 : decode cX12_bothNow 230 = .ok (.invokevirtual 180, 3) := by decide +kernel
theorem dX12_bothNow_233 : decode cX12_bothNow 233 = .ok (.istore 10, 2) := by decide +kernel
theorem dX12_bothNow_235 : decode cX12_bothNow 235 = .ok (.aload_n 0, 1) := by decide +kernel
theorem dX12_bothNow_236 : decode cX12_bothNow 236 = .ok (.aload_n 0, 1) := by decide +kernel
theorem dX12_bothNow_237 : decode cX12_bothNow 237 = .ok (.getfield 22, 3) := by decide +kernel
theorem dX12_bothNow_240 : decode cX12_bothNow 240 = .ok (.iload_n 2, 1) := by decide +kernel
theorem dX12_bothNow_241 : decode cX12_bothNow 241 = .ok (.iaload, 1) := by decide +kernel
theorem dX12_bothNow_242 : decode cX12_bothNow 242 = .ok (.iload 8, 2) := by decide +kernel
theorem dX12_bothNow_244 : decode cX12_bothNow 244 = .ok (.iload 9, 2) := by decide +kernel
theorem dX12_bothNow_246 : decode cX12_bothNow 246 = .ok (.invokevirtual 180, 3) := by decide +kernel
theorem dX12_bothNow_249 : decode cX12_bothNow 249 = .ok (.istore 11, 2) := by decide +kernel
theorem dX12_bothNow_251 : decode cX12_bothNow 251 = .ok (.iload 10, 2) := by decide +kernel
theorem dX12_bothNow_253 : decode cX12_bothNow 253 = .ok (.iconst (-1), 1) := by decide +kernel
theorem dX12_bothNow_254 : decode cX12_bothNow 254 = .ok (.if_icmp .eq 56, 3) := by decide +kernel
theorem dX12_bothNow_257 : decode cX12_bothNow 257 = .ok (.iload 11, 2) := by decide +kernel
theorem dX12_bothNow_259 : decode cX12_bothNow 259 = .ok (.iconst (-1), 1) := by decide +kernel
theorem dX12_bothNow_260 : decode cX12_bothNow 260 = .ok (.if_icmp .eq 50, 3) := by decide +kernel
theorem dX12_bothNow_263 : decode cX12_bothNow 263 = .ok (.aload_n 0, 1) := by decide +kernel
theorem dX12_bothNow_264 : decode cX12_bothNow 264 = .ok (.iload 10, 2) := by decide +kernel
theorem dX12_bothNow_266 : decode cX12_bothNow 266 = .ok (.iload 11, 2) := by decide +kernel
theorem dX12_bothNow_268 : decode cX12_bothNow 268 = .ok (.invokestatic 254, 3) := by decide +kernel
theorem dX12_bothNow_271 : decode cX12_bothNow 271 = .ok (.iload 6, 2) := by decide +kernel
theorem dX12_bothNow_273 : decode cX12_bothNow 273 = .ok (.aload_n 0, 1) := by decide +kernel
theorem dX12_bothNow_274 : decode cX12_bothNow 274 = .ok (.getfield 22, 3) := by decide +kernel
theorem dX12_bothNow_277 : decode cX12_bothNow 277 = .ok (.iload_n 1, 1) := by decide +kernel
theorem dX12_bothNow_278 : decode cX12_bothNow 278 = .ok (.iaload, 1) := by decide +kernel
theorem dX12_bothNow_279 : decode cX12_bothNow 279 = .ok (.aload_n 0, 1) := by decide +kernel
theorem dX12_bothNow_280 : decode cX12_bothNow 280 = .ok (.getfield 16, 3) := by decide +kernel
theorem dX12_bothNow_283 : decode cX12_bothNow 283 = .ok (.iload 9, 2) := by decide +kernel
theorem dX12_bothNow_285 : decode cX12_bothNow 285 = .ok (.iaload, 1) := by decide +kernel
theorem dX12_bothNow_286 : decode cX12_bothNow 286 = .ok (.invokestatic 173, 3) := by decide +kernel
theorem dX12_bothNow_289 : decode cX12_bothNow 289 = .ok (.iadd, 1) := by decide +kernel
theorem dX12_bothNow_290 : decode cX12_bothNow 290 = .ok (.aload_n 0, 1) := by decide +kernel
theorem dX12_bothNow_291 : decode cX12_bothNow 291 = .ok (.getfield 22, 3) := by decide +kernel
theorem dX12_bothNow_294 : decode cX12_bothNow 294 = .ok (.iload_n 2, 1) := by decide +kernel
theorem dX12_bothNow_295 : decode cX12_bothNow 295 = .ok (.iaload, 1) := by decide +kernel
theorem dX12_bothNow_296 : decode cX12_bothNow 296 = .ok (.aload_n 0, 1) := by decide +kernel
theorem dX12_bothNow_297 : decode cX12_bothNow 297 = .ok (.getfield 16, 3) := by decide +kernel
theorem dX12_bothNow_300 : decode cX12_bothNow 300 = .ok (.iload 9, 2) := by decide +kernel
theorem dX12_bothNow_302 : decode cX12_bothNow 302 = .ok (.iaload, 1) := by decide +kernel
theorem dX12_bothNow_303 : decode cX12_bothNow 303 = .ok (.invokestatic 173, 3) := by decide +kernel
theorem dX12_bothNow_306 : decode cX12_bothNow 306 = .ok (.iadd, 1) := by decide +kernel
theorem dX12_bothNow_307 : decode cX12_bothNow 307 = .ok (.invokevirtual 257, 3) := by decide +kernel
theorem dX12_bothNow_310 : decode cX12_bothNow 310 = .ok (.iinc 9 1, 3) := by decide +kernel
theorem dX12_bothNow_313 : decode cX12_bothNow 313 = .ok (.goto (-103), 3) := by decide +kernel
theorem dX12_bothNow_316 : decode cX12_bothNow 316 = .ok (.goto (-243), 3) := by decide +kernel
theorem dX12_bothNow_319 : decode cX12_bothNow 319 = .ok (.iload 4, 2) := by decide +kernel
theorem dX12_bothNow_321 : decode cX12_bothNow 321 = .ok (.ldc 193, 2) := by decide +kernel
theorem dX12_bothNow_323 : decode cX12_bothNow 323 = .ok (.if_icmp .ne 7, 3) := by decide +kernel
theorem dX12_bothNow_326 : decode cX12_bothNow 326 = .ok (.iconst (-1), 1) := by decide +kernel
theorem dX12_bothNow_327 : decode cX12_bothNow 327 = .ok (.goto 5, 3) := by decide +kernel
theorem dX12_bothNow_330 : decode cX12_bothNow 330 = .ok (.iload 4, 2) := by decide +kernel
theorem dX12_bothNow_332 : decode cX12_bothNow 332 = .ok (.ireturn, 1) := by decide +kernel
set_option maxRecDepth 20000 in
theorem ggX12_both_X12_isWalker : GoodIn wsX12_both wsX12_isWalker := goodIn_r _ [6, 7, 8, 9, 5, 10, 62, 63, 64, 65, 66, 67, 68, 69, 70, 71, 72, 73, 74, 75, 76, 77, 78, 79, 80, 81, 82, 83, 84, 85, 86, 87, 88, 89, 90, 91, 92, 93, 94, 95, 96, 97, 98, 99, 100, 101, 102, 103, 104, 105, 106, 107, 108, 109, 110, 111, 112] (by decide +kernel) (by decide +kernel)
set_option maxRecDepth 20000 in
theorem gX12_both_X12_isWalker : GoodIn wsX12_both (wsV RX12 167 RX12 yX12_isWalker wsX12_isWalker) := goodIn_app (goodIn_of _ (by decide +kernel)) ggX12_both_X12_isWalker
set_option maxRecDepth 20000 in
theorem ggX12_both_X12_isPlace : GoodIn wsX12_both wsX12_isPlace := goodIn_r _ [13, 8, 9, 5, 10] (by decide +kernel) (by decide +kernel)
set_option maxRecDepth 20000 in
theorem gX12_both_X12_isPlace : GoodIn wsX12_both (va_wsS RX12 151 yX12_isPlace wsX12_isPlace) := goodIn_app (goodIn_of _ (by decide +kernel)) ggX12_both_X12_isPlace
set_option maxRecDepth 20000 in
theorem ggX12_both_X12_placeIn : GoodIn wsX12_both wsX12_placeIn := goodIn_r _ [16] (by decide +kernel) (by decide +kernel)
set_option maxRecDepth 20000 in
theorem gX12_both_X12_placeIn : GoodIn wsX12_both (va_wsS RX12 158 yX12_placeIn wsX12_placeIn) := goodIn_app (goodIn_of _ (by decide +kernel)) ggX12_both_X12_placeIn
set_option maxRecDepth 20000 in
theorem ggX12_both_X12_bothNow : GoodIn wsX12_both wsX12_bothNow := goodIn_r _ [20, 21, 22, 23, 24, 25, 26, 1, 27, 28, 29, 30, 31, 32, 5, 33, 34, 35, 36, 37, 38, 39, 40, 41, 42, 43, 44, 45, 46, 47, 48, 49, 14, 15, 16, 50, 51, 52, 53, 54, 55, 56, 57, 58, 59, 60, 61, 62, 63, 64, 65, 66, 67, 68, 69, 70, 71, 72, 73, 74, 75, 76, 77, 78, 79, 80, 81, 82, 83, 84, 85, 86, 87, 88, 89, 90, 91, 92, 93, 94, 95, 96, 97, 98, 99, 100, 101, 102, 103, 104, 105, 106, 107, 108, 109, 110, 111, 112] (by decide +kernel) (by decide +kernel)
set_option maxRecDepth 20000 in
theorem gX12_both_X12_bothNow : GoodIn wsX12_both (wsV RX12 260 RX12 yX12_bothNow wsX12_bothNow) := goodIn_app (goodIn_of _ (by decide +kernel)) ggX12_both_X12_bothNow
theorem dX12_both_0 : decode cX12_both 0 = .ok (.aload_n 0, 1) := by decide +kernel
theorem dX12_both_1 : decode cX12_both 1 = .ok (.iload_n 1, 1) := by decide +kernel
theorem dX12_both_2 : decode cX12_both 2 = .ok (.invokevirtual 167, 3) := by decide +kernel
theorem dX12_both_5 : decode cX12_both 5 = .ok (.ifCond .eq 23, 3) := by decide +kernel
theorem dX12_both_8 : decode cX12_both 8 = .ok (.aload_n 0, 1) := by decide +kernel
theorem dX12_both_9 : decode cX12_both 9 = .ok (.iload_n 2, 1) := by decide +kernel
theorem dX12_both_10 : decode cX12_both 10 = .ok (.invokevirtual 167, 3) := by decide +kernel
theorem dX12_both_13 : decode cX12_both 13 = .ok (.ifCond .eq 15, 3) := by decide +kernel
theorem dX12_both_16 : decode cX12_both 16 = .ok (.iload_n 1, 1) := by decide +kernel
theorem dX12_both_17 : decode cX12_both 17 = .ok (.iload_n 2, 1) := by decide +kernel
theorem dX12_both_18 : decode cX12_both 18 = .ok (.if_icmp .eq 10, 3) := by decide +kernel
theorem dX12_both_21 : decode cX12_both 21 = .ok (.iload_n 3, 1) := by decide +kernel
theorem dX12_both_22 : decode cX12_both 22 = .ok (.invokestatic 151, 3) := by decide +kernel
theorem dX12_both_25 : decode cX12_both 25 = .ok (.ifCond .ne 6, 3) := by decide +kernel
theorem dX12_both_28 : decode cX12_both 28 = .ok (.bipush (-101), 2) := by decide +kernel
theorem dX12_both_30 : decode cX12_both 30 = .ok (.ireturn, 1) := by decide +kernel
theorem dX12_both_31 : decode cX12_both 31 = .ok (.aload_n 0, 1) := by decide +kernel
theorem dX12_both_32 : decode cX12_both 32 = .ok (.getfield 25, 3) := by decide +kernel
theorem dX12_both_35 : decode cX12_both 35 = .ok (.iload_n 1, 1) := by decide +kernel
theorem dX12_both_36 : decode cX12_both 36 = .ok (.iaload, 1) := by decide +kernel
theorem dX12_both_37 : decode cX12_both 37 = .ok (.invokestatic 158, 3) := by decide +kernel
theorem dX12_both_40 : decode cX12_both 40 = .ok (.aload_n 0, 1) := by decide +kernel
theorem dX12_both_41 : decode cX12_both 41 = .ok (.getfield 25, 3) := by decide +kernel
theorem dX12_both_44 : decode cX12_both 44 = .ok (.iload_n 2, 1) := by decide +kernel
theorem dX12_both_45 : decode cX12_both 45 = .ok (.iaload, 1) := by decide +kernel
theorem dX12_both_46 : decode cX12_both 46 = .ok (.invokestatic 158, 3) := by decide +kernel
theorem dX12_both_49 : decode cX12_both 49 = .ok (.if_icmp .ne 13, 3) := by decide +kernel
theorem dX12_both_52 : decode cX12_both 52 = .ok (.aload_n 0, 1) := by decide +kernel
theorem dX12_both_53 : decode cX12_both 53 = .ok (.iload_n 1, 1) := by decide +kernel
theorem dX12_both_54 : decode cX12_both 54 = .ok (.iload_n 2, 1) := by decide +kernel
theorem dX12_both_55 : decode cX12_both 55 = .ok (.iload_n 3, 1) := by decide +kernel
theorem dX12_both_56 : decode cX12_both 56 = .ok (.invokevirtual 260, 3) := by decide +kernel
theorem dX12_both_59 : decode cX12_both 59 = .ok (.goto 5, 3) := by decide +kernel
theorem dX12_both_62 : decode cX12_both 62 = .ok (.bipush (-103), 2) := by decide +kernel
theorem dX12_both_64 : decode cX12_both 64 = .ok (.ireturn, 1) := by decide +kernel
set_option maxRecDepth 20000 in
theorem ggX12_changeNow_X12_shutNow : GoodIn wsX12_changeNow wsX12_shutNow := goodIn_r _ [7, 8, 9, 10, 11, 12, 13, 6, 14, 15, 16, 17, 18, 19, 20, 1, 21, 22, 23, 24, 25, 26, 27, 28, 29, 30, 31, 32, 33, 34, 35, 36, 37, 38, 39, 40, 41, 42, 43, 44, 45, 46, 47, 48, 49, 50, 51, 52, 53, 54, 55, 56, 57, 58, 59, 60, 61, 62, 63, 64, 65, 66, 67, 68, 69, 70, 71, 72, 73, 74, 75, 76, 77, 78, 79, 80, 81, 82, 83, 84, 85, 86, 87, 88, 89, 90, 91, 92, 93, 94, 95, 96, 97, 98, 99, 100, 101, 102, 103, 104, 105, 106, 107, 108, 109] (by decide +kernel) (by decide +kernel)
set_option maxRecDepth 20000 in
theorem gX12_changeNow_X12_shutNow : GoodIn wsX12_changeNow (wsV RX12 211 RX12 yX12_shutNow wsX12_shutNow) := goodIn_app (goodIn_of _ (by decide +kernel)) ggX12_changeNow_X12_shutNow
theorem dX12_changeNow_0 : decode cX12_changeNow 0 = .ok (.aload_n 0, 1) := by decide +kernel
theorem dX12_changeNow_1 : decode cX12_changeNow 1 = .ok (.getfield 16, 3) := by decide +kernel
theorem dX12_changeNow_4 : decode cX12_changeNow 4 = .ok (.iload_n 1, 1) := by decide +kernel
theorem dX12_changeNow_5 : decode cX12_changeNow 5 = .ok (.iaload, 1) := by decide +kernel
theorem dX12_changeNow_6 : decode cX12_changeNow 6 = .ok (.istore_n 3, 1) := by decide +kernel
theorem dX12_changeNow_7 : decode cX12_changeNow 7 = .ok (.iconst 0, 1) := by decide +kernel
theorem dX12_changeNow_8 : decode cX12_changeNow 8 = .ok (.istore 4, 2) := by decide +kernel
theorem dX12_changeNow_10 : decode cX12_changeNow 10 = .ok (.iconst 0, 1) := by decide +kernel
theorem dX12_changeNow_11 : decode cX12_changeNow 11 = .ok (.istore 5, 2) := by decide +kernel
theorem dX12_changeNow_13 : decode cX12_changeNow 13 = .ok (.iload 5, 2) := by decide +kernel
theorem dX12_changeNow_15 : decode cX12_changeNow 15 = .ok (.aload_n 0, 1) := by decide +kernel
theorem dX12_changeNow_16 : decode cX12_changeNow 16 = .ok (.getfield 138, 3) := by decide +kernel
theorem dX12_changeNow_19 : decode cX12_changeNow 19 = .ok (.if_icmp .ge 55, 3) := by decide +kernel
theorem dX12_changeNow_22 : decode cX12_changeNow 22 = .ok (.aload_n 0, 1) := by decide +kernel
theorem dX12_changeNow_23 : decode cX12_changeNow 23 = .ok (.iload 5, 2) := by decide +kernel
theorem dX12_changeNow_25 : decode cX12_changeNow 25 = .ok (.invokevirtual 211, 3) := by decide +kernel
theorem dX12_changeNow_28 : decode cX12_changeNow 28 = .ok (.istore 6, 2) := by decide +kernel
theorem dX12_changeNow_30 : decode cX12_changeNow 30 = .ok (.aload_n 0, 1) := by decide +kernel
theorem dX12_changeNow_31 : decode cX12_changeNow 31 = .ok (.getfield 16, 3) := by decide +kernel
theorem dX12_changeNow_34 : decode cX12_changeNow 34 = .ok (.iload_n 1, 1) := by decide +kernel
theorem dX12_changeNow_35 : decode cX12_changeNow 35 = .ok (.iload_n 2, 1) := by decide +kernel
theorem dX12_changeNow_36 : decode cX12_changeNow 36 = .ok (.iastore, 1) := by decide +kernel
theorem dX12_changeNow_37 : decode cX12_changeNow 37 = .ok (.iload 4, 2) := by decide +kernel
theorem dX12_changeNow_39 : decode cX12_changeNow 39 = .ok (.aload_n 0, 1) := by decide +kernel
theorem dX12_changeNow_40 : decode cX12_changeNow 40 = .ok (.iload 5, 2) := by decide +kernel
theorem dX12_changeNow_42 : decode cX12_changeNow 42 = .ok (.invokevirtual 211, 3) := by decide +kernel
theorem dX12_changeNow_45 : decode cX12_changeNow 45 = .ok (.iload 6, 2) := by decide +kernel
theorem dX12_changeNow_47 : decode cX12_changeNow 47 = .ok (.if_icmp .ne 7, 3) := by decide +kernel
theorem dX12_changeNow_50 : decode cX12_changeNow 50 = .ok (.iconst 0, 1) := by decide +kernel
theorem dX12_changeNow_51 : decode cX12_changeNow 51 = .ok (.goto 7, 3) := by decide +kernel
theorem dX12_changeNow_54 : decode cX12_changeNow 54 = .ok (.iconst 1, 1) := by decide +kernel
theorem dX12_changeNow_55 : decode cX12_changeNow 55 = .ok (.iload 5, 2) := by decide +kernel
theorem dX12_changeNow_57 : decode cX12_changeNow 57 = .ok (.ishl, 1) := by decide +kernel
theorem dX12_changeNow_58 : decode cX12_changeNow 58 = .ok (.ior, 1) := by decide +kernel
theorem dX12_changeNow_59 : decode cX12_changeNow 59 = .ok (.istore 4, 2) := by decide +kernel
theorem dX12_changeNow_61 : decode cX12_changeNow 61 = .ok (.aload_n 0, 1) := by decide +kernel
theorem dX12_changeNow_62 : decode cX12_changeNow 62 = .ok (.getfield 16, 3) := by decide +kernel
theorem dX12_changeNow_65 : decode cX12_changeNow 65 = .ok (.iload_n 1, 1) := by decide +kernel
theorem dX12_changeNow_66 : decode cX12_changeNow 66 = .ok (.iload_n 3, 1) := by decide +kernel
theorem dX12_changeNow_67 : decode cX12_changeNow 67 = .ok (.iastore, 1) := by decide +kernel
theorem dX12_changeNow_68 : decode cX12_changeNow 68 = .ok (.iinc 5 1, 3) := by decide +kernel
theorem dX12_changeNow_71 : decode cX12_changeNow 71 = .ok (.goto (-58), 3) := by decide +kernel
theorem dX12_changeNow_74 : decode cX12_changeNow 74 = .ok (.iload 4, 2) := by decide +kernel
theorem dX12_changeNow_76 : decode cX12_changeNow 76 = .ok (.ireturn, 1) := by decide +kernel
set_option maxRecDepth 20000 in
theorem ggX12_change_X12_isStreet : GoodIn wsX12_change wsX12_isStreet := goodIn_r _ [5, 6, 7, 8, 4, 9, 70, 71, 72, 73, 74, 75, 76, 77, 78, 79, 80, 81, 82, 83, 84, 85, 86, 87, 88, 89, 90, 91, 92, 93, 94, 95, 96, 97, 98, 99, 100, 101, 102, 103, 104, 105, 106, 107, 108, 109, 110, 111, 112, 113, 114, 115, 116, 117, 118, 119, 120] (by decide +kernel) (by decide +kernel)
set_option maxRecDepth 20000 in
theorem gX12_change_X12_isStreet : GoodIn wsX12_change (wsV RX12 144 RX12 yX12_isStreet wsX12_isStreet) := goodIn_app (goodIn_of _ (by decide +kernel)) ggX12_change_X12_isStreet
set_option maxRecDepth 20000 in
theorem ggX12_change_X12_within : GoodIn wsX12_change wsX12_within := goodIn_r _ [9] (by decide +kernel) (by decide +kernel)
set_option maxRecDepth 20000 in
theorem gX12_change_X12_within : GoodIn wsX12_change (va_wsS RX12 102 yX12_within wsX12_within) := goodIn_app (goodIn_of _ (by decide +kernel)) ggX12_change_X12_within
set_option maxRecDepth 20000 in
theorem ggX12_change_X12_changeNow : GoodIn wsX12_change wsX12_changeNow := goodIn_r _ [13, 14, 15, 16, 17, 18, 4, 19, 20, 21, 22, 23, 24, 25, 26, 27, 28, 29, 30, 31, 6, 32, 33, 34, 35, 36, 37, 38, 39, 40, 41, 42, 43, 44, 45, 46, 47, 48, 49, 50, 51, 52, 53, 54, 55, 56, 57, 58, 59, 60, 61, 62, 63, 64, 65, 66, 67, 68, 69, 70, 71, 72, 73, 74, 75, 76, 77, 78, 79, 80, 81, 82, 83, 84, 85, 86, 87, 88, 89, 90, 91, 92, 93, 94, 95, 96, 97, 98, 99, 100, 101, 102, 103, 104, 105, 106, 107, 108, 109, 110, 111, 112, 113, 114, 115, 116, 117, 118, 119, 120] (by decide +kernel) (by decide +kernel)
set_option maxRecDepth 20000 in
theorem gX12_change_X12_changeNow : GoodIn wsX12_change (wsV RX12 263 RX12 yX12_changeNow wsX12_changeNow) := goodIn_app (goodIn_of _ (by decide +kernel)) ggX12_change_X12_changeNow
theorem dX12_change_0 : decode cX12_change 0 = .ok (.aload_n 0, 1) := by decide +kernel
theorem dX12_change_1 : decode cX12_change 1 = .ok (.iload_n 1, 1) := by decide +kernel
theorem dX12_change_2 : decode cX12_change 2 = .ok (.invokevirtual 144, 3) := by decide +kernel
theorem dX12_change_5 : decode cX12_change 5 = .ok (.ifCond .ne 6, 3) := by decide +kernel
theorem dX12_change_8 : decode cX12_change 8 = .ok (.bipush (-101), 2) := by decide +kernel
theorem dX12_change_10 : decode cX12_change 10 = .ok (.ireturn, 1) := by decide +kernel
theorem dX12_change_11 : decode cX12_change 11 = .ok (.iload_n 2, 1) := by decide +kernel
theorem dX12_change_12 : decode cX12_change 12 = .ok (.iconst 0, 1) := by decide +kernel
theorem dX12_change_13 : decode cX12_change 13 = .ok (.bipush 9, 2) := by decide +kernel
theorem dX12_change_15 : decode cX12_change 15 = .ok (.invokestatic 102, 3) := by decide +kernel
theorem dX12_change_18 : decode cX12_change 18 = .ok (.ifCond .eq 12, 3) := by decide +kernel
theorem dX12_change_21 : decode cX12_change 21 = .ok (.aload_n 0, 1) := by decide +kernel
theorem dX12_change_22 : decode cX12_change 22 = .ok (.iload_n 1, 1) := by decide +kernel
theorem dX12_change_23 : decode cX12_change 23 = .ok (.iload_n 2, 1) := by decide +kernel
theorem dX12_change_24 : decode cX12_change 24 = .ok (.invokevirtual 263, 3) := by decide +kernel
theorem dX12_change_27 : decode cX12_change 27 = .ok (.goto 5, 3) := by decide +kernel
theorem dX12_change_30 : decode cX12_change 30 = .ok (.bipush (-102), 2) := by decide +kernel
theorem dX12_change_32 : decode cX12_change 32 = .ok (.ireturn, 1) := by decide +kernel
set_option maxRecDepth 20000 in
theorem ggX12_print_X12_within : GoodIn wsX12_print wsX12_within := goodIn_r _ [7] (by decide +kernel) (by decide +kernel)
set_option maxRecDepth 20000 in
theorem gX12_print_X12_within : GoodIn wsX12_print (va_wsS RX12 102 yX12_within wsX12_within) := goodIn_app (goodIn_of _ (by decide +kernel)) ggX12_print_X12_within
theorem dX12_print_0 : decode cX12_print 0 = .ok (.iload_n 1, 1) := by decide +kernel
theorem dX12_print_1 : decode cX12_print 1 = .ok (.iconst 0, 1) := by decide +kernel
theorem dX12_print_2 : decode cX12_print 2 = .ok (.aload_n 0, 1) := by decide +kernel
theorem dX12_print_3 : decode cX12_print 3 = .ok (.getfield 129, 3) := by decide +kernel
theorem dX12_print_6 : decode cX12_print 6 = .ok (.iconst 1, 1) := by decide +kernel
theorem dX12_print_7 : decode cX12_print 7 = .ok (.isub, 1) := by decide +kernel
theorem dX12_print_8 : decode cX12_print 8 = .ok (.invokestatic 102, 3) := by decide +kernel
theorem dX12_print_11 : decode cX12_print 11 = .ok (.ifCond .ne 6, 3) := by decide +kernel
theorem dX12_print_14 : decode cX12_print 14 = .ok (.bipush (-101), 2) := by decide +kernel
theorem dX12_print_16 : decode cX12_print 16 = .ok (.ireturn, 1) := by decide +kernel
theorem dX12_print_17 : decode cX12_print 17 = .ok (.iload_n 2, 1) := by decide +kernel
theorem dX12_print_18 : decode cX12_print 18 = .ok (.iconst 0, 1) := by decide +kernel
theorem dX12_print_19 : decode cX12_print 19 = .ok (.iconst 1, 1) := by decide +kernel
theorem dX12_print_20 : decode cX12_print 20 = .ok (.invokestatic 102, 3) := by decide +kernel
theorem dX12_print_23 : decode cX12_print 23 = .ok (.ifCond .eq 12, 3) := by decide +kernel
theorem dX12_print_26 : decode cX12_print 26 = .ok (.iload_n 3, 1) := by decide +kernel
theorem dX12_print_27 : decode cX12_print 27 = .ok (.iconst 0, 1) := by decide +kernel
theorem dX12_print_28 : decode cX12_print 28 = .ok (.iconst 1, 1) := by decide +kernel
theorem dX12_print_29 : decode cX12_print 29 = .ok (.invokestatic 102, 3) := by decide +kernel
theorem dX12_print_32 : decode cX12_print 32 = .ok (.ifCond .ne 6, 3) := by decide +kernel
theorem dX12_print_35 : decode cX12_print 35 = .ok (.bipush (-102), 2) := by decide +kernel
theorem dX12_print_37 : decode cX12_print 37 = .ok (.ireturn, 1) := by decide +kernel
theorem dX12_print_38 : decode cX12_print 38 = .ok (.aload_n 0, 1) := by decide +kernel
theorem dX12_print_39 : decode cX12_print 39 = .ok (.getfield 141, 3) := by decide +kernel
theorem dX12_print_42 : decode cX12_print 42 = .ok (.bipush 6, 2) := by decide +kernel
theorem dX12_print_44 : decode cX12_print 44 = .ok (.if_icmp .ne 6, 3) := by decide +kernel
theorem dX12_print_47 : decode cX12_print 47 = .ok (.bipush (-104), 2) := by decide +kernel
theorem dX12_print_49 : decode cX12_print 49 = .ok (.ireturn, 1) := by decide +kernel
theorem dX12_print_50 : decode cX12_print 50 = .ok (.aload_n 0, 1) := by decide +kernel
theorem dX12_print_51 : decode cX12_print 51 = .ok (.getfield 31, 3) := by decide +kernel
theorem dX12_print_54 : decode cX12_print 54 = .ok (.aload_n 0, 1) := by decide +kernel
theorem dX12_print_55 : decode cX12_print 55 = .ok (.getfield 141, 3) := by decide +kernel
theorem dX12_print_58 : decode cX12_print 58 = .ok (.iconst 4, 1) := by decide +kernel
theorem dX12_print_59 : decode cX12_print 59 = .ok (.iload_n 1, 1) := by decide +kernel
theorem dX12_print_60 : decode cX12_print 60 = .ok (.imul, 1) := by decide +kernel
theorem dX12_print_61 : decode cX12_print 61 = .ok (.iconst 2, 1) := by decide +kernel
theorem dX12_print_62 : decode cX12_print 62 = .ok (.iload_n 2, 1) := by decide +kernel
theorem dX12_print_63 : decode cX12_print 63 = .ok (.imul, 1) := by decide +kernel
theorem dX12_print_64 : decode cX12_print 64 = .ok (.iadd, 1) := by decide +kernel
theorem dX12_print_65 : decode cX12_print 65 = .ok (.iload_n 3, 1) := by decide +kernel
theorem dX12_print_66 : decode cX12_print 66 = .ok (.iadd, 1) := by decide +kernel
theorem dX12_print_67 : decode cX12_print 67 = .ok (.iastore, 1) := by decide +kernel
theorem dX12_print_68 : decode cX12_print 68 = .ok (.aload_n 0, 1) := by decide +kernel
theorem dX12_print_69 : decode cX12_print 69 = .ok (.dup, 1) := by decide +kernel
theorem dX12_print_70 : decode cX12_print 70 = .ok (.getfield 141, 3) := by decide +kernel
theorem dX12_print_73 : decode cX12_print 73 = .ok (.iconst 1, 1) := by decide +kernel
theorem dX12_print_74 : decode cX12_print 74 = .ok (.iadd, 1) := by decide +kernel
theorem dX12_print_75 : decode cX12_print 75 = .ok (.putfield 141, 3) := by decide +kernel
theorem dX12_print_78 : decode cX12_print 78 = .ok (.aload_n 0, 1) := by decide +kernel
theorem dX12_print_79 : decode cX12_print 79 = .ok (.getfield 141, 3) := by decide +kernel
theorem dX12_print_82 : decode cX12_print 82 = .ok (.ireturn, 1) := by decide +kernel
theorem dX12_wipe_0 : decode cX12_wipe 0 = .ok (.aload_n 0, 1) := by decide +kernel
theorem dX12_wipe_1 : decode cX12_wipe 1 = .ok (.getfield 141, 3) := by decide +kernel
theorem dX12_wipe_4 : decode cX12_wipe 4 = .ok (.istore_n 1, 1) := by decide +kernel
theorem dX12_wipe_5 : decode cX12_wipe 5 = .ok (.aload_n 0, 1) := by decide +kernel
theorem dX12_wipe_6 : decode cX12_wipe 6 = .ok (.iconst 0, 1) := by decide +kernel
theorem dX12_wipe_7 : decode cX12_wipe 7 = .ok (.putfield 141, 3) := by decide +kernel
theorem dX12_wipe_10 : decode cX12_wipe 10 = .ok (.iload_n 1, 1) := by decide +kernel
theorem dX12_wipe_11 : decode cX12_wipe 11 = .ok (.ireturn, 1) := by decide +kernel
set_option maxRecDepth 20000 in
theorem ggX12_leaves_X12_behind : GoodIn wsX12_leaves wsX12_behind := goodIn_r _ [14, 7, 15, 8, 16, 17, 18, 19, 20, 13, 21, 22, 23, 24, 25, 26, 27, 28, 29, 30, 31, 32, 33, 34, 35, 36, 37, 38, 39, 40, 41, 42, 43, 44, 45, 46, 47, 48, 49, 50, 51, 52, 53, 54, 55, 56, 57, 58, 59, 60, 61, 62, 63, 64, 65, 66, 67, 68, 69, 70, 71, 72, 73, 74, 75, 76, 77, 78, 79, 80, 81, 82, 83, 84, 85, 86, 87] (by decide +kernel) (by decide +kernel)
set_option maxRecDepth 20000 in
theorem gX12_leaves_X12_behind : GoodIn wsX12_leaves (wsV RX12 180 RX12 yX12_behind wsX12_behind) := goodIn_app (goodIn_of _ (by decide +kernel)) ggX12_leaves_X12_behind
set_option maxRecDepth 20000 in
theorem ggX12_leaves_X12_placeIn : GoodIn wsX12_leaves wsX12_placeIn := goodIn_r _ [24] (by decide +kernel) (by decide +kernel)
set_option maxRecDepth 20000 in
theorem gX12_leaves_X12_placeIn : GoodIn wsX12_leaves (va_wsS RX12 158 yX12_placeIn wsX12_placeIn) := goodIn_app (goodIn_of _ (by decide +kernel)) ggX12_leaves_X12_placeIn
set_option maxRecDepth 20000 in
theorem ggX12_leaves_X12_footIn : GoodIn wsX12_leaves wsX12_footIn := goodIn_r _ [30] (by decide +kernel) (by decide +kernel)
set_option maxRecDepth 20000 in
theorem gX12_leaves_X12_footIn : GoodIn wsX12_leaves (va_wsS RX12 161 yX12_footIn wsX12_footIn) := goodIn_app (goodIn_of _ (by decide +kernel)) ggX12_leaves_X12_footIn
theorem dX12_leaves_0 : decode cX12_leaves 0 = .ok (.iconst 0, 1) := by decide +kernel
theorem dX12_leaves_1 : decode cX12_leaves 1 = .ok (.istore_n 2, 1) := by decide +kernel
theorem dX12_leaves_2 : decode cX12_leaves 2 = .ok (.iload_n 2, 1) := by decide +kernel
theorem dX12_leaves_3 : decode cX12_leaves 3 = .ok (.sipush 2646, 3) := by decide +kernel
theorem dX12_leaves_6 : decode cX12_leaves 6 = .ok (.if_icmp .ge 16, 3) := by decide +kernel
theorem dX12_leaves_9 : decode cX12_leaves 9 = .ok (.aload_n 0, 1) := by decide +kernel
theorem dX12_leaves_10 : decode cX12_leaves 10 = .ok (.getfield 75, 3) := by decide +kernel
theorem dX12_leaves_13 : decode cX12_leaves 13 = .ok (.iload_n 2, 1) := by decide +kernel
theorem dX12_leaves_14 : decode cX12_leaves 14 = .ok (.iconst 0, 1) := by decide +kernel
theorem dX12_leaves_15 : decode cX12_leaves 15 = .ok (.bastore, 1) := by decide +kernel
theorem dX12_leaves_16 : decode cX12_leaves 16 = .ok (.iinc 2 1, 3) := by decide +kernel
theorem dX12_leaves_19 : decode cX12_leaves 19 = .ok (.goto (-17), 3) := by decide +kernel
theorem dX12_leaves_22 : decode cX12_leaves 22 = .ok (.aload_n 0, 1) := by decide +kernel
theorem dX12_leaves_23 : decode cX12_leaves 23 = .ok (.getfield 75, 3) := by decide +kernel
theorem dX12_leaves_26 : decode cX12_leaves 26 = .ok (.aload_n 0, 1) := by decide +kernel
theorem dX12_leaves_27 : decode cX12_leaves 27 = .ok (.getfield 25, 3) := by decide +kernel
theorem dX12_leaves_30 : decode cX12_leaves 30 = .ok (.iload_n 1, 1) := by decide +kernel
theorem dX12_leaves_31 : decode cX12_leaves 31 = .ok (.iaload, 1) := by decide +kernel
theorem dX12_leaves_32 : decode cX12_leaves 32 = .ok (.iconst 1, 1) := by decide +kernel
theorem dX12_leaves_33 : decode cX12_leaves 33 = .ok (.bastore, 1) := by decide +kernel
theorem dX12_leaves_34 : decode cX12_leaves 34 = .ok (.aload_n 0, 1) := by decide +kernel
theorem dX12_leaves_35 : decode cX12_leaves 35 = .ok (.getfield 78, 3) := by decide +kernel
theorem dX12_leaves_38 : decode cX12_leaves 38 = .ok (.iconst 0, 1) := by decide +kernel
theorem dX12_leaves_39 : decode cX12_leaves 39 = .ok (.aload_n 0, 1) := by decide +kernel
theorem dX12_leaves_40 : decode cX12_leaves 40 = .ok (.getfield 25, 3) := by decide +kernel
theorem dX12_leaves_43 : decode cX12_leaves 43 = .ok (.iload_n 1, 1) := by decide +kernel
theorem dX12_leaves_44 : decode cX12_leaves 44 = .ok (.iaload, 1) := by decide +kernel
theorem dX12_leaves_45 : decode cX12_leaves 45 = .ok (.iastore, 1) := by decide +kernel
theorem dX12_leaves_46 : decode cX12_leaves 46 = .ok (.iconst 1, 1) := by decide +kernel
theorem dX12_leaves_47 : decode cX12_leaves 47 = .ok (.istore_n 2, 1) := by decide +kernel
theorem dX12_leaves_48 : decode cX12_leaves 48 = .ok (.iconst 0, 1) := by decide +kernel
theorem dX12_leaves_49 : decode cX12_leaves 49 = .ok (.istore_n 3, 1) := by decide +kernel
theorem dX12_leaves_50 : decode cX12_leaves 50 = .ok (.iload_n 3, 1) := by decide +kernel
theorem dX12_leaves_51 : decode cX12_leaves 51 = .ok (.iload_n 2, 1) := by decide +kernel
theorem dX12_leaves_52 : decode cX12_leaves 52 = .ok (.if_icmp .ge 215, 3) := by decide +kernel
theorem dX12_leaves_55 : decode cX12_leaves 55 = .ok (.aload_n 0, 1) := by decide +kernel
theorem dX12_leaves_56 : decode cX12_leaves 56 = .ok (.getfield 78, 3) := by decide +kernel
theorem dX12_leaves_59 : decode cX12_leaves 59 = .ok (.iload_n 3, 1) := by decide +kernel
theorem dX12_leaves_60 : decode cX12_leaves 60 = .ok (.iaload, 1) := by decide +kernel
theorem dX12_leaves_61 : decode cX12_leaves 61 = .ok (.sipush 378, 3) := by decide +kernel
theorem dX12_leaves_64 : decode cX12_leaves 64 = .ok (.idiv, 1) := by decide +kernel
theorem dX12_leaves_65 : decode cX12_leaves 65 = .ok (.istore 4, 2) := by decide +kernel
theorem dX12_leaves_67 : decode cX12_leaves 67 = .ok (.aload_n 0, 1) := by decide +kernel
theorem dX12_leaves_68 : decode cX12_leaves 68 = .ok (.getfield 78, 3) := by decide +kernel
theorem dX12_leaves_71 : decode cX12_leaves 71 = .ok (.iload_n 3, 1) := by decide +kernel
theorem dX12_leaves_72 : decode cX12_leaves 72 = .ok (.iaload, 1) := by decide +kernel
theorem dX12_leaves_73 : decode cX12_leaves 73 = .ok (.sipush 378, 3) := by decide +kernel
theorem dX12_leaves_76 : decode cX12_leaves 76 = .ok (.irem, 1) := by decide +kernel
theorem dX12_leaves_77 : decode cX12_leaves 77 = .ok (.istore 5, 2) := by decide +kernel
theorem dX12_leaves_79 : decode cX12_leaves 79 = .ok (.iload 4, 2) := by decide +kernel
theorem dX12_leaves_81 : decode cX12_leaves 81 = .ok (.aload_n 0, 1) := by decide +kernel
theorem dX12_leaves_82 : decode cX12_leaves 82 = .ok (.getfield 141, 3) := by decide +kernel
theorem dX12_leaves_85 : decode cX12_leaves 85 = .ok (.if_icmp .ne 5, 3) := by decide +kernel
theorem dX12_leaves_88 : decode cX12_leaves 88 = .ok (.iconst 1, 1) := by decide +kernel
theorem dX12_leaves_89 : decode cX12_leaves 89 = .ok (.ireturn, 1) := by decide +kernel
theorem dX12_leaves_90 : decode cX12_leaves 90 = .ok (.iconst 0, 1) := by decide +kernel
theorem dX12_leaves_91 : decode cX12_leaves 91 = .ok (.istore 6, 2) := by decide +kernel
theorem dX12_leaves_93 : decode cX12_leaves 93 = .ok (.iload 6, 2) := by decide +kernel
theorem dX12_leaves_95 : decode cX12_leaves 95 = .ok (.aload_n 0, 1) := by decide +kernel
theorem dX12_leaves_96 : decode cX12_leaves 96 = .ok (.getfield 126, 3) := by decide +kernel
theorem dX12_leaves_99 : decode cX12_leaves 99 = .ok (.if_icmp .ge 162, 3) := by decide +kernel
theorem dX12_leaves_102 : decode cX12_leaves 102 = .ok (.aload_n 0, 1) := by decide +kernel
theorem dX12_leaves_103 : decode cX12_leaves 103 = .ok (.aload_n 0, 1) := by decide +kernel
theorem dX12_leaves_104 : decode cX12_leaves 104 = .ok (.getfield 22, 3) := by decide +kernel
theorem dX12_leaves_107 : decode cX12_leaves 107 = .ok (.iload_n 1, 1) := by decide +kernel
theorem dX12_leaves_108 : decode cX12_leaves 108 = .ok (.iaload, 1) := by decide +kernel
theorem dX12_leaves_109 : decode cX12_leaves 109 = .ok (.iload 5, 2) := by decide +kernel
theorem dX12_leaves_111 : decode cX12_leaves 111 = .ok (.iload 6, 2) := by decide +kernel
theorem dX12_leaves_113 : decode cX12_leaves 113 = .ok (.invokevirtual 180, 3) := by decide +kernel
theorem dX12_leaves_116 : decode cX12_leaves 116 = .ok (.istore 7, 2) := by decide +kernel
theorem dX12_leaves_118 : decode cX12_leaves 118 = .ok (.iload 7, 2) := by decide +kernel
theorem dX12_leaves_120 : decode cX12_leaves 120 = .ok (.iconst (-1), 1) := by decide +kernel
theorem dX12_leaves_121 : decode cX12_leaves 121 = .ok (.if_icmp .eq 134, 3) := by decide +kernel
theorem dX12_leaves_124 : decode cX12_leaves 124 = .ok (.aload_n 0, 1) := by decide +kernel
theorem dX12_leaves_125 : decode cX12_leaves 125 = .ok (.getfield 7, 3) := by decide +kernel
theorem dX12_leaves_128 : decode cX12_leaves 128 = .ok (.iload 6, 2) := by decide +kernel
theorem dX12_leaves_130 : decode cX12_leaves 130 = .ok (.iaload, 1) := by decide +kernel
theorem dX12_leaves_131 : decode cX12_leaves 131 = .ok (.iload 5, 2) := by decide +kernel
theorem dX12_leaves_133 : decode cX12_leaves 133 = .ok (.invokestatic 158, 3) := by decide +kernel
theorem dX12_leaves_136 : decode cX12_leaves 136 = .ok (.if_icmp .ne 7, 3) := by decide +kernel
theorem dX12_leaves_139 : decode cX12_leaves 139 = .ok (.iconst 0, 1) := by decide +kernel
theorem dX12_leaves_140 : decode cX12_leaves 140 = .ok (.goto 4, 3) := by decide +kernel
theorem dX12_leaves_143 : decode cX12_leaves 143 = .ok (.iconst 1, 1) := by decide +kernel
theorem dX12_leaves_144 : decode cX12_leaves 144 = .ok (.istore 8, 2) := by decide +kernel
theorem dX12_leaves_146 : decode cX12_leaves 146 = .ok (.iconst 4, 1) := by decide +kernel
theorem dX12_leaves_147 : decode cX12_leaves 147 = .ok (.aload_n 0, 1) := by decide +kernel
theorem dX12_leaves_148 : decode cX12_leaves 148 = .ok (.getfield 19, 3) := by decide +kernel
theorem dX12_leaves_151 : decode cX12_leaves 151 = .ok (.iload 6, 2) := by decide +kernel
theorem dX12_leaves_153 : decode cX12_leaves 153 = .ok (.iaload, 1) := by decide +kernel
theorem dX12_leaves_154 : decode cX12_leaves 154 = .ok (.imul, 1) := by decide +kernel
theorem dX12_leaves_155 : decode cX12_leaves 155 = .ok (.iconst 2, 1) := by decide +kernel
theorem dX12_leaves_156 : decode cX12_leaves 156 = .ok (.iload 8, 2) := by decide +kernel
theorem dX12_leaves_158 : decode cX12_leaves 158 = .ok (.imul, 1) := by decide +kernel
theorem dX12_leaves_159 : decode cX12_leaves 159 = .ok (.iadd, 1) := by decide +kernel
theorem dX12_leaves_160 : decode cX12_leaves 160 = .ok (.iload 7, 2) := by decide +kernel
theorem dX12_leaves_162 : decode cX12_leaves 162 = .ok (.invokestatic 161, 3) := by decide +kernel
theorem dX12_leaves_165 : decode cX12_leaves 165 = .ok (.iadd, 1) := by decide +kernel
theorem dX12_leaves_166 : decode cX12_leaves 166 = .ok (.istore 9, 2) := by decide +kernel
theorem dX12_leaves_168 : decode cX12_leaves 168 = .ok (.aload_n 0, 1) := by decide +kernel
theorem dX12_leaves_169 : decode cX12_leaves 169 = .ok (.getfield 19, 3) := by decide +kernel
theorem dX12_leaves_172 : decode cX12_leaves 172 = .ok (.iload 6, 2) := by decide +kernel
theorem dX12_leaves_174 : decode cX12_leaves 174 = .ok (.iaload, 1) := by decide +kernel
theorem dX12_leaves_175 : decode cX12_leaves 175 = .ok (.iconst (-1), 1) := by decide +kernel
theorem dX12_leaves_176 : decode cX12_leaves 176 = .ok (.if_icmp .ne 15, 3) := by decide +kernel
theorem dX12_leaves_179 : decode cX12_leaves 179 = .ok (.sipush 378, 3) := by decide +kernel
theorem dX12_leaves_182 : decode cX12_leaves 182 = .ok (.iload 4, 2) := by decide +kernel
theorem dX12_leaves_184 : decode cX12_leaves 184 = .ok (.imul, 1) := by decide +kernel
theorem dX12_leaves_185 : decode cX12_leaves 185 = .ok (.iload 7, 2) := by decide +kernel
theorem dX12_leaves_187 : decode cX12_leaves 187 = .ok (.iadd, 1) := by decide +kernel
theorem dX12_leaves_188 : decode cX12_leaves 188 = .ok (.goto 30, 3) := by decide +kernel
theorem dX12_leaves_191 : decode cX12_leaves 191 = .ok (.iload 9, 2) := by decide +kernel
theorem dX12_leaves_193 : decode cX12_leaves 193 = .ok (.aload_n 0, 1) := by decide +kernel
theorem dX12_leaves_194 : decode cX12_leaves 194 = .ok (.getfield 31, 3) := by decide +kernel
theorem dX12_leaves_197 : decode cX12_leaves 197 = .ok (.iload 4, 2) := by decide +kernel
theorem dX12_leaves_199 : decode cX12_leaves 199 = .ok (.iaload, 1) := by decide +kernel
theorem dX12_leaves_200 : decode cX12_leaves 200 = .ok (.if_icmp .ne 17, 3) := by decide +kernel
theorem dX12_leaves_203 : decode cX12_leaves 203 = .ok (.sipush 378, 3) := by decide +kernel
theorem dX12_leaves_206 : decode cX12_leaves 206 = .ok (.iload 4, 2) := by decide +kernel
theorem dX12_leaves_208 : decode cX12_leaves 208 = .ok (.iconst 1, 1) := by decide +kernel
theorem dX12_leaves_209 : decode cX12_leaves 209 = .ok (.iadd, 1) := by decide +kernel
theorem dX12_leaves_210 : decode cX12_leaves 210 = .ok (.imul, 1) := by decide +kernel
theorem dX12_leaves_211 : decode cX12_leaves 211 = .ok (.iload 7, 2) := by decide +kernel
theorem dX12_leaves_213 : decode cX12_leaves 213 = .ok (.iadd, 1) := by decide +kernel
theorem dX12_leaves_214 : decode cX12_leaves 214 = .ok (.goto 4, 3) := by decide +kernel
theorem dX12_leaves_217 : decode cX12_leaves 217 = .ok (.iconst (-1), 1) := by decide +kernel
theorem dX12_leaves_218 : decode cX12_leaves 218 = .ok (.istore 10, 2) := by decide +kernel
theorem dX12_leaves_220 : decode cX12_leaves 220 = .ok (.iload 10, 2) := by decide +kernel
theorem dX12_leaves_222 : decode cX12_leaves 222 = .ok (.iconst (-1), 1) := by decide +kernel
theorem dX12_leaves_223 : decode cX12_leaves 223 = .ok (.if_icmp .eq 32, 3) := by decide +kernel
theorem dX12_leaves_226 : decode cX12_leaves 226 = .ok (.aload_n 0, 1) := by decide +kernel
theorem dX12_leaves_227 : decode cX12_leaves 227 = .ok (.getfield 75, 3) := by decide +kernel
theorem dX12_leaves_230 : decode cX12_leaves 230 = .ok (.iload 10, 2) := by decide +kernel
theorem dX12_leaves_232 : decode cX12_leaves 232 = .ok (.baload, 1) := by decide +kernel
theorem dX12_leaves_233 : decode cX12_leaves 233 = .ok (.ifCond .ne 22, 3) := by decide +kernel
theorem dX12_leaves_236 : decode cX12_leaves 236 = .ok (.aload_n 0, 1) := by decide +kernel
theorem dX12_leaves_237 : decode cX12_leaves 237 = .ok (.getfield 75, 3) := by decide +kernel
theorem dX12_leaves_240 : decode cX12_leaves 240 = .ok (.iload 10, 2) := by decide +kernel
theorem dX12_leaves_242 : decode cX12_leaves 242 = .ok (.iconst 1, 1) := by decide +kernel
theorem dX12_leaves_243 : decode cX12_leaves 243 = .ok (.bastore, 1) := by decide +kernel
theorem dX12_leaves_244 : decode cX12_leaves 244 = .ok (.aload_n 0, 1) := by decide +kernel
theorem dX12_leaves_245 : decode cX12_leaves 245 = .ok (.getfield 78, 3) := by decide +kernel
theorem dX12_leaves_248 : decode cX12_leaves 248 = .ok (.iload_n 2, 1) := by decide +kernel
theorem dX12_leaves_249 : decode cX12_leaves 249 = .ok (.iload 10, 2) := by decide +kernel
theorem dX12_leaves_251 : decode cX12_leaves 251 = .ok (.iastore, 1) := by decide +kernel
theorem dX12_leaves_252 : decode cX12_leaves 252 = .ok (.iinc 2 1, 3) := by decide +kernel
theorem dX12_leaves_255 : decode cX12_leaves 255 = .ok (.iinc 6 1, 3) := by decide +kernel
theorem dX12_leaves_258 : decode cX12_leaves 258 = .ok (.goto (-165), 3) := by decide +kernel
theorem dX12_leaves_261 : decode cX12_leaves 261 = .ok (.iinc 3 1, 3) := by decide +kernel
theorem dX12_leaves_264 : decode cX12_leaves 264 = .ok (.goto (-214), 3) := by decide +kernel
theorem dX12_leaves_267 : decode cX12_leaves 267 = .ok (.iconst 0, 1) := by decide +kernel
theorem dX12_leaves_268 : decode cX12_leaves 268 = .ok (.ireturn, 1) := by decide +kernel
set_option maxRecDepth 20000 in
theorem ggX12_whoNow_X12_leaves : GoodIn wsX12_whoNow wsX12_leaves := goodIn_r _ [6, 7, 8, 9, 10, 11, 12, 13, 14, 15, 16, 17, 18, 5, 19, 20, 21, 22, 23, 24, 25, 26, 27, 28, 29, 30, 31, 32, 33, 34, 35, 36, 37, 38, 39, 40, 41, 42, 43, 44, 45, 46, 47, 48, 49, 50, 51, 52, 53, 54, 55, 56, 57, 58, 59, 60, 61, 62, 63, 64, 65, 66, 67, 68, 69, 70, 71, 72, 73, 74, 75, 76, 77, 78, 79, 80, 81, 82, 83, 84, 85, 86, 87, 88, 89, 90, 91, 92] (by decide +kernel) (by decide +kernel)
set_option maxRecDepth 20000 in
theorem gX12_whoNow_X12_leaves : GoodIn wsX12_whoNow (wsV RX12 266 RX12 yX12_leaves wsX12_leaves) := goodIn_app (goodIn_of _ (by decide +kernel)) ggX12_whoNow_X12_leaves
theorem dX12_whoNow_0 : decode cX12_whoNow 0 = .ok (.iconst 0, 1) := by decide +kernel
theorem dX12_whoNow_1 : decode cX12_whoNow 1 = .ok (.istore_n 1, 1) := by decide +kernel
theorem dX12_whoNow_2 : decode cX12_whoNow 2 = .ok (.iconst 0, 1) := by decide +kernel
theorem dX12_whoNow_3 : decode cX12_whoNow 3 = .ok (.istore_n 2, 1) := by decide +kernel
theorem dX12_whoNow_4 : decode cX12_whoNow 4 = .ok (.iload_n 2, 1) := by decide +kernel
theorem dX12_whoNow_5 : decode cX12_whoNow 5 = .ok (.aload_n 0, 1) := by decide +kernel
theorem dX12_whoNow_6 : decode cX12_whoNow 6 = .ok (.getfield 138, 3) := by decide +kernel
theorem dX12_whoNow_9 : decode cX12_whoNow 9 = .ok (.if_icmp .ge 27, 3) := by decide +kernel
theorem dX12_whoNow_12 : decode cX12_whoNow 12 = .ok (.iload_n 1, 1) := by decide +kernel
theorem dX12_whoNow_13 : decode cX12_whoNow 13 = .ok (.aload_n 0, 1) := by decide +kernel
theorem dX12_whoNow_14 : decode cX12_whoNow 14 = .ok (.iload_n 2, 1) := by decide +kernel
theorem dX12_whoNow_15 : decode cX12_whoNow 15 = .ok (.invokevirtual 266, 3) := by decide +kernel
theorem dX12_whoNow_18 : decode cX12_whoNow 18 = .ok (.ifCond .eq 9, 3) := by decide +kernel
theorem dX12_whoNow_21 : decode cX12_whoNow 21 = .ok (.iconst 1, 1) := by decide +kernel
theorem dX12_whoNow_22 : decode cX12_whoNow 22 = .ok (.iload_n 2, 1) := by decide +kernel
theorem dX12_whoNow_23 : decode cX12_whoNow 23 = .ok (.ishl, 1) := by decide +kernel
theorem dX12_whoNow_24 : decode cX12_whoNow 24 = .ok (.goto 4, 3) := by decide +kernel
theorem dX12_whoNow_27 : decode cX12_whoNow 27 = .ok (.iconst 0, 1) := by decide +kernel
theorem dX12_whoNow_28 : decode cX12_whoNow 28 = .ok (.ior, 1) := by decide +kernel
theorem dX12_whoNow_29 : decode cX12_whoNow 29 = .ok (.istore_n 1, 1) := by decide +kernel
theorem dX12_whoNow_30 : decode cX12_whoNow 30 = .ok (.iinc 2 1, 3) := by decide +kernel
theorem dX12_whoNow_33 : decode cX12_whoNow 33 = .ok (.goto (-29), 3) := by decide +kernel
theorem dX12_whoNow_36 : decode cX12_whoNow 36 = .ok (.iload_n 1, 1) := by decide +kernel
theorem dX12_whoNow_37 : decode cX12_whoNow 37 = .ok (.ireturn, 1) := by decide +kernel
set_option maxRecDepth 20000 in
theorem ggX12_who_X12_whoNow : GoodIn wsX12_who wsX12_whoNow := goodIn_r _ [5, 6, 7, 8, 9, 4, 10, 11, 12, 13, 14, 15, 16, 17, 18, 19, 20, 21, 22, 23, 24, 25, 26, 27, 28, 29, 30, 31, 32, 33, 34, 35, 36, 37, 38, 39, 40, 41, 42, 43, 44, 45, 46, 47, 48, 49, 50, 51, 52, 53, 54, 55, 56, 57, 58, 59, 60, 61, 62, 63, 64, 65, 66, 67, 68, 69, 70, 71, 72, 73, 74, 75, 76, 77, 78, 79, 80, 81, 82, 83, 84, 85, 86, 87, 88, 89, 90, 91, 92, 93, 94, 95, 96] (by decide +kernel) (by decide +kernel)
set_option maxRecDepth 20000 in
theorem gX12_who_X12_whoNow : GoodIn wsX12_who (wsV RX12 269 RX12 yX12_whoNow wsX12_whoNow) := goodIn_app (goodIn_of _ (by decide +kernel)) ggX12_who_X12_whoNow
theorem dX12_who_0 : decode cX12_who 0 = .ok (.aload_n 0, 1) := by decide +kernel
theorem dX12_who_1 : decode cX12_who 1 = .ok (.invokevirtual 269, 3) := by decide +kernel
theorem dX12_who_4 : decode cX12_who 4 = .ok (.ireturn, 1) := by decide +kernel
theorem dX12_draw_0 : decode cX12_draw 0 = .ok (.aload_n 0, 1) := by decide +kernel
theorem dX12_draw_1 : decode cX12_draw 1 = .ok (.ldc2_w 273, 3) := by decide +kernel
theorem dX12_draw_4 : decode cX12_draw 4 = .ok (.aload_n 0, 1) := by decide +kernel
theorem dX12_draw_5 : decode cX12_draw 5 = .ok (.getfield 275, 3) := by decide +kernel
theorem dX12_draw_8 : decode cX12_draw 8 = .ok (.lmul, 1) := by decide +kernel
theorem dX12_draw_9 : decode cX12_draw 9 = .ok (.ldc2_w 279, 3) := by decide +kernel
theorem dX12_draw_12 : decode cX12_draw 12 = .ok (.ladd, 1) := by decide +kernel
theorem dX12_draw_13 : decode cX12_draw 13 = .ok (.ldc2_w 281, 3) := by decide +kernel
theorem dX12_draw_16 : decode cX12_draw 16 = .ok (.land, 1) := by decide +kernel
theorem dX12_draw_17 : decode cX12_draw 17 = .ok (.putfield 275, 3) := by decide +kernel
theorem dX12_draw_20 : decode cX12_draw 20 = .ok (.aload_n 0, 1) := by decide +kernel
theorem dX12_draw_21 : decode cX12_draw 21 = .ok (.getfield 275, 3) := by decide +kernel
theorem dX12_draw_24 : decode cX12_draw 24 = .ok (.ldc2_w 283, 3) := by decide +kernel
theorem dX12_draw_27 : decode cX12_draw 27 = .ok (.ldiv, 1) := by decide +kernel
theorem dX12_draw_28 : decode cX12_draw 28 = .ok (.iload_n 1, 1) := by decide +kernel
theorem dX12_draw_29 : decode cX12_draw 29 = .ok (.i2l, 1) := by decide +kernel
theorem dX12_draw_30 : decode cX12_draw 30 = .ok (.lrem, 1) := by decide +kernel
theorem dX12_draw_31 : decode cX12_draw 31 = .ok (.l2i, 1) := by decide +kernel
theorem dX12_draw_32 : decode cX12_draw 32 = .ok (.ireturn, 1) := by decide +kernel
set_option maxRecDepth 20000 in
theorem ggX12_drawStreet_X12_isAt : GoodIn wsX12_drawStreet wsX12_isAt := goodIn_r _ [6, 7, 8, 9, 10, 5, 11, 21, 22, 23, 24, 25, 26, 27, 28, 29, 30, 31, 32, 33, 34, 35, 36, 37, 38, 39, 40, 41, 42, 43, 44, 45, 46, 47, 48, 49, 50, 51, 52, 53, 54, 55, 56, 57, 58, 59, 60, 61, 62, 63, 64, 65, 66, 67, 68, 69, 70, 71] (by decide +kernel) (by decide +kernel)
set_option maxRecDepth 20000 in
theorem gX12_drawStreet_X12_isAt : GoodIn wsX12_drawStreet (wsV RX12 176 RX12 yX12_isAt wsX12_isAt) := goodIn_app (goodIn_of _ (by decide +kernel)) ggX12_drawStreet_X12_isAt
set_option maxRecDepth 20000 in
theorem ggX12_drawStreet_X12_draw : GoodIn wsX12_drawStreet wsX12_draw := goodIn_r _ [15, 16, 17, 18, 19, 20, 21, 22, 23, 24, 25, 26, 27, 28, 29, 30, 31, 32, 33, 34, 35, 36, 37, 38, 39, 40, 41, 42, 43, 44, 45, 46, 47, 48, 49, 50, 51, 52, 53, 54, 55, 56, 57, 58, 59, 60, 61, 62, 63, 64, 65, 66, 67, 68, 69, 70, 71] (by decide +kernel) (by decide +kernel)
set_option maxRecDepth 20000 in
theorem gX12_drawStreet_X12_draw : GoodIn wsX12_drawStreet (wsV RX12 285 RX12 yX12_draw wsX12_draw) := goodIn_app (goodIn_of _ (by decide +kernel)) ggX12_drawStreet_X12_draw
theorem dX12_drawStreet_0 : decode cX12_drawStreet 0 = .ok (.iconst 0, 1) := by decide +kernel
theorem dX12_drawStreet_1 : decode cX12_drawStreet 1 = .ok (.istore_n 2, 1) := by decide +kernel
theorem dX12_drawStreet_2 : decode cX12_drawStreet 2 = .ok (.iconst 0, 1) := by decide +kernel
theorem dX12_drawStreet_3 : decode cX12_drawStreet 3 = .ok (.istore_n 3, 1) := by decide +kernel
theorem dX12_drawStreet_4 : decode cX12_drawStreet 4 = .ok (.iload_n 3, 1) := by decide +kernel
theorem dX12_drawStreet_5 : decode cX12_drawStreet 5 = .ok (.aload_n 0, 1) := by decide +kernel
theorem dX12_drawStreet_6 : decode cX12_drawStreet 6 = .ok (.getfield 126, 3) := by decide +kernel
theorem dX12_drawStreet_9 : decode cX12_drawStreet 9 = .ok (.if_icmp .ge 26, 3) := by decide +kernel
theorem dX12_drawStreet_12 : decode cX12_drawStreet 12 = .ok (.iload_n 2, 1) := by decide +kernel
theorem dX12_drawStreet_13 : decode cX12_drawStreet 13 = .ok (.aload_n 0, 1) := by decide +kernel
theorem dX12_drawStreet_14 : decode cX12_drawStreet 14 = .ok (.iload_n 1, 1) := by decide +kernel
theorem dX12_drawStreet_15 : decode cX12_drawStreet 15 = .ok (.iload_n 3, 1) := by decide +kernel
theorem dX12_drawStreet_16 : decode cX12_drawStreet 16 = .ok (.invokevirtual 176, 3) := by decide +kernel
theorem dX12_drawStreet_19 : decode cX12_drawStreet 19 = .ok (.ifCond .eq 7, 3) := by decide +kernel
theorem dX12_drawStreet_22 : decode cX12_drawStreet 22 = .ok (.iconst 1, 1) := by decide +kernel
theorem dX12_drawStreet_23 : decode cX12_drawStreet 23 = .ok (.goto 4, 3) := by decide +kernel
theorem dX12_drawStreet_26 : decode cX12_drawStreet 26 = .ok (.iconst 0, 1) := by decide +kernel
theorem dX12_drawStreet_27 : decode cX12_drawStreet 27 = .ok (.iadd, 1) := by decide +kernel
theorem dX12_drawStreet_28 : decode cX12_drawStreet 28 = .ok (.istore_n 2, 1) := by decide +kernel
theorem dX12_drawStreet_29 : decode cX12_drawStreet 29 = .ok (.iinc 3 1, 3) := by decide +kernel
theorem dX12_drawStreet_32 : decode cX12_drawStreet 32 = .ok (.goto (-28), 3) := by decide +kernel
theorem dX12_drawStreet_35 : decode cX12_drawStreet 35 = .ok (.iload_n 2, 1) := by decide +kernel
theorem dX12_drawStreet_36 : decode cX12_drawStreet 36 = .ok (.ifCond .ne 5, 3) := by decide +kernel
theorem dX12_drawStreet_39 : decode cX12_drawStreet 39 = .ok (.iconst (-1), 1) := by decide +kernel
theorem dX12_drawStreet_40 : decode cX12_drawStreet 40 = .ok (.ireturn, 1) := by decide +kernel
theorem dX12_drawStreet_41 : decode cX12_drawStreet 41 = .ok (.aload_n 0, 1) := by decide +kernel
theorem dX12_drawStreet_42 : decode cX12_drawStreet 42 = .ok (.iload_n 2, 1) := by decide +kernel
theorem dX12_drawStreet_43 : decode cX12_drawStreet 43 = .ok (.invokevirtual 285, 3) := by decide +kernel
theorem dX12_drawStreet_46 : decode cX12_drawStreet 46 = .ok (.istore_n 3, 1) := by decide +kernel
theorem dX12_drawStreet_47 : decode cX12_drawStreet 47 = .ok (.iconst 0, 1) := by decide +kernel
theorem dX12_drawStreet_48 : decode cX12_drawStreet 48 = .ok (.istore 4, 2) := by decide +kernel
theorem dX12_drawStreet_50 : decode cX12_drawStreet 50 = .ok (.aload_n 0, 1) := by decide +kernel
theorem dX12_drawStreet_51 : decode cX12_drawStreet 51 = .ok (.iload_n 1, 1) := by decide +kernel
theorem dX12_drawStreet_52 : decode cX12_drawStreet 52 = .ok (.iload 4, 2) := by decide +kernel
theorem dX12_drawStreet_54 : decode cX12_drawStreet 54 = .ok (.invokevirtual 176, 3) := by decide +kernel
theorem dX12_drawStreet_57 : decode cX12_drawStreet 57 = .ok (.ifCond .eq 7, 3) := by decide +kernel
theorem dX12_drawStreet_60 : decode cX12_drawStreet 60 = .ok (.iload_n 3, 1) := by decide +kernel
theorem dX12_drawStreet_61 : decode cX12_drawStreet 61 = .ok (.ifCond .le 27, 3) := by decide +kernel
theorem dX12_drawStreet_64 : decode cX12_drawStreet 64 = .ok (.iload_n 3, 1) := by decide +kernel
theorem dX12_drawStreet_65 : decode cX12_drawStreet 65 = .ok (.aload_n 0, 1) := by decide +kernel
theorem dX12_drawStreet_66 : decode cX12_drawStreet 66 = .ok (.iload_n 1, 1) := by decide +kernel
theorem dX12_drawStreet_67 : decode cX12_drawStreet 67 = .ok (.iload 4, 2) := by decide +kernel
theorem dX12_drawStreet_69 : decode cX12_drawStreet 69 = .ok (.invokevirtual 176, 3) := by decide +kernel
theorem dX12_drawStreet_72 : decode cX12_drawStreet 72 = .ok (.ifCond .eq 7, 3) := by decide +kernel
theorem dX12_drawStreet_75 : decode cX12_drawStreet 75 = .ok (.iconst 1, 1) := by decide +kernel
theorem dX12_drawStreet_76 : decode cX12_drawStreet 76 = .ok (.goto 4, 3) := by decide +kernel
theorem dX12_drawStreet_79 : decode cX12_drawStreet 79 = .ok (.iconst 0, 1) := by decide +kernel
theorem dX12_drawStreet_80 : decode cX12_drawStreet 80 = .ok (.isub, 1) := by decide +kernel
theorem dX12_drawStreet_81 : decode cX12_drawStreet 81 = .ok (.istore_n 3, 1) := by decide +kernel
theorem dX12_drawStreet_82 : decode cX12_drawStreet 82 = .ok (.iinc 4 1, 3) := by decide +kernel
theorem dX12_drawStreet_85 : decode cX12_drawStreet 85 = .ok (.goto (-35), 3) := by decide +kernel
theorem dX12_drawStreet_88 : decode cX12_drawStreet 88 = .ok (.iload 4, 2) := by decide +kernel
theorem dX12_drawStreet_90 : decode cX12_drawStreet 90 = .ok (.ireturn, 1) := by decide +kernel
set_option maxRecDepth 20000 in
theorem ggX12_walkNow_X12_drawStreet : GoodIn wsX12_walkNow wsX12_drawStreet := goodIn_r _ [8, 9, 10, 11, 12, 7, 13, 14, 15, 16, 17, 18, 19, 20, 21, 22, 23, 1, 24, 25, 26, 46, 47, 48, 49, 50, 51, 52, 53, 54, 55, 56, 57, 58, 59, 60, 61, 62, 63, 64, 65, 66, 67, 68, 69, 70, 71, 72, 73, 74, 75, 76, 77, 78, 79, 80, 81, 82, 83, 84, 85, 86, 87, 88, 89, 90, 91, 92, 93, 94, 95, 96] (by decide +kernel) (by decide +kernel)
set_option maxRecDepth 20000 in
theorem gX12_walkNow_X12_drawStreet : GoodIn wsX12_walkNow (wsV RX12 288 RX12 yX12_drawStreet wsX12_drawStreet) := goodIn_app (goodIn_of _ (by decide +kernel)) ggX12_walkNow_X12_drawStreet
set_option maxRecDepth 20000 in
theorem ggX12_walkNow_X12_behind : GoodIn wsX12_walkNow wsX12_behind := goodIn_r _ [30, 14, 31, 32, 15, 33, 10, 11, 12, 7, 13, 16, 17, 18, 34, 35, 36, 37, 38, 39, 40, 41, 42, 43, 44, 45, 46, 47, 48, 49, 50, 51, 52, 53, 54, 55, 56, 57, 58, 59, 60, 61, 62, 63, 64, 65, 66, 67, 68, 69, 70, 71, 72, 73, 74, 75, 76, 77, 78, 79, 80, 81, 82, 83, 84, 85, 86, 87, 88, 89, 90, 91, 92, 93, 94, 95, 96] (by decide +kernel) (by decide +kernel)
set_option maxRecDepth 20000 in
theorem gX12_walkNow_X12_behind : GoodIn wsX12_walkNow (wsV RX12 180 RX12 yX12_behind wsX12_behind) := goodIn_app (goodIn_of _ (by decide +kernel)) ggX12_walkNow_X12_behind
set_option maxRecDepth 20000 in
theorem ggX12_walkNow_X12_placeIn : GoodIn wsX12_walkNow wsX12_placeIn := goodIn_r _ [18] (by decide +kernel) (by decide +kernel)
set_option maxRecDepth 20000 in
theorem gX12_walkNow_X12_placeIn : GoodIn wsX12_walkNow (va_wsS RX12 158 yX12_placeIn wsX12_placeIn) := goodIn_app (goodIn_of _ (by decide +kernel)) ggX12_walkNow_X12_placeIn
set_option maxRecDepth 20000 in
theorem ggX12_walkNow_X12_footIn : GoodIn wsX12_walkNow wsX12_footIn := goodIn_r _ [39] (by decide +kernel) (by decide +kernel)
set_option maxRecDepth 20000 in
theorem gX12_walkNow_X12_footIn : GoodIn wsX12_walkNow (va_wsS RX12 161 yX12_footIn wsX12_footIn) := goodIn_app (goodIn_of _ (by decide +kernel)) ggX12_walkNow_X12_footIn
theorem dX12_walkNow_0 : decode cX12_walkNow 0 = .ok (.aload_n 0, 1) := by decide +kernel
theorem dX12_walkNow_1 : decode cX12_walkNow 1 = .ok (.iload_n 3, 1) := by decide +kernel
theorem dX12_walkNow_2 : decode cX12_walkNow 2 = .ok (.i2l, 1) := by decide +kernel
theorem dX12_walkNow_3 : decode cX12_walkNow 3 = .ok (.putfield 275, 3) := by decide +kernel
theorem dX12_walkNow_6 : decode cX12_walkNow 6 = .ok (.aload_n 0, 1) := by decide +kernel
theorem dX12_walkNow_7 : decode cX12_walkNow 7 = .ok (.getfield 25, 3) := by decide +kernel
theorem dX12_walkNow_10 : decode cX12_walkNow 10 = .ok (.iload_n 1, 1) := by decide +kernel
theorem dX12_walkNow_11 : decode cX12_walkNow 11 = .ok (.iaload, 1) := by decide +kernel
theorem dX12_walkNow_12 : decode cX12_walkNow 12 = .ok (.istore 5, 2) := by decide +kernel
theorem dX12_walkNow_14 : decode cX12_walkNow 14 = .ok (.iconst 0, 1) := by decide +kernel
theorem dX12_walkNow_15 : decode cX12_walkNow 15 = .ok (.istore 6, 2) := by decide +kernel
theorem dX12_walkNow_17 : decode cX12_walkNow 17 = .ok (.iconst 0, 1) := by decide +kernel
theorem dX12_walkNow_18 : decode cX12_walkNow 18 = .ok (.istore 7, 2) := by decide +kernel
theorem dX12_walkNow_20 : decode cX12_walkNow 20 = .ok (.iload 7, 2) := by decide +kernel
theorem dX12_walkNow_22 : decode cX12_walkNow 22 = .ok (.iload_n 2, 1) := by decide +kernel
theorem dX12_walkNow_23 : decode cX12_walkNow 23 = .ok (.if_icmp .ge 70, 3) := by decide +kernel
theorem dX12_walkNow_26 : decode cX12_walkNow 26 = .ok (.aload_n 0, 1) := by decide +kernel
theorem dX12_walkNow_27 : decode cX12_walkNow 27 = .ok (.iload 5, 2) := by decide +kernel
theorem dX12_walkNow_29 : decode cX12_walkNow 29 = .ok (.invokevirtual 288, 3) := by decide +kernel
theorem dX12_walkNow_32 : decode cX12_walkNow 32 = .ok (.istore 8, 2) := by decide +kernel
theorem dX12_walkNow_34 : decode cX12_walkNow 34 = .ok (.iload 8, 2) := by decide +kernel
theorem dX12_walkNow_36 : decode cX12_walkNow 36 = .ok (.iconst (-1), 1) := by decide +kernel
theorem dX12_walkNow_37 : decode cX12_walkNow 37 = .ok (.if_icmp .eq 50, 3) := by decide +kernel
theorem dX12_walkNow_40 : decode cX12_walkNow 40 = .ok (.aload_n 0, 1) := by decide +kernel
theorem dX12_walkNow_41 : decode cX12_walkNow 41 = .ok (.aload_n 0, 1) := by decide +kernel
theorem dX12_walkNow_42 : decode cX12_walkNow 42 = .ok (.getfield 22, 3) := by decide +kernel
theorem dX12_walkNow_45 : decode cX12_walkNow 45 = .ok (.iload_n 1, 1) := by decide +kernel
theorem dX12_walkNow_46 : decode cX12_walkNow 46 = .ok (.iaload, 1) := by decide +kernel
theorem dX12_walkNow_47 : decode cX12_walkNow 47 = .ok (.iload 5, 2) := by decide +kernel
theorem dX12_walkNow_49 : decode cX12_walkNow 49 = .ok (.iload 8, 2) := by decide +kernel
theorem dX12_walkNow_51 : decode cX12_walkNow 51 = .ok (.invokevirtual 180, 3) := by decide +kernel
theorem dX12_walkNow_54 : decode cX12_walkNow 54 = .ok (.istore 9, 2) := by decide +kernel
theorem dX12_walkNow_56 : decode cX12_walkNow 56 = .ok (.iload 6, 2) := by decide +kernel
theorem dX12_walkNow_58 : decode cX12_walkNow 58 = .ok (.iload 9, 2) := by decide +kernel
theorem dX12_walkNow_60 : decode cX12_walkNow 60 = .ok (.iconst (-1), 1) := by decide +kernel
theorem dX12_walkNow_61 : decode cX12_walkNow 61 = .ok (.if_icmp .ne 7, 3) := by decide +kernel
theorem dX12_walkNow_64 : decode cX12_walkNow 64 = .ok (.iconst 1, 1) := by decide +kernel
theorem dX12_walkNow_65 : decode cX12_walkNow 65 = .ok (.goto 4, 3) := by decide +kernel
theorem dX12_walkNow_68 : decode cX12_walkNow 68 = .ok (.iconst 0, 1) := by decide +kernel
theorem dX12_walkNow_69 : decode cX12_walkNow 69 = .ok (.iadd, 1) := by decide +kernel
theorem dX12_walkNow_70 : decode cX12_walkNow 70 = .ok (.istore 6, 2) := by decide +kernel
theorem dX12_walkNow_72 : decode cX12_walkNow 72 = .ok (.iload 9, 2) := by decide +kernel
theorem dX12_walkNow_74 : decode cX12_walkNow 74 = .ok (.iconst (-1), 1) := by decide +kernel
theorem dX12_walkNow_75 : decode cX12_walkNow 75 = .ok (.if_icmp .ne 8, 3) := by decide +kernel
theorem dX12_walkNow_78 : decode cX12_walkNow 78 = .ok (.iload 5, 2) := by decide +kernel
theorem dX12_walkNow_80 : decode cX12_walkNow 80 = .ok (.goto 5, 3) := by decide +kernel
theorem dX12_walkNow_83 : decode cX12_walkNow 83 = .ok (.iload 9, 2) := by decide +kernel
theorem dX12_walkNow_85 : decode cX12_walkNow 85 = .ok (.istore 5, 2) := by decide +kernel
theorem dX12_walkNow_87 : decode cX12_walkNow 87 = .ok (.iinc 7 1, 3) := by decide +kernel
theorem dX12_walkNow_90 : decode cX12_walkNow 90 = .ok (.goto (-70), 3) := by decide +kernel
theorem dX12_walkNow_93 : decode cX12_walkNow 93 = .ok (.iload 4, 2) := by decide +kernel
theorem dX12_walkNow_95 : decode cX12_walkNow 95 = .ok (.ifCond .ne 11, 3) := by decide +kernel
theorem dX12_walkNow_98 : decode cX12_walkNow 98 = .ok (.iload 5, 2) := by decide +kernel
theorem dX12_walkNow_100 : decode cX12_walkNow 100 = .ok (.invokestatic 158, 3) := by decide +kernel
theorem dX12_walkNow_103 : decode cX12_walkNow 103 = .ok (.goto 33, 3) := by decide +kernel
theorem dX12_walkNow_106 : decode cX12_walkNow 106 = .ok (.iload 4, 2) := by decide +kernel
theorem dX12_walkNow_108 : decode cX12_walkNow 108 = .ok (.iconst 1, 1) := by decide +kernel
theorem dX12_walkNow_109 : decode cX12_walkNow 109 = .ok (.if_icmp .ne 11, 3) := by decide +kernel
theorem dX12_walkNow_112 : decode cX12_walkNow 112 = .ok (.iload 5, 2) := by decide +kernel
theorem dX12_walkNow_114 : decode cX12_walkNow 114 = .ok (.invokestatic 161, 3) := by decide +kernel
theorem dX12_walkNow_117 : decode cX12_walkNow 117 = .ok (.goto 19, 3) := by decide +kernel
theorem dX12_walkNow_120 : decode cX12_walkNow 120 = .ok (.iload 4, 2) := by decide +kernel
theorem dX12_walkNow_122 : decode cX12_walkNow 122 = .ok (.iconst 2, 1) := by decide +kernel
theorem dX12_walkNow_123 : decode cX12_walkNow 123 = .ok (.if_icmp .ne 8, 3) := by decide +kernel
theorem dX12_walkNow_126 : decode cX12_walkNow 126 = .ok (.iload 6, 2) := by decide +kernel
theorem dX12_walkNow_128 : decode cX12_walkNow 128 = .ok (.goto 8, 3) := by decide +kernel
theorem dX12_walkNow_131 : decode cX12_walkNow 131 = .ok (.aload_n 0, 1) := by decide +kernel
theorem dX12_walkNow_132 : decode cX12_walkNow 132 = .ok (.getfield 275, 3) := by decide +kernel
theorem dX12_walkNow_135 : decode cX12_walkNow 135 = .ok (.l2i, 1) := by decide +kernel
theorem dX12_walkNow_136 : decode cX12_walkNow 136 = .ok (.ireturn, 1) := by decide +kernel
set_option maxRecDepth 20000 in
theorem ggX12_walk_X12_isWalker : GoodIn wsX12_walk wsX12_isWalker := goodIn_r _ [5, 6, 7, 8, 4, 9, 58, 59, 60, 61, 62, 63, 64, 65, 66, 67, 68, 69, 70, 71, 72, 73, 74, 75, 76, 77, 78, 79, 80, 81, 82, 83, 84, 85, 86, 87, 88, 89, 90, 91, 92, 93, 94, 95, 96, 97, 98, 99, 100, 101, 102, 103, 104, 105, 106, 107, 108] (by decide +kernel) (by decide +kernel)
set_option maxRecDepth 20000 in
theorem gX12_walk_X12_isWalker : GoodIn wsX12_walk (wsV RX12 167 RX12 yX12_isWalker wsX12_isWalker) := goodIn_app (goodIn_of _ (by decide +kernel)) ggX12_walk_X12_isWalker
set_option maxRecDepth 20000 in
theorem ggX12_walk_X12_within : GoodIn wsX12_walk wsX12_within := goodIn_r _ [9] (by decide +kernel) (by decide +kernel)
set_option maxRecDepth 20000 in
theorem gX12_walk_X12_within : GoodIn wsX12_walk (va_wsS RX12 102 yX12_within wsX12_within) := goodIn_app (goodIn_of _ (by decide +kernel)) ggX12_walk_X12_within
set_option maxRecDepth 20000 in
theorem ggX12_walk_X12_walkNow : GoodIn wsX12_walk wsX12_walkNow := goodIn_r _ [13, 14, 15, 16, 17, 18, 19, 4, 20, 21, 22, 23, 24, 25, 26, 27, 28, 29, 30, 31, 32, 33, 34, 35, 36, 37, 38, 39, 40, 41, 42, 43, 44, 45, 46, 47, 48, 49, 50, 51, 52, 53, 54, 55, 56, 57, 58, 59, 60, 61, 62, 63, 64, 65, 66, 67, 68, 69, 70, 71, 72, 73, 74, 75, 76, 77, 78, 79, 80, 81, 82, 83, 84, 85, 86, 87, 88, 89, 90, 91, 92, 93, 94, 95, 96, 97, 98, 99, 100, 101, 102, 103, 104, 105, 106, 107, 108] (by decide +kernel) (by decide +kernel)
set_option maxRecDepth 20000 in
theorem gX12_walk_X12_walkNow : GoodIn wsX12_walk (wsV RX12 291 RX12 yX12_walkNow wsX12_walkNow) := goodIn_app (goodIn_of _ (by decide +kernel)) ggX12_walk_X12_walkNow
theorem dX12_walk_0 : decode cX12_walk 0 = .ok (.aload_n 0, 1) := by decide +kernel
theorem dX12_walk_1 : decode cX12_walk 1 = .ok (.iload_n 1, 1) := by decide +kernel
theorem dX12_walk_2 : decode cX12_walk 2 = .ok (.invokevirtual 167, 3) := by decide +kernel
theorem dX12_walk_5 : decode cX12_walk 5 = .ok (.ifCond .ne 6, 3) := by decide +kernel
theorem dX12_walk_8 : decode cX12_walk 8 = .ok (.bipush (-101), 2) := by decide +kernel
theorem dX12_walk_10 : decode cX12_walk 10 = .ok (.ireturn, 1) := by decide +kernel
theorem dX12_walk_11 : decode cX12_walk 11 = .ok (.iload_n 2, 1) := by decide +kernel
theorem dX12_walk_12 : decode cX12_walk 12 = .ok (.iconst 1, 1) := by decide +kernel
theorem dX12_walk_13 : decode cX12_walk 13 = .ok (.bipush 60, 2) := by decide +kernel
theorem dX12_walk_15 : decode cX12_walk 15 = .ok (.invokestatic 102, 3) := by decide +kernel
theorem dX12_walk_18 : decode cX12_walk 18 = .ok (.ifCond .eq 17, 3) := by decide +kernel
theorem dX12_walk_21 : decode cX12_walk 21 = .ok (.iload_n 3, 1) := by decide +kernel
theorem dX12_walk_22 : decode cX12_walk 22 = .ok (.ifCond .lt 13, 3) := by decide +kernel
theorem dX12_walk_25 : decode cX12_walk 25 = .ok (.iload 4, 2) := by decide +kernel
theorem dX12_walk_27 : decode cX12_walk 27 = .ok (.iconst 0, 1) := by decide +kernel
theorem dX12_walk_28 : decode cX12_walk 28 = .ok (.iconst 3, 1) := by decide +kernel
theorem dX12_walk_29 : decode cX12_walk 29 = .ok (.invokestatic 102, 3) := by decide +kernel
theorem dX12_walk_32 : decode cX12_walk 32 = .ok (.ifCond .ne 6, 3) := by decide +kernel
theorem dX12_walk_35 : decode cX12_walk 35 = .ok (.bipush (-102), 2) := by decide +kernel
theorem dX12_walk_37 : decode cX12_walk 37 = .ok (.ireturn, 1) := by decide +kernel
theorem dX12_walk_38 : decode cX12_walk 38 = .ok (.aload_n 0, 1) := by decide +kernel
theorem dX12_walk_39 : decode cX12_walk 39 = .ok (.iload_n 1, 1) := by decide +kernel
theorem dX12_walk_40 : decode cX12_walk 40 = .ok (.iload_n 2, 1) := by decide +kernel
theorem dX12_walk_41 : decode cX12_walk 41 = .ok (.iload_n 3, 1) := by decide +kernel
theorem dX12_walk_42 : decode cX12_walk 42 = .ok (.iload 4, 2) := by decide +kernel
theorem dX12_walk_44 : decode cX12_walk 44 = .ok (.invokevirtual 291, 3) := by decide +kernel
theorem dX12_walk_47 : decode cX12_walk 47 = .ok (.ireturn, 1) := by decide +kernel
theorem dX12_image_0 : decode cX12_image 0 = .ok (.aload_n 0, 1) := by decide +kernel
theorem dX12_image_1 : decode cX12_image 1 = .ok (.getfield 135, 3) := by decide +kernel
theorem dX12_image_4 : decode cX12_image 4 = .ok (.ifCond .ne 6, 3) := by decide +kernel
theorem dX12_image_7 : decode cX12_image 7 = .ok (.bipush (-103), 2) := by decide +kernel
theorem dX12_image_9 : decode cX12_image 9 = .ok (.ireturn, 1) := by decide +kernel
theorem dX12_image_10 : decode cX12_image 10 = .ok (.aload_n 0, 1) := by decide +kernel
theorem dX12_image_11 : decode cX12_image 11 = .ok (.iconst 1, 1) := by decide +kernel
theorem dX12_image_12 : decode cX12_image 12 = .ok (.putfield 295, 3) := by decide +kernel
theorem dX12_image_15 : decode cX12_image 15 = .ok (.aload_n 0, 1) := by decide +kernel
theorem dX12_image_16 : decode cX12_image 16 = .ok (.aload_n 0, 1) := by decide +kernel
theorem dX12_image_17 : decode cX12_image 17 = .ok (.getfield 135, 3) := by decide +kernel
theorem dX12_image_20 : decode cX12_image 20 = .ok (.putfield 298, 3) := by decide +kernel
theorem dX12_image_23 : decode cX12_image 23 = .ok (.aload_n 0, 1) := by decide +kernel
theorem dX12_image_24 : decode cX12_image 24 = .ok (.aload_n 0, 1) := by decide +kernel
theorem dX12_image_25 : decode cX12_image 25 = .ok (.getfield 138, 3) := by decide +kernel
theorem dX12_image_28 : decode cX12_image 28 = .ok (.putfield 301, 3) := by decide +kernel
theorem dX12_image_31 : decode cX12_image 31 = .ok (.aload_n 0, 1) := by decide +kernel
theorem dX12_image_32 : decode cX12_image 32 = .ok (.aload_n 0, 1) := by decide +kernel
theorem dX12_image_33 : decode cX12_image 33 = .ok (.getfield 141, 3) := by decide +kernel
theorem dX12_image_36 : decode cX12_image 36 = .ok (.putfield 304, 3) := by decide +kernel
theorem dX12_image_39 : decode cX12_image 39 = .ok (.iconst 0, 1) := by decide +kernel
theorem dX12_image_40 : decode cX12_image 40 = .ok (.istore_n 1, 1) := by decide +kernel
theorem dX12_image_41 : decode cX12_image 41 = .ok (.iload_n 1, 1) := by decide +kernel
theorem dX12_image_42 : decode cX12_image 42 = .ok (.iconst 5, 1) := by decide +kernel
theorem dX12_image_43 : decode cX12_image 43 = .ok (.if_icmp .ge 33, 3) := by decide +kernel
theorem dX12_image_46 : decode cX12_image 46 = .ok (.aload_n 0, 1) := by decide +kernel
theorem dX12_image_47 : decode cX12_image 47 = .ok (.getfield 81, 3) := by decide +kernel
theorem dX12_image_50 : decode cX12_image 50 = .ok (.iload_n 1, 1) := by decide +kernel
theorem dX12_image_51 : decode cX12_image 51 = .ok (.aload_n 0, 1) := by decide +kernel
theorem dX12_image_52 : decode cX12_image 52 = .ok (.getfield 25, 3) := by decide +kernel
theorem dX12_image_55 : decode cX12_image 55 = .ok (.iload_n 1, 1) := by decide +kernel
theorem dX12_image_56 : decode cX12_image 56 = .ok (.iaload, 1) := by decide +kernel
theorem dX12_image_57 : decode cX12_image 57 = .ok (.iastore, 1) := by decide +kernel
theorem dX12_image_58 : decode cX12_image 58 = .ok (.aload_n 0, 1) := by decide +kernel
theorem dX12_image_59 : decode cX12_image 59 = .ok (.getfield 84, 3) := by decide +kernel
theorem dX12_image_62 : decode cX12_image 62 = .ok (.iload_n 1, 1) := by decide +kernel
theorem dX12_image_63 : decode cX12_image 63 = .ok (.aload_n 0, 1) := by decide +kernel
theorem dX12_image_64 : decode cX12_image 64 = .ok (.getfield 28, 3) := by decide +kernel
theorem dX12_image_67 : decode cX12_image 67 = .ok (.iload_n 1, 1) := by decide +kernel
theorem dX12_image_68 : decode cX12_image 68 = .ok (.iaload, 1) := by decide +kernel
theorem dX12_image_69 : decode cX12_image 69 = .ok (.iastore, 1) := by decide +kernel
theorem dX12_image_70 : decode cX12_image 70 = .ok (.iinc 1 1, 3) := by decide +kernel
theorem dX12_image_73 : decode cX12_image 73 = .ok (.goto (-32), 3) := by decide +kernel
theorem dX12_image_76 : decode cX12_image 76 = .ok (.iconst 0, 1) := by decide +kernel
theorem dX12_image_77 : decode cX12_image 77 = .ok (.istore_n 1, 1) := by decide +kernel
theorem dX12_image_78 : decode cX12_image 78 = .ok (.iload_n 1, 1) := by decide +kernel
theorem dX12_image_79 : decode cX12_image 79 = .ok (.bipush 10, 2) := by decide +kernel
theorem dX12_image_81 : decode cX12_image 81 = .ok (.if_icmp .ge 21, 3) := by decide +kernel
theorem dX12_image_84 : decode cX12_image 84 = .ok (.aload_n 0, 1) := by decide +kernel
theorem dX12_image_85 : decode cX12_image 85 = .ok (.getfield 87, 3) := by decide +kernel
theorem dX12_image_88 : decode cX12_image 88 = .ok (.iload_n 1, 1) := by decide +kernel
theorem dX12_image_89 : decode cX12_image 89 = .ok (.aload_n 0, 1) := by decide +kernel
theorem dX12_image_90 : decode cX12_image 90 = .ok (.getfield 16, 3) := by decide +kernel
theorem dX12_image_93 : decode cX12_image 93 = .ok (.iload_n 1, 1) := by decide +kernel
theorem dX12_image_94 : decode cX12_image 94 = .ok (.iaload, 1) := by decide +kernel
theorem dX12_image_95 : decode cX12_image 95 = .ok (.iastore, 1) := by decide +kernel
theorem dX12_image_96 : decode cX12_image 96 = .ok (.iinc 1 1, 3) := by decide +kernel
theorem dX12_image_99 : decode cX12_image 99 = .ok (.goto (-21), 3) := by decide +kernel
theorem dX12_image_102 : decode cX12_image 102 = .ok (.iconst 0, 1) := by decide +kernel
theorem dX12_image_103 : decode cX12_image 103 = .ok (.istore_n 1, 1) := by decide +kernel
theorem dX12_image_104 : decode cX12_image 104 = .ok (.iload_n 1, 1) := by decide +kernel
theorem dX12_image_105 : decode cX12_image 105 = .ok (.bipush 6, 2) := by decide +kernel
theorem dX12_image_107 : decode cX12_image 107 = .ok (.if_icmp .ge 21, 3) := by decide +kernel
theorem dX12_image_110 : decode cX12_image 110 = .ok (.aload_n 0, 1) := by decide +kernel
theorem dX12_image_111 : decode cX12_image 111 = .ok (.getfield 90, 3) := by decide +kernel
theorem dX12_image_114 : decode cX12_image 114 = .ok (.iload_n 1, 1) := by decide +kernel
theorem dX12_image_115 : decode cX12_image 115 = .ok (.aload_n 0, 1) := by decide +kernel
theorem dX12_image_116 : decode cX12_image 116 = .ok (.getfield 31, 3) := by decide +kernel
theorem dX12_image_119 : decode cX12_image 119 = .ok (.iload_n 1, 1) := by decide +kernel
theorem dX12_image_120 : decode cX12_image 120 = .ok (.iaload, 1) := by decide +kernel
theorem dX12_image_121 : decode cX12_image 121 = .ok (.iastore, 1) := by decide +kernel
theorem dX12_image_122 : decode cX12_image 122 = .ok (.iinc 1 1, 3) := by decide +kernel
theorem dX12_image_125 : decode cX12_image 125 = .ok (.goto (-21), 3) := by decide +kernel
theorem dX12_image_128 : decode cX12_image 128 = .ok (.aload_n 0, 1) := by decide +kernel
theorem dX12_image_129 : decode cX12_image 129 = .ok (.getfield 138, 3) := by decide +kernel
theorem dX12_image_132 : decode cX12_image 132 = .ok (.ireturn, 1) := by decide +kernel
theorem dX12_restore_0 : decode cX12_restore 0 = .ok (.aload_n 0, 1) := by decide +kernel
theorem dX12_restore_1 : decode cX12_restore 1 = .ok (.getfield 295, 3) := by decide +kernel
theorem dX12_restore_4 : decode cX12_restore 4 = .ok (.ifCond .eq 14, 3) := by decide +kernel
theorem dX12_restore_7 : decode cX12_restore 7 = .ok (.aload_n 0, 1) := by decide +kernel
theorem dX12_restore_8 : decode cX12_restore 8 = .ok (.getfield 298, 3) := by decide +kernel
theorem dX12_restore_11 : decode cX12_restore 11 = .ok (.aload_n 0, 1) := by decide +kernel
theorem dX12_restore_12 : decode cX12_restore 12 = .ok (.getfield 135, 3) := by decide +kernel
theorem dX12_restore_15 : decode cX12_restore 15 = .ok (.if_icmp .eq 6, 3) := by decide +kernel
theorem dX12_restore_18 : decode cX12_restore 18 = .ok (.bipush (-103), 2) := by decide +kernel
theorem dX12_restore_20 : decode cX12_restore 20 = .ok (.ireturn, 1) := by decide +kernel
theorem dX12_restore_21 : decode cX12_restore 21 = .ok (.aload_n 0, 1) := by decide +kernel
theorem dX12_restore_22 : decode cX12_restore 22 = .ok (.aload_n 0, 1) := by decide +kernel
theorem dX12_restore_23 : decode cX12_restore 23 = .ok (.getfield 301, 3) := by decide +kernel
theorem dX12_restore_26 : decode cX12_restore 26 = .ok (.putfield 138, 3) := by decide +kernel
theorem dX12_restore_29 : decode cX12_restore 29 = .ok (.aload_n 0, 1) := by decide +kernel
theorem dX12_restore_30 : decode cX12_restore 30 = .ok (.aload_n 0, 1) := by decide +kernel
theorem dX12_restore_31 : decode cX12_restore 31 = .ok (.getfield 304, 3) := by decide +kernel
theorem dX12_restore_34 : decode cX12_restore 34 = .ok (.putfield 141, 3) := by decide +kernel
theorem dX12_restore_37 : decode cX12_restore 37 = .ok (.iconst 0, 1) := by decide +kernel
theorem dX12_restore_38 : decode cX12_restore 38 = .ok (.istore_n 1, 1) := by decide +kernel
theorem dX12_restore_39 : decode cX12_restore 39 = .ok (.iload_n 1, 1) := by decide +kernel
theorem dX12_restore_40 : decode cX12_restore 40 = .ok (.iconst 5, 1) := by decide +kernel
theorem dX12_restore_41 : decode cX12_restore 41 = .ok (.if_icmp .ge 33, 3) := by decide +kernel
theorem dX12_restore_44 : decode cX12_restore 44 = .ok (.aload_n 0, 1) := by decide +kernel
theorem dX12_restore_45 : decode cX12_restore 45 = .ok (.getfield 25, 3) := by decide +kernel
theorem dX12_restore_48 : decode cX12_restore 48 = .ok (.iload_n 1, 1) := by decide +kernel
theorem dX12_restore_49 : decode cX12_restore 49 = .ok (.aload_n 0, 1) := by decide +kernel
theorem dX12_restore_50 : decode cX12_restore 50 = .ok (.getfield 81, 3) := by decide +kernel
theorem dX12_restore_53 : decode cX12_restore 53 = .ok (.iload_n 1, 1) := by decide +kernel
theorem dX12_restore_54 : decode cX12_restore 54 = .ok (.iaload, 1) := by decide +kernel
theorem dX12_restore_55 : decode cX12_restore 55 = .ok (.iastore, 1) := by decide +kernel
theorem dX12_restore_56 : decode cX12_restore 56 = .ok (.aload_n 0, 1) := by decide +kernel
theorem dX12_restore_57 : decode cX12_restore 57 = .ok (.getfield 28, 3) := by decide +kernel
theorem dX12_restore_60 : decode cX12_restore 60 = .ok (.iload_n 1, 1) := by decide +kernel
theorem dX12_restore_61 : decode cX12_restore 61 = .ok (.aload_n 0, 1) := by decide +kernel
theorem dX12_restore_62 : decode cX12_restore 62 = .ok (.getfield 84, 3) := by decide +kernel
theorem dX12_restore_65 : decode cX12_restore 65 = .ok (.iload_n 1, 1) := by decide +kernel
theorem dX12_restore_66 : decode cX12_restore 66 = .ok (.iaload, 1) := by decide +kernel
theorem dX12_restore_67 : decode cX12_restore 67 = .ok (.iastore, 1) := by decide +kernel
theorem dX12_restore_68 : decode cX12_restore 68 = .ok (.iinc 1 1, 3) := by decide +kernel
theorem dX12_restore_71 : decode cX12_restore 71 = .ok (.goto (-32), 3) := by decide +kernel
theorem dX12_restore_74 : decode cX12_restore 74 = .ok (.iconst 0, 1) := by decide +kernel
theorem dX12_restore_75 : decode cX12_restore 75 = .ok (.istore_n 1, 1) := by decide +kernel
theorem dX12_restore_76 : decode cX12_restore 76 = .ok (.iload_n 1, 1) := by decide +kernel
theorem dX12_restore_77 : decode cX12_restore 77 = .ok (.bipush 10, 2) := by decide +kernel
theorem dX12_restore_79 : decode cX12_restore 79 = .ok (.if_icmp .ge 21, 3) := by decide +kernel
theorem dX12_restore_82 : decode cX12_restore 82 = .ok (.aload_n 0, 1) := by decide +kernel
theorem dX12_restore_83 : decode cX12_restore 83 = .ok (.getfield 16, 3) := by decide +kernel
theorem dX12_restore_86 : decode cX12_restore 86 = .ok (.iload_n 1, 1) := by decide +kernel
theorem dX12_restore_87 : decode cX12_restore 87 = .ok (.aload_n 0, 1) := by decide +kernel
theorem dX12_restore_88 : decode cX12_restore 88 = .ok (.getfield 87, 3) := by decide +kernel
theorem dX12_restore_91 : decode cX12_restore 91 = .ok (.iload_n 1, 1) := by decide +kernel
theorem dX12_restore_92 : decode cX12_restore 92 = .ok (.iaload, 1) := by decide +kernel
theorem dX12_restore_93 : decode cX12_restore 93 = .ok (.iastore, 1) := by decide +kernel
theorem dX12_restore_94 : decode cX12_restore 94 = .ok (.iinc 1 1, 3) := by decide +kernel
theorem dX12_restore_97 : decode cX12_restore 97 = .ok (.goto (-21), 3) := by decide +kernel
theorem dX12_restore_100 : decode cX12_restore 100 = .ok (.iconst 0, 1) := by decide +kernel
theorem dX12_restore_101 : decode cX12_restore 101 = .ok (.istore_n 1, 1) := by decide +kernel
theorem dX12_restore_102 : decode cX12_restore 102 = .ok (.iload_n 1, 1) := by decide +kernel
theorem dX12_restore_103 : decode cX12_restore 103 = .ok (.bipush 6, 2) := by decide +kernel
theorem dX12_restore_105 : decode cX12_restore 105 = .ok (.if_icmp .ge 21, 3) := by decide +kernel
theorem dX12_restore_108 : decode cX12_restore 108 = .ok (.aload_n 0, 1) := by decide +kernel
theorem dX12_restore_109 : decode cX12_restore 109 = .ok (.getfield 31, 3) := by decide +kernel
theorem dX12_restore_112 : decode cX12_restore 112 = .ok (.iload_n 1, 1) := by decide +kernel
theorem dX12_restore_113 : decode cX12_restore 113 = .ok (.aload_n 0, 1) := by decide +kernel
theorem dX12_restore_114 : decode cX12_restore 114 = .ok (.getfield 90, 3) := by decide +kernel
theorem dX12_restore_117 : decode cX12_restore 117 = .ok (.iload_n 1, 1) := by decide +kernel
theorem dX12_restore_118 : decode cX12_restore 118 = .ok (.iaload, 1) := by decide +kernel
theorem dX12_restore_119 : decode cX12_restore 119 = .ok (.iastore, 1) := by decide +kernel
theorem dX12_restore_120 : decode cX12_restore 120 = .ok (.iinc 1 1, 3) := by decide +kernel
theorem dX12_restore_123 : decode cX12_restore 123 = .ok (.goto (-21), 3) := by decide +kernel
theorem dX12_restore_126 : decode cX12_restore 126 = .ok (.aload_n 0, 1) := by decide +kernel
theorem dX12_restore_127 : decode cX12_restore 127 = .ok (.getfield 138, 3) := by decide +kernel
theorem dX12_restore_130 : decode cX12_restore 130 = .ok (.ireturn, 1) := by decide +kernel
theorem dX12_howMany_0 : decode cX12_howMany 0 = .ok (.iload_n 1, 1) := by decide +kernel
theorem dX12_howMany_1 : decode cX12_howMany 1 = .ok (.tableswitch 95 0 7 #[47, 52, 57, 62, 67, 80, 85, 90], 47) := by decide +kernel
theorem dX12_howMany_48 : decode cX12_howMany 48 = .ok (.aload_n 0, 1) := by decide +kernel
theorem dX12_howMany_49 : decode cX12_howMany 49 = .ok (.getfield 126, 3) := by decide +kernel
theorem dX12_howMany_52 : decode cX12_howMany 52 = .ok (.ireturn, 1) := by decide +kernel
theorem dX12_howMany_53 : decode cX12_howMany 53 = .ok (.aload_n 0, 1) := by decide +kernel
theorem dX12_howMany_54 : decode cX12_howMany 54 = .ok (.getfield 129, 3) := by decide +kernel
theorem dX12_howMany_57 : decode cX12_howMany 57 = .ok (.ireturn, 1) := by decide +kernel
theorem dX12_howMany_58 : decode cX12_howMany 58 = .ok (.aload_n 0, 1) := by decide +kernel
theorem dX12_howMany_59 : decode cX12_howMany 59 = .ok (.getfield 138, 3) := by decide +kernel
theorem dX12_howMany_62 : decode cX12_howMany 62 = .ok (.ireturn, 1) := by decide +kernel
theorem dX12_howMany_63 : decode cX12_howMany 63 = .ok (.aload_n 0, 1) := by decide +kernel
theorem dX12_howMany_64 : decode cX12_howMany 64 = .ok (.getfield 141, 3) := by decide +kernel
theorem dX12_howMany_67 : decode cX12_howMany 67 = .ok (.ireturn, 1) := by decide +kernel
theorem dX12_howMany_68 : decode cX12_howMany 68 = .ok (.aload_n 0, 1) := by decide +kernel
theorem dX12_howMany_69 : decode cX12_howMany 69 = .ok (.getfield 132, 3) := by decide +kernel
theorem dX12_howMany_72 : decode cX12_howMany 72 = .ok (.ifCond .eq 7, 3) := by decide +kernel
theorem dX12_howMany_75 : decode cX12_howMany 75 = .ok (.iconst 1, 1) := by decide +kernel
theorem dX12_howMany_76 : decode cX12_howMany 76 = .ok (.goto 4, 3) := by decide +kernel
theorem dX12_howMany_79 : decode cX12_howMany 79 = .ok (.iconst 0, 1) := by decide +kernel
theorem dX12_howMany_80 : decode cX12_howMany 80 = .ok (.ireturn, 1) := by decide +kernel
theorem dX12_howMany_81 : decode cX12_howMany 81 = .ok (.aload_n 0, 1) := by decide +kernel
theorem dX12_howMany_82 : decode cX12_howMany 82 = .ok (.getfield 95, 3) := by decide +kernel
theorem dX12_howMany_85 : decode cX12_howMany 85 = .ok (.ireturn, 1) := by decide +kernel
theorem dX12_howMany_86 : decode cX12_howMany 86 = .ok (.aload_n 0, 1) := by decide +kernel
theorem dX12_howMany_87 : decode cX12_howMany 87 = .ok (.getfield 135, 3) := by decide +kernel
theorem dX12_howMany_90 : decode cX12_howMany 90 = .ok (.ireturn, 1) := by decide +kernel
theorem dX12_howMany_91 : decode cX12_howMany 91 = .ok (.aload_n 0, 1) := by decide +kernel
theorem dX12_howMany_92 : decode cX12_howMany 92 = .ok (.getfield 221, 3) := by decide +kernel
theorem dX12_howMany_95 : decode cX12_howMany 95 = .ok (.ireturn, 1) := by decide +kernel
theorem dX12_howMany_96 : decode cX12_howMany 96 = .ok (.bipush (-102), 2) := by decide +kernel
theorem dX12_howMany_98 : decode cX12_howMany 98 = .ok (.ireturn, 1) := by decide +kernel
set_option maxRecDepth 20000 in
theorem ggX12_count_X12_howMany : GoodIn wsX12_count wsX12_howMany := goodIn_r _ [5, 6, 7, 8, 9, 10, 11, 12, 13, 14, 15, 16, 17, 18, 19, 20, 21, 22, 23, 24, 25, 26, 27, 28, 29, 30, 31, 32, 33, 34, 35, 36, 37, 38, 39, 40, 41, 42, 43, 44, 45, 46, 47, 48, 49, 50, 51, 52, 53, 54, 55, 56, 57, 58, 59, 60, 61, 62, 63, 64] (by decide +kernel) (by decide +kernel)
set_option maxRecDepth 20000 in
theorem gX12_count_X12_howMany : GoodIn wsX12_count (wsV RX12 307 RX12 yX12_howMany wsX12_howMany) := goodIn_app (goodIn_of _ (by decide +kernel)) ggX12_count_X12_howMany
theorem dX12_count_0 : decode cX12_count 0 = .ok (.aload_n 0, 1) := by decide +kernel
theorem dX12_count_1 : decode cX12_count 1 = .ok (.iload_n 1, 1) := by decide +kernel
theorem dX12_count_2 : decode cX12_count 2 = .ok (.invokevirtual 307, 3) := by decide +kernel
theorem dX12_count_5 : decode cX12_count 5 = .ok (.ireturn, 1) := by decide +kernel
theorem dX12_mix_0 : decode cX12_mix 0 = .ok (.aload_n 0, 1) := by decide +kernel
theorem dX12_mix_1 : decode cX12_mix 1 = .ok (.ldc2_w 310, 3) := by decide +kernel
theorem dX12_mix_4 : decode cX12_mix 4 = .ok (.aload_n 0, 1) := by decide +kernel
theorem dX12_mix_5 : decode cX12_mix 5 = .ok (.getfield 312, 3) := by decide +kernel
theorem dX12_mix_8 : decode cX12_mix 8 = .ok (.lmul, 1) := by decide +kernel
theorem dX12_mix_9 : decode cX12_mix 9 = .ok (.lload_n 1, 1) := by decide +kernel
theorem dX12_mix_10 : decode cX12_mix 10 = .ok (.ladd, 1) := by decide +kernel
theorem dX12_mix_11 : decode cX12_mix 11 = .ok (.putfield 312, 3) := by decide +kernel
theorem dX12_mix_14 : decode cX12_mix 14 = .ok (.return_, 1) := by decide +kernel
set_option maxRecDepth 20000 in
theorem ggX12_mixWalker_X12_walkerNow : GoodIn wsX12_mixWalker wsX12_walkerNow := goodIn_r _ [5, 6, 7, 8, 9, 10, 4, 11, 12, 13, 14, 15, 16, 17, 18, 19, 20, 77, 78, 79, 80, 81, 82, 83, 84, 85, 86, 87, 88, 89, 90, 91, 92, 93, 94, 95, 96, 97, 98, 99, 100, 101, 102, 103, 104, 105, 106, 107, 108, 109, 110, 111, 112, 113, 114, 115, 116, 117, 118, 119, 120, 121, 122, 123, 124, 125, 126, 127] (by decide +kernel) (by decide +kernel)
set_option maxRecDepth 20000 in
theorem gX12_mixWalker_X12_walkerNow : GoodIn wsX12_mixWalker (wsV RX12 170 RX12 yX12_walkerNow wsX12_walkerNow) := goodIn_app (goodIn_of _ (by decide +kernel)) ggX12_mixWalker_X12_walkerNow
set_option maxRecDepth 20000 in
theorem ggX12_mixWalker_X12_mix : GoodIn wsX12_mixWalker wsX12_mix := goodIn_r _ [24, 25, 26, 77, 78, 79, 80, 81, 82, 83, 84, 85, 86, 87, 88, 89, 90, 91, 92, 93, 94, 95, 96, 97, 98, 99, 100, 101, 102, 103, 104, 105, 106, 107, 108, 109, 110, 111, 112, 113, 114, 115, 116, 117, 118, 119, 120, 121, 122, 123, 124, 125, 126, 127] (by decide +kernel) (by decide +kernel)
set_option maxRecDepth 20000 in
theorem gX12_mixWalker_X12_mix : GoodIn wsX12_mixWalker (wsV RX12 315 RX12 yX12_mix wsX12_mix) := goodIn_app (goodIn_of _ (by decide +kernel)) ggX12_mixWalker_X12_mix
set_option maxRecDepth 20000 in
theorem ggX12_mixWalker_X12_shutNow : GoodIn wsX12_mixWalker wsX12_shutNow := goodIn_r _ [30, 6, 7, 31, 32, 33, 34, 4, 35, 36, 37, 38, 39, 40, 41, 42, 43, 44, 45, 46, 47, 48, 49, 50, 51, 52, 53, 54, 55, 56, 57, 58, 9, 10, 11, 59, 60, 61, 12, 13, 14, 15, 16, 17, 18, 19, 20, 62, 63, 64, 65, 66, 67, 68, 77, 78, 79, 80, 81, 82, 83, 84, 85, 86, 87, 88, 89, 90, 91, 92, 93, 94, 95, 96, 97, 98, 99, 100, 101, 102, 103, 104, 105, 106, 107, 108, 109, 110, 111, 112, 113, 114, 115, 116, 117, 118, 119, 120, 121, 122, 123, 124, 125, 126, 127] (by decide +kernel) (by decide +kernel)
set_option maxRecDepth 20000 in
theorem gX12_mixWalker_X12_shutNow : GoodIn wsX12_mixWalker (wsV RX12 211 RX12 yX12_shutNow wsX12_shutNow) := goodIn_app (goodIn_of _ (by decide +kernel)) ggX12_mixWalker_X12_shutNow
set_option maxRecDepth 20000 in
theorem ggX12_mixWalker_X12_fewestNow : GoodIn wsX12_mixWalker wsX12_fewestNow := goodIn_r _ [72, 6, 7, 31, 41, 42, 32, 33, 34, 4, 35, 36, 37, 38, 39, 40, 43, 44, 45, 46, 47, 48, 49, 50, 51, 52, 53, 54, 55, 56, 57, 58, 9, 10, 11, 59, 60, 61, 12, 13, 14, 15, 16, 17, 18, 19, 20, 62, 63, 64, 65, 66, 67, 68, 77, 78, 79, 80, 81, 82, 83, 84, 85, 86, 87, 88, 89, 90, 91, 92, 93, 94, 95, 96, 97, 98, 99, 100, 101, 102, 103, 104, 105, 106, 107, 108, 109, 110, 111, 112, 113, 114, 115, 116, 117, 118, 119, 120, 121, 122, 123, 124, 125, 126, 127] (by decide +kernel) (by decide +kernel)
set_option maxRecDepth 20000 in
theorem gX12_mixWalker_X12_fewestNow : GoodIn wsX12_mixWalker (wsV RX12 205 RX12 yX12_fewestNow wsX12_fewestNow) := goodIn_app (goodIn_of _ (by decide +kernel)) ggX12_mixWalker_X12_fewestNow
set_option maxRecDepth 20000 in
theorem ggX12_mixWalker_X12_skipsNow : GoodIn wsX12_mixWalker wsX12_skipsNow := goodIn_r _ [76, 6, 7, 31, 32, 33, 34, 4, 35, 36, 37, 38, 39, 40, 41, 42, 43, 44, 45, 46, 47, 48, 49, 50, 51, 52, 53, 54, 55, 56, 57, 58, 9, 10, 11, 59, 60, 61, 12, 13, 14, 15, 16, 17, 18, 19, 20, 62, 63, 64, 65, 66, 67, 68, 77, 78, 79, 80, 81, 82, 83, 84, 85, 86, 87, 88, 89, 90, 91, 92, 93, 94, 95, 96, 97, 98, 99, 100, 101, 102, 103, 104, 105, 106, 107, 108, 109, 110, 111, 112, 113, 114, 115, 116, 117, 118, 119, 120, 121, 122, 123, 124, 125, 126, 127] (by decide +kernel) (by decide +kernel)
set_option maxRecDepth 20000 in
theorem gX12_mixWalker_X12_skipsNow : GoodIn wsX12_mixWalker (wsV RX12 208 RX12 yX12_skipsNow wsX12_skipsNow) := goodIn_app (goodIn_of _ (by decide +kernel)) ggX12_mixWalker_X12_skipsNow
theorem dX12_mixWalker_0 : decode cX12_mixWalker 0 = .ok (.iconst 0, 1) := by decide +kernel
theorem dX12_mixWalker_1 : decode cX12_mixWalker 1 = .ok (.istore_n 2, 1) := by decide +kernel
theorem dX12_mixWalker_2 : decode cX12_mixWalker 2 = .ok (.iload_n 2, 1) := by decide +kernel
theorem dX12_mixWalker_3 : decode cX12_mixWalker 3 = .ok (.bipush 7, 2) := by decide +kernel
theorem dX12_mixWalker_5 : decode cX12_mixWalker 5 = .ok (.if_icmp .ge 20, 3) := by decide +kernel
theorem dX12_mixWalker_8 : decode cX12_mixWalker 8 = .ok (.aload_n 0, 1) := by decide +kernel
theorem dX12_mixWalker_9 : decode cX12_mixWalker 9 = .ok (.aload_n 0, 1) := by decide +kernel
theorem dX12_mixWalker_10 : decode cX12_mixWalker 10 = .ok (.iload_n 1, 1) := by decide +kernel
theorem dX12_mixWalker_11 : decode cX12_mixWalker 11 = .ok (.iload_n 2, 1) := by decide +kernel
theorem dX12_mixWalker_12 : decode cX12_mixWalker 12 = .ok (.invokevirtual 170, 3) := by decide +kernel
theorem dX12_mixWalker_15 : decode cX12_mixWalker 15 = .ok (.i2l, 1) := by decide +kernel
theorem dX12_mixWalker_16 : decode cX12_mixWalker 16 = .ok (.invokevirtual 315, 3) := by decide +kernel
theorem dX12_mixWalker_19 : decode cX12_mixWalker 19 = .ok (.iinc 2 1, 3) := by decide +kernel
theorem dX12_mixWalker_22 : decode cX12_mixWalker 22 = .ok (.goto (-20), 3) := by decide +kernel
theorem dX12_mixWalker_25 : decode cX12_mixWalker 25 = .ok (.aload_n 0, 1) := by decide +kernel
theorem dX12_mixWalker_26 : decode cX12_mixWalker 26 = .ok (.aload_n 0, 1) := by decide +kernel
theorem dX12_mixWalker_27 : decode cX12_mixWalker 27 = .ok (.iload_n 1, 1) := by decide +kernel
theorem dX12_mixWalker_28 : decode cX12_mixWalker 28 = .ok (.invokevirtual 211, 3) := by decide +kernel
theorem dX12_mixWalker_31 : decode cX12_mixWalker 31 = .ok (.i2l, 1) := by decide +kernel
theorem dX12_mixWalker_32 : decode cX12_mixWalker 32 = .ok (.invokevirtual 315, 3) := by decide +kernel
theorem dX12_mixWalker_35 : decode cX12_mixWalker 35 = .ok (.aload_n 0, 1) := by decide +kernel
theorem dX12_mixWalker_36 : decode cX12_mixWalker 36 = .ok (.aload_n 0, 1) := by decide +kernel
theorem dX12_mixWalker_37 : decode cX12_mixWalker 37 = .ok (.iload_n 1, 1) := by decide +kernel
theorem dX12_mixWalker_38 : decode cX12_mixWalker 38 = .ok (.bipush 6, 2) := by decide +kernel
theorem dX12_mixWalker_40 : decode cX12_mixWalker 40 = .ok (.iconst 0, 1) := by decide +kernel
theorem dX12_mixWalker_41 : decode cX12_mixWalker 41 = .ok (.invokevirtual 205, 3) := by decide +kernel
theorem dX12_mixWalker_44 : decode cX12_mixWalker 44 = .ok (.i2l, 1) := by decide +kernel
theorem dX12_mixWalker_45 : decode cX12_mixWalker 45 = .ok (.invokevirtual 315, 3) := by decide +kernel
theorem dX12_mixWalker_48 : decode cX12_mixWalker 48 = .ok (.aload_n 0, 1) := by decide +kernel
theorem dX12_mixWalker_49 : decode cX12_mixWalker 49 = .ok (.aload_n 0, 1) := by decide +kernel
theorem dX12_mixWalker_50 : decode cX12_mixWalker 50 = .ok (.iload_n 1, 1) := by decide +kernel
theorem dX12_mixWalker_51 : decode cX12_mixWalker 51 = .ok (.bipush 6, 2) := by decide +kernel
theorem dX12_mixWalker_53 : decode cX12_mixWalker 53 = .ok (.iconst 1, 1) := by decide +kernel
theorem dX12_mixWalker_54 : decode cX12_mixWalker 54 = .ok (.invokevirtual 205, 3) := by decide +kernel
theorem dX12_mixWalker_57 : decode cX12_mixWalker 57 = .ok (.i2l, 1) := by decide +kernel
theorem dX12_mixWalker_58 : decode cX12_mixWalker 58 = .ok (.invokevirtual 315, 3) := by decide +kernel
theorem dX12_mixWalker_61 : decode cX12_mixWalker 61 = .ok (.aload_n 0, 1) := by decide +kernel
theorem dX12_mixWalker_62 : decode cX12_mixWalker 62 = .ok (.aload_n 0, 1) := by decide +kernel
theorem dX12_mixWalker_63 : decode cX12_mixWalker 63 = .ok (.iload_n 1, 1) := by decide +kernel
theorem dX12_mixWalker_64 : decode cX12_mixWalker 64 = .ok (.bipush 6, 2) := by decide +kernel
theorem dX12_mixWalker_66 : decode cX12_mixWalker 66 = .ok (.iconst 0, 1) := by decide +kernel
theorem dX12_mixWalker_67 : decode cX12_mixWalker 67 = .ok (.invokevirtual 208, 3) := by decide +kernel
theorem dX12_mixWalker_70 : decode cX12_mixWalker 70 = .ok (.i2l, 1) := by decide +kernel
theorem dX12_mixWalker_71 : decode cX12_mixWalker 71 = .ok (.invokevirtual 315, 3) := by decide +kernel
theorem dX12_mixWalker_74 : decode cX12_mixWalker 74 = .ok (.aload_n 0, 1) := by decide +kernel
theorem dX12_mixWalker_75 : decode cX12_mixWalker 75 = .ok (.aload_n 0, 1) := by decide +kernel
theorem dX12_mixWalker_76 : decode cX12_mixWalker 76 = .ok (.iload_n 1, 1) := by decide +kernel
theorem dX12_mixWalker_77 : decode cX12_mixWalker 77 = .ok (.bipush 6, 2) := by decide +kernel
theorem dX12_mixWalker_79 : decode cX12_mixWalker 79 = .ok (.iconst 1, 1) := by decide +kernel
theorem dX12_mixWalker_80 : decode cX12_mixWalker 80 = .ok (.invokevirtual 208, 3) := by decide +kernel
theorem dX12_mixWalker_83 : decode cX12_mixWalker 83 = .ok (.i2l, 1) := by decide +kernel
theorem dX12_mixWalker_84 : decode cX12_mixWalker 84 = .ok (.invokevirtual 315, 3) := by decide +kernel
theorem dX12_mixWalker_87 : decode cX12_mixWalker 87 = .ok (.return_, 1) := by decide +kernel
set_option maxRecDepth 20000 in
theorem ggX12_digest_X12_streetNow : GoodIn wsX12_digest wsX12_streetNow := goodIn_r _ [14, 15, 16, 17, 18, 119, 120, 121, 122, 123, 124, 125, 126, 127, 128, 129, 130, 131, 132, 133, 134, 135, 136, 137, 138, 139, 140, 141, 142, 143, 144, 145, 146, 147, 148, 149, 150, 151, 152, 153, 154, 155, 156, 157, 158, 159, 160, 161, 162, 163, 164, 165, 166, 167, 168, 169] (by decide +kernel) (by decide +kernel)
set_option maxRecDepth 20000 in
theorem gX12_digest_X12_streetNow : GoodIn wsX12_digest (wsV RX12 148 RX12 yX12_streetNow wsX12_streetNow) := goodIn_app (goodIn_of _ (by decide +kernel)) ggX12_digest_X12_streetNow
set_option maxRecDepth 20000 in
theorem ggX12_digest_X12_mix : GoodIn wsX12_digest wsX12_mix := goodIn_r _ [22, 23, 2, 119, 120, 121, 122, 123, 124, 125, 126, 127, 128, 129, 130, 131, 132, 133, 134, 135, 136, 137, 138, 139, 140, 141, 142, 143, 144, 145, 146, 147, 148, 149, 150, 151, 152, 153, 154, 155, 156, 157, 158, 159, 160, 161, 162, 163, 164, 165, 166, 167, 168, 169] (by decide +kernel) (by decide +kernel)
set_option maxRecDepth 20000 in
theorem gX12_digest_X12_mix : GoodIn wsX12_digest (wsV RX12 315 RX12 yX12_mix wsX12_mix) := goodIn_app (goodIn_of _ (by decide +kernel)) ggX12_digest_X12_mix
set_option maxRecDepth 20000 in
theorem ggX12_digest_X12_mixWalker : GoodIn wsX12_digest wsX12_mixWalker := goodIn_r _ [27, 28, 29, 30, 13, 31, 32, 33, 34, 35, 36, 37, 38, 39, 40, 41, 42, 43, 44, 45, 46, 19, 20, 21, 22, 23, 2, 47, 48, 49, 50, 51, 52, 53, 54, 55, 56, 57, 58, 59, 60, 3, 17, 61, 62, 63, 64, 65, 66, 67, 68, 15, 18, 16, 69, 70, 71, 72, 73, 74, 75, 76, 77, 78, 79, 80, 81, 82, 83, 84, 85, 86, 87, 88, 89, 90, 91, 119, 120, 121, 122, 123, 124, 125, 126, 127, 128, 129, 130, 131, 132, 133, 134, 135, 136, 137, 138, 139, 140, 141, 142, 143, 144, 145, 146, 147, 148, 149, 150, 151, 152, 153, 154, 155, 156, 157, 158, 159, 160, 161, 162, 163, 164, 165, 166, 167, 168, 169] (by decide +kernel) (by decide +kernel)
set_option maxRecDepth 20000 in
theorem gX12_digest_X12_mixWalker : GoodIn wsX12_digest (wsV RX12 321 RX12 yX12_mixWalker wsX12_mixWalker) := goodIn_app (goodIn_of _ (by decide +kernel)) ggX12_digest_X12_mixWalker
set_option maxRecDepth 20000 in
theorem ggX12_digest_X12_evenNow : GoodIn wsX12_digest wsX12_evenNow := goodIn_r _ [95, 96, 97, 98, 13, 99, 3, 15, 16, 17, 74, 75, 76, 100, 101, 102, 119, 120, 121, 122, 123, 124, 125, 126, 127, 128, 129, 130, 131, 132, 133, 134, 135, 136, 137, 138, 139, 140, 141, 142, 143, 144, 145, 146, 147, 148, 149, 150, 151, 152, 153, 154, 155, 156, 157, 158, 159, 160, 161, 162, 163, 164, 165, 166, 167, 168, 169] (by decide +kernel) (by decide +kernel)
set_option maxRecDepth 20000 in
theorem gX12_digest_X12_evenNow : GoodIn wsX12_digest (wsV RX12 242 RX12 yX12_evenNow wsX12_evenNow) := goodIn_app (goodIn_of _ (by decide +kernel)) ggX12_digest_X12_evenNow
set_option maxRecDepth 20000 in
theorem ggX12_digest_X12_whoNow : GoodIn wsX12_digest wsX12_whoNow := goodIn_r _ [106, 4, 107, 108, 109, 13, 110, 111, 33, 112, 6, 3, 32, 15, 18, 7, 65, 66, 67, 68, 17, 16, 69, 70, 71, 72, 73, 35, 36, 37, 74, 75, 76, 38, 39, 40, 41, 42, 43, 44, 45, 46, 119, 120, 121, 122, 123, 124, 125, 126, 127, 128, 129, 130, 131, 132, 133, 134, 135, 136, 137, 138, 139, 140, 141, 142, 143, 144, 145, 146, 147, 148, 149, 150, 151, 152, 153, 154, 155, 156, 157, 158, 159, 160, 161, 162, 163, 164, 165, 166, 167, 168, 169] (by decide +kernel) (by decide +kernel)
set_option maxRecDepth 20000 in
theorem gX12_digest_X12_whoNow : GoodIn wsX12_digest (wsV RX12 269 RX12 yX12_whoNow wsX12_whoNow) := goodIn_app (goodIn_of _ (by decide +kernel)) ggX12_digest_X12_whoNow
set_option maxRecDepth 20000 in
theorem ggX12_digest_X12_howMany : GoodIn wsX12_digest wsX12_howMany := goodIn_r _ [116, 3, 117, 4, 6, 69, 8, 5, 118, 119, 120, 121, 122, 123, 124, 125, 126, 127, 128, 129, 130, 131, 132, 133, 134, 135, 136, 137, 138, 139, 140, 141, 142, 143, 144, 145, 146, 147, 148, 149, 150, 151, 152, 153, 154, 155, 156, 157, 158, 159, 160, 161, 162, 163, 164, 165, 166, 167, 168, 169] (by decide +kernel) (by decide +kernel)
set_option maxRecDepth 20000 in
theorem gX12_digest_X12_howMany : GoodIn wsX12_digest (wsV RX12 307 RX12 yX12_howMany wsX12_howMany) := goodIn_app (goodIn_of _ (by decide +kernel)) ggX12_digest_X12_howMany
theorem dX12_digest_0 : decode cX12_digest 0 = .ok (.aload_n 0, 1) := by decide +kernel
theorem dX12_digest_1 : decode cX12_digest 1 = .ok (.ldc2_w 319, 3) := by decide +kernel
theorem dX12_digest_4 : decode cX12_digest 4 = .ok (.putfield 312, 3) := by decide +kernel
theorem dX12_digest_7 : decode cX12_digest 7 = .ok (.iconst 0, 1) := by decide +kernel
theorem dX12_digest_8 : decode cX12_digest 8 = .ok (.istore_n 1, 1) := by decide +kernel
theorem dX12_digest_9 : decode cX12_digest 9 = .ok (.iload_n 1, 1) := by decide +kernel
theorem dX12_digest_10 : decode cX12_digest 10 = .ok (.aload_n 0, 1) := by decide +kernel
theorem dX12_digest_11 : decode cX12_digest 11 = .ok (.getfield 126, 3) := by decide +kernel
theorem dX12_digest_14 : decode cX12_digest 14 = .ok (.if_icmp .ge 33, 3) := by decide +kernel
theorem dX12_digest_17 : decode cX12_digest 17 = .ok (.iconst 0, 1) := by decide +kernel
theorem dX12_digest_18 : decode cX12_digest 18 = .ok (.istore_n 2, 1) := by decide +kernel
theorem dX12_digest_19 : decode cX12_digest 19 = .ok (.iload_n 2, 1) := by decide +kernel
theorem dX12_digest_20 : decode cX12_digest 20 = .ok (.iconst 4, 1) := by decide +kernel
theorem dX12_digest_21 : decode cX12_digest 21 = .ok (.if_icmp .ge 20, 3) := by decide +kernel
theorem dX12_digest_24 : decode cX12_digest 24 = .ok (.aload_n 0, 1) := by decide +kernel
theorem dX12_digest_25 : decode cX12_digest 25 = .ok (.aload_n 0, 1) := by decide +kernel
theorem dX12_digest_26 : decode cX12_digest 26 = .ok (.iload_n 1, 1) := by decide +kernel
theorem dX12_digest_27 : decode cX12_digest 27 = .ok (.iload_n 2, 1) := by decide +kernel
theorem dX12_digest_28 : decode cX12_digest 28 = .ok (.invokevirtual 148, 3) := by decide +kernel
theorem dX12_digest_31 : decode cX12_digest 31 = .ok (.i2l, 1) := by decide +kernel
theorem dX12_digest_32 : decode cX12_digest 32 = .ok (.invokevirtual 315, 3) := by decide +kernel
theorem dX12_digest_35 : decode cX12_digest 35 = .ok (.iinc 2 1, 3) := by decide +kernel
theorem dX12_digest_38 : decode cX12_digest 38 = .ok (.goto (-19), 3) := by decide +kernel
theorem dX12_digest_41 : decode cX12_digest 41 = .ok (.iinc 1 1, 3) := by decide +kernel
theorem dX12_digest_44 : decode cX12_digest 44 = .ok (.goto (-35), 3) := by decide +kernel
theorem dX12_digest_47 : decode cX12_digest 47 = .ok (.iconst 0, 1) := by decide +kernel
theorem dX12_digest_48 : decode cX12_digest 48 = .ok (.istore_n 1, 1) := by decide +kernel
theorem dX12_digest_49 : decode cX12_digest 49 = .ok (.iload_n 1, 1) := by decide +kernel
theorem dX12_digest_50 : decode cX12_digest 50 = .ok (.aload_n 0, 1) := by decide +kernel
theorem dX12_digest_51 : decode cX12_digest 51 = .ok (.getfield 138, 3) := by decide +kernel
theorem dX12_digest_54 : decode cX12_digest 54 = .ok (.if_icmp .ge 14, 3) := by decide +kernel
theorem dX12_digest_57 : decode cX12_digest 57 = .ok (.aload_n 0, 1) := by decide +kernel
theorem dX12_digest_58 : decode cX12_digest 58 = .ok (.iload_n 1, 1) := by decide +kernel
theorem dX12_digest_59 : decode cX12_digest 59 = .ok (.invokevirtual 321, 3) := by decide +kernel
theorem dX12_digest_62 : decode cX12_digest 62 = .ok (.iinc 1 1, 3) := by decide +kernel
theorem dX12_digest_65 : decode cX12_digest 65 = .ok (.goto (-16), 3) := by decide +kernel
theorem dX12_digest_68 : decode cX12_digest 68 = .ok (.aload_n 0, 1) := by decide +kernel
theorem dX12_digest_69 : decode cX12_digest 69 = .ok (.getfield 135, 3) := by decide +kernel
theorem dX12_digest_72 : decode cX12_digest 72 = .ok (.ifCond .le 25, 3) := by decide +kernel
theorem dX12_digest_75 : decode cX12_digest 75 = .ok (.aload_n 0, 1) := by decide +kernel
theorem dX12_digest_76 : decode cX12_digest 76 = .ok (.aload_n 0, 1) := by decide +kernel
theorem dX12_digest_77 : decode cX12_digest 77 = .ok (.iconst 0, 1) := by decide +kernel
theorem dX12_digest_78 : decode cX12_digest 78 = .ok (.iconst 0, 1) := by decide +kernel
theorem dX12_digest_79 : decode cX12_digest 79 = .ok (.invokevirtual 242, 3) := by decide +kernel
theorem dX12_digest_82 : decode cX12_digest 82 = .ok (.i2l, 1) := by decide +kernel
theorem dX12_digest_83 : decode cX12_digest 83 = .ok (.invokevirtual 315, 3) := by decide +kernel
theorem dX12_digest_86 : decode cX12_digest 86 = .ok (.aload_n 0, 1) := by decide +kernel
theorem dX12_digest_87 : decode cX12_digest 87 = .ok (.aload_n 0, 1) := by decide +kernel
theorem dX12_digest_88 : decode cX12_digest 88 = .ok (.iconst 0, 1) := by decide +kernel
theorem dX12_digest_89 : decode cX12_digest 89 = .ok (.iconst 1, 1) := by decide +kernel
theorem dX12_digest_90 : decode cX12_digest 90 = .ok (.invokevirtual 242, 3) := by decide +kernel
theorem dX12_digest_93 : decode cX12_digest 93 = .ok (.i2l, 1) := by decide +kernel
theorem dX12_digest_94 : decode cX12_digest 94 = .ok (.invokevirtual 315, 3) := by decide +kernel
theorem dX12_digest_97 : decode cX12_digest 97 = .ok (.iconst 0, 1) := by decide +kernel
theorem dX12_digest_98 : decode cX12_digest 98 = .ok (.istore_n 1, 1) := by decide +kernel
theorem dX12_digest_99 : decode cX12_digest 99 = .ok (.iload_n 1, 1) := by decide +kernel
theorem dX12_digest_100 : decode cX12_digest 100 = .ok (.aload_n 0, 1) := by decide +kernel
theorem dX12_digest_101 : decode cX12_digest 101 = .ok (.getfield 141, 3) := by decide +kernel
theorem dX12_digest_104 : decode cX12_digest 104 = .ok (.if_icmp .ge 50, 3) := by decide +kernel
theorem dX12_digest_107 : decode cX12_digest 107 = .ok (.aload_n 0, 1) := by decide +kernel
theorem dX12_digest_108 : decode cX12_digest 108 = .ok (.aload_n 0, 1) := by decide +kernel
theorem dX12_digest_109 : decode cX12_digest 109 = .ok (.getfield 31, 3) := by decide +kernel
theorem dX12_digest_112 : decode cX12_digest 112 = .ok (.iload_n 1, 1) := by decide +kernel
theorem dX12_digest_113 : decode cX12_digest 113 = .ok (.iaload, 1) := by decide +kernel
theorem dX12_digest_114 : decode cX12_digest 114 = .ok (.iconst 4, 1) := by decide +kernel
theorem dX12_digest_115 : decode cX12_digest 115 = .ok (.idiv, 1) := by decide +kernel
theorem dX12_digest_116 : decode cX12_digest 116 = .ok (.i2l, 1) := by decide +kernel
theorem dX12_digest_117 : decode cX12_digest 117 = .ok (.invokevirtual 315, 3) := by decide +kernel
theorem dX12_digest_120 : decode cX12_digest 120 = .ok (.aload_n 0, 1) := by decide +kernel
theorem dX12_digest_121 : decode cX12_digest 121 = .ok (.aload_n 0, 1) := by decide +kernel
theorem dX12_digest_122 : decode cX12_digest 122 = .ok (.getfield 31, 3) := by decide +kernel
theorem dX12_digest_125 : decode cX12_digest 125 = .ok (.iload_n 1, 1) := by decide +kernel
theorem dX12_digest_126 : decode cX12_digest 126 = .ok (.iaload, 1) := by decide +kernel
theorem dX12_digest_127 : decode cX12_digest 127 = .ok (.iconst 2, 1) := by decide +kernel
theorem dX12_digest_128 : decode cX12_digest 128 = .ok (.idiv, 1) := by decide +kernel
theorem dX12_digest_129 : decode cX12_digest 129 = .ok (.iconst 2, 1) := by decide +kernel
theorem dX12_digest_130 : decode cX12_digest 130 = .ok (.irem, 1) := by decide +kernel
theorem dX12_digest_131 : decode cX12_digest 131 = .ok (.i2l, 1) := by decide +kernel
theorem dX12_digest_132 : decode cX12_digest 132 = .ok (.invokevirtual 315, 3) := by decide +kernel
theorem dX12_digest_135 : decode cX12_digest 135 = .ok (.aload_n 0, 1) := by decide +kernel
theorem dX12_digest_136 : decode cX12_digest 136 = .ok (.aload_n 0, 1) := by decide +kernel
theorem dX12_digest_137 : decode cX12_digest 137 = .ok (.getfield 31, 3) := by decide +kernel
theorem dX12_digest_140 : decode cX12_digest 140 = .ok (.iload_n 1, 1) := by decide +kernel
theorem dX12_digest_141 : decode cX12_digest 141 = .ok (.iaload, 1) := by decide +kernel
theorem dX12_digest_142 : decode cX12_digest 142 = .ok (.iconst 2, 1) := by decide +kernel
theorem dX12_digest_143 : decode cX12_digest 143 = .ok (.irem, 1) := by decide +kernel
theorem dX12_digest_144 : decode cX12_digest 144 = .ok (.i2l, 1) := by decide +kernel
theorem dX12_digest_145 : decode cX12_digest 145 = .ok (.invokevirtual 315, 3) := by decide +kernel
theorem dX12_digest_148 : decode cX12_digest 148 = .ok (.iinc 1 1, 3) := by decide +kernel
theorem dX12_digest_151 : decode cX12_digest 151 = .ok (.goto (-52), 3) := by decide +kernel
theorem dX12_digest_154 : decode cX12_digest 154 = .ok (.aload_n 0, 1) := by decide +kernel
theorem dX12_digest_155 : decode cX12_digest 155 = .ok (.aload_n 0, 1) := by decide +kernel
theorem dX12_digest_156 : decode cX12_digest 156 = .ok (.invokevirtual 269, 3) := by decide +kernel
theorem dX12_digest_159 : decode cX12_digest 159 = .ok (.i2l, 1) := by decide +kernel
theorem dX12_digest_160 : decode cX12_digest 160 = .ok (.invokevirtual 315, 3) := by decide +kernel
theorem dX12_digest_163 : decode cX12_digest 163 = .ok (.iconst 0, 1) := by decide +kernel
theorem dX12_digest_164 : decode cX12_digest 164 = .ok (.istore_n 1, 1) := by decide +kernel
theorem dX12_digest_165 : decode cX12_digest 165 = .ok (.iload_n 1, 1) := by decide +kernel
theorem dX12_digest_166 : decode cX12_digest 166 = .ok (.aload_n 0, 1) := by decide +kernel
theorem dX12_digest_167 : decode cX12_digest 167 = .ok (.getfield 95, 3) := by decide +kernel
theorem dX12_digest_170 : decode cX12_digest 170 = .ok (.if_icmp .ge 20, 3) := by decide +kernel
theorem dX12_digest_173 : decode cX12_digest 173 = .ok (.aload_n 0, 1) := by decide +kernel
theorem dX12_digest_174 : decode cX12_digest 174 = .ok (.aload_n 0, 1) := by decide +kernel
theorem dX12_digest_175 : decode cX12_digest 175 = .ok (.getfield 34, 3) := by decide +kernel
theorem dX12_digest_178 : decode cX12_digest 178 = .ok (.iload_n 1, 1) := by decide +kernel
theorem dX12_digest_179 : decode cX12_digest 179 = .ok (.baload, 1) := by decide +kernel
theorem dX12_digest_180 : decode cX12_digest 180 = .ok (.i2l, 1) := by decide +kernel
theorem dX12_digest_181 : decode cX12_digest 181 = .ok (.invokevirtual 315, 3) := by decide +kernel
theorem dX12_digest_184 : decode cX12_digest 184 = .ok (.iinc 1 1, 3) := by decide +kernel
theorem dX12_digest_187 : decode cX12_digest 187 = .ok (.goto (-22), 3) := by decide +kernel
theorem dX12_digest_190 : decode cX12_digest 190 = .ok (.iconst 0, 1) := by decide +kernel
theorem dX12_digest_191 : decode cX12_digest 191 = .ok (.istore_n 1, 1) := by decide +kernel
theorem dX12_digest_192 : decode cX12_digest 192 = .ok (.iload_n 1, 1) := by decide +kernel
theorem dX12_digest_193 : decode cX12_digest 193 = .ok (.bipush 8, 2) := by decide +kernel
theorem dX12_digest_195 : decode cX12_digest 195 = .ok (.if_icmp .ge 19, 3) := by decide +kernel
theorem dX12_digest_198 : decode cX12_digest 198 = .ok (.aload_n 0, 1) := by decide +kernel
theorem dX12_digest_199 : decode cX12_digest 199 = .ok (.aload_n 0, 1) := by decide +kernel
theorem dX12_digest_200 : decode cX12_digest 200 = .ok (.iload_n 1, 1) := by decide +kernel
theorem dX12_digest_201 : decode cX12_digest 201 = .ok (.invokevirtual 307, 3) := by decide +kernel
theorem dX12_digest_204 : decode cX12_digest 204 = .ok (.i2l, 1) := by decide +kernel
theorem dX12_digest_205 : decode cX12_digest 205 = .ok (.invokevirtual 315, 3) := by decide +kernel
theorem dX12_digest_208 : decode cX12_digest 208 = .ok (.iinc 1 1, 3) := by decide +kernel
theorem dX12_digest_211 : decode cX12_digest 211 = .ok (.goto (-19), 3) := by decide +kernel
theorem dX12_digest_214 : decode cX12_digest 214 = .ok (.aload_n 0, 1) := by decide +kernel
theorem dX12_digest_215 : decode cX12_digest 215 = .ok (.getfield 312, 3) := by decide +kernel
theorem dX12_digest_218 : decode cX12_digest 218 = .ok (.lreturn, 1) := by decide +kernel
