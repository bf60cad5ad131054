theorem dX12_init_0 : decode cX12_init 0 = .ok (.aload_n 0, 1) := by decide +kernel
theorem dX12_init_1 : decode cX12_init 1 = .ok (.invokespecial 1, 3) := by decide +kernel
theorem dX12_init_4 : decode cX12_init 4 = .ok (.aload_n 0, 1) := by decide +kernel
theorem dX12_init_5 : decode cX12_init 5 = .ok (.bipush 16, 2) := by decide +kernel
theorem dX12_init_7 : decode cX12_init 7 = .ok (.newarray .int, 2) := by decide +kernel
theorem dX12_init_9 : decode cX12_init 9 = .ok (.putfield 7, 3) := by decide +kernel
theorem dX12_init_12 : decode cX12_init 12 = .ok (.aload_n 0, 1) := by decide +kernel
theorem dX12_init_13 : decode cX12_init 13 = .ok (.bipush 16, 2) := by decide +kernel
theorem dX12_init_15 : decode cX12_init 15 = .ok (.newarray .boolean, 2) := by decide +kernel
theorem dX12_init_17 : decode cX12_init 17 = .ok (.putfield 13, 3) := by decide +kernel
theorem dX12_init_20 : decode cX12_init 20 = .ok (.aload_n 0, 1) := by decide +kernel
theorem dX12_init_21 : decode cX12_init 21 = .ok (.bipush 16, 2) := by decide +kernel
theorem dX12_init_23 : decode cX12_init 23 = .ok (.newarray .int, 2) := by decide +kernel
theorem dX12_init_25 : decode cX12_init 25 = .ok (.putfield 17, 3) := by decide +kernel
theorem dX12_init_28 : decode cX12_init 28 = .ok (.aload_n 0, 1) := by decide +kernel
theorem dX12_init_29 : decode cX12_init 29 = .ok (.bipush 16, 2) := by decide +kernel
theorem dX12_init_31 : decode cX12_init 31 = .ok (.newarray .int, 2) := by decide +kernel
theorem dX12_init_33 : decode cX12_init 33 = .ok (.putfield 20, 3) := by decide +kernel
theorem dX12_init_36 : decode cX12_init 36 = .ok (.aload_n 0, 1) := by decide +kernel
theorem dX12_init_37 : decode cX12_init 37 = .ok (.bipush 6, 2) := by decide +kernel
theorem dX12_init_39 : decode cX12_init 39 = .ok (.newarray .int, 2) := by decide +kernel
theorem dX12_init_41 : decode cX12_init 41 = .ok (.putfield 23, 3) := by decide +kernel
theorem dX12_init_44 : decode cX12_init 44 = .ok (.aload_n 0, 1) := by decide +kernel
theorem dX12_init_45 : decode cX12_init 45 = .ok (.bipush 6, 2) := by decide +kernel
theorem dX12_init_47 : decode cX12_init 47 = .ok (.newarray .int, 2) := by decide +kernel
theorem dX12_init_49 : decode cX12_init 49 = .ok (.putfield 26, 3) := by decide +kernel
theorem dX12_init_52 : decode cX12_init 52 = .ok (.aload_n 0, 1) := by decide +kernel
theorem dX12_init_53 : decode cX12_init 53 = .ok (.bipush 6, 2) := by decide +kernel
theorem dX12_init_55 : decode cX12_init 55 = .ok (.newarray .int, 2) := by decide +kernel
theorem dX12_init_57 : decode cX12_init 57 = .ok (.putfield 29, 3) := by decide +kernel
theorem dX12_init_60 : decode cX12_init 60 = .ok (.aload_n 0, 1) := by decide +kernel
theorem dX12_init_61 : decode cX12_init 61 = .ok (.bipush 6, 2) := by decide +kernel
theorem dX12_init_63 : decode cX12_init 63 = .ok (.newarray .int, 2) := by decide +kernel
theorem dX12_init_65 : decode cX12_init 65 = .ok (.putfield 32, 3) := by decide +kernel
theorem dX12_init_68 : decode cX12_init 68 = .ok (.aload_n 0, 1) := by decide +kernel
theorem dX12_init_69 : decode cX12_init 69 = .ok (.bipush 6, 2) := by decide +kernel
theorem dX12_init_71 : decode cX12_init 71 = .ok (.newarray .int, 2) := by decide +kernel
theorem dX12_init_73 : decode cX12_init 73 = .ok (.putfield 35, 3) := by decide +kernel
theorem dX12_init_76 : decode cX12_init 76 = .ok (.aload_n 0, 1) := by decide +kernel
theorem dX12_init_77 : decode cX12_init 77 = .ok (.bipush 36, 2) := by decide +kernel
theorem dX12_init_79 : decode cX12_init 79 = .ok (.newarray .int, 2) := by decide +kernel
theorem dX12_init_81 : decode cX12_init 81 = .ok (.putfield 38, 3) := by decide +kernel
theorem dX12_init_84 : decode cX12_init 84 = .ok (.aload_n 0, 1) := by decide +kernel
theorem dX12_init_85 : decode cX12_init 85 = .ok (.sipush 168, 3) := by decide +kernel
theorem dX12_init_88 : decode cX12_init 88 = .ok (.newarray .int, 2) := by decide +kernel
theorem dX12_init_90 : decode cX12_init 90 = .ok (.putfield 41, 3) := by decide +kernel
theorem dX12_init_93 : decode cX12_init 93 = .ok (.aload_n 0, 1) := by decide +kernel
theorem dX12_init_94 : decode cX12_init 94 = .ok (.sipush 384, 3) := by decide +kernel
theorem dX12_init_97 : decode cX12_init 97 = .ok (.newarray .int, 2) := by decide +kernel
theorem dX12_init_99 : decode cX12_init 99 = .ok (.putfield 44, 3) := by decide +kernel
theorem dX12_init_102 : decode cX12_init 102 = .ok (.aload_n 0, 1) := by decide +kernel
theorem dX12_init_103 : decode cX12_init 103 = .ok (.bipush 40, 2) := by decide +kernel
theorem dX12_init_105 : decode cX12_init 105 = .ok (.newarray .byte, 2) := by decide +kernel
theorem dX12_init_107 : decode cX12_init 107 = .ok (.putfield 47, 3) := by decide +kernel
theorem dX12_init_110 : decode cX12_init 110 = .ok (.aload_n 0, 1) := by decide +kernel
theorem dX12_init_111 : decode cX12_init 111 = .ok (.bipush 16, 2) := by decide +kernel
theorem dX12_init_113 : decode cX12_init 113 = .ok (.newarray .int, 2) := by decide +kernel
theorem dX12_init_115 : decode cX12_init 115 = .ok (.putfield 51, 3) := by decide +kernel
theorem dX12_init_118 : decode cX12_init 118 = .ok (.aload_n 0, 1) := by decide +kernel
theorem dX12_init_119 : decode cX12_init 119 = .ok (.bipush 16, 2) := by decide +kernel
theorem dX12_init_121 : decode cX12_init 121 = .ok (.newarray .int, 2) := by decide +kernel
theorem dX12_init_123 : decode cX12_init 123 = .ok (.putfield 54, 3) := by decide +kernel
theorem dX12_init_126 : decode cX12_init 126 = .ok (.aload_n 0, 1) := by decide +kernel
theorem dX12_init_127 : decode cX12_init 127 = .ok (.bipush 16, 2) := by decide +kernel
theorem dX12_init_129 : decode cX12_init 129 = .ok (.newarray .int, 2) := by decide +kernel
theorem dX12_init_131 : decode cX12_init 131 = .ok (.putfield 57, 3) := by decide +kernel
theorem dX12_init_134 : decode cX12_init 134 = .ok (.aload_n 0, 1) := by decide +kernel
theorem dX12_init_135 : decode cX12_init 135 = .ok (.bipush 16, 2) := by decide +kernel
theorem dX12_init_137 : decode cX12_init 137 = .ok (.newarray .boolean, 2) := by decide +kernel
theorem dX12_init_139 : decode cX12_init 139 = .ok (.putfield 60, 3) := by decide +kernel
theorem dX12_init_142 : decode cX12_init 142 = .ok (.aload_n 0, 1) := by decide +kernel
theorem dX12_init_143 : decode cX12_init 143 = .ok (.bipush 6, 2) := by decide +kernel
theorem dX12_init_145 : decode cX12_init 145 = .ok (.newarray .int, 2) := by decide +kernel
theorem dX12_init_147 : decode cX12_init 147 = .ok (.putfield 63, 3) := by decide +kernel
theorem dX12_init_150 : decode cX12_init 150 = .ok (.aload_n 0, 1) := by decide +kernel
theorem dX12_init_151 : decode cX12_init 151 = .ok (.bipush 16, 2) := by decide +kernel
theorem dX12_init_153 : decode cX12_init 153 = .ok (.newarray .int, 2) := by decide +kernel
theorem dX12_init_155 : decode cX12_init 155 = .ok (.putfield 66, 3) := by decide +kernel
theorem dX12_init_158 : decode cX12_init 158 = .ok (.aload_n 0, 1) := by decide +kernel
theorem dX12_init_159 : decode cX12_init 159 = .ok (.bipush 16, 2) := by decide +kernel
theorem dX12_init_161 : decode cX12_init 161 = .ok (.newarray .int, 2) := by decide +kernel
theorem dX12_init_163 : decode cX12_init 163 = .ok (.putfield 69, 3) := by decide +kernel
theorem dX12_init_166 : decode cX12_init 166 = .ok (.aload_n 0, 1) := by decide +kernel
theorem dX12_init_167 : decode cX12_init 167 = .ok (.bipush 6, 2) := by decide +kernel
theorem dX12_init_169 : decode cX12_init 169 = .ok (.newarray .int, 2) := by decide +kernel
theorem dX12_init_171 : decode cX12_init 171 = .ok (.putfield 72, 3) := by decide +kernel
theorem dX12_init_174 : decode cX12_init 174 = .ok (.aload_n 0, 1) := by decide +kernel
theorem dX12_init_175 : decode cX12_init 175 = .ok (.bipush 16, 2) := by decide +kernel
theorem dX12_init_177 : decode cX12_init 177 = .ok (.newarray .int, 2) := by decide +kernel
theorem dX12_init_179 : decode cX12_init 179 = .ok (.putfield 75, 3) := by decide +kernel
theorem dX12_init_182 : decode cX12_init 182 = .ok (.aload_n 0, 1) := by decide +kernel
theorem dX12_init_183 : decode cX12_init 183 = .ok (.bipush 16, 2) := by decide +kernel
theorem dX12_init_185 : decode cX12_init 185 = .ok (.newarray .int, 2) := by decide +kernel
theorem dX12_init_187 : decode cX12_init 187 = .ok (.putfield 78, 3) := by decide +kernel
theorem dX12_init_190 : decode cX12_init 190 = .ok (.aload_n 0, 1) := by decide +kernel
theorem dX12_init_191 : decode cX12_init 191 = .ok (.bipush 16, 2) := by decide +kernel
theorem dX12_init_193 : decode cX12_init 193 = .ok (.newarray .boolean, 2) := by decide +kernel
theorem dX12_init_195 : decode cX12_init 195 = .ok (.putfield 81, 3) := by decide +kernel
theorem dX12_init_198 : decode cX12_init 198 = .ok (.aload_n 0, 1) := by decide +kernel
theorem dX12_init_199 : decode cX12_init 199 = .ok (.bipush 32, 2) := by decide +kernel
theorem dX12_init_201 : decode cX12_init 201 = .ok (.newarray .int, 2) := by decide +kernel
theorem dX12_init_203 : decode cX12_init 203 = .ok (.putfield 84, 3) := by decide +kernel
theorem dX12_init_206 : decode cX12_init 206 = .ok (.aload_n 0, 1) := by decide +kernel
theorem dX12_init_207 : decode cX12_init 207 = .ok (.bipush 16, 2) := by decide +kernel
theorem dX12_init_209 : decode cX12_init 209 = .ok (.newarray .int, 2) := by decide +kernel
theorem dX12_init_211 : decode cX12_init 211 = .ok (.putfield 87, 3) := by decide +kernel
theorem dX12_init_214 : decode cX12_init 214 = .ok (.aload_n 0, 1) := by decide +kernel
theorem dX12_init_215 : decode cX12_init 215 = .ok (.bipush 9, 2) := by decide +kernel
theorem dX12_init_217 : decode cX12_init 217 = .ok (.newarray .int, 2) := by decide +kernel
theorem dX12_init_219 : decode cX12_init 219 = .ok (.putfield 90, 3) := by decide +kernel
theorem dX12_init_222 : decode cX12_init 222 = .ok (.aload_n 0, 1) := by decide +kernel
theorem dX12_init_223 : decode cX12_init 223 = .ok (.bipush 9, 2) := by decide +kernel
theorem dX12_init_225 : decode cX12_init 225 = .ok (.newarray .int, 2) := by decide +kernel
theorem dX12_init_227 : decode cX12_init 227 = .ok (.putfield 93, 3) := by decide +kernel
theorem dX12_init_230 : decode cX12_init 230 = .ok (.return_, 1) := by decide +kernel
theorem dX12_within_0 : decode cX12_within 0 = .ok (.iload_n 0, 1) := by decide +kernel
theorem dX12_within_1 : decode cX12_within 1 = .ok (.iload_n 1, 1) := by decide +kernel
theorem dX12_within_2 : decode cX12_within 2 = .ok (.if_icmp .lt 12, 3) := by decide +kernel
theorem dX12_within_5 : decode cX12_within 5 = .ok (.iload_n 0, 1) := by decide +kernel
theorem dX12_within_6 : decode cX12_within 6 = .ok (.iload_n 2, 1) := by decide +kernel
theorem dX12_within_7 : decode cX12_within 7 = .ok (.if_icmp .gt 7, 3) := by decide +kernel
theorem dX12_within_10 : decode cX12_within 10 = .ok (.iconst 1, 1) := by decide +kernel
theorem dX12_within_11 : decode cX12_within 11 = .ok (.goto 4, 3) := by decide +kernel
theorem dX12_within_14 : decode cX12_within 14 = .ok (.iconst 0, 1) := by decide +kernel
theorem dX12_within_15 : decode cX12_within 15 = .ok (.ireturn, 1) := by decide +kernel
theorem dX12_atLeast_0 : decode cX12_atLeast 0 = .ok (.iload_n 0, 1) := by decide +kernel
theorem dX12_atLeast_1 : decode cX12_atLeast 1 = .ok (.ifCond .ge 7, 3) := by decide +kernel
theorem dX12_atLeast_4 : decode cX12_atLeast 4 = .ok (.iconst 0, 1) := by decide +kernel
theorem dX12_atLeast_5 : decode cX12_atLeast 5 = .ok (.goto 4, 3) := by decide +kernel
theorem dX12_atLeast_8 : decode cX12_atLeast 8 = .ok (.iload_n 0, 1) := by decide +kernel
theorem dX12_atLeast_9 : decode cX12_atLeast 9 = .ok (.ireturn, 1) := by decide +kernel
theorem dX12_letters_0 : decode cX12_letters 0 = .ok (.iconst 0, 1) := by decide +kernel
theorem dX12_letters_1 : decode cX12_letters 1 = .ok (.istore_n 3, 1) := by decide +kernel
theorem dX12_letters_2 : decode cX12_letters 2 = .ok (.iconst 0, 1) := by decide +kernel
theorem dX12_letters_3 : decode cX12_letters 3 = .ok (.istore 4, 2) := by decide +kernel
theorem dX12_letters_5 : decode cX12_letters 5 = .ok (.iconst 0, 1) := by decide +kernel
theorem dX12_letters_6 : decode cX12_letters 6 = .ok (.istore 5, 2) := by decide +kernel
theorem dX12_letters_8 : decode cX12_letters 8 = .ok (.iload 5, 2) := by decide +kernel
theorem dX12_letters_10 : decode cX12_letters 10 = .ok (.bipush 8, 2) := by decide +kernel
theorem dX12_letters_12 : decode cX12_letters 12 = .ok (.if_icmp .ge 73, 3) := by decide +kernel
theorem dX12_letters_15 : decode cX12_letters 15 = .ok (.lload_n 1, 1) := by decide +kernel
theorem dX12_letters_16 : decode cX12_letters 16 = .ok (.bipush 8, 2) := by decide +kernel
theorem dX12_letters_18 : decode cX12_letters 18 = .ok (.iload 5, 2) := by decide +kernel
theorem dX12_letters_20 : decode cX12_letters 20 = .ok (.imul, 1) := by decide +kernel
theorem dX12_letters_21 : decode cX12_letters 21 = .ok (.lshr, 1) := by decide +kernel
theorem dX12_letters_22 : decode cX12_letters 22 = .ok (.ldc2_w 96, 3) := by decide +kernel
theorem dX12_letters_25 : decode cX12_letters 25 = .ok (.land, 1) := by decide +kernel
theorem dX12_letters_26 : decode cX12_letters 26 = .ok (.l2i, 1) := by decide +kernel
theorem dX12_letters_27 : decode cX12_letters 27 = .ok (.istore 6, 2) := by decide +kernel
theorem dX12_letters_29 : decode cX12_letters 29 = .ok (.iload 6, 2) := by decide +kernel
theorem dX12_letters_31 : decode cX12_letters 31 = .ok (.bipush 126, 2) := by decide +kernel
theorem dX12_letters_33 : decode cX12_letters 33 = .ok (.if_icmp .gt 13, 3) := by decide +kernel
theorem dX12_letters_36 : decode cX12_letters 36 = .ok (.iload 4, 2) := by decide +kernel
theorem dX12_letters_38 : decode cX12_letters 38 = .ok (.ifCond .eq 11, 3) := by decide +kernel
theorem dX12_letters_41 : decode cX12_letters 41 = .ok (.iload 6, 2) := by decide +kernel
theorem dX12_letters_43 : decode cX12_letters 43 = .ok (.ifCond .eq 6, 3) := by decide +kernel
theorem dX12_letters_46 : decode cX12_letters 46 = .ok (.bipush (-102), 2) := by decide +kernel
theorem dX12_letters_48 : decode cX12_letters 48 = .ok (.ireturn, 1) := by decide +kernel
theorem dX12_letters_49 : decode cX12_letters 49 = .ok (.iload 4, 2) := by decide +kernel
theorem dX12_letters_51 : decode cX12_letters 51 = .ok (.ifCond .ne 8, 3) := by decide +kernel
theorem dX12_letters_54 : decode cX12_letters 54 = .ok (.iload 6, 2) := by decide +kernel
theorem dX12_letters_56 : decode cX12_letters 56 = .ok (.ifCond .ne 7, 3) := by decide +kernel
theorem dX12_letters_59 : decode cX12_letters 59 = .ok (.iconst 1, 1) := by decide +kernel
theorem dX12_letters_60 : decode cX12_letters 60 = .ok (.goto 4, 3) := by decide +kernel
theorem dX12_letters_63 : decode cX12_letters 63 = .ok (.iconst 0, 1) := by decide +kernel
theorem dX12_letters_64 : decode cX12_letters 64 = .ok (.istore 4, 2) := by decide +kernel
theorem dX12_letters_66 : decode cX12_letters 66 = .ok (.iload_n 3, 1) := by decide +kernel
theorem dX12_letters_67 : decode cX12_letters 67 = .ok (.iload 6, 2) := by decide +kernel
theorem dX12_letters_69 : decode cX12_letters 69 = .ok (.ifCond .ne 7, 3) := by decide +kernel
theorem dX12_letters_72 : decode cX12_letters 72 = .ok (.iconst 0, 1) := by decide +kernel
theorem dX12_letters_73 : decode cX12_letters 73 = .ok (.goto 4, 3) := by decide +kernel
theorem dX12_letters_76 : decode cX12_letters 76 = .ok (.iconst 1, 1) := by decide +kernel
theorem dX12_letters_77 : decode cX12_letters 77 = .ok (.iadd, 1) := by decide +kernel
theorem dX12_letters_78 : decode cX12_letters 78 = .ok (.istore_n 3, 1) := by decide +kernel
theorem dX12_letters_79 : decode cX12_letters 79 = .ok (.iinc 5 1, 3) := by decide +kernel
theorem dX12_letters_82 : decode cX12_letters 82 = .ok (.goto (-74), 3) := by decide +kernel
theorem dX12_letters_85 : decode cX12_letters 85 = .ok (.aload_n 0, 1) := by decide +kernel
theorem dX12_letters_86 : decode cX12_letters 86 = .ok (.getfield 98, 3) := by decide +kernel
theorem dX12_letters_89 : decode cX12_letters 89 = .ok (.iload_n 3, 1) := by decide +kernel
theorem dX12_letters_90 : decode cX12_letters 90 = .ok (.iadd, 1) := by decide +kernel
theorem dX12_letters_91 : decode cX12_letters 91 = .ok (.bipush 40, 2) := by decide +kernel
theorem dX12_letters_93 : decode cX12_letters 93 = .ok (.if_icmp .le 6, 3) := by decide +kernel
theorem dX12_letters_96 : decode cX12_letters 96 = .ok (.bipush (-104), 2) := by decide +kernel
theorem dX12_letters_98 : decode cX12_letters 98 = .ok (.ireturn, 1) := by decide +kernel
theorem dX12_letters_99 : decode cX12_letters 99 = .ok (.iconst 0, 1) := by decide +kernel
theorem dX12_letters_100 : decode cX12_letters 100 = .ok (.istore 5, 2) := by decide +kernel
theorem dX12_letters_102 : decode cX12_letters 102 = .ok (.iload 5, 2) := by decide +kernel
theorem dX12_letters_104 : decode cX12_letters 104 = .ok (.iload_n 3, 1) := by decide +kernel
theorem dX12_letters_105 : decode cX12_letters 105 = .ok (.if_icmp .ge 30, 3) := by decide +kernel
theorem dX12_letters_108 : decode cX12_letters 108 = .ok (.aload_n 0, 1) := by decide +kernel
theorem dX12_letters_109 : decode cX12_letters 109 = .ok (.getfield 47, 3) := by decide +kernel
theorem dX12_letters_112 : decode cX12_letters 112 = .ok (.aload_n 0, 1) := by decide +kernel
theorem dX12_letters_113 : decode cX12_letters 113 = .ok (.getfield 98, 3) := by decide +kernel
theorem dX12_letters_116 : decode cX12_letters 116 = .ok (.iload 5, 2) := by decide +kernel
theorem dX12_letters_118 : decode cX12_letters 118 = .ok (.iadd, 1) := by decide +kernel
theorem dX12_letters_119 : decode cX12_letters 119 = .ok (.lload_n 1, 1) := by decide +kernel
theorem dX12_letters_120 : decode cX12_letters 120 = .ok (.bipush 8, 2) := by decide +kernel
theorem dX12_letters_122 : decode cX12_letters 122 = .ok (.iload 5, 2) := by decide +kernel
theorem dX12_letters_124 : decode cX12_letters 124 = .ok (.imul, 1) := by decide +kernel
theorem dX12_letters_125 : decode cX12_letters 125 = .ok (.lshr, 1) := by decide +kernel
theorem dX12_letters_126 : decode cX12_letters 126 = .ok (.l2i, 1) := by decide +kernel
theorem dX12_letters_127 : decode cX12_letters 127 = .ok (.i2b, 1) := by decide +kernel
theorem dX12_letters_128 : decode cX12_letters 128 = .ok (.bastore, 1) := by decide +kernel
theorem dX12_letters_129 : decode cX12_letters 129 = .ok (.iinc 5 1, 3) := by decide +kernel
theorem dX12_letters_132 : decode cX12_letters 132 = .ok (.goto (-30), 3) := by decide +kernel
theorem dX12_letters_135 : decode cX12_letters 135 = .ok (.aload_n 0, 1) := by decide +kernel
theorem dX12_letters_136 : decode cX12_letters 136 = .ok (.dup, 1) := by decide +kernel
theorem dX12_letters_137 : decode cX12_letters 137 = .ok (.getfield 98, 3) := by decide +kernel
theorem dX12_letters_140 : decode cX12_letters 140 = .ok (.iload_n 3, 1) := by decide +kernel
theorem dX12_letters_141 : decode cX12_letters 141 = .ok (.iadd, 1) := by decide +kernel
theorem dX12_letters_142 : decode cX12_letters 142 = .ok (.putfield 98, 3) := by decide +kernel
theorem dX12_letters_145 : decode cX12_letters 145 = .ok (.aload_n 0, 1) := by decide +kernel
theorem dX12_letters_146 : decode cX12_letters 146 = .ok (.getfield 98, 3) := by decide +kernel
theorem dX12_letters_149 : decode cX12_letters 149 = .ok (.ireturn, 1) := by decide +kernel
theorem dX12_blank_0 : decode cX12_blank 0 = .ok (.aload_n 0, 1) := by decide +kernel
theorem dX12_blank_1 : decode cX12_blank 1 = .ok (.getfield 98, 3) := by decide +kernel
theorem dX12_blank_4 : decode cX12_blank 4 = .ok (.istore_n 1, 1) := by decide +kernel
theorem dX12_blank_5 : decode cX12_blank 5 = .ok (.aload_n 0, 1) := by decide +kernel
theorem dX12_blank_6 : decode cX12_blank 6 = .ok (.iconst 0, 1) := by decide +kernel
theorem dX12_blank_7 : decode cX12_blank 7 = .ok (.putfield 98, 3) := by decide +kernel
theorem dX12_blank_10 : decode cX12_blank 10 = .ok (.iload_n 1, 1) := by decide +kernel
theorem dX12_blank_11 : decode cX12_blank 11 = .ok (.ireturn, 1) := by decide +kernel
theorem dX12_isDigit_0 : decode cX12_isDigit 0 = .ok (.iload_n 0, 1) := by decide +kernel
theorem dX12_isDigit_1 : decode cX12_isDigit 1 = .ok (.bipush 48, 2) := by decide +kernel
theorem dX12_isDigit_3 : decode cX12_isDigit 3 = .ok (.bipush 57, 2) := by decide +kernel
theorem dX12_isDigit_5 : decode cX12_isDigit 5 = .ok (.invokestatic 102, 3) := by decide +kernel
theorem dX12_isDigit_8 : decode cX12_isDigit 8 = .ok (.ireturn, 1) := by decide +kernel
theorem dX12_takePan_0 : decode cX12_takePan 0 = .ok (.aload_n 0, 1) := by decide +kernel
theorem dX12_takePan_1 : decode cX12_takePan 1 = .ok (.getfield 106, 3) := by decide +kernel
theorem dX12_takePan_4 : decode cX12_takePan 4 = .ok (.aload_n 0, 1) := by decide +kernel
theorem dX12_takePan_5 : decode cX12_takePan 5 = .ok (.getfield 109, 3) := by decide +kernel
theorem dX12_takePan_8 : decode cX12_takePan 8 = .ok (.imul, 1) := by decide +kernel
theorem dX12_takePan_9 : decode cX12_takePan 9 = .ok (.aload_n 0, 1) := by decide +kernel
theorem dX12_takePan_10 : decode cX12_takePan 10 = .ok (.getfield 112, 3) := by decide +kernel
theorem dX12_takePan_13 : decode cX12_takePan 13 = .ok (.iadd, 1) := by decide +kernel
theorem dX12_takePan_14 : decode cX12_takePan 14 = .ok (.istore_n 2, 1) := by decide +kernel
theorem dX12_takePan_15 : decode cX12_takePan 15 = .ok (.iload_n 1, 1) := by decide +kernel
theorem dX12_takePan_16 : decode cX12_takePan 16 = .ok (.invokestatic 115, 3) := by decide +kernel
theorem dX12_takePan_19 : decode cX12_takePan 19 = .ok (.ifCond .eq 61, 3) := by decide +kernel
theorem dX12_takePan_22 : decode cX12_takePan 22 = .ok (.aload_n 0, 1) := by decide +kernel
theorem dX12_takePan_23 : decode cX12_takePan 23 = .ok (.getfield 112, 3) := by decide +kernel
theorem dX12_takePan_26 : decode cX12_takePan 26 = .ok (.aload_n 0, 1) := by decide +kernel
theorem dX12_takePan_27 : decode cX12_takePan 27 = .ok (.getfield 106, 3) := by decide +kernel
theorem dX12_takePan_30 : decode cX12_takePan 30 = .ok (.ifCond .ne 7, 3) := by decide +kernel
theorem dX12_takePan_33 : decode cX12_takePan 33 = .ok (.iconst 4, 1) := by decide +kernel
theorem dX12_takePan_34 : decode cX12_takePan 34 = .ok (.goto 7, 3) := by decide +kernel
theorem dX12_takePan_37 : decode cX12_takePan 37 = .ok (.aload_n 0, 1) := by decide +kernel
theorem dX12_takePan_38 : decode cX12_takePan 38 = .ok (.getfield 109, 3) := by decide +kernel
theorem dX12_takePan_41 : decode cX12_takePan 41 = .ok (.if_icmp .ne 5, 3) := by decide +kernel
theorem dX12_takePan_44 : decode cX12_takePan 44 = .ok (.iconst 0, 1) := by decide +kernel
theorem dX12_takePan_45 : decode cX12_takePan 45 = .ok (.ireturn, 1) := by decide +kernel
theorem dX12_takePan_46 : decode cX12_takePan 46 = .ok (.aload_n 0, 1) := by decide +kernel
theorem dX12_takePan_47 : decode cX12_takePan 47 = .ok (.getfield 57, 3) := by decide +kernel
theorem dX12_takePan_50 : decode cX12_takePan 50 = .ok (.iload_n 2, 1) := by decide +kernel
theorem dX12_takePan_51 : decode cX12_takePan 51 = .ok (.iload_n 1, 1) := by decide +kernel
theorem dX12_takePan_52 : decode cX12_takePan 52 = .ok (.bipush 48, 2) := by decide +kernel
theorem dX12_takePan_54 : decode cX12_takePan 54 = .ok (.isub, 1) := by decide +kernel
theorem dX12_takePan_55 : decode cX12_takePan 55 = .ok (.iastore, 1) := by decide +kernel
theorem dX12_takePan_56 : decode cX12_takePan 56 = .ok (.aload_n 0, 1) := by decide +kernel
theorem dX12_takePan_57 : decode cX12_takePan 57 = .ok (.getfield 60, 3) := by decide +kernel
theorem dX12_takePan_60 : decode cX12_takePan 60 = .ok (.iload_n 2, 1) := by decide +kernel
theorem dX12_takePan_61 : decode cX12_takePan 61 = .ok (.iconst 0, 1) := by decide +kernel
theorem dX12_takePan_62 : decode cX12_takePan 62 = .ok (.bastore, 1) := by decide +kernel
theorem dX12_takePan_63 : decode cX12_takePan 63 = .ok (.aload_n 0, 1) := by decide +kernel
theorem dX12_takePan_64 : decode cX12_takePan 64 = .ok (.iconst 1, 1) := by decide +kernel
theorem dX12_takePan_65 : decode cX12_takePan 65 = .ok (.putfield 119, 3) := by decide +kernel
theorem dX12_takePan_68 : decode cX12_takePan 68 = .ok (.aload_n 0, 1) := by decide +kernel
theorem dX12_takePan_69 : decode cX12_takePan 69 = .ok (.dup, 1) := by decide +kernel
theorem dX12_takePan_70 : decode cX12_takePan 70 = .ok (.getfield 112, 3) := by decide +kernel
theorem dX12_takePan_73 : decode cX12_takePan 73 = .ok (.iconst 1, 1) := by decide +kernel
theorem dX12_takePan_74 : decode cX12_takePan 74 = .ok (.iadd, 1) := by decide +kernel
theorem dX12_takePan_75 : decode cX12_takePan 75 = .ok (.putfield 112, 3) := by decide +kernel
theorem dX12_takePan_78 : decode cX12_takePan 78 = .ok (.iconst 1, 1) := by decide +kernel
theorem dX12_takePan_79 : decode cX12_takePan 79 = .ok (.ireturn, 1) := by decide +kernel
theorem dX12_takePan_80 : decode cX12_takePan 80 = .ok (.iload_n 1, 1) := by decide +kernel
theorem dX12_takePan_81 : decode cX12_takePan 81 = .ok (.bipush 115, 2) := by decide +kernel
theorem dX12_takePan_83 : decode cX12_takePan 83 = .ok (.if_icmp .ne 26, 3) := by decide +kernel
theorem dX12_takePan_86 : decode cX12_takePan 86 = .ok (.aload_n 0, 1) := by decide +kernel
theorem dX12_takePan_87 : decode cX12_takePan 87 = .ok (.getfield 119, 3) := by decide +kernel
theorem dX12_takePan_90 : decode cX12_takePan 90 = .ok (.ifCond .eq 19, 3) := by decide +kernel
theorem dX12_takePan_93 : decode cX12_takePan 93 = .ok (.aload_n 0, 1) := by decide +kernel
theorem dX12_takePan_94 : decode cX12_takePan 94 = .ok (.getfield 60, 3) := by decide +kernel
theorem dX12_takePan_97 : decode cX12_takePan 97 = .ok (.iload_n 2, 1) := by decide +kernel
theorem dX12_takePan_98 : decode cX12_takePan 98 = .ok (.iconst 1, 1) := by decide +kernel
theorem dX12_takePan_99 : decode cX12_takePan 99 = .ok (.isub, 1) := by decide +kernel
theorem dX12_takePan_100 : decode cX12_takePan 100 = .ok (.iconst 1, 1) := by decide +kernel
theorem dX12_takePan_101 : decode cX12_takePan 101 = .ok (.bastore, 1) := by decide +kernel
theorem dX12_takePan_102 : decode cX12_takePan 102 = .ok (.aload_n 0, 1) := by decide +kernel
theorem dX12_takePan_103 : decode cX12_takePan 103 = .ok (.iconst 0, 1) := by decide +kernel
theorem dX12_takePan_104 : decode cX12_takePan 104 = .ok (.putfield 119, 3) := by decide +kernel
theorem dX12_takePan_107 : decode cX12_takePan 107 = .ok (.iconst 1, 1) := by decide +kernel
theorem dX12_takePan_108 : decode cX12_takePan 108 = .ok (.ireturn, 1) := by decide +kernel
theorem dX12_takePan_109 : decode cX12_takePan 109 = .ok (.iload_n 1, 1) := by decide +kernel
theorem dX12_takePan_110 : decode cX12_takePan 110 = .ok (.bipush 47, 2) := by decide +kernel
theorem dX12_takePan_112 : decode cX12_takePan 112 = .ok (.if_icmp .ne 44, 3) := by decide +kernel
theorem dX12_takePan_115 : decode cX12_takePan 115 = .ok (.aload_n 0, 1) := by decide +kernel
theorem dX12_takePan_116 : decode cX12_takePan 116 = .ok (.getfield 106, 3) := by decide +kernel
theorem dX12_takePan_119 : decode cX12_takePan 119 = .ok (.iconst 3, 1) := by decide +kernel
theorem dX12_takePan_120 : decode cX12_takePan 120 = .ok (.if_icmp .ge 36, 3) := by decide +kernel
theorem dX12_takePan_123 : decode cX12_takePan 123 = .ok (.aload_n 0, 1) := by decide +kernel
theorem dX12_takePan_124 : decode cX12_takePan 124 = .ok (.getfield 106, 3) := by decide +kernel
theorem dX12_takePan_127 : decode cX12_takePan 127 = .ok (.ifCond .ne 14, 3) := by decide +kernel
theorem dX12_takePan_130 : decode cX12_takePan 130 = .ok (.aload_n 0, 1) := by decide +kernel
theorem dX12_takePan_131 : decode cX12_takePan 131 = .ok (.getfield 112, 3) := by decide +kernel
theorem dX12_takePan_134 : decode cX12_takePan 134 = .ok (.iconst 1, 1) := by decide +kernel
theorem dX12_takePan_135 : decode cX12_takePan 135 = .ok (.if_icmp .le 21, 3) := by decide +kernel
theorem dX12_takePan_138 : decode cX12_takePan 138 = .ok (.goto 14, 3) := by decide +kernel
theorem dX12_takePan_141 : decode cX12_takePan 141 = .ok (.aload_n 0, 1) := by decide +kernel
theorem dX12_takePan_142 : decode cX12_takePan 142 = .ok (.getfield 112, 3) := by decide +kernel
theorem dX12_takePan_145 : decode cX12_takePan 145 = .ok (.aload_n 0, 1) := by decide +kernel
theorem dX12_takePan_146 : decode cX12_takePan 146 = .ok (.getfield 109, 3) := by decide +kernel
theorem dX12_takePan_149 : decode cX12_takePan 149 = .ok (.if_icmp .ne 7, 3) := by decide +kernel
theorem dX12_takePan_152 : decode cX12_takePan 152 = .ok (.iconst 1, 1) := by decide +kernel
theorem dX12_takePan_153 : decode cX12_takePan 153 = .ok (.goto 4, 3) := by decide +kernel
theorem dX12_takePan_156 : decode cX12_takePan 156 = .ok (.iconst 0, 1) := by decide +kernel
theorem dX12_takePan_157 : decode cX12_takePan 157 = .ok (.istore_n 3, 1) := by decide +kernel
theorem dX12_takePan_158 : decode cX12_takePan 158 = .ok (.iload_n 3, 1) := by decide +kernel
theorem dX12_takePan_159 : decode cX12_takePan 159 = .ok (.ifCond .eq 31, 3) := by decide +kernel
theorem dX12_takePan_162 : decode cX12_takePan 162 = .ok (.aload_n 0, 1) := by decide +kernel
theorem dX12_takePan_163 : decode cX12_takePan 163 = .ok (.aload_n 0, 1) := by decide +kernel
theorem dX12_takePan_164 : decode cX12_takePan 164 = .ok (.getfield 112, 3) := by decide +kernel
theorem dX12_takePan_167 : decode cX12_takePan 167 = .ok (.putfield 109, 3) := by decide +kernel
theorem dX12_takePan_170 : decode cX12_takePan 170 = .ok (.aload_n 0, 1) := by decide +kernel
theorem dX12_takePan_171 : decode cX12_takePan 171 = .ok (.dup, 1) := by decide +kernel
theorem dX12_takePan_172 : decode cX12_takePan 172 = .ok (.getfield 106, 3) := by decide +kernel
theorem dX12_takePan_175 : decode cX12_takePan 175 = .ok (.iconst 1, 1) := by decide +kernel
theorem dX12_takePan_176 : decode cX12_takePan 176 = .ok (.iadd, 1) := by decide +kernel
theorem dX12_takePan_177 : decode cX12_takePan 177 = .ok (.putfield 106, 3) := by decide +kernel
theorem dX12_takePan_180 : decode cX12_takePan 180 = .ok (.aload_n 0, 1) := by decide +kernel
theorem dX12_takePan_181 : decode cX12_takePan 181 = .ok (.iconst 0, 1) := by decide +kernel
theorem dX12_takePan_182 : decode cX12_takePan 182 = .ok (.putfield 112, 3) := by decide +kernel
theorem dX12_takePan_185 : decode cX12_takePan 185 = .ok (.aload_n 0, 1) := by decide +kernel
theorem dX12_takePan_186 : decode cX12_takePan 186 = .ok (.iconst 0, 1) := by decide +kernel
theorem dX12_takePan_187 : decode cX12_takePan 187 = .ok (.putfield 119, 3) := by decide +kernel
theorem dX12_takePan_190 : decode cX12_takePan 190 = .ok (.iload_n 3, 1) := by decide +kernel
theorem dX12_takePan_191 : decode cX12_takePan 191 = .ok (.ireturn, 1) := by decide +kernel
theorem dX12_readPan_0 : decode cX12_readPan 0 = .ok (.aload_n 0, 1) := by decide +kernel
theorem dX12_readPan_1 : decode cX12_readPan 1 = .ok (.iconst 0, 1) := by decide +kernel
theorem dX12_readPan_2 : decode cX12_readPan 2 = .ok (.putfield 106, 3) := by decide +kernel
theorem dX12_readPan_5 : decode cX12_readPan 5 = .ok (.aload_n 0, 1) := by decide +kernel
theorem dX12_readPan_6 : decode cX12_readPan 6 = .ok (.iconst 0, 1) := by decide +kernel
theorem dX12_readPan_7 : decode cX12_readPan 7 = .ok (.putfield 109, 3) := by decide +kernel
theorem dX12_readPan_10 : decode cX12_readPan 10 = .ok (.aload_n 0, 1) := by decide +kernel
theorem dX12_readPan_11 : decode cX12_readPan 11 = .ok (.iconst 0, 1) := by decide +kernel
theorem dX12_readPan_12 : decode cX12_readPan 12 = .ok (.putfield 112, 3) := by decide +kernel
theorem dX12_readPan_15 : decode cX12_readPan 15 = .ok (.aload_n 0, 1) := by decide +kernel
theorem dX12_readPan_16 : decode cX12_readPan 16 = .ok (.iconst 0, 1) := by decide +kernel
theorem dX12_readPan_17 : decode cX12_readPan 17 = .ok (.putfield 119, 3) := by decide +kernel
theorem dX12_readPan_20 : decode cX12_readPan 20 = .ok (.iconst 0, 1) := by decide +kernel
theorem dX12_readPan_21 : decode cX12_readPan 21 = .ok (.istore_n 1, 1) := by decide +kernel
theorem dX12_readPan_22 : decode cX12_readPan 22 = .ok (.iload_n 1, 1) := by decide +kernel
theorem dX12_readPan_23 : decode cX12_readPan 23 = .ok (.aload_n 0, 1) := by decide +kernel
theorem dX12_readPan_24 : decode cX12_readPan 24 = .ok (.getfield 98, 3) := by decide +kernel
theorem dX12_readPan_27 : decode cX12_readPan 27 = .ok (.if_icmp .ge 22, 3) := by decide +kernel
theorem dX12_readPan_30 : decode cX12_readPan 30 = .ok (.aload_n 0, 1) := by decide +kernel
theorem dX12_readPan_31 : decode cX12_readPan 31 = .ok (.aload_n 0, 1) := by decide +kernel
theorem dX12_readPan_32 : decode cX12_readPan 32 = .ok (.getfield 47, 3) := by decide +kernel
theorem dX12_readPan_35 : decode cX12_readPan 35 = .ok (.iload_n 1, 1) := by decide +kernel
theorem dX12_readPan_36 : decode cX12_readPan 36 = .ok (.baload, 1) := by decide +kernel
theorem dX12_readPan_37 : decode cX12_readPan 37 = .ok (.invokevirtual 123, 3) := by decide +kernel
theorem dX12_readPan_40 : decode cX12_readPan 40 = .ok (.ifCond .eq 9, 3) := by decide +kernel
theorem dX12_readPan_43 : decode cX12_readPan 43 = .ok (.iinc 1 1, 3) := by decide +kernel
theorem dX12_readPan_46 : decode cX12_readPan 46 = .ok (.goto (-24), 3) := by decide +kernel
theorem dX12_readPan_49 : decode cX12_readPan 49 = .ok (.aload_n 0, 1) := by decide +kernel
theorem dX12_readPan_50 : decode cX12_readPan 50 = .ok (.iload_n 1, 1) := by decide +kernel
theorem dX12_readPan_51 : decode cX12_readPan 51 = .ok (.putfield 126, 3) := by decide +kernel
theorem dX12_readPan_54 : decode cX12_readPan 54 = .ok (.aload_n 0, 1) := by decide +kernel
theorem dX12_readPan_55 : decode cX12_readPan 55 = .ok (.iload_n 1, 1) := by decide +kernel
theorem dX12_readPan_56 : decode cX12_readPan 56 = .ok (.aload_n 0, 1) := by decide +kernel
theorem dX12_readPan_57 : decode cX12_readPan 57 = .ok (.getfield 98, 3) := by decide +kernel
theorem dX12_readPan_60 : decode cX12_readPan 60 = .ok (.if_icmp .ne 25, 3) := by decide +kernel
theorem dX12_readPan_63 : decode cX12_readPan 63 = .ok (.aload_n 0, 1) := by decide +kernel
theorem dX12_readPan_64 : decode cX12_readPan 64 = .ok (.getfield 106, 3) := by decide +kernel
theorem dX12_readPan_67 : decode cX12_readPan 67 = .ok (.ifCond .le 18, 3) := by decide +kernel
theorem dX12_readPan_70 : decode cX12_readPan 70 = .ok (.aload_n 0, 1) := by decide +kernel
theorem dX12_readPan_71 : decode cX12_readPan 71 = .ok (.getfield 112, 3) := by decide +kernel
theorem dX12_readPan_74 : decode cX12_readPan 74 = .ok (.aload_n 0, 1) := by decide +kernel
theorem dX12_readPan_75 : decode cX12_readPan 75 = .ok (.getfield 109, 3) := by decide +kernel
theorem dX12_readPan_78 : decode cX12_readPan 78 = .ok (.if_icmp .ne 7, 3) := by decide +kernel
theorem dX12_readPan_81 : decode cX12_readPan 81 = .ok (.iconst 1, 1) := by decide +kernel
theorem dX12_readPan_82 : decode cX12_readPan 82 = .ok (.goto 4, 3) := by decide +kernel
theorem dX12_readPan_85 : decode cX12_readPan 85 = .ok (.iconst 0, 1) := by decide +kernel
theorem dX12_readPan_86 : decode cX12_readPan 86 = .ok (.putfield 129, 3) := by decide +kernel
theorem dX12_readPan_89 : decode cX12_readPan 89 = .ok (.return_, 1) := by decide +kernel
theorem dX12_swingBy_0 : decode cX12_swingBy 0 = .ok (.iload_n 0, 1) := by decide +kernel
theorem dX12_swingBy_1 : decode cX12_swingBy 1 = .ok (.bipush 110, 2) := by decide +kernel
theorem dX12_swingBy_3 : decode cX12_swingBy 3 = .ok (.if_icmp .ne 7, 3) := by decide +kernel
theorem dX12_swingBy_6 : decode cX12_swingBy 6 = .ok (.iconst 0, 1) := by decide +kernel
theorem dX12_swingBy_7 : decode cX12_swingBy 7 = .ok (.goto 34, 3) := by decide +kernel
theorem dX12_swingBy_10 : decode cX12_swingBy 10 = .ok (.iload_n 0, 1) := by decide +kernel
theorem dX12_swingBy_11 : decode cX12_swingBy 11 = .ok (.bipush 101, 2) := by decide +kernel
theorem dX12_swingBy_13 : decode cX12_swingBy 13 = .ok (.if_icmp .ne 7, 3) := by decide +kernel
theorem dX12_swingBy_16 : decode cX12_swingBy 16 = .ok (.iconst 1, 1) := by decide +kernel
theorem dX12_swingBy_17 : decode cX12_swingBy 17 = .ok (.goto 24, 3) := by decide +kernel
theorem dX12_swingBy_20 : decode cX12_swingBy 20 = .ok (.iload_n 0, 1) := by decide +kernel
theorem dX12_swingBy_21 : decode cX12_swingBy 21 = .ok (.bipush 115, 2) := by decide +kernel
theorem dX12_swingBy_23 : decode cX12_swingBy 23 = .ok (.if_icmp .ne 7, 3) := by decide +kernel
theorem dX12_swingBy_26 : decode cX12_swingBy 26 = .ok (.iconst 2, 1) := by decide +kernel
theorem dX12_swingBy_27 : decode cX12_swingBy 27 = .ok (.goto 14, 3) := by decide +kernel
theorem dX12_swingBy_30 : decode cX12_swingBy 30 = .ok (.iload_n 0, 1) := by decide +kernel
theorem dX12_swingBy_31 : decode cX12_swingBy 31 = .ok (.bipush 119, 2) := by decide +kernel
theorem dX12_swingBy_33 : decode cX12_swingBy 33 = .ok (.if_icmp .ne 7, 3) := by decide +kernel
theorem dX12_swingBy_36 : decode cX12_swingBy 36 = .ok (.iconst 3, 1) := by decide +kernel
theorem dX12_swingBy_37 : decode cX12_swingBy 37 = .ok (.goto 4, 3) := by decide +kernel
theorem dX12_swingBy_40 : decode cX12_swingBy 40 = .ok (.iconst (-1), 1) := by decide +kernel
theorem dX12_swingBy_41 : decode cX12_swingBy 41 = .ok (.ireturn, 1) := by decide +kernel
theorem dX12_number_0 : decode cX12_number 0 = .ok (.iload_n 1, 1) := by decide +kernel
theorem dX12_number_1 : decode cX12_number 1 = .ok (.ifCond .ne 10, 3) := by decide +kernel
theorem dX12_number_4 : decode cX12_number 4 = .ok (.aload_n 0, 1) := by decide +kernel
theorem dX12_number_5 : decode cX12_number 5 = .ok (.getfield 132, 3) := by decide +kernel
theorem dX12_number_8 : decode cX12_number 8 = .ok (.goto 19, 3) := by decide +kernel
theorem dX12_number_11 : decode cX12_number 11 = .ok (.iload_n 1, 1) := by decide +kernel
theorem dX12_number_12 : decode cX12_number 12 = .ok (.iconst 1, 1) := by decide +kernel
theorem dX12_number_13 : decode cX12_number 13 = .ok (.if_icmp .ne 10, 3) := by decide +kernel
theorem dX12_number_16 : decode cX12_number 16 = .ok (.aload_n 0, 1) := by decide +kernel
theorem dX12_number_17 : decode cX12_number 17 = .ok (.getfield 135, 3) := by decide +kernel
theorem dX12_number_20 : decode cX12_number 20 = .ok (.goto 7, 3) := by decide +kernel
theorem dX12_number_23 : decode cX12_number 23 = .ok (.aload_n 0, 1) := by decide +kernel
theorem dX12_number_24 : decode cX12_number 24 = .ok (.getfield 138, 3) := by decide +kernel
theorem dX12_number_27 : decode cX12_number 27 = .ok (.ireturn, 1) := by decide +kernel
theorem dX12_setNumber_0 : decode cX12_setNumber 0 = .ok (.iload_n 1, 1) := by decide +kernel
theorem dX12_setNumber_1 : decode cX12_setNumber 1 = .ok (.ifCond .ne 11, 3) := by decide +kernel
theorem dX12_setNumber_4 : decode cX12_setNumber 4 = .ok (.aload_n 0, 1) := by decide +kernel
theorem dX12_setNumber_5 : decode cX12_setNumber 5 = .ok (.iload_n 2, 1) := by decide +kernel
theorem dX12_setNumber_6 : decode cX12_setNumber 6 = .ok (.putfield 132, 3) := by decide +kernel
theorem dX12_setNumber_9 : decode cX12_setNumber 9 = .ok (.goto 21, 3) := by decide +kernel
theorem dX12_setNumber_12 : decode cX12_setNumber 12 = .ok (.iload_n 1, 1) := by decide +kernel
theorem dX12_setNumber_13 : decode cX12_setNumber 13 = .ok (.iconst 1, 1) := by decide +kernel
theorem dX12_setNumber_14 : decode cX12_setNumber 14 = .ok (.if_icmp .ne 11, 3) := by decide +kernel
theorem dX12_setNumber_17 : decode cX12_setNumber 17 = .ok (.aload_n 0, 1) := by decide +kernel
theorem dX12_setNumber_18 : decode cX12_setNumber 18 = .ok (.iload_n 2, 1) := by decide +kernel
theorem dX12_setNumber_19 : decode cX12_setNumber 19 = .ok (.putfield 135, 3) := by decide +kernel
theorem dX12_setNumber_22 : decode cX12_setNumber 22 = .ok (.goto 8, 3) := by decide +kernel
theorem dX12_setNumber_25 : decode cX12_setNumber 25 = .ok (.aload_n 0, 1) := by decide +kernel
theorem dX12_setNumber_26 : decode cX12_setNumber 26 = .ok (.iload_n 2, 1) := by decide +kernel
theorem dX12_setNumber_27 : decode cX12_setNumber 27 = .ok (.putfield 138, 3) := by decide +kernel
theorem dX12_setNumber_30 : decode cX12_setNumber 30 = .ok (.return_, 1) := by decide +kernel
theorem dX12_beginNumber_0 : decode cX12_beginNumber 0 = .ok (.aload_n 0, 1) := by decide +kernel
theorem dX12_beginNumber_1 : decode cX12_beginNumber 1 = .ok (.iload_n 1, 1) := by decide +kernel
theorem dX12_beginNumber_2 : decode cX12_beginNumber 2 = .ok (.iload_n 2, 1) := by decide +kernel
theorem dX12_beginNumber_3 : decode cX12_beginNumber 3 = .ok (.bipush 48, 2) := by decide +kernel
theorem dX12_beginNumber_5 : decode cX12_beginNumber 5 = .ok (.isub, 1) := by decide +kernel
theorem dX12_beginNumber_6 : decode cX12_beginNumber 6 = .ok (.invokevirtual 141, 3) := by decide +kernel
theorem dX12_beginNumber_9 : decode cX12_beginNumber 9 = .ok (.iload_n 2, 1) := by decide +kernel
theorem dX12_beginNumber_10 : decode cX12_beginNumber 10 = .ok (.bipush 49, 2) := by decide +kernel
theorem dX12_beginNumber_12 : decode cX12_beginNumber 12 = .ok (.bipush 57, 2) := by decide +kernel
theorem dX12_beginNumber_14 : decode cX12_beginNumber 14 = .ok (.invokestatic 102, 3) := by decide +kernel
theorem dX12_beginNumber_17 : decode cX12_beginNumber 17 = .ok (.ireturn, 1) := by decide +kernel
theorem dX12_goOnNumber_0 : decode cX12_goOnNumber 0 = .ok (.iload_n 2, 1) := by decide +kernel
theorem dX12_goOnNumber_1 : decode cX12_goOnNumber 1 = .ok (.invokestatic 115, 3) := by decide +kernel
theorem dX12_goOnNumber_4 : decode cX12_goOnNumber 4 = .ok (.ifCond .eq 25, 3) := by decide +kernel
theorem dX12_goOnNumber_7 : decode cX12_goOnNumber 7 = .ok (.bipush 10, 2) := by decide +kernel
theorem dX12_goOnNumber_9 : decode cX12_goOnNumber 9 = .ok (.aload_n 0, 1) := by decide +kernel
theorem dX12_goOnNumber_10 : decode cX12_goOnNumber 10 = .ok (.iload_n 1, 1) := by decide +kernel
theorem dX12_goOnNumber_11 : decode cX12_goOnNumber 11 = .ok (.invokevirtual 145, 3) := by decide +kernel
theorem dX12_goOnNumber_14 : decode cX12_goOnNumber 14 = .ok (.imul, 1) := by decide +kernel
theorem dX12_goOnNumber_15 : decode cX12_goOnNumber 15 = .ok (.iload_n 2, 1) := by decide +kernel
theorem dX12_goOnNumber_16 : decode cX12_goOnNumber 16 = .ok (.iadd, 1) := by decide +kernel
theorem dX12_goOnNumber_17 : decode cX12_goOnNumber 17 = .ok (.bipush 48, 2) := by decide +kernel
theorem dX12_goOnNumber_19 : decode cX12_goOnNumber 19 = .ok (.isub, 1) := by decide +kernel
theorem dX12_goOnNumber_20 : decode cX12_goOnNumber 20 = .ok (.bipush 60, 2) := by decide +kernel
theorem dX12_goOnNumber_22 : decode cX12_goOnNumber 22 = .ok (.if_icmp .gt 7, 3) := by decide +kernel
theorem dX12_goOnNumber_25 : decode cX12_goOnNumber 25 = .ok (.iconst 1, 1) := by decide +kernel
theorem dX12_goOnNumber_26 : decode cX12_goOnNumber 26 = .ok (.goto 4, 3) := by decide +kernel
theorem dX12_goOnNumber_29 : decode cX12_goOnNumber 29 = .ok (.iconst 0, 1) := by decide +kernel
theorem dX12_goOnNumber_30 : decode cX12_goOnNumber 30 = .ok (.istore_n 3, 1) := by decide +kernel
theorem dX12_goOnNumber_31 : decode cX12_goOnNumber 31 = .ok (.aload_n 0, 1) := by decide +kernel
theorem dX12_goOnNumber_32 : decode cX12_goOnNumber 32 = .ok (.iload_n 1, 1) := by decide +kernel
theorem dX12_goOnNumber_33 : decode cX12_goOnNumber 33 = .ok (.iload_n 3, 1) := by decide +kernel
theorem dX12_goOnNumber_34 : decode cX12_goOnNumber 34 = .ok (.ifCond .eq 19, 3) := by decide +kernel
theorem dX12_goOnNumber_37 : decode cX12_goOnNumber 37 = .ok (.bipush 10, 2) := by decide +kernel
theorem dX12_goOnNumber_39 : decode cX12_goOnNumber 39 = .ok (.aload_n 0, 1) := by decide +kernel
theorem dX12_goOnNumber_40 : decode cX12_goOnNumber 40 = .ok (.iload_n 1, 1) := by decide +kernel
theorem dX12_goOnNumber_41 : decode cX12_goOnNumber 41 = .ok (.invokevirtual 145, 3) := by decide +kernel
theorem dX12_goOnNumber_44 : decode cX12_goOnNumber 44 = .ok (.imul, 1) := by decide +kernel
theorem dX12_goOnNumber_45 : decode cX12_goOnNumber 45 = .ok (.iload_n 2, 1) := by decide +kernel
theorem dX12_goOnNumber_46 : decode cX12_goOnNumber 46 = .ok (.iadd, 1) := by decide +kernel
theorem dX12_goOnNumber_47 : decode cX12_goOnNumber 47 = .ok (.bipush 48, 2) := by decide +kernel
theorem dX12_goOnNumber_49 : decode cX12_goOnNumber 49 = .ok (.isub, 1) := by decide +kernel
theorem dX12_goOnNumber_50 : decode cX12_goOnNumber 50 = .ok (.goto 8, 3) := by decide +kernel
theorem dX12_goOnNumber_53 : decode cX12_goOnNumber 53 = .ok (.aload_n 0, 1) := by decide +kernel
theorem dX12_goOnNumber_54 : decode cX12_goOnNumber 54 = .ok (.iload_n 1, 1) := by decide +kernel
theorem dX12_goOnNumber_55 : decode cX12_goOnNumber 55 = .ok (.invokevirtual 145, 3) := by decide +kernel
theorem dX12_goOnNumber_58 : decode cX12_goOnNumber 58 = .ok (.invokevirtual 141, 3) := by decide +kernel
theorem dX12_goOnNumber_61 : decode cX12_goOnNumber 61 = .ok (.iload_n 3, 1) := by decide +kernel
theorem dX12_goOnNumber_62 : decode cX12_goOnNumber 62 = .ok (.ireturn, 1) := by decide +kernel
theorem dX12_nextPlan_0 : decode cX12_nextPlan 0 = .ok (.iload_n 1, 1) := by decide +kernel
theorem dX12_nextPlan_1 : decode cX12_nextPlan 1 = .ok (.tableswitch 236 0 10 #[59, 71, 96, 108, 123, 142, 148, 164, 191, 204, 220], 59) := by decide +kernel
theorem dX12_nextPlan_60 : decode cX12_nextPlan 60 = .ok (.iload_n 2, 1) := by decide +kernel
theorem dX12_nextPlan_61 : decode cX12_nextPlan 61 = .ok (.bipush 102, 2) := by decide +kernel
theorem dX12_nextPlan_63 : decode cX12_nextPlan 63 = .ok (.if_icmp .ne 7, 3) := by decide +kernel
theorem dX12_nextPlan_66 : decode cX12_nextPlan 66 = .ok (.iconst 1, 1) := by decide +kernel
theorem dX12_nextPlan_67 : decode cX12_nextPlan 67 = .ok (.goto 4, 3) := by decide +kernel
theorem dX12_nextPlan_70 : decode cX12_nextPlan 70 = .ok (.iconst (-1), 1) := by decide +kernel
theorem dX12_nextPlan_71 : decode cX12_nextPlan 71 = .ok (.ireturn, 1) := by decide +kernel
theorem dX12_nextPlan_72 : decode cX12_nextPlan 72 = .ok (.aload_n 0, 1) := by decide +kernel
theorem dX12_nextPlan_73 : decode cX12_nextPlan 73 = .ok (.iload_n 2, 1) := by decide +kernel
theorem dX12_nextPlan_74 : decode cX12_nextPlan 74 = .ok (.bipush 48, 2) := by decide +kernel
theorem dX12_nextPlan_76 : decode cX12_nextPlan 76 = .ok (.isub, 1) := by decide +kernel
theorem dX12_nextPlan_77 : decode cX12_nextPlan 77 = .ok (.putfield 149, 3) := by decide +kernel
theorem dX12_nextPlan_80 : decode cX12_nextPlan 80 = .ok (.iload_n 2, 1) := by decide +kernel
theorem dX12_nextPlan_81 : decode cX12_nextPlan 81 = .ok (.bipush 49, 2) := by decide +kernel
theorem dX12_nextPlan_83 : decode cX12_nextPlan 83 = .ok (.bipush 57, 2) := by decide +kernel
theorem dX12_nextPlan_85 : decode cX12_nextPlan 85 = .ok (.invokestatic 102, 3) := by decide +kernel
theorem dX12_nextPlan_88 : decode cX12_nextPlan 88 = .ok (.ifCond .eq 7, 3) := by decide +kernel
theorem dX12_nextPlan_91 : decode cX12_nextPlan 91 = .ok (.iconst 2, 1) := by decide +kernel
theorem dX12_nextPlan_92 : decode cX12_nextPlan 92 = .ok (.goto 4, 3) := by decide +kernel
theorem dX12_nextPlan_95 : decode cX12_nextPlan 95 = .ok (.iconst (-1), 1) := by decide +kernel
theorem dX12_nextPlan_96 : decode cX12_nextPlan 96 = .ok (.ireturn, 1) := by decide +kernel
theorem dX12_nextPlan_97 : decode cX12_nextPlan 97 = .ok (.iload_n 2, 1) := by decide +kernel
theorem dX12_nextPlan_98 : decode cX12_nextPlan 98 = .ok (.bipush 97, 2) := by decide +kernel
theorem dX12_nextPlan_100 : decode cX12_nextPlan 100 = .ok (.if_icmp .ne 7, 3) := by decide +kernel
theorem dX12_nextPlan_103 : decode cX12_nextPlan 103 = .ok (.iconst 3, 1) := by decide +kernel
theorem dX12_nextPlan_104 : decode cX12_nextPlan 104 = .ok (.goto 4, 3) := by decide +kernel
theorem dX12_nextPlan_107 : decode cX12_nextPlan 107 = .ok (.iconst (-1), 1) := by decide +kernel
theorem dX12_nextPlan_108 : decode cX12_nextPlan 108 = .ok (.ireturn, 1) := by decide +kernel
theorem dX12_nextPlan_109 : decode cX12_nextPlan 109 = .ok (.aload_n 0, 1) := by decide +kernel
theorem dX12_nextPlan_110 : decode cX12_nextPlan 110 = .ok (.iconst 0, 1) := by decide +kernel
theorem dX12_nextPlan_111 : decode cX12_nextPlan 111 = .ok (.iload_n 2, 1) := by decide +kernel
theorem dX12_nextPlan_112 : decode cX12_nextPlan 112 = .ok (.invokevirtual 152, 3) := by decide +kernel
theorem dX12_nextPlan_115 : decode cX12_nextPlan 115 = .ok (.ifCond .eq 7, 3) := by decide +kernel
theorem dX12_nextPlan_118 : decode cX12_nextPlan 118 = .ok (.iconst 4, 1) := by decide +kernel
theorem dX12_nextPlan_119 : decode cX12_nextPlan 119 = .ok (.goto 4, 3) := by decide +kernel
theorem dX12_nextPlan_122 : decode cX12_nextPlan 122 = .ok (.iconst (-1), 1) := by decide +kernel
theorem dX12_nextPlan_123 : decode cX12_nextPlan 123 = .ok (.ireturn, 1) := by decide +kernel
theorem dX12_nextPlan_124 : decode cX12_nextPlan 124 = .ok (.aload_n 0, 1) := by decide +kernel
theorem dX12_nextPlan_125 : decode cX12_nextPlan 125 = .ok (.iconst 0, 1) := by decide +kernel
theorem dX12_nextPlan_126 : decode cX12_nextPlan 126 = .ok (.iload_n 2, 1) := by decide +kernel
theorem dX12_nextPlan_127 : decode cX12_nextPlan 127 = .ok (.invokevirtual 156, 3) := by decide +kernel
theorem dX12_nextPlan_130 : decode cX12_nextPlan 130 = .ok (.ifCond .eq 7, 3) := by decide +kernel
theorem dX12_nextPlan_133 : decode cX12_nextPlan 133 = .ok (.iconst 5, 1) := by decide +kernel
theorem dX12_nextPlan_134 : decode cX12_nextPlan 134 = .ok (.goto 8, 3) := by decide +kernel
theorem dX12_nextPlan_137 : decode cX12_nextPlan 137 = .ok (.aload_n 0, 1) := by decide +kernel
theorem dX12_nextPlan_138 : decode cX12_nextPlan 138 = .ok (.iload_n 2, 1) := by decide +kernel
theorem dX12_nextPlan_139 : decode cX12_nextPlan 139 = .ok (.invokevirtual 159, 3) := by decide +kernel
theorem dX12_nextPlan_142 : decode cX12_nextPlan 142 = .ok (.ireturn, 1) := by decide +kernel
theorem dX12_nextPlan_143 : decode cX12_nextPlan 143 = .ok (.aload_n 0, 1) := by decide +kernel
theorem dX12_nextPlan_144 : decode cX12_nextPlan 144 = .ok (.iload_n 2, 1) := by decide +kernel
theorem dX12_nextPlan_145 : decode cX12_nextPlan 145 = .ok (.invokevirtual 159, 3) := by decide +kernel
theorem dX12_nextPlan_148 : decode cX12_nextPlan 148 = .ok (.ireturn, 1) := by decide +kernel
theorem dX12_nextPlan_149 : decode cX12_nextPlan 149 = .ok (.aload_n 0, 1) := by decide +kernel
theorem dX12_nextPlan_150 : decode cX12_nextPlan 150 = .ok (.iconst 1, 1) := by decide +kernel
theorem dX12_nextPlan_151 : decode cX12_nextPlan 151 = .ok (.iload_n 2, 1) := by decide +kernel
theorem dX12_nextPlan_152 : decode cX12_nextPlan 152 = .ok (.invokevirtual 152, 3) := by decide +kernel
theorem dX12_nextPlan_155 : decode cX12_nextPlan 155 = .ok (.ifCond .eq 8, 3) := by decide +kernel
theorem dX12_nextPlan_158 : decode cX12_nextPlan 158 = .ok (.bipush 7, 2) := by decide +kernel
theorem dX12_nextPlan_160 : decode cX12_nextPlan 160 = .ok (.goto 4, 3) := by decide +kernel
theorem dX12_nextPlan_163 : decode cX12_nextPlan 163 = .ok (.iconst (-1), 1) := by decide +kernel
theorem dX12_nextPlan_164 : decode cX12_nextPlan 164 = .ok (.ireturn, 1) := by decide +kernel
theorem dX12_nextPlan_165 : decode cX12_nextPlan 165 = .ok (.aload_n 0, 1) := by decide +kernel
theorem dX12_nextPlan_166 : decode cX12_nextPlan 166 = .ok (.iconst 1, 1) := by decide +kernel
theorem dX12_nextPlan_167 : decode cX12_nextPlan 167 = .ok (.iload_n 2, 1) := by decide +kernel
theorem dX12_nextPlan_168 : decode cX12_nextPlan 168 = .ok (.invokevirtual 156, 3) := by decide +kernel
theorem dX12_nextPlan_171 : decode cX12_nextPlan 171 = .ok (.ifCond .eq 8, 3) := by decide +kernel
theorem dX12_nextPlan_174 : decode cX12_nextPlan 174 = .ok (.bipush 8, 2) := by decide +kernel
theorem dX12_nextPlan_176 : decode cX12_nextPlan 176 = .ok (.goto 15, 3) := by decide +kernel
theorem dX12_nextPlan_179 : decode cX12_nextPlan 179 = .ok (.iload_n 2, 1) := by decide +kernel
theorem dX12_nextPlan_180 : decode cX12_nextPlan 180 = .ok (.bipush 117, 2) := by decide +kernel
theorem dX12_nextPlan_182 : decode cX12_nextPlan 182 = .ok (.if_icmp .ne 8, 3) := by decide +kernel
theorem dX12_nextPlan_185 : decode cX12_nextPlan 185 = .ok (.bipush 9, 2) := by decide +kernel
theorem dX12_nextPlan_187 : decode cX12_nextPlan 187 = .ok (.goto 4, 3) := by decide +kernel
theorem dX12_nextPlan_190 : decode cX12_nextPlan 190 = .ok (.iconst (-1), 1) := by decide +kernel
theorem dX12_nextPlan_191 : decode cX12_nextPlan 191 = .ok (.ireturn, 1) := by decide +kernel
theorem dX12_nextPlan_192 : decode cX12_nextPlan 192 = .ok (.iload_n 2, 1) := by decide +kernel
theorem dX12_nextPlan_193 : decode cX12_nextPlan 193 = .ok (.bipush 117, 2) := by decide +kernel
theorem dX12_nextPlan_195 : decode cX12_nextPlan 195 = .ok (.if_icmp .ne 8, 3) := by decide +kernel
theorem dX12_nextPlan_198 : decode cX12_nextPlan 198 = .ok (.bipush 9, 2) := by decide +kernel
theorem dX12_nextPlan_200 : decode cX12_nextPlan 200 = .ok (.goto 4, 3) := by decide +kernel
theorem dX12_nextPlan_203 : decode cX12_nextPlan 203 = .ok (.iconst (-1), 1) := by decide +kernel
theorem dX12_nextPlan_204 : decode cX12_nextPlan 204 = .ok (.ireturn, 1) := by decide +kernel
theorem dX12_nextPlan_205 : decode cX12_nextPlan 205 = .ok (.aload_n 0, 1) := by decide +kernel
theorem dX12_nextPlan_206 : decode cX12_nextPlan 206 = .ok (.iconst 2, 1) := by decide +kernel
theorem dX12_nextPlan_207 : decode cX12_nextPlan 207 = .ok (.iload_n 2, 1) := by decide +kernel
theorem dX12_nextPlan_208 : decode cX12_nextPlan 208 = .ok (.invokevirtual 152, 3) := by decide +kernel
theorem dX12_nextPlan_211 : decode cX12_nextPlan 211 = .ok (.ifCond .eq 8, 3) := by decide +kernel
theorem dX12_nextPlan_214 : decode cX12_nextPlan 214 = .ok (.bipush 10, 2) := by decide +kernel
theorem dX12_nextPlan_216 : decode cX12_nextPlan 216 = .ok (.goto 4, 3) := by decide +kernel
theorem dX12_nextPlan_219 : decode cX12_nextPlan 219 = .ok (.iconst (-1), 1) := by decide +kernel
theorem dX12_nextPlan_220 : decode cX12_nextPlan 220 = .ok (.ireturn, 1) := by decide +kernel
theorem dX12_nextPlan_221 : decode cX12_nextPlan 221 = .ok (.aload_n 0, 1) := by decide +kernel
theorem dX12_nextPlan_222 : decode cX12_nextPlan 222 = .ok (.iconst 2, 1) := by decide +kernel
theorem dX12_nextPlan_223 : decode cX12_nextPlan 223 = .ok (.iload_n 2, 1) := by decide +kernel
theorem dX12_nextPlan_224 : decode cX12_nextPlan 224 = .ok (.invokevirtual 156, 3) := by decide +kernel
theorem dX12_nextPlan_227 : decode cX12_nextPlan 227 = .ok (.ifCond .eq 8, 3) := by decide +kernel
theorem dX12_nextPlan_230 : decode cX12_nextPlan 230 = .ok (.bipush 11, 2) := by decide +kernel
theorem dX12_nextPlan_232 : decode cX12_nextPlan 232 = .ok (.goto 4, 3) := by decide +kernel
theorem dX12_nextPlan_235 : decode cX12_nextPlan 235 = .ok (.iconst (-1), 1) := by decide +kernel
theorem dX12_nextPlan_236 : decode cX12_nextPlan 236 = .ok (.ireturn, 1) := by decide +kernel
theorem dX12_nextPlan_237 : decode cX12_nextPlan 237 = .ok (.iconst (-1), 1) := by decide +kernel
theorem dX12_nextPlan_238 : decode cX12_nextPlan 238 = .ok (.ireturn, 1) := by decide +kernel
theorem dX12_afterAmount_0 : decode cX12_afterAmount 0 = .ok (.iload_n 1, 1) := by decide +kernel
theorem dX12_afterAmount_1 : decode cX12_afterAmount 1 = .ok (.invokestatic 162, 3) := by decide +kernel
theorem dX12_afterAmount_4 : decode cX12_afterAmount 4 = .ok (.iconst (-1), 1) := by decide +kernel
theorem dX12_afterAmount_5 : decode cX12_afterAmount 5 = .ok (.if_icmp .eq 37, 3) := by decide +kernel
theorem dX12_afterAmount_8 : decode cX12_afterAmount 8 = .ok (.aload_n 0, 1) := by decide +kernel
theorem dX12_afterAmount_9 : decode cX12_afterAmount 9 = .ok (.getfield 165, 3) := by decide +kernel
theorem dX12_afterAmount_12 : decode cX12_afterAmount 12 = .ok (.bipush 6, 2) := by decide +kernel
theorem dX12_afterAmount_14 : decode cX12_afterAmount 14 = .ok (.if_icmp .ge 28, 3) := by decide +kernel
theorem dX12_afterAmount_17 : decode cX12_afterAmount 17 = .ok (.aload_n 0, 1) := by decide +kernel
theorem dX12_afterAmount_18 : decode cX12_afterAmount 18 = .ok (.getfield 63, 3) := by decide +kernel
theorem dX12_afterAmount_21 : decode cX12_afterAmount 21 = .ok (.aload_n 0, 1) := by decide +kernel
theorem dX12_afterAmount_22 : decode cX12_afterAmount 22 = .ok (.getfield 165, 3) := by decide +kernel
theorem dX12_afterAmount_25 : decode cX12_afterAmount 25 = .ok (.iload_n 1, 1) := by decide +kernel
theorem dX12_afterAmount_26 : decode cX12_afterAmount 26 = .ok (.invokestatic 162, 3) := by decide +kernel
theorem dX12_afterAmount_29 : decode cX12_afterAmount 29 = .ok (.iastore, 1) := by decide +kernel
theorem dX12_afterAmount_30 : decode cX12_afterAmount 30 = .ok (.aload_n 0, 1) := by decide +kernel
theorem dX12_afterAmount_31 : decode cX12_afterAmount 31 = .ok (.dup, 1) := by decide +kernel
theorem dX12_afterAmount_32 : decode cX12_afterAmount 32 = .ok (.getfield 165, 3) := by decide +kernel
theorem dX12_afterAmount_35 : decode cX12_afterAmount 35 = .ok (.iconst 1, 1) := by decide +kernel
theorem dX12_afterAmount_36 : decode cX12_afterAmount 36 = .ok (.iadd, 1) := by decide +kernel
theorem dX12_afterAmount_37 : decode cX12_afterAmount 37 = .ok (.putfield 165, 3) := by decide +kernel
theorem dX12_afterAmount_40 : decode cX12_afterAmount 40 = .ok (.iconst 5, 1) := by decide +kernel
theorem dX12_afterAmount_41 : decode cX12_afterAmount 41 = .ok (.ireturn, 1) := by decide +kernel
theorem dX12_afterAmount_42 : decode cX12_afterAmount 42 = .ok (.iload_n 1, 1) := by decide +kernel
theorem dX12_afterAmount_43 : decode cX12_afterAmount 43 = .ok (.bipush 116, 2) := by decide +kernel
theorem dX12_afterAmount_45 : decode cX12_afterAmount 45 = .ok (.if_icmp .ne 8, 3) := by decide +kernel
theorem dX12_afterAmount_48 : decode cX12_afterAmount 48 = .ok (.bipush 6, 2) := by decide +kernel
theorem dX12_afterAmount_50 : decode cX12_afterAmount 50 = .ok (.goto 4, 3) := by decide +kernel
theorem dX12_afterAmount_53 : decode cX12_afterAmount 53 = .ok (.iconst (-1), 1) := by decide +kernel
theorem dX12_afterAmount_54 : decode cX12_afterAmount 54 = .ok (.ireturn, 1) := by decide +kernel
theorem dX12_readPlan_0 : decode cX12_readPlan 0 = .ok (.aload_n 0, 1) := by decide +kernel
theorem dX12_readPlan_1 : decode cX12_readPlan 1 = .ok (.iconst 0, 1) := by decide +kernel
theorem dX12_readPlan_2 : decode cX12_readPlan 2 = .ok (.putfield 165, 3) := by decide +kernel
theorem dX12_readPlan_5 : decode cX12_readPlan 5 = .ok (.iconst 0, 1) := by decide +kernel
theorem dX12_readPlan_6 : decode cX12_readPlan 6 = .ok (.istore_n 1, 1) := by decide +kernel
theorem dX12_readPlan_7 : decode cX12_readPlan 7 = .ok (.iconst 0, 1) := by decide +kernel
theorem dX12_readPlan_8 : decode cX12_readPlan 8 = .ok (.istore_n 2, 1) := by decide +kernel
theorem dX12_readPlan_9 : decode cX12_readPlan 9 = .ok (.iconst 1, 1) := by decide +kernel
theorem dX12_readPlan_10 : decode cX12_readPlan 10 = .ok (.istore_n 3, 1) := by decide +kernel
theorem dX12_readPlan_11 : decode cX12_readPlan 11 = .ok (.iload_n 2, 1) := by decide +kernel
theorem dX12_readPlan_12 : decode cX12_readPlan 12 = .ok (.aload_n 0, 1) := by decide +kernel
theorem dX12_readPlan_13 : decode cX12_readPlan 13 = .ok (.getfield 98, 3) := by decide +kernel
theorem dX12_readPlan_16 : decode cX12_readPlan 16 = .ok (.if_icmp .ge 58, 3) := by decide +kernel
theorem dX12_readPlan_19 : decode cX12_readPlan 19 = .ok (.iload_n 3, 1) := by decide +kernel
theorem dX12_readPlan_20 : decode cX12_readPlan 20 = .ok (.ifCond .eq 54, 3) := by decide +kernel
theorem dX12_readPlan_23 : decode cX12_readPlan 23 = .ok (.aload_n 0, 1) := by decide +kernel
theorem dX12_readPlan_24 : decode cX12_readPlan 24 = .ok (.iload_n 1, 1) := by decide +kernel
theorem dX12_readPlan_25 : decode cX12_readPlan 25 = .ok (.aload_n 0, 1) := by decide +kernel
theorem dX12_readPlan_26 : decode cX12_readPlan 26 = .ok (.getfield 47, 3) := by decide +kernel
theorem dX12_readPlan_29 : decode cX12_readPlan 29 = .ok (.iload_n 2, 1) := by decide +kernel
theorem dX12_readPlan_30 : decode cX12_readPlan 30 = .ok (.baload, 1) := by decide +kernel
theorem dX12_readPlan_31 : decode cX12_readPlan 31 = .ok (.invokevirtual 168, 3) := by decide +kernel
theorem dX12_readPlan_34 : decode cX12_readPlan 34 = .ok (.istore 4, 2) := by decide +kernel
theorem dX12_readPlan_36 : decode cX12_readPlan 36 = .ok (.iload 4, 2) := by decide +kernel
theorem dX12_readPlan_38 : decode cX12_readPlan 38 = .ok (.iconst (-1), 1) := by decide +kernel
theorem dX12_readPlan_39 : decode cX12_readPlan 39 = .ok (.if_icmp .eq 7, 3) := by decide +kernel
theorem dX12_readPlan_42 : decode cX12_readPlan 42 = .ok (.iconst 1, 1) := by decide +kernel
theorem dX12_readPlan_43 : decode cX12_readPlan 43 = .ok (.goto 4, 3) := by decide +kernel
theorem dX12_readPlan_46 : decode cX12_readPlan 46 = .ok (.iconst 0, 1) := by decide +kernel
theorem dX12_readPlan_47 : decode cX12_readPlan 47 = .ok (.istore_n 3, 1) := by decide +kernel
theorem dX12_readPlan_48 : decode cX12_readPlan 48 = .ok (.iload_n 3, 1) := by decide +kernel
theorem dX12_readPlan_49 : decode cX12_readPlan 49 = .ok (.ifCond .eq 8, 3) := by decide +kernel
theorem dX12_readPlan_52 : decode cX12_readPlan 52 = .ok (.iload 4, 2) := by decide +kernel
theorem dX12_readPlan_54 : decode cX12_readPlan 54 = .ok (.goto 4, 3) := by decide +kernel
theorem dX12_readPlan_57 : decode cX12_readPlan 57 = .ok (.iload_n 1, 1) := by decide +kernel
theorem dX12_readPlan_58 : decode cX12_readPlan 58 = .ok (.istore_n 1, 1) := by decide +kernel
theorem dX12_readPlan_59 : decode cX12_readPlan 59 = .ok (.iload_n 2, 1) := by decide +kernel
theorem dX12_readPlan_60 : decode cX12_readPlan 60 = .ok (.iload_n 3, 1) := by decide +kernel
theorem dX12_readPlan_61 : decode cX12_readPlan 61 = .ok (.ifCond .eq 7, 3) := by decide +kernel
theorem dX12_readPlan_64 : decode cX12_readPlan 64 = .ok (.iconst 1, 1) := by decide +kernel
theorem dX12_readPlan_65 : decode cX12_readPlan 65 = .ok (.goto 4, 3) := by decide +kernel
theorem dX12_readPlan_68 : decode cX12_readPlan 68 = .ok (.iconst 0, 1) := by decide +kernel
theorem dX12_readPlan_69 : decode cX12_readPlan 69 = .ok (.iadd, 1) := by decide +kernel
theorem dX12_readPlan_70 : decode cX12_readPlan 70 = .ok (.istore_n 2, 1) := by decide +kernel
theorem dX12_readPlan_71 : decode cX12_readPlan 71 = .ok (.goto (-60), 3) := by decide +kernel
theorem dX12_readPlan_74 : decode cX12_readPlan 74 = .ok (.aload_n 0, 1) := by decide +kernel
theorem dX12_readPlan_75 : decode cX12_readPlan 75 = .ok (.iload_n 2, 1) := by decide +kernel
theorem dX12_readPlan_76 : decode cX12_readPlan 76 = .ok (.putfield 126, 3) := by decide +kernel
theorem dX12_readPlan_79 : decode cX12_readPlan 79 = .ok (.aload_n 0, 1) := by decide +kernel
theorem dX12_readPlan_80 : decode cX12_readPlan 80 = .ok (.iload_n 2, 1) := by decide +kernel
theorem dX12_readPlan_81 : decode cX12_readPlan 81 = .ok (.aload_n 0, 1) := by decide +kernel
theorem dX12_readPlan_82 : decode cX12_readPlan 82 = .ok (.getfield 98, 3) := by decide +kernel
theorem dX12_readPlan_85 : decode cX12_readPlan 85 = .ok (.if_icmp .ne 13, 3) := by decide +kernel
theorem dX12_readPlan_88 : decode cX12_readPlan 88 = .ok (.iload_n 1, 1) := by decide +kernel
theorem dX12_readPlan_89 : decode cX12_readPlan 89 = .ok (.bipush 9, 2) := by decide +kernel
theorem dX12_readPlan_91 : decode cX12_readPlan 91 = .ok (.if_icmp .le 7, 3) := by decide +kernel
theorem dX12_readPlan_94 : decode cX12_readPlan 94 = .ok (.iconst 1, 1) := by decide +kernel
theorem dX12_readPlan_95 : decode cX12_readPlan 95 = .ok (.goto 4, 3) := by decide +kernel
theorem dX12_readPlan_98 : decode cX12_readPlan 98 = .ok (.iconst 0, 1) := by decide +kernel
theorem dX12_readPlan_99 : decode cX12_readPlan 99 = .ok (.putfield 129, 3) := by decide +kernel
theorem dX12_readPlan_102 : decode cX12_readPlan 102 = .ok (.return_, 1) := by decide +kernel
theorem dX12_fault_0 : decode cX12_fault 0 = .ok (.iload_n 1, 1) := by decide +kernel
theorem dX12_fault_1 : decode cX12_fault 1 = .ok (.iconst 0, 1) := by decide +kernel
theorem dX12_fault_2 : decode cX12_fault 2 = .ok (.iconst 1, 1) := by decide +kernel
theorem dX12_fault_3 : decode cX12_fault 3 = .ok (.invokestatic 102, 3) := by decide +kernel
theorem dX12_fault_6 : decode cX12_fault 6 = .ok (.ifCond .ne 6, 3) := by decide +kernel
theorem dX12_fault_9 : decode cX12_fault 9 = .ok (.bipush (-102), 2) := by decide +kernel
theorem dX12_fault_11 : decode cX12_fault 11 = .ok (.ireturn, 1) := by decide +kernel
theorem dX12_fault_12 : decode cX12_fault 12 = .ok (.iload_n 1, 1) := by decide +kernel
theorem dX12_fault_13 : decode cX12_fault 13 = .ok (.ifCond .ne 10, 3) := by decide +kernel
theorem dX12_fault_16 : decode cX12_fault 16 = .ok (.aload_n 0, 1) := by decide +kernel
theorem dX12_fault_17 : decode cX12_fault 17 = .ok (.invokevirtual 172, 3) := by decide +kernel
theorem dX12_fault_20 : decode cX12_fault 20 = .ok (.goto 7, 3) := by decide +kernel
theorem dX12_fault_23 : decode cX12_fault 23 = .ok (.aload_n 0, 1) := by decide +kernel
theorem dX12_fault_24 : decode cX12_fault 24 = .ok (.invokevirtual 175, 3) := by decide +kernel
theorem dX12_fault_27 : decode cX12_fault 27 = .ok (.aload_n 0, 1) := by decide +kernel
theorem dX12_fault_28 : decode cX12_fault 28 = .ok (.getfield 126, 3) := by decide +kernel
theorem dX12_fault_31 : decode cX12_fault 31 = .ok (.ireturn, 1) := by decide +kernel
theorem dX12_pan_0 : decode cX12_pan 0 = .ok (.aload_n 0, 1) := by decide +kernel
theorem dX12_pan_1 : decode cX12_pan 1 = .ok (.invokevirtual 172, 3) := by decide +kernel
theorem dX12_pan_4 : decode cX12_pan 4 = .ok (.aload_n 0, 1) := by decide +kernel
theorem dX12_pan_5 : decode cX12_pan 5 = .ok (.getfield 129, 3) := by decide +kernel
theorem dX12_pan_8 : decode cX12_pan 8 = .ok (.ifCond .ne 6, 3) := by decide +kernel
theorem dX12_pan_11 : decode cX12_pan 11 = .ok (.bipush (-103), 2) := by decide +kernel
theorem dX12_pan_13 : decode cX12_pan 13 = .ok (.ireturn, 1) := by decide +kernel
theorem dX12_pan_14 : decode cX12_pan 14 = .ok (.aload_n 0, 1) := by decide +kernel
theorem dX12_pan_15 : decode cX12_pan 15 = .ok (.aload_n 0, 1) := by decide +kernel
theorem dX12_pan_16 : decode cX12_pan 16 = .ok (.getfield 106, 3) := by decide +kernel
theorem dX12_pan_19 : decode cX12_pan 19 = .ok (.iconst 1, 1) := by decide +kernel
theorem dX12_pan_20 : decode cX12_pan 20 = .ok (.iadd, 1) := by decide +kernel
theorem dX12_pan_21 : decode cX12_pan 21 = .ok (.putfield 178, 3) := by decide +kernel
theorem dX12_pan_24 : decode cX12_pan 24 = .ok (.aload_n 0, 1) := by decide +kernel
theorem dX12_pan_25 : decode cX12_pan 25 = .ok (.aload_n 0, 1) := by decide +kernel
theorem dX12_pan_26 : decode cX12_pan 26 = .ok (.getfield 109, 3) := by decide +kernel
theorem dX12_pan_29 : decode cX12_pan 29 = .ok (.putfield 181, 3) := by decide +kernel
theorem dX12_pan_32 : decode cX12_pan 32 = .ok (.iconst 0, 1) := by decide +kernel
theorem dX12_pan_33 : decode cX12_pan 33 = .ok (.istore_n 1, 1) := by decide +kernel
theorem dX12_pan_34 : decode cX12_pan 34 = .ok (.iload_n 1, 1) := by decide +kernel
theorem dX12_pan_35 : decode cX12_pan 35 = .ok (.aload_n 0, 1) := by decide +kernel
theorem dX12_pan_36 : decode cX12_pan 36 = .ok (.getfield 178, 3) := by decide +kernel
theorem dX12_pan_39 : decode cX12_pan 39 = .ok (.aload_n 0, 1) := by decide +kernel
theorem dX12_pan_40 : decode cX12_pan 40 = .ok (.getfield 181, 3) := by decide +kernel
theorem dX12_pan_43 : decode cX12_pan 43 = .ok (.imul, 1) := by decide +kernel
theorem dX12_pan_44 : decode cX12_pan 44 = .ok (.if_icmp .ge 47, 3) := by decide +kernel
theorem dX12_pan_47 : decode cX12_pan 47 = .ok (.aload_n 0, 1) := by decide +kernel
theorem dX12_pan_48 : decode cX12_pan 48 = .ok (.getfield 7, 3) := by decide +kernel
theorem dX12_pan_51 : decode cX12_pan 51 = .ok (.iload_n 1, 1) := by decide +kernel
theorem dX12_pan_52 : decode cX12_pan 52 = .ok (.aload_n 0, 1) := by decide +kernel
theorem dX12_pan_53 : decode cX12_pan 53 = .ok (.getfield 57, 3) := by decide +kernel
theorem dX12_pan_56 : decode cX12_pan 56 = .ok (.iload_n 1, 1) := by decide +kernel
theorem dX12_pan_57 : decode cX12_pan 57 = .ok (.iaload, 1) := by decide +kernel
theorem dX12_pan_58 : decode cX12_pan 58 = .ok (.iastore, 1) := by decide +kernel
theorem dX12_pan_59 : decode cX12_pan 59 = .ok (.aload_n 0, 1) := by decide +kernel
theorem dX12_pan_60 : decode cX12_pan 60 = .ok (.getfield 13, 3) := by decide +kernel
theorem dX12_pan_63 : decode cX12_pan 63 = .ok (.iload_n 1, 1) := by decide +kernel
theorem dX12_pan_64 : decode cX12_pan 64 = .ok (.aload_n 0, 1) := by decide +kernel
theorem dX12_pan_65 : decode cX12_pan 65 = .ok (.getfield 60, 3) := by decide +kernel
theorem dX12_pan_68 : decode cX12_pan 68 = .ok (.iload_n 1, 1) := by decide +kernel
theorem dX12_pan_69 : decode cX12_pan 69 = .ok (.baload, 1) := by decide +kernel
theorem dX12_pan_70 : decode cX12_pan 70 = .ok (.bastore, 1) := by decide +kernel
theorem dX12_pan_71 : decode cX12_pan 71 = .ok (.aload_n 0, 1) := by decide +kernel
theorem dX12_pan_72 : decode cX12_pan 72 = .ok (.getfield 17, 3) := by decide +kernel
theorem dX12_pan_75 : decode cX12_pan 75 = .ok (.iload_n 1, 1) := by decide +kernel
theorem dX12_pan_76 : decode cX12_pan 76 = .ok (.iconst 0, 1) := by decide +kernel
theorem dX12_pan_77 : decode cX12_pan 77 = .ok (.iastore, 1) := by decide +kernel
theorem dX12_pan_78 : decode cX12_pan 78 = .ok (.aload_n 0, 1) := by decide +kernel
theorem dX12_pan_79 : decode cX12_pan 79 = .ok (.getfield 20, 3) := by decide +kernel
theorem dX12_pan_82 : decode cX12_pan 82 = .ok (.iload_n 1, 1) := by decide +kernel
theorem dX12_pan_83 : decode cX12_pan 83 = .ok (.iconst 0, 1) := by decide +kernel
theorem dX12_pan_84 : decode cX12_pan 84 = .ok (.iastore, 1) := by decide +kernel
theorem dX12_pan_85 : decode cX12_pan 85 = .ok (.iinc 1 1, 3) := by decide +kernel
theorem dX12_pan_88 : decode cX12_pan 88 = .ok (.goto (-54), 3) := by decide +kernel
theorem dX12_pan_91 : decode cX12_pan 91 = .ok (.aload_n 0, 1) := by decide +kernel
theorem dX12_pan_92 : decode cX12_pan 92 = .ok (.iconst 0, 1) := by decide +kernel
theorem dX12_pan_93 : decode cX12_pan 93 = .ok (.putfield 184, 3) := by decide +kernel
theorem dX12_pan_96 : decode cX12_pan 96 = .ok (.aload_n 0, 1) := by decide +kernel
theorem dX12_pan_97 : decode cX12_pan 97 = .ok (.iconst 0, 1) := by decide +kernel
theorem dX12_pan_98 : decode cX12_pan 98 = .ok (.putfield 187, 3) := by decide +kernel
theorem dX12_pan_101 : decode cX12_pan 101 = .ok (.aload_n 0, 1) := by decide +kernel
theorem dX12_pan_102 : decode cX12_pan 102 = .ok (.dup, 1) := by decide +kernel
theorem dX12_pan_103 : decode cX12_pan 103 = .ok (.getfield 190, 3) := by decide +kernel
theorem dX12_pan_106 : decode cX12_pan 106 = .ok (.iconst 1, 1) := by decide +kernel
theorem dX12_pan_107 : decode cX12_pan 107 = .ok (.iadd, 1) := by decide +kernel
theorem dX12_pan_108 : decode cX12_pan 108 = .ok (.putfield 190, 3) := by decide +kernel
theorem dX12_pan_111 : decode cX12_pan 111 = .ok (.aload_n 0, 1) := by decide +kernel
theorem dX12_pan_112 : decode cX12_pan 112 = .ok (.iconst 0, 1) := by decide +kernel
theorem dX12_pan_113 : decode cX12_pan 113 = .ok (.putfield 98, 3) := by decide +kernel
theorem dX12_pan_116 : decode cX12_pan 116 = .ok (.aload_n 0, 1) := by decide +kernel
theorem dX12_pan_117 : decode cX12_pan 117 = .ok (.getfield 178, 3) := by decide +kernel
theorem dX12_pan_120 : decode cX12_pan 120 = .ok (.aload_n 0, 1) := by decide +kernel
theorem dX12_pan_121 : decode cX12_pan 121 = .ok (.getfield 181, 3) := by decide +kernel
theorem dX12_pan_124 : decode cX12_pan 124 = .ok (.imul, 1) := by decide +kernel
theorem dX12_pan_125 : decode cX12_pan 125 = .ok (.ireturn, 1) := by decide +kernel
theorem dX12_plan_0 : decode cX12_plan 0 = .ok (.aload_n 0, 1) := by decide +kernel
theorem dX12_plan_1 : decode cX12_plan 1 = .ok (.invokevirtual 175, 3) := by decide +kernel
theorem dX12_plan_4 : decode cX12_plan 4 = .ok (.aload_n 0, 1) := by decide +kernel
theorem dX12_plan_5 : decode cX12_plan 5 = .ok (.getfield 129, 3) := by decide +kernel
theorem dX12_plan_8 : decode cX12_plan 8 = .ok (.ifCond .ne 6, 3) := by decide +kernel
theorem dX12_plan_11 : decode cX12_plan 11 = .ok (.bipush (-103), 2) := by decide +kernel
theorem dX12_plan_13 : decode cX12_plan 13 = .ok (.ireturn, 1) := by decide +kernel
theorem dX12_plan_14 : decode cX12_plan 14 = .ok (.aload_n 0, 1) := by decide +kernel
theorem dX12_plan_15 : decode cX12_plan 15 = .ok (.getfield 193, 3) := by decide +kernel
theorem dX12_plan_18 : decode cX12_plan 18 = .ok (.bipush 6, 2) := by decide +kernel
theorem dX12_plan_20 : decode cX12_plan 20 = .ok (.if_icmp .ne 6, 3) := by decide +kernel
theorem dX12_plan_23 : decode cX12_plan 23 = .ok (.bipush (-104), 2) := by decide +kernel
theorem dX12_plan_25 : decode cX12_plan 25 = .ok (.ireturn, 1) := by decide +kernel
theorem dX12_plan_26 : decode cX12_plan 26 = .ok (.aload_n 0, 1) := by decide +kernel
theorem dX12_plan_27 : decode cX12_plan 27 = .ok (.getfield 23, 3) := by decide +kernel
theorem dX12_plan_30 : decode cX12_plan 30 = .ok (.aload_n 0, 1) := by decide +kernel
theorem dX12_plan_31 : decode cX12_plan 31 = .ok (.getfield 193, 3) := by decide +kernel
theorem dX12_plan_34 : decode cX12_plan 34 = .ok (.aload_n 0, 1) := by decide +kernel
theorem dX12_plan_35 : decode cX12_plan 35 = .ok (.getfield 149, 3) := by decide +kernel
theorem dX12_plan_38 : decode cX12_plan 38 = .ok (.iastore, 1) := by decide +kernel
theorem dX12_plan_39 : decode cX12_plan 39 = .ok (.aload_n 0, 1) := by decide +kernel
theorem dX12_plan_40 : decode cX12_plan 40 = .ok (.getfield 26, 3) := by decide +kernel
theorem dX12_plan_43 : decode cX12_plan 43 = .ok (.aload_n 0, 1) := by decide +kernel
theorem dX12_plan_44 : decode cX12_plan 44 = .ok (.getfield 193, 3) := by decide +kernel
theorem dX12_plan_47 : decode cX12_plan 47 = .ok (.aload_n 0, 1) := by decide +kernel
theorem dX12_plan_48 : decode cX12_plan 48 = .ok (.getfield 132, 3) := by decide +kernel
theorem dX12_plan_51 : decode cX12_plan 51 = .ok (.iastore, 1) := by decide +kernel
theorem dX12_plan_52 : decode cX12_plan 52 = .ok (.aload_n 0, 1) := by decide +kernel
theorem dX12_plan_53 : decode cX12_plan 53 = .ok (.getfield 29, 3) := by decide +kernel
theorem dX12_plan_56 : decode cX12_plan 56 = .ok (.aload_n 0, 1) := by decide +kernel
theorem dX12_plan_57 : decode cX12_plan 57 = .ok (.getfield 193, 3) := by decide +kernel
theorem dX12_plan_60 : decode cX12_plan 60 = .ok (.aload_n 0, 1) := by decide +kernel
theorem dX12_plan_61 : decode cX12_plan 61 = .ok (.getfield 135, 3) := by decide +kernel
theorem dX12_plan_64 : decode cX12_plan 64 = .ok (.iastore, 1) := by decide +kernel
theorem dX12_plan_65 : decode cX12_plan 65 = .ok (.aload_n 0, 1) := by decide +kernel
theorem dX12_plan_66 : decode cX12_plan 66 = .ok (.getfield 32, 3) := by decide +kernel
theorem dX12_plan_69 : decode cX12_plan 69 = .ok (.aload_n 0, 1) := by decide +kernel
theorem dX12_plan_70 : decode cX12_plan 70 = .ok (.getfield 193, 3) := by decide +kernel
theorem dX12_plan_73 : decode cX12_plan 73 = .ok (.aload_n 0, 1) := by decide +kernel
theorem dX12_plan_74 : decode cX12_plan 74 = .ok (.getfield 138, 3) := by decide +kernel
theorem dX12_plan_77 : decode cX12_plan 77 = .ok (.iastore, 1) := by decide +kernel
theorem dX12_plan_78 : decode cX12_plan 78 = .ok (.aload_n 0, 1) := by decide +kernel
theorem dX12_plan_79 : decode cX12_plan 79 = .ok (.getfield 35, 3) := by decide +kernel
theorem dX12_plan_82 : decode cX12_plan 82 = .ok (.aload_n 0, 1) := by decide +kernel
theorem dX12_plan_83 : decode cX12_plan 83 = .ok (.getfield 193, 3) := by decide +kernel
theorem dX12_plan_86 : decode cX12_plan 86 = .ok (.aload_n 0, 1) := by decide +kernel
theorem dX12_plan_87 : decode cX12_plan 87 = .ok (.getfield 165, 3) := by decide +kernel
theorem dX12_plan_90 : decode cX12_plan 90 = .ok (.iastore, 1) := by decide +kernel
theorem dX12_plan_91 : decode cX12_plan 91 = .ok (.iconst 0, 1) := by decide +kernel
theorem dX12_plan_92 : decode cX12_plan 92 = .ok (.istore_n 1, 1) := by decide +kernel
theorem dX12_plan_93 : decode cX12_plan 93 = .ok (.iload_n 1, 1) := by decide +kernel
theorem dX12_plan_94 : decode cX12_plan 94 = .ok (.aload_n 0, 1) := by decide +kernel
theorem dX12_plan_95 : decode cX12_plan 95 = .ok (.getfield 165, 3) := by decide +kernel
theorem dX12_plan_98 : decode cX12_plan 98 = .ok (.if_icmp .ge 29, 3) := by decide +kernel
theorem dX12_plan_101 : decode cX12_plan 101 = .ok (.aload_n 0, 1) := by decide +kernel
theorem dX12_plan_102 : decode cX12_plan 102 = .ok (.getfield 38, 3) := by decide +kernel
theorem dX12_plan_105 : decode cX12_plan 105 = .ok (.bipush 6, 2) := by decide +kernel
theorem dX12_plan_107 : decode cX12_plan 107 = .ok (.aload_n 0, 1) := by decide +kernel
theorem dX12_plan_108 : decode cX12_plan 108 = .ok (.getfield 193, 3) := by decide +kernel
theorem dX12_plan_111 : decode cX12_plan 111 = .ok (.imul, 1) := by decide +kernel
theorem dX12_plan_112 : decode cX12_plan 112 = .ok (.iload_n 1, 1) := by decide +kernel
theorem dX12_plan_113 : decode cX12_plan 113 = .ok (.iadd, 1) := by decide +kernel
theorem dX12_plan_114 : decode cX12_plan 114 = .ok (.aload_n 0, 1) := by decide +kernel
theorem dX12_plan_115 : decode cX12_plan 115 = .ok (.getfield 63, 3) := by decide +kernel
theorem dX12_plan_118 : decode cX12_plan 118 = .ok (.iload_n 1, 1) := by decide +kernel
theorem dX12_plan_119 : decode cX12_plan 119 = .ok (.iaload, 1) := by decide +kernel
theorem dX12_plan_120 : decode cX12_plan 120 = .ok (.iastore, 1) := by decide +kernel
theorem dX12_plan_121 : decode cX12_plan 121 = .ok (.iinc 1 1, 3) := by decide +kernel
theorem dX12_plan_124 : decode cX12_plan 124 = .ok (.goto (-31), 3) := by decide +kernel
theorem dX12_plan_127 : decode cX12_plan 127 = .ok (.aload_n 0, 1) := by decide +kernel
theorem dX12_plan_128 : decode cX12_plan 128 = .ok (.dup, 1) := by decide +kernel
theorem dX12_plan_129 : decode cX12_plan 129 = .ok (.getfield 193, 3) := by decide +kernel
theorem dX12_plan_132 : decode cX12_plan 132 = .ok (.iconst 1, 1) := by decide +kernel
theorem dX12_plan_133 : decode cX12_plan 133 = .ok (.iadd, 1) := by decide +kernel
theorem dX12_plan_134 : decode cX12_plan 134 = .ok (.putfield 193, 3) := by decide +kernel
theorem dX12_plan_137 : decode cX12_plan 137 = .ok (.aload_n 0, 1) := by decide +kernel
theorem dX12_plan_138 : decode cX12_plan 138 = .ok (.iconst 0, 1) := by decide +kernel
theorem dX12_plan_139 : decode cX12_plan 139 = .ok (.putfield 98, 3) := by decide +kernel
theorem dX12_plan_142 : decode cX12_plan 142 = .ok (.aload_n 0, 1) := by decide +kernel
theorem dX12_plan_143 : decode cX12_plan 143 = .ok (.getfield 193, 3) := by decide +kernel
theorem dX12_plan_146 : decode cX12_plan 146 = .ok (.iconst 1, 1) := by decide +kernel
theorem dX12_plan_147 : decode cX12_plan 147 = .ok (.isub, 1) := by decide +kernel
theorem dX12_plan_148 : decode cX12_plan 148 = .ok (.ireturn, 1) := by decide +kernel
theorem dX12_isPlan_0 : decode cX12_isPlan 0 = .ok (.iload_n 1, 1) := by decide +kernel
theorem dX12_isPlan_1 : decode cX12_isPlan 1 = .ok (.iconst 0, 1) := by decide +kernel
theorem dX12_isPlan_2 : decode cX12_isPlan 2 = .ok (.aload_n 0, 1) := by decide +kernel
theorem dX12_isPlan_3 : decode cX12_isPlan 3 = .ok (.getfield 193, 3) := by decide +kernel
theorem dX12_isPlan_6 : decode cX12_isPlan 6 = .ok (.iconst 1, 1) := by decide +kernel
theorem dX12_isPlan_7 : decode cX12_isPlan 7 = .ok (.isub, 1) := by decide +kernel
theorem dX12_isPlan_8 : decode cX12_isPlan 8 = .ok (.invokestatic 102, 3) := by decide +kernel
theorem dX12_isPlan_11 : decode cX12_isPlan 11 = .ok (.ireturn, 1) := by decide +kernel
theorem dX12_planNow_0 : decode cX12_planNow 0 = .ok (.iload_n 2, 1) := by decide +kernel
theorem dX12_planNow_1 : decode cX12_planNow 1 = .ok (.tableswitch 70 0 4 #[35, 42, 49, 56, 63], 35) := by decide +kernel
theorem dX12_planNow_36 : decode cX12_planNow 36 = .ok (.aload_n 0, 1) := by decide +kernel
theorem dX12_planNow_37 : decode cX12_planNow 37 = .ok (.getfield 23, 3) := by decide +kernel
theorem dX12_planNow_40 : decode cX12_planNow 40 = .ok (.iload_n 1, 1) := by decide +kernel
theorem dX12_planNow_41 : decode cX12_planNow 41 = .ok (.iaload, 1) := by decide +kernel
theorem dX12_planNow_42 : decode cX12_planNow 42 = .ok (.ireturn, 1) := by decide +kernel
theorem dX12_planNow_43 : decode cX12_planNow 43 = .ok (.aload_n 0, 1) := by decide +kernel
theorem dX12_planNow_44 : decode cX12_planNow 44 = .ok (.getfield 26, 3) := by decide +kernel
theorem dX12_planNow_47 : decode cX12_planNow 47 = .ok (.iload_n 1, 1) := by decide +kernel
theorem dX12_planNow_48 : decode cX12_planNow 48 = .ok (.iaload, 1) := by decide +kernel
theorem dX12_planNow_49 : decode cX12_planNow 49 = .ok (.ireturn, 1) := by decide +kernel
theorem dX12_planNow_50 : decode cX12_planNow 50 = .ok (.aload_n 0, 1) := by decide +kernel
theorem dX12_planNow_51 : decode cX12_planNow 51 = .ok (.getfield 29, 3) := by decide +kernel
theorem dX12_planNow_54 : decode cX12_planNow 54 = .ok (.iload_n 1, 1) := by decide +kernel
theorem dX12_planNow_55 : decode cX12_planNow 55 = .ok (.iaload, 1) := by decide +kernel
theorem dX12_planNow_56 : decode cX12_planNow 56 = .ok (.ireturn, 1) := by decide +kernel
theorem dX12_planNow_57 : decode cX12_planNow 57 = .ok (.aload_n 0, 1) := by decide +kernel
theorem dX12_planNow_58 : decode cX12_planNow 58 = .ok (.getfield 32, 3) := by decide +kernel
theorem dX12_planNow_61 : decode cX12_planNow 61 = .ok (.iload_n 1, 1) := by decide +kernel
theorem dX12_planNow_62 : decode cX12_planNow 62 = .ok (.iaload, 1) := by decide +kernel
theorem dX12_planNow_63 : decode cX12_planNow 63 = .ok (.ireturn, 1) := by decide +kernel
theorem dX12_planNow_64 : decode cX12_planNow 64 = .ok (.aload_n 0, 1) := by decide +kernel
theorem dX12_planNow_65 : decode cX12_planNow 65 = .ok (.getfield 35, 3) := by decide +kernel
theorem dX12_planNow_68 : decode cX12_planNow 68 = .ok (.iload_n 1, 1) := by decide +kernel
theorem dX12_planNow_69 : decode cX12_planNow 69 = .ok (.iaload, 1) := by decide +kernel
theorem dX12_planNow_70 : decode cX12_planNow 70 = .ok (.ireturn, 1) := by decide +kernel
theorem dX12_planNow_71 : decode cX12_planNow 71 = .ok (.iload_n 2, 1) := by decide +kernel
theorem dX12_planNow_72 : decode cX12_planNow 72 = .ok (.bipush 10, 2) := by decide +kernel
theorem dX12_planNow_74 : decode cX12_planNow 74 = .ok (.isub, 1) := by decide +kernel
theorem dX12_planNow_75 : decode cX12_planNow 75 = .ok (.aload_n 0, 1) := by decide +kernel
theorem dX12_planNow_76 : decode cX12_planNow 76 = .ok (.getfield 35, 3) := by decide +kernel
theorem dX12_planNow_79 : decode cX12_planNow 79 = .ok (.iload_n 1, 1) := by decide +kernel
theorem dX12_planNow_80 : decode cX12_planNow 80 = .ok (.iaload, 1) := by decide +kernel
theorem dX12_planNow_81 : decode cX12_planNow 81 = .ok (.if_icmp .ge 20, 3) := by decide +kernel
theorem dX12_planNow_84 : decode cX12_planNow 84 = .ok (.aload_n 0, 1) := by decide +kernel
theorem dX12_planNow_85 : decode cX12_planNow 85 = .ok (.getfield 38, 3) := by decide +kernel
theorem dX12_planNow_88 : decode cX12_planNow 88 = .ok (.bipush 6, 2) := by decide +kernel
theorem dX12_planNow_90 : decode cX12_planNow 90 = .ok (.iload_n 1, 1) := by decide +kernel
theorem dX12_planNow_91 : decode cX12_planNow 91 = .ok (.imul, 1) := by decide +kernel
theorem dX12_planNow_92 : decode cX12_planNow 92 = .ok (.iload_n 2, 1) := by decide +kernel
theorem dX12_planNow_93 : decode cX12_planNow 93 = .ok (.iadd, 1) := by decide +kernel
theorem dX12_planNow_94 : decode cX12_planNow 94 = .ok (.bipush 10, 2) := by decide +kernel
theorem dX12_planNow_96 : decode cX12_planNow 96 = .ok (.isub, 1) := by decide +kernel
theorem dX12_planNow_97 : decode cX12_planNow 97 = .ok (.iaload, 1) := by decide +kernel
theorem dX12_planNow_98 : decode cX12_planNow 98 = .ok (.goto 4, 3) := by decide +kernel
theorem dX12_planNow_101 : decode cX12_planNow 101 = .ok (.iconst (-1), 1) := by decide +kernel
theorem dX12_planNow_102 : decode cX12_planNow 102 = .ok (.ireturn, 1) := by decide +kernel
theorem dX12_planTold_0 : decode cX12_planTold 0 = .ok (.aload_n 0, 1) := by decide +kernel
theorem dX12_planTold_1 : decode cX12_planTold 1 = .ok (.iload_n 1, 1) := by decide +kernel
theorem dX12_planTold_2 : decode cX12_planTold 2 = .ok (.invokevirtual 196, 3) := by decide +kernel
theorem dX12_planTold_5 : decode cX12_planTold 5 = .ok (.ifCond .ne 8, 3) := by decide +kernel
theorem dX12_planTold_8 : decode cX12_planTold 8 = .ok (.bipush (-101), 2) := by decide +kernel
theorem dX12_planTold_10 : decode cX12_planTold 10 = .ok (.goto 34, 3) := by decide +kernel
theorem dX12_planTold_13 : decode cX12_planTold 13 = .ok (.iload_n 2, 1) := by decide +kernel
theorem dX12_planTold_14 : decode cX12_planTold 14 = .ok (.iconst 0, 1) := by decide +kernel
theorem dX12_planTold_15 : decode cX12_planTold 15 = .ok (.iconst 4, 1) := by decide +kernel
theorem dX12_planTold_16 : decode cX12_planTold 16 = .ok (.invokestatic 102, 3) := by decide +kernel
theorem dX12_planTold_19 : decode cX12_planTold 19 = .ok (.ifCond .ne 14, 3) := by decide +kernel
theorem dX12_planTold_22 : decode cX12_planTold 22 = .ok (.iload_n 2, 1) := by decide +kernel
theorem dX12_planTold_23 : decode cX12_planTold 23 = .ok (.bipush 10, 2) := by decide +kernel
theorem dX12_planTold_25 : decode cX12_planTold 25 = .ok (.bipush 15, 2) := by decide +kernel
theorem dX12_planTold_27 : decode cX12_planTold 27 = .ok (.invokestatic 102, 3) := by decide +kernel
theorem dX12_planTold_30 : decode cX12_planTold 30 = .ok (.ifCond .eq 12, 3) := by decide +kernel
theorem dX12_planTold_33 : decode cX12_planTold 33 = .ok (.aload_n 0, 1) := by decide +kernel
theorem dX12_planTold_34 : decode cX12_planTold 34 = .ok (.iload_n 1, 1) := by decide +kernel
theorem dX12_planTold_35 : decode cX12_planTold 35 = .ok (.iload_n 2, 1) := by decide +kernel
theorem dX12_planTold_36 : decode cX12_planTold 36 = .ok (.invokevirtual 199, 3) := by decide +kernel
theorem dX12_planTold_39 : decode cX12_planTold 39 = .ok (.goto 5, 3) := by decide +kernel
theorem dX12_planTold_42 : decode cX12_planTold 42 = .ok (.bipush (-102), 2) := by decide +kernel
theorem dX12_planTold_44 : decode cX12_planTold 44 = .ok (.ireturn, 1) := by decide +kernel
theorem dX12_cells_0 : decode cX12_cells 0 = .ok (.aload_n 0, 1) := by decide +kernel
theorem dX12_cells_1 : decode cX12_cells 1 = .ok (.getfield 178, 3) := by decide +kernel
theorem dX12_cells_4 : decode cX12_cells 4 = .ok (.aload_n 0, 1) := by decide +kernel
theorem dX12_cells_5 : decode cX12_cells 5 = .ok (.getfield 181, 3) := by decide +kernel
theorem dX12_cells_8 : decode cX12_cells 8 = .ok (.imul, 1) := by decide +kernel
theorem dX12_cells_9 : decode cX12_cells 9 = .ok (.ireturn, 1) := by decide +kernel
theorem dX12_isCell_0 : decode cX12_isCell 0 = .ok (.iload_n 1, 1) := by decide +kernel
theorem dX12_isCell_1 : decode cX12_isCell 1 = .ok (.iconst 0, 1) := by decide +kernel
theorem dX12_isCell_2 : decode cX12_isCell 2 = .ok (.aload_n 0, 1) := by decide +kernel
theorem dX12_isCell_3 : decode cX12_isCell 3 = .ok (.invokevirtual 202, 3) := by decide +kernel
theorem dX12_isCell_6 : decode cX12_isCell 6 = .ok (.iconst 1, 1) := by decide +kernel
theorem dX12_isCell_7 : decode cX12_isCell 7 = .ok (.isub, 1) := by decide +kernel
theorem dX12_isCell_8 : decode cX12_isCell 8 = .ok (.invokestatic 102, 3) := by decide +kernel
theorem dX12_isCell_11 : decode cX12_isCell 11 = .ok (.ireturn, 1) := by decide +kernel
theorem dX12_cellNow_0 : decode cX12_cellNow 0 = .ok (.iload_n 2, 1) := by decide +kernel
theorem dX12_cellNow_1 : decode cX12_cellNow 1 = .ok (.ifCond .ne 12, 3) := by decide +kernel
theorem dX12_cellNow_4 : decode cX12_cellNow 4 = .ok (.aload_n 0, 1) := by decide +kernel
theorem dX12_cellNow_5 : decode cX12_cellNow 5 = .ok (.getfield 7, 3) := by decide +kernel
theorem dX12_cellNow_8 : decode cX12_cellNow 8 = .ok (.iload_n 1, 1) := by decide +kernel
theorem dX12_cellNow_9 : decode cX12_cellNow 9 = .ok (.iaload, 1) := by decide +kernel
theorem dX12_cellNow_10 : decode cX12_cellNow 10 = .ok (.goto 45, 3) := by decide +kernel
theorem dX12_cellNow_13 : decode cX12_cellNow 13 = .ok (.iload_n 2, 1) := by decide +kernel
theorem dX12_cellNow_14 : decode cX12_cellNow 14 = .ok (.iconst 1, 1) := by decide +kernel
theorem dX12_cellNow_15 : decode cX12_cellNow 15 = .ok (.if_icmp .ne 20, 3) := by decide +kernel
theorem dX12_cellNow_18 : decode cX12_cellNow 18 = .ok (.aload_n 0, 1) := by decide +kernel
theorem dX12_cellNow_19 : decode cX12_cellNow 19 = .ok (.getfield 13, 3) := by decide +kernel
theorem dX12_cellNow_22 : decode cX12_cellNow 22 = .ok (.iload_n 1, 1) := by decide +kernel
theorem dX12_cellNow_23 : decode cX12_cellNow 23 = .ok (.baload, 1) := by decide +kernel
theorem dX12_cellNow_24 : decode cX12_cellNow 24 = .ok (.ifCond .eq 7, 3) := by decide +kernel
theorem dX12_cellNow_27 : decode cX12_cellNow 27 = .ok (.iconst 1, 1) := by decide +kernel
theorem dX12_cellNow_28 : decode cX12_cellNow 28 = .ok (.goto 27, 3) := by decide +kernel
theorem dX12_cellNow_31 : decode cX12_cellNow 31 = .ok (.iconst 0, 1) := by decide +kernel
theorem dX12_cellNow_32 : decode cX12_cellNow 32 = .ok (.goto 23, 3) := by decide +kernel
theorem dX12_cellNow_35 : decode cX12_cellNow 35 = .ok (.iload_n 2, 1) := by decide +kernel
theorem dX12_cellNow_36 : decode cX12_cellNow 36 = .ok (.iconst 2, 1) := by decide +kernel
theorem dX12_cellNow_37 : decode cX12_cellNow 37 = .ok (.if_icmp .ne 12, 3) := by decide +kernel
theorem dX12_cellNow_40 : decode cX12_cellNow 40 = .ok (.aload_n 0, 1) := by decide +kernel
theorem dX12_cellNow_41 : decode cX12_cellNow 41 = .ok (.getfield 17, 3) := by decide +kernel
theorem dX12_cellNow_44 : decode cX12_cellNow 44 = .ok (.iload_n 1, 1) := by decide +kernel
theorem dX12_cellNow_45 : decode cX12_cellNow 45 = .ok (.iaload, 1) := by decide +kernel
theorem dX12_cellNow_46 : decode cX12_cellNow 46 = .ok (.goto 9, 3) := by decide +kernel
theorem dX12_cellNow_49 : decode cX12_cellNow 49 = .ok (.aload_n 0, 1) := by decide +kernel
theorem dX12_cellNow_50 : decode cX12_cellNow 50 = .ok (.getfield 20, 3) := by decide +kernel
theorem dX12_cellNow_53 : decode cX12_cellNow 53 = .ok (.iload_n 1, 1) := by decide +kernel
theorem dX12_cellNow_54 : decode cX12_cellNow 54 = .ok (.iaload, 1) := by decide +kernel
theorem dX12_cellNow_55 : decode cX12_cellNow 55 = .ok (.ireturn, 1) := by decide +kernel
theorem dX12_cell_0 : decode cX12_cell 0 = .ok (.aload_n 0, 1) := by decide +kernel
theorem dX12_cell_1 : decode cX12_cell 1 = .ok (.iload_n 1, 1) := by decide +kernel
theorem dX12_cell_2 : decode cX12_cell 2 = .ok (.invokevirtual 206, 3) := by decide +kernel
theorem dX12_cell_5 : decode cX12_cell 5 = .ok (.ifCond .ne 8, 3) := by decide +kernel
theorem dX12_cell_8 : decode cX12_cell 8 = .ok (.bipush (-101), 2) := by decide +kernel
theorem dX12_cell_10 : decode cX12_cell 10 = .ok (.goto 23, 3) := by decide +kernel
theorem dX12_cell_13 : decode cX12_cell 13 = .ok (.iload_n 2, 1) := by decide +kernel
theorem dX12_cell_14 : decode cX12_cell 14 = .ok (.iconst 0, 1) := by decide +kernel
theorem dX12_cell_15 : decode cX12_cell 15 = .ok (.iconst 3, 1) := by decide +kernel
theorem dX12_cell_16 : decode cX12_cell 16 = .ok (.invokestatic 102, 3) := by decide +kernel
theorem dX12_cell_19 : decode cX12_cell 19 = .ok (.ifCond .eq 12, 3) := by decide +kernel
theorem dX12_cell_22 : decode cX12_cell 22 = .ok (.aload_n 0, 1) := by decide +kernel
theorem dX12_cell_23 : decode cX12_cell 23 = .ok (.iload_n 1, 1) := by decide +kernel
theorem dX12_cell_24 : decode cX12_cell 24 = .ok (.iload_n 2, 1) := by decide +kernel
theorem dX12_cell_25 : decode cX12_cell 25 = .ok (.invokevirtual 209, 3) := by decide +kernel
theorem dX12_cell_28 : decode cX12_cell 28 = .ok (.goto 5, 3) := by decide +kernel
theorem dX12_cell_31 : decode cX12_cell 31 = .ok (.bipush (-102), 2) := by decide +kernel
theorem dX12_cell_33 : decode cX12_cell 33 = .ok (.ireturn, 1) := by decide +kernel
theorem dX12_loadPan_0 : decode cX12_loadPan 0 = .ok (.iconst 0, 1) := by decide +kernel
theorem dX12_loadPan_1 : decode cX12_loadPan 1 = .ok (.istore_n 1, 1) := by decide +kernel
theorem dX12_loadPan_2 : decode cX12_loadPan 2 = .ok (.iload_n 1, 1) := by decide +kernel
theorem dX12_loadPan_3 : decode cX12_loadPan 3 = .ok (.bipush 16, 2) := by decide +kernel
theorem dX12_loadPan_5 : decode cX12_loadPan 5 = .ok (.if_icmp .ge 33, 3) := by decide +kernel
theorem dX12_loadPan_8 : decode cX12_loadPan 8 = .ok (.aload_n 0, 1) := by decide +kernel
theorem dX12_loadPan_9 : decode cX12_loadPan 9 = .ok (.getfield 66, 3) := by decide +kernel
theorem dX12_loadPan_12 : decode cX12_loadPan 12 = .ok (.iload_n 1, 1) := by decide +kernel
theorem dX12_loadPan_13 : decode cX12_loadPan 13 = .ok (.aload_n 0, 1) := by decide +kernel
theorem dX12_loadPan_14 : decode cX12_loadPan 14 = .ok (.getfield 17, 3) := by decide +kernel
theorem dX12_loadPan_17 : decode cX12_loadPan 17 = .ok (.iload_n 1, 1) := by decide +kernel
theorem dX12_loadPan_18 : decode cX12_loadPan 18 = .ok (.iaload, 1) := by decide +kernel
theorem dX12_loadPan_19 : decode cX12_loadPan 19 = .ok (.iastore, 1) := by decide +kernel
theorem dX12_loadPan_20 : decode cX12_loadPan 20 = .ok (.aload_n 0, 1) := by decide +kernel
theorem dX12_loadPan_21 : decode cX12_loadPan 21 = .ok (.getfield 69, 3) := by decide +kernel
theorem dX12_loadPan_24 : decode cX12_loadPan 24 = .ok (.iload_n 1, 1) := by decide +kernel
theorem dX12_loadPan_25 : decode cX12_loadPan 25 = .ok (.aload_n 0, 1) := by decide +kernel
theorem dX12_loadPan_26 : decode cX12_loadPan 26 = .ok (.getfield 20, 3) := by decide +kernel
theorem dX12_loadPan_29 : decode cX12_loadPan 29 = .ok (.iload_n 1, 1) := by decide +kernel
theorem dX12_loadPan_30 : decode cX12_loadPan 30 = .ok (.iaload, 1) := by decide +kernel
theorem dX12_loadPan_31 : decode cX12_loadPan 31 = .ok (.iastore, 1) := by decide +kernel
theorem dX12_loadPan_32 : decode cX12_loadPan 32 = .ok (.iinc 1 1, 3) := by decide +kernel
theorem dX12_loadPan_35 : decode cX12_loadPan 35 = .ok (.goto (-33), 3) := by decide +kernel
theorem dX12_loadPan_38 : decode cX12_loadPan 38 = .ok (.aload_n 0, 1) := by decide +kernel
theorem dX12_loadPan_39 : decode cX12_loadPan 39 = .ok (.aload_n 0, 1) := by decide +kernel
theorem dX12_loadPan_40 : decode cX12_loadPan 40 = .ok (.getfield 184, 3) := by decide +kernel
theorem dX12_loadPan_43 : decode cX12_loadPan 43 = .ok (.putfield 212, 3) := by decide +kernel
theorem dX12_loadPan_46 : decode cX12_loadPan 46 = .ok (.return_, 1) := by decide +kernel
theorem dX12_loadPlan_0 : decode cX12_loadPlan 0 = .ok (.aload_n 0, 1) := by decide +kernel
theorem dX12_loadPlan_1 : decode cX12_loadPlan 1 = .ok (.aload_n 0, 1) := by decide +kernel
theorem dX12_loadPlan_2 : decode cX12_loadPlan 2 = .ok (.getfield 23, 3) := by decide +kernel
theorem dX12_loadPlan_5 : decode cX12_loadPlan 5 = .ok (.iload_n 1, 1) := by decide +kernel
theorem dX12_loadPlan_6 : decode cX12_loadPlan 6 = .ok (.iaload, 1) := by decide +kernel
theorem dX12_loadPlan_7 : decode cX12_loadPlan 7 = .ok (.putfield 215, 3) := by decide +kernel
theorem dX12_loadPlan_10 : decode cX12_loadPlan 10 = .ok (.aload_n 0, 1) := by decide +kernel
theorem dX12_loadPlan_11 : decode cX12_loadPlan 11 = .ok (.aload_n 0, 1) := by decide +kernel
theorem dX12_loadPlan_12 : decode cX12_loadPlan 12 = .ok (.getfield 26, 3) := by decide +kernel
theorem dX12_loadPlan_15 : decode cX12_loadPlan 15 = .ok (.iload_n 1, 1) := by decide +kernel
theorem dX12_loadPlan_16 : decode cX12_loadPlan 16 = .ok (.iaload, 1) := by decide +kernel
theorem dX12_loadPlan_17 : decode cX12_loadPlan 17 = .ok (.putfield 218, 3) := by decide +kernel
theorem dX12_loadPlan_20 : decode cX12_loadPlan 20 = .ok (.aload_n 0, 1) := by decide +kernel
theorem dX12_loadPlan_21 : decode cX12_loadPlan 21 = .ok (.aload_n 0, 1) := by decide +kernel
theorem dX12_loadPlan_22 : decode cX12_loadPlan 22 = .ok (.getfield 29, 3) := by decide +kernel
theorem dX12_loadPlan_25 : decode cX12_loadPlan 25 = .ok (.iload_n 1, 1) := by decide +kernel
theorem dX12_loadPlan_26 : decode cX12_loadPlan 26 = .ok (.iaload, 1) := by decide +kernel
theorem dX12_loadPlan_27 : decode cX12_loadPlan 27 = .ok (.putfield 221, 3) := by decide +kernel
theorem dX12_loadPlan_30 : decode cX12_loadPlan 30 = .ok (.aload_n 0, 1) := by decide +kernel
theorem dX12_loadPlan_31 : decode cX12_loadPlan 31 = .ok (.aload_n 0, 1) := by decide +kernel
theorem dX12_loadPlan_32 : decode cX12_loadPlan 32 = .ok (.getfield 32, 3) := by decide +kernel
theorem dX12_loadPlan_35 : decode cX12_loadPlan 35 = .ok (.iload_n 1, 1) := by decide +kernel
theorem dX12_loadPlan_36 : decode cX12_loadPlan 36 = .ok (.iaload, 1) := by decide +kernel
theorem dX12_loadPlan_37 : decode cX12_loadPlan 37 = .ok (.putfield 224, 3) := by decide +kernel
theorem dX12_loadPlan_40 : decode cX12_loadPlan 40 = .ok (.aload_n 0, 1) := by decide +kernel
theorem dX12_loadPlan_41 : decode cX12_loadPlan 41 = .ok (.aload_n 0, 1) := by decide +kernel
theorem dX12_loadPlan_42 : decode cX12_loadPlan 42 = .ok (.getfield 35, 3) := by decide +kernel
theorem dX12_loadPlan_45 : decode cX12_loadPlan 45 = .ok (.iload_n 1, 1) := by decide +kernel
theorem dX12_loadPlan_46 : decode cX12_loadPlan 46 = .ok (.iaload, 1) := by decide +kernel
theorem dX12_loadPlan_47 : decode cX12_loadPlan 47 = .ok (.putfield 227, 3) := by decide +kernel
theorem dX12_loadPlan_50 : decode cX12_loadPlan 50 = .ok (.iconst 0, 1) := by decide +kernel
theorem dX12_loadPlan_51 : decode cX12_loadPlan 51 = .ok (.istore_n 2, 1) := by decide +kernel
theorem dX12_loadPlan_52 : decode cX12_loadPlan 52 = .ok (.iload_n 2, 1) := by decide +kernel
theorem dX12_loadPlan_53 : decode cX12_loadPlan 53 = .ok (.aload_n 0, 1) := by decide +kernel
theorem dX12_loadPlan_54 : decode cX12_loadPlan 54 = .ok (.getfield 227, 3) := by decide +kernel
theorem dX12_loadPlan_57 : decode cX12_loadPlan 57 = .ok (.if_icmp .ge 26, 3) := by decide +kernel
theorem dX12_loadPlan_60 : decode cX12_loadPlan 60 = .ok (.aload_n 0, 1) := by decide +kernel
theorem dX12_loadPlan_61 : decode cX12_loadPlan 61 = .ok (.getfield 72, 3) := by decide +kernel
theorem dX12_loadPlan_64 : decode cX12_loadPlan 64 = .ok (.iload_n 2, 1) := by decide +kernel
theorem dX12_loadPlan_65 : decode cX12_loadPlan 65 = .ok (.aload_n 0, 1) := by decide +kernel
theorem dX12_loadPlan_66 : decode cX12_loadPlan 66 = .ok (.getfield 38, 3) := by decide +kernel
theorem dX12_loadPlan_69 : decode cX12_loadPlan 69 = .ok (.bipush 6, 2) := by decide +kernel
theorem dX12_loadPlan_71 : decode cX12_loadPlan 71 = .ok (.iload_n 1, 1) := by decide +kernel
theorem dX12_loadPlan_72 : decode cX12_loadPlan 72 = .ok (.imul, 1) := by decide +kernel
theorem dX12_loadPlan_73 : decode cX12_loadPlan 73 = .ok (.iload_n 2, 1) := by decide +kernel
theorem dX12_loadPlan_74 : decode cX12_loadPlan 74 = .ok (.iadd, 1) := by decide +kernel
theorem dX12_loadPlan_75 : decode cX12_loadPlan 75 = .ok (.iaload, 1) := by decide +kernel
theorem dX12_loadPlan_76 : decode cX12_loadPlan 76 = .ok (.iastore, 1) := by decide +kernel
theorem dX12_loadPlan_77 : decode cX12_loadPlan 77 = .ok (.iinc 2 1, 3) := by decide +kernel
theorem dX12_loadPlan_80 : decode cX12_loadPlan 80 = .ok (.goto (-28), 3) := by decide +kernel
theorem dX12_loadPlan_83 : decode cX12_loadPlan 83 = .ok (.return_, 1) := by decide +kernel
theorem dX12_goTick_0 : decode cX12_goTick 0 = .ok (.iconst 0, 1) := by decide +kernel
theorem dX12_goTick_1 : decode cX12_goTick 1 = .ok (.istore_n 3, 1) := by decide +kernel
theorem dX12_goTick_2 : decode cX12_goTick 2 = .ok (.iload_n 3, 1) := by decide +kernel
theorem dX12_goTick_3 : decode cX12_goTick 3 = .ok (.aload_n 0, 1) := by decide +kernel
theorem dX12_goTick_4 : decode cX12_goTick 4 = .ok (.invokevirtual 202, 3) := by decide +kernel
theorem dX12_goTick_7 : decode cX12_goTick 7 = .ok (.if_icmp .ge 79, 3) := by decide +kernel
theorem dX12_goTick_10 : decode cX12_goTick 10 = .ok (.aload_n 0, 1) := by decide +kernel
theorem dX12_goTick_11 : decode cX12_goTick 11 = .ok (.getfield 66, 3) := by decide +kernel
theorem dX12_goTick_14 : decode cX12_goTick 14 = .ok (.iload_n 3, 1) := by decide +kernel
theorem dX12_goTick_15 : decode cX12_goTick 15 = .ok (.dup2, 1) := by decide +kernel
theorem dX12_goTick_16 : decode cX12_goTick 16 = .ok (.iaload, 1) := by decide +kernel
theorem dX12_goTick_17 : decode cX12_goTick 17 = .ok (.iload_n 1, 1) := by decide +kernel
theorem dX12_goTick_18 : decode cX12_goTick 18 = .ok (.aload_n 0, 1) := by decide +kernel
theorem dX12_goTick_19 : decode cX12_goTick 19 = .ok (.getfield 7, 3) := by decide +kernel
theorem dX12_goTick_22 : decode cX12_goTick 22 = .ok (.iload_n 3, 1) := by decide +kernel
theorem dX12_goTick_23 : decode cX12_goTick 23 = .ok (.iaload, 1) := by decide +kernel
theorem dX12_goTick_24 : decode cX12_goTick 24 = .ok (.imul, 1) := by decide +kernel
theorem dX12_goTick_25 : decode cX12_goTick 25 = .ok (.aload_n 0, 1) := by decide +kernel
theorem dX12_goTick_26 : decode cX12_goTick 26 = .ok (.getfield 66, 3) := by decide +kernel
theorem dX12_goTick_29 : decode cX12_goTick 29 = .ok (.iload_n 3, 1) := by decide +kernel
theorem dX12_goTick_30 : decode cX12_goTick 30 = .ok (.iaload, 1) := by decide +kernel
theorem dX12_goTick_31 : decode cX12_goTick 31 = .ok (.bipush 10, 2) := by decide +kernel
theorem dX12_goTick_33 : decode cX12_goTick 33 = .ok (.idiv, 1) := by decide +kernel
theorem dX12_goTick_34 : decode cX12_goTick 34 = .ok (.isub, 1) := by decide +kernel
theorem dX12_goTick_35 : decode cX12_goTick 35 = .ok (.iadd, 1) := by decide +kernel
theorem dX12_goTick_36 : decode cX12_goTick 36 = .ok (.iastore, 1) := by decide +kernel
theorem dX12_goTick_37 : decode cX12_goTick 37 = .ok (.aload_n 0, 1) := by decide +kernel
theorem dX12_goTick_38 : decode cX12_goTick 38 = .ok (.getfield 75, 3) := by decide +kernel
theorem dX12_goTick_41 : decode cX12_goTick 41 = .ok (.iload_n 3, 1) := by decide +kernel
theorem dX12_goTick_42 : decode cX12_goTick 42 = .ok (.iaload, 1) := by decide +kernel
theorem dX12_goTick_43 : decode cX12_goTick 43 = .ok (.ifCond .le 37, 3) := by decide +kernel
theorem dX12_goTick_46 : decode cX12_goTick 46 = .ok (.aload_n 0, 1) := by decide +kernel
theorem dX12_goTick_47 : decode cX12_goTick 47 = .ok (.getfield 84, 3) := by decide +kernel
theorem dX12_goTick_50 : decode cX12_goTick 50 = .ok (.iconst 2, 1) := by decide +kernel
theorem dX12_goTick_51 : decode cX12_goTick 51 = .ok (.iload_n 3, 1) := by decide +kernel
theorem dX12_goTick_52 : decode cX12_goTick 52 = .ok (.imul, 1) := by decide +kernel
theorem dX12_goTick_53 : decode cX12_goTick 53 = .ok (.iload_n 2, 1) := by decide +kernel
theorem dX12_goTick_54 : decode cX12_goTick 54 = .ok (.iadd, 1) := by decide +kernel
theorem dX12_goTick_55 : decode cX12_goTick 55 = .ok (.dup2, 1) := by decide +kernel
theorem dX12_goTick_56 : decode cX12_goTick 56 = .ok (.iaload, 1) := by decide +kernel
theorem dX12_goTick_57 : decode cX12_goTick 57 = .ok (.aload_n 0, 1) := by decide +kernel
theorem dX12_goTick_58 : decode cX12_goTick 58 = .ok (.getfield 66, 3) := by decide +kernel
theorem dX12_goTick_61 : decode cX12_goTick 61 = .ok (.iload_n 3, 1) := by decide +kernel
theorem dX12_goTick_62 : decode cX12_goTick 62 = .ok (.iaload, 1) := by decide +kernel
theorem dX12_goTick_63 : decode cX12_goTick 63 = .ok (.bipush 60, 2) := by decide +kernel
theorem dX12_goTick_65 : decode cX12_goTick 65 = .ok (.isub, 1) := by decide +kernel
theorem dX12_goTick_66 : decode cX12_goTick 66 = .ok (.invokestatic 230, 3) := by decide +kernel
theorem dX12_goTick_69 : decode cX12_goTick 69 = .ok (.aload_n 0, 1) := by decide +kernel
theorem dX12_goTick_70 : decode cX12_goTick 70 = .ok (.getfield 75, 3) := by decide +kernel
theorem dX12_goTick_73 : decode cX12_goTick 73 = .ok (.iload_n 3, 1) := by decide +kernel
theorem dX12_goTick_74 : decode cX12_goTick 74 = .ok (.iaload, 1) := by decide +kernel
theorem dX12_goTick_75 : decode cX12_goTick 75 = .ok (.iconst 2, 1) := by decide +kernel
theorem dX12_goTick_76 : decode cX12_goTick 76 = .ok (.iadd, 1) := by decide +kernel
theorem dX12_goTick_77 : decode cX12_goTick 77 = .ok (.idiv, 1) := by decide +kernel
theorem dX12_goTick_78 : decode cX12_goTick 78 = .ok (.iadd, 1) := by decide +kernel
theorem dX12_goTick_79 : decode cX12_goTick 79 = .ok (.iastore, 1) := by decide +kernel
theorem dX12_goTick_80 : decode cX12_goTick 80 = .ok (.iinc 3 1, 3) := by decide +kernel
theorem dX12_goTick_83 : decode cX12_goTick 83 = .ok (.goto (-81), 3) := by decide +kernel
theorem dX12_goTick_86 : decode cX12_goTick 86 = .ok (.return_, 1) := by decide +kernel
theorem dX12_beside_0 : decode cX12_beside 0 = .ok (.iload_n 1, 1) := by decide +kernel
theorem dX12_beside_1 : decode cX12_beside 1 = .ok (.aload_n 0, 1) := by decide +kernel
theorem dX12_beside_2 : decode cX12_beside 2 = .ok (.getfield 181, 3) := by decide +kernel
theorem dX12_beside_5 : decode cX12_beside 5 = .ok (.idiv, 1) := by decide +kernel
theorem dX12_beside_6 : decode cX12_beside 6 = .ok (.iload_n 2, 1) := by decide +kernel
theorem dX12_beside_7 : decode cX12_beside 7 = .ok (.ifCond .ne 7, 3) := by decide +kernel
theorem dX12_beside_10 : decode cX12_beside 10 = .ok (.iconst (-1), 1) := by decide +kernel
theorem dX12_beside_11 : decode cX12_beside 11 = .ok (.goto 13, 3) := by decide +kernel
theorem dX12_beside_14 : decode cX12_beside 14 = .ok (.iload_n 2, 1) := by decide +kernel
theorem dX12_beside_15 : decode cX12_beside 15 = .ok (.iconst 2, 1) := by decide +kernel
theorem dX12_beside_16 : decode cX12_beside 16 = .ok (.if_icmp .ne 7, 3) := by decide +kernel
theorem dX12_beside_19 : decode cX12_beside 19 = .ok (.iconst 1, 1) := by decide +kernel
theorem dX12_beside_20 : decode cX12_beside 20 = .ok (.goto 4, 3) := by decide +kernel
theorem dX12_beside_23 : decode cX12_beside 23 = .ok (.iconst 0, 1) := by decide +kernel
theorem dX12_beside_24 : decode cX12_beside 24 = .ok (.iadd, 1) := by decide +kernel
theorem dX12_beside_25 : decode cX12_beside 25 = .ok (.istore_n 3, 1) := by decide +kernel
theorem dX12_beside_26 : decode cX12_beside 26 = .ok (.iload_n 1, 1) := by decide +kernel
theorem dX12_beside_27 : decode cX12_beside 27 = .ok (.aload_n 0, 1) := by decide +kernel
theorem dX12_beside_28 : decode cX12_beside 28 = .ok (.getfield 181, 3) := by decide +kernel
theorem dX12_beside_31 : decode cX12_beside 31 = .ok (.irem, 1) := by decide +kernel
theorem dX12_beside_32 : decode cX12_beside 32 = .ok (.iload_n 2, 1) := by decide +kernel
theorem dX12_beside_33 : decode cX12_beside 33 = .ok (.iconst 1, 1) := by decide +kernel
theorem dX12_beside_34 : decode cX12_beside 34 = .ok (.if_icmp .ne 7, 3) := by decide +kernel
theorem dX12_beside_37 : decode cX12_beside 37 = .ok (.iconst 1, 1) := by decide +kernel
theorem dX12_beside_38 : decode cX12_beside 38 = .ok (.goto 13, 3) := by decide +kernel
theorem dX12_beside_41 : decode cX12_beside 41 = .ok (.iload_n 2, 1) := by decide +kernel
theorem dX12_beside_42 : decode cX12_beside 42 = .ok (.iconst 3, 1) := by decide +kernel
theorem dX12_beside_43 : decode cX12_beside 43 = .ok (.if_icmp .ne 7, 3) := by decide +kernel
theorem dX12_beside_46 : decode cX12_beside 46 = .ok (.iconst (-1), 1) := by decide +kernel
theorem dX12_beside_47 : decode cX12_beside 47 = .ok (.goto 4, 3) := by decide +kernel
theorem dX12_beside_50 : decode cX12_beside 50 = .ok (.iconst 0, 1) := by decide +kernel
theorem dX12_beside_51 : decode cX12_beside 51 = .ok (.iadd, 1) := by decide +kernel
theorem dX12_beside_52 : decode cX12_beside 52 = .ok (.istore 4, 2) := by decide +kernel
theorem dX12_beside_54 : decode cX12_beside 54 = .ok (.iload_n 3, 1) := by decide +kernel
theorem dX12_beside_55 : decode cX12_beside 55 = .ok (.iconst 0, 1) := by decide +kernel
theorem dX12_beside_56 : decode cX12_beside 56 = .ok (.aload_n 0, 1) := by decide +kernel
theorem dX12_beside_57 : decode cX12_beside 57 = .ok (.getfield 178, 3) := by decide +kernel
theorem dX12_beside_60 : decode cX12_beside 60 = .ok (.iconst 1, 1) := by decide +kernel
theorem dX12_beside_61 : decode cX12_beside 61 = .ok (.isub, 1) := by decide +kernel
theorem dX12_beside_62 : decode cX12_beside 62 = .ok (.invokestatic 102, 3) := by decide +kernel
theorem dX12_beside_65 : decode cX12_beside 65 = .ok (.ifCond .eq 30, 3) := by decide +kernel
theorem dX12_beside_68 : decode cX12_beside 68 = .ok (.iload 4, 2) := by decide +kernel
theorem dX12_beside_70 : decode cX12_beside 70 = .ok (.iconst 0, 1) := by decide +kernel
theorem dX12_beside_71 : decode cX12_beside 71 = .ok (.aload_n 0, 1) := by decide +kernel
theorem dX12_beside_72 : decode cX12_beside 72 = .ok (.getfield 181, 3) := by decide +kernel
theorem dX12_beside_75 : decode cX12_beside 75 = .ok (.iconst 1, 1) := by decide +kernel
theorem dX12_beside_76 : decode cX12_beside 76 = .ok (.isub, 1) := by decide +kernel
theorem dX12_beside_77 : decode cX12_beside 77 = .ok (.invokestatic 102, 3) := by decide +kernel
theorem dX12_beside_80 : decode cX12_beside 80 = .ok (.ifCond .eq 15, 3) := by decide +kernel
theorem dX12_beside_83 : decode cX12_beside 83 = .ok (.iload_n 3, 1) := by decide +kernel
theorem dX12_beside_84 : decode cX12_beside 84 = .ok (.aload_n 0, 1) := by decide +kernel
theorem dX12_beside_85 : decode cX12_beside 85 = .ok (.getfield 181, 3) := by decide +kernel
theorem dX12_beside_88 : decode cX12_beside 88 = .ok (.imul, 1) := by decide +kernel
theorem dX12_beside_89 : decode cX12_beside 89 = .ok (.iload 4, 2) := by decide +kernel
theorem dX12_beside_91 : decode cX12_beside 91 = .ok (.iadd, 1) := by decide +kernel
theorem dX12_beside_92 : decode cX12_beside 92 = .ok (.goto 4, 3) := by decide +kernel
theorem dX12_beside_95 : decode cX12_beside 95 = .ok (.iconst (-1), 1) := by decide +kernel
theorem dX12_beside_96 : decode cX12_beside 96 = .ok (.ireturn, 1) := by decide +kernel
theorem dX12_goSwing_0 : decode cX12_goSwing 0 = .ok (.aload_n 0, 1) := by decide +kernel
theorem dX12_goSwing_1 : decode cX12_goSwing 1 = .ok (.aload_n 0, 1) := by decide +kernel
theorem dX12_goSwing_2 : decode cX12_goSwing 2 = .ok (.getfield 215, 3) := by decide +kernel
theorem dX12_goSwing_5 : decode cX12_goSwing 5 = .ok (.iconst 0, 1) := by decide +kernel
theorem dX12_goSwing_6 : decode cX12_goSwing 6 = .ok (.invokevirtual 233, 3) := by decide +kernel
theorem dX12_goSwing_9 : decode cX12_goSwing 9 = .ok (.iconst 0, 1) := by decide +kernel
theorem dX12_goSwing_10 : decode cX12_goSwing 10 = .ok (.istore_n 2, 1) := by decide +kernel
theorem dX12_goSwing_11 : decode cX12_goSwing 11 = .ok (.iload_n 2, 1) := by decide +kernel
theorem dX12_goSwing_12 : decode cX12_goSwing 12 = .ok (.aload_n 0, 1) := by decide +kernel
theorem dX12_goSwing_13 : decode cX12_goSwing 13 = .ok (.invokevirtual 202, 3) := by decide +kernel
theorem dX12_goSwing_16 : decode cX12_goSwing 16 = .ok (.if_icmp .ge 56, 3) := by decide +kernel
theorem dX12_goSwing_19 : decode cX12_goSwing 19 = .ok (.aload_n 0, 1) := by decide +kernel
theorem dX12_goSwing_20 : decode cX12_goSwing 20 = .ok (.getfield 81, 3) := by decide +kernel
theorem dX12_goSwing_23 : decode cX12_goSwing 23 = .ok (.iload_n 2, 1) := by decide +kernel
theorem dX12_goSwing_24 : decode cX12_goSwing 24 = .ok (.aload_n 0, 1) := by decide +kernel
theorem dX12_goSwing_25 : decode cX12_goSwing 25 = .ok (.getfield 81, 3) := by decide +kernel
theorem dX12_goSwing_28 : decode cX12_goSwing 28 = .ok (.iload_n 2, 1) := by decide +kernel
theorem dX12_goSwing_29 : decode cX12_goSwing 29 = .ok (.baload, 1) := by decide +kernel
theorem dX12_goSwing_30 : decode cX12_goSwing 30 = .ok (.ifCond .ne 23, 3) := by decide +kernel
theorem dX12_goSwing_33 : decode cX12_goSwing 33 = .ok (.aload_n 0, 1) := by decide +kernel
theorem dX12_goSwing_34 : decode cX12_goSwing 34 = .ok (.getfield 75, 3) := by decide +kernel
theorem dX12_goSwing_37 : decode cX12_goSwing 37 = .ok (.iload_n 2, 1) := by decide +kernel
theorem dX12_goSwing_38 : decode cX12_goSwing 38 = .ok (.iaload, 1) := by decide +kernel
theorem dX12_goSwing_39 : decode cX12_goSwing 39 = .ok (.ifCond .le 18, 3) := by decide +kernel
theorem dX12_goSwing_42 : decode cX12_goSwing 42 = .ok (.aload_n 0, 1) := by decide +kernel
theorem dX12_goSwing_43 : decode cX12_goSwing 43 = .ok (.getfield 66, 3) := by decide +kernel
theorem dX12_goSwing_46 : decode cX12_goSwing 46 = .ok (.iload_n 2, 1) := by decide +kernel
theorem dX12_goSwing_47 : decode cX12_goSwing 47 = .ok (.iaload, 1) := by decide +kernel
theorem dX12_goSwing_48 : decode cX12_goSwing 48 = .ok (.bipush 100, 2) := by decide +kernel
theorem dX12_goSwing_50 : decode cX12_goSwing 50 = .ok (.if_icmp .lt 7, 3) := by decide +kernel
theorem dX12_goSwing_53 : decode cX12_goSwing 53 = .ok (.iconst 1, 1) := by decide +kernel
theorem dX12_goSwing_54 : decode cX12_goSwing 54 = .ok (.goto 4, 3) := by decide +kernel
theorem dX12_goSwing_57 : decode cX12_goSwing 57 = .ok (.iconst 0, 1) := by decide +kernel
theorem dX12_goSwing_58 : decode cX12_goSwing 58 = .ok (.bastore, 1) := by decide +kernel
theorem dX12_goSwing_59 : decode cX12_goSwing 59 = .ok (.aload_n 0, 1) := by decide +kernel
theorem dX12_goSwing_60 : decode cX12_goSwing 60 = .ok (.getfield 78, 3) := by decide +kernel
theorem dX12_goSwing_63 : decode cX12_goSwing 63 = .ok (.iload_n 2, 1) := by decide +kernel
theorem dX12_goSwing_64 : decode cX12_goSwing 64 = .ok (.iconst 0, 1) := by decide +kernel
theorem dX12_goSwing_65 : decode cX12_goSwing 65 = .ok (.iastore, 1) := by decide +kernel
theorem dX12_goSwing_66 : decode cX12_goSwing 66 = .ok (.iinc 2 1, 3) := by decide +kernel
theorem dX12_goSwing_69 : decode cX12_goSwing 69 = .ok (.goto (-58), 3) := by decide +kernel
theorem dX12_goSwing_72 : decode cX12_goSwing 72 = .ok (.iconst 0, 1) := by decide +kernel
theorem dX12_goSwing_73 : decode cX12_goSwing 73 = .ok (.istore_n 2, 1) := by decide +kernel
theorem dX12_goSwing_74 : decode cX12_goSwing 74 = .ok (.iload_n 2, 1) := by decide +kernel
theorem dX12_goSwing_75 : decode cX12_goSwing 75 = .ok (.aload_n 0, 1) := by decide +kernel
theorem dX12_goSwing_76 : decode cX12_goSwing 76 = .ok (.invokevirtual 202, 3) := by decide +kernel
theorem dX12_goSwing_79 : decode cX12_goSwing 79 = .ok (.if_icmp .ge 92, 3) := by decide +kernel
theorem dX12_goSwing_82 : decode cX12_goSwing 82 = .ok (.aload_n 0, 1) := by decide +kernel
theorem dX12_goSwing_83 : decode cX12_goSwing 83 = .ok (.iload_n 2, 1) := by decide +kernel
theorem dX12_goSwing_84 : decode cX12_goSwing 84 = .ok (.iload_n 1, 1) := by decide +kernel
theorem dX12_goSwing_85 : decode cX12_goSwing 85 = .ok (.invokevirtual 236, 3) := by decide +kernel
theorem dX12_goSwing_88 : decode cX12_goSwing 88 = .ok (.istore_n 3, 1) := by decide +kernel
theorem dX12_goSwing_89 : decode cX12_goSwing 89 = .ok (.aload_n 0, 1) := by decide +kernel
theorem dX12_goSwing_90 : decode cX12_goSwing 90 = .ok (.getfield 81, 3) := by decide +kernel
theorem dX12_goSwing_93 : decode cX12_goSwing 93 = .ok (.iload_n 2, 1) := by decide +kernel
theorem dX12_goSwing_94 : decode cX12_goSwing 94 = .ok (.baload, 1) := by decide +kernel
theorem dX12_goSwing_95 : decode cX12_goSwing 95 = .ok (.ifCond .ne 70, 3) := by decide +kernel
theorem dX12_goSwing_98 : decode cX12_goSwing 98 = .ok (.iload_n 3, 1) := by decide +kernel
theorem dX12_goSwing_99 : decode cX12_goSwing 99 = .ok (.iconst (-1), 1) := by decide +kernel
theorem dX12_goSwing_100 : decode cX12_goSwing 100 = .ok (.if_icmp .eq 65, 3) := by decide +kernel
theorem dX12_goSwing_103 : decode cX12_goSwing 103 = .ok (.aload_n 0, 1) := by decide +kernel
theorem dX12_goSwing_104 : decode cX12_goSwing 104 = .ok (.getfield 75, 3) := by decide +kernel
theorem dX12_goSwing_107 : decode cX12_goSwing 107 = .ok (.iload_n 2, 1) := by decide +kernel
theorem dX12_goSwing_108 : decode cX12_goSwing 108 = .ok (.iaload, 1) := by decide +kernel
theorem dX12_goSwing_109 : decode cX12_goSwing 109 = .ok (.iconst 1, 1) := by decide +kernel
theorem dX12_goSwing_110 : decode cX12_goSwing 110 = .ok (.if_icmp .le 55, 3) := by decide +kernel
theorem dX12_goSwing_113 : decode cX12_goSwing 113 = .ok (.aload_n 0, 1) := by decide +kernel
theorem dX12_goSwing_114 : decode cX12_goSwing 114 = .ok (.getfield 75, 3) := by decide +kernel
theorem dX12_goSwing_117 : decode cX12_goSwing 117 = .ok (.iload_n 2, 1) := by decide +kernel
theorem dX12_goSwing_118 : decode cX12_goSwing 118 = .ok (.iaload, 1) := by decide +kernel
theorem dX12_goSwing_119 : decode cX12_goSwing 119 = .ok (.iconst 2, 1) := by decide +kernel
theorem dX12_goSwing_120 : decode cX12_goSwing 120 = .ok (.idiv, 1) := by decide +kernel
theorem dX12_goSwing_121 : decode cX12_goSwing 121 = .ok (.istore 4, 2) := by decide +kernel
theorem dX12_goSwing_123 : decode cX12_goSwing 123 = .ok (.aload_n 0, 1) := by decide +kernel
theorem dX12_goSwing_124 : decode cX12_goSwing 124 = .ok (.getfield 78, 3) := by decide +kernel
theorem dX12_goSwing_127 : decode cX12_goSwing 127 = .ok (.iload_n 2, 1) := by decide +kernel
theorem dX12_goSwing_128 : decode cX12_goSwing 128 = .ok (.dup2, 1) := by decide +kernel
theorem dX12_goSwing_129 : decode cX12_goSwing 129 = .ok (.iaload, 1) := by decide +kernel
theorem dX12_goSwing_130 : decode cX12_goSwing 130 = .ok (.iload 4, 2) := by decide +kernel
theorem dX12_goSwing_132 : decode cX12_goSwing 132 = .ok (.isub, 1) := by decide +kernel
theorem dX12_goSwing_133 : decode cX12_goSwing 133 = .ok (.iastore, 1) := by decide +kernel
theorem dX12_goSwing_134 : decode cX12_goSwing 134 = .ok (.aload_n 0, 1) := by decide +kernel
theorem dX12_goSwing_135 : decode cX12_goSwing 135 = .ok (.getfield 78, 3) := by decide +kernel
theorem dX12_goSwing_138 : decode cX12_goSwing 138 = .ok (.iload_n 3, 1) := by decide +kernel
theorem dX12_goSwing_139 : decode cX12_goSwing 139 = .ok (.dup2, 1) := by decide +kernel
theorem dX12_goSwing_140 : decode cX12_goSwing 140 = .ok (.iaload, 1) := by decide +kernel
theorem dX12_goSwing_141 : decode cX12_goSwing 141 = .ok (.iload 4, 2) := by decide +kernel
theorem dX12_goSwing_143 : decode cX12_goSwing 143 = .ok (.iadd, 1) := by decide +kernel
theorem dX12_goSwing_144 : decode cX12_goSwing 144 = .ok (.iastore, 1) := by decide +kernel
theorem dX12_goSwing_145 : decode cX12_goSwing 145 = .ok (.aload_n 0, 1) := by decide +kernel
theorem dX12_goSwing_146 : decode cX12_goSwing 146 = .ok (.getfield 66, 3) := by decide +kernel
theorem dX12_goSwing_149 : decode cX12_goSwing 149 = .ok (.iload_n 3, 1) := by decide +kernel
theorem dX12_goSwing_150 : decode cX12_goSwing 150 = .ok (.aload_n 0, 1) := by decide +kernel
theorem dX12_goSwing_151 : decode cX12_goSwing 151 = .ok (.getfield 66, 3) := by decide +kernel
theorem dX12_goSwing_154 : decode cX12_goSwing 154 = .ok (.iload_n 3, 1) := by decide +kernel
theorem dX12_goSwing_155 : decode cX12_goSwing 155 = .ok (.iaload, 1) := by decide +kernel
theorem dX12_goSwing_156 : decode cX12_goSwing 156 = .ok (.iconst 2, 1) := by decide +kernel
theorem dX12_goSwing_157 : decode cX12_goSwing 157 = .ok (.iload 4, 2) := by decide +kernel
theorem dX12_goSwing_159 : decode cX12_goSwing 159 = .ok (.imul, 1) := by decide +kernel
theorem dX12_goSwing_160 : decode cX12_goSwing 160 = .ok (.isub, 1) := by decide +kernel
theorem dX12_goSwing_161 : decode cX12_goSwing 161 = .ok (.invokestatic 230, 3) := by decide +kernel
theorem dX12_goSwing_164 : decode cX12_goSwing 164 = .ok (.iastore, 1) := by decide +kernel
theorem dX12_goSwing_165 : decode cX12_goSwing 165 = .ok (.iinc 2 1, 3) := by decide +kernel
theorem dX12_goSwing_168 : decode cX12_goSwing 168 = .ok (.goto (-94), 3) := by decide +kernel
theorem dX12_goSwing_171 : decode cX12_goSwing 171 = .ok (.iconst 0, 1) := by decide +kernel
theorem dX12_goSwing_172 : decode cX12_goSwing 172 = .ok (.istore_n 2, 1) := by decide +kernel
theorem dX12_goSwing_173 : decode cX12_goSwing 173 = .ok (.iload_n 2, 1) := by decide +kernel
theorem dX12_goSwing_174 : decode cX12_goSwing 174 = .ok (.aload_n 0, 1) := by decide +kernel
theorem dX12_goSwing_175 : decode cX12_goSwing 175 = .ok (.invokevirtual 202, 3) := by decide +kernel
theorem dX12_goSwing_178 : decode cX12_goSwing 178 = .ok (.if_icmp .ge 24, 3) := by decide +kernel
theorem dX12_goSwing_181 : decode cX12_goSwing 181 = .ok (.aload_n 0, 1) := by decide +kernel
theorem dX12_goSwing_182 : decode cX12_goSwing 182 = .ok (.getfield 75, 3) := by decide +kernel
theorem dX12_goSwing_185 : decode cX12_goSwing 185 = .ok (.iload_n 2, 1) := by decide +kernel
theorem dX12_goSwing_186 : decode cX12_goSwing 186 = .ok (.dup2, 1) := by decide +kernel
theorem dX12_goSwing_187 : decode cX12_goSwing 187 = .ok (.iaload, 1) := by decide +kernel
theorem dX12_goSwing_188 : decode cX12_goSwing 188 = .ok (.aload_n 0, 1) := by decide +kernel
theorem dX12_goSwing_189 : decode cX12_goSwing 189 = .ok (.getfield 78, 3) := by decide +kernel
theorem dX12_goSwing_192 : decode cX12_goSwing 192 = .ok (.iload_n 2, 1) := by decide +kernel
theorem dX12_goSwing_193 : decode cX12_goSwing 193 = .ok (.iaload, 1) := by decide +kernel
theorem dX12_goSwing_194 : decode cX12_goSwing 194 = .ok (.iadd, 1) := by decide +kernel
theorem dX12_goSwing_195 : decode cX12_goSwing 195 = .ok (.iastore, 1) := by decide +kernel
theorem dX12_goSwing_196 : decode cX12_goSwing 196 = .ok (.iinc 2 1, 3) := by decide +kernel
theorem dX12_goSwing_199 : decode cX12_goSwing 199 = .ok (.goto (-26), 3) := by decide +kernel
theorem dX12_goSwing_202 : decode cX12_goSwing 202 = .ok (.return_, 1) := by decide +kernel
theorem dX12_takeOut_0 : decode cX12_takeOut 0 = .ok (.aload_n 0, 1) := by decide +kernel
theorem dX12_takeOut_1 : decode cX12_takeOut 1 = .ok (.iconst 0, 1) := by decide +kernel
theorem dX12_takeOut_2 : decode cX12_takeOut 2 = .ok (.putfield 239, 3) := by decide +kernel
theorem dX12_takeOut_5 : decode cX12_takeOut 5 = .ok (.iconst 0, 1) := by decide +kernel
theorem dX12_takeOut_6 : decode cX12_takeOut 6 = .ok (.istore_n 1, 1) := by decide +kernel
theorem dX12_takeOut_7 : decode cX12_takeOut 7 = .ok (.iload_n 1, 1) := by decide +kernel
theorem dX12_takeOut_8 : decode cX12_takeOut 8 = .ok (.aload_n 0, 1) := by decide +kernel
theorem dX12_takeOut_9 : decode cX12_takeOut 9 = .ok (.invokevirtual 202, 3) := by decide +kernel
theorem dX12_takeOut_12 : decode cX12_takeOut 12 = .ok (.if_icmp .ge 75, 3) := by decide +kernel
theorem dX12_takeOut_15 : decode cX12_takeOut 15 = .ok (.aload_n 0, 1) := by decide +kernel
theorem dX12_takeOut_16 : decode cX12_takeOut 16 = .ok (.getfield 75, 3) := by decide +kernel
theorem dX12_takeOut_19 : decode cX12_takeOut 19 = .ok (.iload_n 1, 1) := by decide +kernel
theorem dX12_takeOut_20 : decode cX12_takeOut 20 = .ok (.iaload, 1) := by decide +kernel
theorem dX12_takeOut_21 : decode cX12_takeOut 21 = .ok (.ifCond .le 60, 3) := by decide +kernel
theorem dX12_takeOut_24 : decode cX12_takeOut 24 = .ok (.aload_n 0, 1) := by decide +kernel
theorem dX12_takeOut_25 : decode cX12_takeOut 25 = .ok (.getfield 13, 3) := by decide +kernel
theorem dX12_takeOut_28 : decode cX12_takeOut 28 = .ok (.iload_n 1, 1) := by decide +kernel
theorem dX12_takeOut_29 : decode cX12_takeOut 29 = .ok (.baload, 1) := by decide +kernel
theorem dX12_takeOut_30 : decode cX12_takeOut 30 = .ok (.ifCond .eq 51, 3) := by decide +kernel
theorem dX12_takeOut_33 : decode cX12_takeOut 33 = .ok (.aload_n 0, 1) := by decide +kernel
theorem dX12_takeOut_34 : decode cX12_takeOut 34 = .ok (.getfield 212, 3) := by decide +kernel
theorem dX12_takeOut_37 : decode cX12_takeOut 37 = .ok (.aload_n 0, 1) := by decide +kernel
theorem dX12_takeOut_38 : decode cX12_takeOut 38 = .ok (.getfield 69, 3) := by decide +kernel
theorem dX12_takeOut_41 : decode cX12_takeOut 41 = .ok (.iload_n 1, 1) := by decide +kernel
theorem dX12_takeOut_42 : decode cX12_takeOut 42 = .ok (.iaload, 1) := by decide +kernel
theorem dX12_takeOut_43 : decode cX12_takeOut 43 = .ok (.if_icmp .gt 38, 3) := by decide +kernel
theorem dX12_takeOut_46 : decode cX12_takeOut 46 = .ok (.aload_n 0, 1) := by decide +kernel
theorem dX12_takeOut_47 : decode cX12_takeOut 47 = .ok (.dup, 1) := by decide +kernel
theorem dX12_takeOut_48 : decode cX12_takeOut 48 = .ok (.getfield 239, 3) := by decide +kernel
theorem dX12_takeOut_51 : decode cX12_takeOut 51 = .ok (.iconst 1, 1) := by decide +kernel
theorem dX12_takeOut_52 : decode cX12_takeOut 52 = .ok (.iadd, 1) := by decide +kernel
theorem dX12_takeOut_53 : decode cX12_takeOut 53 = .ok (.putfield 239, 3) := by decide +kernel
theorem dX12_takeOut_56 : decode cX12_takeOut 56 = .ok (.aload_n 0, 1) := by decide +kernel
theorem dX12_takeOut_57 : decode cX12_takeOut 57 = .ok (.getfield 69, 3) := by decide +kernel
theorem dX12_takeOut_60 : decode cX12_takeOut 60 = .ok (.iload_n 1, 1) := by decide +kernel
theorem dX12_takeOut_61 : decode cX12_takeOut 61 = .ok (.dup2, 1) := by decide +kernel
theorem dX12_takeOut_62 : decode cX12_takeOut 62 = .ok (.iaload, 1) := by decide +kernel
theorem dX12_takeOut_63 : decode cX12_takeOut 63 = .ok (.aload_n 0, 1) := by decide +kernel
theorem dX12_takeOut_64 : decode cX12_takeOut 64 = .ok (.getfield 69, 3) := by decide +kernel
theorem dX12_takeOut_67 : decode cX12_takeOut 67 = .ok (.iload_n 1, 1) := by decide +kernel
theorem dX12_takeOut_68 : decode cX12_takeOut 68 = .ok (.iaload, 1) := by decide +kernel
theorem dX12_takeOut_69 : decode cX12_takeOut 69 = .ok (.bipush 9, 2) := by decide +kernel
theorem dX12_takeOut_71 : decode cX12_takeOut 71 = .ok (.if_icmp .ge 7, 3) := by decide +kernel
theorem dX12_takeOut_74 : decode cX12_takeOut 74 = .ok (.iconst 1, 1) := by decide +kernel
theorem dX12_takeOut_75 : decode cX12_takeOut 75 = .ok (.goto 4, 3) := by decide +kernel
theorem dX12_takeOut_78 : decode cX12_takeOut 78 = .ok (.iconst 0, 1) := by decide +kernel
theorem dX12_takeOut_79 : decode cX12_takeOut 79 = .ok (.iadd, 1) := by decide +kernel
theorem dX12_takeOut_80 : decode cX12_takeOut 80 = .ok (.iastore, 1) := by decide +kernel
theorem dX12_takeOut_81 : decode cX12_takeOut 81 = .ok (.iinc 1 1, 3) := by decide +kernel
theorem dX12_takeOut_84 : decode cX12_takeOut 84 = .ok (.goto (-77), 3) := by decide +kernel
theorem dX12_takeOut_87 : decode cX12_takeOut 87 = .ok (.aload_n 0, 1) := by decide +kernel
theorem dX12_takeOut_88 : decode cX12_takeOut 88 = .ok (.aload_n 0, 1) := by decide +kernel
theorem dX12_takeOut_89 : decode cX12_takeOut 89 = .ok (.getfield 212, 3) := by decide +kernel
theorem dX12_takeOut_92 : decode cX12_takeOut 92 = .ok (.iconst 1, 1) := by decide +kernel
theorem dX12_takeOut_93 : decode cX12_takeOut 93 = .ok (.isub, 1) := by decide +kernel
theorem dX12_takeOut_94 : decode cX12_takeOut 94 = .ok (.invokestatic 230, 3) := by decide +kernel
theorem dX12_takeOut_97 : decode cX12_takeOut 97 = .ok (.putfield 212, 3) := by decide +kernel
theorem dX12_takeOut_100 : decode cX12_takeOut 100 = .ok (.return_, 1) := by decide +kernel
theorem dX12_judge_0 : decode cX12_judge 0 = .ok (.iconst 0, 1) := by decide +kernel
theorem dX12_judge_1 : decode cX12_judge 1 = .ok (.istore_n 1, 1) := by decide +kernel
theorem dX12_judge_2 : decode cX12_judge 2 = .ok (.iconst 0, 1) := by decide +kernel
theorem dX12_judge_3 : decode cX12_judge 3 = .ok (.istore_n 2, 1) := by decide +kernel
theorem dX12_judge_4 : decode cX12_judge 4 = .ok (.ldc 242, 2) := by decide +kernel
theorem dX12_judge_6 : decode cX12_judge 6 = .ok (.istore_n 3, 1) := by decide +kernel
theorem dX12_judge_7 : decode cX12_judge 7 = .ok (.iconst 0, 1) := by decide +kernel
theorem dX12_judge_8 : decode cX12_judge 8 = .ok (.istore 4, 2) := by decide +kernel
theorem dX12_judge_10 : decode cX12_judge 10 = .ok (.aload_n 0, 1) := by decide +kernel
theorem dX12_judge_11 : decode cX12_judge 11 = .ok (.iconst 0, 1) := by decide +kernel
theorem dX12_judge_12 : decode cX12_judge 12 = .ok (.putfield 243, 3) := by decide +kernel
theorem dX12_judge_15 : decode cX12_judge 15 = .ok (.iconst 0, 1) := by decide +kernel
theorem dX12_judge_16 : decode cX12_judge 16 = .ok (.istore 5, 2) := by decide +kernel
theorem dX12_judge_18 : decode cX12_judge 18 = .ok (.iload 5, 2) := by decide +kernel
theorem dX12_judge_20 : decode cX12_judge 20 = .ok (.aload_n 0, 1) := by decide +kernel
theorem dX12_judge_21 : decode cX12_judge 21 = .ok (.invokevirtual 202, 3) := by decide +kernel
theorem dX12_judge_24 : decode cX12_judge 24 = .ok (.if_icmp .ge 104, 3) := by decide +kernel
theorem dX12_judge_27 : decode cX12_judge 27 = .ok (.aload_n 0, 1) := by decide +kernel
theorem dX12_judge_28 : decode cX12_judge 28 = .ok (.getfield 75, 3) := by decide +kernel
theorem dX12_judge_31 : decode cX12_judge 31 = .ok (.iload 5, 2) := by decide +kernel
theorem dX12_judge_33 : decode cX12_judge 33 = .ok (.iaload, 1) := by decide +kernel
theorem dX12_judge_34 : decode cX12_judge 34 = .ok (.ifCond .le 88, 3) := by decide +kernel
theorem dX12_judge_37 : decode cX12_judge 37 = .ok (.aload_n 0, 1) := by decide +kernel
theorem dX12_judge_38 : decode cX12_judge 38 = .ok (.dup, 1) := by decide +kernel
theorem dX12_judge_39 : decode cX12_judge 39 = .ok (.getfield 243, 3) := by decide +kernel
theorem dX12_judge_42 : decode cX12_judge 42 = .ok (.iconst 1, 1) := by decide +kernel
theorem dX12_judge_43 : decode cX12_judge 43 = .ok (.iadd, 1) := by decide +kernel
theorem dX12_judge_44 : decode cX12_judge 44 = .ok (.putfield 243, 3) := by decide +kernel
theorem dX12_judge_47 : decode cX12_judge 47 = .ok (.iload_n 1, 1) := by decide +kernel
theorem dX12_judge_48 : decode cX12_judge 48 = .ok (.aload_n 0, 1) := by decide +kernel
theorem dX12_judge_49 : decode cX12_judge 49 = .ok (.getfield 84, 3) := by decide +kernel
theorem dX12_judge_52 : decode cX12_judge 52 = .ok (.iconst 2, 1) := by decide +kernel
theorem dX12_judge_53 : decode cX12_judge 53 = .ok (.iload 5, 2) := by decide +kernel
theorem dX12_judge_55 : decode cX12_judge 55 = .ok (.imul, 1) := by decide +kernel
theorem dX12_judge_56 : decode cX12_judge 56 = .ok (.iaload, 1) := by decide +kernel
theorem dX12_judge_57 : decode cX12_judge 57 = .ok (.iadd, 1) := by decide +kernel
theorem dX12_judge_58 : decode cX12_judge 58 = .ok (.istore_n 1, 1) := by decide +kernel
theorem dX12_judge_59 : decode cX12_judge 59 = .ok (.iload_n 2, 1) := by decide +kernel
theorem dX12_judge_60 : decode cX12_judge 60 = .ok (.aload_n 0, 1) := by decide +kernel
theorem dX12_judge_61 : decode cX12_judge 61 = .ok (.getfield 84, 3) := by decide +kernel
theorem dX12_judge_64 : decode cX12_judge 64 = .ok (.iconst 2, 1) := by decide +kernel
theorem dX12_judge_65 : decode cX12_judge 65 = .ok (.iload 5, 2) := by decide +kernel
theorem dX12_judge_67 : decode cX12_judge 67 = .ok (.imul, 1) := by decide +kernel
theorem dX12_judge_68 : decode cX12_judge 68 = .ok (.iconst 1, 1) := by decide +kernel
theorem dX12_judge_69 : decode cX12_judge 69 = .ok (.iadd, 1) := by decide +kernel
theorem dX12_judge_70 : decode cX12_judge 70 = .ok (.iaload, 1) := by decide +kernel
theorem dX12_judge_71 : decode cX12_judge 71 = .ok (.iadd, 1) := by decide +kernel
theorem dX12_judge_72 : decode cX12_judge 72 = .ok (.istore_n 2, 1) := by decide +kernel
theorem dX12_judge_73 : decode cX12_judge 73 = .ok (.aload_n 0, 1) := by decide +kernel
theorem dX12_judge_74 : decode cX12_judge 74 = .ok (.getfield 75, 3) := by decide +kernel
theorem dX12_judge_77 : decode cX12_judge 77 = .ok (.iload 5, 2) := by decide +kernel
theorem dX12_judge_79 : decode cX12_judge 79 = .ok (.iaload, 1) := by decide +kernel
theorem dX12_judge_80 : decode cX12_judge 80 = .ok (.iload_n 3, 1) := by decide +kernel
theorem dX12_judge_81 : decode cX12_judge 81 = .ok (.if_icmp .ge 13, 3) := by decide +kernel
theorem dX12_judge_84 : decode cX12_judge 84 = .ok (.aload_n 0, 1) := by decide +kernel
theorem dX12_judge_85 : decode cX12_judge 85 = .ok (.getfield 75, 3) := by decide +kernel
theorem dX12_judge_88 : decode cX12_judge 88 = .ok (.iload 5, 2) := by decide +kernel
theorem dX12_judge_90 : decode cX12_judge 90 = .ok (.iaload, 1) := by decide +kernel
theorem dX12_judge_91 : decode cX12_judge 91 = .ok (.goto 4, 3) := by decide +kernel
theorem dX12_judge_94 : decode cX12_judge 94 = .ok (.iload_n 3, 1) := by decide +kernel
theorem dX12_judge_95 : decode cX12_judge 95 = .ok (.istore_n 3, 1) := by decide +kernel
theorem dX12_judge_96 : decode cX12_judge 96 = .ok (.aload_n 0, 1) := by decide +kernel
theorem dX12_judge_97 : decode cX12_judge 97 = .ok (.getfield 75, 3) := by decide +kernel
theorem dX12_judge_100 : decode cX12_judge 100 = .ok (.iload 5, 2) := by decide +kernel
theorem dX12_judge_102 : decode cX12_judge 102 = .ok (.iaload, 1) := by decide +kernel
theorem dX12_judge_103 : decode cX12_judge 103 = .ok (.iload 4, 2) := by decide +kernel
theorem dX12_judge_105 : decode cX12_judge 105 = .ok (.if_icmp .le 13, 3) := by decide +kernel
theorem dX12_judge_108 : decode cX12_judge 108 = .ok (.aload_n 0, 1) := by decide +kernel
theorem dX12_judge_109 : decode cX12_judge 109 = .ok (.getfield 75, 3) := by decide +kernel
theorem dX12_judge_112 : decode cX12_judge 112 = .ok (.iload 5, 2) := by decide +kernel
theorem dX12_judge_114 : decode cX12_judge 114 = .ok (.iaload, 1) := by decide +kernel
theorem dX12_judge_115 : decode cX12_judge 115 = .ok (.goto 5, 3) := by decide +kernel
theorem dX12_judge_118 : decode cX12_judge 118 = .ok (.iload 4, 2) := by decide +kernel
theorem dX12_judge_120 : decode cX12_judge 120 = .ok (.istore 4, 2) := by decide +kernel
theorem dX12_judge_122 : decode cX12_judge 122 = .ok (.iinc 5 1, 3) := by decide +kernel
theorem dX12_judge_125 : decode cX12_judge 125 = .ok (.goto (-107), 3) := by decide +kernel
theorem dX12_judge_128 : decode cX12_judge 128 = .ok (.aload_n 0, 1) := by decide +kernel
theorem dX12_judge_129 : decode cX12_judge 129 = .ok (.iload_n 1, 1) := by decide +kernel
theorem dX12_judge_130 : decode cX12_judge 130 = .ok (.aload_n 0, 1) := by decide +kernel
theorem dX12_judge_131 : decode cX12_judge 131 = .ok (.getfield 243, 3) := by decide +kernel
theorem dX12_judge_134 : decode cX12_judge 134 = .ok (.idiv, 1) := by decide +kernel
theorem dX12_judge_135 : decode cX12_judge 135 = .ok (.putfield 246, 3) := by decide +kernel
theorem dX12_judge_138 : decode cX12_judge 138 = .ok (.aload_n 0, 1) := by decide +kernel
theorem dX12_judge_139 : decode cX12_judge 139 = .ok (.iload_n 2, 1) := by decide +kernel
theorem dX12_judge_140 : decode cX12_judge 140 = .ok (.aload_n 0, 1) := by decide +kernel
theorem dX12_judge_141 : decode cX12_judge 141 = .ok (.getfield 243, 3) := by decide +kernel
theorem dX12_judge_144 : decode cX12_judge 144 = .ok (.idiv, 1) := by decide +kernel
theorem dX12_judge_145 : decode cX12_judge 145 = .ok (.putfield 249, 3) := by decide +kernel
theorem dX12_judge_148 : decode cX12_judge 148 = .ok (.aload_n 0, 1) := by decide +kernel
theorem dX12_judge_149 : decode cX12_judge 149 = .ok (.iload 4, 2) := by decide +kernel
theorem dX12_judge_151 : decode cX12_judge 151 = .ok (.iload_n 3, 1) := by decide +kernel
theorem dX12_judge_152 : decode cX12_judge 152 = .ok (.isub, 1) := by decide +kernel
theorem dX12_judge_153 : decode cX12_judge 153 = .ok (.putfield 252, 3) := by decide +kernel
theorem dX12_judge_156 : decode cX12_judge 156 = .ok (.aload_n 0, 1) := by decide +kernel
theorem dX12_judge_157 : decode cX12_judge 157 = .ok (.getfield 246, 3) := by decide +kernel
theorem dX12_judge_160 : decode cX12_judge 160 = .ok (.bipush 20, 2) := by decide +kernel
theorem dX12_judge_162 : decode cX12_judge 162 = .ok (.if_icmp .ge 7, 3) := by decide +kernel
theorem dX12_judge_165 : decode cX12_judge 165 = .ok (.iconst 1, 1) := by decide +kernel
theorem dX12_judge_166 : decode cX12_judge 166 = .ok (.goto 30, 3) := by decide +kernel
theorem dX12_judge_169 : decode cX12_judge 169 = .ok (.aload_n 0, 1) := by decide +kernel
theorem dX12_judge_170 : decode cX12_judge 170 = .ok (.getfield 246, 3) := by decide +kernel
theorem dX12_judge_173 : decode cX12_judge 173 = .ok (.bipush 100, 2) := by decide +kernel
theorem dX12_judge_175 : decode cX12_judge 175 = .ok (.if_icmp .le 7, 3) := by decide +kernel
theorem dX12_judge_178 : decode cX12_judge 178 = .ok (.iconst 3, 1) := by decide +kernel
theorem dX12_judge_179 : decode cX12_judge 179 = .ok (.goto 17, 3) := by decide +kernel
theorem dX12_judge_182 : decode cX12_judge 182 = .ok (.aload_n 0, 1) := by decide +kernel
theorem dX12_judge_183 : decode cX12_judge 183 = .ok (.getfield 246, 3) := by decide +kernel
theorem dX12_judge_186 : decode cX12_judge 186 = .ok (.bipush 60, 2) := by decide +kernel
theorem dX12_judge_188 : decode cX12_judge 188 = .ok (.if_icmp .le 7, 3) := by decide +kernel
theorem dX12_judge_191 : decode cX12_judge 191 = .ok (.iconst 2, 1) := by decide +kernel
theorem dX12_judge_192 : decode cX12_judge 192 = .ok (.goto 4, 3) := by decide +kernel
theorem dX12_judge_195 : decode cX12_judge 195 = .ok (.iconst 0, 1) := by decide +kernel
theorem dX12_judge_196 : decode cX12_judge 196 = .ok (.istore 5, 2) := by decide +kernel
theorem dX12_judge_198 : decode cX12_judge 198 = .ok (.aload_n 0, 1) := by decide +kernel
theorem dX12_judge_199 : decode cX12_judge 199 = .ok (.aload_n 0, 1) := by decide +kernel
theorem dX12_judge_200 : decode cX12_judge 200 = .ok (.getfield 239, 3) := by decide +kernel
theorem dX12_judge_203 : decode cX12_judge 203 = .ok (.ifCond .le 7, 3) := by decide +kernel
theorem dX12_judge_206 : decode cX12_judge 206 = .ok (.iconst 5, 1) := by decide +kernel
theorem dX12_judge_207 : decode cX12_judge 207 = .ok (.goto 18, 3) := by decide +kernel
theorem dX12_judge_210 : decode cX12_judge 210 = .ok (.aload_n 0, 1) := by decide +kernel
theorem dX12_judge_211 : decode cX12_judge 211 = .ok (.getfield 252, 3) := by decide +kernel
theorem dX12_judge_214 : decode cX12_judge 214 = .ok (.bipush 9, 2) := by decide +kernel
theorem dX12_judge_216 : decode cX12_judge 216 = .ok (.if_icmp .le 7, 3) := by decide +kernel
theorem dX12_judge_219 : decode cX12_judge 219 = .ok (.iconst 4, 1) := by decide +kernel
theorem dX12_judge_220 : decode cX12_judge 220 = .ok (.goto 5, 3) := by decide +kernel
theorem dX12_judge_223 : decode cX12_judge 223 = .ok (.iload 5, 2) := by decide +kernel
theorem dX12_judge_225 : decode cX12_judge 225 = .ok (.putfield 255, 3) := by decide +kernel
theorem dX12_judge_228 : decode cX12_judge 228 = .ok (.aload_n 0, 1) := by decide +kernel
theorem dX12_judge_229 : decode cX12_judge 229 = .ok (.aload_n 0, 1) := by decide +kernel
theorem dX12_judge_230 : decode cX12_judge 230 = .ok (.getfield 255, 3) := by decide +kernel
theorem dX12_judge_233 : decode cX12_judge 233 = .ok (.invokestatic 258, 3) := by decide +kernel
theorem dX12_judge_236 : decode cX12_judge 236 = .ok (.putfield 261, 3) := by decide +kernel
theorem dX12_judge_239 : decode cX12_judge 239 = .ok (.return_, 1) := by decide +kernel
theorem dX12_worthOf_0 : decode cX12_worthOf 0 = .ok (.iload_n 0, 1) := by decide +kernel
theorem dX12_worthOf_1 : decode cX12_worthOf 1 = .ok (.tableswitch 46 1 5 #[35, 37, 40, 42, 44], 35) := by decide +kernel
theorem dX12_worthOf_36 : decode cX12_worthOf 36 = .ok (.iconst 4, 1) := by decide +kernel
theorem dX12_worthOf_37 : decode cX12_worthOf 37 = .ok (.ireturn, 1) := by decide +kernel
theorem dX12_worthOf_38 : decode cX12_worthOf 38 = .ok (.bipush 6, 2) := by decide +kernel
theorem dX12_worthOf_40 : decode cX12_worthOf 40 = .ok (.ireturn, 1) := by decide +kernel
theorem dX12_worthOf_41 : decode cX12_worthOf 41 = .ok (.iconst 1, 1) := by decide +kernel
theorem dX12_worthOf_42 : decode cX12_worthOf 42 = .ok (.ireturn, 1) := by decide +kernel
theorem dX12_worthOf_43 : decode cX12_worthOf 43 = .ok (.iconst 5, 1) := by decide +kernel
theorem dX12_worthOf_44 : decode cX12_worthOf 44 = .ok (.ireturn, 1) := by decide +kernel
theorem dX12_worthOf_45 : decode cX12_worthOf 45 = .ok (.iconst 2, 1) := by decide +kernel
theorem dX12_worthOf_46 : decode cX12_worthOf 46 = .ok (.ireturn, 1) := by decide +kernel
theorem dX12_worthOf_47 : decode cX12_worthOf 47 = .ok (.bipush 10, 2) := by decide +kernel
theorem dX12_worthOf_49 : decode cX12_worthOf 49 = .ok (.ireturn, 1) := by decide +kernel
theorem dX12_goCake_0 : decode cX12_goCake 0 = .ok (.iconst 0, 1) := by decide +kernel
theorem dX12_goCake_1 : decode cX12_goCake 1 = .ok (.istore_n 1, 1) := by decide +kernel
theorem dX12_goCake_2 : decode cX12_goCake 2 = .ok (.iload_n 1, 1) := by decide +kernel
theorem dX12_goCake_3 : decode cX12_goCake 3 = .ok (.bipush 16, 2) := by decide +kernel
theorem dX12_goCake_5 : decode cX12_goCake 5 = .ok (.if_icmp .ge 43, 3) := by decide +kernel
theorem dX12_goCake_8 : decode cX12_goCake 8 = .ok (.aload_n 0, 1) := by decide +kernel
theorem dX12_goCake_9 : decode cX12_goCake 9 = .ok (.getfield 75, 3) := by decide +kernel
theorem dX12_goCake_12 : decode cX12_goCake 12 = .ok (.iload_n 1, 1) := by decide +kernel
theorem dX12_goCake_13 : decode cX12_goCake 13 = .ok (.iconst 0, 1) := by decide +kernel
theorem dX12_goCake_14 : decode cX12_goCake 14 = .ok (.iastore, 1) := by decide +kernel
theorem dX12_goCake_15 : decode cX12_goCake 15 = .ok (.aload_n 0, 1) := by decide +kernel
theorem dX12_goCake_16 : decode cX12_goCake 16 = .ok (.getfield 81, 3) := by decide +kernel
theorem dX12_goCake_19 : decode cX12_goCake 19 = .ok (.iload_n 1, 1) := by decide +kernel
theorem dX12_goCake_20 : decode cX12_goCake 20 = .ok (.iconst 0, 1) := by decide +kernel
theorem dX12_goCake_21 : decode cX12_goCake 21 = .ok (.bastore, 1) := by decide +kernel
theorem dX12_goCake_22 : decode cX12_goCake 22 = .ok (.aload_n 0, 1) := by decide +kernel
theorem dX12_goCake_23 : decode cX12_goCake 23 = .ok (.getfield 84, 3) := by decide +kernel
theorem dX12_goCake_26 : decode cX12_goCake 26 = .ok (.iconst 2, 1) := by decide +kernel
theorem dX12_goCake_27 : decode cX12_goCake 27 = .ok (.iload_n 1, 1) := by decide +kernel
theorem dX12_goCake_28 : decode cX12_goCake 28 = .ok (.imul, 1) := by decide +kernel
theorem dX12_goCake_29 : decode cX12_goCake 29 = .ok (.iconst 0, 1) := by decide +kernel
theorem dX12_goCake_30 : decode cX12_goCake 30 = .ok (.iastore, 1) := by decide +kernel
theorem dX12_goCake_31 : decode cX12_goCake 31 = .ok (.aload_n 0, 1) := by decide +kernel
theorem dX12_goCake_32 : decode cX12_goCake 32 = .ok (.getfield 84, 3) := by decide +kernel
theorem dX12_goCake_35 : decode cX12_goCake 35 = .ok (.iconst 2, 1) := by decide +kernel
theorem dX12_goCake_36 : decode cX12_goCake 36 = .ok (.iload_n 1, 1) := by decide +kernel
theorem dX12_goCake_37 : decode cX12_goCake 37 = .ok (.imul, 1) := by decide +kernel
theorem dX12_goCake_38 : decode cX12_goCake 38 = .ok (.iconst 1, 1) := by decide +kernel
theorem dX12_goCake_39 : decode cX12_goCake 39 = .ok (.iadd, 1) := by decide +kernel
theorem dX12_goCake_40 : decode cX12_goCake 40 = .ok (.iconst 0, 1) := by decide +kernel
theorem dX12_goCake_41 : decode cX12_goCake 41 = .ok (.iastore, 1) := by decide +kernel
theorem dX12_goCake_42 : decode cX12_goCake 42 = .ok (.iinc 1 1, 3) := by decide +kernel
theorem dX12_goCake_45 : decode cX12_goCake 45 = .ok (.goto (-43), 3) := by decide +kernel
theorem dX12_goCake_48 : decode cX12_goCake 48 = .ok (.aload_n 0, 1) := by decide +kernel
theorem dX12_goCake_49 : decode cX12_goCake 49 = .ok (.getfield 178, 3) := by decide +kernel
theorem dX12_goCake_52 : decode cX12_goCake 52 = .ok (.iconst 2, 1) := by decide +kernel
theorem dX12_goCake_53 : decode cX12_goCake 53 = .ok (.idiv, 1) := by decide +kernel
theorem dX12_goCake_54 : decode cX12_goCake 54 = .ok (.aload_n 0, 1) := by decide +kernel
theorem dX12_goCake_55 : decode cX12_goCake 55 = .ok (.getfield 181, 3) := by decide +kernel
theorem dX12_goCake_58 : decode cX12_goCake 58 = .ok (.imul, 1) := by decide +kernel
theorem dX12_goCake_59 : decode cX12_goCake 59 = .ok (.aload_n 0, 1) := by decide +kernel
theorem dX12_goCake_60 : decode cX12_goCake 60 = .ok (.getfield 181, 3) := by decide +kernel
theorem dX12_goCake_63 : decode cX12_goCake 63 = .ok (.iconst 2, 1) := by decide +kernel
theorem dX12_goCake_64 : decode cX12_goCake 64 = .ok (.idiv, 1) := by decide +kernel
theorem dX12_goCake_65 : decode cX12_goCake 65 = .ok (.iadd, 1) := by decide +kernel
theorem dX12_goCake_66 : decode cX12_goCake 66 = .ok (.istore_n 1, 1) := by decide +kernel
theorem dX12_goCake_67 : decode cX12_goCake 67 = .ok (.aload_n 0, 1) := by decide +kernel
theorem dX12_goCake_68 : decode cX12_goCake 68 = .ok (.getfield 75, 3) := by decide +kernel
theorem dX12_goCake_71 : decode cX12_goCake 71 = .ok (.iload_n 1, 1) := by decide +kernel
theorem dX12_goCake_72 : decode cX12_goCake 72 = .ok (.aload_n 0, 1) := by decide +kernel
theorem dX12_goCake_73 : decode cX12_goCake 73 = .ok (.getfield 218, 3) := by decide +kernel
theorem dX12_goCake_76 : decode cX12_goCake 76 = .ok (.iastore, 1) := by decide +kernel
theorem dX12_goCake_77 : decode cX12_goCake 77 = .ok (.aload_n 0, 1) := by decide +kernel
theorem dX12_goCake_78 : decode cX12_goCake 78 = .ok (.getfield 66, 3) := by decide +kernel
theorem dX12_goCake_81 : decode cX12_goCake 81 = .ok (.iload_n 1, 1) := by decide +kernel
theorem dX12_goCake_82 : decode cX12_goCake 82 = .ok (.aload_n 0, 1) := by decide +kernel
theorem dX12_goCake_83 : decode cX12_goCake 83 = .ok (.getfield 66, 3) := by decide +kernel
theorem dX12_goCake_86 : decode cX12_goCake 86 = .ok (.iload_n 1, 1) := by decide +kernel
theorem dX12_goCake_87 : decode cX12_goCake 87 = .ok (.iaload, 1) := by decide +kernel
theorem dX12_goCake_88 : decode cX12_goCake 88 = .ok (.iconst 2, 1) := by decide +kernel
theorem dX12_goCake_89 : decode cX12_goCake 89 = .ok (.aload_n 0, 1) := by decide +kernel
theorem dX12_goCake_90 : decode cX12_goCake 90 = .ok (.getfield 218, 3) := by decide +kernel
theorem dX12_goCake_93 : decode cX12_goCake 93 = .ok (.imul, 1) := by decide +kernel
theorem dX12_goCake_94 : decode cX12_goCake 94 = .ok (.isub, 1) := by decide +kernel
theorem dX12_goCake_95 : decode cX12_goCake 95 = .ok (.invokestatic 230, 3) := by decide +kernel
theorem dX12_goCake_98 : decode cX12_goCake 98 = .ok (.iastore, 1) := by decide +kernel
theorem dX12_goCake_99 : decode cX12_goCake 99 = .ok (.iconst 0, 1) := by decide +kernel
theorem dX12_goCake_100 : decode cX12_goCake 100 = .ok (.istore_n 2, 1) := by decide +kernel
theorem dX12_goCake_101 : decode cX12_goCake 101 = .ok (.iload_n 2, 1) := by decide +kernel
theorem dX12_goCake_102 : decode cX12_goCake 102 = .ok (.aload_n 0, 1) := by decide +kernel
theorem dX12_goCake_103 : decode cX12_goCake 103 = .ok (.getfield 227, 3) := by decide +kernel
theorem dX12_goCake_106 : decode cX12_goCake 106 = .ok (.if_icmp .ge 19, 3) := by decide +kernel
theorem dX12_goCake_109 : decode cX12_goCake 109 = .ok (.aload_n 0, 1) := by decide +kernel
theorem dX12_goCake_110 : decode cX12_goCake 110 = .ok (.aload_n 0, 1) := by decide +kernel
theorem dX12_goCake_111 : decode cX12_goCake 111 = .ok (.getfield 72, 3) := by decide +kernel
theorem dX12_goCake_114 : decode cX12_goCake 114 = .ok (.iload_n 2, 1) := by decide +kernel
theorem dX12_goCake_115 : decode cX12_goCake 115 = .ok (.iaload, 1) := by decide +kernel
theorem dX12_goCake_116 : decode cX12_goCake 116 = .ok (.invokevirtual 264, 3) := by decide +kernel
theorem dX12_goCake_119 : decode cX12_goCake 119 = .ok (.iinc 2 1, 3) := by decide +kernel
theorem dX12_goCake_122 : decode cX12_goCake 122 = .ok (.goto (-21), 3) := by decide +kernel
theorem dX12_goCake_125 : decode cX12_goCake 125 = .ok (.iconst 0, 1) := by decide +kernel
theorem dX12_goCake_126 : decode cX12_goCake 126 = .ok (.istore_n 2, 1) := by decide +kernel
theorem dX12_goCake_127 : decode cX12_goCake 127 = .ok (.iload_n 2, 1) := by decide +kernel
theorem dX12_goCake_128 : decode cX12_goCake 128 = .ok (.aload_n 0, 1) := by decide +kernel
theorem dX12_goCake_129 : decode cX12_goCake 129 = .ok (.getfield 221, 3) := by decide +kernel
theorem dX12_goCake_132 : decode cX12_goCake 132 = .ok (.if_icmp .ge 18, 3) := by decide +kernel
theorem dX12_goCake_135 : decode cX12_goCake 135 = .ok (.aload_n 0, 1) := by decide +kernel
theorem dX12_goCake_136 : decode cX12_goCake 136 = .ok (.aload_n 0, 1) := by decide +kernel
theorem dX12_goCake_137 : decode cX12_goCake 137 = .ok (.getfield 215, 3) := by decide +kernel
theorem dX12_goCake_140 : decode cX12_goCake 140 = .ok (.iconst 0, 1) := by decide +kernel
theorem dX12_goCake_141 : decode cX12_goCake 141 = .ok (.invokevirtual 233, 3) := by decide +kernel
theorem dX12_goCake_144 : decode cX12_goCake 144 = .ok (.iinc 2 1, 3) := by decide +kernel
theorem dX12_goCake_147 : decode cX12_goCake 147 = .ok (.goto (-20), 3) := by decide +kernel
theorem dX12_goCake_150 : decode cX12_goCake 150 = .ok (.iconst 0, 1) := by decide +kernel
theorem dX12_goCake_151 : decode cX12_goCake 151 = .ok (.istore_n 2, 1) := by decide +kernel
theorem dX12_goCake_152 : decode cX12_goCake 152 = .ok (.iload_n 2, 1) := by decide +kernel
theorem dX12_goCake_153 : decode cX12_goCake 153 = .ok (.aload_n 0, 1) := by decide +kernel
theorem dX12_goCake_154 : decode cX12_goCake 154 = .ok (.getfield 224, 3) := by decide +kernel
theorem dX12_goCake_157 : decode cX12_goCake 157 = .ok (.if_icmp .ge 18, 3) := by decide +kernel
theorem dX12_goCake_160 : decode cX12_goCake 160 = .ok (.aload_n 0, 1) := by decide +kernel
theorem dX12_goCake_161 : decode cX12_goCake 161 = .ok (.aload_n 0, 1) := by decide +kernel
theorem dX12_goCake_162 : decode cX12_goCake 162 = .ok (.getfield 215, 3) := by decide +kernel
theorem dX12_goCake_165 : decode cX12_goCake 165 = .ok (.iconst 1, 1) := by decide +kernel
theorem dX12_goCake_166 : decode cX12_goCake 166 = .ok (.invokevirtual 233, 3) := by decide +kernel
theorem dX12_goCake_169 : decode cX12_goCake 169 = .ok (.iinc 2 1, 3) := by decide +kernel
theorem dX12_goCake_172 : decode cX12_goCake 172 = .ok (.goto (-20), 3) := by decide +kernel
theorem dX12_goCake_175 : decode cX12_goCake 175 = .ok (.aload_n 0, 1) := by decide +kernel
theorem dX12_goCake_176 : decode cX12_goCake 176 = .ok (.invokevirtual 268, 3) := by decide +kernel
theorem dX12_goCake_179 : decode cX12_goCake 179 = .ok (.aload_n 0, 1) := by decide +kernel
theorem dX12_goCake_180 : decode cX12_goCake 180 = .ok (.invokevirtual 271, 3) := by decide +kernel
theorem dX12_goCake_183 : decode cX12_goCake 183 = .ok (.return_, 1) := by decide +kernel
theorem dX12_putPan_0 : decode cX12_putPan 0 = .ok (.iconst 0, 1) := by decide +kernel
theorem dX12_putPan_1 : decode cX12_putPan 1 = .ok (.istore_n 1, 1) := by decide +kernel
theorem dX12_putPan_2 : decode cX12_putPan 2 = .ok (.iload_n 1, 1) := by decide +kernel
theorem dX12_putPan_3 : decode cX12_putPan 3 = .ok (.bipush 16, 2) := by decide +kernel
theorem dX12_putPan_5 : decode cX12_putPan 5 = .ok (.if_icmp .ge 33, 3) := by decide +kernel
theorem dX12_putPan_8 : decode cX12_putPan 8 = .ok (.aload_n 0, 1) := by decide +kernel
theorem dX12_putPan_9 : decode cX12_putPan 9 = .ok (.getfield 17, 3) := by decide +kernel
theorem dX12_putPan_12 : decode cX12_putPan 12 = .ok (.iload_n 1, 1) := by decide +kernel
theorem dX12_putPan_13 : decode cX12_putPan 13 = .ok (.aload_n 0, 1) := by decide +kernel
theorem dX12_putPan_14 : decode cX12_putPan 14 = .ok (.getfield 66, 3) := by decide +kernel
theorem dX12_putPan_17 : decode cX12_putPan 17 = .ok (.iload_n 1, 1) := by decide +kernel
theorem dX12_putPan_18 : decode cX12_putPan 18 = .ok (.iaload, 1) := by decide +kernel
theorem dX12_putPan_19 : decode cX12_putPan 19 = .ok (.iastore, 1) := by decide +kernel
theorem dX12_putPan_20 : decode cX12_putPan 20 = .ok (.aload_n 0, 1) := by decide +kernel
theorem dX12_putPan_21 : decode cX12_putPan 21 = .ok (.getfield 20, 3) := by decide +kernel
theorem dX12_putPan_24 : decode cX12_putPan 24 = .ok (.iload_n 1, 1) := by decide +kernel
theorem dX12_putPan_25 : decode cX12_putPan 25 = .ok (.aload_n 0, 1) := by decide +kernel
theorem dX12_putPan_26 : decode cX12_putPan 26 = .ok (.getfield 69, 3) := by decide +kernel
theorem dX12_putPan_29 : decode cX12_putPan 29 = .ok (.iload_n 1, 1) := by decide +kernel
theorem dX12_putPan_30 : decode cX12_putPan 30 = .ok (.iaload, 1) := by decide +kernel
theorem dX12_putPan_31 : decode cX12_putPan 31 = .ok (.iastore, 1) := by decide +kernel
theorem dX12_putPan_32 : decode cX12_putPan 32 = .ok (.iinc 1 1, 3) := by decide +kernel
theorem dX12_putPan_35 : decode cX12_putPan 35 = .ok (.goto (-33), 3) := by decide +kernel
theorem dX12_putPan_38 : decode cX12_putPan 38 = .ok (.aload_n 0, 1) := by decide +kernel
theorem dX12_putPan_39 : decode cX12_putPan 39 = .ok (.aload_n 0, 1) := by decide +kernel
theorem dX12_putPan_40 : decode cX12_putPan 40 = .ok (.getfield 212, 3) := by decide +kernel
theorem dX12_putPan_43 : decode cX12_putPan 43 = .ok (.putfield 184, 3) := by decide +kernel
theorem dX12_putPan_46 : decode cX12_putPan 46 = .ok (.return_, 1) := by decide +kernel
theorem dX12_warm_0 : decode cX12_warm 0 = .ok (.aload_n 0, 1) := by decide +kernel
theorem dX12_warm_1 : decode cX12_warm 1 = .ok (.getfield 190, 3) := by decide +kernel
theorem dX12_warm_4 : decode cX12_warm 4 = .ok (.ifCond .ne 6, 3) := by decide +kernel
theorem dX12_warm_7 : decode cX12_warm 7 = .ok (.bipush (-103), 2) := by decide +kernel
theorem dX12_warm_9 : decode cX12_warm 9 = .ok (.ireturn, 1) := by decide +kernel
theorem dX12_warm_10 : decode cX12_warm 10 = .ok (.iload_n 1, 1) := by decide +kernel
theorem dX12_warm_11 : decode cX12_warm 11 = .ok (.iconst 0, 1) := by decide +kernel
theorem dX12_warm_12 : decode cX12_warm 12 = .ok (.bipush 9, 2) := by decide +kernel
theorem dX12_warm_14 : decode cX12_warm 14 = .ok (.invokestatic 102, 3) := by decide +kernel
theorem dX12_warm_17 : decode cX12_warm 17 = .ok (.ifCond .eq 14, 3) := by decide +kernel
theorem dX12_warm_20 : decode cX12_warm 20 = .ok (.iload_n 2, 1) := by decide +kernel
theorem dX12_warm_21 : decode cX12_warm 21 = .ok (.iconst 1, 1) := by decide +kernel
theorem dX12_warm_22 : decode cX12_warm 22 = .ok (.sipush 200, 3) := by decide +kernel
theorem dX12_warm_25 : decode cX12_warm 25 = .ok (.invokestatic 102, 3) := by decide +kernel
theorem dX12_warm_28 : decode cX12_warm 28 = .ok (.ifCond .ne 6, 3) := by decide +kernel
theorem dX12_warm_31 : decode cX12_warm 31 = .ok (.bipush (-102), 2) := by decide +kernel
theorem dX12_warm_33 : decode cX12_warm 33 = .ok (.ireturn, 1) := by decide +kernel
theorem dX12_warm_34 : decode cX12_warm 34 = .ok (.aload_n 0, 1) := by decide +kernel
theorem dX12_warm_35 : decode cX12_warm 35 = .ok (.invokevirtual 274, 3) := by decide +kernel
theorem dX12_warm_38 : decode cX12_warm 38 = .ok (.iconst 0, 1) := by decide +kernel
theorem dX12_warm_39 : decode cX12_warm 39 = .ok (.istore_n 3, 1) := by decide +kernel
theorem dX12_warm_40 : decode cX12_warm 40 = .ok (.iload_n 3, 1) := by decide +kernel
theorem dX12_warm_41 : decode cX12_warm 41 = .ok (.bipush 16, 2) := by decide +kernel
theorem dX12_warm_43 : decode cX12_warm 43 = .ok (.if_icmp .ge 16, 3) := by decide +kernel
theorem dX12_warm_46 : decode cX12_warm 46 = .ok (.aload_n 0, 1) := by decide +kernel
theorem dX12_warm_47 : decode cX12_warm 47 = .ok (.getfield 75, 3) := by decide +kernel
theorem dX12_warm_50 : decode cX12_warm 50 = .ok (.iload_n 3, 1) := by decide +kernel
theorem dX12_warm_51 : decode cX12_warm 51 = .ok (.iconst 0, 1) := by decide +kernel
theorem dX12_warm_52 : decode cX12_warm 52 = .ok (.iastore, 1) := by decide +kernel
theorem dX12_warm_53 : decode cX12_warm 53 = .ok (.iinc 3 1, 3) := by decide +kernel
theorem dX12_warm_56 : decode cX12_warm 56 = .ok (.goto (-16), 3) := by decide +kernel
theorem dX12_warm_59 : decode cX12_warm 59 = .ok (.iconst 0, 1) := by decide +kernel
theorem dX12_warm_60 : decode cX12_warm 60 = .ok (.istore_n 3, 1) := by decide +kernel
theorem dX12_warm_61 : decode cX12_warm 61 = .ok (.iload_n 3, 1) := by decide +kernel
theorem dX12_warm_62 : decode cX12_warm 62 = .ok (.iload_n 2, 1) := by decide +kernel
theorem dX12_warm_63 : decode cX12_warm 63 = .ok (.if_icmp .ge 15, 3) := by decide +kernel
theorem dX12_warm_66 : decode cX12_warm 66 = .ok (.aload_n 0, 1) := by decide +kernel
theorem dX12_warm_67 : decode cX12_warm 67 = .ok (.iload_n 1, 1) := by decide +kernel
theorem dX12_warm_68 : decode cX12_warm 68 = .ok (.iconst 0, 1) := by decide +kernel
theorem dX12_warm_69 : decode cX12_warm 69 = .ok (.invokevirtual 233, 3) := by decide +kernel
theorem dX12_warm_72 : decode cX12_warm 72 = .ok (.iinc 3 1, 3) := by decide +kernel
theorem dX12_warm_75 : decode cX12_warm 75 = .ok (.goto (-14), 3) := by decide +kernel
theorem dX12_warm_78 : decode cX12_warm 78 = .ok (.aload_n 0, 1) := by decide +kernel
theorem dX12_warm_79 : decode cX12_warm 79 = .ok (.invokevirtual 277, 3) := by decide +kernel
theorem dX12_warm_82 : decode cX12_warm 82 = .ok (.iconst 0, 1) := by decide +kernel
theorem dX12_warm_83 : decode cX12_warm 83 = .ok (.istore_n 3, 1) := by decide +kernel
theorem dX12_warm_84 : decode cX12_warm 84 = .ok (.iconst 0, 1) := by decide +kernel
theorem dX12_warm_85 : decode cX12_warm 85 = .ok (.istore 4, 2) := by decide +kernel
theorem dX12_warm_87 : decode cX12_warm 87 = .ok (.iload 4, 2) := by decide +kernel
theorem dX12_warm_89 : decode cX12_warm 89 = .ok (.aload_n 0, 1) := by decide +kernel
theorem dX12_warm_90 : decode cX12_warm 90 = .ok (.invokevirtual 202, 3) := by decide +kernel
theorem dX12_warm_93 : decode cX12_warm 93 = .ok (.if_icmp .ge 32, 3) := by decide +kernel
theorem dX12_warm_96 : decode cX12_warm 96 = .ok (.aload_n 0, 1) := by decide +kernel
theorem dX12_warm_97 : decode cX12_warm 97 = .ok (.getfield 17, 3) := by decide +kernel
theorem dX12_warm_100 : decode cX12_warm 100 = .ok (.iload 4, 2) := by decide +kernel
theorem dX12_warm_102 : decode cX12_warm 102 = .ok (.iaload, 1) := by decide +kernel
theorem dX12_warm_103 : decode cX12_warm 103 = .ok (.iload_n 3, 1) := by decide +kernel
theorem dX12_warm_104 : decode cX12_warm 104 = .ok (.if_icmp .le 13, 3) := by decide +kernel
theorem dX12_warm_107 : decode cX12_warm 107 = .ok (.aload_n 0, 1) := by decide +kernel
theorem dX12_warm_108 : decode cX12_warm 108 = .ok (.getfield 17, 3) := by decide +kernel
theorem dX12_warm_111 : decode cX12_warm 111 = .ok (.iload 4, 2) := by decide +kernel
theorem dX12_warm_113 : decode cX12_warm 113 = .ok (.iaload, 1) := by decide +kernel
theorem dX12_warm_114 : decode cX12_warm 114 = .ok (.goto 4, 3) := by decide +kernel
theorem dX12_warm_117 : decode cX12_warm 117 = .ok (.iload_n 3, 1) := by decide +kernel
theorem dX12_warm_118 : decode cX12_warm 118 = .ok (.istore_n 3, 1) := by decide +kernel
theorem dX12_warm_119 : decode cX12_warm 119 = .ok (.iinc 4 1, 3) := by decide +kernel
theorem dX12_warm_122 : decode cX12_warm 122 = .ok (.goto (-35), 3) := by decide +kernel
theorem dX12_warm_125 : decode cX12_warm 125 = .ok (.iload_n 3, 1) := by decide +kernel
theorem dX12_warm_126 : decode cX12_warm 126 = .ok (.ireturn, 1) := by decide +kernel
theorem dX12_fat_0 : decode cX12_fat 0 = .ok (.aload_n 0, 1) := by decide +kernel
theorem dX12_fat_1 : decode cX12_fat 1 = .ok (.getfield 190, 3) := by decide +kernel
theorem dX12_fat_4 : decode cX12_fat 4 = .ok (.ifCond .ne 6, 3) := by decide +kernel
theorem dX12_fat_7 : decode cX12_fat 7 = .ok (.bipush (-103), 2) := by decide +kernel
theorem dX12_fat_9 : decode cX12_fat 9 = .ok (.ireturn, 1) := by decide +kernel
theorem dX12_fat_10 : decode cX12_fat 10 = .ok (.iload_n 1, 1) := by decide +kernel
theorem dX12_fat_11 : decode cX12_fat 11 = .ok (.iconst 0, 1) := by decide +kernel
theorem dX12_fat_12 : decode cX12_fat 12 = .ok (.bipush 9, 2) := by decide +kernel
theorem dX12_fat_14 : decode cX12_fat 14 = .ok (.invokestatic 102, 3) := by decide +kernel
theorem dX12_fat_17 : decode cX12_fat 17 = .ok (.ifCond .ne 6, 3) := by decide +kernel
theorem dX12_fat_20 : decode cX12_fat 20 = .ok (.bipush (-102), 2) := by decide +kernel
theorem dX12_fat_22 : decode cX12_fat 22 = .ok (.ireturn, 1) := by decide +kernel
theorem dX12_fat_23 : decode cX12_fat 23 = .ok (.aload_n 0, 1) := by decide +kernel
theorem dX12_fat_24 : decode cX12_fat 24 = .ok (.getfield 184, 3) := by decide +kernel
theorem dX12_fat_27 : decode cX12_fat 27 = .ok (.istore_n 2, 1) := by decide +kernel
theorem dX12_fat_28 : decode cX12_fat 28 = .ok (.aload_n 0, 1) := by decide +kernel
theorem dX12_fat_29 : decode cX12_fat 29 = .ok (.iload_n 1, 1) := by decide +kernel
theorem dX12_fat_30 : decode cX12_fat 30 = .ok (.putfield 184, 3) := by decide +kernel
theorem dX12_fat_33 : decode cX12_fat 33 = .ok (.iload_n 2, 1) := by decide +kernel
theorem dX12_fat_34 : decode cX12_fat 34 = .ok (.ireturn, 1) := by decide +kernel
theorem dX12_bitsAll_0 : decode cX12_bitsAll 0 = .ok (.iconst 0, 1) := by decide +kernel
theorem dX12_bitsAll_1 : decode cX12_bitsAll 1 = .ok (.istore_n 1, 1) := by decide +kernel
theorem dX12_bitsAll_2 : decode cX12_bitsAll 2 = .ok (.iconst 0, 1) := by decide +kernel
theorem dX12_bitsAll_3 : decode cX12_bitsAll 3 = .ok (.istore_n 2, 1) := by decide +kernel
theorem dX12_bitsAll_4 : decode cX12_bitsAll 4 = .ok (.iload_n 2, 1) := by decide +kernel
theorem dX12_bitsAll_5 : decode cX12_bitsAll 5 = .ok (.aload_n 0, 1) := by decide +kernel
theorem dX12_bitsAll_6 : decode cX12_bitsAll 6 = .ok (.invokevirtual 202, 3) := by decide +kernel
theorem dX12_bitsAll_9 : decode cX12_bitsAll 9 = .ok (.if_icmp .ge 18, 3) := by decide +kernel
theorem dX12_bitsAll_12 : decode cX12_bitsAll 12 = .ok (.iload_n 1, 1) := by decide +kernel
theorem dX12_bitsAll_13 : decode cX12_bitsAll 13 = .ok (.aload_n 0, 1) := by decide +kernel
theorem dX12_bitsAll_14 : decode cX12_bitsAll 14 = .ok (.getfield 20, 3) := by decide +kernel
theorem dX12_bitsAll_17 : decode cX12_bitsAll 17 = .ok (.iload_n 2, 1) := by decide +kernel
theorem dX12_bitsAll_18 : decode cX12_bitsAll 18 = .ok (.iaload, 1) := by decide +kernel
theorem dX12_bitsAll_19 : decode cX12_bitsAll 19 = .ok (.iadd, 1) := by decide +kernel
theorem dX12_bitsAll_20 : decode cX12_bitsAll 20 = .ok (.istore_n 1, 1) := by decide +kernel
theorem dX12_bitsAll_21 : decode cX12_bitsAll 21 = .ok (.iinc 2 1, 3) := by decide +kernel
theorem dX12_bitsAll_24 : decode cX12_bitsAll 24 = .ok (.goto (-20), 3) := by decide +kernel
theorem dX12_bitsAll_27 : decode cX12_bitsAll 27 = .ok (.iload_n 1, 1) := by decide +kernel
theorem dX12_bitsAll_28 : decode cX12_bitsAll 28 = .ok (.ireturn, 1) := by decide +kernel
theorem dX12_scrape_0 : decode cX12_scrape 0 = .ok (.aload_n 0, 1) := by decide +kernel
theorem dX12_scrape_1 : decode cX12_scrape 1 = .ok (.getfield 190, 3) := by decide +kernel
theorem dX12_scrape_4 : decode cX12_scrape 4 = .ok (.ifCond .ne 6, 3) := by decide +kernel
theorem dX12_scrape_7 : decode cX12_scrape 7 = .ok (.bipush (-103), 2) := by decide +kernel
theorem dX12_scrape_9 : decode cX12_scrape 9 = .ok (.ireturn, 1) := by decide +kernel
theorem dX12_scrape_10 : decode cX12_scrape 10 = .ok (.aload_n 0, 1) := by decide +kernel
theorem dX12_scrape_11 : decode cX12_scrape 11 = .ok (.invokevirtual 280, 3) := by decide +kernel
theorem dX12_scrape_14 : decode cX12_scrape 14 = .ok (.istore_n 1, 1) := by decide +kernel
theorem dX12_scrape_15 : decode cX12_scrape 15 = .ok (.iconst 0, 1) := by decide +kernel
theorem dX12_scrape_16 : decode cX12_scrape 16 = .ok (.istore_n 2, 1) := by decide +kernel
theorem dX12_scrape_17 : decode cX12_scrape 17 = .ok (.iload_n 2, 1) := by decide +kernel
theorem dX12_scrape_18 : decode cX12_scrape 18 = .ok (.bipush 16, 2) := by decide +kernel
theorem dX12_scrape_20 : decode cX12_scrape 20 = .ok (.if_icmp .ge 16, 3) := by decide +kernel
theorem dX12_scrape_23 : decode cX12_scrape 23 = .ok (.aload_n 0, 1) := by decide +kernel
theorem dX12_scrape_24 : decode cX12_scrape 24 = .ok (.getfield 20, 3) := by decide +kernel
theorem dX12_scrape_27 : decode cX12_scrape 27 = .ok (.iload_n 2, 1) := by decide +kernel
theorem dX12_scrape_28 : decode cX12_scrape 28 = .ok (.iconst 0, 1) := by decide +kernel
theorem dX12_scrape_29 : decode cX12_scrape 29 = .ok (.iastore, 1) := by decide +kernel
theorem dX12_scrape_30 : decode cX12_scrape 30 = .ok (.iinc 2 1, 3) := by decide +kernel
theorem dX12_scrape_33 : decode cX12_scrape 33 = .ok (.goto (-16), 3) := by decide +kernel
theorem dX12_scrape_36 : decode cX12_scrape 36 = .ok (.iload_n 1, 1) := by decide +kernel
theorem dX12_scrape_37 : decode cX12_scrape 37 = .ok (.ireturn, 1) := by decide +kernel
theorem dX12_triedNow_0 : decode cX12_triedNow 0 = .ok (.iload_n 1, 1) := by decide +kernel
theorem dX12_triedNow_1 : decode cX12_triedNow 1 = .ok (.tableswitch 69 0 5 #[39, 44, 49, 54, 59, 64], 39) := by decide +kernel
theorem dX12_triedNow_40 : decode cX12_triedNow 40 = .ok (.aload_n 0, 1) := by decide +kernel
theorem dX12_triedNow_41 : decode cX12_triedNow 41 = .ok (.getfield 255, 3) := by decide +kernel
theorem dX12_triedNow_44 : decode cX12_triedNow 44 = .ok (.ireturn, 1) := by decide +kernel
theorem dX12_triedNow_45 : decode cX12_triedNow 45 = .ok (.aload_n 0, 1) := by decide +kernel
theorem dX12_triedNow_46 : decode cX12_triedNow 46 = .ok (.getfield 246, 3) := by decide +kernel
theorem dX12_triedNow_49 : decode cX12_triedNow 49 = .ok (.ireturn, 1) := by decide +kernel
theorem dX12_triedNow_50 : decode cX12_triedNow 50 = .ok (.aload_n 0, 1) := by decide +kernel
theorem dX12_triedNow_51 : decode cX12_triedNow 51 = .ok (.getfield 249, 3) := by decide +kernel
theorem dX12_triedNow_54 : decode cX12_triedNow 54 = .ok (.ireturn, 1) := by decide +kernel
theorem dX12_triedNow_55 : decode cX12_triedNow 55 = .ok (.aload_n 0, 1) := by decide +kernel
theorem dX12_triedNow_56 : decode cX12_triedNow 56 = .ok (.getfield 252, 3) := by decide +kernel
theorem dX12_triedNow_59 : decode cX12_triedNow 59 = .ok (.ireturn, 1) := by decide +kernel
theorem dX12_triedNow_60 : decode cX12_triedNow 60 = .ok (.aload_n 0, 1) := by decide +kernel
theorem dX12_triedNow_61 : decode cX12_triedNow 61 = .ok (.getfield 243, 3) := by decide +kernel
theorem dX12_triedNow_64 : decode cX12_triedNow 64 = .ok (.ireturn, 1) := by decide +kernel
theorem dX12_triedNow_65 : decode cX12_triedNow 65 = .ok (.aload_n 0, 1) := by decide +kernel
theorem dX12_triedNow_66 : decode cX12_triedNow 66 = .ok (.getfield 239, 3) := by decide +kernel
theorem dX12_triedNow_69 : decode cX12_triedNow 69 = .ok (.ireturn, 1) := by decide +kernel
theorem dX12_triedNow_70 : decode cX12_triedNow 70 = .ok (.aload_n 0, 1) := by decide +kernel
theorem dX12_triedNow_71 : decode cX12_triedNow 71 = .ok (.getfield 261, 3) := by decide +kernel
theorem dX12_triedNow_74 : decode cX12_triedNow 74 = .ok (.ireturn, 1) := by decide +kernel
theorem dX12_bars_0 : decode cX12_bars 0 = .ok (.aload_n 0, 1) := by decide +kernel
theorem dX12_bars_1 : decode cX12_bars 1 = .ok (.iload_n 1, 1) := by decide +kernel
theorem dX12_bars_2 : decode cX12_bars 2 = .ok (.invokevirtual 196, 3) := by decide +kernel
theorem dX12_bars_5 : decode cX12_bars 5 = .ok (.ifCond .ne 8, 3) := by decide +kernel
theorem dX12_bars_8 : decode cX12_bars 8 = .ok (.bipush (-101), 2) := by decide +kernel
theorem dX12_bars_10 : decode cX12_bars 10 = .ok (.goto 16, 3) := by decide +kernel
theorem dX12_bars_13 : decode cX12_bars 13 = .ok (.aload_n 0, 1) := by decide +kernel
theorem dX12_bars_14 : decode cX12_bars 14 = .ok (.getfield 190, 3) := by decide +kernel
theorem dX12_bars_17 : decode cX12_bars 17 = .ok (.ifCond .ne 8, 3) := by decide +kernel
theorem dX12_bars_20 : decode cX12_bars 20 = .ok (.bipush (-103), 2) := by decide +kernel
theorem dX12_bars_22 : decode cX12_bars 22 = .ok (.goto 4, 3) := by decide +kernel
theorem dX12_bars_25 : decode cX12_bars 25 = .ok (.iconst 0, 1) := by decide +kernel
theorem dX12_bars_26 : decode cX12_bars 26 = .ok (.ireturn, 1) := by decide +kernel
theorem dX12_fry_0 : decode cX12_fry 0 = .ok (.aload_n 0, 1) := by decide +kernel
theorem dX12_fry_1 : decode cX12_fry 1 = .ok (.iload_n 1, 1) := by decide +kernel
theorem dX12_fry_2 : decode cX12_fry 2 = .ok (.invokevirtual 283, 3) := by decide +kernel
theorem dX12_fry_5 : decode cX12_fry 5 = .ok (.istore_n 2, 1) := by decide +kernel
theorem dX12_fry_6 : decode cX12_fry 6 = .ok (.iload_n 2, 1) := by decide +kernel
theorem dX12_fry_7 : decode cX12_fry 7 = .ok (.ifCond .eq 5, 3) := by decide +kernel
theorem dX12_fry_10 : decode cX12_fry 10 = .ok (.iload_n 2, 1) := by decide +kernel
theorem dX12_fry_11 : decode cX12_fry 11 = .ok (.ireturn, 1) := by decide +kernel
theorem dX12_fry_12 : decode cX12_fry 12 = .ok (.aload_n 0, 1) := by decide +kernel
theorem dX12_fry_13 : decode cX12_fry 13 = .ok (.getfield 187, 3) := by decide +kernel
theorem dX12_fry_16 : decode cX12_fry 16 = .ok (.bipush 24, 2) := by decide +kernel
theorem dX12_fry_18 : decode cX12_fry 18 = .ok (.if_icmp .ne 6, 3) := by decide +kernel
theorem dX12_fry_21 : decode cX12_fry 21 = .ok (.bipush (-104), 2) := by decide +kernel
theorem dX12_fry_23 : decode cX12_fry 23 = .ok (.ireturn, 1) := by decide +kernel
theorem dX12_fry_24 : decode cX12_fry 24 = .ok (.aload_n 0, 1) := by decide +kernel
theorem dX12_fry_25 : decode cX12_fry 25 = .ok (.invokevirtual 274, 3) := by decide +kernel
theorem dX12_fry_28 : decode cX12_fry 28 = .ok (.aload_n 0, 1) := by decide +kernel
theorem dX12_fry_29 : decode cX12_fry 29 = .ok (.iload_n 1, 1) := by decide +kernel
theorem dX12_fry_30 : decode cX12_fry 30 = .ok (.invokevirtual 286, 3) := by decide +kernel
theorem dX12_fry_33 : decode cX12_fry 33 = .ok (.aload_n 0, 1) := by decide +kernel
theorem dX12_fry_34 : decode cX12_fry 34 = .ok (.invokevirtual 289, 3) := by decide +kernel
theorem dX12_fry_37 : decode cX12_fry 37 = .ok (.aload_n 0, 1) := by decide +kernel
theorem dX12_fry_38 : decode cX12_fry 38 = .ok (.invokevirtual 277, 3) := by decide +kernel
theorem dX12_fry_41 : decode cX12_fry 41 = .ok (.iconst 0, 1) := by decide +kernel
theorem dX12_fry_42 : decode cX12_fry 42 = .ok (.istore_n 3, 1) := by decide +kernel
theorem dX12_fry_43 : decode cX12_fry 43 = .ok (.iload_n 3, 1) := by decide +kernel
theorem dX12_fry_44 : decode cX12_fry 44 = .ok (.bipush 7, 2) := by decide +kernel
theorem dX12_fry_46 : decode cX12_fry 46 = .ok (.if_icmp .ge 28, 3) := by decide +kernel
theorem dX12_fry_49 : decode cX12_fry 49 = .ok (.aload_n 0, 1) := by decide +kernel
theorem dX12_fry_50 : decode cX12_fry 50 = .ok (.getfield 41, 3) := by decide +kernel
theorem dX12_fry_53 : decode cX12_fry 53 = .ok (.bipush 7, 2) := by decide +kernel
theorem dX12_fry_55 : decode cX12_fry 55 = .ok (.aload_n 0, 1) := by decide +kernel
theorem dX12_fry_56 : decode cX12_fry 56 = .ok (.getfield 187, 3) := by decide +kernel
theorem dX12_fry_59 : decode cX12_fry 59 = .ok (.imul, 1) := by decide +kernel
theorem dX12_fry_60 : decode cX12_fry 60 = .ok (.iload_n 3, 1) := by decide +kernel
theorem dX12_fry_61 : decode cX12_fry 61 = .ok (.iadd, 1) := by decide +kernel
theorem dX12_fry_62 : decode cX12_fry 62 = .ok (.aload_n 0, 1) := by decide +kernel
theorem dX12_fry_63 : decode cX12_fry 63 = .ok (.iload_n 3, 1) := by decide +kernel
theorem dX12_fry_64 : decode cX12_fry 64 = .ok (.invokevirtual 292, 3) := by decide +kernel
theorem dX12_fry_67 : decode cX12_fry 67 = .ok (.iastore, 1) := by decide +kernel
theorem dX12_fry_68 : decode cX12_fry 68 = .ok (.iinc 3 1, 3) := by decide +kernel
theorem dX12_fry_71 : decode cX12_fry 71 = .ok (.goto (-28), 3) := by decide +kernel
theorem dX12_fry_74 : decode cX12_fry 74 = .ok (.iconst 0, 1) := by decide +kernel
theorem dX12_fry_75 : decode cX12_fry 75 = .ok (.istore_n 3, 1) := by decide +kernel
theorem dX12_fry_76 : decode cX12_fry 76 = .ok (.iload_n 3, 1) := by decide +kernel
theorem dX12_fry_77 : decode cX12_fry 77 = .ok (.bipush 16, 2) := by decide +kernel
theorem dX12_fry_79 : decode cX12_fry 79 = .ok (.if_icmp .ge 29, 3) := by decide +kernel
theorem dX12_fry_82 : decode cX12_fry 82 = .ok (.aload_n 0, 1) := by decide +kernel
theorem dX12_fry_83 : decode cX12_fry 83 = .ok (.getfield 44, 3) := by decide +kernel
theorem dX12_fry_86 : decode cX12_fry 86 = .ok (.bipush 16, 2) := by decide +kernel
theorem dX12_fry_88 : decode cX12_fry 88 = .ok (.aload_n 0, 1) := by decide +kernel
theorem dX12_fry_89 : decode cX12_fry 89 = .ok (.getfield 187, 3) := by decide +kernel
theorem dX12_fry_92 : decode cX12_fry 92 = .ok (.imul, 1) := by decide +kernel
theorem dX12_fry_93 : decode cX12_fry 93 = .ok (.iload_n 3, 1) := by decide +kernel
theorem dX12_fry_94 : decode cX12_fry 94 = .ok (.iadd, 1) := by decide +kernel
theorem dX12_fry_95 : decode cX12_fry 95 = .ok (.aload_n 0, 1) := by decide +kernel
theorem dX12_fry_96 : decode cX12_fry 96 = .ok (.getfield 75, 3) := by decide +kernel
theorem dX12_fry_99 : decode cX12_fry 99 = .ok (.iload_n 3, 1) := by decide +kernel
theorem dX12_fry_100 : decode cX12_fry 100 = .ok (.iaload, 1) := by decide +kernel
theorem dX12_fry_101 : decode cX12_fry 101 = .ok (.iastore, 1) := by decide +kernel
theorem dX12_fry_102 : decode cX12_fry 102 = .ok (.iinc 3 1, 3) := by decide +kernel
theorem dX12_fry_105 : decode cX12_fry 105 = .ok (.goto (-29), 3) := by decide +kernel
theorem dX12_fry_108 : decode cX12_fry 108 = .ok (.aload_n 0, 1) := by decide +kernel
theorem dX12_fry_109 : decode cX12_fry 109 = .ok (.dup, 1) := by decide +kernel
theorem dX12_fry_110 : decode cX12_fry 110 = .ok (.getfield 187, 3) := by decide +kernel
theorem dX12_fry_113 : decode cX12_fry 113 = .ok (.iconst 1, 1) := by decide +kernel
theorem dX12_fry_114 : decode cX12_fry 114 = .ok (.iadd, 1) := by decide +kernel
theorem dX12_fry_115 : decode cX12_fry 115 = .ok (.putfield 187, 3) := by decide +kernel
theorem dX12_fry_118 : decode cX12_fry 118 = .ok (.aload_n 0, 1) := by decide +kernel
theorem dX12_fry_119 : decode cX12_fry 119 = .ok (.getfield 255, 3) := by decide +kernel
theorem dX12_fry_122 : decode cX12_fry 122 = .ok (.ireturn, 1) := by decide +kernel
theorem dX12_isCake_0 : decode cX12_isCake 0 = .ok (.iload_n 1, 1) := by decide +kernel
theorem dX12_isCake_1 : decode cX12_isCake 1 = .ok (.iconst 0, 1) := by decide +kernel
theorem dX12_isCake_2 : decode cX12_isCake 2 = .ok (.aload_n 0, 1) := by decide +kernel
theorem dX12_isCake_3 : decode cX12_isCake 3 = .ok (.getfield 187, 3) := by decide +kernel
theorem dX12_isCake_6 : decode cX12_isCake 6 = .ok (.iconst 1, 1) := by decide +kernel
theorem dX12_isCake_7 : decode cX12_isCake 7 = .ok (.isub, 1) := by decide +kernel
theorem dX12_isCake_8 : decode cX12_isCake 8 = .ok (.invokestatic 102, 3) := by decide +kernel
theorem dX12_isCake_11 : decode cX12_isCake 11 = .ok (.ireturn, 1) := by decide +kernel
theorem dX12_cake_0 : decode cX12_cake 0 = .ok (.aload_n 0, 1) := by decide +kernel
theorem dX12_cake_1 : decode cX12_cake 1 = .ok (.iload_n 1, 1) := by decide +kernel
theorem dX12_cake_2 : decode cX12_cake 2 = .ok (.invokevirtual 295, 3) := by decide +kernel
theorem dX12_cake_5 : decode cX12_cake 5 = .ok (.ifCond .ne 8, 3) := by decide +kernel
theorem dX12_cake_8 : decode cX12_cake 8 = .ok (.bipush (-101), 2) := by decide +kernel
theorem dX12_cake_10 : decode cX12_cake 10 = .ok (.goto 29, 3) := by decide +kernel
theorem dX12_cake_13 : decode cX12_cake 13 = .ok (.iload_n 2, 1) := by decide +kernel
theorem dX12_cake_14 : decode cX12_cake 14 = .ok (.iconst 0, 1) := by decide +kernel
theorem dX12_cake_15 : decode cX12_cake 15 = .ok (.bipush 6, 2) := by decide +kernel
theorem dX12_cake_17 : decode cX12_cake 17 = .ok (.invokestatic 102, 3) := by decide +kernel
theorem dX12_cake_20 : decode cX12_cake 20 = .ok (.ifCond .eq 17, 3) := by decide +kernel
theorem dX12_cake_23 : decode cX12_cake 23 = .ok (.aload_n 0, 1) := by decide +kernel
theorem dX12_cake_24 : decode cX12_cake 24 = .ok (.getfield 41, 3) := by decide +kernel
theorem dX12_cake_27 : decode cX12_cake 27 = .ok (.bipush 7, 2) := by decide +kernel
theorem dX12_cake_29 : decode cX12_cake 29 = .ok (.iload_n 1, 1) := by decide +kernel
theorem dX12_cake_30 : decode cX12_cake 30 = .ok (.imul, 1) := by decide +kernel
theorem dX12_cake_31 : decode cX12_cake 31 = .ok (.iload_n 2, 1) := by decide +kernel
theorem dX12_cake_32 : decode cX12_cake 32 = .ok (.iadd, 1) := by decide +kernel
theorem dX12_cake_33 : decode cX12_cake 33 = .ok (.iaload, 1) := by decide +kernel
theorem dX12_cake_34 : decode cX12_cake 34 = .ok (.goto 5, 3) := by decide +kernel
theorem dX12_cake_37 : decode cX12_cake 37 = .ok (.bipush (-102), 2) := by decide +kernel
theorem dX12_cake_39 : decode cX12_cake 39 = .ok (.ireturn, 1) := by decide +kernel
theorem dX12_as_0 : decode cX12_as 0 = .ok (.aload_n 0, 1) := by decide +kernel
theorem dX12_as_1 : decode cX12_as 1 = .ok (.iload_n 1, 1) := by decide +kernel
theorem dX12_as_2 : decode cX12_as 2 = .ok (.invokevirtual 295, 3) := by decide +kernel
theorem dX12_as_5 : decode cX12_as 5 = .ok (.ifCond .ne 6, 3) := by decide +kernel
theorem dX12_as_8 : decode cX12_as 8 = .ok (.bipush (-101), 2) := by decide +kernel
theorem dX12_as_10 : decode cX12_as 10 = .ok (.ireturn, 1) := by decide +kernel
theorem dX12_as_11 : decode cX12_as 11 = .ok (.iload_n 2, 1) := by decide +kernel
theorem dX12_as_12 : decode cX12_as 12 = .ok (.iconst 0, 1) := by decide +kernel
theorem dX12_as_13 : decode cX12_as 13 = .ok (.iconst 5, 1) := by decide +kernel
theorem dX12_as_14 : decode cX12_as 14 = .ok (.invokestatic 102, 3) := by decide +kernel
theorem dX12_as_17 : decode cX12_as 17 = .ok (.ifCond .ne 6, 3) := by decide +kernel
theorem dX12_as_20 : decode cX12_as 20 = .ok (.bipush (-102), 2) := by decide +kernel
theorem dX12_as_22 : decode cX12_as 22 = .ok (.ireturn, 1) := by decide +kernel
theorem dX12_as_23 : decode cX12_as 23 = .ok (.aload_n 0, 1) := by decide +kernel
theorem dX12_as_24 : decode cX12_as 24 = .ok (.getfield 41, 3) := by decide +kernel
theorem dX12_as_27 : decode cX12_as 27 = .ok (.bipush 7, 2) := by decide +kernel
theorem dX12_as_29 : decode cX12_as 29 = .ok (.iload_n 1, 1) := by decide +kernel
theorem dX12_as_30 : decode cX12_as 30 = .ok (.imul, 1) := by decide +kernel
theorem dX12_as_31 : decode cX12_as 31 = .ok (.iaload, 1) := by decide +kernel
theorem dX12_as_32 : decode cX12_as 32 = .ok (.istore_n 3, 1) := by decide +kernel
theorem dX12_as_33 : decode cX12_as 33 = .ok (.iload_n 2, 1) := by decide +kernel
theorem dX12_as_34 : decode cX12_as 34 = .ok (.ifCond .eq 28, 3) := by decide +kernel
theorem dX12_as_37 : decode cX12_as 37 = .ok (.iload_n 3, 1) := by decide +kernel
theorem dX12_as_38 : decode cX12_as 38 = .ok (.iload_n 2, 1) := by decide +kernel
theorem dX12_as_39 : decode cX12_as 39 = .ok (.if_icmp .eq 23, 3) := by decide +kernel
theorem dX12_as_42 : decode cX12_as 42 = .ok (.iload_n 2, 1) := by decide +kernel
theorem dX12_as_43 : decode cX12_as 43 = .ok (.iconst 2, 1) := by decide +kernel
theorem dX12_as_44 : decode cX12_as 44 = .ok (.if_icmp .ne 8, 3) := by decide +kernel
theorem dX12_as_47 : decode cX12_as 47 = .ok (.iload_n 3, 1) := by decide +kernel
theorem dX12_as_48 : decode cX12_as 48 = .ok (.iconst 3, 1) := by decide +kernel
theorem dX12_as_49 : decode cX12_as 49 = .ok (.if_icmp .eq 13, 3) := by decide +kernel
theorem dX12_as_52 : decode cX12_as 52 = .ok (.iload_n 2, 1) := by decide +kernel
theorem dX12_as_53 : decode cX12_as 53 = .ok (.iconst 4, 1) := by decide +kernel
theorem dX12_as_54 : decode cX12_as 54 = .ok (.if_icmp .ne 12, 3) := by decide +kernel
theorem dX12_as_57 : decode cX12_as 57 = .ok (.iload_n 3, 1) := by decide +kernel
theorem dX12_as_58 : decode cX12_as 58 = .ok (.iconst 5, 1) := by decide +kernel
theorem dX12_as_59 : decode cX12_as 59 = .ok (.if_icmp .ne 7, 3) := by decide +kernel
theorem dX12_as_62 : decode cX12_as 62 = .ok (.iload_n 1, 1) := by decide +kernel
theorem dX12_as_63 : decode cX12_as 63 = .ok (.goto 4, 3) := by decide +kernel
theorem dX12_as_66 : decode cX12_as 66 = .ok (.iconst (-1), 1) := by decide +kernel
theorem dX12_as_67 : decode cX12_as 67 = .ok (.ireturn, 1) := by decide +kernel
theorem dX12_thick_0 : decode cX12_thick 0 = .ok (.aload_n 0, 1) := by decide +kernel
theorem dX12_thick_1 : decode cX12_thick 1 = .ok (.iload_n 1, 1) := by decide +kernel
theorem dX12_thick_2 : decode cX12_thick 2 = .ok (.invokevirtual 295, 3) := by decide +kernel
theorem dX12_thick_5 : decode cX12_thick 5 = .ok (.ifCond .eq 25, 3) := by decide +kernel
theorem dX12_thick_8 : decode cX12_thick 8 = .ok (.aload_n 0, 1) := by decide +kernel
theorem dX12_thick_9 : decode cX12_thick 9 = .ok (.iload_n 2, 1) := by decide +kernel
theorem dX12_thick_10 : decode cX12_thick 10 = .ok (.invokevirtual 206, 3) := by decide +kernel
theorem dX12_thick_13 : decode cX12_thick 13 = .ok (.ifCond .eq 17, 3) := by decide +kernel
theorem dX12_thick_16 : decode cX12_thick 16 = .ok (.aload_n 0, 1) := by decide +kernel
theorem dX12_thick_17 : decode cX12_thick 17 = .ok (.getfield 44, 3) := by decide +kernel
theorem dX12_thick_20 : decode cX12_thick 20 = .ok (.bipush 16, 2) := by decide +kernel
theorem dX12_thick_22 : decode cX12_thick 22 = .ok (.iload_n 1, 1) := by decide +kernel
theorem dX12_thick_23 : decode cX12_thick 23 = .ok (.imul, 1) := by decide +kernel
theorem dX12_thick_24 : decode cX12_thick 24 = .ok (.iload_n 2, 1) := by decide +kernel
theorem dX12_thick_25 : decode cX12_thick 25 = .ok (.iadd, 1) := by decide +kernel
theorem dX12_thick_26 : decode cX12_thick 26 = .ok (.iaload, 1) := by decide +kernel
theorem dX12_thick_27 : decode cX12_thick 27 = .ok (.goto 5, 3) := by decide +kernel
theorem dX12_thick_30 : decode cX12_thick 30 = .ok (.bipush (-101), 2) := by decide +kernel
theorem dX12_thick_32 : decode cX12_thick 32 = .ok (.ireturn, 1) := by decide +kernel
theorem dX12_layNext_0 : decode cX12_layNext 0 = .ok (.aload_n 0, 1) := by decide +kernel
theorem dX12_layNext_1 : decode cX12_layNext 1 = .ok (.invokevirtual 274, 3) := by decide +kernel
theorem dX12_layNext_4 : decode cX12_layNext 4 = .ok (.aload_n 0, 1) := by decide +kernel
theorem dX12_layNext_5 : decode cX12_layNext 5 = .ok (.iload_n 1, 1) := by decide +kernel
theorem dX12_layNext_6 : decode cX12_layNext 6 = .ok (.invokevirtual 286, 3) := by decide +kernel
theorem dX12_layNext_9 : decode cX12_layNext 9 = .ok (.aload_n 0, 1) := by decide +kernel
theorem dX12_layNext_10 : decode cX12_layNext 10 = .ok (.invokevirtual 289, 3) := by decide +kernel
theorem dX12_layNext_13 : decode cX12_layNext 13 = .ok (.return_, 1) := by decide +kernel
theorem dX12_tried_0 : decode cX12_tried 0 = .ok (.aload_n 0, 1) := by decide +kernel
theorem dX12_tried_1 : decode cX12_tried 1 = .ok (.iload_n 1, 1) := by decide +kernel
theorem dX12_tried_2 : decode cX12_tried 2 = .ok (.invokevirtual 283, 3) := by decide +kernel
theorem dX12_tried_5 : decode cX12_tried 5 = .ok (.istore_n 3, 1) := by decide +kernel
theorem dX12_tried_6 : decode cX12_tried 6 = .ok (.iload_n 3, 1) := by decide +kernel
theorem dX12_tried_7 : decode cX12_tried 7 = .ok (.ifCond .eq 5, 3) := by decide +kernel
theorem dX12_tried_10 : decode cX12_tried 10 = .ok (.iload_n 3, 1) := by decide +kernel
theorem dX12_tried_11 : decode cX12_tried 11 = .ok (.ireturn, 1) := by decide +kernel
theorem dX12_tried_12 : decode cX12_tried 12 = .ok (.iload_n 2, 1) := by decide +kernel
theorem dX12_tried_13 : decode cX12_tried 13 = .ok (.iconst 0, 1) := by decide +kernel
theorem dX12_tried_14 : decode cX12_tried 14 = .ok (.bipush 6, 2) := by decide +kernel
theorem dX12_tried_16 : decode cX12_tried 16 = .ok (.invokestatic 102, 3) := by decide +kernel
theorem dX12_tried_19 : decode cX12_tried 19 = .ok (.ifCond .ne 6, 3) := by decide +kernel
theorem dX12_tried_22 : decode cX12_tried 22 = .ok (.bipush (-102), 2) := by decide +kernel
theorem dX12_tried_24 : decode cX12_tried 24 = .ok (.ireturn, 1) := by decide +kernel
theorem dX12_tried_25 : decode cX12_tried 25 = .ok (.aload_n 0, 1) := by decide +kernel
theorem dX12_tried_26 : decode cX12_tried 26 = .ok (.iload_n 1, 1) := by decide +kernel
theorem dX12_tried_27 : decode cX12_tried 27 = .ok (.invokevirtual 298, 3) := by decide +kernel
theorem dX12_tried_30 : decode cX12_tried 30 = .ok (.aload_n 0, 1) := by decide +kernel
theorem dX12_tried_31 : decode cX12_tried 31 = .ok (.iload_n 2, 1) := by decide +kernel
theorem dX12_tried_32 : decode cX12_tried 32 = .ok (.invokevirtual 292, 3) := by decide +kernel
theorem dX12_tried_35 : decode cX12_tried 35 = .ok (.ireturn, 1) := by decide +kernel
theorem dX12_layTwelve_0 : decode cX12_layTwelve 0 = .ok (.aload_n 0, 1) := by decide +kernel
theorem dX12_layTwelve_1 : decode cX12_layTwelve 1 = .ok (.invokevirtual 274, 3) := by decide +kernel
theorem dX12_layTwelve_4 : decode cX12_layTwelve 4 = .ok (.aload_n 0, 1) := by decide +kernel
theorem dX12_layTwelve_5 : decode cX12_layTwelve 5 = .ok (.iload_n 1, 1) := by decide +kernel
theorem dX12_layTwelve_6 : decode cX12_layTwelve 6 = .ok (.invokevirtual 286, 3) := by decide +kernel
theorem dX12_layTwelve_9 : decode cX12_layTwelve 9 = .ok (.aload_n 0, 1) := by decide +kernel
theorem dX12_layTwelve_10 : decode cX12_layTwelve 10 = .ok (.iconst (-1), 1) := by decide +kernel
theorem dX12_layTwelve_11 : decode cX12_layTwelve 11 = .ok (.putfield 301, 3) := by decide +kernel
theorem dX12_layTwelve_14 : decode cX12_layTwelve 14 = .ok (.aload_n 0, 1) := by decide +kernel
theorem dX12_layTwelve_15 : decode cX12_layTwelve 15 = .ok (.iconst 0, 1) := by decide +kernel
theorem dX12_layTwelve_16 : decode cX12_layTwelve 16 = .ok (.putfield 304, 3) := by decide +kernel
theorem dX12_layTwelve_19 : decode cX12_layTwelve 19 = .ok (.iconst 0, 1) := by decide +kernel
theorem dX12_layTwelve_20 : decode cX12_layTwelve 20 = .ok (.istore_n 2, 1) := by decide +kernel
theorem dX12_layTwelve_21 : decode cX12_layTwelve 21 = .ok (.iload_n 2, 1) := by decide +kernel
theorem dX12_layTwelve_22 : decode cX12_layTwelve 22 = .ok (.bipush 12, 2) := by decide +kernel
theorem dX12_layTwelve_24 : decode cX12_layTwelve 24 = .ok (.if_icmp .ge 72, 3) := by decide +kernel
theorem dX12_layTwelve_27 : decode cX12_layTwelve 27 = .ok (.aload_n 0, 1) := by decide +kernel
theorem dX12_layTwelve_28 : decode cX12_layTwelve 28 = .ok (.invokevirtual 289, 3) := by decide +kernel
theorem dX12_layTwelve_31 : decode cX12_layTwelve 31 = .ok (.aload_n 0, 1) := by decide +kernel
theorem dX12_layTwelve_32 : decode cX12_layTwelve 32 = .ok (.getfield 255, 3) := by decide +kernel
theorem dX12_layTwelve_35 : decode cX12_layTwelve 35 = .ok (.ifCond .ne 7, 3) := by decide +kernel
theorem dX12_layTwelve_38 : decode cX12_layTwelve 38 = .ok (.iconst 1, 1) := by decide +kernel
theorem dX12_layTwelve_39 : decode cX12_layTwelve 39 = .ok (.goto 4, 3) := by decide +kernel
theorem dX12_layTwelve_42 : decode cX12_layTwelve 42 = .ok (.iconst 0, 1) := by decide +kernel
theorem dX12_layTwelve_43 : decode cX12_layTwelve 43 = .ok (.istore_n 3, 1) := by decide +kernel
theorem dX12_layTwelve_44 : decode cX12_layTwelve 44 = .ok (.aload_n 0, 1) := by decide +kernel
theorem dX12_layTwelve_45 : decode cX12_layTwelve 45 = .ok (.iload_n 3, 1) := by decide +kernel
theorem dX12_layTwelve_46 : decode cX12_layTwelve 46 = .ok (.ifCond .ne 7, 3) := by decide +kernel
theorem dX12_layTwelve_49 : decode cX12_layTwelve 49 = .ok (.iconst (-1), 1) := by decide +kernel
theorem dX12_layTwelve_50 : decode cX12_layTwelve 50 = .ok (.goto 19, 3) := by decide +kernel
theorem dX12_layTwelve_53 : decode cX12_layTwelve 53 = .ok (.aload_n 0, 1) := by decide +kernel
theorem dX12_layTwelve_54 : decode cX12_layTwelve 54 = .ok (.getfield 301, 3) := by decide +kernel
theorem dX12_layTwelve_57 : decode cX12_layTwelve 57 = .ok (.iconst (-1), 1) := by decide +kernel
theorem dX12_layTwelve_58 : decode cX12_layTwelve 58 = .ok (.if_icmp .ne 7, 3) := by decide +kernel
theorem dX12_layTwelve_61 : decode cX12_layTwelve 61 = .ok (.iload_n 2, 1) := by decide +kernel
theorem dX12_layTwelve_62 : decode cX12_layTwelve 62 = .ok (.goto 7, 3) := by decide +kernel
theorem dX12_layTwelve_65 : decode cX12_layTwelve 65 = .ok (.aload_n 0, 1) := by decide +kernel
theorem dX12_layTwelve_66 : decode cX12_layTwelve 66 = .ok (.getfield 301, 3) := by decide +kernel
theorem dX12_layTwelve_69 : decode cX12_layTwelve 69 = .ok (.putfield 301, 3) := by decide +kernel
theorem dX12_layTwelve_72 : decode cX12_layTwelve 72 = .ok (.aload_n 0, 1) := by decide +kernel
theorem dX12_layTwelve_73 : decode cX12_layTwelve 73 = .ok (.dup, 1) := by decide +kernel
theorem dX12_layTwelve_74 : decode cX12_layTwelve 74 = .ok (.getfield 304, 3) := by decide +kernel
theorem dX12_layTwelve_77 : decode cX12_layTwelve 77 = .ok (.iload_n 3, 1) := by decide +kernel
theorem dX12_layTwelve_78 : decode cX12_layTwelve 78 = .ok (.ifCond .eq 7, 3) := by decide +kernel
theorem dX12_layTwelve_81 : decode cX12_layTwelve 81 = .ok (.iconst 0, 1) := by decide +kernel
theorem dX12_layTwelve_82 : decode cX12_layTwelve 82 = .ok (.goto 4, 3) := by decide +kernel
theorem dX12_layTwelve_85 : decode cX12_layTwelve 85 = .ok (.iconst 1, 1) := by decide +kernel
theorem dX12_layTwelve_86 : decode cX12_layTwelve 86 = .ok (.iadd, 1) := by decide +kernel
theorem dX12_layTwelve_87 : decode cX12_layTwelve 87 = .ok (.putfield 304, 3) := by decide +kernel
theorem dX12_layTwelve_90 : decode cX12_layTwelve 90 = .ok (.iinc 2 1, 3) := by decide +kernel
theorem dX12_layTwelve_93 : decode cX12_layTwelve 93 = .ok (.goto (-72), 3) := by decide +kernel
theorem dX12_layTwelve_96 : decode cX12_layTwelve 96 = .ok (.return_, 1) := by decide +kernel
theorem dX12_from_0 : decode cX12_from 0 = .ok (.aload_n 0, 1) := by decide +kernel
theorem dX12_from_1 : decode cX12_from 1 = .ok (.iload_n 1, 1) := by decide +kernel
theorem dX12_from_2 : decode cX12_from 2 = .ok (.invokevirtual 283, 3) := by decide +kernel
theorem dX12_from_5 : decode cX12_from 5 = .ok (.istore_n 2, 1) := by decide +kernel
theorem dX12_from_6 : decode cX12_from 6 = .ok (.iload_n 2, 1) := by decide +kernel
theorem dX12_from_7 : decode cX12_from 7 = .ok (.ifCond .eq 5, 3) := by decide +kernel
theorem dX12_from_10 : decode cX12_from 10 = .ok (.iload_n 2, 1) := by decide +kernel
theorem dX12_from_11 : decode cX12_from 11 = .ok (.ireturn, 1) := by decide +kernel
theorem dX12_from_12 : decode cX12_from 12 = .ok (.aload_n 0, 1) := by decide +kernel
theorem dX12_from_13 : decode cX12_from 13 = .ok (.iload_n 1, 1) := by decide +kernel
theorem dX12_from_14 : decode cX12_from 14 = .ok (.invokevirtual 307, 3) := by decide +kernel
theorem dX12_from_17 : decode cX12_from 17 = .ok (.aload_n 0, 1) := by decide +kernel
theorem dX12_from_18 : decode cX12_from 18 = .ok (.getfield 301, 3) := by decide +kernel
theorem dX12_from_21 : decode cX12_from 21 = .ok (.ireturn, 1) := by decide +kernel
theorem dX12_dogs_0 : decode cX12_dogs 0 = .ok (.aload_n 0, 1) := by decide +kernel
theorem dX12_dogs_1 : decode cX12_dogs 1 = .ok (.iload_n 1, 1) := by decide +kernel
theorem dX12_dogs_2 : decode cX12_dogs 2 = .ok (.invokevirtual 283, 3) := by decide +kernel
theorem dX12_dogs_5 : decode cX12_dogs 5 = .ok (.istore_n 2, 1) := by decide +kernel
theorem dX12_dogs_6 : decode cX12_dogs 6 = .ok (.iload_n 2, 1) := by decide +kernel
theorem dX12_dogs_7 : decode cX12_dogs 7 = .ok (.ifCond .eq 5, 3) := by decide +kernel
theorem dX12_dogs_10 : decode cX12_dogs 10 = .ok (.iload_n 2, 1) := by decide +kernel
theorem dX12_dogs_11 : decode cX12_dogs 11 = .ok (.ireturn, 1) := by decide +kernel
theorem dX12_dogs_12 : decode cX12_dogs 12 = .ok (.aload_n 0, 1) := by decide +kernel
theorem dX12_dogs_13 : decode cX12_dogs 13 = .ok (.iload_n 1, 1) := by decide +kernel
theorem dX12_dogs_14 : decode cX12_dogs 14 = .ok (.invokevirtual 307, 3) := by decide +kernel
theorem dX12_dogs_17 : decode cX12_dogs 17 = .ok (.aload_n 0, 1) := by decide +kernel
theorem dX12_dogs_18 : decode cX12_dogs 18 = .ok (.getfield 304, 3) := by decide +kernel
theorem dX12_dogs_21 : decode cX12_dogs 21 = .ok (.ireturn, 1) := by decide +kernel
theorem dX12_isRightBy_0 : decode cX12_isRightBy 0 = .ok (.aload_n 0, 1) := by decide +kernel
theorem dX12_isRightBy_1 : decode cX12_isRightBy 1 = .ok (.invokevirtual 274, 3) := by decide +kernel
theorem dX12_isRightBy_4 : decode cX12_isRightBy 4 = .ok (.iconst 0, 1) := by decide +kernel
theorem dX12_isRightBy_5 : decode cX12_isRightBy 5 = .ok (.istore_n 2, 1) := by decide +kernel
theorem dX12_isRightBy_6 : decode cX12_isRightBy 6 = .ok (.iload_n 2, 1) := by decide +kernel
theorem dX12_isRightBy_7 : decode cX12_isRightBy 7 = .ok (.bipush 16, 2) := by decide +kernel
theorem dX12_isRightBy_9 : decode cX12_isRightBy 9 = .ok (.if_icmp .ge 56, 3) := by decide +kernel
theorem dX12_isRightBy_12 : decode cX12_isRightBy 12 = .ok (.aload_n 0, 1) := by decide +kernel
theorem dX12_isRightBy_13 : decode cX12_isRightBy 13 = .ok (.getfield 66, 3) := by decide +kernel
theorem dX12_isRightBy_16 : decode cX12_isRightBy 16 = .ok (.iload_n 2, 1) := by decide +kernel
theorem dX12_isRightBy_17 : decode cX12_isRightBy 17 = .ok (.iload_n 1, 1) := by decide +kernel
theorem dX12_isRightBy_18 : decode cX12_isRightBy 18 = .ok (.iconst 1, 1) := by decide +kernel
theorem dX12_isRightBy_19 : decode cX12_isRightBy 19 = .ok (.if_icmp .ne 12, 3) := by decide +kernel
theorem dX12_isRightBy_22 : decode cX12_isRightBy 22 = .ok (.aload_n 0, 1) := by decide +kernel
theorem dX12_isRightBy_23 : decode cX12_isRightBy 23 = .ok (.getfield 87, 3) := by decide +kernel
theorem dX12_isRightBy_26 : decode cX12_isRightBy 26 = .ok (.iload_n 2, 1) := by decide +kernel
theorem dX12_isRightBy_27 : decode cX12_isRightBy 27 = .ok (.iaload, 1) := by decide +kernel
theorem dX12_isRightBy_28 : decode cX12_isRightBy 28 = .ok (.goto 9, 3) := by decide +kernel
theorem dX12_isRightBy_31 : decode cX12_isRightBy 31 = .ok (.aload_n 0, 1) := by decide +kernel
theorem dX12_isRightBy_32 : decode cX12_isRightBy 32 = .ok (.getfield 66, 3) := by decide +kernel
theorem dX12_isRightBy_35 : decode cX12_isRightBy 35 = .ok (.iload_n 2, 1) := by decide +kernel
theorem dX12_isRightBy_36 : decode cX12_isRightBy 36 = .ok (.iaload, 1) := by decide +kernel
theorem dX12_isRightBy_37 : decode cX12_isRightBy 37 = .ok (.iastore, 1) := by decide +kernel
theorem dX12_isRightBy_38 : decode cX12_isRightBy 38 = .ok (.aload_n 0, 1) := by decide +kernel
theorem dX12_isRightBy_39 : decode cX12_isRightBy 39 = .ok (.getfield 69, 3) := by decide +kernel
theorem dX12_isRightBy_42 : decode cX12_isRightBy 42 = .ok (.iload_n 2, 1) := by decide +kernel
theorem dX12_isRightBy_43 : decode cX12_isRightBy 43 = .ok (.iload_n 1, 1) := by decide +kernel
theorem dX12_isRightBy_44 : decode cX12_isRightBy 44 = .ok (.iconst 4, 1) := by decide +kernel
theorem dX12_isRightBy_45 : decode cX12_isRightBy 45 = .ok (.if_icmp .ne 7, 3) := by decide +kernel
theorem dX12_isRightBy_48 : decode cX12_isRightBy 48 = .ok (.iconst 0, 1) := by decide +kernel
theorem dX12_isRightBy_49 : decode cX12_isRightBy 49 = .ok (.goto 9, 3) := by decide +kernel
theorem dX12_isRightBy_52 : decode cX12_isRightBy 52 = .ok (.aload_n 0, 1) := by decide +kernel
theorem dX12_isRightBy_53 : decode cX12_isRightBy 53 = .ok (.getfield 69, 3) := by decide +kernel
theorem dX12_isRightBy_56 : decode cX12_isRightBy 56 = .ok (.iload_n 2, 1) := by decide +kernel
theorem dX12_isRightBy_57 : decode cX12_isRightBy 57 = .ok (.iaload, 1) := by decide +kernel
theorem dX12_isRightBy_58 : decode cX12_isRightBy 58 = .ok (.iastore, 1) := by decide +kernel
theorem dX12_isRightBy_59 : decode cX12_isRightBy 59 = .ok (.iinc 2 1, 3) := by decide +kernel
theorem dX12_isRightBy_62 : decode cX12_isRightBy 62 = .ok (.goto (-56), 3) := by decide +kernel
theorem dX12_isRightBy_65 : decode cX12_isRightBy 65 = .ok (.aload_n 0, 1) := by decide +kernel
theorem dX12_isRightBy_66 : decode cX12_isRightBy 66 = .ok (.iload_n 1, 1) := by decide +kernel
theorem dX12_isRightBy_67 : decode cX12_isRightBy 67 = .ok (.iconst 2, 1) := by decide +kernel
theorem dX12_isRightBy_68 : decode cX12_isRightBy 68 = .ok (.if_icmp .ne 8, 3) := by decide +kernel
theorem dX12_isRightBy_71 : decode cX12_isRightBy 71 = .ok (.bipush 9, 2) := by decide +kernel
theorem dX12_isRightBy_73 : decode cX12_isRightBy 73 = .ok (.goto 7, 3) := by decide +kernel
theorem dX12_isRightBy_76 : decode cX12_isRightBy 76 = .ok (.aload_n 0, 1) := by decide +kernel
theorem dX12_isRightBy_77 : decode cX12_isRightBy 77 = .ok (.getfield 212, 3) := by decide +kernel
theorem dX12_isRightBy_80 : decode cX12_isRightBy 80 = .ok (.putfield 212, 3) := by decide +kernel
theorem dX12_isRightBy_83 : decode cX12_isRightBy 83 = .ok (.aload_n 0, 1) := by decide +kernel
theorem dX12_isRightBy_84 : decode cX12_isRightBy 84 = .ok (.invokevirtual 289, 3) := by decide +kernel
theorem dX12_isRightBy_87 : decode cX12_isRightBy 87 = .ok (.aload_n 0, 1) := by decide +kernel
theorem dX12_isRightBy_88 : decode cX12_isRightBy 88 = .ok (.getfield 255, 3) := by decide +kernel
theorem dX12_isRightBy_91 : decode cX12_isRightBy 91 = .ok (.ifCond .ne 7, 3) := by decide +kernel
theorem dX12_isRightBy_94 : decode cX12_isRightBy 94 = .ok (.iconst 1, 1) := by decide +kernel
theorem dX12_isRightBy_95 : decode cX12_isRightBy 95 = .ok (.goto 4, 3) := by decide +kernel
theorem dX12_isRightBy_98 : decode cX12_isRightBy 98 = .ok (.iconst 0, 1) := by decide +kernel
theorem dX12_isRightBy_99 : decode cX12_isRightBy 99 = .ok (.ireturn, 1) := by decide +kernel
theorem dX12_why_0 : decode cX12_why 0 = .ok (.aload_n 0, 1) := by decide +kernel
theorem dX12_why_1 : decode cX12_why 1 = .ok (.iload_n 1, 1) := by decide +kernel
theorem dX12_why_2 : decode cX12_why 2 = .ok (.invokevirtual 283, 3) := by decide +kernel
theorem dX12_why_5 : decode cX12_why 5 = .ok (.istore_n 2, 1) := by decide +kernel
theorem dX12_why_6 : decode cX12_why 6 = .ok (.iload_n 2, 1) := by decide +kernel
theorem dX12_why_7 : decode cX12_why 7 = .ok (.ifCond .eq 5, 3) := by decide +kernel
theorem dX12_why_10 : decode cX12_why 10 = .ok (.iload_n 2, 1) := by decide +kernel
theorem dX12_why_11 : decode cX12_why 11 = .ok (.ireturn, 1) := by decide +kernel
theorem dX12_why_12 : decode cX12_why 12 = .ok (.aload_n 0, 1) := by decide +kernel
theorem dX12_why_13 : decode cX12_why 13 = .ok (.invokevirtual 274, 3) := by decide +kernel
theorem dX12_why_16 : decode cX12_why 16 = .ok (.aload_n 0, 1) := by decide +kernel
theorem dX12_why_17 : decode cX12_why 17 = .ok (.iload_n 1, 1) := by decide +kernel
theorem dX12_why_18 : decode cX12_why 18 = .ok (.invokevirtual 286, 3) := by decide +kernel
theorem dX12_why_21 : decode cX12_why 21 = .ok (.iconst 0, 1) := by decide +kernel
theorem dX12_why_22 : decode cX12_why 22 = .ok (.istore_n 3, 1) := by decide +kernel
theorem dX12_why_23 : decode cX12_why 23 = .ok (.iload_n 3, 1) := by decide +kernel
theorem dX12_why_24 : decode cX12_why 24 = .ok (.bipush 6, 2) := by decide +kernel
theorem dX12_why_26 : decode cX12_why 26 = .ok (.if_icmp .ge 13, 3) := by decide +kernel
theorem dX12_why_29 : decode cX12_why 29 = .ok (.aload_n 0, 1) := by decide +kernel
theorem dX12_why_30 : decode cX12_why 30 = .ok (.invokevirtual 289, 3) := by decide +kernel
theorem dX12_why_33 : decode cX12_why 33 = .ok (.iinc 3 1, 3) := by decide +kernel
theorem dX12_why_36 : decode cX12_why 36 = .ok (.goto (-13), 3) := by decide +kernel
theorem dX12_why_39 : decode cX12_why 39 = .ok (.iconst 0, 1) := by decide +kernel
theorem dX12_why_40 : decode cX12_why 40 = .ok (.istore_n 3, 1) := by decide +kernel
theorem dX12_why_41 : decode cX12_why 41 = .ok (.iload_n 3, 1) := by decide +kernel
theorem dX12_why_42 : decode cX12_why 42 = .ok (.bipush 16, 2) := by decide +kernel
theorem dX12_why_44 : decode cX12_why 44 = .ok (.if_icmp .ge 21, 3) := by decide +kernel
theorem dX12_why_47 : decode cX12_why 47 = .ok (.aload_n 0, 1) := by decide +kernel
theorem dX12_why_48 : decode cX12_why 48 = .ok (.getfield 87, 3) := by decide +kernel
theorem dX12_why_51 : decode cX12_why 51 = .ok (.iload_n 3, 1) := by decide +kernel
theorem dX12_why_52 : decode cX12_why 52 = .ok (.aload_n 0, 1) := by decide +kernel
theorem dX12_why_53 : decode cX12_why 53 = .ok (.getfield 66, 3) := by decide +kernel
theorem dX12_why_56 : decode cX12_why 56 = .ok (.iload_n 3, 1) := by decide +kernel
theorem dX12_why_57 : decode cX12_why 57 = .ok (.iaload, 1) := by decide +kernel
theorem dX12_why_58 : decode cX12_why 58 = .ok (.iastore, 1) := by decide +kernel
theorem dX12_why_59 : decode cX12_why 59 = .ok (.iinc 3 1, 3) := by decide +kernel
theorem dX12_why_62 : decode cX12_why 62 = .ok (.goto (-21), 3) := by decide +kernel
theorem dX12_why_65 : decode cX12_why 65 = .ok (.aload_n 0, 1) := by decide +kernel
theorem dX12_why_66 : decode cX12_why 66 = .ok (.iconst 0, 1) := by decide +kernel
theorem dX12_why_67 : decode cX12_why 67 = .ok (.invokevirtual 310, 3) := by decide +kernel
theorem dX12_why_70 : decode cX12_why 70 = .ok (.ifCond .eq 5, 3) := by decide +kernel
theorem dX12_why_73 : decode cX12_why 73 = .ok (.iconst (-1), 1) := by decide +kernel
theorem dX12_why_74 : decode cX12_why 74 = .ok (.ireturn, 1) := by decide +kernel
theorem dX12_why_75 : decode cX12_why 75 = .ok (.aload_n 0, 1) := by decide +kernel
theorem dX12_why_76 : decode cX12_why 76 = .ok (.iconst 1, 1) := by decide +kernel
theorem dX12_why_77 : decode cX12_why 77 = .ok (.invokevirtual 310, 3) := by decide +kernel
theorem dX12_why_80 : decode cX12_why 80 = .ok (.ifCond .eq 7, 3) := by decide +kernel
theorem dX12_why_83 : decode cX12_why 83 = .ok (.iconst 1, 1) := by decide +kernel
theorem dX12_why_84 : decode cX12_why 84 = .ok (.goto 4, 3) := by decide +kernel
theorem dX12_why_87 : decode cX12_why 87 = .ok (.iconst 0, 1) := by decide +kernel
theorem dX12_why_88 : decode cX12_why 88 = .ok (.aload_n 0, 1) := by decide +kernel
theorem dX12_why_89 : decode cX12_why 89 = .ok (.iconst 2, 1) := by decide +kernel
theorem dX12_why_90 : decode cX12_why 90 = .ok (.invokevirtual 310, 3) := by decide +kernel
theorem dX12_why_93 : decode cX12_why 93 = .ok (.ifCond .eq 7, 3) := by decide +kernel
theorem dX12_why_96 : decode cX12_why 96 = .ok (.iconst 2, 1) := by decide +kernel
theorem dX12_why_97 : decode cX12_why 97 = .ok (.goto 4, 3) := by decide +kernel
theorem dX12_why_100 : decode cX12_why 100 = .ok (.iconst 0, 1) := by decide +kernel
theorem dX12_why_101 : decode cX12_why 101 = .ok (.iadd, 1) := by decide +kernel
theorem dX12_why_102 : decode cX12_why 102 = .ok (.aload_n 0, 1) := by decide +kernel
theorem dX12_why_103 : decode cX12_why 103 = .ok (.iconst 4, 1) := by decide +kernel
theorem dX12_why_104 : decode cX12_why 104 = .ok (.invokevirtual 310, 3) := by decide +kernel
theorem dX12_why_107 : decode cX12_why 107 = .ok (.ifCond .eq 7, 3) := by decide +kernel
theorem dX12_why_110 : decode cX12_why 110 = .ok (.iconst 4, 1) := by decide +kernel
theorem dX12_why_111 : decode cX12_why 111 = .ok (.goto 4, 3) := by decide +kernel
theorem dX12_why_114 : decode cX12_why 114 = .ok (.iconst 0, 1) := by decide +kernel
theorem dX12_why_115 : decode cX12_why 115 = .ok (.iadd, 1) := by decide +kernel
theorem dX12_why_116 : decode cX12_why 116 = .ok (.ireturn, 1) := by decide +kernel
theorem dX12_bestFire_0 : decode cX12_bestFire 0 = .ok (.aload_n 0, 1) := by decide +kernel
theorem dX12_bestFire_1 : decode cX12_bestFire 1 = .ok (.iload_n 1, 1) := by decide +kernel
theorem dX12_bestFire_2 : decode cX12_bestFire 2 = .ok (.invokevirtual 283, 3) := by decide +kernel
theorem dX12_bestFire_5 : decode cX12_bestFire 5 = .ok (.istore 4, 2) := by decide +kernel
theorem dX12_bestFire_7 : decode cX12_bestFire 7 = .ok (.iload 4, 2) := by decide +kernel
theorem dX12_bestFire_9 : decode cX12_bestFire 9 = .ok (.ifCond .eq 6, 3) := by decide +kernel
theorem dX12_bestFire_12 : decode cX12_bestFire 12 = .ok (.iload 4, 2) := by decide +kernel
theorem dX12_bestFire_14 : decode cX12_bestFire 14 = .ok (.ireturn, 1) := by decide +kernel
theorem dX12_bestFire_15 : decode cX12_bestFire 15 = .ok (.iload_n 2, 1) := by decide +kernel
theorem dX12_bestFire_16 : decode cX12_bestFire 16 = .ok (.iconst 1, 1) := by decide +kernel
theorem dX12_bestFire_17 : decode cX12_bestFire 17 = .ok (.bipush 12, 2) := by decide +kernel
theorem dX12_bestFire_19 : decode cX12_bestFire 19 = .ok (.invokestatic 102, 3) := by decide +kernel
theorem dX12_bestFire_22 : decode cX12_bestFire 22 = .ok (.ifCond .eq 12, 3) := by decide +kernel
theorem dX12_bestFire_25 : decode cX12_bestFire 25 = .ok (.iload_n 3, 1) := by decide +kernel
theorem dX12_bestFire_26 : decode cX12_bestFire 26 = .ok (.iconst 0, 1) := by decide +kernel
theorem dX12_bestFire_27 : decode cX12_bestFire 27 = .ok (.iconst 1, 1) := by decide +kernel
theorem dX12_bestFire_28 : decode cX12_bestFire 28 = .ok (.invokestatic 102, 3) := by decide +kernel
theorem dX12_bestFire_31 : decode cX12_bestFire 31 = .ok (.ifCond .ne 6, 3) := by decide +kernel
theorem dX12_bestFire_34 : decode cX12_bestFire 34 = .ok (.bipush (-102), 2) := by decide +kernel
theorem dX12_bestFire_36 : decode cX12_bestFire 36 = .ok (.ireturn, 1) := by decide +kernel
theorem dX12_bestFire_37 : decode cX12_bestFire 37 = .ok (.iconst 0, 1) := by decide +kernel
theorem dX12_bestFire_38 : decode cX12_bestFire 38 = .ok (.istore 5, 2) := by decide +kernel
theorem dX12_bestFire_40 : decode cX12_bestFire 40 = .ok (.iconst (-1), 1) := by decide +kernel
theorem dX12_bestFire_41 : decode cX12_bestFire 41 = .ok (.istore 6, 2) := by decide +kernel
theorem dX12_bestFire_43 : decode cX12_bestFire 43 = .ok (.iconst 1, 1) := by decide +kernel
theorem dX12_bestFire_44 : decode cX12_bestFire 44 = .ok (.istore 7, 2) := by decide +kernel
theorem dX12_bestFire_46 : decode cX12_bestFire 46 = .ok (.iload 7, 2) := by decide +kernel
theorem dX12_bestFire_48 : decode cX12_bestFire 48 = .ok (.bipush 10, 2) := by decide +kernel
theorem dX12_bestFire_50 : decode cX12_bestFire 50 = .ok (.if_icmp .ge 87, 3) := by decide +kernel
theorem dX12_bestFire_53 : decode cX12_bestFire 53 = .ok (.aload_n 0, 1) := by decide +kernel
theorem dX12_bestFire_54 : decode cX12_bestFire 54 = .ok (.invokevirtual 274, 3) := by decide +kernel
theorem dX12_bestFire_57 : decode cX12_bestFire 57 = .ok (.aload_n 0, 1) := by decide +kernel
theorem dX12_bestFire_58 : decode cX12_bestFire 58 = .ok (.iload_n 1, 1) := by decide +kernel
theorem dX12_bestFire_59 : decode cX12_bestFire 59 = .ok (.invokevirtual 286, 3) := by decide +kernel
theorem dX12_bestFire_62 : decode cX12_bestFire 62 = .ok (.aload_n 0, 1) := by decide +kernel
theorem dX12_bestFire_63 : decode cX12_bestFire 63 = .ok (.iload 7, 2) := by decide +kernel
theorem dX12_bestFire_65 : decode cX12_bestFire 65 = .ok (.putfield 215, 3) := by decide +kernel
theorem dX12_bestFire_68 : decode cX12_bestFire 68 = .ok (.iconst 0, 1) := by decide +kernel
theorem dX12_bestFire_69 : decode cX12_bestFire 69 = .ok (.istore 8, 2) := by decide +kernel
theorem dX12_bestFire_71 : decode cX12_bestFire 71 = .ok (.iconst 0, 1) := by decide +kernel
theorem dX12_bestFire_72 : decode cX12_bestFire 72 = .ok (.istore 9, 2) := by decide +kernel
theorem dX12_bestFire_74 : decode cX12_bestFire 74 = .ok (.iload 9, 2) := by decide +kernel
theorem dX12_bestFire_76 : decode cX12_bestFire 76 = .ok (.iload_n 2, 1) := by decide +kernel
theorem dX12_bestFire_77 : decode cX12_bestFire 77 = .ok (.if_icmp .ge 22, 3) := by decide +kernel
theorem dX12_bestFire_80 : decode cX12_bestFire 80 = .ok (.aload_n 0, 1) := by decide +kernel
theorem dX12_bestFire_81 : decode cX12_bestFire 81 = .ok (.invokevirtual 289, 3) := by decide +kernel
theorem dX12_bestFire_84 : decode cX12_bestFire 84 = .ok (.iload 8, 2) := by decide +kernel
theorem dX12_bestFire_86 : decode cX12_bestFire 86 = .ok (.aload_n 0, 1) := by decide +kernel
theorem dX12_bestFire_87 : decode cX12_bestFire 87 = .ok (.getfield 261, 3) := by decide +kernel
theorem dX12_bestFire_90 : decode cX12_bestFire 90 = .ok (.iadd, 1) := by decide +kernel
theorem dX12_bestFire_91 : decode cX12_bestFire 91 = .ok (.istore 8, 2) := by decide +kernel
theorem dX12_bestFire_93 : decode cX12_bestFire 93 = .ok (.iinc 9 1, 3) := by decide +kernel
theorem dX12_bestFire_96 : decode cX12_bestFire 96 = .ok (.goto (-22), 3) := by decide +kernel
theorem dX12_bestFire_99 : decode cX12_bestFire 99 = .ok (.iload 8, 2) := by decide +kernel
theorem dX12_bestFire_101 : decode cX12_bestFire 101 = .ok (.iload 6, 2) := by decide +kernel
theorem dX12_bestFire_103 : decode cX12_bestFire 103 = .ok (.if_icmp .le 8, 3) := by decide +kernel
theorem dX12_bestFire_106 : decode cX12_bestFire 106 = .ok (.iload 7, 2) := by decide +kernel
theorem dX12_bestFire_108 : decode cX12_bestFire 108 = .ok (.goto 5, 3) := by decide +kernel
theorem dX12_bestFire_111 : decode cX12_bestFire 111 = .ok (.iload 5, 2) := by decide +kernel
theorem dX12_bestFire_113 : decode cX12_bestFire 113 = .ok (.istore 5, 2) := by decide +kernel
theorem dX12_bestFire_115 : decode cX12_bestFire 115 = .ok (.iload 8, 2) := by decide +kernel
theorem dX12_bestFire_117 : decode cX12_bestFire 117 = .ok (.iload 6, 2) := by decide +kernel
theorem dX12_bestFire_119 : decode cX12_bestFire 119 = .ok (.if_icmp .le 8, 3) := by decide +kernel
theorem dX12_bestFire_122 : decode cX12_bestFire 122 = .ok (.iload 8, 2) := by decide +kernel
theorem dX12_bestFire_124 : decode cX12_bestFire 124 = .ok (.goto 5, 3) := by decide +kernel
theorem dX12_bestFire_127 : decode cX12_bestFire 127 = .ok (.iload 6, 2) := by decide +kernel
theorem dX12_bestFire_129 : decode cX12_bestFire 129 = .ok (.istore 6, 2) := by decide +kernel
theorem dX12_bestFire_131 : decode cX12_bestFire 131 = .ok (.iinc 7 1, 3) := by decide +kernel
theorem dX12_bestFire_134 : decode cX12_bestFire 134 = .ok (.goto (-88), 3) := by decide +kernel
theorem dX12_bestFire_137 : decode cX12_bestFire 137 = .ok (.iload_n 3, 1) := by decide +kernel
theorem dX12_bestFire_138 : decode cX12_bestFire 138 = .ok (.ifCond .ne 8, 3) := by decide +kernel
theorem dX12_bestFire_141 : decode cX12_bestFire 141 = .ok (.iload 5, 2) := by decide +kernel
theorem dX12_bestFire_143 : decode cX12_bestFire 143 = .ok (.goto 5, 3) := by decide +kernel
theorem dX12_bestFire_146 : decode cX12_bestFire 146 = .ok (.iload 6, 2) := by decide +kernel
theorem dX12_bestFire_148 : decode cX12_bestFire 148 = .ok (.ireturn, 1) := by decide +kernel
theorem dX12_bestSwing_0 : decode cX12_bestSwing 0 = .ok (.aload_n 0, 1) := by decide +kernel
theorem dX12_bestSwing_1 : decode cX12_bestSwing 1 = .ok (.iload_n 1, 1) := by decide +kernel
theorem dX12_bestSwing_2 : decode cX12_bestSwing 2 = .ok (.invokevirtual 283, 3) := by decide +kernel
theorem dX12_bestSwing_5 : decode cX12_bestSwing 5 = .ok (.istore 4, 2) := by decide +kernel
theorem dX12_bestSwing_7 : decode cX12_bestSwing 7 = .ok (.iload 4, 2) := by decide +kernel
theorem dX12_bestSwing_9 : decode cX12_bestSwing 9 = .ok (.ifCond .eq 6, 3) := by decide +kernel
theorem dX12_bestSwing_12 : decode cX12_bestSwing 12 = .ok (.iload 4, 2) := by decide +kernel
theorem dX12_bestSwing_14 : decode cX12_bestSwing 14 = .ok (.ireturn, 1) := by decide +kernel
theorem dX12_bestSwing_15 : decode cX12_bestSwing 15 = .ok (.iload_n 2, 1) := by decide +kernel
theorem dX12_bestSwing_16 : decode cX12_bestSwing 16 = .ok (.iconst 1, 1) := by decide +kernel
theorem dX12_bestSwing_17 : decode cX12_bestSwing 17 = .ok (.iconst 3, 1) := by decide +kernel
theorem dX12_bestSwing_18 : decode cX12_bestSwing 18 = .ok (.invokestatic 102, 3) := by decide +kernel
theorem dX12_bestSwing_21 : decode cX12_bestSwing 21 = .ok (.ifCond .eq 12, 3) := by decide +kernel
theorem dX12_bestSwing_24 : decode cX12_bestSwing 24 = .ok (.iload_n 3, 1) := by decide +kernel
theorem dX12_bestSwing_25 : decode cX12_bestSwing 25 = .ok (.iconst 0, 1) := by decide +kernel
theorem dX12_bestSwing_26 : decode cX12_bestSwing 26 = .ok (.iconst 3, 1) := by decide +kernel
theorem dX12_bestSwing_27 : decode cX12_bestSwing 27 = .ok (.invokestatic 102, 3) := by decide +kernel
theorem dX12_bestSwing_30 : decode cX12_bestSwing 30 = .ok (.ifCond .ne 6, 3) := by decide +kernel
theorem dX12_bestSwing_33 : decode cX12_bestSwing 33 = .ok (.bipush (-102), 2) := by decide +kernel
theorem dX12_bestSwing_35 : decode cX12_bestSwing 35 = .ok (.ireturn, 1) := by decide +kernel
theorem dX12_bestSwing_36 : decode cX12_bestSwing 36 = .ok (.aload_n 0, 1) := by decide +kernel
theorem dX12_bestSwing_37 : decode cX12_bestSwing 37 = .ok (.getfield 313, 3) := by decide +kernel
theorem dX12_bestSwing_40 : decode cX12_bestSwing 40 = .ok (.bipush 30, 2) := by decide +kernel
theorem dX12_bestSwing_42 : decode cX12_bestSwing 42 = .ok (.if_icmp .ne 6, 3) := by decide +kernel
theorem dX12_bestSwing_45 : decode cX12_bestSwing 45 = .ok (.bipush (-103), 2) := by decide +kernel
theorem dX12_bestSwing_47 : decode cX12_bestSwing 47 = .ok (.ireturn, 1) := by decide +kernel
theorem dX12_bestSwing_48 : decode cX12_bestSwing 48 = .ok (.aload_n 0, 1) := by decide +kernel
theorem dX12_bestSwing_49 : decode cX12_bestSwing 49 = .ok (.dup, 1) := by decide +kernel
theorem dX12_bestSwing_50 : decode cX12_bestSwing 50 = .ok (.getfield 313, 3) := by decide +kernel
theorem dX12_bestSwing_53 : decode cX12_bestSwing 53 = .ok (.iconst 1, 1) := by decide +kernel
theorem dX12_bestSwing_54 : decode cX12_bestSwing 54 = .ok (.iadd, 1) := by decide +kernel
theorem dX12_bestSwing_55 : decode cX12_bestSwing 55 = .ok (.putfield 313, 3) := by decide +kernel
theorem dX12_bestSwing_58 : decode cX12_bestSwing 58 = .ok (.iconst 0, 1) := by decide +kernel
theorem dX12_bestSwing_59 : decode cX12_bestSwing 59 = .ok (.istore 5, 2) := by decide +kernel
theorem dX12_bestSwing_61 : decode cX12_bestSwing 61 = .ok (.ldc 242, 2) := by decide +kernel
theorem dX12_bestSwing_63 : decode cX12_bestSwing 63 = .ok (.istore 6, 2) := by decide +kernel
theorem dX12_bestSwing_65 : decode cX12_bestSwing 65 = .ok (.iconst 0, 1) := by decide +kernel
theorem dX12_bestSwing_66 : decode cX12_bestSwing 66 = .ok (.istore 7, 2) := by decide +kernel
theorem dX12_bestSwing_68 : decode cX12_bestSwing 68 = .ok (.iload 7, 2) := by decide +kernel
theorem dX12_bestSwing_70 : decode cX12_bestSwing 70 = .ok (.iconst 1, 1) := by decide +kernel
theorem dX12_bestSwing_71 : decode cX12_bestSwing 71 = .ok (.iconst 2, 1) := by decide +kernel
theorem dX12_bestSwing_72 : decode cX12_bestSwing 72 = .ok (.iload_n 2, 1) := by decide +kernel
theorem dX12_bestSwing_73 : decode cX12_bestSwing 73 = .ok (.imul, 1) := by decide +kernel
theorem dX12_bestSwing_74 : decode cX12_bestSwing 74 = .ok (.ishl, 1) := by decide +kernel
theorem dX12_bestSwing_75 : decode cX12_bestSwing 75 = .ok (.if_icmp .ge 100, 3) := by decide +kernel
theorem dX12_bestSwing_78 : decode cX12_bestSwing 78 = .ok (.aload_n 0, 1) := by decide +kernel
theorem dX12_bestSwing_79 : decode cX12_bestSwing 79 = .ok (.invokevirtual 274, 3) := by decide +kernel
theorem dX12_bestSwing_82 : decode cX12_bestSwing 82 = .ok (.aload_n 0, 1) := by decide +kernel
theorem dX12_bestSwing_83 : decode cX12_bestSwing 83 = .ok (.iload_n 1, 1) := by decide +kernel
theorem dX12_bestSwing_84 : decode cX12_bestSwing 84 = .ok (.invokevirtual 286, 3) := by decide +kernel
theorem dX12_bestSwing_87 : decode cX12_bestSwing 87 = .ok (.aload_n 0, 1) := by decide +kernel
theorem dX12_bestSwing_88 : decode cX12_bestSwing 88 = .ok (.iload_n 2, 1) := by decide +kernel
theorem dX12_bestSwing_89 : decode cX12_bestSwing 89 = .ok (.putfield 227, 3) := by decide +kernel
theorem dX12_bestSwing_92 : decode cX12_bestSwing 92 = .ok (.iconst 0, 1) := by decide +kernel
theorem dX12_bestSwing_93 : decode cX12_bestSwing 93 = .ok (.istore 8, 2) := by decide +kernel
theorem dX12_bestSwing_95 : decode cX12_bestSwing 95 = .ok (.iload 8, 2) := by decide +kernel
theorem dX12_bestSwing_97 : decode cX12_bestSwing 97 = .ok (.iload_n 2, 1) := by decide +kernel
theorem dX12_bestSwing_98 : decode cX12_bestSwing 98 = .ok (.if_icmp .ge 29, 3) := by decide +kernel
theorem dX12_bestSwing_101 : decode cX12_bestSwing 101 = .ok (.aload_n 0, 1) := by decide +kernel
theorem dX12_bestSwing_102 : decode cX12_bestSwing 102 = .ok (.getfield 72, 3) := by decide +kernel
theorem dX12_bestSwing_105 : decode cX12_bestSwing 105 = .ok (.iload 8, 2) := by decide +kernel
theorem dX12_bestSwing_107 : decode cX12_bestSwing 107 = .ok (.iload 7, 2) := by decide +kernel
theorem dX12_bestSwing_109 : decode cX12_bestSwing 109 = .ok (.iconst 2, 1) := by decide +kernel
theorem dX12_bestSwing_110 : decode cX12_bestSwing 110 = .ok (.iload_n 2, 1) := by decide +kernel
theorem dX12_bestSwing_111 : decode cX12_bestSwing 111 = .ok (.iconst 1, 1) := by decide +kernel
theorem dX12_bestSwing_112 : decode cX12_bestSwing 112 = .ok (.isub, 1) := by decide +kernel
theorem dX12_bestSwing_113 : decode cX12_bestSwing 113 = .ok (.iload 8, 2) := by decide +kernel
theorem dX12_bestSwing_115 : decode cX12_bestSwing 115 = .ok (.isub, 1) := by decide +kernel
theorem dX12_bestSwing_116 : decode cX12_bestSwing 116 = .ok (.imul, 1) := by decide +kernel
theorem dX12_bestSwing_117 : decode cX12_bestSwing 117 = .ok (.ishr, 1) := by decide +kernel
theorem dX12_bestSwing_118 : decode cX12_bestSwing 118 = .ok (.iconst 3, 1) := by decide +kernel
theorem dX12_bestSwing_119 : decode cX12_bestSwing 119 = .ok (.iand, 1) := by decide +kernel
theorem dX12_bestSwing_120 : decode cX12_bestSwing 120 = .ok (.iastore, 1) := by decide +kernel
theorem dX12_bestSwing_121 : decode cX12_bestSwing 121 = .ok (.iinc 8 1, 3) := by decide +kernel
theorem dX12_bestSwing_124 : decode cX12_bestSwing 124 = .ok (.goto (-29), 3) := by decide +kernel
theorem dX12_bestSwing_127 : decode cX12_bestSwing 127 = .ok (.aload_n 0, 1) := by decide +kernel
theorem dX12_bestSwing_128 : decode cX12_bestSwing 128 = .ok (.invokevirtual 289, 3) := by decide +kernel
theorem dX12_bestSwing_131 : decode cX12_bestSwing 131 = .ok (.aload_n 0, 1) := by decide +kernel
theorem dX12_bestSwing_132 : decode cX12_bestSwing 132 = .ok (.getfield 252, 3) := by decide +kernel
theorem dX12_bestSwing_135 : decode cX12_bestSwing 135 = .ok (.iload 6, 2) := by decide +kernel
theorem dX12_bestSwing_137 : decode cX12_bestSwing 137 = .ok (.if_icmp .ge 8, 3) := by decide +kernel
theorem dX12_bestSwing_140 : decode cX12_bestSwing 140 = .ok (.iload 7, 2) := by decide +kernel
theorem dX12_bestSwing_142 : decode cX12_bestSwing 142 = .ok (.goto 5, 3) := by decide +kernel
theorem dX12_bestSwing_145 : decode cX12_bestSwing 145 = .ok (.iload 5, 2) := by decide +kernel
theorem dX12_bestSwing_147 : decode cX12_bestSwing 147 = .ok (.istore 5, 2) := by decide +kernel
theorem dX12_bestSwing_149 : decode cX12_bestSwing 149 = .ok (.aload_n 0, 1) := by decide +kernel
theorem dX12_bestSwing_150 : decode cX12_bestSwing 150 = .ok (.getfield 252, 3) := by decide +kernel
theorem dX12_bestSwing_153 : decode cX12_bestSwing 153 = .ok (.iload 6, 2) := by decide +kernel
theorem dX12_bestSwing_155 : decode cX12_bestSwing 155 = .ok (.if_icmp .ge 10, 3) := by decide +kernel
theorem dX12_bestSwing_158 : decode cX12_bestSwing 158 = .ok (.aload_n 0, 1) := by decide +kernel
theorem dX12_bestSwing_159 : decode cX12_bestSwing 159 = .ok (.getfield 252, 3) := by decide +kernel
theorem dX12_bestSwing_162 : decode cX12_bestSwing 162 = .ok (.goto 5, 3) := by decide +kernel
theorem dX12_bestSwing_165 : decode cX12_bestSwing 165 = .ok (.iload 6, 2) := by decide +kernel
theorem dX12_bestSwing_167 : decode cX12_bestSwing 167 = .ok (.istore 6, 2) := by decide +kernel
theorem dX12_bestSwing_169 : decode cX12_bestSwing 169 = .ok (.iinc 7 1, 3) := by decide +kernel
theorem dX12_bestSwing_172 : decode cX12_bestSwing 172 = .ok (.goto (-104), 3) := by decide +kernel
theorem dX12_bestSwing_175 : decode cX12_bestSwing 175 = .ok (.iload_n 3, 1) := by decide +kernel
theorem dX12_bestSwing_176 : decode cX12_bestSwing 176 = .ok (.iconst 3, 1) := by decide +kernel
theorem dX12_bestSwing_177 : decode cX12_bestSwing 177 = .ok (.if_icmp .ne 8, 3) := by decide +kernel
theorem dX12_bestSwing_180 : decode cX12_bestSwing 180 = .ok (.iload 6, 2) := by decide +kernel
theorem dX12_bestSwing_182 : decode cX12_bestSwing 182 = .ok (.goto 24, 3) := by decide +kernel
theorem dX12_bestSwing_185 : decode cX12_bestSwing 185 = .ok (.iload_n 3, 1) := by decide +kernel
theorem dX12_bestSwing_186 : decode cX12_bestSwing 186 = .ok (.iload_n 2, 1) := by decide +kernel
theorem dX12_bestSwing_187 : decode cX12_bestSwing 187 = .ok (.if_icmp .ge 18, 3) := by decide +kernel
theorem dX12_bestSwing_190 : decode cX12_bestSwing 190 = .ok (.iload 5, 2) := by decide +kernel
theorem dX12_bestSwing_192 : decode cX12_bestSwing 192 = .ok (.iconst 2, 1) := by decide +kernel
theorem dX12_bestSwing_193 : decode cX12_bestSwing 193 = .ok (.iload_n 2, 1) := by decide +kernel
theorem dX12_bestSwing_194 : decode cX12_bestSwing 194 = .ok (.iconst 1, 1) := by decide +kernel
theorem dX12_bestSwing_195 : decode cX12_bestSwing 195 = .ok (.isub, 1) := by decide +kernel
theorem dX12_bestSwing_196 : decode cX12_bestSwing 196 = .ok (.iload_n 3, 1) := by decide +kernel
theorem dX12_bestSwing_197 : decode cX12_bestSwing 197 = .ok (.isub, 1) := by decide +kernel
theorem dX12_bestSwing_198 : decode cX12_bestSwing 198 = .ok (.imul, 1) := by decide +kernel
theorem dX12_bestSwing_199 : decode cX12_bestSwing 199 = .ok (.ishr, 1) := by decide +kernel
theorem dX12_bestSwing_200 : decode cX12_bestSwing 200 = .ok (.iconst 3, 1) := by decide +kernel
theorem dX12_bestSwing_201 : decode cX12_bestSwing 201 = .ok (.iand, 1) := by decide +kernel
theorem dX12_bestSwing_202 : decode cX12_bestSwing 202 = .ok (.goto 4, 3) := by decide +kernel
theorem dX12_bestSwing_205 : decode cX12_bestSwing 205 = .ok (.iconst (-1), 1) := by decide +kernel
theorem dX12_bestSwing_206 : decode cX12_bestSwing 206 = .ok (.ireturn, 1) := by decide +kernel
theorem dX12_nextTwo_0 : decode cX12_nextTwo 0 = .ok (.aload_n 0, 1) := by decide +kernel
theorem dX12_nextTwo_1 : decode cX12_nextTwo 1 = .ok (.getfield 190, 3) := by decide +kernel
theorem dX12_nextTwo_4 : decode cX12_nextTwo 4 = .ok (.ifCond .eq 10, 3) := by decide +kernel
theorem dX12_nextTwo_7 : decode cX12_nextTwo 7 = .ok (.aload_n 0, 1) := by decide +kernel
theorem dX12_nextTwo_8 : decode cX12_nextTwo 8 = .ok (.getfield 193, 3) := by decide +kernel
theorem dX12_nextTwo_11 : decode cX12_nextTwo 11 = .ok (.ifCond .ne 6, 3) := by decide +kernel
theorem dX12_nextTwo_14 : decode cX12_nextTwo 14 = .ok (.bipush (-103), 2) := by decide +kernel
theorem dX12_nextTwo_16 : decode cX12_nextTwo 16 = .ok (.ireturn, 1) := by decide +kernel
theorem dX12_nextTwo_17 : decode cX12_nextTwo 17 = .ok (.iload_n 1, 1) := by decide +kernel
theorem dX12_nextTwo_18 : decode cX12_nextTwo 18 = .ok (.iconst 0, 1) := by decide +kernel
theorem dX12_nextTwo_19 : decode cX12_nextTwo 19 = .ok (.iconst 2, 1) := by decide +kernel
theorem dX12_nextTwo_20 : decode cX12_nextTwo 20 = .ok (.invokestatic 102, 3) := by decide +kernel
theorem dX12_nextTwo_23 : decode cX12_nextTwo 23 = .ok (.ifCond .ne 6, 3) := by decide +kernel
theorem dX12_nextTwo_26 : decode cX12_nextTwo 26 = .ok (.bipush (-102), 2) := by decide +kernel
theorem dX12_nextTwo_28 : decode cX12_nextTwo 28 = .ok (.ireturn, 1) := by decide +kernel
theorem dX12_nextTwo_29 : decode cX12_nextTwo 29 = .ok (.aload_n 0, 1) := by decide +kernel
theorem dX12_nextTwo_30 : decode cX12_nextTwo 30 = .ok (.getfield 313, 3) := by decide +kernel
theorem dX12_nextTwo_33 : decode cX12_nextTwo 33 = .ok (.bipush 30, 2) := by decide +kernel
theorem dX12_nextTwo_35 : decode cX12_nextTwo 35 = .ok (.if_icmp .ne 6, 3) := by decide +kernel
theorem dX12_nextTwo_38 : decode cX12_nextTwo 38 = .ok (.bipush (-103), 2) := by decide +kernel
theorem dX12_nextTwo_40 : decode cX12_nextTwo 40 = .ok (.ireturn, 1) := by decide +kernel
theorem dX12_nextTwo_41 : decode cX12_nextTwo 41 = .ok (.aload_n 0, 1) := by decide +kernel
theorem dX12_nextTwo_42 : decode cX12_nextTwo 42 = .ok (.dup, 1) := by decide +kernel
theorem dX12_nextTwo_43 : decode cX12_nextTwo 43 = .ok (.getfield 313, 3) := by decide +kernel
theorem dX12_nextTwo_46 : decode cX12_nextTwo 46 = .ok (.iconst 1, 1) := by decide +kernel
theorem dX12_nextTwo_47 : decode cX12_nextTwo 47 = .ok (.iadd, 1) := by decide +kernel
theorem dX12_nextTwo_48 : decode cX12_nextTwo 48 = .ok (.putfield 313, 3) := by decide +kernel
theorem dX12_nextTwo_51 : decode cX12_nextTwo 51 = .ok (.iconst 0, 1) := by decide +kernel
theorem dX12_nextTwo_52 : decode cX12_nextTwo 52 = .ok (.istore_n 2, 1) := by decide +kernel
theorem dX12_nextTwo_53 : decode cX12_nextTwo 53 = .ok (.iconst (-1), 1) := by decide +kernel
theorem dX12_nextTwo_54 : decode cX12_nextTwo 54 = .ok (.istore_n 3, 1) := by decide +kernel
theorem dX12_nextTwo_55 : decode cX12_nextTwo 55 = .ok (.iconst 0, 1) := by decide +kernel
theorem dX12_nextTwo_56 : decode cX12_nextTwo 56 = .ok (.istore 4, 2) := by decide +kernel
theorem dX12_nextTwo_58 : decode cX12_nextTwo 58 = .ok (.iload 4, 2) := by decide +kernel
theorem dX12_nextTwo_60 : decode cX12_nextTwo 60 = .ok (.aload_n 0, 1) := by decide +kernel
theorem dX12_nextTwo_61 : decode cX12_nextTwo 61 = .ok (.getfield 193, 3) := by decide +kernel
theorem dX12_nextTwo_64 : decode cX12_nextTwo 64 = .ok (.aload_n 0, 1) := by decide +kernel
theorem dX12_nextTwo_65 : decode cX12_nextTwo 65 = .ok (.getfield 193, 3) := by decide +kernel
theorem dX12_nextTwo_68 : decode cX12_nextTwo 68 = .ok (.imul, 1) := by decide +kernel
theorem dX12_nextTwo_69 : decode cX12_nextTwo 69 = .ok (.if_icmp .ge 76, 3) := by decide +kernel
theorem dX12_nextTwo_72 : decode cX12_nextTwo 72 = .ok (.aload_n 0, 1) := by decide +kernel
theorem dX12_nextTwo_73 : decode cX12_nextTwo 73 = .ok (.iload 4, 2) := by decide +kernel
theorem dX12_nextTwo_75 : decode cX12_nextTwo 75 = .ok (.aload_n 0, 1) := by decide +kernel
theorem dX12_nextTwo_76 : decode cX12_nextTwo 76 = .ok (.getfield 193, 3) := by decide +kernel
theorem dX12_nextTwo_79 : decode cX12_nextTwo 79 = .ok (.idiv, 1) := by decide +kernel
theorem dX12_nextTwo_80 : decode cX12_nextTwo 80 = .ok (.invokevirtual 298, 3) := by decide +kernel
theorem dX12_nextTwo_83 : decode cX12_nextTwo 83 = .ok (.aload_n 0, 1) := by decide +kernel
theorem dX12_nextTwo_84 : decode cX12_nextTwo 84 = .ok (.getfield 261, 3) := by decide +kernel
theorem dX12_nextTwo_87 : decode cX12_nextTwo 87 = .ok (.istore 5, 2) := by decide +kernel
theorem dX12_nextTwo_89 : decode cX12_nextTwo 89 = .ok (.aload_n 0, 1) := by decide +kernel
theorem dX12_nextTwo_90 : decode cX12_nextTwo 90 = .ok (.iload 4, 2) := by decide +kernel
theorem dX12_nextTwo_92 : decode cX12_nextTwo 92 = .ok (.aload_n 0, 1) := by decide +kernel
theorem dX12_nextTwo_93 : decode cX12_nextTwo 93 = .ok (.getfield 193, 3) := by decide +kernel
theorem dX12_nextTwo_96 : decode cX12_nextTwo 96 = .ok (.irem, 1) := by decide +kernel
theorem dX12_nextTwo_97 : decode cX12_nextTwo 97 = .ok (.invokevirtual 286, 3) := by decide +kernel
theorem dX12_nextTwo_100 : decode cX12_nextTwo 100 = .ok (.aload_n 0, 1) := by decide +kernel
theorem dX12_nextTwo_101 : decode cX12_nextTwo 101 = .ok (.invokevirtual 289, 3) := by decide +kernel
theorem dX12_nextTwo_104 : decode cX12_nextTwo 104 = .ok (.iload 5, 2) := by decide +kernel
theorem dX12_nextTwo_106 : decode cX12_nextTwo 106 = .ok (.aload_n 0, 1) := by decide +kernel
theorem dX12_nextTwo_107 : decode cX12_nextTwo 107 = .ok (.getfield 261, 3) := by decide +kernel
theorem dX12_nextTwo_110 : decode cX12_nextTwo 110 = .ok (.iadd, 1) := by decide +kernel
theorem dX12_nextTwo_111 : decode cX12_nextTwo 111 = .ok (.istore 5, 2) := by decide +kernel
theorem dX12_nextTwo_113 : decode cX12_nextTwo 113 = .ok (.iload 5, 2) := by decide +kernel
theorem dX12_nextTwo_115 : decode cX12_nextTwo 115 = .ok (.iload_n 3, 1) := by decide +kernel
theorem dX12_nextTwo_116 : decode cX12_nextTwo 116 = .ok (.if_icmp .le 8, 3) := by decide +kernel
theorem dX12_nextTwo_119 : decode cX12_nextTwo 119 = .ok (.iload 4, 2) := by decide +kernel
theorem dX12_nextTwo_121 : decode cX12_nextTwo 121 = .ok (.goto 4, 3) := by decide +kernel
theorem dX12_nextTwo_124 : decode cX12_nextTwo 124 = .ok (.iload_n 2, 1) := by decide +kernel
theorem dX12_nextTwo_125 : decode cX12_nextTwo 125 = .ok (.istore_n 2, 1) := by decide +kernel
theorem dX12_nextTwo_126 : decode cX12_nextTwo 126 = .ok (.iload 5, 2) := by decide +kernel
theorem dX12_nextTwo_128 : decode cX12_nextTwo 128 = .ok (.iload_n 3, 1) := by decide +kernel
theorem dX12_nextTwo_129 : decode cX12_nextTwo 129 = .ok (.if_icmp .le 8, 3) := by decide +kernel
theorem dX12_nextTwo_132 : decode cX12_nextTwo 132 = .ok (.iload 5, 2) := by decide +kernel
theorem dX12_nextTwo_134 : decode cX12_nextTwo 134 = .ok (.goto 4, 3) := by decide +kernel
theorem dX12_nextTwo_137 : decode cX12_nextTwo 137 = .ok (.iload_n 3, 1) := by decide +kernel
theorem dX12_nextTwo_138 : decode cX12_nextTwo 138 = .ok (.istore_n 3, 1) := by decide +kernel
theorem dX12_nextTwo_139 : decode cX12_nextTwo 139 = .ok (.iinc 4 1, 3) := by decide +kernel
theorem dX12_nextTwo_142 : decode cX12_nextTwo 142 = .ok (.goto (-84), 3) := by decide +kernel
theorem dX12_nextTwo_145 : decode cX12_nextTwo 145 = .ok (.iload_n 1, 1) := by decide +kernel
theorem dX12_nextTwo_146 : decode cX12_nextTwo 146 = .ok (.ifCond .ne 12, 3) := by decide +kernel
theorem dX12_nextTwo_149 : decode cX12_nextTwo 149 = .ok (.iload_n 2, 1) := by decide +kernel
theorem dX12_nextTwo_150 : decode cX12_nextTwo 150 = .ok (.aload_n 0, 1) := by decide +kernel
theorem dX12_nextTwo_151 : decode cX12_nextTwo 151 = .ok (.getfield 193, 3) := by decide +kernel
theorem dX12_nextTwo_154 : decode cX12_nextTwo 154 = .ok (.idiv, 1) := by decide +kernel
theorem dX12_nextTwo_155 : decode cX12_nextTwo 155 = .ok (.goto 18, 3) := by decide +kernel
theorem dX12_nextTwo_158 : decode cX12_nextTwo 158 = .ok (.iload_n 1, 1) := by decide +kernel
theorem dX12_nextTwo_159 : decode cX12_nextTwo 159 = .ok (.iconst 1, 1) := by decide +kernel
theorem dX12_nextTwo_160 : decode cX12_nextTwo 160 = .ok (.if_icmp .ne 12, 3) := by decide +kernel
theorem dX12_nextTwo_163 : decode cX12_nextTwo 163 = .ok (.iload_n 2, 1) := by decide +kernel
theorem dX12_nextTwo_164 : decode cX12_nextTwo 164 = .ok (.aload_n 0, 1) := by decide +kernel
theorem dX12_nextTwo_165 : decode cX12_nextTwo 165 = .ok (.getfield 193, 3) := by decide +kernel
theorem dX12_nextTwo_168 : decode cX12_nextTwo 168 = .ok (.irem, 1) := by decide +kernel
theorem dX12_nextTwo_169 : decode cX12_nextTwo 169 = .ok (.goto 4, 3) := by decide +kernel
theorem dX12_nextTwo_172 : decode cX12_nextTwo 172 = .ok (.iload_n 3, 1) := by decide +kernel
theorem dX12_nextTwo_173 : decode cX12_nextTwo 173 = .ok (.ireturn, 1) := by decide +kernel
theorem dX12_longest_0 : decode cX12_longest 0 = .ok (.iconst 0, 1) := by decide +kernel
theorem dX12_longest_1 : decode cX12_longest 1 = .ok (.istore_n 2, 1) := by decide +kernel
theorem dX12_longest_2 : decode cX12_longest 2 = .ok (.iconst 1, 1) := by decide +kernel
theorem dX12_longest_3 : decode cX12_longest 3 = .ok (.istore_n 3, 1) := by decide +kernel
theorem dX12_longest_4 : decode cX12_longest 4 = .ok (.iload_n 3, 1) := by decide +kernel
theorem dX12_longest_5 : decode cX12_longest 5 = .ok (.iload_n 1, 1) := by decide +kernel
theorem dX12_longest_6 : decode cX12_longest 6 = .ok (.if_icmp .ge 30, 3) := by decide +kernel
theorem dX12_longest_9 : decode cX12_longest 9 = .ok (.aload_n 0, 1) := by decide +kernel
theorem dX12_longest_10 : decode cX12_longest 10 = .ok (.getfield 90, 3) := by decide +kernel
theorem dX12_longest_13 : decode cX12_longest 13 = .ok (.iload_n 3, 1) := by decide +kernel
theorem dX12_longest_14 : decode cX12_longest 14 = .ok (.iaload, 1) := by decide +kernel
theorem dX12_longest_15 : decode cX12_longest 15 = .ok (.aload_n 0, 1) := by decide +kernel
theorem dX12_longest_16 : decode cX12_longest 16 = .ok (.getfield 90, 3) := by decide +kernel
theorem dX12_longest_19 : decode cX12_longest 19 = .ok (.iload_n 2, 1) := by decide +kernel
theorem dX12_longest_20 : decode cX12_longest 20 = .ok (.iaload, 1) := by decide +kernel
theorem dX12_longest_21 : decode cX12_longest 21 = .ok (.if_icmp .ge 7, 3) := by decide +kernel
theorem dX12_longest_24 : decode cX12_longest 24 = .ok (.iload_n 3, 1) := by decide +kernel
theorem dX12_longest_25 : decode cX12_longest 25 = .ok (.goto 4, 3) := by decide +kernel
theorem dX12_longest_28 : decode cX12_longest 28 = .ok (.iload_n 2, 1) := by decide +kernel
theorem dX12_longest_29 : decode cX12_longest 29 = .ok (.istore_n 2, 1) := by decide +kernel
theorem dX12_longest_30 : decode cX12_longest 30 = .ok (.iinc 3 1, 3) := by decide +kernel
theorem dX12_longest_33 : decode cX12_longest 33 = .ok (.goto (-29), 3) := by decide +kernel
theorem dX12_longest_36 : decode cX12_longest 36 = .ok (.iload_n 2, 1) := by decide +kernel
theorem dX12_longest_37 : decode cX12_longest 37 = .ok (.ireturn, 1) := by decide +kernel
theorem dX12_rounds_0 : decode cX12_rounds 0 = .ok (.iload_n 1, 1) := by decide +kernel
theorem dX12_rounds_1 : decode cX12_rounds 1 = .ok (.iconst 1, 1) := by decide +kernel
theorem dX12_rounds_2 : decode cX12_rounds 2 = .ok (.bipush 9, 2) := by decide +kernel
theorem dX12_rounds_4 : decode cX12_rounds 4 = .ok (.invokestatic 102, 3) := by decide +kernel
theorem dX12_rounds_7 : decode cX12_rounds 7 = .ok (.ifCond .eq 27, 3) := by decide +kernel
theorem dX12_rounds_10 : decode cX12_rounds 10 = .ok (.iload_n 2, 1) := by decide +kernel
theorem dX12_rounds_11 : decode cX12_rounds 11 = .ok (.iconst 1, 1) := by decide +kernel
theorem dX12_rounds_12 : decode cX12_rounds 12 = .ok (.bipush 99, 2) := by decide +kernel
theorem dX12_rounds_14 : decode cX12_rounds 14 = .ok (.invokestatic 102, 3) := by decide +kernel
theorem dX12_rounds_17 : decode cX12_rounds 17 = .ok (.ifCond .eq 17, 3) := by decide +kernel
theorem dX12_rounds_20 : decode cX12_rounds 20 = .ok (.iload_n 3, 1) := by decide +kernel
theorem dX12_rounds_21 : decode cX12_rounds 21 = .ok (.iconst 1, 1) := by decide +kernel
theorem dX12_rounds_22 : decode cX12_rounds 22 = .ok (.bipush 99, 2) := by decide +kernel
theorem dX12_rounds_24 : decode cX12_rounds 24 = .ok (.invokestatic 102, 3) := by decide +kernel
theorem dX12_rounds_27 : decode cX12_rounds 27 = .ok (.ifCond .eq 7, 3) := by decide +kernel
theorem dX12_rounds_30 : decode cX12_rounds 30 = .ok (.iconst 1, 1) := by decide +kernel
theorem dX12_rounds_31 : decode cX12_rounds 31 = .ok (.goto 4, 3) := by decide +kernel
theorem dX12_rounds_34 : decode cX12_rounds 34 = .ok (.iconst 0, 1) := by decide +kernel
theorem dX12_rounds_35 : decode cX12_rounds 35 = .ok (.istore 7, 2) := by decide +kernel
theorem dX12_rounds_37 : decode cX12_rounds 37 = .ok (.iload 7, 2) := by decide +kernel
theorem dX12_rounds_39 : decode cX12_rounds 39 = .ok (.ifCond .eq 36, 3) := by decide +kernel
theorem dX12_rounds_42 : decode cX12_rounds 42 = .ok (.iload 4, 2) := by decide +kernel
theorem dX12_rounds_44 : decode cX12_rounds 44 = .ok (.iconst 1, 1) := by decide +kernel
theorem dX12_rounds_45 : decode cX12_rounds 45 = .ok (.bipush 9, 2) := by decide +kernel
theorem dX12_rounds_47 : decode cX12_rounds 47 = .ok (.invokestatic 102, 3) := by decide +kernel
theorem dX12_rounds_50 : decode cX12_rounds 50 = .ok (.ifCond .eq 25, 3) := by decide +kernel
theorem dX12_rounds_53 : decode cX12_rounds 53 = .ok (.iload 5, 2) := by decide +kernel
theorem dX12_rounds_55 : decode cX12_rounds 55 = .ok (.iconst 0, 1) := by decide +kernel
theorem dX12_rounds_56 : decode cX12_rounds 56 = .ok (.sipush 999, 3) := by decide +kernel
theorem dX12_rounds_59 : decode cX12_rounds 59 = .ok (.invokestatic 102, 3) := by decide +kernel
theorem dX12_rounds_62 : decode cX12_rounds 62 = .ok (.ifCond .eq 13, 3) := by decide +kernel
theorem dX12_rounds_65 : decode cX12_rounds 65 = .ok (.iload 6, 2) := by decide +kernel
theorem dX12_rounds_67 : decode cX12_rounds 67 = .ok (.iconst 0, 1) := by decide +kernel
theorem dX12_rounds_68 : decode cX12_rounds 68 = .ok (.iconst 1, 1) := by decide +kernel
theorem dX12_rounds_69 : decode cX12_rounds 69 = .ok (.invokestatic 102, 3) := by decide +kernel
theorem dX12_rounds_72 : decode cX12_rounds 72 = .ok (.ifCond .ne 6, 3) := by decide +kernel
theorem dX12_rounds_75 : decode cX12_rounds 75 = .ok (.bipush (-102), 2) := by decide +kernel
theorem dX12_rounds_77 : decode cX12_rounds 77 = .ok (.ireturn, 1) := by decide +kernel
theorem dX12_rounds_78 : decode cX12_rounds 78 = .ok (.iconst 0, 1) := by decide +kernel
theorem dX12_rounds_79 : decode cX12_rounds 79 = .ok (.istore 8, 2) := by decide +kernel
theorem dX12_rounds_81 : decode cX12_rounds 81 = .ok (.iload 8, 2) := by decide +kernel
theorem dX12_rounds_83 : decode cX12_rounds 83 = .ok (.bipush 9, 2) := by decide +kernel
theorem dX12_rounds_85 : decode cX12_rounds 85 = .ok (.if_icmp .ge 25, 3) := by decide +kernel
theorem dX12_rounds_88 : decode cX12_rounds 88 = .ok (.aload_n 0, 1) := by decide +kernel
theorem dX12_rounds_89 : decode cX12_rounds 89 = .ok (.getfield 90, 3) := by decide +kernel
theorem dX12_rounds_92 : decode cX12_rounds 92 = .ok (.iload 8, 2) := by decide +kernel
theorem dX12_rounds_94 : decode cX12_rounds 94 = .ok (.iconst 0, 1) := by decide +kernel
theorem dX12_rounds_95 : decode cX12_rounds 95 = .ok (.iastore, 1) := by decide +kernel
theorem dX12_rounds_96 : decode cX12_rounds 96 = .ok (.aload_n 0, 1) := by decide +kernel
theorem dX12_rounds_97 : decode cX12_rounds 97 = .ok (.getfield 93, 3) := by decide +kernel
theorem dX12_rounds_100 : decode cX12_rounds 100 = .ok (.iload 8, 2) := by decide +kernel
theorem dX12_rounds_102 : decode cX12_rounds 102 = .ok (.iconst 0, 1) := by decide +kernel
theorem dX12_rounds_103 : decode cX12_rounds 103 = .ok (.iastore, 1) := by decide +kernel
theorem dX12_rounds_104 : decode cX12_rounds 104 = .ok (.iinc 8 1, 3) := by decide +kernel
theorem dX12_rounds_107 : decode cX12_rounds 107 = .ok (.goto (-26), 3) := by decide +kernel
theorem dX12_rounds_110 : decode cX12_rounds 110 = .ok (.iconst 0, 1) := by decide +kernel
theorem dX12_rounds_111 : decode cX12_rounds 111 = .ok (.istore 8, 2) := by decide +kernel
theorem dX12_rounds_113 : decode cX12_rounds 113 = .ok (.iconst 0, 1) := by decide +kernel
theorem dX12_rounds_114 : decode cX12_rounds 114 = .ok (.istore 9, 2) := by decide +kernel
theorem dX12_rounds_116 : decode cX12_rounds 116 = .ok (.iconst 0, 1) := by decide +kernel
theorem dX12_rounds_117 : decode cX12_rounds 117 = .ok (.istore 10, 2) := by decide +kernel
theorem dX12_rounds_119 : decode cX12_rounds 119 = .ok (.iconst 1, 1) := by decide +kernel
theorem dX12_rounds_120 : decode cX12_rounds 120 = .ok (.istore 11, 2) := by decide +kernel
theorem dX12_rounds_122 : decode cX12_rounds 122 = .ok (.iload 11, 2) := by decide +kernel
theorem dX12_rounds_124 : decode cX12_rounds 124 = .ok (.ifCond .eq 179, 3) := by decide +kernel
theorem dX12_rounds_127 : decode cX12_rounds 127 = .ok (.aload_n 0, 1) := by decide +kernel
theorem dX12_rounds_128 : decode cX12_rounds 128 = .ok (.iload_n 1, 1) := by decide +kernel
theorem dX12_rounds_129 : decode cX12_rounds 129 = .ok (.invokevirtual 316, 3) := by decide +kernel
theorem dX12_rounds_132 : decode cX12_rounds 132 = .ok (.istore 12, 2) := by decide +kernel
theorem dX12_rounds_134 : decode cX12_rounds 134 = .ok (.aload_n 0, 1) := by decide +kernel
theorem dX12_rounds_135 : decode cX12_rounds 135 = .ok (.getfield 90, 3) := by decide +kernel
theorem dX12_rounds_138 : decode cX12_rounds 138 = .ok (.iload 12, 2) := by decide +kernel
theorem dX12_rounds_140 : decode cX12_rounds 140 = .ok (.iaload, 1) := by decide +kernel
theorem dX12_rounds_141 : decode cX12_rounds 141 = .ok (.iload 10, 2) := by decide +kernel
theorem dX12_rounds_143 : decode cX12_rounds 143 = .ok (.if_icmp .le 13, 3) := by decide +kernel
theorem dX12_rounds_146 : decode cX12_rounds 146 = .ok (.aload_n 0, 1) := by decide +kernel
theorem dX12_rounds_147 : decode cX12_rounds 147 = .ok (.getfield 90, 3) := by decide +kernel
theorem dX12_rounds_150 : decode cX12_rounds 150 = .ok (.iload 12, 2) := by decide +kernel
theorem dX12_rounds_152 : decode cX12_rounds 152 = .ok (.iaload, 1) := by decide +kernel
theorem dX12_rounds_153 : decode cX12_rounds 153 = .ok (.goto 5, 3) := by decide +kernel
theorem dX12_rounds_156 : decode cX12_rounds 156 = .ok (.iload 10, 2) := by decide +kernel
theorem dX12_rounds_158 : decode cX12_rounds 158 = .ok (.istore 13, 2) := by decide +kernel
theorem dX12_rounds_160 : decode cX12_rounds 160 = .ok (.iload 13, 2) := by decide +kernel
theorem dX12_rounds_162 : decode cX12_rounds 162 = .ok (.iload 5, 2) := by decide +kernel
theorem dX12_rounds_164 : decode cX12_rounds 164 = .ok (.if_icmp .ge 7, 3) := by decide +kernel
theorem dX12_rounds_167 : decode cX12_rounds 167 = .ok (.iconst 1, 1) := by decide +kernel
theorem dX12_rounds_168 : decode cX12_rounds 168 = .ok (.goto 4, 3) := by decide +kernel
theorem dX12_rounds_171 : decode cX12_rounds 171 = .ok (.iconst 0, 1) := by decide +kernel
theorem dX12_rounds_172 : decode cX12_rounds 172 = .ok (.istore 11, 2) := by decide +kernel
theorem dX12_rounds_174 : decode cX12_rounds 174 = .ok (.iload 11, 2) := by decide +kernel
theorem dX12_rounds_176 : decode cX12_rounds 176 = .ok (.ifCond .eq 124, 3) := by decide +kernel
theorem dX12_rounds_179 : decode cX12_rounds 179 = .ok (.iload 13, 2) := by decide +kernel
theorem dX12_rounds_181 : decode cX12_rounds 181 = .ok (.aload_n 0, 1) := by decide +kernel
theorem dX12_rounds_182 : decode cX12_rounds 182 = .ok (.getfield 90, 3) := by decide +kernel
theorem dX12_rounds_185 : decode cX12_rounds 185 = .ok (.iload 12, 2) := by decide +kernel
theorem dX12_rounds_187 : decode cX12_rounds 187 = .ok (.iaload, 1) := by decide +kernel
theorem dX12_rounds_188 : decode cX12_rounds 188 = .ok (.isub, 1) := by decide +kernel
theorem dX12_rounds_189 : decode cX12_rounds 189 = .ok (.istore 14, 2) := by decide +kernel
theorem dX12_rounds_191 : decode cX12_rounds 191 = .ok (.iload 14, 2) := by decide +kernel
theorem dX12_rounds_193 : decode cX12_rounds 193 = .ok (.iload 9, 2) := by decide +kernel
theorem dX12_rounds_195 : decode cX12_rounds 195 = .ok (.if_icmp .le 8, 3) := by decide +kernel
theorem dX12_rounds_198 : decode cX12_rounds 198 = .ok (.iload 14, 2) := by decide +kernel
theorem dX12_rounds_200 : decode cX12_rounds 200 = .ok (.goto 5, 3) := by decide +kernel
theorem dX12_rounds_203 : decode cX12_rounds 203 = .ok (.iload 9, 2) := by decide +kernel
theorem dX12_rounds_205 : decode cX12_rounds 205 = .ok (.istore 9, 2) := by decide +kernel
theorem dX12_rounds_207 : decode cX12_rounds 207 = .ok (.iload 13, 2) := by decide +kernel
theorem dX12_rounds_209 : decode cX12_rounds 209 = .ok (.iload 4, 2) := by decide +kernel
theorem dX12_rounds_211 : decode cX12_rounds 211 = .ok (.iadd, 1) := by decide +kernel
theorem dX12_rounds_212 : decode cX12_rounds 212 = .ok (.istore 10, 2) := by decide +kernel
theorem dX12_rounds_214 : decode cX12_rounds 214 = .ok (.iload 8, 2) := by decide +kernel
theorem dX12_rounds_216 : decode cX12_rounds 216 = .ok (.aload_n 0, 1) := by decide +kernel
theorem dX12_rounds_217 : decode cX12_rounds 217 = .ok (.getfield 93, 3) := by decide +kernel
theorem dX12_rounds_220 : decode cX12_rounds 220 = .ok (.iload 12, 2) := by decide +kernel
theorem dX12_rounds_222 : decode cX12_rounds 222 = .ok (.iaload, 1) := by decide +kernel
theorem dX12_rounds_223 : decode cX12_rounds 223 = .ok (.iconst 2, 1) := by decide +kernel
theorem dX12_rounds_224 : decode cX12_rounds 224 = .ok (.if_icmp .ne 14, 3) := by decide +kernel
theorem dX12_rounds_227 : decode cX12_rounds 227 = .ok (.iload 10, 2) := by decide +kernel
theorem dX12_rounds_229 : decode cX12_rounds 229 = .ok (.iload 5, 2) := by decide +kernel
theorem dX12_rounds_231 : decode cX12_rounds 231 = .ok (.if_icmp .gt 7, 3) := by decide +kernel
theorem dX12_rounds_234 : decode cX12_rounds 234 = .ok (.iconst 1, 1) := by decide +kernel
theorem dX12_rounds_235 : decode cX12_rounds 235 = .ok (.goto 4, 3) := by decide +kernel
theorem dX12_rounds_238 : decode cX12_rounds 238 = .ok (.iconst 0, 1) := by decide +kernel
theorem dX12_rounds_239 : decode cX12_rounds 239 = .ok (.iadd, 1) := by decide +kernel
theorem dX12_rounds_240 : decode cX12_rounds 240 = .ok (.istore 8, 2) := by decide +kernel
theorem dX12_rounds_242 : decode cX12_rounds 242 = .ok (.aload_n 0, 1) := by decide +kernel
theorem dX12_rounds_243 : decode cX12_rounds 243 = .ok (.getfield 90, 3) := by decide +kernel
theorem dX12_rounds_246 : decode cX12_rounds 246 = .ok (.iload 12, 2) := by decide +kernel
theorem dX12_rounds_248 : decode cX12_rounds 248 = .ok (.iload 10, 2) := by decide +kernel
theorem dX12_rounds_250 : decode cX12_rounds 250 = .ok (.aload_n 0, 1) := by decide +kernel
theorem dX12_rounds_251 : decode cX12_rounds 251 = .ok (.getfield 93, 3) := by decide +kernel
theorem dX12_rounds_254 : decode cX12_rounds 254 = .ok (.iload 12, 2) := by decide +kernel
theorem dX12_rounds_256 : decode cX12_rounds 256 = .ok (.iaload, 1) := by decide +kernel
theorem dX12_rounds_257 : decode cX12_rounds 257 = .ok (.ifCond .ne 7, 3) := by decide +kernel
theorem dX12_rounds_260 : decode cX12_rounds 260 = .ok (.iload_n 2, 1) := by decide +kernel
theorem dX12_rounds_261 : decode cX12_rounds 261 = .ok (.goto 19, 3) := by decide +kernel
theorem dX12_rounds_264 : decode cX12_rounds 264 = .ok (.aload_n 0, 1) := by decide +kernel
theorem dX12_rounds_265 : decode cX12_rounds 265 = .ok (.getfield 93, 3) := by decide +kernel
theorem dX12_rounds_268 : decode cX12_rounds 268 = .ok (.iload 12, 2) := by decide +kernel
theorem dX12_rounds_270 : decode cX12_rounds 270 = .ok (.iaload, 1) := by decide +kernel
theorem dX12_rounds_271 : decode cX12_rounds 271 = .ok (.iconst 1, 1) := by decide +kernel
theorem dX12_rounds_272 : decode cX12_rounds 272 = .ok (.if_icmp .ne 7, 3) := by decide +kernel
theorem dX12_rounds_275 : decode cX12_rounds 275 = .ok (.iload_n 3, 1) := by decide +kernel
theorem dX12_rounds_276 : decode cX12_rounds 276 = .ok (.goto 4, 3) := by decide +kernel
theorem dX12_rounds_279 : decode cX12_rounds 279 = .ok (.iconst 0, 1) := by decide +kernel
theorem dX12_rounds_280 : decode cX12_rounds 280 = .ok (.iadd, 1) := by decide +kernel
theorem dX12_rounds_281 : decode cX12_rounds 281 = .ok (.iastore, 1) := by decide +kernel
theorem dX12_rounds_282 : decode cX12_rounds 282 = .ok (.aload_n 0, 1) := by decide +kernel
theorem dX12_rounds_283 : decode cX12_rounds 283 = .ok (.getfield 93, 3) := by decide +kernel
theorem dX12_rounds_286 : decode cX12_rounds 286 = .ok (.iload 12, 2) := by decide +kernel
theorem dX12_rounds_288 : decode cX12_rounds 288 = .ok (.aload_n 0, 1) := by decide +kernel
theorem dX12_rounds_289 : decode cX12_rounds 289 = .ok (.getfield 93, 3) := by decide +kernel
theorem dX12_rounds_292 : decode cX12_rounds 292 = .ok (.iload 12, 2) := by decide +kernel
theorem dX12_rounds_294 : decode cX12_rounds 294 = .ok (.iaload, 1) := by decide +kernel
theorem dX12_rounds_295 : decode cX12_rounds 295 = .ok (.iconst 1, 1) := by decide +kernel
theorem dX12_rounds_296 : decode cX12_rounds 296 = .ok (.iadd, 1) := by decide +kernel
theorem dX12_rounds_297 : decode cX12_rounds 297 = .ok (.iconst 3, 1) := by decide +kernel
theorem dX12_rounds_298 : decode cX12_rounds 298 = .ok (.irem, 1) := by decide +kernel
theorem dX12_rounds_299 : decode cX12_rounds 299 = .ok (.iastore, 1) := by decide +kernel
theorem dX12_rounds_300 : decode cX12_rounds 300 = .ok (.goto (-178), 3) := by decide +kernel
theorem dX12_rounds_303 : decode cX12_rounds 303 = .ok (.iload 6, 2) := by decide +kernel
theorem dX12_rounds_305 : decode cX12_rounds 305 = .ok (.ifCond .ne 8, 3) := by decide +kernel
theorem dX12_rounds_308 : decode cX12_rounds 308 = .ok (.iload 8, 2) := by decide +kernel
theorem dX12_rounds_310 : decode cX12_rounds 310 = .ok (.goto 5, 3) := by decide +kernel
theorem dX12_rounds_313 : decode cX12_rounds 313 = .ok (.iload 9, 2) := by decide +kernel
theorem dX12_rounds_315 : decode cX12_rounds 315 = .ok (.ireturn, 1) := by decide +kernel
theorem dX12_isToss_0 : decode cX12_isToss 0 = .ok (.iload_n 0, 1) := by decide +kernel
theorem dX12_isToss_1 : decode cX12_isToss 1 = .ok (.iconst 1, 1) := by decide +kernel
theorem dX12_isToss_2 : decode cX12_isToss 2 = .ok (.bipush 30, 2) := by decide +kernel
theorem dX12_isToss_4 : decode cX12_isToss 4 = .ok (.invokestatic 102, 3) := by decide +kernel
theorem dX12_isToss_7 : decode cX12_isToss 7 = .ok (.ifCond .eq 17, 3) := by decide +kernel
theorem dX12_isToss_10 : decode cX12_isToss 10 = .ok (.iload_n 1, 1) := by decide +kernel
theorem dX12_isToss_11 : decode cX12_isToss 11 = .ok (.iconst 1, 1) := by decide +kernel
theorem dX12_isToss_12 : decode cX12_isToss 12 = .ok (.bipush 30, 2) := by decide +kernel
theorem dX12_isToss_14 : decode cX12_isToss 14 = .ok (.invokestatic 102, 3) := by decide +kernel
theorem dX12_isToss_17 : decode cX12_isToss 17 = .ok (.ifCond .eq 7, 3) := by decide +kernel
theorem dX12_isToss_20 : decode cX12_isToss 20 = .ok (.iconst 1, 1) := by decide +kernel
theorem dX12_isToss_21 : decode cX12_isToss 21 = .ok (.goto 4, 3) := by decide +kernel
theorem dX12_isToss_24 : decode cX12_isToss 24 = .ok (.iconst 0, 1) := by decide +kernel
theorem dX12_isToss_25 : decode cX12_isToss 25 = .ok (.ireturn, 1) := by decide +kernel
theorem dX12_landing_0 : decode cX12_landing 0 = .ok (.iload_n 0, 1) := by decide +kernel
theorem dX12_landing_1 : decode cX12_landing 1 = .ok (.iload_n 1, 1) := by decide +kernel
theorem dX12_landing_2 : decode cX12_landing 2 = .ok (.imul, 1) := by decide +kernel
theorem dX12_landing_3 : decode cX12_landing 3 = .ok (.bipush 10, 2) := by decide +kernel
theorem dX12_landing_5 : decode cX12_landing 5 = .ok (.idiv, 1) := by decide +kernel
theorem dX12_landing_6 : decode cX12_landing 6 = .ok (.iconst 4, 1) := by decide +kernel
theorem dX12_landing_7 : decode cX12_landing 7 = .ok (.irem, 1) := by decide +kernel
theorem dX12_landing_8 : decode cX12_landing 8 = .ok (.iconst 2, 1) := by decide +kernel
theorem dX12_landing_9 : decode cX12_landing 9 = .ok (.if_icmp .ne 7, 3) := by decide +kernel
theorem dX12_landing_12 : decode cX12_landing 12 = .ok (.iconst 1, 1) := by decide +kernel
theorem dX12_landing_13 : decode cX12_landing 13 = .ok (.goto 4, 3) := by decide +kernel
theorem dX12_landing_16 : decode cX12_landing 16 = .ok (.iconst 0, 1) := by decide +kernel
theorem dX12_landing_17 : decode cX12_landing 17 = .ok (.ireturn, 1) := by decide +kernel
theorem dX12_toss_0 : decode cX12_toss 0 = .ok (.iload_n 1, 1) := by decide +kernel
theorem dX12_toss_1 : decode cX12_toss 1 = .ok (.iload_n 2, 1) := by decide +kernel
theorem dX12_toss_2 : decode cX12_toss 2 = .ok (.invokestatic 319, 3) := by decide +kernel
theorem dX12_toss_5 : decode cX12_toss 5 = .ok (.ifCond .eq 11, 3) := by decide +kernel
theorem dX12_toss_8 : decode cX12_toss 8 = .ok (.iload_n 1, 1) := by decide +kernel
theorem dX12_toss_9 : decode cX12_toss 9 = .ok (.iload_n 2, 1) := by decide +kernel
theorem dX12_toss_10 : decode cX12_toss 10 = .ok (.invokestatic 322, 3) := by decide +kernel
theorem dX12_toss_13 : decode cX12_toss 13 = .ok (.goto 5, 3) := by decide +kernel
theorem dX12_toss_16 : decode cX12_toss 16 = .ok (.bipush (-102), 2) := by decide +kernel
theorem dX12_toss_18 : decode cX12_toss 18 = .ok (.ireturn, 1) := by decide +kernel
theorem dX12_slowest_0 : decode cX12_slowest 0 = .ok (.iload_n 0, 1) := by decide +kernel
theorem dX12_slowest_1 : decode cX12_slowest 1 = .ok (.iload_n 1, 1) := by decide +kernel
theorem dX12_slowest_2 : decode cX12_slowest 2 = .ok (.isub, 1) := by decide +kernel
theorem dX12_slowest_3 : decode cX12_slowest 3 = .ok (.iconst 1, 1) := by decide +kernel
theorem dX12_slowest_4 : decode cX12_slowest 4 = .ok (.if_icmp .ge 7, 3) := by decide +kernel
theorem dX12_slowest_7 : decode cX12_slowest 7 = .ok (.iconst 1, 1) := by decide +kernel
theorem dX12_slowest_8 : decode cX12_slowest 8 = .ok (.goto 6, 3) := by decide +kernel
theorem dX12_slowest_11 : decode cX12_slowest 11 = .ok (.iload_n 0, 1) := by decide +kernel
theorem dX12_slowest_12 : decode cX12_slowest 12 = .ok (.iload_n 1, 1) := by decide +kernel
theorem dX12_slowest_13 : decode cX12_slowest 13 = .ok (.isub, 1) := by decide +kernel
theorem dX12_slowest_14 : decode cX12_slowest 14 = .ok (.ireturn, 1) := by decide +kernel
theorem dX12_landings_0 : decode cX12_landings 0 = .ok (.iconst 0, 1) := by decide +kernel
theorem dX12_landings_1 : decode cX12_landings 1 = .ok (.istore_n 3, 1) := by decide +kernel
theorem dX12_landings_2 : decode cX12_landings 2 = .ok (.iload_n 0, 1) := by decide +kernel
theorem dX12_landings_3 : decode cX12_landings 3 = .ok (.iload_n 2, 1) := by decide +kernel
theorem dX12_landings_4 : decode cX12_landings 4 = .ok (.invokestatic 325, 3) := by decide +kernel
theorem dX12_landings_7 : decode cX12_landings 7 = .ok (.istore 4, 2) := by decide +kernel
theorem dX12_landings_9 : decode cX12_landings 9 = .ok (.iload 4, 2) := by decide +kernel
theorem dX12_landings_11 : decode cX12_landings 11 = .ok (.iload_n 0, 1) := by decide +kernel
theorem dX12_landings_12 : decode cX12_landings 12 = .ok (.iload_n 2, 1) := by decide +kernel
theorem dX12_landings_13 : decode cX12_landings 13 = .ok (.iadd, 1) := by decide +kernel
theorem dX12_landings_14 : decode cX12_landings 14 = .ok (.if_icmp .gt 18, 3) := by decide +kernel
theorem dX12_landings_17 : decode cX12_landings 17 = .ok (.iload_n 3, 1) := by decide +kernel
theorem dX12_landings_18 : decode cX12_landings 18 = .ok (.iload 4, 2) := by decide +kernel
theorem dX12_landings_20 : decode cX12_landings 20 = .ok (.iload_n 1, 1) := by decide +kernel
theorem dX12_landings_21 : decode cX12_landings 21 = .ok (.invokestatic 322, 3) := by decide +kernel
theorem dX12_landings_24 : decode cX12_landings 24 = .ok (.iadd, 1) := by decide +kernel
theorem dX12_landings_25 : decode cX12_landings 25 = .ok (.istore_n 3, 1) := by decide +kernel
theorem dX12_landings_26 : decode cX12_landings 26 = .ok (.iinc 4 1, 3) := by decide +kernel
theorem dX12_landings_29 : decode cX12_landings 29 = .ok (.goto (-20), 3) := by decide +kernel
theorem dX12_landings_32 : decode cX12_landings 32 = .ok (.iload_n 3, 1) := by decide +kernel
theorem dX12_landings_33 : decode cX12_landings 33 = .ok (.ireturn, 1) := by decide +kernel
theorem dX12_lowest_0 : decode cX12_lowest 0 = .ok (.iload_n 0, 1) := by decide +kernel
theorem dX12_lowest_1 : decode cX12_lowest 1 = .ok (.istore_n 3, 1) := by decide +kernel
theorem dX12_lowest_2 : decode cX12_lowest 2 = .ok (.iload_n 1, 1) := by decide +kernel
theorem dX12_lowest_3 : decode cX12_lowest 3 = .ok (.istore 4, 2) := by decide +kernel
theorem dX12_lowest_5 : decode cX12_lowest 5 = .ok (.iload 4, 2) := by decide +kernel
theorem dX12_lowest_7 : decode cX12_lowest 7 = .ok (.ifCond .eq 19, 3) := by decide +kernel
theorem dX12_lowest_10 : decode cX12_lowest 10 = .ok (.iload_n 3, 1) := by decide +kernel
theorem dX12_lowest_11 : decode cX12_lowest 11 = .ok (.iload 4, 2) := by decide +kernel
theorem dX12_lowest_13 : decode cX12_lowest 13 = .ok (.irem, 1) := by decide +kernel
theorem dX12_lowest_14 : decode cX12_lowest 14 = .ok (.istore 5, 2) := by decide +kernel
theorem dX12_lowest_16 : decode cX12_lowest 16 = .ok (.iload 4, 2) := by decide +kernel
theorem dX12_lowest_18 : decode cX12_lowest 18 = .ok (.istore_n 3, 1) := by decide +kernel
theorem dX12_lowest_19 : decode cX12_lowest 19 = .ok (.iload 5, 2) := by decide +kernel
theorem dX12_lowest_21 : decode cX12_lowest 21 = .ok (.istore 4, 2) := by decide +kernel
theorem dX12_lowest_23 : decode cX12_lowest 23 = .ok (.goto (-18), 3) := by decide +kernel
theorem dX12_lowest_26 : decode cX12_lowest 26 = .ok (.iload_n 2, 1) := by decide +kernel
theorem dX12_lowest_27 : decode cX12_lowest 27 = .ok (.ifCond .ne 9, 3) := by decide +kernel
theorem dX12_lowest_30 : decode cX12_lowest 30 = .ok (.iload_n 0, 1) := by decide +kernel
theorem dX12_lowest_31 : decode cX12_lowest 31 = .ok (.iload_n 3, 1) := by decide +kernel
theorem dX12_lowest_32 : decode cX12_lowest 32 = .ok (.idiv, 1) := by decide +kernel
theorem dX12_lowest_33 : decode cX12_lowest 33 = .ok (.goto 6, 3) := by decide +kernel
theorem dX12_lowest_36 : decode cX12_lowest 36 = .ok (.iload_n 1, 1) := by decide +kernel
theorem dX12_lowest_37 : decode cX12_lowest 37 = .ok (.iload_n 3, 1) := by decide +kernel
theorem dX12_lowest_38 : decode cX12_lowest 38 = .ok (.idiv, 1) := by decide +kernel
theorem dX12_lowest_39 : decode cX12_lowest 39 = .ok (.ireturn, 1) := by decide +kernel
theorem dX12_lands_0 : decode cX12_lands 0 = .ok (.iload_n 1, 1) := by decide +kernel
theorem dX12_lands_1 : decode cX12_lands 1 = .ok (.iload_n 2, 1) := by decide +kernel
theorem dX12_lands_2 : decode cX12_lands 2 = .ok (.invokestatic 319, 3) := by decide +kernel
theorem dX12_lands_5 : decode cX12_lands 5 = .ok (.ifCond .eq 23, 3) := by decide +kernel
theorem dX12_lands_8 : decode cX12_lands 8 = .ok (.iload_n 3, 1) := by decide +kernel
theorem dX12_lands_9 : decode cX12_lands 9 = .ok (.iconst 0, 1) := by decide +kernel
theorem dX12_lands_10 : decode cX12_lands 10 = .ok (.bipush 9, 2) := by decide +kernel
theorem dX12_lands_12 : decode cX12_lands 12 = .ok (.invokestatic 102, 3) := by decide +kernel
theorem dX12_lands_15 : decode cX12_lands 15 = .ok (.ifCond .eq 13, 3) := by decide +kernel
theorem dX12_lands_18 : decode cX12_lands 18 = .ok (.iload 4, 2) := by decide +kernel
theorem dX12_lands_20 : decode cX12_lands 20 = .ok (.iconst 0, 1) := by decide +kernel
theorem dX12_lands_21 : decode cX12_lands 21 = .ok (.iconst 1, 1) := by decide +kernel
theorem dX12_lands_22 : decode cX12_lands 22 = .ok (.invokestatic 102, 3) := by decide +kernel
theorem dX12_lands_25 : decode cX12_lands 25 = .ok (.ifCond .ne 6, 3) := by decide +kernel
theorem dX12_lands_28 : decode cX12_lands 28 = .ok (.bipush (-102), 2) := by decide +kernel
theorem dX12_lands_30 : decode cX12_lands 30 = .ok (.ireturn, 1) := by decide +kernel
theorem dX12_lands_31 : decode cX12_lands 31 = .ok (.iload_n 1, 1) := by decide +kernel
theorem dX12_lands_32 : decode cX12_lands 32 = .ok (.iload_n 2, 1) := by decide +kernel
theorem dX12_lands_33 : decode cX12_lands 33 = .ok (.iload_n 3, 1) := by decide +kernel
theorem dX12_lands_34 : decode cX12_lands 34 = .ok (.invokestatic 328, 3) := by decide +kernel
theorem dX12_lands_37 : decode cX12_lands 37 = .ok (.iload_n 1, 1) := by decide +kernel
theorem dX12_lands_38 : decode cX12_lands 38 = .ok (.iload_n 3, 1) := by decide +kernel
theorem dX12_lands_39 : decode cX12_lands 39 = .ok (.iadd, 1) := by decide +kernel
theorem dX12_lands_40 : decode cX12_lands 40 = .ok (.iload_n 1, 1) := by decide +kernel
theorem dX12_lands_41 : decode cX12_lands 41 = .ok (.iload_n 3, 1) := by decide +kernel
theorem dX12_lands_42 : decode cX12_lands 42 = .ok (.invokestatic 325, 3) := by decide +kernel
theorem dX12_lands_45 : decode cX12_lands 45 = .ok (.isub, 1) := by decide +kernel
theorem dX12_lands_46 : decode cX12_lands 46 = .ok (.iconst 1, 1) := by decide +kernel
theorem dX12_lands_47 : decode cX12_lands 47 = .ok (.iadd, 1) := by decide +kernel
theorem dX12_lands_48 : decode cX12_lands 48 = .ok (.iload 4, 2) := by decide +kernel
theorem dX12_lands_50 : decode cX12_lands 50 = .ok (.invokestatic 332, 3) := by decide +kernel
theorem dX12_lands_53 : decode cX12_lands 53 = .ok (.ireturn, 1) := by decide +kernel
theorem dX12_bestSpin_0 : decode cX12_bestSpin 0 = .ok (.iload_n 1, 1) := by decide +kernel
theorem dX12_bestSpin_1 : decode cX12_bestSpin 1 = .ok (.iconst 1, 1) := by decide +kernel
theorem dX12_bestSpin_2 : decode cX12_bestSpin 2 = .ok (.invokestatic 319, 3) := by decide +kernel
theorem dX12_bestSpin_5 : decode cX12_bestSpin 5 = .ok (.ifCond .eq 13, 3) := by decide +kernel
theorem dX12_bestSpin_8 : decode cX12_bestSpin 8 = .ok (.iload_n 2, 1) := by decide +kernel
theorem dX12_bestSpin_9 : decode cX12_bestSpin 9 = .ok (.iconst 0, 1) := by decide +kernel
theorem dX12_bestSpin_10 : decode cX12_bestSpin 10 = .ok (.bipush 9, 2) := by decide +kernel
theorem dX12_bestSpin_12 : decode cX12_bestSpin 12 = .ok (.invokestatic 102, 3) := by decide +kernel
theorem dX12_bestSpin_15 : decode cX12_bestSpin 15 = .ok (.ifCond .ne 6, 3) := by decide +kernel
theorem dX12_bestSpin_18 : decode cX12_bestSpin 18 = .ok (.bipush (-102), 2) := by decide +kernel
theorem dX12_bestSpin_20 : decode cX12_bestSpin 20 = .ok (.ireturn, 1) := by decide +kernel
theorem dX12_bestSpin_21 : decode cX12_bestSpin 21 = .ok (.iconst 0, 1) := by decide +kernel
theorem dX12_bestSpin_22 : decode cX12_bestSpin 22 = .ok (.istore_n 3, 1) := by decide +kernel
theorem dX12_bestSpin_23 : decode cX12_bestSpin 23 = .ok (.iconst (-1), 1) := by decide +kernel
theorem dX12_bestSpin_24 : decode cX12_bestSpin 24 = .ok (.istore 4, 2) := by decide +kernel
theorem dX12_bestSpin_26 : decode cX12_bestSpin 26 = .ok (.iconst 1, 1) := by decide +kernel
theorem dX12_bestSpin_27 : decode cX12_bestSpin 27 = .ok (.istore 5, 2) := by decide +kernel
theorem dX12_bestSpin_29 : decode cX12_bestSpin 29 = .ok (.iload 5, 2) := by decide +kernel
theorem dX12_bestSpin_31 : decode cX12_bestSpin 31 = .ok (.bipush 31, 2) := by decide +kernel
theorem dX12_bestSpin_33 : decode cX12_bestSpin 33 = .ok (.if_icmp .ge 48, 3) := by decide +kernel
theorem dX12_bestSpin_36 : decode cX12_bestSpin 36 = .ok (.iload_n 1, 1) := by decide +kernel
theorem dX12_bestSpin_37 : decode cX12_bestSpin 37 = .ok (.iload 5, 2) := by decide +kernel
theorem dX12_bestSpin_39 : decode cX12_bestSpin 39 = .ok (.iload_n 2, 1) := by decide +kernel
theorem dX12_bestSpin_40 : decode cX12_bestSpin 40 = .ok (.invokestatic 328, 3) := by decide +kernel
theorem dX12_bestSpin_43 : decode cX12_bestSpin 43 = .ok (.istore 6, 2) := by decide +kernel
theorem dX12_bestSpin_45 : decode cX12_bestSpin 45 = .ok (.iload 6, 2) := by decide +kernel
theorem dX12_bestSpin_47 : decode cX12_bestSpin 47 = .ok (.iload 4, 2) := by decide +kernel
theorem dX12_bestSpin_49 : decode cX12_bestSpin 49 = .ok (.if_icmp .le 8, 3) := by decide +kernel
theorem dX12_bestSpin_52 : decode cX12_bestSpin 52 = .ok (.iload 5, 2) := by decide +kernel
theorem dX12_bestSpin_54 : decode cX12_bestSpin 54 = .ok (.goto 4, 3) := by decide +kernel
theorem dX12_bestSpin_57 : decode cX12_bestSpin 57 = .ok (.iload_n 3, 1) := by decide +kernel
theorem dX12_bestSpin_58 : decode cX12_bestSpin 58 = .ok (.istore_n 3, 1) := by decide +kernel
theorem dX12_bestSpin_59 : decode cX12_bestSpin 59 = .ok (.iload 6, 2) := by decide +kernel
theorem dX12_bestSpin_61 : decode cX12_bestSpin 61 = .ok (.iload 4, 2) := by decide +kernel
theorem dX12_bestSpin_63 : decode cX12_bestSpin 63 = .ok (.if_icmp .le 8, 3) := by decide +kernel
theorem dX12_bestSpin_66 : decode cX12_bestSpin 66 = .ok (.iload 6, 2) := by decide +kernel
theorem dX12_bestSpin_68 : decode cX12_bestSpin 68 = .ok (.goto 5, 3) := by decide +kernel
theorem dX12_bestSpin_71 : decode cX12_bestSpin 71 = .ok (.iload 4, 2) := by decide +kernel
theorem dX12_bestSpin_73 : decode cX12_bestSpin 73 = .ok (.istore 4, 2) := by decide +kernel
theorem dX12_bestSpin_75 : decode cX12_bestSpin 75 = .ok (.iinc 5 1, 3) := by decide +kernel
theorem dX12_bestSpin_78 : decode cX12_bestSpin 78 = .ok (.goto (-49), 3) := by decide +kernel
theorem dX12_bestSpin_81 : decode cX12_bestSpin 81 = .ok (.iload_n 3, 1) := by decide +kernel
theorem dX12_bestSpin_82 : decode cX12_bestSpin 82 = .ok (.ireturn, 1) := by decide +kernel
theorem dX12_image_0 : decode cX12_image 0 = .ok (.aload_n 0, 1) := by decide +kernel
theorem dX12_image_1 : decode cX12_image 1 = .ok (.getfield 190, 3) := by decide +kernel
theorem dX12_image_4 : decode cX12_image 4 = .ok (.ifCond .ne 6, 3) := by decide +kernel
theorem dX12_image_7 : decode cX12_image 7 = .ok (.bipush (-103), 2) := by decide +kernel
theorem dX12_image_9 : decode cX12_image 9 = .ok (.ireturn, 1) := by decide +kernel
theorem dX12_image_10 : decode cX12_image 10 = .ok (.aload_n 0, 1) := by decide +kernel
theorem dX12_image_11 : decode cX12_image 11 = .ok (.iconst 1, 1) := by decide +kernel
theorem dX12_image_12 : decode cX12_image 12 = .ok (.putfield 335, 3) := by decide +kernel
theorem dX12_image_15 : decode cX12_image 15 = .ok (.aload_n 0, 1) := by decide +kernel
theorem dX12_image_16 : decode cX12_image 16 = .ok (.aload_n 0, 1) := by decide +kernel
theorem dX12_image_17 : decode cX12_image 17 = .ok (.getfield 190, 3) := by decide +kernel
theorem dX12_image_20 : decode cX12_image 20 = .ok (.putfield 338, 3) := by decide +kernel
theorem dX12_image_23 : decode cX12_image 23 = .ok (.aload_n 0, 1) := by decide +kernel
theorem dX12_image_24 : decode cX12_image 24 = .ok (.aload_n 0, 1) := by decide +kernel
theorem dX12_image_25 : decode cX12_image 25 = .ok (.getfield 184, 3) := by decide +kernel
theorem dX12_image_28 : decode cX12_image 28 = .ok (.putfield 341, 3) := by decide +kernel
theorem dX12_image_31 : decode cX12_image 31 = .ok (.aload_n 0, 1) := by decide +kernel
theorem dX12_image_32 : decode cX12_image 32 = .ok (.aload_n 0, 1) := by decide +kernel
theorem dX12_image_33 : decode cX12_image 33 = .ok (.getfield 187, 3) := by decide +kernel
theorem dX12_image_36 : decode cX12_image 36 = .ok (.putfield 344, 3) := by decide +kernel
theorem dX12_image_39 : decode cX12_image 39 = .ok (.iconst 0, 1) := by decide +kernel
theorem dX12_image_40 : decode cX12_image 40 = .ok (.istore_n 1, 1) := by decide +kernel
theorem dX12_image_41 : decode cX12_image 41 = .ok (.iload_n 1, 1) := by decide +kernel
theorem dX12_image_42 : decode cX12_image 42 = .ok (.bipush 16, 2) := by decide +kernel
theorem dX12_image_44 : decode cX12_image 44 = .ok (.if_icmp .ge 33, 3) := by decide +kernel
theorem dX12_image_47 : decode cX12_image 47 = .ok (.aload_n 0, 1) := by decide +kernel
theorem dX12_image_48 : decode cX12_image 48 = .ok (.getfield 51, 3) := by decide +kernel
theorem dX12_image_51 : decode cX12_image 51 = .ok (.iload_n 1, 1) := by decide +kernel
theorem dX12_image_52 : decode cX12_image 52 = .ok (.aload_n 0, 1) := by decide +kernel
theorem dX12_image_53 : decode cX12_image 53 = .ok (.getfield 17, 3) := by decide +kernel
theorem dX12_image_56 : decode cX12_image 56 = .ok (.iload_n 1, 1) := by decide +kernel
theorem dX12_image_57 : decode cX12_image 57 = .ok (.iaload, 1) := by decide +kernel
theorem dX12_image_58 : decode cX12_image 58 = .ok (.iastore, 1) := by decide +kernel
theorem dX12_image_59 : decode cX12_image 59 = .ok (.aload_n 0, 1) := by decide +kernel
theorem dX12_image_60 : decode cX12_image 60 = .ok (.getfield 54, 3) := by decide +kernel
theorem dX12_image_63 : decode cX12_image 63 = .ok (.iload_n 1, 1) := by decide +kernel
theorem dX12_image_64 : decode cX12_image 64 = .ok (.aload_n 0, 1) := by decide +kernel
theorem dX12_image_65 : decode cX12_image 65 = .ok (.getfield 20, 3) := by decide +kernel
theorem dX12_image_68 : decode cX12_image 68 = .ok (.iload_n 1, 1) := by decide +kernel
theorem dX12_image_69 : decode cX12_image 69 = .ok (.iaload, 1) := by decide +kernel
theorem dX12_image_70 : decode cX12_image 70 = .ok (.iastore, 1) := by decide +kernel
theorem dX12_image_71 : decode cX12_image 71 = .ok (.iinc 1 1, 3) := by decide +kernel
theorem dX12_image_74 : decode cX12_image 74 = .ok (.goto (-33), 3) := by decide +kernel
theorem dX12_image_77 : decode cX12_image 77 = .ok (.aload_n 0, 1) := by decide +kernel
theorem dX12_image_78 : decode cX12_image 78 = .ok (.getfield 187, 3) := by decide +kernel
theorem dX12_image_81 : decode cX12_image 81 = .ok (.ireturn, 1) := by decide +kernel
theorem dX12_restore_0 : decode cX12_restore 0 = .ok (.aload_n 0, 1) := by decide +kernel
theorem dX12_restore_1 : decode cX12_restore 1 = .ok (.getfield 335, 3) := by decide +kernel
theorem dX12_restore_4 : decode cX12_restore 4 = .ok (.ifCond .eq 14, 3) := by decide +kernel
theorem dX12_restore_7 : decode cX12_restore 7 = .ok (.aload_n 0, 1) := by decide +kernel
theorem dX12_restore_8 : decode cX12_restore 8 = .ok (.getfield 338, 3) := by decide +kernel
theorem dX12_restore_11 : decode cX12_restore 11 = .ok (.aload_n 0, 1) := by decide +kernel
theorem dX12_restore_12 : decode cX12_restore 12 = .ok (.getfield 190, 3) := by decide +kernel
theorem dX12_restore_15 : decode cX12_restore 15 = .ok (.if_icmp .eq 6, 3) := by decide +kernel
theorem dX12_restore_18 : decode cX12_restore 18 = .ok (.bipush (-103), 2) := by decide +kernel
theorem dX12_restore_20 : decode cX12_restore 20 = .ok (.ireturn, 1) := by decide +kernel
theorem dX12_restore_21 : decode cX12_restore 21 = .ok (.aload_n 0, 1) := by decide +kernel
theorem dX12_restore_22 : decode cX12_restore 22 = .ok (.aload_n 0, 1) := by decide +kernel
theorem dX12_restore_23 : decode cX12_restore 23 = .ok (.getfield 341, 3) := by decide +kernel
theorem dX12_restore_26 : decode cX12_restore 26 = .ok (.putfield 184, 3) := by decide +kernel
theorem dX12_restore_29 : decode cX12_restore 29 = .ok (.aload_n 0, 1) := by decide +kernel
theorem dX12_restore_30 : decode cX12_restore 30 = .ok (.aload_n 0, 1) := by decide +kernel
theorem dX12_restore_31 : decode cX12_restore 31 = .ok (.getfield 344, 3) := by decide +kernel
theorem dX12_restore_34 : decode cX12_restore 34 = .ok (.putfield 187, 3) := by decide +kernel
theorem dX12_restore_37 : decode cX12_restore 37 = .ok (.iconst 0, 1) := by decide +kernel
theorem dX12_restore_38 : decode cX12_restore 38 = .ok (.istore_n 1, 1) := by decide +kernel
theorem dX12_restore_39 : decode cX12_restore 39 = .ok (.iload_n 1, 1) := by decide +kernel
theorem dX12_restore_40 : decode cX12_restore 40 = .ok (.bipush 16, 2) := by decide +kernel
theorem dX12_restore_42 : decode cX12_restore 42 = .ok (.if_icmp .ge 33, 3) := by decide +kernel
theorem dX12_restore_45 : decode cX12_restore 45 = .ok (.aload_n 0, 1) := by decide +kernel
theorem dX12_restore_46 : decode cX12_restore 46 = .ok (.getfield 17, 3) := by decide +kernel
theorem dX12_restore_49 : decode cX12_restore 49 = .ok (.iload_n 1, 1) := by decide +kernel
theorem dX12_restore_50 : decode cX12_restore 50 = .ok (.aload_n 0, 1) := by decide +kernel
theorem dX12_restore_51 : decode cX12_restore 51 = .ok (.getfield 51, 3) := by decide +kernel
theorem dX12_restore_54 : decode cX12_restore 54 = .ok (.iload_n 1, 1) := by decide +kernel
theorem dX12_restore_55 : decode cX12_restore 55 = .ok (.iaload, 1) := by decide +kernel
theorem dX12_restore_56 : decode cX12_restore 56 = .ok (.iastore, 1) := by decide +kernel
theorem dX12_restore_57 : decode cX12_restore 57 = .ok (.aload_n 0, 1) := by decide +kernel
theorem dX12_restore_58 : decode cX12_restore 58 = .ok (.getfield 20, 3) := by decide +kernel
theorem dX12_restore_61 : decode cX12_restore 61 = .ok (.iload_n 1, 1) := by decide +kernel
theorem dX12_restore_62 : decode cX12_restore 62 = .ok (.aload_n 0, 1) := by decide +kernel
theorem dX12_restore_63 : decode cX12_restore 63 = .ok (.getfield 54, 3) := by decide +kernel
theorem dX12_restore_66 : decode cX12_restore 66 = .ok (.iload_n 1, 1) := by decide +kernel
theorem dX12_restore_67 : decode cX12_restore 67 = .ok (.iaload, 1) := by decide +kernel
theorem dX12_restore_68 : decode cX12_restore 68 = .ok (.iastore, 1) := by decide +kernel
theorem dX12_restore_69 : decode cX12_restore 69 = .ok (.iinc 1 1, 3) := by decide +kernel
theorem dX12_restore_72 : decode cX12_restore 72 = .ok (.goto (-33), 3) := by decide +kernel
theorem dX12_restore_75 : decode cX12_restore 75 = .ok (.aload_n 0, 1) := by decide +kernel
theorem dX12_restore_76 : decode cX12_restore 76 = .ok (.getfield 187, 3) := by decide +kernel
theorem dX12_restore_79 : decode cX12_restore 79 = .ok (.ireturn, 1) := by decide +kernel
theorem dX12_worthAll_0 : decode cX12_worthAll 0 = .ok (.iconst 0, 1) := by decide +kernel
theorem dX12_worthAll_1 : decode cX12_worthAll 1 = .ok (.istore_n 1, 1) := by decide +kernel
theorem dX12_worthAll_2 : decode cX12_worthAll 2 = .ok (.iconst 0, 1) := by decide +kernel
theorem dX12_worthAll_3 : decode cX12_worthAll 3 = .ok (.istore_n 2, 1) := by decide +kernel
theorem dX12_worthAll_4 : decode cX12_worthAll 4 = .ok (.iload_n 2, 1) := by decide +kernel
theorem dX12_worthAll_5 : decode cX12_worthAll 5 = .ok (.aload_n 0, 1) := by decide +kernel
theorem dX12_worthAll_6 : decode cX12_worthAll 6 = .ok (.getfield 187, 3) := by decide +kernel
theorem dX12_worthAll_9 : decode cX12_worthAll 9 = .ok (.if_icmp .ge 24, 3) := by decide +kernel
theorem dX12_worthAll_12 : decode cX12_worthAll 12 = .ok (.iload_n 1, 1) := by decide +kernel
theorem dX12_worthAll_13 : decode cX12_worthAll 13 = .ok (.aload_n 0, 1) := by decide +kernel
theorem dX12_worthAll_14 : decode cX12_worthAll 14 = .ok (.getfield 41, 3) := by decide +kernel
theorem dX12_worthAll_17 : decode cX12_worthAll 17 = .ok (.bipush 7, 2) := by decide +kernel
theorem dX12_worthAll_19 : decode cX12_worthAll 19 = .ok (.iload_n 2, 1) := by decide +kernel
theorem dX12_worthAll_20 : decode cX12_worthAll 20 = .ok (.imul, 1) := by decide +kernel
theorem dX12_worthAll_21 : decode cX12_worthAll 21 = .ok (.bipush 6, 2) := by decide +kernel
theorem dX12_worthAll_23 : decode cX12_worthAll 23 = .ok (.iadd, 1) := by decide +kernel
theorem dX12_worthAll_24 : decode cX12_worthAll 24 = .ok (.iaload, 1) := by decide +kernel
theorem dX12_worthAll_25 : decode cX12_worthAll 25 = .ok (.iadd, 1) := by decide +kernel
theorem dX12_worthAll_26 : decode cX12_worthAll 26 = .ok (.istore_n 1, 1) := by decide +kernel
theorem dX12_worthAll_27 : decode cX12_worthAll 27 = .ok (.iinc 2 1, 3) := by decide +kernel
theorem dX12_worthAll_30 : decode cX12_worthAll 30 = .ok (.goto (-26), 3) := by decide +kernel
theorem dX12_worthAll_33 : decode cX12_worthAll 33 = .ok (.iload_n 1, 1) := by decide +kernel
theorem dX12_worthAll_34 : decode cX12_worthAll 34 = .ok (.ireturn, 1) := by decide +kernel
theorem dX12_howMany_0 : decode cX12_howMany 0 = .ok (.iload_n 1, 1) := by decide +kernel
theorem dX12_howMany_1 : decode cX12_howMany 1 = .ok (.tableswitch 96 0 8 #[51, 56, 61, 66, 71, 76, 81, 86, 91], 51) := by decide +kernel
theorem dX12_howMany_52 : decode cX12_howMany 52 = .ok (.aload_n 0, 1) := by decide +kernel
theorem dX12_howMany_53 : decode cX12_howMany 53 = .ok (.invokevirtual 202, 3) := by decide +kernel
theorem dX12_howMany_56 : decode cX12_howMany 56 = .ok (.ireturn, 1) := by decide +kernel
theorem dX12_howMany_57 : decode cX12_howMany 57 = .ok (.aload_n 0, 1) := by decide +kernel
theorem dX12_howMany_58 : decode cX12_howMany 58 = .ok (.getfield 193, 3) := by decide +kernel
theorem dX12_howMany_61 : decode cX12_howMany 61 = .ok (.ireturn, 1) := by decide +kernel
theorem dX12_howMany_62 : decode cX12_howMany 62 = .ok (.aload_n 0, 1) := by decide +kernel
theorem dX12_howMany_63 : decode cX12_howMany 63 = .ok (.getfield 187, 3) := by decide +kernel
theorem dX12_howMany_66 : decode cX12_howMany 66 = .ok (.ireturn, 1) := by decide +kernel
theorem dX12_howMany_67 : decode cX12_howMany 67 = .ok (.aload_n 0, 1) := by decide +kernel
theorem dX12_howMany_68 : decode cX12_howMany 68 = .ok (.getfield 98, 3) := by decide +kernel
theorem dX12_howMany_71 : decode cX12_howMany 71 = .ok (.ireturn, 1) := by decide +kernel
theorem dX12_howMany_72 : decode cX12_howMany 72 = .ok (.aload_n 0, 1) := by decide +kernel
theorem dX12_howMany_73 : decode cX12_howMany 73 = .ok (.getfield 184, 3) := by decide +kernel
theorem dX12_howMany_76 : decode cX12_howMany 76 = .ok (.ireturn, 1) := by decide +kernel
theorem dX12_howMany_77 : decode cX12_howMany 77 = .ok (.aload_n 0, 1) := by decide +kernel
theorem dX12_howMany_78 : decode cX12_howMany 78 = .ok (.invokevirtual 280, 3) := by decide +kernel
theorem dX12_howMany_81 : decode cX12_howMany 81 = .ok (.ireturn, 1) := by decide +kernel
theorem dX12_howMany_82 : decode cX12_howMany 82 = .ok (.aload_n 0, 1) := by decide +kernel
theorem dX12_howMany_83 : decode cX12_howMany 83 = .ok (.getfield 190, 3) := by decide +kernel
theorem dX12_howMany_86 : decode cX12_howMany 86 = .ok (.ireturn, 1) := by decide +kernel
theorem dX12_howMany_87 : decode cX12_howMany 87 = .ok (.aload_n 0, 1) := by decide +kernel
theorem dX12_howMany_88 : decode cX12_howMany 88 = .ok (.getfield 313, 3) := by decide +kernel
theorem dX12_howMany_91 : decode cX12_howMany 91 = .ok (.ireturn, 1) := by decide +kernel
theorem dX12_howMany_92 : decode cX12_howMany 92 = .ok (.aload_n 0, 1) := by decide +kernel
theorem dX12_howMany_93 : decode cX12_howMany 93 = .ok (.invokevirtual 347, 3) := by decide +kernel
theorem dX12_howMany_96 : decode cX12_howMany 96 = .ok (.ireturn, 1) := by decide +kernel
theorem dX12_howMany_97 : decode cX12_howMany 97 = .ok (.bipush (-102), 2) := by decide +kernel
theorem dX12_howMany_99 : decode cX12_howMany 99 = .ok (.ireturn, 1) := by decide +kernel
theorem dX12_count_0 : decode cX12_count 0 = .ok (.aload_n 0, 1) := by decide +kernel
theorem dX12_count_1 : decode cX12_count 1 = .ok (.iload_n 1, 1) := by decide +kernel
theorem dX12_count_2 : decode cX12_count 2 = .ok (.invokevirtual 350, 3) := by decide +kernel
theorem dX12_count_5 : decode cX12_count 5 = .ok (.ireturn, 1) := by decide +kernel
theorem dX12_mix_0 : decode cX12_mix 0 = .ok (.aload_n 0, 1) := by decide +kernel
theorem dX12_mix_1 : decode cX12_mix 1 = .ok (.ldc2_w 353, 3) := by decide +kernel
theorem dX12_mix_4 : decode cX12_mix 4 = .ok (.aload_n 0, 1) := by decide +kernel
theorem dX12_mix_5 : decode cX12_mix 5 = .ok (.getfield 355, 3) := by decide +kernel
theorem dX12_mix_8 : decode cX12_mix 8 = .ok (.lmul, 1) := by decide +kernel
theorem dX12_mix_9 : decode cX12_mix 9 = .ok (.lload_n 1, 1) := by decide +kernel
theorem dX12_mix_10 : decode cX12_mix 10 = .ok (.ladd, 1) := by decide +kernel
theorem dX12_mix_11 : decode cX12_mix 11 = .ok (.putfield 355, 3) := by decide +kernel
theorem dX12_mix_14 : decode cX12_mix 14 = .ok (.return_, 1) := by decide +kernel
theorem dX12_mixCake_0 : decode cX12_mixCake 0 = .ok (.iconst 0, 1) := by decide +kernel
theorem dX12_mixCake_1 : decode cX12_mixCake 1 = .ok (.istore_n 2, 1) := by decide +kernel
theorem dX12_mixCake_2 : decode cX12_mixCake 2 = .ok (.iload_n 2, 1) := by decide +kernel
theorem dX12_mixCake_3 : decode cX12_mixCake 3 = .ok (.bipush 7, 2) := by decide +kernel
theorem dX12_mixCake_5 : decode cX12_mixCake 5 = .ok (.if_icmp .ge 25, 3) := by decide +kernel
theorem dX12_mixCake_8 : decode cX12_mixCake 8 = .ok (.aload_n 0, 1) := by decide +kernel
theorem dX12_mixCake_9 : decode cX12_mixCake 9 = .ok (.aload_n 0, 1) := by decide +kernel
theorem dX12_mixCake_10 : decode cX12_mixCake 10 = .ok (.getfield 41, 3) := by decide +kernel
theorem dX12_mixCake_13 : decode cX12_mixCake 13 = .ok (.bipush 7, 2) := by decide +kernel
theorem dX12_mixCake_15 : decode cX12_mixCake 15 = .ok (.iload_n 1, 1) := by decide +kernel
theorem dX12_mixCake_16 : decode cX12_mixCake 16 = .ok (.imul, 1) := by decide +kernel
theorem dX12_mixCake_17 : decode cX12_mixCake 17 = .ok (.iload_n 2, 1) := by decide +kernel
theorem dX12_mixCake_18 : decode cX12_mixCake 18 = .ok (.iadd, 1) := by decide +kernel
theorem dX12_mixCake_19 : decode cX12_mixCake 19 = .ok (.iaload, 1) := by decide +kernel
theorem dX12_mixCake_20 : decode cX12_mixCake 20 = .ok (.i2l, 1) := by decide +kernel
theorem dX12_mixCake_21 : decode cX12_mixCake 21 = .ok (.invokevirtual 359, 3) := by decide +kernel
theorem dX12_mixCake_24 : decode cX12_mixCake 24 = .ok (.iinc 2 1, 3) := by decide +kernel
theorem dX12_mixCake_27 : decode cX12_mixCake 27 = .ok (.goto (-25), 3) := by decide +kernel
theorem dX12_mixCake_30 : decode cX12_mixCake 30 = .ok (.iconst 0, 1) := by decide +kernel
theorem dX12_mixCake_31 : decode cX12_mixCake 31 = .ok (.istore_n 2, 1) := by decide +kernel
theorem dX12_mixCake_32 : decode cX12_mixCake 32 = .ok (.iload_n 2, 1) := by decide +kernel
theorem dX12_mixCake_33 : decode cX12_mixCake 33 = .ok (.aload_n 0, 1) := by decide +kernel
theorem dX12_mixCake_34 : decode cX12_mixCake 34 = .ok (.invokevirtual 202, 3) := by decide +kernel
theorem dX12_mixCake_37 : decode cX12_mixCake 37 = .ok (.if_icmp .ge 25, 3) := by decide +kernel
theorem dX12_mixCake_40 : decode cX12_mixCake 40 = .ok (.aload_n 0, 1) := by decide +kernel
theorem dX12_mixCake_41 : decode cX12_mixCake 41 = .ok (.aload_n 0, 1) := by decide +kernel
theorem dX12_mixCake_42 : decode cX12_mixCake 42 = .ok (.getfield 44, 3) := by decide +kernel
theorem dX12_mixCake_45 : decode cX12_mixCake 45 = .ok (.bipush 16, 2) := by decide +kernel
theorem dX12_mixCake_47 : decode cX12_mixCake 47 = .ok (.iload_n 1, 1) := by decide +kernel
theorem dX12_mixCake_48 : decode cX12_mixCake 48 = .ok (.imul, 1) := by decide +kernel
theorem dX12_mixCake_49 : decode cX12_mixCake 49 = .ok (.iload_n 2, 1) := by decide +kernel
theorem dX12_mixCake_50 : decode cX12_mixCake 50 = .ok (.iadd, 1) := by decide +kernel
theorem dX12_mixCake_51 : decode cX12_mixCake 51 = .ok (.iaload, 1) := by decide +kernel
theorem dX12_mixCake_52 : decode cX12_mixCake 52 = .ok (.i2l, 1) := by decide +kernel
theorem dX12_mixCake_53 : decode cX12_mixCake 53 = .ok (.invokevirtual 359, 3) := by decide +kernel
theorem dX12_mixCake_56 : decode cX12_mixCake 56 = .ok (.iinc 2 1, 3) := by decide +kernel
theorem dX12_mixCake_59 : decode cX12_mixCake 59 = .ok (.goto (-27), 3) := by decide +kernel
theorem dX12_mixCake_62 : decode cX12_mixCake 62 = .ok (.return_, 1) := by decide +kernel
theorem dX12_digest_0 : decode cX12_digest 0 = .ok (.aload_n 0, 1) := by decide +kernel
theorem dX12_digest_1 : decode cX12_digest 1 = .ok (.ldc2_w 363, 3) := by decide +kernel
theorem dX12_digest_4 : decode cX12_digest 4 = .ok (.putfield 355, 3) := by decide +kernel
theorem dX12_digest_7 : decode cX12_digest 7 = .ok (.iconst 0, 1) := by decide +kernel
theorem dX12_digest_8 : decode cX12_digest 8 = .ok (.istore_n 1, 1) := by decide +kernel
theorem dX12_digest_9 : decode cX12_digest 9 = .ok (.iload_n 1, 1) := by decide +kernel
theorem dX12_digest_10 : decode cX12_digest 10 = .ok (.aload_n 0, 1) := by decide +kernel
theorem dX12_digest_11 : decode cX12_digest 11 = .ok (.invokevirtual 202, 3) := by decide +kernel
theorem dX12_digest_14 : decode cX12_digest 14 = .ok (.if_icmp .ge 33, 3) := by decide +kernel
theorem dX12_digest_17 : decode cX12_digest 17 = .ok (.iconst 0, 1) := by decide +kernel
theorem dX12_digest_18 : decode cX12_digest 18 = .ok (.istore_n 2, 1) := by decide +kernel
theorem dX12_digest_19 : decode cX12_digest 19 = .ok (.iload_n 2, 1) := by decide +kernel
theorem dX12_digest_20 : decode cX12_digest 20 = .ok (.iconst 4, 1) := by decide +kernel
theorem dX12_digest_21 : decode cX12_digest 21 = .ok (.if_icmp .ge 20, 3) := by decide +kernel
theorem dX12_digest_24 : decode cX12_digest 24 = .ok (.aload_n 0, 1) := by decide +kernel
theorem dX12_digest_25 : decode cX12_digest 25 = .ok (.aload_n 0, 1) := by decide +kernel
theorem dX12_digest_26 : decode cX12_digest 26 = .ok (.iload_n 1, 1) := by decide +kernel
theorem dX12_digest_27 : decode cX12_digest 27 = .ok (.iload_n 2, 1) := by decide +kernel
theorem dX12_digest_28 : decode cX12_digest 28 = .ok (.invokevirtual 209, 3) := by decide +kernel
theorem dX12_digest_31 : decode cX12_digest 31 = .ok (.i2l, 1) := by decide +kernel
theorem dX12_digest_32 : decode cX12_digest 32 = .ok (.invokevirtual 359, 3) := by decide +kernel
theorem dX12_digest_35 : decode cX12_digest 35 = .ok (.iinc 2 1, 3) := by decide +kernel
theorem dX12_digest_38 : decode cX12_digest 38 = .ok (.goto (-19), 3) := by decide +kernel
theorem dX12_digest_41 : decode cX12_digest 41 = .ok (.iinc 1 1, 3) := by decide +kernel
theorem dX12_digest_44 : decode cX12_digest 44 = .ok (.goto (-35), 3) := by decide +kernel
theorem dX12_digest_47 : decode cX12_digest 47 = .ok (.iconst 0, 1) := by decide +kernel
theorem dX12_digest_48 : decode cX12_digest 48 = .ok (.istore_n 1, 1) := by decide +kernel
theorem dX12_digest_49 : decode cX12_digest 49 = .ok (.iload_n 1, 1) := by decide +kernel
theorem dX12_digest_50 : decode cX12_digest 50 = .ok (.aload_n 0, 1) := by decide +kernel
theorem dX12_digest_51 : decode cX12_digest 51 = .ok (.getfield 193, 3) := by decide +kernel
theorem dX12_digest_54 : decode cX12_digest 54 = .ok (.if_icmp .ge 67, 3) := by decide +kernel
theorem dX12_digest_57 : decode cX12_digest 57 = .ok (.iconst 0, 1) := by decide +kernel
theorem dX12_digest_58 : decode cX12_digest 58 = .ok (.istore_n 2, 1) := by decide +kernel
theorem dX12_digest_59 : decode cX12_digest 59 = .ok (.iload_n 2, 1) := by decide +kernel
theorem dX12_digest_60 : decode cX12_digest 60 = .ok (.iconst 5, 1) := by decide +kernel
theorem dX12_digest_61 : decode cX12_digest 61 = .ok (.if_icmp .ge 20, 3) := by decide +kernel
theorem dX12_digest_64 : decode cX12_digest 64 = .ok (.aload_n 0, 1) := by decide +kernel
theorem dX12_digest_65 : decode cX12_digest 65 = .ok (.aload_n 0, 1) := by decide +kernel
theorem dX12_digest_66 : decode cX12_digest 66 = .ok (.iload_n 1, 1) := by decide +kernel
theorem dX12_digest_67 : decode cX12_digest 67 = .ok (.iload_n 2, 1) := by decide +kernel
theorem dX12_digest_68 : decode cX12_digest 68 = .ok (.invokevirtual 199, 3) := by decide +kernel
theorem dX12_digest_71 : decode cX12_digest 71 = .ok (.i2l, 1) := by decide +kernel
theorem dX12_digest_72 : decode cX12_digest 72 = .ok (.invokevirtual 359, 3) := by decide +kernel
theorem dX12_digest_75 : decode cX12_digest 75 = .ok (.iinc 2 1, 3) := by decide +kernel
theorem dX12_digest_78 : decode cX12_digest 78 = .ok (.goto (-19), 3) := by decide +kernel
theorem dX12_digest_81 : decode cX12_digest 81 = .ok (.iconst 0, 1) := by decide +kernel
theorem dX12_digest_82 : decode cX12_digest 82 = .ok (.istore_n 2, 1) := by decide +kernel
theorem dX12_digest_83 : decode cX12_digest 83 = .ok (.iload_n 2, 1) := by decide +kernel
theorem dX12_digest_84 : decode cX12_digest 84 = .ok (.aload_n 0, 1) := by decide +kernel
theorem dX12_digest_85 : decode cX12_digest 85 = .ok (.getfield 35, 3) := by decide +kernel
theorem dX12_digest_88 : decode cX12_digest 88 = .ok (.iload_n 1, 1) := by decide +kernel
theorem dX12_digest_89 : decode cX12_digest 89 = .ok (.iaload, 1) := by decide +kernel
theorem dX12_digest_90 : decode cX12_digest 90 = .ok (.if_icmp .ge 25, 3) := by decide +kernel
theorem dX12_digest_93 : decode cX12_digest 93 = .ok (.aload_n 0, 1) := by decide +kernel
theorem dX12_digest_94 : decode cX12_digest 94 = .ok (.aload_n 0, 1) := by decide +kernel
theorem dX12_digest_95 : decode cX12_digest 95 = .ok (.getfield 38, 3) := by decide +kernel
theorem dX12_digest_98 : decode cX12_digest 98 = .ok (.bipush 6, 2) := by decide +kernel
theorem dX12_digest_100 : decode cX12_digest 100 = .ok (.iload_n 1, 1) := by decide +kernel
theorem dX12_digest_101 : decode cX12_digest 101 = .ok (.imul, 1) := by decide +kernel
theorem dX12_digest_102 : decode cX12_digest 102 = .ok (.iload_n 2, 1) := by decide +kernel
theorem dX12_digest_103 : decode cX12_digest 103 = .ok (.iadd, 1) := by decide +kernel
theorem dX12_digest_104 : decode cX12_digest 104 = .ok (.iaload, 1) := by decide +kernel
theorem dX12_digest_105 : decode cX12_digest 105 = .ok (.i2l, 1) := by decide +kernel
theorem dX12_digest_106 : decode cX12_digest 106 = .ok (.invokevirtual 359, 3) := by decide +kernel
theorem dX12_digest_109 : decode cX12_digest 109 = .ok (.iinc 2 1, 3) := by decide +kernel
theorem dX12_digest_112 : decode cX12_digest 112 = .ok (.goto (-29), 3) := by decide +kernel
theorem dX12_digest_115 : decode cX12_digest 115 = .ok (.iinc 1 1, 3) := by decide +kernel
theorem dX12_digest_118 : decode cX12_digest 118 = .ok (.goto (-69), 3) := by decide +kernel
theorem dX12_digest_121 : decode cX12_digest 121 = .ok (.iconst 0, 1) := by decide +kernel
theorem dX12_digest_122 : decode cX12_digest 122 = .ok (.istore_n 1, 1) := by decide +kernel
theorem dX12_digest_123 : decode cX12_digest 123 = .ok (.iload_n 1, 1) := by decide +kernel
theorem dX12_digest_124 : decode cX12_digest 124 = .ok (.aload_n 0, 1) := by decide +kernel
theorem dX12_digest_125 : decode cX12_digest 125 = .ok (.getfield 187, 3) := by decide +kernel
theorem dX12_digest_128 : decode cX12_digest 128 = .ok (.if_icmp .ge 14, 3) := by decide +kernel
theorem dX12_digest_131 : decode cX12_digest 131 = .ok (.aload_n 0, 1) := by decide +kernel
theorem dX12_digest_132 : decode cX12_digest 132 = .ok (.iload_n 1, 1) := by decide +kernel
theorem dX12_digest_133 : decode cX12_digest 133 = .ok (.invokevirtual 365, 3) := by decide +kernel
theorem dX12_digest_136 : decode cX12_digest 136 = .ok (.iinc 1 1, 3) := by decide +kernel
theorem dX12_digest_139 : decode cX12_digest 139 = .ok (.goto (-16), 3) := by decide +kernel
theorem dX12_digest_142 : decode cX12_digest 142 = .ok (.iconst 0, 1) := by decide +kernel
theorem dX12_digest_143 : decode cX12_digest 143 = .ok (.istore_n 1, 1) := by decide +kernel
theorem dX12_digest_144 : decode cX12_digest 144 = .ok (.iload_n 1, 1) := by decide +kernel
theorem dX12_digest_145 : decode cX12_digest 145 = .ok (.aload_n 0, 1) := by decide +kernel
theorem dX12_digest_146 : decode cX12_digest 146 = .ok (.getfield 193, 3) := by decide +kernel
theorem dX12_digest_149 : decode cX12_digest 149 = .ok (.if_icmp .ge 39, 3) := by decide +kernel
theorem dX12_digest_152 : decode cX12_digest 152 = .ok (.aload_n 0, 1) := by decide +kernel
theorem dX12_digest_153 : decode cX12_digest 153 = .ok (.getfield 190, 3) := by decide +kernel
theorem dX12_digest_156 : decode cX12_digest 156 = .ok (.ifCond .le 32, 3) := by decide +kernel
theorem dX12_digest_159 : decode cX12_digest 159 = .ok (.aload_n 0, 1) := by decide +kernel
theorem dX12_digest_160 : decode cX12_digest 160 = .ok (.iload_n 1, 1) := by decide +kernel
theorem dX12_digest_161 : decode cX12_digest 161 = .ok (.invokevirtual 298, 3) := by decide +kernel
theorem dX12_digest_164 : decode cX12_digest 164 = .ok (.aload_n 0, 1) := by decide +kernel
theorem dX12_digest_165 : decode cX12_digest 165 = .ok (.aload_n 0, 1) := by decide +kernel
theorem dX12_digest_166 : decode cX12_digest 166 = .ok (.getfield 255, 3) := by decide +kernel
theorem dX12_digest_169 : decode cX12_digest 169 = .ok (.i2l, 1) := by decide +kernel
theorem dX12_digest_170 : decode cX12_digest 170 = .ok (.invokevirtual 359, 3) := by decide +kernel
theorem dX12_digest_173 : decode cX12_digest 173 = .ok (.aload_n 0, 1) := by decide +kernel
theorem dX12_digest_174 : decode cX12_digest 174 = .ok (.aload_n 0, 1) := by decide +kernel
theorem dX12_digest_175 : decode cX12_digest 175 = .ok (.getfield 246, 3) := by decide +kernel
theorem dX12_digest_178 : decode cX12_digest 178 = .ok (.i2l, 1) := by decide +kernel
theorem dX12_digest_179 : decode cX12_digest 179 = .ok (.invokevirtual 359, 3) := by decide +kernel
theorem dX12_digest_182 : decode cX12_digest 182 = .ok (.iinc 1 1, 3) := by decide +kernel
theorem dX12_digest_185 : decode cX12_digest 185 = .ok (.goto (-41), 3) := by decide +kernel
theorem dX12_digest_188 : decode cX12_digest 188 = .ok (.iconst 0, 1) := by decide +kernel
theorem dX12_digest_189 : decode cX12_digest 189 = .ok (.istore_n 1, 1) := by decide +kernel
theorem dX12_digest_190 : decode cX12_digest 190 = .ok (.iload_n 1, 1) := by decide +kernel
theorem dX12_digest_191 : decode cX12_digest 191 = .ok (.aload_n 0, 1) := by decide +kernel
theorem dX12_digest_192 : decode cX12_digest 192 = .ok (.getfield 98, 3) := by decide +kernel
theorem dX12_digest_195 : decode cX12_digest 195 = .ok (.if_icmp .ge 20, 3) := by decide +kernel
theorem dX12_digest_198 : decode cX12_digest 198 = .ok (.aload_n 0, 1) := by decide +kernel
theorem dX12_digest_199 : decode cX12_digest 199 = .ok (.aload_n 0, 1) := by decide +kernel
theorem dX12_digest_200 : decode cX12_digest 200 = .ok (.getfield 47, 3) := by decide +kernel
theorem dX12_digest_203 : decode cX12_digest 203 = .ok (.iload_n 1, 1) := by decide +kernel
theorem dX12_digest_204 : decode cX12_digest 204 = .ok (.baload, 1) := by decide +kernel
theorem dX12_digest_205 : decode cX12_digest 205 = .ok (.i2l, 1) := by decide +kernel
theorem dX12_digest_206 : decode cX12_digest 206 = .ok (.invokevirtual 359, 3) := by decide +kernel
theorem dX12_digest_209 : decode cX12_digest 209 = .ok (.iinc 1 1, 3) := by decide +kernel
theorem dX12_digest_212 : decode cX12_digest 212 = .ok (.goto (-22), 3) := by decide +kernel
theorem dX12_digest_215 : decode cX12_digest 215 = .ok (.iconst 0, 1) := by decide +kernel
theorem dX12_digest_216 : decode cX12_digest 216 = .ok (.istore_n 1, 1) := by decide +kernel
theorem dX12_digest_217 : decode cX12_digest 217 = .ok (.iload_n 1, 1) := by decide +kernel
theorem dX12_digest_218 : decode cX12_digest 218 = .ok (.bipush 9, 2) := by decide +kernel
theorem dX12_digest_220 : decode cX12_digest 220 = .ok (.if_icmp .ge 19, 3) := by decide +kernel
theorem dX12_digest_223 : decode cX12_digest 223 = .ok (.aload_n 0, 1) := by decide +kernel
theorem dX12_digest_224 : decode cX12_digest 224 = .ok (.aload_n 0, 1) := by decide +kernel
theorem dX12_digest_225 : decode cX12_digest 225 = .ok (.iload_n 1, 1) := by decide +kernel
theorem dX12_digest_226 : decode cX12_digest 226 = .ok (.invokevirtual 350, 3) := by decide +kernel
theorem dX12_digest_229 : decode cX12_digest 229 = .ok (.i2l, 1) := by decide +kernel
theorem dX12_digest_230 : decode cX12_digest 230 = .ok (.invokevirtual 359, 3) := by decide +kernel
theorem dX12_digest_233 : decode cX12_digest 233 = .ok (.iinc 1 1, 3) := by decide +kernel
theorem dX12_digest_236 : decode cX12_digest 236 = .ok (.goto (-19), 3) := by decide +kernel
theorem dX12_digest_239 : decode cX12_digest 239 = .ok (.aload_n 0, 1) := by decide +kernel
theorem dX12_digest_240 : decode cX12_digest 240 = .ok (.getfield 355, 3) := by decide +kernel
theorem dX12_digest_243 : decode cX12_digest 243 = .ok (.lreturn, 1) := by decide +kernel
