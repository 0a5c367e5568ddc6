theorem dX7_init_0 : decode cX7_init 0 = .ok (.aload_n 0, 1) := by decide +kernel
theorem dX7_init_1 : decode cX7_init 1 = .ok (.invokespecial 1, 3) := by decide +kernel
theorem dX7_init_4 : decode cX7_init 4 = .ok (.aload_n 0, 1) := by decide +kernel
theorem dX7_init_5 : decode cX7_init 5 = .ok (.bipush 7, 2) := by decide +kernel
theorem dX7_init_7 : decode cX7_init 7 = .ok (.newarray .int, 2) := by decide +kernel
theorem dX7_init_9 : decode cX7_init 9 = .ok (.putfield 7, 3) := by decide +kernel
theorem dX7_init_12 : decode cX7_init 12 = .ok (.aload_n 0, 1) := by decide +kernel
theorem dX7_init_13 : decode cX7_init 13 = .ok (.bipush 12, 2) := by decide +kernel
theorem dX7_init_15 : decode cX7_init 15 = .ok (.newarray .int, 2) := by decide +kernel
theorem dX7_init_17 : decode cX7_init 17 = .ok (.putfield 13, 3) := by decide +kernel
theorem dX7_init_20 : decode cX7_init 20 = .ok (.aload_n 0, 1) := by decide +kernel
theorem dX7_init_21 : decode cX7_init 21 = .ok (.bipush 13, 2) := by decide +kernel
theorem dX7_init_23 : decode cX7_init 23 = .ok (.newarray .int, 2) := by decide +kernel
theorem dX7_init_25 : decode cX7_init 25 = .ok (.putfield 16, 3) := by decide +kernel
theorem dX7_init_28 : decode cX7_init 28 = .ok (.aload_n 0, 1) := by decide +kernel
theorem dX7_init_29 : decode cX7_init 29 = .ok (.iconst 5, 1) := by decide +kernel
theorem dX7_init_30 : decode cX7_init 30 = .ok (.newarray .int, 2) := by decide +kernel
theorem dX7_init_32 : decode cX7_init 32 = .ok (.dup, 1) := by decide +kernel
theorem dX7_init_33 : decode cX7_init 33 = .ok (.iconst 0, 1) := by decide +kernel
theorem dX7_init_34 : decode cX7_init 34 = .ok (.iconst 3, 1) := by decide +kernel
theorem dX7_init_35 : decode cX7_init 35 = .ok (.iastore, 1) := by decide +kernel
theorem dX7_init_36 : decode cX7_init 36 = .ok (.dup, 1) := by decide +kernel
theorem dX7_init_37 : decode cX7_init 37 = .ok (.iconst 1, 1) := by decide +kernel
theorem dX7_init_38 : decode cX7_init 38 = .ok (.iconst 1, 1) := by decide +kernel
theorem dX7_init_39 : decode cX7_init 39 = .ok (.iastore, 1) := by decide +kernel
theorem dX7_init_40 : decode cX7_init 40 = .ok (.dup, 1) := by decide +kernel
theorem dX7_init_41 : decode cX7_init 41 = .ok (.iconst 2, 1) := by decide +kernel
theorem dX7_init_42 : decode cX7_init 42 = .ok (.iconst 1, 1) := by decide +kernel
theorem dX7_init_43 : decode cX7_init 43 = .ok (.iastore, 1) := by decide +kernel
theorem dX7_init_44 : decode cX7_init 44 = .ok (.dup, 1) := by decide +kernel
theorem dX7_init_45 : decode cX7_init 45 = .ok (.iconst 3, 1) := by decide +kernel
theorem dX7_init_46 : decode cX7_init 46 = .ok (.iconst 0, 1) := by decide +kernel
theorem dX7_init_47 : decode cX7_init 47 = .ok (.iastore, 1) := by decide +kernel
theorem dX7_init_48 : decode cX7_init 48 = .ok (.dup, 1) := by decide +kernel
theorem dX7_init_49 : decode cX7_init 49 = .ok (.iconst 4, 1) := by decide +kernel
theorem dX7_init_50 : decode cX7_init 50 = .ok (.bipush 50, 2) := by decide +kernel
theorem dX7_init_52 : decode cX7_init 52 = .ok (.iastore, 1) := by decide +kernel
theorem dX7_init_53 : decode cX7_init 53 = .ok (.putfield 19, 3) := by decide +kernel
theorem dX7_init_56 : decode cX7_init 56 = .ok (.aload_n 0, 1) := by decide +kernel
theorem dX7_init_57 : decode cX7_init 57 = .ok (.iconst 5, 1) := by decide +kernel
theorem dX7_init_58 : decode cX7_init 58 = .ok (.newarray .int, 2) := by decide +kernel
theorem dX7_init_60 : decode cX7_init 60 = .ok (.dup, 1) := by decide +kernel
theorem dX7_init_61 : decode cX7_init 61 = .ok (.iconst 0, 1) := by decide +kernel
theorem dX7_init_62 : decode cX7_init 62 = .ok (.iconst 1, 1) := by decide +kernel
theorem dX7_init_63 : decode cX7_init 63 = .ok (.iastore, 1) := by decide +kernel
theorem dX7_init_64 : decode cX7_init 64 = .ok (.dup, 1) := by decide +kernel
theorem dX7_init_65 : decode cX7_init 65 = .ok (.iconst 1, 1) := by decide +kernel
theorem dX7_init_66 : decode cX7_init 66 = .ok (.iconst 0, 1) := by decide +kernel
theorem dX7_init_67 : decode cX7_init 67 = .ok (.iastore, 1) := by decide +kernel
theorem dX7_init_68 : decode cX7_init 68 = .ok (.dup, 1) := by decide +kernel
theorem dX7_init_69 : decode cX7_init 69 = .ok (.iconst 2, 1) := by decide +kernel
theorem dX7_init_70 : decode cX7_init 70 = .ok (.iconst 0, 1) := by decide +kernel
theorem dX7_init_71 : decode cX7_init 71 = .ok (.iastore, 1) := by decide +kernel
theorem dX7_init_72 : decode cX7_init 72 = .ok (.dup, 1) := by decide +kernel
theorem dX7_init_73 : decode cX7_init 73 = .ok (.iconst 3, 1) := by decide +kernel
theorem dX7_init_74 : decode cX7_init 74 = .ok (.iconst 0, 1) := by decide +kernel
theorem dX7_init_75 : decode cX7_init 75 = .ok (.iastore, 1) := by decide +kernel
theorem dX7_init_76 : decode cX7_init 76 = .ok (.dup, 1) := by decide +kernel
theorem dX7_init_77 : decode cX7_init 77 = .ok (.iconst 4, 1) := by decide +kernel
theorem dX7_init_78 : decode cX7_init 78 = .ok (.iconst 0, 1) := by decide +kernel
theorem dX7_init_79 : decode cX7_init 79 = .ok (.iastore, 1) := by decide +kernel
theorem dX7_init_80 : decode cX7_init 80 = .ok (.putfield 22, 3) := by decide +kernel
theorem dX7_init_83 : decode cX7_init 83 = .ok (.aload_n 0, 1) := by decide +kernel
theorem dX7_init_84 : decode cX7_init 84 = .ok (.iconst 5, 1) := by decide +kernel
theorem dX7_init_85 : decode cX7_init 85 = .ok (.newarray .int, 2) := by decide +kernel
theorem dX7_init_87 : decode cX7_init 87 = .ok (.dup, 1) := by decide +kernel
theorem dX7_init_88 : decode cX7_init 88 = .ok (.iconst 0, 1) := by decide +kernel
theorem dX7_init_89 : decode cX7_init 89 = .ok (.bipush 7, 2) := by decide +kernel
theorem dX7_init_91 : decode cX7_init 91 = .ok (.iastore, 1) := by decide +kernel
theorem dX7_init_92 : decode cX7_init 92 = .ok (.dup, 1) := by decide +kernel
theorem dX7_init_93 : decode cX7_init 93 = .ok (.iconst 1, 1) := by decide +kernel
theorem dX7_init_94 : decode cX7_init 94 = .ok (.iconst 3, 1) := by decide +kernel
theorem dX7_init_95 : decode cX7_init 95 = .ok (.iastore, 1) := by decide +kernel
theorem dX7_init_96 : decode cX7_init 96 = .ok (.dup, 1) := by decide +kernel
theorem dX7_init_97 : decode cX7_init 97 = .ok (.iconst 2, 1) := by decide +kernel
theorem dX7_init_98 : decode cX7_init 98 = .ok (.iconst 3, 1) := by decide +kernel
theorem dX7_init_99 : decode cX7_init 99 = .ok (.iastore, 1) := by decide +kernel
theorem dX7_init_100 : decode cX7_init 100 = .ok (.dup, 1) := by decide +kernel
theorem dX7_init_101 : decode cX7_init 101 = .ok (.iconst 3, 1) := by decide +kernel
theorem dX7_init_102 : decode cX7_init 102 = .ok (.iconst 1, 1) := by decide +kernel
theorem dX7_init_103 : decode cX7_init 103 = .ok (.iastore, 1) := by decide +kernel
theorem dX7_init_104 : decode cX7_init 104 = .ok (.dup, 1) := by decide +kernel
theorem dX7_init_105 : decode cX7_init 105 = .ok (.iconst 4, 1) := by decide +kernel
theorem dX7_init_106 : decode cX7_init 106 = .ok (.bipush 100, 2) := by decide +kernel
theorem dX7_init_108 : decode cX7_init 108 = .ok (.iastore, 1) := by decide +kernel
theorem dX7_init_109 : decode cX7_init 109 = .ok (.putfield 25, 3) := by decide +kernel
theorem dX7_init_112 : decode cX7_init 112 = .ok (.aload_n 0, 1) := by decide +kernel
theorem dX7_init_113 : decode cX7_init 113 = .ok (.bipush 80, 2) := by decide +kernel
theorem dX7_init_115 : decode cX7_init 115 = .ok (.newarray .int, 2) := by decide +kernel
theorem dX7_init_117 : decode cX7_init 117 = .ok (.putfield 28, 3) := by decide +kernel
theorem dX7_init_120 : decode cX7_init 120 = .ok (.aload_n 0, 1) := by decide +kernel
theorem dX7_init_121 : decode cX7_init 121 = .ok (.bipush 24, 2) := by decide +kernel
theorem dX7_init_123 : decode cX7_init 123 = .ok (.newarray .int, 2) := by decide +kernel
theorem dX7_init_125 : decode cX7_init 125 = .ok (.putfield 31, 3) := by decide +kernel
theorem dX7_init_128 : decode cX7_init 128 = .ok (.aload_n 0, 1) := by decide +kernel
theorem dX7_init_129 : decode cX7_init 129 = .ok (.bipush 8, 2) := by decide +kernel
theorem dX7_init_131 : decode cX7_init 131 = .ok (.newarray .long, 2) := by decide +kernel
theorem dX7_init_133 : decode cX7_init 133 = .ok (.putfield 34, 3) := by decide +kernel
theorem dX7_init_136 : decode cX7_init 136 = .ok (.aload_n 0, 1) := by decide +kernel
theorem dX7_init_137 : decode cX7_init 137 = .ok (.sipush 4096, 3) := by decide +kernel
theorem dX7_init_140 : decode cX7_init 140 = .ok (.newarray .long, 2) := by decide +kernel
theorem dX7_init_142 : decode cX7_init 142 = .ok (.putfield 38, 3) := by decide +kernel
theorem dX7_init_145 : decode cX7_init 145 = .ok (.aload_n 0, 1) := by decide +kernel
theorem dX7_init_146 : decode cX7_init 146 = .ok (.ldc 41, 2) := by decide +kernel
theorem dX7_init_148 : decode cX7_init 148 = .ok (.newarray .long, 2) := by decide +kernel
theorem dX7_init_150 : decode cX7_init 150 = .ok (.putfield 42, 3) := by decide +kernel
theorem dX7_init_153 : decode cX7_init 153 = .ok (.aload_n 0, 1) := by decide +kernel
theorem dX7_init_154 : decode cX7_init 154 = .ok (.sipush 4096, 3) := by decide +kernel
theorem dX7_init_157 : decode cX7_init 157 = .ok (.newarray .int, 2) := by decide +kernel
theorem dX7_init_159 : decode cX7_init 159 = .ok (.putfield 45, 3) := by decide +kernel
theorem dX7_init_162 : decode cX7_init 162 = .ok (.aload_n 0, 1) := by decide +kernel
theorem dX7_init_163 : decode cX7_init 163 = .ok (.bipush 6, 2) := by decide +kernel
theorem dX7_init_165 : decode cX7_init 165 = .ok (.newarray .int, 2) := by decide +kernel
theorem dX7_init_167 : decode cX7_init 167 = .ok (.putfield 48, 3) := by decide +kernel
theorem dX7_init_170 : decode cX7_init 170 = .ok (.aload_n 0, 1) := by decide +kernel
theorem dX7_init_171 : decode cX7_init 171 = .ok (.bipush 6, 2) := by decide +kernel
theorem dX7_init_173 : decode cX7_init 173 = .ok (.newarray .int, 2) := by decide +kernel
theorem dX7_init_175 : decode cX7_init 175 = .ok (.putfield 51, 3) := by decide +kernel
theorem dX7_init_178 : decode cX7_init 178 = .ok (.aload_n 0, 1) := by decide +kernel
theorem dX7_init_179 : decode cX7_init 179 = .ok (.sipush 220, 3) := by decide +kernel
theorem dX7_init_182 : decode cX7_init 182 = .ok (.newarray .int, 2) := by decide +kernel
theorem dX7_init_184 : decode cX7_init 184 = .ok (.putfield 54, 3) := by decide +kernel
theorem dX7_init_187 : decode cX7_init 187 = .ok (.aload_n 0, 1) := by decide +kernel
theorem dX7_init_188 : decode cX7_init 188 = .ok (.sipush 220, 3) := by decide +kernel
theorem dX7_init_191 : decode cX7_init 191 = .ok (.newarray .int, 2) := by decide +kernel
theorem dX7_init_193 : decode cX7_init 193 = .ok (.putfield 57, 3) := by decide +kernel
theorem dX7_init_196 : decode cX7_init 196 = .ok (.aload_n 0, 1) := by decide +kernel
theorem dX7_init_197 : decode cX7_init 197 = .ok (.sipush 220, 3) := by decide +kernel
theorem dX7_init_200 : decode cX7_init 200 = .ok (.newarray .long, 2) := by decide +kernel
theorem dX7_init_202 : decode cX7_init 202 = .ok (.putfield 60, 3) := by decide +kernel
theorem dX7_init_205 : decode cX7_init 205 = .ok (.aload_n 0, 1) := by decide +kernel
theorem dX7_init_206 : decode cX7_init 206 = .ok (.sipush 220, 3) := by decide +kernel
theorem dX7_init_209 : decode cX7_init 209 = .ok (.newarray .long, 2) := by decide +kernel
theorem dX7_init_211 : decode cX7_init 211 = .ok (.putfield 63, 3) := by decide +kernel
theorem dX7_init_214 : decode cX7_init 214 = .ok (.aload_n 0, 1) := by decide +kernel
theorem dX7_init_215 : decode cX7_init 215 = .ok (.ldc 66, 2) := by decide +kernel
theorem dX7_init_217 : decode cX7_init 217 = .ok (.newarray .long, 2) := by decide +kernel
theorem dX7_init_219 : decode cX7_init 219 = .ok (.putfield 67, 3) := by decide +kernel
theorem dX7_init_222 : decode cX7_init 222 = .ok (.aload_n 0, 1) := by decide +kernel
theorem dX7_init_223 : decode cX7_init 223 = .ok (.bipush 40, 2) := by decide +kernel
theorem dX7_init_225 : decode cX7_init 225 = .ok (.newarray .int, 2) := by decide +kernel
theorem dX7_init_227 : decode cX7_init 227 = .ok (.putfield 70, 3) := by decide +kernel
theorem dX7_init_230 : decode cX7_init 230 = .ok (.iconst 0, 1) := by decide +kernel
theorem dX7_init_231 : decode cX7_init 231 = .ok (.istore_n 1, 1) := by decide +kernel
theorem dX7_init_232 : decode cX7_init 232 = .ok (.iload_n 1, 1) := by decide +kernel
theorem dX7_init_233 : decode cX7_init 233 = .ok (.bipush 12, 2) := by decide +kernel
theorem dX7_init_235 : decode cX7_init 235 = .ok (.if_icmp .ge 17, 3) := by decide +kernel
theorem dX7_init_238 : decode cX7_init 238 = .ok (.aload_n 0, 1) := by decide +kernel
theorem dX7_init_239 : decode cX7_init 239 = .ok (.getfield 13, 3) := by decide +kernel
theorem dX7_init_242 : decode cX7_init 242 = .ok (.iload_n 1, 1) := by decide +kernel
theorem dX7_init_243 : decode cX7_init 243 = .ok (.bipush 50, 2) := by decide +kernel
theorem dX7_init_245 : decode cX7_init 245 = .ok (.iastore, 1) := by decide +kernel
theorem dX7_init_246 : decode cX7_init 246 = .ok (.iinc 1 1, 3) := by decide +kernel
theorem dX7_init_249 : decode cX7_init 249 = .ok (.goto (-17), 3) := by decide +kernel
theorem dX7_init_252 : decode cX7_init 252 = .ok (.return_, 1) := by decide +kernel
theorem dX7_no_0 : decode cX7_no 0 = .ok (.aload_n 0, 1) := by decide +kernel
theorem dX7_no_1 : decode cX7_no 1 = .ok (.getfield 7, 3) := by decide +kernel
theorem dX7_no_4 : decode cX7_no 4 = .ok (.iload_n 1, 1) := by decide +kernel
theorem dX7_no_5 : decode cX7_no 5 = .ok (.ineg, 1) := by decide +kernel
theorem dX7_no_6 : decode cX7_no 6 = .ok (.dup2, 1) := by decide +kernel
theorem dX7_no_7 : decode cX7_no 7 = .ok (.iaload, 1) := by decide +kernel
theorem dX7_no_8 : decode cX7_no 8 = .ok (.iconst 1, 1) := by decide +kernel
theorem dX7_no_9 : decode cX7_no 9 = .ok (.iadd, 1) := by decide +kernel
theorem dX7_no_10 : decode cX7_no 10 = .ok (.iastore, 1) := by decide +kernel
theorem dX7_no_11 : decode cX7_no 11 = .ok (.iload_n 1, 1) := by decide +kernel
theorem dX7_no_12 : decode cX7_no 12 = .ok (.ireturn, 1) := by decide +kernel
theorem dX7_noLong_0 : decode cX7_noLong 0 = .ok (.aload_n 0, 1) := by decide +kernel
theorem dX7_noLong_1 : decode cX7_noLong 1 = .ok (.getfield 7, 3) := by decide +kernel
theorem dX7_noLong_4 : decode cX7_noLong 4 = .ok (.iload_n 1, 1) := by decide +kernel
theorem dX7_noLong_5 : decode cX7_noLong 5 = .ok (.ineg, 1) := by decide +kernel
theorem dX7_noLong_6 : decode cX7_noLong 6 = .ok (.dup2, 1) := by decide +kernel
theorem dX7_noLong_7 : decode cX7_noLong 7 = .ok (.iaload, 1) := by decide +kernel
theorem dX7_noLong_8 : decode cX7_noLong 8 = .ok (.iconst 1, 1) := by decide +kernel
theorem dX7_noLong_9 : decode cX7_noLong 9 = .ok (.iadd, 1) := by decide +kernel
theorem dX7_noLong_10 : decode cX7_noLong 10 = .ok (.iastore, 1) := by decide +kernel
theorem dX7_noLong_11 : decode cX7_noLong 11 = .ok (.iload_n 1, 1) := by decide +kernel
theorem dX7_noLong_12 : decode cX7_noLong 12 = .ok (.i2l, 1) := by decide +kernel
theorem dX7_noLong_13 : decode cX7_noLong 13 = .ok (.ldc2_w 73, 3) := by decide +kernel
theorem dX7_noLong_16 : decode cX7_noLong 16 = .ok (.lsub, 1) := by decide +kernel
theorem dX7_noLong_17 : decode cX7_noLong 17 = .ok (.lreturn, 1) := by decide +kernel
theorem dX7_isIn_0 : decode cX7_isIn 0 = .ok (.iload_n 0, 1) := by decide +kernel
theorem dX7_isIn_1 : decode cX7_isIn 1 = .ok (.iload_n 1, 1) := by decide +kernel
theorem dX7_isIn_2 : decode cX7_isIn 2 = .ok (.if_icmp .lt 12, 3) := by decide +kernel
theorem dX7_isIn_5 : decode cX7_isIn 5 = .ok (.iload_n 0, 1) := by decide +kernel
theorem dX7_isIn_6 : decode cX7_isIn 6 = .ok (.iload_n 2, 1) := by decide +kernel
theorem dX7_isIn_7 : decode cX7_isIn 7 = .ok (.if_icmp .gt 7, 3) := by decide +kernel
theorem dX7_isIn_10 : decode cX7_isIn 10 = .ok (.iconst 1, 1) := by decide +kernel
theorem dX7_isIn_11 : decode cX7_isIn 11 = .ok (.goto 4, 3) := by decide +kernel
theorem dX7_isIn_14 : decode cX7_isIn 14 = .ok (.iconst 0, 1) := by decide +kernel
theorem dX7_isIn_15 : decode cX7_isIn 15 = .ok (.ireturn, 1) := by decide +kernel
theorem dX7_out_0 : decode cX7_out 0 = .ok (.iload_n 0, 1) := by decide +kernel
theorem dX7_out_1 : decode cX7_out 1 = .ok (.iload_n 1, 1) := by decide +kernel
theorem dX7_out_2 : decode cX7_out 2 = .ok (.if_icmp .ge 8, 3) := by decide +kernel
theorem dX7_out_5 : decode cX7_out 5 = .ok (.bipush (-4), 2) := by decide +kernel
theorem dX7_out_7 : decode cX7_out 7 = .ok (.goto 14, 3) := by decide +kernel
theorem dX7_out_10 : decode cX7_out 10 = .ok (.iload_n 0, 1) := by decide +kernel
theorem dX7_out_11 : decode cX7_out 11 = .ok (.iload_n 2, 1) := by decide +kernel
theorem dX7_out_12 : decode cX7_out 12 = .ok (.if_icmp .le 8, 3) := by decide +kernel
theorem dX7_out_15 : decode cX7_out 15 = .ok (.bipush (-6), 2) := by decide +kernel
theorem dX7_out_17 : decode cX7_out 17 = .ok (.goto 4, 3) := by decide +kernel
theorem dX7_out_20 : decode cX7_out 20 = .ok (.iconst 0, 1) := by decide +kernel
theorem dX7_out_21 : decode cX7_out 21 = .ok (.ireturn, 1) := by decide +kernel
theorem dX7_bits_0 : decode cX7_bits 0 = .ok (.iconst 0, 1) := by decide +kernel
theorem dX7_bits_1 : decode cX7_bits 1 = .ok (.istore_n 1, 1) := by decide +kernel
theorem dX7_bits_2 : decode cX7_bits 2 = .ok (.iconst 0, 1) := by decide +kernel
theorem dX7_bits_3 : decode cX7_bits 3 = .ok (.istore_n 2, 1) := by decide +kernel
theorem dX7_bits_4 : decode cX7_bits 4 = .ok (.iload_n 2, 1) := by decide +kernel
theorem dX7_bits_5 : decode cX7_bits 5 = .ok (.bipush 31, 2) := by decide +kernel
theorem dX7_bits_7 : decode cX7_bits 7 = .ok (.if_icmp .ge 17, 3) := by decide +kernel
theorem dX7_bits_10 : decode cX7_bits 10 = .ok (.iload_n 1, 1) := by decide +kernel
theorem dX7_bits_11 : decode cX7_bits 11 = .ok (.iload_n 0, 1) := by decide +kernel
theorem dX7_bits_12 : decode cX7_bits 12 = .ok (.iload_n 2, 1) := by decide +kernel
theorem dX7_bits_13 : decode cX7_bits 13 = .ok (.ishr, 1) := by decide +kernel
theorem dX7_bits_14 : decode cX7_bits 14 = .ok (.iconst 1, 1) := by decide +kernel
theorem dX7_bits_15 : decode cX7_bits 15 = .ok (.iand, 1) := by decide +kernel
theorem dX7_bits_16 : decode cX7_bits 16 = .ok (.iadd, 1) := by decide +kernel
theorem dX7_bits_17 : decode cX7_bits 17 = .ok (.istore_n 1, 1) := by decide +kernel
theorem dX7_bits_18 : decode cX7_bits 18 = .ok (.iinc 2 1, 3) := by decide +kernel
theorem dX7_bits_21 : decode cX7_bits 21 = .ok (.goto (-17), 3) := by decide +kernel
theorem dX7_bits_24 : decode cX7_bits 24 = .ok (.iload_n 1, 1) := by decide +kernel
theorem dX7_bits_25 : decode cX7_bits 25 = .ok (.ireturn, 1) := by decide +kernel
theorem dX7_isSort_0 : decode cX7_isSort 0 = .ok (.iload_n 0, 1) := by decide +kernel
theorem dX7_isSort_1 : decode cX7_isSort 1 = .ok (.ifCond .lt 13, 3) := by decide +kernel
theorem dX7_isSort_4 : decode cX7_isSort 4 = .ok (.iload_n 0, 1) := by decide +kernel
theorem dX7_isSort_5 : decode cX7_isSort 5 = .ok (.bipush 6, 2) := by decide +kernel
theorem dX7_isSort_7 : decode cX7_isSort 7 = .ok (.if_icmp .ge 7, 3) := by decide +kernel
theorem dX7_isSort_10 : decode cX7_isSort 10 = .ok (.iconst 1, 1) := by decide +kernel
theorem dX7_isSort_11 : decode cX7_isSort 11 = .ok (.goto 4, 3) := by decide +kernel
theorem dX7_isSort_14 : decode cX7_isSort 14 = .ok (.iconst 0, 1) := by decide +kernel
theorem dX7_isSort_15 : decode cX7_isSort 15 = .ok (.ireturn, 1) := by decide +kernel
theorem dX7_sort_0 : decode cX7_sort 0 = .ok (.iload_n 1, 1) := by decide +kernel
theorem dX7_sort_1 : decode cX7_sort 1 = .ok (.invokestatic 75, 3) := by decide +kernel
theorem dX7_sort_4 : decode cX7_sort 4 = .ok (.ifCond .ne 9, 3) := by decide +kernel
theorem dX7_sort_7 : decode cX7_sort 7 = .ok (.aload_n 0, 1) := by decide +kernel
theorem dX7_sort_8 : decode cX7_sort 8 = .ok (.iconst (-1), 1) := by decide +kernel
theorem dX7_sort_9 : decode cX7_sort 9 = .ok (.invokevirtual 79, 3) := by decide +kernel
theorem dX7_sort_12 : decode cX7_sort 12 = .ok (.ireturn, 1) := by decide +kernel
theorem dX7_sort_13 : decode cX7_sort 13 = .ok (.iload_n 2, 1) := by decide +kernel
theorem dX7_sort_14 : decode cX7_sort 14 = .ok (.ifCond .lt 7, 3) := by decide +kernel
theorem dX7_sort_17 : decode cX7_sort 17 = .ok (.iload_n 3, 1) := by decide +kernel
theorem dX7_sort_18 : decode cX7_sort 18 = .ok (.ifCond .ge 8, 3) := by decide +kernel
theorem dX7_sort_21 : decode cX7_sort 21 = .ok (.bipush (-4), 2) := by decide +kernel
theorem dX7_sort_23 : decode cX7_sort 23 = .ok (.goto 21, 3) := by decide +kernel
theorem dX7_sort_26 : decode cX7_sort 26 = .ok (.iload_n 2, 1) := by decide +kernel
theorem dX7_sort_27 : decode cX7_sort 27 = .ok (.bipush 100, 2) := by decide +kernel
theorem dX7_sort_29 : decode cX7_sort 29 = .ok (.if_icmp .gt 9, 3) := by decide +kernel
theorem dX7_sort_32 : decode cX7_sort 32 = .ok (.iload_n 3, 1) := by decide +kernel
theorem dX7_sort_33 : decode cX7_sort 33 = .ok (.bipush 100, 2) := by decide +kernel
theorem dX7_sort_35 : decode cX7_sort 35 = .ok (.if_icmp .le 8, 3) := by decide +kernel
theorem dX7_sort_38 : decode cX7_sort 38 = .ok (.bipush (-6), 2) := by decide +kernel
theorem dX7_sort_40 : decode cX7_sort 40 = .ok (.goto 4, 3) := by decide +kernel
theorem dX7_sort_43 : decode cX7_sort 43 = .ok (.iconst 0, 1) := by decide +kernel
theorem dX7_sort_44 : decode cX7_sort 44 = .ok (.istore 4, 2) := by decide +kernel
theorem dX7_sort_46 : decode cX7_sort 46 = .ok (.iload 4, 2) := by decide +kernel
theorem dX7_sort_48 : decode cX7_sort 48 = .ok (.ifCond .eq 10, 3) := by decide +kernel
theorem dX7_sort_51 : decode cX7_sort 51 = .ok (.aload_n 0, 1) := by decide +kernel
theorem dX7_sort_52 : decode cX7_sort 52 = .ok (.iload 4, 2) := by decide +kernel
theorem dX7_sort_54 : decode cX7_sort 54 = .ok (.invokevirtual 79, 3) := by decide +kernel
theorem dX7_sort_57 : decode cX7_sort 57 = .ok (.ireturn, 1) := by decide +kernel
theorem dX7_sort_58 : decode cX7_sort 58 = .ok (.aload_n 0, 1) := by decide +kernel
theorem dX7_sort_59 : decode cX7_sort 59 = .ok (.getfield 13, 3) := by decide +kernel
theorem dX7_sort_62 : decode cX7_sort 62 = .ok (.iconst 2, 1) := by decide +kernel
theorem dX7_sort_63 : decode cX7_sort 63 = .ok (.iload_n 1, 1) := by decide +kernel
theorem dX7_sort_64 : decode cX7_sort 64 = .ok (.imul, 1) := by decide +kernel
theorem dX7_sort_65 : decode cX7_sort 65 = .ok (.iload_n 2, 1) := by decide +kernel
theorem dX7_sort_66 : decode cX7_sort 66 = .ok (.iastore, 1) := by decide +kernel
theorem dX7_sort_67 : decode cX7_sort 67 = .ok (.aload_n 0, 1) := by decide +kernel
theorem dX7_sort_68 : decode cX7_sort 68 = .ok (.getfield 13, 3) := by decide +kernel
theorem dX7_sort_71 : decode cX7_sort 71 = .ok (.iconst 2, 1) := by decide +kernel
theorem dX7_sort_72 : decode cX7_sort 72 = .ok (.iload_n 1, 1) := by decide +kernel
theorem dX7_sort_73 : decode cX7_sort 73 = .ok (.imul, 1) := by decide +kernel
theorem dX7_sort_74 : decode cX7_sort 74 = .ok (.iconst 1, 1) := by decide +kernel
theorem dX7_sort_75 : decode cX7_sort 75 = .ok (.iadd, 1) := by decide +kernel
theorem dX7_sort_76 : decode cX7_sort 76 = .ok (.iload_n 3, 1) := by decide +kernel
theorem dX7_sort_77 : decode cX7_sort 77 = .ok (.iastore, 1) := by decide +kernel
theorem dX7_sort_78 : decode cX7_sort 78 = .ok (.iconst 1, 1) := by decide +kernel
theorem dX7_sort_79 : decode cX7_sort 79 = .ok (.ireturn, 1) := by decide +kernel
theorem dX7_person_0 : decode cX7_person 0 = .ok (.iload_n 1, 1) := by decide +kernel
theorem dX7_person_1 : decode cX7_person 1 = .ok (.invokestatic 75, 3) := by decide +kernel
theorem dX7_person_4 : decode cX7_person 4 = .ok (.ifCond .ne 9, 3) := by decide +kernel
theorem dX7_person_7 : decode cX7_person 7 = .ok (.aload_n 0, 1) := by decide +kernel
theorem dX7_person_8 : decode cX7_person 8 = .ok (.iconst (-1), 1) := by decide +kernel
theorem dX7_person_9 : decode cX7_person 9 = .ok (.invokevirtual 79, 3) := by decide +kernel
theorem dX7_person_12 : decode cX7_person 12 = .ok (.ireturn, 1) := by decide +kernel
theorem dX7_person_13 : decode cX7_person 13 = .ok (.aload_n 0, 1) := by decide +kernel
theorem dX7_person_14 : decode cX7_person 14 = .ok (.getfield 83, 3) := by decide +kernel
theorem dX7_person_17 : decode cX7_person 17 = .ok (.bipush 12, 2) := by decide +kernel
theorem dX7_person_19 : decode cX7_person 19 = .ok (.if_icmp .ne 10, 3) := by decide +kernel
theorem dX7_person_22 : decode cX7_person 22 = .ok (.aload_n 0, 1) := by decide +kernel
theorem dX7_person_23 : decode cX7_person 23 = .ok (.bipush (-6), 2) := by decide +kernel
theorem dX7_person_25 : decode cX7_person 25 = .ok (.invokevirtual 79, 3) := by decide +kernel
theorem dX7_person_28 : decode cX7_person 28 = .ok (.ireturn, 1) := by decide +kernel
theorem dX7_person_29 : decode cX7_person 29 = .ok (.aload_n 0, 1) := by decide +kernel
theorem dX7_person_30 : decode cX7_person 30 = .ok (.getfield 16, 3) := by decide +kernel
theorem dX7_person_33 : decode cX7_person 33 = .ok (.aload_n 0, 1) := by decide +kernel
theorem dX7_person_34 : decode cX7_person 34 = .ok (.getfield 83, 3) := by decide +kernel
theorem dX7_person_37 : decode cX7_person 37 = .ok (.iload_n 1, 1) := by decide +kernel
theorem dX7_person_38 : decode cX7_person 38 = .ok (.iastore, 1) := by decide +kernel
theorem dX7_person_39 : decode cX7_person 39 = .ok (.aload_n 0, 1) := by decide +kernel
theorem dX7_person_40 : decode cX7_person 40 = .ok (.dup, 1) := by decide +kernel
theorem dX7_person_41 : decode cX7_person 41 = .ok (.getfield 83, 3) := by decide +kernel
theorem dX7_person_44 : decode cX7_person 44 = .ok (.iconst 1, 1) := by decide +kernel
theorem dX7_person_45 : decode cX7_person 45 = .ok (.iadd, 1) := by decide +kernel
theorem dX7_person_46 : decode cX7_person 46 = .ok (.putfield 83, 3) := by decide +kernel
theorem dX7_person_49 : decode cX7_person 49 = .ok (.aload_n 0, 1) := by decide +kernel
theorem dX7_person_50 : decode cX7_person 50 = .ok (.getfield 83, 3) := by decide +kernel
theorem dX7_person_53 : decode cX7_person 53 = .ok (.iconst 1, 1) := by decide +kernel
theorem dX7_person_54 : decode cX7_person 54 = .ok (.isub, 1) := by decide +kernel
theorem dX7_person_55 : decode cX7_person 55 = .ok (.ireturn, 1) := by decide +kernel
theorem dX7_takeBack_0 : decode cX7_takeBack 0 = .ok (.aload_n 0, 1) := by decide +kernel
theorem dX7_takeBack_1 : decode cX7_takeBack 1 = .ok (.getfield 83, 3) := by decide +kernel
theorem dX7_takeBack_4 : decode cX7_takeBack 4 = .ok (.ifCond .ne 10, 3) := by decide +kernel
theorem dX7_takeBack_7 : decode cX7_takeBack 7 = .ok (.aload_n 0, 1) := by decide +kernel
theorem dX7_takeBack_8 : decode cX7_takeBack 8 = .ok (.bipush (-3), 2) := by decide +kernel
theorem dX7_takeBack_10 : decode cX7_takeBack 10 = .ok (.invokevirtual 79, 3) := by decide +kernel
theorem dX7_takeBack_13 : decode cX7_takeBack 13 = .ok (.ireturn, 1) := by decide +kernel
theorem dX7_takeBack_14 : decode cX7_takeBack 14 = .ok (.aload_n 0, 1) := by decide +kernel
theorem dX7_takeBack_15 : decode cX7_takeBack 15 = .ok (.dup, 1) := by decide +kernel
theorem dX7_takeBack_16 : decode cX7_takeBack 16 = .ok (.getfield 83, 3) := by decide +kernel
theorem dX7_takeBack_19 : decode cX7_takeBack 19 = .ok (.iconst 1, 1) := by decide +kernel
theorem dX7_takeBack_20 : decode cX7_takeBack 20 = .ok (.isub, 1) := by decide +kernel
theorem dX7_takeBack_21 : decode cX7_takeBack 21 = .ok (.putfield 83, 3) := by decide +kernel
theorem dX7_takeBack_24 : decode cX7_takeBack 24 = .ok (.aload_n 0, 1) := by decide +kernel
theorem dX7_takeBack_25 : decode cX7_takeBack 25 = .ok (.getfield 83, 3) := by decide +kernel
theorem dX7_takeBack_28 : decode cX7_takeBack 28 = .ok (.ireturn, 1) := by decide +kernel
theorem dX7_set_0 : decode cX7_set 0 = .ok (.iload_n 1, 1) := by decide +kernel
theorem dX7_set_1 : decode cX7_set 1 = .ok (.iconst 0, 1) := by decide +kernel
theorem dX7_set_2 : decode cX7_set 2 = .ok (.iconst 4, 1) := by decide +kernel
theorem dX7_set_3 : decode cX7_set 3 = .ok (.invokestatic 87, 3) := by decide +kernel
theorem dX7_set_6 : decode cX7_set 6 = .ok (.ifCond .ne 10, 3) := by decide +kernel
theorem dX7_set_9 : decode cX7_set 9 = .ok (.aload_n 0, 1) := by decide +kernel
theorem dX7_set_10 : decode cX7_set 10 = .ok (.bipush (-2), 2) := by decide +kernel
theorem dX7_set_12 : decode cX7_set 12 = .ok (.invokevirtual 79, 3) := by decide +kernel
theorem dX7_set_15 : decode cX7_set 15 = .ok (.ireturn, 1) := by decide +kernel
theorem dX7_set_16 : decode cX7_set 16 = .ok (.iload_n 2, 1) := by decide +kernel
theorem dX7_set_17 : decode cX7_set 17 = .ok (.aload_n 0, 1) := by decide +kernel
theorem dX7_set_18 : decode cX7_set 18 = .ok (.getfield 22, 3) := by decide +kernel
theorem dX7_set_21 : decode cX7_set 21 = .ok (.iload_n 1, 1) := by decide +kernel
theorem dX7_set_22 : decode cX7_set 22 = .ok (.iaload, 1) := by decide +kernel
theorem dX7_set_23 : decode cX7_set 23 = .ok (.aload_n 0, 1) := by decide +kernel
theorem dX7_set_24 : decode cX7_set 24 = .ok (.getfield 25, 3) := by decide +kernel
theorem dX7_set_27 : decode cX7_set 27 = .ok (.iload_n 1, 1) := by decide +kernel
theorem dX7_set_28 : decode cX7_set 28 = .ok (.iaload, 1) := by decide +kernel
theorem dX7_set_29 : decode cX7_set 29 = .ok (.invokestatic 91, 3) := by decide +kernel
theorem dX7_set_32 : decode cX7_set 32 = .ok (.istore_n 3, 1) := by decide +kernel
theorem dX7_set_33 : decode cX7_set 33 = .ok (.iload_n 3, 1) := by decide +kernel
theorem dX7_set_34 : decode cX7_set 34 = .ok (.ifCond .eq 9, 3) := by decide +kernel
theorem dX7_set_37 : decode cX7_set 37 = .ok (.aload_n 0, 1) := by decide +kernel
theorem dX7_set_38 : decode cX7_set 38 = .ok (.iload_n 3, 1) := by decide +kernel
theorem dX7_set_39 : decode cX7_set 39 = .ok (.invokevirtual 79, 3) := by decide +kernel
theorem dX7_set_42 : decode cX7_set 42 = .ok (.ireturn, 1) := by decide +kernel
theorem dX7_set_43 : decode cX7_set 43 = .ok (.aload_n 0, 1) := by decide +kernel
theorem dX7_set_44 : decode cX7_set 44 = .ok (.getfield 19, 3) := by decide +kernel
theorem dX7_set_47 : decode cX7_set 47 = .ok (.iload_n 1, 1) := by decide +kernel
theorem dX7_set_48 : decode cX7_set 48 = .ok (.iaload, 1) := by decide +kernel
theorem dX7_set_49 : decode cX7_set 49 = .ok (.istore 4, 2) := by decide +kernel
theorem dX7_set_51 : decode cX7_set 51 = .ok (.aload_n 0, 1) := by decide +kernel
theorem dX7_set_52 : decode cX7_set 52 = .ok (.getfield 19, 3) := by decide +kernel
theorem dX7_set_55 : decode cX7_set 55 = .ok (.iload_n 1, 1) := by decide +kernel
theorem dX7_set_56 : decode cX7_set 56 = .ok (.iload_n 2, 1) := by decide +kernel
theorem dX7_set_57 : decode cX7_set 57 = .ok (.iastore, 1) := by decide +kernel
theorem dX7_set_58 : decode cX7_set 58 = .ok (.iload 4, 2) := by decide +kernel
theorem dX7_set_60 : decode cX7_set 60 = .ok (.ireturn, 1) := by decide +kernel
theorem dX7_needed_0 : decode cX7_needed 0 = .ok (.aload_n 0, 1) := by decide +kernel
theorem dX7_needed_1 : decode cX7_needed 1 = .ok (.getfield 19, 3) := by decide +kernel
theorem dX7_needed_4 : decode cX7_needed 4 = .ok (.iconst 0, 1) := by decide +kernel
theorem dX7_needed_5 : decode cX7_needed 5 = .ok (.iaload, 1) := by decide +kernel
theorem dX7_needed_6 : decode cX7_needed 6 = .ok (.ireturn, 1) := by decide +kernel
theorem dX7_calledMany_0 : decode cX7_calledMany 0 = .ok (.aload_n 0, 1) := by decide +kernel
theorem dX7_calledMany_1 : decode cX7_calledMany 1 = .ok (.getfield 19, 3) := by decide +kernel
theorem dX7_calledMany_4 : decode cX7_calledMany 4 = .ok (.iconst 0, 1) := by decide +kernel
theorem dX7_calledMany_5 : decode cX7_calledMany 5 = .ok (.iaload, 1) := by decide +kernel
theorem dX7_calledMany_6 : decode cX7_calledMany 6 = .ok (.aload_n 0, 1) := by decide +kernel
theorem dX7_calledMany_7 : decode cX7_calledMany 7 = .ok (.getfield 19, 3) := by decide +kernel
theorem dX7_calledMany_10 : decode cX7_calledMany 10 = .ok (.iconst 1, 1) := by decide +kernel
theorem dX7_calledMany_11 : decode cX7_calledMany 11 = .ok (.iaload, 1) := by decide +kernel
theorem dX7_calledMany_12 : decode cX7_calledMany 12 = .ok (.iadd, 1) := by decide +kernel
theorem dX7_calledMany_13 : decode cX7_calledMany 13 = .ok (.aload_n 0, 1) := by decide +kernel
theorem dX7_calledMany_14 : decode cX7_calledMany 14 = .ok (.getfield 19, 3) := by decide +kernel
theorem dX7_calledMany_17 : decode cX7_calledMany 17 = .ok (.iconst 2, 1) := by decide +kernel
theorem dX7_calledMany_18 : decode cX7_calledMany 18 = .ok (.iaload, 1) := by decide +kernel
theorem dX7_calledMany_19 : decode cX7_calledMany 19 = .ok (.iadd, 1) := by decide +kernel
theorem dX7_calledMany_20 : decode cX7_calledMany 20 = .ok (.ireturn, 1) := by decide +kernel
theorem dX7_isEnough_0 : decode cX7_isEnough 0 = .ok (.aload_n 0, 1) := by decide +kernel
theorem dX7_isEnough_1 : decode cX7_isEnough 1 = .ok (.invokevirtual 95, 3) := by decide +kernel
theorem dX7_isEnough_4 : decode cX7_isEnough 4 = .ok (.aload_n 0, 1) := by decide +kernel
theorem dX7_isEnough_5 : decode cX7_isEnough 5 = .ok (.getfield 83, 3) := by decide +kernel
theorem dX7_isEnough_8 : decode cX7_isEnough 8 = .ok (.if_icmp .gt 7, 3) := by decide +kernel
theorem dX7_isEnough_11 : decode cX7_isEnough 11 = .ok (.iconst 1, 1) := by decide +kernel
theorem dX7_isEnough_12 : decode cX7_isEnough 12 = .ok (.goto 4, 3) := by decide +kernel
theorem dX7_isEnough_15 : decode cX7_isEnough 15 = .ok (.iconst 0, 1) := by decide +kernel
theorem dX7_isEnough_16 : decode cX7_isEnough 16 = .ok (.ireturn, 1) := by decide +kernel
theorem dX7_called_0 : decode cX7_called 0 = .ok (.iconst 1, 1) := by decide +kernel
theorem dX7_called_1 : decode cX7_called 1 = .ok (.aload_n 0, 1) := by decide +kernel
theorem dX7_called_2 : decode cX7_called 2 = .ok (.invokevirtual 95, 3) := by decide +kernel
theorem dX7_called_5 : decode cX7_called 5 = .ok (.ishl, 1) := by decide +kernel
theorem dX7_called_6 : decode cX7_called 6 = .ok (.iconst 1, 1) := by decide +kernel
theorem dX7_called_7 : decode cX7_called 7 = .ok (.isub, 1) := by decide +kernel
theorem dX7_called_8 : decode cX7_called 8 = .ok (.ireturn, 1) := by decide +kernel
theorem dX7_feed_0 : decode cX7_feed 0 = .ok (.iload_n 1, 1) := by decide +kernel
theorem dX7_feed_1 : decode cX7_feed 1 = .ok (.iconst 1, 1) := by decide +kernel
theorem dX7_feed_2 : decode cX7_feed 2 = .ok (.bipush 8, 2) := by decide +kernel
theorem dX7_feed_4 : decode cX7_feed 4 = .ok (.invokestatic 91, 3) := by decide +kernel
theorem dX7_feed_7 : decode cX7_feed 7 = .ok (.istore 4, 2) := by decide +kernel
theorem dX7_feed_9 : decode cX7_feed 9 = .ok (.iload 4, 2) := by decide +kernel
theorem dX7_feed_11 : decode cX7_feed 11 = .ok (.ifCond .ne 18, 3) := by decide +kernel
theorem dX7_feed_14 : decode cX7_feed 14 = .ok (.aload_n 0, 1) := by decide +kernel
theorem dX7_feed_15 : decode cX7_feed 15 = .ok (.getfield 99, 3) := by decide +kernel
theorem dX7_feed_18 : decode cX7_feed 18 = .ok (.iload_n 1, 1) := by decide +kernel
theorem dX7_feed_19 : decode cX7_feed 19 = .ok (.iadd, 1) := by decide +kernel
theorem dX7_feed_20 : decode cX7_feed 20 = .ok (.bipush 80, 2) := by decide +kernel
theorem dX7_feed_22 : decode cX7_feed 22 = .ok (.if_icmp .le 7, 3) := by decide +kernel
theorem dX7_feed_25 : decode cX7_feed 25 = .ok (.bipush (-6), 2) := by decide +kernel
theorem dX7_feed_27 : decode cX7_feed 27 = .ok (.istore 4, 2) := by decide +kernel
theorem dX7_feed_29 : decode cX7_feed 29 = .ok (.iload 4, 2) := by decide +kernel
theorem dX7_feed_31 : decode cX7_feed 31 = .ok (.ifCond .eq 10, 3) := by decide +kernel
theorem dX7_feed_34 : decode cX7_feed 34 = .ok (.aload_n 0, 1) := by decide +kernel
theorem dX7_feed_35 : decode cX7_feed 35 = .ok (.iload 4, 2) := by decide +kernel
theorem dX7_feed_37 : decode cX7_feed 37 = .ok (.invokevirtual 79, 3) := by decide +kernel
theorem dX7_feed_40 : decode cX7_feed 40 = .ok (.ireturn, 1) := by decide +kernel
theorem dX7_feed_41 : decode cX7_feed 41 = .ok (.iconst 0, 1) := by decide +kernel
theorem dX7_feed_42 : decode cX7_feed 42 = .ok (.istore 5, 2) := by decide +kernel
theorem dX7_feed_44 : decode cX7_feed 44 = .ok (.iload 5, 2) := by decide +kernel
theorem dX7_feed_46 : decode cX7_feed 46 = .ok (.iload_n 1, 1) := by decide +kernel
theorem dX7_feed_47 : decode cX7_feed 47 = .ok (.if_icmp .ge 40, 3) := by decide +kernel
theorem dX7_feed_50 : decode cX7_feed 50 = .ok (.aload_n 0, 1) := by decide +kernel
theorem dX7_feed_51 : decode cX7_feed 51 = .ok (.getfield 28, 3) := by decide +kernel
theorem dX7_feed_54 : decode cX7_feed 54 = .ok (.aload_n 0, 1) := by decide +kernel
theorem dX7_feed_55 : decode cX7_feed 55 = .ok (.getfield 99, 3) := by decide +kernel
theorem dX7_feed_58 : decode cX7_feed 58 = .ok (.lload_n 2, 1) := by decide +kernel
theorem dX7_feed_59 : decode cX7_feed 59 = .ok (.bipush 8, 2) := by decide +kernel
theorem dX7_feed_61 : decode cX7_feed 61 = .ok (.iload 5, 2) := by decide +kernel
theorem dX7_feed_63 : decode cX7_feed 63 = .ok (.imul, 1) := by decide +kernel
theorem dX7_feed_64 : decode cX7_feed 64 = .ok (.lshr, 1) := by decide +kernel
theorem dX7_feed_65 : decode cX7_feed 65 = .ok (.ldc2_w 102, 3) := by decide +kernel
theorem dX7_feed_68 : decode cX7_feed 68 = .ok (.land, 1) := by decide +kernel
theorem dX7_feed_69 : decode cX7_feed 69 = .ok (.l2i, 1) := by decide +kernel
theorem dX7_feed_70 : decode cX7_feed 70 = .ok (.iastore, 1) := by decide +kernel
theorem dX7_feed_71 : decode cX7_feed 71 = .ok (.aload_n 0, 1) := by decide +kernel
theorem dX7_feed_72 : decode cX7_feed 72 = .ok (.dup, 1) := by decide +kernel
theorem dX7_feed_73 : decode cX7_feed 73 = .ok (.getfield 99, 3) := by decide +kernel
theorem dX7_feed_76 : decode cX7_feed 76 = .ok (.iconst 1, 1) := by decide +kernel
theorem dX7_feed_77 : decode cX7_feed 77 = .ok (.iadd, 1) := by decide +kernel
theorem dX7_feed_78 : decode cX7_feed 78 = .ok (.putfield 99, 3) := by decide +kernel
theorem dX7_feed_81 : decode cX7_feed 81 = .ok (.iinc 5 1, 3) := by decide +kernel
theorem dX7_feed_84 : decode cX7_feed 84 = .ok (.goto (-40), 3) := by decide +kernel
theorem dX7_feed_87 : decode cX7_feed 87 = .ok (.aload_n 0, 1) := by decide +kernel
theorem dX7_feed_88 : decode cX7_feed 88 = .ok (.getfield 99, 3) := by decide +kernel
theorem dX7_feed_91 : decode cX7_feed 91 = .ok (.ireturn, 1) := by decide +kernel
theorem dX7_sign_0 : decode cX7_sign 0 = .ok (.aload_n 0, 1) := by decide +kernel
theorem dX7_sign_1 : decode cX7_sign 1 = .ok (.getfield 104, 3) := by decide +kernel
theorem dX7_sign_4 : decode cX7_sign 4 = .ok (.aload_n 0, 1) := by decide +kernel
theorem dX7_sign_5 : decode cX7_sign 5 = .ok (.getfield 99, 3) := by decide +kernel
theorem dX7_sign_8 : decode cX7_sign 8 = .ok (.if_icmp .ge 15, 3) := by decide +kernel
theorem dX7_sign_11 : decode cX7_sign 11 = .ok (.aload_n 0, 1) := by decide +kernel
theorem dX7_sign_12 : decode cX7_sign 12 = .ok (.getfield 28, 3) := by decide +kernel
theorem dX7_sign_15 : decode cX7_sign 15 = .ok (.aload_n 0, 1) := by decide +kernel
theorem dX7_sign_16 : decode cX7_sign 16 = .ok (.getfield 104, 3) := by decide +kernel
theorem dX7_sign_19 : decode cX7_sign 19 = .ok (.iaload, 1) := by decide +kernel
theorem dX7_sign_20 : decode cX7_sign 20 = .ok (.goto 4, 3) := by decide +kernel
theorem dX7_sign_23 : decode cX7_sign 23 = .ok (.iconst (-1), 1) := by decide +kernel
theorem dX7_sign_24 : decode cX7_sign 24 = .ok (.ireturn, 1) := by decide +kernel
theorem dX7_takes_0 : decode cX7_takes 0 = .ok (.aload_n 0, 1) := by decide +kernel
theorem dX7_takes_1 : decode cX7_takes 1 = .ok (.invokevirtual 107, 3) := by decide +kernel
theorem dX7_takes_4 : decode cX7_takes 4 = .ok (.iload_n 1, 1) := by decide +kernel
theorem dX7_takes_5 : decode cX7_takes 5 = .ok (.if_icmp .eq 5, 3) := by decide +kernel
theorem dX7_takes_8 : decode cX7_takes 8 = .ok (.iconst 0, 1) := by decide +kernel
theorem dX7_takes_9 : decode cX7_takes 9 = .ok (.ireturn, 1) := by decide +kernel
theorem dX7_takes_10 : decode cX7_takes 10 = .ok (.aload_n 0, 1) := by decide +kernel
theorem dX7_takes_11 : decode cX7_takes 11 = .ok (.dup, 1) := by decide +kernel
theorem dX7_takes_12 : decode cX7_takes 12 = .ok (.getfield 104, 3) := by decide +kernel
theorem dX7_takes_15 : decode cX7_takes 15 = .ok (.iconst 1, 1) := by decide +kernel
theorem dX7_takes_16 : decode cX7_takes 16 = .ok (.iadd, 1) := by decide +kernel
theorem dX7_takes_17 : decode cX7_takes 17 = .ok (.putfield 104, 3) := by decide +kernel
theorem dX7_takes_20 : decode cX7_takes 20 = .ok (.iconst 1, 1) := by decide +kernel
theorem dX7_takes_21 : decode cX7_takes 21 = .ok (.ireturn, 1) := by decide +kernel
theorem dX7_digit_0 : decode cX7_digit 0 = .ok (.aload_n 0, 1) := by decide +kernel
theorem dX7_digit_1 : decode cX7_digit 1 = .ok (.invokevirtual 107, 3) := by decide +kernel
theorem dX7_digit_4 : decode cX7_digit 4 = .ok (.bipush 48, 2) := by decide +kernel
theorem dX7_digit_6 : decode cX7_digit 6 = .ok (.isub, 1) := by decide +kernel
theorem dX7_digit_7 : decode cX7_digit 7 = .ok (.istore_n 3, 1) := by decide +kernel
theorem dX7_digit_8 : decode cX7_digit 8 = .ok (.iload_n 3, 1) := by decide +kernel
theorem dX7_digit_9 : decode cX7_digit 9 = .ok (.iload_n 1, 1) := by decide +kernel
theorem dX7_digit_10 : decode cX7_digit 10 = .ok (.iload_n 2, 1) := by decide +kernel
theorem dX7_digit_11 : decode cX7_digit 11 = .ok (.invokestatic 87, 3) := by decide +kernel
theorem dX7_digit_14 : decode cX7_digit 14 = .ok (.ifCond .ne 5, 3) := by decide +kernel
theorem dX7_digit_17 : decode cX7_digit 17 = .ok (.iconst (-1), 1) := by decide +kernel
theorem dX7_digit_18 : decode cX7_digit 18 = .ok (.ireturn, 1) := by decide +kernel
theorem dX7_digit_19 : decode cX7_digit 19 = .ok (.aload_n 0, 1) := by decide +kernel
theorem dX7_digit_20 : decode cX7_digit 20 = .ok (.dup, 1) := by decide +kernel
theorem dX7_digit_21 : decode cX7_digit 21 = .ok (.getfield 104, 3) := by decide +kernel
theorem dX7_digit_24 : decode cX7_digit 24 = .ok (.iconst 1, 1) := by decide +kernel
theorem dX7_digit_25 : decode cX7_digit 25 = .ok (.iadd, 1) := by decide +kernel
theorem dX7_digit_26 : decode cX7_digit 26 = .ok (.putfield 104, 3) := by decide +kernel
theorem dX7_digit_29 : decode cX7_digit 29 = .ok (.iload_n 3, 1) := by decide +kernel
theorem dX7_digit_30 : decode cX7_digit 30 = .ok (.ireturn, 1) := by decide +kernel
theorem dX7_hundredths_0 : decode cX7_hundredths 0 = .ok (.aload_n 0, 1) := by decide +kernel
theorem dX7_hundredths_1 : decode cX7_hundredths 1 = .ok (.getfield 104, 3) := by decide +kernel
theorem dX7_hundredths_4 : decode cX7_hundredths 4 = .ok (.istore_n 1, 1) := by decide +kernel
theorem dX7_hundredths_5 : decode cX7_hundredths 5 = .ok (.aload_n 0, 1) := by decide +kernel
theorem dX7_hundredths_6 : decode cX7_hundredths 6 = .ok (.iconst 0, 1) := by decide +kernel
theorem dX7_hundredths_7 : decode cX7_hundredths 7 = .ok (.bipush 9, 2) := by decide +kernel
theorem dX7_hundredths_9 : decode cX7_hundredths 9 = .ok (.invokevirtual 110, 3) := by decide +kernel
theorem dX7_hundredths_12 : decode cX7_hundredths 12 = .ok (.istore_n 2, 1) := by decide +kernel
theorem dX7_hundredths_13 : decode cX7_hundredths 13 = .ok (.iconst 1, 1) := by decide +kernel
theorem dX7_hundredths_14 : decode cX7_hundredths 14 = .ok (.istore_n 3, 1) := by decide +kernel
theorem dX7_hundredths_15 : decode cX7_hundredths 15 = .ok (.iload_n 3, 1) := by decide +kernel
theorem dX7_hundredths_16 : decode cX7_hundredths 16 = .ok (.iconst 3, 1) := by decide +kernel
theorem dX7_hundredths_17 : decode cX7_hundredths 17 = .ok (.if_icmp .ge 40, 3) := by decide +kernel
theorem dX7_hundredths_20 : decode cX7_hundredths 20 = .ok (.iload_n 2, 1) := by decide +kernel
theorem dX7_hundredths_21 : decode cX7_hundredths 21 = .ok (.ifCond .le 36, 3) := by decide +kernel
theorem dX7_hundredths_24 : decode cX7_hundredths 24 = .ok (.aload_n 0, 1) := by decide +kernel
theorem dX7_hundredths_25 : decode cX7_hundredths 25 = .ok (.invokevirtual 107, 3) := by decide +kernel
theorem dX7_hundredths_28 : decode cX7_hundredths 28 = .ok (.bipush 48, 2) := by decide +kernel
theorem dX7_hundredths_30 : decode cX7_hundredths 30 = .ok (.bipush 57, 2) := by decide +kernel
theorem dX7_hundredths_32 : decode cX7_hundredths 32 = .ok (.invokestatic 87, 3) := by decide +kernel
theorem dX7_hundredths_35 : decode cX7_hundredths 35 = .ok (.ifCond .eq 22, 3) := by decide +kernel
theorem dX7_hundredths_38 : decode cX7_hundredths 38 = .ok (.bipush 10, 2) := by decide +kernel
theorem dX7_hundredths_40 : decode cX7_hundredths 40 = .ok (.iload_n 2, 1) := by decide +kernel
theorem dX7_hundredths_41 : decode cX7_hundredths 41 = .ok (.imul, 1) := by decide +kernel
theorem dX7_hundredths_42 : decode cX7_hundredths 42 = .ok (.aload_n 0, 1) := by decide +kernel
theorem dX7_hundredths_43 : decode cX7_hundredths 43 = .ok (.iconst 0, 1) := by decide +kernel
theorem dX7_hundredths_44 : decode cX7_hundredths 44 = .ok (.bipush 9, 2) := by decide +kernel
theorem dX7_hundredths_46 : decode cX7_hundredths 46 = .ok (.invokevirtual 110, 3) := by decide +kernel
theorem dX7_hundredths_49 : decode cX7_hundredths 49 = .ok (.iadd, 1) := by decide +kernel
theorem dX7_hundredths_50 : decode cX7_hundredths 50 = .ok (.istore_n 2, 1) := by decide +kernel
theorem dX7_hundredths_51 : decode cX7_hundredths 51 = .ok (.iinc 3 1, 3) := by decide +kernel
theorem dX7_hundredths_54 : decode cX7_hundredths 54 = .ok (.goto (-39), 3) := by decide +kernel
theorem dX7_hundredths_57 : decode cX7_hundredths 57 = .ok (.iload_n 2, 1) := by decide +kernel
theorem dX7_hundredths_58 : decode cX7_hundredths 58 = .ok (.bipush 100, 2) := by decide +kernel
theorem dX7_hundredths_60 : decode cX7_hundredths 60 = .ok (.if_icmp .gt 5, 3) := by decide +kernel
theorem dX7_hundredths_63 : decode cX7_hundredths 63 = .ok (.iload_n 2, 1) := by decide +kernel
theorem dX7_hundredths_64 : decode cX7_hundredths 64 = .ok (.ireturn, 1) := by decide +kernel
theorem dX7_hundredths_65 : decode cX7_hundredths 65 = .ok (.aload_n 0, 1) := by decide +kernel
theorem dX7_hundredths_66 : decode cX7_hundredths 66 = .ok (.iload_n 1, 1) := by decide +kernel
theorem dX7_hundredths_67 : decode cX7_hundredths 67 = .ok (.putfield 104, 3) := by decide +kernel
theorem dX7_hundredths_70 : decode cX7_hundredths 70 = .ok (.iconst (-1), 1) := by decide +kernel
theorem dX7_hundredths_71 : decode cX7_hundredths 71 = .ok (.ireturn, 1) := by decide +kernel
theorem dX7_readsSort_0 : decode cX7_readsSort 0 = .ok (.aload_n 0, 1) := by decide +kernel
theorem dX7_readsSort_1 : decode cX7_readsSort 1 = .ok (.iconst 0, 1) := by decide +kernel
theorem dX7_readsSort_2 : decode cX7_readsSort 2 = .ok (.iconst 5, 1) := by decide +kernel
theorem dX7_readsSort_3 : decode cX7_readsSort 3 = .ok (.invokevirtual 110, 3) := by decide +kernel
theorem dX7_readsSort_6 : decode cX7_readsSort 6 = .ok (.istore_n 1, 1) := by decide +kernel
theorem dX7_readsSort_7 : decode cX7_readsSort 7 = .ok (.iload_n 1, 1) := by decide +kernel
theorem dX7_readsSort_8 : decode cX7_readsSort 8 = .ok (.ifCond .lt 12, 3) := by decide +kernel
theorem dX7_readsSort_11 : decode cX7_readsSort 11 = .ok (.aload_n 0, 1) := by decide +kernel
theorem dX7_readsSort_12 : decode cX7_readsSort 12 = .ok (.bipush 58, 2) := by decide +kernel
theorem dX7_readsSort_14 : decode cX7_readsSort 14 = .ok (.invokevirtual 114, 3) := by decide +kernel
theorem dX7_readsSort_17 : decode cX7_readsSort 17 = .ok (.ifCond .ne 5, 3) := by decide +kernel
theorem dX7_readsSort_20 : decode cX7_readsSort 20 = .ok (.iconst 0, 1) := by decide +kernel
theorem dX7_readsSort_21 : decode cX7_readsSort 21 = .ok (.ireturn, 1) := by decide +kernel
theorem dX7_readsSort_22 : decode cX7_readsSort 22 = .ok (.aload_n 0, 1) := by decide +kernel
theorem dX7_readsSort_23 : decode cX7_readsSort 23 = .ok (.invokevirtual 117, 3) := by decide +kernel
theorem dX7_readsSort_26 : decode cX7_readsSort 26 = .ok (.istore_n 2, 1) := by decide +kernel
theorem dX7_readsSort_27 : decode cX7_readsSort 27 = .ok (.iload_n 2, 1) := by decide +kernel
theorem dX7_readsSort_28 : decode cX7_readsSort 28 = .ok (.ifCond .lt 12, 3) := by decide +kernel
theorem dX7_readsSort_31 : decode cX7_readsSort 31 = .ok (.aload_n 0, 1) := by decide +kernel
theorem dX7_readsSort_32 : decode cX7_readsSort 32 = .ok (.bipush 44, 2) := by decide +kernel
theorem dX7_readsSort_34 : decode cX7_readsSort 34 = .ok (.invokevirtual 114, 3) := by decide +kernel
theorem dX7_readsSort_37 : decode cX7_readsSort 37 = .ok (.ifCond .ne 5, 3) := by decide +kernel
theorem dX7_readsSort_40 : decode cX7_readsSort 40 = .ok (.iconst 0, 1) := by decide +kernel
theorem dX7_readsSort_41 : decode cX7_readsSort 41 = .ok (.ireturn, 1) := by decide +kernel
theorem dX7_readsSort_42 : decode cX7_readsSort 42 = .ok (.aload_n 0, 1) := by decide +kernel
theorem dX7_readsSort_43 : decode cX7_readsSort 43 = .ok (.invokevirtual 117, 3) := by decide +kernel
theorem dX7_readsSort_46 : decode cX7_readsSort 46 = .ok (.istore_n 3, 1) := by decide +kernel
theorem dX7_readsSort_47 : decode cX7_readsSort 47 = .ok (.iload_n 3, 1) := by decide +kernel
theorem dX7_readsSort_48 : decode cX7_readsSort 48 = .ok (.ifCond .lt 12, 3) := by decide +kernel
theorem dX7_readsSort_51 : decode cX7_readsSort 51 = .ok (.aload_n 0, 1) := by decide +kernel
theorem dX7_readsSort_52 : decode cX7_readsSort 52 = .ok (.bipush 59, 2) := by decide +kernel
theorem dX7_readsSort_54 : decode cX7_readsSort 54 = .ok (.invokevirtual 114, 3) := by decide +kernel
theorem dX7_readsSort_57 : decode cX7_readsSort 57 = .ok (.ifCond .ne 5, 3) := by decide +kernel
theorem dX7_readsSort_60 : decode cX7_readsSort 60 = .ok (.iconst 0, 1) := by decide +kernel
theorem dX7_readsSort_61 : decode cX7_readsSort 61 = .ok (.ireturn, 1) := by decide +kernel
theorem dX7_readsSort_62 : decode cX7_readsSort 62 = .ok (.aload_n 0, 1) := by decide +kernel
theorem dX7_readsSort_63 : decode cX7_readsSort 63 = .ok (.getfield 13, 3) := by decide +kernel
theorem dX7_readsSort_66 : decode cX7_readsSort 66 = .ok (.iconst 2, 1) := by decide +kernel
theorem dX7_readsSort_67 : decode cX7_readsSort 67 = .ok (.iload_n 1, 1) := by decide +kernel
theorem dX7_readsSort_68 : decode cX7_readsSort 68 = .ok (.imul, 1) := by decide +kernel
theorem dX7_readsSort_69 : decode cX7_readsSort 69 = .ok (.iload_n 2, 1) := by decide +kernel
theorem dX7_readsSort_70 : decode cX7_readsSort 70 = .ok (.iastore, 1) := by decide +kernel
theorem dX7_readsSort_71 : decode cX7_readsSort 71 = .ok (.aload_n 0, 1) := by decide +kernel
theorem dX7_readsSort_72 : decode cX7_readsSort 72 = .ok (.getfield 13, 3) := by decide +kernel
theorem dX7_readsSort_75 : decode cX7_readsSort 75 = .ok (.iconst 2, 1) := by decide +kernel
theorem dX7_readsSort_76 : decode cX7_readsSort 76 = .ok (.iload_n 1, 1) := by decide +kernel
theorem dX7_readsSort_77 : decode cX7_readsSort 77 = .ok (.imul, 1) := by decide +kernel
theorem dX7_readsSort_78 : decode cX7_readsSort 78 = .ok (.iconst 1, 1) := by decide +kernel
theorem dX7_readsSort_79 : decode cX7_readsSort 79 = .ok (.iadd, 1) := by decide +kernel
theorem dX7_readsSort_80 : decode cX7_readsSort 80 = .ok (.iload_n 3, 1) := by decide +kernel
theorem dX7_readsSort_81 : decode cX7_readsSort 81 = .ok (.iastore, 1) := by decide +kernel
theorem dX7_readsSort_82 : decode cX7_readsSort 82 = .ok (.iconst 1, 1) := by decide +kernel
theorem dX7_readsSort_83 : decode cX7_readsSort 83 = .ok (.ireturn, 1) := by decide +kernel
theorem dX7_readsPeople_0 : decode cX7_readsPeople 0 = .ok (.aload_n 0, 1) := by decide +kernel
theorem dX7_readsPeople_1 : decode cX7_readsPeople 1 = .ok (.getfield 83, 3) := by decide +kernel
theorem dX7_readsPeople_4 : decode cX7_readsPeople 4 = .ok (.istore_n 1, 1) := by decide +kernel
theorem dX7_readsPeople_5 : decode cX7_readsPeople 5 = .ok (.aload_n 0, 1) := by decide +kernel
theorem dX7_readsPeople_6 : decode cX7_readsPeople 6 = .ok (.invokevirtual 107, 3) := by decide +kernel
theorem dX7_readsPeople_9 : decode cX7_readsPeople 9 = .ok (.bipush 59, 2) := by decide +kernel
theorem dX7_readsPeople_11 : decode cX7_readsPeople 11 = .ok (.if_icmp .ne 11, 3) := by decide +kernel
theorem dX7_readsPeople_14 : decode cX7_readsPeople 14 = .ok (.iload_n 1, 1) := by decide +kernel
theorem dX7_readsPeople_15 : decode cX7_readsPeople 15 = .ok (.aload_n 0, 1) := by decide +kernel
theorem dX7_readsPeople_16 : decode cX7_readsPeople 16 = .ok (.getfield 83, 3) := by decide +kernel
theorem dX7_readsPeople_19 : decode cX7_readsPeople 19 = .ok (.if_icmp .ne 37, 3) := by decide +kernel
theorem dX7_readsPeople_22 : decode cX7_readsPeople 22 = .ok (.iload_n 1, 1) := by decide +kernel
theorem dX7_readsPeople_23 : decode cX7_readsPeople 23 = .ok (.bipush 12, 2) := by decide +kernel
theorem dX7_readsPeople_25 : decode cX7_readsPeople 25 = .ok (.if_icmp .ne 5, 3) := by decide +kernel
theorem dX7_readsPeople_28 : decode cX7_readsPeople 28 = .ok (.iconst 0, 1) := by decide +kernel
theorem dX7_readsPeople_29 : decode cX7_readsPeople 29 = .ok (.ireturn, 1) := by decide +kernel
theorem dX7_readsPeople_30 : decode cX7_readsPeople 30 = .ok (.aload_n 0, 1) := by decide +kernel
theorem dX7_readsPeople_31 : decode cX7_readsPeople 31 = .ok (.iconst 0, 1) := by decide +kernel
theorem dX7_readsPeople_32 : decode cX7_readsPeople 32 = .ok (.iconst 5, 1) := by decide +kernel
theorem dX7_readsPeople_33 : decode cX7_readsPeople 33 = .ok (.invokevirtual 110, 3) := by decide +kernel
theorem dX7_readsPeople_36 : decode cX7_readsPeople 36 = .ok (.istore_n 2, 1) := by decide +kernel
theorem dX7_readsPeople_37 : decode cX7_readsPeople 37 = .ok (.iload_n 2, 1) := by decide +kernel
theorem dX7_readsPeople_38 : decode cX7_readsPeople 38 = .ok (.ifCond .ge 5, 3) := by decide +kernel
theorem dX7_readsPeople_41 : decode cX7_readsPeople 41 = .ok (.iconst 0, 1) := by decide +kernel
theorem dX7_readsPeople_42 : decode cX7_readsPeople 42 = .ok (.ireturn, 1) := by decide +kernel
theorem dX7_readsPeople_43 : decode cX7_readsPeople 43 = .ok (.aload_n 0, 1) := by decide +kernel
theorem dX7_readsPeople_44 : decode cX7_readsPeople 44 = .ok (.getfield 16, 3) := by decide +kernel
theorem dX7_readsPeople_47 : decode cX7_readsPeople 47 = .ok (.iload_n 1, 1) := by decide +kernel
theorem dX7_readsPeople_48 : decode cX7_readsPeople 48 = .ok (.iload_n 2, 1) := by decide +kernel
theorem dX7_readsPeople_49 : decode cX7_readsPeople 49 = .ok (.iastore, 1) := by decide +kernel
theorem dX7_readsPeople_50 : decode cX7_readsPeople 50 = .ok (.iinc 1 1, 3) := by decide +kernel
theorem dX7_readsPeople_53 : decode cX7_readsPeople 53 = .ok (.goto (-48), 3) := by decide +kernel
theorem dX7_readsPeople_56 : decode cX7_readsPeople 56 = .ok (.aload_n 0, 1) := by decide +kernel
theorem dX7_readsPeople_57 : decode cX7_readsPeople 57 = .ok (.dup, 1) := by decide +kernel
theorem dX7_readsPeople_58 : decode cX7_readsPeople 58 = .ok (.getfield 104, 3) := by decide +kernel
theorem dX7_readsPeople_61 : decode cX7_readsPeople 61 = .ok (.iconst 1, 1) := by decide +kernel
theorem dX7_readsPeople_62 : decode cX7_readsPeople 62 = .ok (.iadd, 1) := by decide +kernel
theorem dX7_readsPeople_63 : decode cX7_readsPeople 63 = .ok (.putfield 104, 3) := by decide +kernel
theorem dX7_readsPeople_66 : decode cX7_readsPeople 66 = .ok (.aload_n 0, 1) := by decide +kernel
theorem dX7_readsPeople_67 : decode cX7_readsPeople 67 = .ok (.iload_n 1, 1) := by decide +kernel
theorem dX7_readsPeople_68 : decode cX7_readsPeople 68 = .ok (.putfield 83, 3) := by decide +kernel
theorem dX7_readsPeople_71 : decode cX7_readsPeople 71 = .ok (.iconst 1, 1) := by decide +kernel
theorem dX7_readsPeople_72 : decode cX7_readsPeople 72 = .ok (.ireturn, 1) := by decide +kernel
theorem dX7_readsNumber_0 : decode cX7_readsNumber 0 = .ok (.iload_n 1, 1) := by decide +kernel
theorem dX7_readsNumber_1 : decode cX7_readsNumber 1 = .ok (.bipush 116, 2) := by decide +kernel
theorem dX7_readsNumber_3 : decode cX7_readsNumber 3 = .ok (.if_icmp .ne 10, 3) := by decide +kernel
theorem dX7_readsNumber_6 : decode cX7_readsNumber 6 = .ok (.aload_n 0, 1) := by decide +kernel
theorem dX7_readsNumber_7 : decode cX7_readsNumber 7 = .ok (.invokevirtual 117, 3) := by decide +kernel
theorem dX7_readsNumber_10 : decode cX7_readsNumber 10 = .ok (.goto 40, 3) := by decide +kernel
theorem dX7_readsNumber_13 : decode cX7_readsNumber 13 = .ok (.iload_n 1, 1) := by decide +kernel
theorem dX7_readsNumber_14 : decode cX7_readsNumber 14 = .ok (.bipush 110, 2) := by decide +kernel
theorem dX7_readsNumber_16 : decode cX7_readsNumber 16 = .ok (.if_icmp .ne 13, 3) := by decide +kernel
theorem dX7_readsNumber_19 : decode cX7_readsNumber 19 = .ok (.aload_n 0, 1) := by decide +kernel
theorem dX7_readsNumber_20 : decode cX7_readsNumber 20 = .ok (.iconst 1, 1) := by decide +kernel
theorem dX7_readsNumber_21 : decode cX7_readsNumber 21 = .ok (.bipush 7, 2) := by decide +kernel
theorem dX7_readsNumber_23 : decode cX7_readsNumber 23 = .ok (.invokevirtual 110, 3) := by decide +kernel
theorem dX7_readsNumber_26 : decode cX7_readsNumber 26 = .ok (.goto 24, 3) := by decide +kernel
theorem dX7_readsNumber_29 : decode cX7_readsNumber 29 = .ok (.iload_n 1, 1) := by decide +kernel
theorem dX7_readsNumber_30 : decode cX7_readsNumber 30 = .ok (.bipush 120, 2) := by decide +kernel
theorem dX7_readsNumber_32 : decode cX7_readsNumber 32 = .ok (.if_icmp .ne 12, 3) := by decide +kernel
theorem dX7_readsNumber_35 : decode cX7_readsNumber 35 = .ok (.aload_n 0, 1) := by decide +kernel
theorem dX7_readsNumber_36 : decode cX7_readsNumber 36 = .ok (.iconst 0, 1) := by decide +kernel
theorem dX7_readsNumber_37 : decode cX7_readsNumber 37 = .ok (.iconst 3, 1) := by decide +kernel
theorem dX7_readsNumber_38 : decode cX7_readsNumber 38 = .ok (.invokevirtual 110, 3) := by decide +kernel
theorem dX7_readsNumber_41 : decode cX7_readsNumber 41 = .ok (.goto 9, 3) := by decide +kernel
theorem dX7_readsNumber_44 : decode cX7_readsNumber 44 = .ok (.aload_n 0, 1) := by decide +kernel
theorem dX7_readsNumber_45 : decode cX7_readsNumber 45 = .ok (.iconst 0, 1) := by decide +kernel
theorem dX7_readsNumber_46 : decode cX7_readsNumber 46 = .ok (.iconst 1, 1) := by decide +kernel
theorem dX7_readsNumber_47 : decode cX7_readsNumber 47 = .ok (.invokevirtual 110, 3) := by decide +kernel
theorem dX7_readsNumber_50 : decode cX7_readsNumber 50 = .ok (.istore_n 2, 1) := by decide +kernel
theorem dX7_readsNumber_51 : decode cX7_readsNumber 51 = .ok (.iload_n 2, 1) := by decide +kernel
theorem dX7_readsNumber_52 : decode cX7_readsNumber 52 = .ok (.ifCond .ge 5, 3) := by decide +kernel
theorem dX7_readsNumber_55 : decode cX7_readsNumber 55 = .ok (.iconst 0, 1) := by decide +kernel
theorem dX7_readsNumber_56 : decode cX7_readsNumber 56 = .ok (.ireturn, 1) := by decide +kernel
theorem dX7_readsNumber_57 : decode cX7_readsNumber 57 = .ok (.iload_n 1, 1) := by decide +kernel
theorem dX7_readsNumber_58 : decode cX7_readsNumber 58 = .ok (.bipush 120, 2) := by decide +kernel
theorem dX7_readsNumber_60 : decode cX7_readsNumber 60 = .ok (.if_icmp .ne 12, 3) := by decide +kernel
theorem dX7_readsNumber_63 : decode cX7_readsNumber 63 = .ok (.aload_n 0, 1) := by decide +kernel
theorem dX7_readsNumber_64 : decode cX7_readsNumber 64 = .ok (.iconst 0, 1) := by decide +kernel
theorem dX7_readsNumber_65 : decode cX7_readsNumber 65 = .ok (.iconst 3, 1) := by decide +kernel
theorem dX7_readsNumber_66 : decode cX7_readsNumber 66 = .ok (.invokevirtual 110, 3) := by decide +kernel
theorem dX7_readsNumber_69 : decode cX7_readsNumber 69 = .ok (.goto 4, 3) := by decide +kernel
theorem dX7_readsNumber_72 : decode cX7_readsNumber 72 = .ok (.iconst 0, 1) := by decide +kernel
theorem dX7_readsNumber_73 : decode cX7_readsNumber 73 = .ok (.istore_n 3, 1) := by decide +kernel
theorem dX7_readsNumber_74 : decode cX7_readsNumber 74 = .ok (.iload_n 3, 1) := by decide +kernel
theorem dX7_readsNumber_75 : decode cX7_readsNumber 75 = .ok (.ifCond .lt 12, 3) := by decide +kernel
theorem dX7_readsNumber_78 : decode cX7_readsNumber 78 = .ok (.aload_n 0, 1) := by decide +kernel
theorem dX7_readsNumber_79 : decode cX7_readsNumber 79 = .ok (.bipush 59, 2) := by decide +kernel
theorem dX7_readsNumber_81 : decode cX7_readsNumber 81 = .ok (.invokevirtual 114, 3) := by decide +kernel
theorem dX7_readsNumber_84 : decode cX7_readsNumber 84 = .ok (.ifCond .ne 5, 3) := by decide +kernel
theorem dX7_readsNumber_87 : decode cX7_readsNumber 87 = .ok (.iconst 0, 1) := by decide +kernel
theorem dX7_readsNumber_88 : decode cX7_readsNumber 88 = .ok (.ireturn, 1) := by decide +kernel
theorem dX7_readsNumber_89 : decode cX7_readsNumber 89 = .ok (.aload_n 0, 1) := by decide +kernel
theorem dX7_readsNumber_90 : decode cX7_readsNumber 90 = .ok (.getfield 19, 3) := by decide +kernel
theorem dX7_readsNumber_93 : decode cX7_readsNumber 93 = .ok (.iload_n 1, 1) := by decide +kernel
theorem dX7_readsNumber_94 : decode cX7_readsNumber 94 = .ok (.bipush 110, 2) := by decide +kernel
theorem dX7_readsNumber_96 : decode cX7_readsNumber 96 = .ok (.if_icmp .ne 7, 3) := by decide +kernel
theorem dX7_readsNumber_99 : decode cX7_readsNumber 99 = .ok (.iconst 0, 1) := by decide +kernel
theorem dX7_readsNumber_100 : decode cX7_readsNumber 100 = .ok (.goto 24, 3) := by decide +kernel
theorem dX7_readsNumber_103 : decode cX7_readsNumber 103 = .ok (.iload_n 1, 1) := by decide +kernel
theorem dX7_readsNumber_104 : decode cX7_readsNumber 104 = .ok (.bipush 120, 2) := by decide +kernel
theorem dX7_readsNumber_106 : decode cX7_readsNumber 106 = .ok (.if_icmp .ne 7, 3) := by decide +kernel
theorem dX7_readsNumber_109 : decode cX7_readsNumber 109 = .ok (.iconst 1, 1) := by decide +kernel
theorem dX7_readsNumber_110 : decode cX7_readsNumber 110 = .ok (.goto 14, 3) := by decide +kernel
theorem dX7_readsNumber_113 : decode cX7_readsNumber 113 = .ok (.iload_n 1, 1) := by decide +kernel
theorem dX7_readsNumber_114 : decode cX7_readsNumber 114 = .ok (.bipush 104, 2) := by decide +kernel
theorem dX7_readsNumber_116 : decode cX7_readsNumber 116 = .ok (.if_icmp .ne 7, 3) := by decide +kernel
theorem dX7_readsNumber_119 : decode cX7_readsNumber 119 = .ok (.iconst 3, 1) := by decide +kernel
theorem dX7_readsNumber_120 : decode cX7_readsNumber 120 = .ok (.goto 4, 3) := by decide +kernel
theorem dX7_readsNumber_123 : decode cX7_readsNumber 123 = .ok (.iconst 4, 1) := by decide +kernel
theorem dX7_readsNumber_124 : decode cX7_readsNumber 124 = .ok (.iload_n 2, 1) := by decide +kernel
theorem dX7_readsNumber_125 : decode cX7_readsNumber 125 = .ok (.iastore, 1) := by decide +kernel
theorem dX7_readsNumber_126 : decode cX7_readsNumber 126 = .ok (.iload_n 1, 1) := by decide +kernel
theorem dX7_readsNumber_127 : decode cX7_readsNumber 127 = .ok (.bipush 120, 2) := by decide +kernel
theorem dX7_readsNumber_129 : decode cX7_readsNumber 129 = .ok (.if_icmp .ne 10, 3) := by decide +kernel
theorem dX7_readsNumber_132 : decode cX7_readsNumber 132 = .ok (.aload_n 0, 1) := by decide +kernel
theorem dX7_readsNumber_133 : decode cX7_readsNumber 133 = .ok (.getfield 19, 3) := by decide +kernel
theorem dX7_readsNumber_136 : decode cX7_readsNumber 136 = .ok (.iconst 2, 1) := by decide +kernel
theorem dX7_readsNumber_137 : decode cX7_readsNumber 137 = .ok (.iload_n 3, 1) := by decide +kernel
theorem dX7_readsNumber_138 : decode cX7_readsNumber 138 = .ok (.iastore, 1) := by decide +kernel
theorem dX7_readsNumber_139 : decode cX7_readsNumber 139 = .ok (.iconst 1, 1) := by decide +kernel
theorem dX7_readsNumber_140 : decode cX7_readsNumber 140 = .ok (.ireturn, 1) := by decide +kernel
theorem dX7_statement_0 : decode cX7_statement 0 = .ok (.aload_n 0, 1) := by decide +kernel
theorem dX7_statement_1 : decode cX7_statement 1 = .ok (.invokevirtual 107, 3) := by decide +kernel
theorem dX7_statement_4 : decode cX7_statement 4 = .ok (.istore_n 1, 1) := by decide +kernel
theorem dX7_statement_5 : decode cX7_statement 5 = .ok (.iload_n 1, 1) := by decide +kernel
theorem dX7_statement_6 : decode cX7_statement 6 = .ok (.bipush 115, 2) := by decide +kernel
theorem dX7_statement_8 : decode cX7_statement 8 = .ok (.if_icmp .eq 35, 3) := by decide +kernel
theorem dX7_statement_11 : decode cX7_statement 11 = .ok (.iload_n 1, 1) := by decide +kernel
theorem dX7_statement_12 : decode cX7_statement 12 = .ok (.bipush 112, 2) := by decide +kernel
theorem dX7_statement_14 : decode cX7_statement 14 = .ok (.if_icmp .eq 29, 3) := by decide +kernel
theorem dX7_statement_17 : decode cX7_statement 17 = .ok (.iload_n 1, 1) := by decide +kernel
theorem dX7_statement_18 : decode cX7_statement 18 = .ok (.bipush 110, 2) := by decide +kernel
theorem dX7_statement_20 : decode cX7_statement 20 = .ok (.if_icmp .eq 23, 3) := by decide +kernel
theorem dX7_statement_23 : decode cX7_statement 23 = .ok (.iload_n 1, 1) := by decide +kernel
theorem dX7_statement_24 : decode cX7_statement 24 = .ok (.bipush 120, 2) := by decide +kernel
theorem dX7_statement_26 : decode cX7_statement 26 = .ok (.if_icmp .eq 17, 3) := by decide +kernel
theorem dX7_statement_29 : decode cX7_statement 29 = .ok (.iload_n 1, 1) := by decide +kernel
theorem dX7_statement_30 : decode cX7_statement 30 = .ok (.bipush 104, 2) := by decide +kernel
theorem dX7_statement_32 : decode cX7_statement 32 = .ok (.if_icmp .eq 11, 3) := by decide +kernel
theorem dX7_statement_35 : decode cX7_statement 35 = .ok (.iload_n 1, 1) := by decide +kernel
theorem dX7_statement_36 : decode cX7_statement 36 = .ok (.bipush 116, 2) := by decide +kernel
theorem dX7_statement_38 : decode cX7_statement 38 = .ok (.if_icmp .eq 5, 3) := by decide +kernel
theorem dX7_statement_41 : decode cX7_statement 41 = .ok (.iconst 0, 1) := by decide +kernel
theorem dX7_statement_42 : decode cX7_statement 42 = .ok (.ireturn, 1) := by decide +kernel
theorem dX7_statement_43 : decode cX7_statement 43 = .ok (.aload_n 0, 1) := by decide +kernel
theorem dX7_statement_44 : decode cX7_statement 44 = .ok (.dup, 1) := by decide +kernel
theorem dX7_statement_45 : decode cX7_statement 45 = .ok (.getfield 104, 3) := by decide +kernel
theorem dX7_statement_48 : decode cX7_statement 48 = .ok (.iconst 1, 1) := by decide +kernel
theorem dX7_statement_49 : decode cX7_statement 49 = .ok (.iadd, 1) := by decide +kernel
theorem dX7_statement_50 : decode cX7_statement 50 = .ok (.putfield 104, 3) := by decide +kernel
theorem dX7_statement_53 : decode cX7_statement 53 = .ok (.iload_n 1, 1) := by decide +kernel
theorem dX7_statement_54 : decode cX7_statement 54 = .ok (.bipush 115, 2) := by decide +kernel
theorem dX7_statement_56 : decode cX7_statement 56 = .ok (.if_icmp .ne 10, 3) := by decide +kernel
theorem dX7_statement_59 : decode cX7_statement 59 = .ok (.aload_n 0, 1) := by decide +kernel
theorem dX7_statement_60 : decode cX7_statement 60 = .ok (.invokevirtual 120, 3) := by decide +kernel
theorem dX7_statement_63 : decode cX7_statement 63 = .ok (.goto 21, 3) := by decide +kernel
theorem dX7_statement_66 : decode cX7_statement 66 = .ok (.iload_n 1, 1) := by decide +kernel
theorem dX7_statement_67 : decode cX7_statement 67 = .ok (.bipush 112, 2) := by decide +kernel
theorem dX7_statement_69 : decode cX7_statement 69 = .ok (.if_icmp .ne 10, 3) := by decide +kernel
theorem dX7_statement_72 : decode cX7_statement 72 = .ok (.aload_n 0, 1) := by decide +kernel
theorem dX7_statement_73 : decode cX7_statement 73 = .ok (.invokevirtual 124, 3) := by decide +kernel
theorem dX7_statement_76 : decode cX7_statement 76 = .ok (.goto 8, 3) := by decide +kernel
theorem dX7_statement_79 : decode cX7_statement 79 = .ok (.aload_n 0, 1) := by decide +kernel
theorem dX7_statement_80 : decode cX7_statement 80 = .ok (.iload_n 1, 1) := by decide +kernel
theorem dX7_statement_81 : decode cX7_statement 81 = .ok (.invokevirtual 127, 3) := by decide +kernel
theorem dX7_statement_84 : decode cX7_statement 84 = .ok (.ireturn, 1) := by decide +kernel
theorem dX7_court_0 : decode cX7_court 0 = .ok (.aload_n 0, 1) := by decide +kernel
theorem dX7_court_1 : decode cX7_court 1 = .ok (.iconst 0, 1) := by decide +kernel
theorem dX7_court_2 : decode cX7_court 2 = .ok (.putfield 104, 3) := by decide +kernel
theorem dX7_court_5 : decode cX7_court 5 = .ok (.iconst 0, 1) := by decide +kernel
theorem dX7_court_6 : decode cX7_court 6 = .ok (.istore_n 1, 1) := by decide +kernel
theorem dX7_court_7 : decode cX7_court 7 = .ok (.iconst 1, 1) := by decide +kernel
theorem dX7_court_8 : decode cX7_court 8 = .ok (.istore_n 2, 1) := by decide +kernel
theorem dX7_court_9 : decode cX7_court 9 = .ok (.iload_n 2, 1) := by decide +kernel
theorem dX7_court_10 : decode cX7_court 10 = .ok (.ifCond .eq 34, 3) := by decide +kernel
theorem dX7_court_13 : decode cX7_court 13 = .ok (.aload_n 0, 1) := by decide +kernel
theorem dX7_court_14 : decode cX7_court 14 = .ok (.getfield 104, 3) := by decide +kernel
theorem dX7_court_17 : decode cX7_court 17 = .ok (.aload_n 0, 1) := by decide +kernel
theorem dX7_court_18 : decode cX7_court 18 = .ok (.getfield 99, 3) := by decide +kernel
theorem dX7_court_21 : decode cX7_court 21 = .ok (.if_icmp .ge 23, 3) := by decide +kernel
theorem dX7_court_24 : decode cX7_court 24 = .ok (.aload_n 0, 1) := by decide +kernel
theorem dX7_court_25 : decode cX7_court 25 = .ok (.invokevirtual 130, 3) := by decide +kernel
theorem dX7_court_28 : decode cX7_court 28 = .ok (.istore_n 2, 1) := by decide +kernel
theorem dX7_court_29 : decode cX7_court 29 = .ok (.iload_n 1, 1) := by decide +kernel
theorem dX7_court_30 : decode cX7_court 30 = .ok (.iload_n 2, 1) := by decide +kernel
theorem dX7_court_31 : decode cX7_court 31 = .ok (.ifCond .eq 7, 3) := by decide +kernel
theorem dX7_court_34 : decode cX7_court 34 = .ok (.iconst 1, 1) := by decide +kernel
theorem dX7_court_35 : decode cX7_court 35 = .ok (.goto 4, 3) := by decide +kernel
theorem dX7_court_38 : decode cX7_court 38 = .ok (.iconst 0, 1) := by decide +kernel
theorem dX7_court_39 : decode cX7_court 39 = .ok (.iadd, 1) := by decide +kernel
theorem dX7_court_40 : decode cX7_court 40 = .ok (.istore_n 1, 1) := by decide +kernel
theorem dX7_court_41 : decode cX7_court 41 = .ok (.goto (-32), 3) := by decide +kernel
theorem dX7_court_44 : decode cX7_court 44 = .ok (.aload_n 0, 1) := by decide +kernel
theorem dX7_court_45 : decode cX7_court 45 = .ok (.iconst 0, 1) := by decide +kernel
theorem dX7_court_46 : decode cX7_court 46 = .ok (.putfield 99, 3) := by decide +kernel
theorem dX7_court_49 : decode cX7_court 49 = .ok (.iload_n 2, 1) := by decide +kernel
theorem dX7_court_50 : decode cX7_court 50 = .ok (.ifCond .eq 7, 3) := by decide +kernel
theorem dX7_court_53 : decode cX7_court 53 = .ok (.iload_n 1, 1) := by decide +kernel
theorem dX7_court_54 : decode cX7_court 54 = .ok (.goto 10, 3) := by decide +kernel
theorem dX7_court_57 : decode cX7_court 57 = .ok (.bipush (-20), 2) := by decide +kernel
theorem dX7_court_59 : decode cX7_court 59 = .ok (.aload_n 0, 1) := by decide +kernel
theorem dX7_court_60 : decode cX7_court 60 = .ok (.getfield 104, 3) := by decide +kernel
theorem dX7_court_63 : decode cX7_court 63 = .ok (.isub, 1) := by decide +kernel
theorem dX7_court_64 : decode cX7_court 64 = .ok (.ireturn, 1) := by decide +kernel
theorem dX7_holdsTrue_0 : decode cX7_holdsTrue 0 = .ok (.iconst 0, 1) := by decide +kernel
theorem dX7_holdsTrue_1 : decode cX7_holdsTrue 1 = .ok (.istore_n 1, 1) := by decide +kernel
theorem dX7_holdsTrue_2 : decode cX7_holdsTrue 2 = .ok (.iload_n 1, 1) := by decide +kernel
theorem dX7_holdsTrue_3 : decode cX7_holdsTrue 3 = .ok (.aload_n 0, 1) := by decide +kernel
theorem dX7_holdsTrue_4 : decode cX7_holdsTrue 4 = .ok (.getfield 83, 3) := by decide +kernel
theorem dX7_holdsTrue_7 : decode cX7_holdsTrue 7 = .ok (.if_icmp .ge 55, 3) := by decide +kernel
theorem dX7_holdsTrue_10 : decode cX7_holdsTrue 10 = .ok (.aload_n 0, 1) := by decide +kernel
theorem dX7_holdsTrue_11 : decode cX7_holdsTrue 11 = .ok (.getfield 31, 3) := by decide +kernel
theorem dX7_holdsTrue_14 : decode cX7_holdsTrue 14 = .ok (.iconst 2, 1) := by decide +kernel
theorem dX7_holdsTrue_15 : decode cX7_holdsTrue 15 = .ok (.iload_n 1, 1) := by decide +kernel
theorem dX7_holdsTrue_16 : decode cX7_holdsTrue 16 = .ok (.imul, 1) := by decide +kernel
theorem dX7_holdsTrue_17 : decode cX7_holdsTrue 17 = .ok (.aload_n 0, 1) := by decide +kernel
theorem dX7_holdsTrue_18 : decode cX7_holdsTrue 18 = .ok (.getfield 13, 3) := by decide +kernel
theorem dX7_holdsTrue_21 : decode cX7_holdsTrue 21 = .ok (.iconst 2, 1) := by decide +kernel
theorem dX7_holdsTrue_22 : decode cX7_holdsTrue 22 = .ok (.aload_n 0, 1) := by decide +kernel
theorem dX7_holdsTrue_23 : decode cX7_holdsTrue 23 = .ok (.getfield 16, 3) := by decide +kernel
theorem dX7_holdsTrue_26 : decode cX7_holdsTrue 26 = .ok (.iload_n 1, 1) := by decide +kernel
theorem dX7_holdsTrue_27 : decode cX7_holdsTrue 27 = .ok (.iaload, 1) := by decide +kernel
theorem dX7_holdsTrue_28 : decode cX7_holdsTrue 28 = .ok (.imul, 1) := by decide +kernel
theorem dX7_holdsTrue_29 : decode cX7_holdsTrue 29 = .ok (.iaload, 1) := by decide +kernel
theorem dX7_holdsTrue_30 : decode cX7_holdsTrue 30 = .ok (.iastore, 1) := by decide +kernel
theorem dX7_holdsTrue_31 : decode cX7_holdsTrue 31 = .ok (.aload_n 0, 1) := by decide +kernel
theorem dX7_holdsTrue_32 : decode cX7_holdsTrue 32 = .ok (.getfield 31, 3) := by decide +kernel
theorem dX7_holdsTrue_35 : decode cX7_holdsTrue 35 = .ok (.iconst 2, 1) := by decide +kernel
theorem dX7_holdsTrue_36 : decode cX7_holdsTrue 36 = .ok (.iload_n 1, 1) := by decide +kernel
theorem dX7_holdsTrue_37 : decode cX7_holdsTrue 37 = .ok (.imul, 1) := by decide +kernel
theorem dX7_holdsTrue_38 : decode cX7_holdsTrue 38 = .ok (.iconst 1, 1) := by decide +kernel
theorem dX7_holdsTrue_39 : decode cX7_holdsTrue 39 = .ok (.iadd, 1) := by decide +kernel
theorem dX7_holdsTrue_40 : decode cX7_holdsTrue 40 = .ok (.aload_n 0, 1) := by decide +kernel
theorem dX7_holdsTrue_41 : decode cX7_holdsTrue 41 = .ok (.getfield 13, 3) := by decide +kernel
theorem dX7_holdsTrue_44 : decode cX7_holdsTrue 44 = .ok (.iconst 2, 1) := by decide +kernel
theorem dX7_holdsTrue_45 : decode cX7_holdsTrue 45 = .ok (.aload_n 0, 1) := by decide +kernel
theorem dX7_holdsTrue_46 : decode cX7_holdsTrue 46 = .ok (.getfield 16, 3) := by decide +kernel
theorem dX7_holdsTrue_49 : decode cX7_holdsTrue 49 = .ok (.iload_n 1, 1) := by decide +kernel
theorem dX7_holdsTrue_50 : decode cX7_holdsTrue 50 = .ok (.iaload, 1) := by decide +kernel
theorem dX7_holdsTrue_51 : decode cX7_holdsTrue 51 = .ok (.imul, 1) := by decide +kernel
theorem dX7_holdsTrue_52 : decode cX7_holdsTrue 52 = .ok (.iconst 1, 1) := by decide +kernel
theorem dX7_holdsTrue_53 : decode cX7_holdsTrue 53 = .ok (.iadd, 1) := by decide +kernel
theorem dX7_holdsTrue_54 : decode cX7_holdsTrue 54 = .ok (.iaload, 1) := by decide +kernel
theorem dX7_holdsTrue_55 : decode cX7_holdsTrue 55 = .ok (.iastore, 1) := by decide +kernel
theorem dX7_holdsTrue_56 : decode cX7_holdsTrue 56 = .ok (.iinc 1 1, 3) := by decide +kernel
theorem dX7_holdsTrue_59 : decode cX7_holdsTrue 59 = .ok (.goto (-57), 3) := by decide +kernel
theorem dX7_holdsTrue_62 : decode cX7_holdsTrue 62 = .ok (.return_, 1) := by decide +kernel
theorem dX7_findFor_0 : decode cX7_findFor 0 = .ok (.iconst 0, 1) := by decide +kernel
theorem dX7_findFor_1 : decode cX7_findFor 1 = .ok (.istore_n 3, 1) := by decide +kernel
theorem dX7_findFor_2 : decode cX7_findFor 2 = .ok (.iload_n 3, 1) := by decide +kernel
theorem dX7_findFor_3 : decode cX7_findFor 3 = .ok (.bipush 8, 2) := by decide +kernel
theorem dX7_findFor_5 : decode cX7_findFor 5 = .ok (.if_icmp .ge 24, 3) := by decide +kernel
theorem dX7_findFor_8 : decode cX7_findFor 8 = .ok (.aload_n 0, 1) := by decide +kernel
theorem dX7_findFor_9 : decode cX7_findFor 9 = .ok (.getfield 34, 3) := by decide +kernel
theorem dX7_findFor_12 : decode cX7_findFor 12 = .ok (.iload_n 3, 1) := by decide +kernel
theorem dX7_findFor_13 : decode cX7_findFor 13 = .ok (.iload_n 3, 1) := by decide +kernel
theorem dX7_findFor_14 : decode cX7_findFor 14 = .ok (.ifCond .ne 7, 3) := by decide +kernel
theorem dX7_findFor_17 : decode cX7_findFor 17 = .ok (.lconst 1, 1) := by decide +kernel
theorem dX7_findFor_18 : decode cX7_findFor 18 = .ok (.goto 4, 3) := by decide +kernel
theorem dX7_findFor_21 : decode cX7_findFor 21 = .ok (.lconst 0, 1) := by decide +kernel
theorem dX7_findFor_22 : decode cX7_findFor 22 = .ok (.lastore, 1) := by decide +kernel
theorem dX7_findFor_23 : decode cX7_findFor 23 = .ok (.iinc 3 1, 3) := by decide +kernel
theorem dX7_findFor_26 : decode cX7_findFor 26 = .ok (.goto (-24), 3) := by decide +kernel
theorem dX7_findFor_29 : decode cX7_findFor 29 = .ok (.iconst 0, 1) := by decide +kernel
theorem dX7_findFor_30 : decode cX7_findFor 30 = .ok (.istore_n 3, 1) := by decide +kernel
theorem dX7_findFor_31 : decode cX7_findFor 31 = .ok (.iconst 0, 1) := by decide +kernel
theorem dX7_findFor_32 : decode cX7_findFor 32 = .ok (.istore 4, 2) := by decide +kernel
theorem dX7_findFor_34 : decode cX7_findFor 34 = .ok (.iload 4, 2) := by decide +kernel
theorem dX7_findFor_36 : decode cX7_findFor 36 = .ok (.aload_n 0, 1) := by decide +kernel
theorem dX7_findFor_37 : decode cX7_findFor 37 = .ok (.getfield 83, 3) := by decide +kernel
theorem dX7_findFor_40 : decode cX7_findFor 40 = .ok (.if_icmp .ge 95, 3) := by decide +kernel
theorem dX7_findFor_43 : decode cX7_findFor 43 = .ok (.iload_n 1, 1) := by decide +kernel
theorem dX7_findFor_44 : decode cX7_findFor 44 = .ok (.iload 4, 2) := by decide +kernel
theorem dX7_findFor_46 : decode cX7_findFor 46 = .ok (.ishr, 1) := by decide +kernel
theorem dX7_findFor_47 : decode cX7_findFor 47 = .ok (.iconst 1, 1) := by decide +kernel
theorem dX7_findFor_48 : decode cX7_findFor 48 = .ok (.iand, 1) := by decide +kernel
theorem dX7_findFor_49 : decode cX7_findFor 49 = .ok (.ifCond .ne 6, 3) := by decide +kernel
theorem dX7_findFor_52 : decode cX7_findFor 52 = .ok (.goto 77, 3) := by decide +kernel
theorem dX7_findFor_55 : decode cX7_findFor 55 = .ok (.aload_n 0, 1) := by decide +kernel
theorem dX7_findFor_56 : decode cX7_findFor 56 = .ok (.getfield 31, 3) := by decide +kernel
theorem dX7_findFor_59 : decode cX7_findFor 59 = .ok (.iconst 2, 1) := by decide +kernel
theorem dX7_findFor_60 : decode cX7_findFor 60 = .ok (.iload 4, 2) := by decide +kernel
theorem dX7_findFor_62 : decode cX7_findFor 62 = .ok (.imul, 1) := by decide +kernel
theorem dX7_findFor_63 : decode cX7_findFor 63 = .ok (.iload_n 2, 1) := by decide +kernel
theorem dX7_findFor_64 : decode cX7_findFor 64 = .ok (.iadd, 1) := by decide +kernel
theorem dX7_findFor_65 : decode cX7_findFor 65 = .ok (.iaload, 1) := by decide +kernel
theorem dX7_findFor_66 : decode cX7_findFor 66 = .ok (.istore 5, 2) := by decide +kernel
theorem dX7_findFor_68 : decode cX7_findFor 68 = .ok (.iinc 3 1, 3) := by decide +kernel
theorem dX7_findFor_71 : decode cX7_findFor 71 = .ok (.iload_n 3, 1) := by decide +kernel
theorem dX7_findFor_72 : decode cX7_findFor 72 = .ok (.istore 6, 2) := by decide +kernel
theorem dX7_findFor_74 : decode cX7_findFor 74 = .ok (.iload 6, 2) := by decide +kernel
theorem dX7_findFor_76 : decode cX7_findFor 76 = .ok (.ifCond .lt 53, 3) := by decide +kernel
theorem dX7_findFor_79 : decode cX7_findFor 79 = .ok (.aload_n 0, 1) := by decide +kernel
theorem dX7_findFor_80 : decode cX7_findFor 80 = .ok (.getfield 34, 3) := by decide +kernel
theorem dX7_findFor_83 : decode cX7_findFor 83 = .ok (.iload 6, 2) := by decide +kernel
theorem dX7_findFor_85 : decode cX7_findFor 85 = .ok (.aload_n 0, 1) := by decide +kernel
theorem dX7_findFor_86 : decode cX7_findFor 86 = .ok (.getfield 34, 3) := by decide +kernel
theorem dX7_findFor_89 : decode cX7_findFor 89 = .ok (.iload 6, 2) := by decide +kernel
theorem dX7_findFor_91 : decode cX7_findFor 91 = .ok (.laload, 1) := by decide +kernel
theorem dX7_findFor_92 : decode cX7_findFor 92 = .ok (.bipush 100, 2) := by decide +kernel
theorem dX7_findFor_94 : decode cX7_findFor 94 = .ok (.iload 5, 2) := by decide +kernel
theorem dX7_findFor_96 : decode cX7_findFor 96 = .ok (.isub, 1) := by decide +kernel
theorem dX7_findFor_97 : decode cX7_findFor 97 = .ok (.i2l, 1) := by decide +kernel
theorem dX7_findFor_98 : decode cX7_findFor 98 = .ok (.lmul, 1) := by decide +kernel
theorem dX7_findFor_99 : decode cX7_findFor 99 = .ok (.iload 6, 2) := by decide +kernel
theorem dX7_findFor_101 : decode cX7_findFor 101 = .ok (.ifCond .le 19, 3) := by decide +kernel
theorem dX7_findFor_104 : decode cX7_findFor 104 = .ok (.aload_n 0, 1) := by decide +kernel
theorem dX7_findFor_105 : decode cX7_findFor 105 = .ok (.getfield 34, 3) := by decide +kernel
theorem dX7_findFor_108 : decode cX7_findFor 108 = .ok (.iload 6, 2) := by decide +kernel
theorem dX7_findFor_110 : decode cX7_findFor 110 = .ok (.iconst 1, 1) := by decide +kernel
theorem dX7_findFor_111 : decode cX7_findFor 111 = .ok (.isub, 1) := by decide +kernel
theorem dX7_findFor_112 : decode cX7_findFor 112 = .ok (.laload, 1) := by decide +kernel
theorem dX7_findFor_113 : decode cX7_findFor 113 = .ok (.iload 5, 2) := by decide +kernel
theorem dX7_findFor_115 : decode cX7_findFor 115 = .ok (.i2l, 1) := by decide +kernel
theorem dX7_findFor_116 : decode cX7_findFor 116 = .ok (.lmul, 1) := by decide +kernel
theorem dX7_findFor_117 : decode cX7_findFor 117 = .ok (.goto 4, 3) := by decide +kernel
theorem dX7_findFor_120 : decode cX7_findFor 120 = .ok (.lconst 0, 1) := by decide +kernel
theorem dX7_findFor_121 : decode cX7_findFor 121 = .ok (.ladd, 1) := by decide +kernel
theorem dX7_findFor_122 : decode cX7_findFor 122 = .ok (.lastore, 1) := by decide +kernel
theorem dX7_findFor_123 : decode cX7_findFor 123 = .ok (.iinc 6 (-1), 3) := by decide +kernel
theorem dX7_findFor_126 : decode cX7_findFor 126 = .ok (.goto (-52), 3) := by decide +kernel
theorem dX7_findFor_129 : decode cX7_findFor 129 = .ok (.iinc 4 1, 3) := by decide +kernel
theorem dX7_findFor_132 : decode cX7_findFor 132 = .ok (.goto (-98), 3) := by decide +kernel
theorem dX7_findFor_135 : decode cX7_findFor 135 = .ok (.return_, 1) := by decide +kernel
theorem dX7_found_0 : decode cX7_found 0 = .ok (.aload_n 0, 1) := by decide +kernel
theorem dX7_found_1 : decode cX7_found 1 = .ok (.iload_n 1, 1) := by decide +kernel
theorem dX7_found_2 : decode cX7_found 2 = .ok (.iload_n 2, 1) := by decide +kernel
theorem dX7_found_3 : decode cX7_found 3 = .ok (.invokevirtual 133, 3) := by decide +kernel
theorem dX7_found_6 : decode cX7_found 6 = .ok (.aload_n 0, 1) := by decide +kernel
theorem dX7_found_7 : decode cX7_found 7 = .ok (.invokevirtual 137, 3) := by decide +kernel
theorem dX7_found_10 : decode cX7_found 10 = .ok (.istore 4, 2) := by decide +kernel
theorem dX7_found_12 : decode cX7_found 12 = .ok (.aload_n 0, 1) := by decide +kernel
theorem dX7_found_13 : decode cX7_found 13 = .ok (.getfield 19, 3) := by decide +kernel
theorem dX7_found_16 : decode cX7_found 16 = .ok (.iconst 3, 1) := by decide +kernel
theorem dX7_found_17 : decode cX7_found 17 = .ok (.iaload, 1) := by decide +kernel
theorem dX7_found_18 : decode cX7_found 18 = .ok (.iconst 1, 1) := by decide +kernel
theorem dX7_found_19 : decode cX7_found 19 = .ok (.if_icmp .ne 24, 3) := by decide +kernel
theorem dX7_found_22 : decode cX7_found 22 = .ok (.iload_n 3, 1) := by decide +kernel
theorem dX7_found_23 : decode cX7_found 23 = .ok (.ifCond .eq 13, 3) := by decide +kernel
theorem dX7_found_26 : decode cX7_found 26 = .ok (.aload_n 0, 1) := by decide +kernel
theorem dX7_found_27 : decode cX7_found 27 = .ok (.getfield 34, 3) := by decide +kernel
theorem dX7_found_30 : decode cX7_found 30 = .ok (.iload 4, 2) := by decide +kernel
theorem dX7_found_32 : decode cX7_found 32 = .ok (.laload, 1) := by decide +kernel
theorem dX7_found_33 : decode cX7_found 33 = .ok (.goto 9, 3) := by decide +kernel
theorem dX7_found_36 : decode cX7_found 36 = .ok (.aload_n 0, 1) := by decide +kernel
theorem dX7_found_37 : decode cX7_found 37 = .ok (.getfield 34, 3) := by decide +kernel
theorem dX7_found_40 : decode cX7_found 40 = .ok (.iconst 0, 1) := by decide +kernel
theorem dX7_found_41 : decode cX7_found 41 = .ok (.laload, 1) := by decide +kernel
theorem dX7_found_42 : decode cX7_found 42 = .ok (.lreturn, 1) := by decide +kernel
theorem dX7_found_43 : decode cX7_found 43 = .ok (.lconst 0, 1) := by decide +kernel
theorem dX7_found_44 : decode cX7_found 44 = .ok (.lstore 5, 2) := by decide +kernel
theorem dX7_found_46 : decode cX7_found 46 = .ok (.iconst 0, 1) := by decide +kernel
theorem dX7_found_47 : decode cX7_found 47 = .ok (.istore 7, 2) := by decide +kernel
theorem dX7_found_49 : decode cX7_found 49 = .ok (.iload 7, 2) := by decide +kernel
theorem dX7_found_51 : decode cX7_found 51 = .ok (.iload 4, 2) := by decide +kernel
theorem dX7_found_53 : decode cX7_found 53 = .ok (.if_icmp .gt 43, 3) := by decide +kernel
theorem dX7_found_56 : decode cX7_found 56 = .ok (.lload 5, 2) := by decide +kernel
theorem dX7_found_58 : decode cX7_found 58 = .ok (.iconst 2, 1) := by decide +kernel
theorem dX7_found_59 : decode cX7_found 59 = .ok (.iload 7, 2) := by decide +kernel
theorem dX7_found_61 : decode cX7_found 61 = .ok (.imul, 1) := by decide +kernel
theorem dX7_found_62 : decode cX7_found 62 = .ok (.iload 4, 2) := by decide +kernel
theorem dX7_found_64 : decode cX7_found 64 = .ok (.if_icmp .le 7, 3) := by decide +kernel
theorem dX7_found_67 : decode cX7_found 67 = .ok (.iconst 1, 1) := by decide +kernel
theorem dX7_found_68 : decode cX7_found 68 = .ok (.goto 4, 3) := by decide +kernel
theorem dX7_found_71 : decode cX7_found 71 = .ok (.iconst 0, 1) := by decide +kernel
theorem dX7_found_72 : decode cX7_found 72 = .ok (.iload_n 3, 1) := by decide +kernel
theorem dX7_found_73 : decode cX7_found 73 = .ok (.if_icmp .ne 13, 3) := by decide +kernel
theorem dX7_found_76 : decode cX7_found 76 = .ok (.aload_n 0, 1) := by decide +kernel
theorem dX7_found_77 : decode cX7_found 77 = .ok (.getfield 34, 3) := by decide +kernel
theorem dX7_found_80 : decode cX7_found 80 = .ok (.iload 7, 2) := by decide +kernel
theorem dX7_found_82 : decode cX7_found 82 = .ok (.laload, 1) := by decide +kernel
theorem dX7_found_83 : decode cX7_found 83 = .ok (.goto 4, 3) := by decide +kernel
theorem dX7_found_86 : decode cX7_found 86 = .ok (.lconst 0, 1) := by decide +kernel
theorem dX7_found_87 : decode cX7_found 87 = .ok (.ladd, 1) := by decide +kernel
theorem dX7_found_88 : decode cX7_found 88 = .ok (.lstore 5, 2) := by decide +kernel
theorem dX7_found_90 : decode cX7_found 90 = .ok (.iinc 7 1, 3) := by decide +kernel
theorem dX7_found_93 : decode cX7_found 93 = .ok (.goto (-44), 3) := by decide +kernel
theorem dX7_found_96 : decode cX7_found 96 = .ok (.lload 5, 2) := by decide +kernel
theorem dX7_found_98 : decode cX7_found 98 = .ok (.lreturn, 1) := by decide +kernel
theorem dX7_chanceOf_0 : decode cX7_chanceOf 0 = .ok (.aload_n 0, 1) := by decide +kernel
theorem dX7_chanceOf_1 : decode cX7_chanceOf 1 = .ok (.getfield 19, 3) := by decide +kernel
theorem dX7_chanceOf_4 : decode cX7_chanceOf 4 = .ok (.iconst 4, 1) := by decide +kernel
theorem dX7_chanceOf_5 : decode cX7_chanceOf 5 = .ok (.iaload, 1) := by decide +kernel
theorem dX7_chanceOf_6 : decode cX7_chanceOf 6 = .ok (.i2l, 1) := by decide +kernel
theorem dX7_chanceOf_7 : decode cX7_chanceOf 7 = .ok (.aload_n 0, 1) := by decide +kernel
theorem dX7_chanceOf_8 : decode cX7_chanceOf 8 = .ok (.iload_n 1, 1) := by decide +kernel
theorem dX7_chanceOf_9 : decode cX7_chanceOf 9 = .ok (.iconst 0, 1) := by decide +kernel
theorem dX7_chanceOf_10 : decode cX7_chanceOf 10 = .ok (.iconst 1, 1) := by decide +kernel
theorem dX7_chanceOf_11 : decode cX7_chanceOf 11 = .ok (.invokevirtual 140, 3) := by decide +kernel
theorem dX7_chanceOf_14 : decode cX7_chanceOf 14 = .ok (.lmul, 1) := by decide +kernel
theorem dX7_chanceOf_15 : decode cX7_chanceOf 15 = .ok (.bipush 100, 2) := by decide +kernel
theorem dX7_chanceOf_17 : decode cX7_chanceOf 17 = .ok (.aload_n 0, 1) := by decide +kernel
theorem dX7_chanceOf_18 : decode cX7_chanceOf 18 = .ok (.getfield 19, 3) := by decide +kernel
theorem dX7_chanceOf_21 : decode cX7_chanceOf 21 = .ok (.iconst 4, 1) := by decide +kernel
theorem dX7_chanceOf_22 : decode cX7_chanceOf 22 = .ok (.iaload, 1) := by decide +kernel
theorem dX7_chanceOf_23 : decode cX7_chanceOf 23 = .ok (.isub, 1) := by decide +kernel
theorem dX7_chanceOf_24 : decode cX7_chanceOf 24 = .ok (.i2l, 1) := by decide +kernel
theorem dX7_chanceOf_25 : decode cX7_chanceOf 25 = .ok (.aload_n 0, 1) := by decide +kernel
theorem dX7_chanceOf_26 : decode cX7_chanceOf 26 = .ok (.iload_n 1, 1) := by decide +kernel
theorem dX7_chanceOf_27 : decode cX7_chanceOf 27 = .ok (.iconst 1, 1) := by decide +kernel
theorem dX7_chanceOf_28 : decode cX7_chanceOf 28 = .ok (.iconst 1, 1) := by decide +kernel
theorem dX7_chanceOf_29 : decode cX7_chanceOf 29 = .ok (.invokevirtual 140, 3) := by decide +kernel
theorem dX7_chanceOf_32 : decode cX7_chanceOf 32 = .ok (.lmul, 1) := by decide +kernel
theorem dX7_chanceOf_33 : decode cX7_chanceOf 33 = .ok (.ladd, 1) := by decide +kernel
theorem dX7_chanceOf_34 : decode cX7_chanceOf 34 = .ok (.lreturn, 1) := by decide +kernel
theorem dX7_rightOf_0 : decode cX7_rightOf 0 = .ok (.aload_n 0, 1) := by decide +kernel
theorem dX7_rightOf_1 : decode cX7_rightOf 1 = .ok (.getfield 19, 3) := by decide +kernel
theorem dX7_rightOf_4 : decode cX7_rightOf 4 = .ok (.iconst 4, 1) := by decide +kernel
theorem dX7_rightOf_5 : decode cX7_rightOf 5 = .ok (.iaload, 1) := by decide +kernel
theorem dX7_rightOf_6 : decode cX7_rightOf 6 = .ok (.i2l, 1) := by decide +kernel
theorem dX7_rightOf_7 : decode cX7_rightOf 7 = .ok (.aload_n 0, 1) := by decide +kernel
theorem dX7_rightOf_8 : decode cX7_rightOf 8 = .ok (.iload_n 1, 1) := by decide +kernel
theorem dX7_rightOf_9 : decode cX7_rightOf 9 = .ok (.iconst 0, 1) := by decide +kernel
theorem dX7_rightOf_10 : decode cX7_rightOf 10 = .ok (.iconst 1, 1) := by decide +kernel
theorem dX7_rightOf_11 : decode cX7_rightOf 11 = .ok (.invokevirtual 140, 3) := by decide +kernel
theorem dX7_rightOf_14 : decode cX7_rightOf 14 = .ok (.lmul, 1) := by decide +kernel
theorem dX7_rightOf_15 : decode cX7_rightOf 15 = .ok (.bipush 100, 2) := by decide +kernel
theorem dX7_rightOf_17 : decode cX7_rightOf 17 = .ok (.aload_n 0, 1) := by decide +kernel
theorem dX7_rightOf_18 : decode cX7_rightOf 18 = .ok (.getfield 19, 3) := by decide +kernel
theorem dX7_rightOf_21 : decode cX7_rightOf 21 = .ok (.iconst 4, 1) := by decide +kernel
theorem dX7_rightOf_22 : decode cX7_rightOf 22 = .ok (.iaload, 1) := by decide +kernel
theorem dX7_rightOf_23 : decode cX7_rightOf 23 = .ok (.isub, 1) := by decide +kernel
theorem dX7_rightOf_24 : decode cX7_rightOf 24 = .ok (.i2l, 1) := by decide +kernel
theorem dX7_rightOf_25 : decode cX7_rightOf 25 = .ok (.aload_n 0, 1) := by decide +kernel
theorem dX7_rightOf_26 : decode cX7_rightOf 26 = .ok (.iload_n 1, 1) := by decide +kernel
theorem dX7_rightOf_27 : decode cX7_rightOf 27 = .ok (.iconst 1, 1) := by decide +kernel
theorem dX7_rightOf_28 : decode cX7_rightOf 28 = .ok (.iconst 0, 1) := by decide +kernel
theorem dX7_rightOf_29 : decode cX7_rightOf 29 = .ok (.invokevirtual 140, 3) := by decide +kernel
theorem dX7_rightOf_32 : decode cX7_rightOf 32 = .ok (.lmul, 1) := by decide +kernel
theorem dX7_rightOf_33 : decode cX7_rightOf 33 = .ok (.ladd, 1) := by decide +kernel
theorem dX7_rightOf_34 : decode cX7_rightOf 34 = .ok (.lreturn, 1) := by decide +kernel
theorem dX7_notJury_0 : decode cX7_notJury 0 = .ok (.iload_n 1, 1) := by decide +kernel
theorem dX7_notJury_1 : decode cX7_notJury 1 = .ok (.ifCond .lt 12, 3) := by decide +kernel
theorem dX7_notJury_4 : decode cX7_notJury 4 = .ok (.iload_n 1, 1) := by decide +kernel
theorem dX7_notJury_5 : decode cX7_notJury 5 = .ok (.aload_n 0, 1) := by decide +kernel
theorem dX7_notJury_6 : decode cX7_notJury 6 = .ok (.getfield 83, 3) := by decide +kernel
theorem dX7_notJury_9 : decode cX7_notJury 9 = .ok (.ishr, 1) := by decide +kernel
theorem dX7_notJury_10 : decode cX7_notJury 10 = .ok (.ifCond .eq 7, 3) := by decide +kernel
theorem dX7_notJury_13 : decode cX7_notJury 13 = .ok (.iconst (-1), 1) := by decide +kernel
theorem dX7_notJury_14 : decode cX7_notJury 14 = .ok (.goto 20, 3) := by decide +kernel
theorem dX7_notJury_17 : decode cX7_notJury 17 = .ok (.iload_n 1, 1) := by decide +kernel
theorem dX7_notJury_18 : decode cX7_notJury 18 = .ok (.invokestatic 144, 3) := by decide +kernel
theorem dX7_notJury_21 : decode cX7_notJury 21 = .ok (.aload_n 0, 1) := by decide +kernel
theorem dX7_notJury_22 : decode cX7_notJury 22 = .ok (.invokevirtual 137, 3) := by decide +kernel
theorem dX7_notJury_25 : decode cX7_notJury 25 = .ok (.if_icmp .eq 8, 3) := by decide +kernel
theorem dX7_notJury_28 : decode cX7_notJury 28 = .ok (.bipush (-3), 2) := by decide +kernel
theorem dX7_notJury_30 : decode cX7_notJury 30 = .ok (.goto 4, 3) := by decide +kernel
theorem dX7_notJury_33 : decode cX7_notJury 33 = .ok (.iconst 0, 1) := by decide +kernel
theorem dX7_notJury_34 : decode cX7_notJury 34 = .ok (.ireturn, 1) := by decide +kernel
theorem dX7_chance_0 : decode cX7_chance 0 = .ok (.aload_n 0, 1) := by decide +kernel
theorem dX7_chance_1 : decode cX7_chance 1 = .ok (.iload_n 1, 1) := by decide +kernel
theorem dX7_chance_2 : decode cX7_chance 2 = .ok (.invokevirtual 147, 3) := by decide +kernel
theorem dX7_chance_5 : decode cX7_chance 5 = .ok (.istore_n 2, 1) := by decide +kernel
theorem dX7_chance_6 : decode cX7_chance 6 = .ok (.iload_n 2, 1) := by decide +kernel
theorem dX7_chance_7 : decode cX7_chance 7 = .ok (.ifCond .eq 9, 3) := by decide +kernel
theorem dX7_chance_10 : decode cX7_chance 10 = .ok (.aload_n 0, 1) := by decide +kernel
theorem dX7_chance_11 : decode cX7_chance 11 = .ok (.iload_n 2, 1) := by decide +kernel
theorem dX7_chance_12 : decode cX7_chance 12 = .ok (.invokevirtual 150, 3) := by decide +kernel
theorem dX7_chance_15 : decode cX7_chance 15 = .ok (.lreturn, 1) := by decide +kernel
theorem dX7_chance_16 : decode cX7_chance 16 = .ok (.aload_n 0, 1) := by decide +kernel
theorem dX7_chance_17 : decode cX7_chance 17 = .ok (.invokevirtual 154, 3) := by decide +kernel
theorem dX7_chance_20 : decode cX7_chance 20 = .ok (.aload_n 0, 1) := by decide +kernel
theorem dX7_chance_21 : decode cX7_chance 21 = .ok (.iload_n 1, 1) := by decide +kernel
theorem dX7_chance_22 : decode cX7_chance 22 = .ok (.invokevirtual 157, 3) := by decide +kernel
theorem dX7_chance_25 : decode cX7_chance 25 = .ok (.lreturn, 1) := by decide +kernel
theorem dX7_right_0 : decode cX7_right 0 = .ok (.aload_n 0, 1) := by decide +kernel
theorem dX7_right_1 : decode cX7_right 1 = .ok (.iload_n 1, 1) := by decide +kernel
theorem dX7_right_2 : decode cX7_right 2 = .ok (.invokevirtual 147, 3) := by decide +kernel
theorem dX7_right_5 : decode cX7_right 5 = .ok (.istore_n 2, 1) := by decide +kernel
theorem dX7_right_6 : decode cX7_right 6 = .ok (.iload_n 2, 1) := by decide +kernel
theorem dX7_right_7 : decode cX7_right 7 = .ok (.ifCond .eq 9, 3) := by decide +kernel
theorem dX7_right_10 : decode cX7_right 10 = .ok (.aload_n 0, 1) := by decide +kernel
theorem dX7_right_11 : decode cX7_right 11 = .ok (.iload_n 2, 1) := by decide +kernel
theorem dX7_right_12 : decode cX7_right 12 = .ok (.invokevirtual 150, 3) := by decide +kernel
theorem dX7_right_15 : decode cX7_right 15 = .ok (.lreturn, 1) := by decide +kernel
theorem dX7_right_16 : decode cX7_right 16 = .ok (.aload_n 0, 1) := by decide +kernel
theorem dX7_right_17 : decode cX7_right 17 = .ok (.invokevirtual 154, 3) := by decide +kernel
theorem dX7_right_20 : decode cX7_right 20 = .ok (.aload_n 0, 1) := by decide +kernel
theorem dX7_right_21 : decode cX7_right 21 = .ok (.iload_n 1, 1) := by decide +kernel
theorem dX7_right_22 : decode cX7_right 22 = .ok (.invokevirtual 160, 3) := by decide +kernel
theorem dX7_right_25 : decode cX7_right 25 = .ok (.lreturn, 1) := by decide +kernel
theorem dX7_index_0 : decode cX7_index 0 = .ok (.sipush 4096, 3) := by decide +kernel
theorem dX7_index_3 : decode cX7_index 3 = .ok (.iconst 2, 1) := by decide +kernel
theorem dX7_index_4 : decode cX7_index 4 = .ok (.iconst 4, 1) := by decide +kernel
theorem dX7_index_5 : decode cX7_index 5 = .ok (.iload_n 0, 1) := by decide +kernel
theorem dX7_index_6 : decode cX7_index 6 = .ok (.imul, 1) := by decide +kernel
theorem dX7_index_7 : decode cX7_index 7 = .ok (.iload_n 1, 1) := by decide +kernel
theorem dX7_index_8 : decode cX7_index 8 = .ok (.iadd, 1) := by decide +kernel
theorem dX7_index_9 : decode cX7_index 9 = .ok (.imul, 1) := by decide +kernel
theorem dX7_index_10 : decode cX7_index 10 = .ok (.iload_n 2, 1) := by decide +kernel
theorem dX7_index_11 : decode cX7_index 11 = .ok (.iadd, 1) := by decide +kernel
theorem dX7_index_12 : decode cX7_index 12 = .ok (.imul, 1) := by decide +kernel
theorem dX7_index_13 : decode cX7_index 13 = .ok (.iload_n 3, 1) := by decide +kernel
theorem dX7_index_14 : decode cX7_index 14 = .ok (.iadd, 1) := by decide +kernel
theorem dX7_index_15 : decode cX7_index 15 = .ok (.ireturn, 1) := by decide +kernel
theorem dX7_mover_0 : decode cX7_mover 0 = .ok (.iload_n 2, 1) := by decide +kernel
theorem dX7_mover_1 : decode cX7_mover 1 = .ok (.ifCond .ne 7, 3) := by decide +kernel
theorem dX7_mover_4 : decode cX7_mover 4 = .ok (.iload_n 0, 1) := by decide +kernel
theorem dX7_mover_5 : decode cX7_mover 5 = .ok (.goto 4, 3) := by decide +kernel
theorem dX7_mover_8 : decode cX7_mover 8 = .ok (.iload_n 1, 1) := by decide +kernel
theorem dX7_mover_9 : decode cX7_mover 9 = .ok (.ifCond .le 7, 3) := by decide +kernel
theorem dX7_mover_12 : decode cX7_mover 12 = .ok (.iload_n 2, 1) := by decide +kernel
theorem dX7_mover_13 : decode cX7_mover 13 = .ok (.goto 6, 3) := by decide +kernel
theorem dX7_mover_16 : decode cX7_mover 16 = .ok (.iconst 1, 1) := by decide +kernel
theorem dX7_mover_17 : decode cX7_mover 17 = .ok (.iload_n 2, 1) := by decide +kernel
theorem dX7_mover_18 : decode cX7_mover 18 = .ok (.isub, 1) := by decide +kernel
theorem dX7_mover_19 : decode cX7_mover 19 = .ok (.ireturn, 1) := by decide +kernel
theorem dX7_findBest_0 : decode cX7_findBest 0 = .ok (.iconst 0, 1) := by decide +kernel
theorem dX7_findBest_1 : decode cX7_findBest 1 = .ok (.istore 4, 2) := by decide +kernel
theorem dX7_findBest_3 : decode cX7_findBest 3 = .ok (.iload 4, 2) := by decide +kernel
theorem dX7_findBest_5 : decode cX7_findBest 5 = .ok (.sipush 4096, 3) := by decide +kernel
theorem dX7_findBest_8 : decode cX7_findBest 8 = .ok (.if_icmp .ge 21, 3) := by decide +kernel
theorem dX7_findBest_11 : decode cX7_findBest 11 = .ok (.aload_n 0, 1) := by decide +kernel
theorem dX7_findBest_12 : decode cX7_findBest 12 = .ok (.getfield 45, 3) := by decide +kernel
theorem dX7_findBest_15 : decode cX7_findBest 15 = .ok (.iload 4, 2) := by decide +kernel
theorem dX7_findBest_17 : decode cX7_findBest 17 = .ok (.iload 4, 2) := by decide +kernel
theorem dX7_findBest_19 : decode cX7_findBest 19 = .ok (.invokestatic 144, 3) := by decide +kernel
theorem dX7_findBest_22 : decode cX7_findBest 22 = .ok (.iastore, 1) := by decide +kernel
theorem dX7_findBest_23 : decode cX7_findBest 23 = .ok (.iinc 4 1, 3) := by decide +kernel
theorem dX7_findBest_26 : decode cX7_findBest 26 = .ok (.goto (-23), 3) := by decide +kernel
theorem dX7_findBest_29 : decode cX7_findBest 29 = .ok (.iconst 0, 1) := by decide +kernel
theorem dX7_findBest_30 : decode cX7_findBest 30 = .ok (.istore 4, 2) := by decide +kernel
theorem dX7_findBest_32 : decode cX7_findBest 32 = .ok (.iload 4, 2) := by decide +kernel
theorem dX7_findBest_34 : decode cX7_findBest 34 = .ok (.iload_n 2, 1) := by decide +kernel
theorem dX7_findBest_35 : decode cX7_findBest 35 = .ok (.iload_n 3, 1) := by decide +kernel
theorem dX7_findBest_36 : decode cX7_findBest 36 = .ok (.iadd, 1) := by decide +kernel
theorem dX7_findBest_37 : decode cX7_findBest 37 = .ok (.if_icmp .gt 145, 3) := by decide +kernel
theorem dX7_findBest_40 : decode cX7_findBest 40 = .ok (.iconst 0, 1) := by decide +kernel
theorem dX7_findBest_41 : decode cX7_findBest 41 = .ok (.istore 5, 2) := by decide +kernel
theorem dX7_findBest_43 : decode cX7_findBest 43 = .ok (.iload 5, 2) := by decide +kernel
theorem dX7_findBest_45 : decode cX7_findBest 45 = .ok (.iload_n 2, 1) := by decide +kernel
theorem dX7_findBest_46 : decode cX7_findBest 46 = .ok (.if_icmp .gt 130, 3) := by decide +kernel
theorem dX7_findBest_49 : decode cX7_findBest 49 = .ok (.iload 5, 2) := by decide +kernel
theorem dX7_findBest_51 : decode cX7_findBest 51 = .ok (.iload 4, 2) := by decide +kernel
theorem dX7_findBest_53 : decode cX7_findBest 53 = .ok (.if_icmp .gt 123, 3) := by decide +kernel
theorem dX7_findBest_56 : decode cX7_findBest 56 = .ok (.iload 4, 2) := by decide +kernel
theorem dX7_findBest_58 : decode cX7_findBest 58 = .ok (.iload 5, 2) := by decide +kernel
theorem dX7_findBest_60 : decode cX7_findBest 60 = .ok (.isub, 1) := by decide +kernel
theorem dX7_findBest_61 : decode cX7_findBest 61 = .ok (.iload_n 3, 1) := by decide +kernel
theorem dX7_findBest_62 : decode cX7_findBest 62 = .ok (.if_icmp .le 6, 3) := by decide +kernel
theorem dX7_findBest_65 : decode cX7_findBest 65 = .ok (.goto 105, 3) := by decide +kernel
theorem dX7_findBest_68 : decode cX7_findBest 68 = .ok (.iload_n 1, 1) := by decide +kernel
theorem dX7_findBest_69 : decode cX7_findBest 69 = .ok (.istore 6, 2) := by decide +kernel
theorem dX7_findBest_71 : decode cX7_findBest 71 = .ok (.iload 6, 2) := by decide +kernel
theorem dX7_findBest_73 : decode cX7_findBest 73 = .ok (.ifCond .le 97, 3) := by decide +kernel
theorem dX7_findBest_76 : decode cX7_findBest 76 = .ok (.aload_n 0, 1) := by decide +kernel
theorem dX7_findBest_77 : decode cX7_findBest 77 = .ok (.getfield 45, 3) := by decide +kernel
theorem dX7_findBest_80 : decode cX7_findBest 80 = .ok (.iload 6, 2) := by decide +kernel
theorem dX7_findBest_82 : decode cX7_findBest 82 = .ok (.iaload, 1) := by decide +kernel
theorem dX7_findBest_83 : decode cX7_findBest 83 = .ok (.aload_n 0, 1) := by decide +kernel
theorem dX7_findBest_84 : decode cX7_findBest 84 = .ok (.invokevirtual 137, 3) := by decide +kernel
theorem dX7_findBest_87 : decode cX7_findBest 87 = .ok (.iload 4, 2) := by decide +kernel
theorem dX7_findBest_89 : decode cX7_findBest 89 = .ok (.iadd, 1) := by decide +kernel
theorem dX7_findBest_90 : decode cX7_findBest 90 = .ok (.if_icmp .eq 6, 3) := by decide +kernel
theorem dX7_findBest_93 : decode cX7_findBest 93 = .ok (.goto 66, 3) := by decide +kernel
theorem dX7_findBest_96 : decode cX7_findBest 96 = .ok (.iconst 0, 1) := by decide +kernel
theorem dX7_findBest_97 : decode cX7_findBest 97 = .ok (.istore 7, 2) := by decide +kernel
theorem dX7_findBest_99 : decode cX7_findBest 99 = .ok (.iload 7, 2) := by decide +kernel
theorem dX7_findBest_101 : decode cX7_findBest 101 = .ok (.iconst 2, 1) := by decide +kernel
theorem dX7_findBest_102 : decode cX7_findBest 102 = .ok (.if_icmp .ge 57, 3) := by decide +kernel
theorem dX7_findBest_105 : decode cX7_findBest 105 = .ok (.aload_n 0, 1) := by decide +kernel
theorem dX7_findBest_106 : decode cX7_findBest 106 = .ok (.getfield 42, 3) := by decide +kernel
theorem dX7_findBest_109 : decode cX7_findBest 109 = .ok (.iload 5, 2) := by decide +kernel
theorem dX7_findBest_111 : decode cX7_findBest 111 = .ok (.iload 4, 2) := by decide +kernel
theorem dX7_findBest_113 : decode cX7_findBest 113 = .ok (.iload 5, 2) := by decide +kernel
theorem dX7_findBest_115 : decode cX7_findBest 115 = .ok (.isub, 1) := by decide +kernel
theorem dX7_findBest_116 : decode cX7_findBest 116 = .ok (.iload 7, 2) := by decide +kernel
theorem dX7_findBest_118 : decode cX7_findBest 118 = .ok (.iload 6, 2) := by decide +kernel
theorem dX7_findBest_120 : decode cX7_findBest 120 = .ok (.invokestatic 163, 3) := by decide +kernel
theorem dX7_findBest_123 : decode cX7_findBest 123 = .ok (.iload 4, 2) := by decide +kernel
theorem dX7_findBest_125 : decode cX7_findBest 125 = .ok (.ifCond .ne 12, 3) := by decide +kernel
theorem dX7_findBest_128 : decode cX7_findBest 128 = .ok (.aload_n 0, 1) := by decide +kernel
theorem dX7_findBest_129 : decode cX7_findBest 129 = .ok (.iload 6, 2) := by decide +kernel
theorem dX7_findBest_131 : decode cX7_findBest 131 = .ok (.invokevirtual 157, 3) := by decide +kernel
theorem dX7_findBest_134 : decode cX7_findBest 134 = .ok (.goto 18, 3) := by decide +kernel
theorem dX7_findBest_137 : decode cX7_findBest 137 = .ok (.aload_n 0, 1) := by decide +kernel
theorem dX7_findBest_138 : decode cX7_findBest 138 = .ok (.iload 5, 2) := by decide +kernel
theorem dX7_findBest_140 : decode cX7_findBest 140 = .ok (.iload 4, 2) := by decide +kernel
theorem dX7_findBest_142 : decode cX7_findBest 142 = .ok (.iload 5, 2) := by decide +kernel
theorem dX7_findBest_144 : decode cX7_findBest 144 = .ok (.isub, 1) := by decide +kernel
theorem dX7_findBest_145 : decode cX7_findBest 145 = .ok (.iload 7, 2) := by decide +kernel
theorem dX7_findBest_147 : decode cX7_findBest 147 = .ok (.iload 6, 2) := by decide +kernel
theorem dX7_findBest_149 : decode cX7_findBest 149 = .ok (.invokevirtual 167, 3) := by decide +kernel
theorem dX7_findBest_152 : decode cX7_findBest 152 = .ok (.lastore, 1) := by decide +kernel
theorem dX7_findBest_153 : decode cX7_findBest 153 = .ok (.iinc 7 1, 3) := by decide +kernel
theorem dX7_findBest_156 : decode cX7_findBest 156 = .ok (.goto (-57), 3) := by decide +kernel
theorem dX7_findBest_159 : decode cX7_findBest 159 = .ok (.iload 6, 2) := by decide +kernel
theorem dX7_findBest_161 : decode cX7_findBest 161 = .ok (.iconst 1, 1) := by decide +kernel
theorem dX7_findBest_162 : decode cX7_findBest 162 = .ok (.isub, 1) := by decide +kernel
theorem dX7_findBest_163 : decode cX7_findBest 163 = .ok (.iload_n 1, 1) := by decide +kernel
theorem dX7_findBest_164 : decode cX7_findBest 164 = .ok (.iand, 1) := by decide +kernel
theorem dX7_findBest_165 : decode cX7_findBest 165 = .ok (.istore 6, 2) := by decide +kernel
theorem dX7_findBest_167 : decode cX7_findBest 167 = .ok (.goto (-96), 3) := by decide +kernel
theorem dX7_findBest_170 : decode cX7_findBest 170 = .ok (.iinc 5 1, 3) := by decide +kernel
theorem dX7_findBest_173 : decode cX7_findBest 173 = .ok (.goto (-130), 3) := by decide +kernel
theorem dX7_findBest_176 : decode cX7_findBest 176 = .ok (.iinc 4 1, 3) := by decide +kernel
theorem dX7_findBest_179 : decode cX7_findBest 179 = .ok (.goto (-147), 3) := by decide +kernel
theorem dX7_findBest_182 : decode cX7_findBest 182 = .ok (.return_, 1) := by decide +kernel
theorem dX7_behind_0 : decode cX7_behind 0 = .ok (.aload_n 0, 1) := by decide +kernel
theorem dX7_behind_1 : decode cX7_behind 1 = .ok (.getfield 42, 3) := by decide +kernel
theorem dX7_behind_4 : decode cX7_behind 4 = .ok (.iload_n 3, 1) := by decide +kernel
theorem dX7_behind_5 : decode cX7_behind 5 = .ok (.ifCond .ne 9, 3) := by decide +kernel
theorem dX7_behind_8 : decode cX7_behind 8 = .ok (.iload_n 1, 1) := by decide +kernel
theorem dX7_behind_9 : decode cX7_behind 9 = .ok (.iconst 1, 1) := by decide +kernel
theorem dX7_behind_10 : decode cX7_behind 10 = .ok (.isub, 1) := by decide +kernel
theorem dX7_behind_11 : decode cX7_behind 11 = .ok (.goto 4, 3) := by decide +kernel
theorem dX7_behind_14 : decode cX7_behind 14 = .ok (.iload_n 1, 1) := by decide +kernel
theorem dX7_behind_15 : decode cX7_behind 15 = .ok (.iload_n 3, 1) := by decide +kernel
theorem dX7_behind_16 : decode cX7_behind 16 = .ok (.ifCond .ne 7, 3) := by decide +kernel
theorem dX7_behind_19 : decode cX7_behind 19 = .ok (.iload_n 2, 1) := by decide +kernel
theorem dX7_behind_20 : decode cX7_behind 20 = .ok (.goto 6, 3) := by decide +kernel
theorem dX7_behind_23 : decode cX7_behind 23 = .ok (.iload_n 2, 1) := by decide +kernel
theorem dX7_behind_24 : decode cX7_behind 24 = .ok (.iconst 1, 1) := by decide +kernel
theorem dX7_behind_25 : decode cX7_behind 25 = .ok (.isub, 1) := by decide +kernel
theorem dX7_behind_26 : decode cX7_behind 26 = .ok (.iconst 1, 1) := by decide +kernel
theorem dX7_behind_27 : decode cX7_behind 27 = .ok (.iload_n 3, 1) := by decide +kernel
theorem dX7_behind_28 : decode cX7_behind 28 = .ok (.isub, 1) := by decide +kernel
theorem dX7_behind_29 : decode cX7_behind 29 = .ok (.iload 4, 2) := by decide +kernel
theorem dX7_behind_31 : decode cX7_behind 31 = .ok (.iconst 1, 1) := by decide +kernel
theorem dX7_behind_32 : decode cX7_behind 32 = .ok (.iload 5, 2) := by decide +kernel
theorem dX7_behind_34 : decode cX7_behind 34 = .ok (.ishl, 1) := by decide +kernel
theorem dX7_behind_35 : decode cX7_behind 35 = .ok (.iconst (-1), 1) := by decide +kernel
theorem dX7_behind_36 : decode cX7_behind 36 = .ok (.ixor, 1) := by decide +kernel
theorem dX7_behind_37 : decode cX7_behind 37 = .ok (.iand, 1) := by decide +kernel
theorem dX7_behind_38 : decode cX7_behind 38 = .ok (.invokestatic 163, 3) := by decide +kernel
theorem dX7_behind_41 : decode cX7_behind 41 = .ok (.laload, 1) := by decide +kernel
theorem dX7_behind_42 : decode cX7_behind 42 = .ok (.lreturn, 1) := by decide +kernel
theorem dX7_valueOf_0 : decode cX7_valueOf 0 = .ok (.iload_n 1, 1) := by decide +kernel
theorem dX7_valueOf_1 : decode cX7_valueOf 1 = .ok (.iload_n 2, 1) := by decide +kernel
theorem dX7_valueOf_2 : decode cX7_valueOf 2 = .ok (.iload_n 3, 1) := by decide +kernel
theorem dX7_valueOf_3 : decode cX7_valueOf 3 = .ok (.invokestatic 171, 3) := by decide +kernel
theorem dX7_valueOf_6 : decode cX7_valueOf 6 = .ok (.istore 5, 2) := by decide +kernel
theorem dX7_valueOf_8 : decode cX7_valueOf 8 = .ok (.iconst 0, 1) := by decide +kernel
theorem dX7_valueOf_9 : decode cX7_valueOf 9 = .ok (.istore 6, 2) := by decide +kernel
theorem dX7_valueOf_11 : decode cX7_valueOf 11 = .ok (.lconst 0, 1) := by decide +kernel
theorem dX7_valueOf_12 : decode cX7_valueOf 12 = .ok (.lstore 7, 2) := by decide +kernel
theorem dX7_valueOf_14 : decode cX7_valueOf 14 = .ok (.iconst 0, 1) := by decide +kernel
theorem dX7_valueOf_15 : decode cX7_valueOf 15 = .ok (.istore 9, 2) := by decide +kernel
theorem dX7_valueOf_17 : decode cX7_valueOf 17 = .ok (.iload 9, 2) := by decide +kernel
theorem dX7_valueOf_19 : decode cX7_valueOf 19 = .ok (.bipush 12, 2) := by decide +kernel
theorem dX7_valueOf_21 : decode cX7_valueOf 21 = .ok (.if_icmp .ge 75, 3) := by decide +kernel
theorem dX7_valueOf_24 : decode cX7_valueOf 24 = .ok (.iload 4, 2) := by decide +kernel
theorem dX7_valueOf_26 : decode cX7_valueOf 26 = .ok (.iload 9, 2) := by decide +kernel
theorem dX7_valueOf_28 : decode cX7_valueOf 28 = .ok (.ishr, 1) := by decide +kernel
theorem dX7_valueOf_29 : decode cX7_valueOf 29 = .ok (.iconst 1, 1) := by decide +kernel
theorem dX7_valueOf_30 : decode cX7_valueOf 30 = .ok (.iand, 1) := by decide +kernel
theorem dX7_valueOf_31 : decode cX7_valueOf 31 = .ok (.ifCond .ne 6, 3) := by decide +kernel
theorem dX7_valueOf_34 : decode cX7_valueOf 34 = .ok (.goto 56, 3) := by decide +kernel
theorem dX7_valueOf_37 : decode cX7_valueOf 37 = .ok (.aload_n 0, 1) := by decide +kernel
theorem dX7_valueOf_38 : decode cX7_valueOf 38 = .ok (.iload_n 1, 1) := by decide +kernel
theorem dX7_valueOf_39 : decode cX7_valueOf 39 = .ok (.iload_n 2, 1) := by decide +kernel
theorem dX7_valueOf_40 : decode cX7_valueOf 40 = .ok (.iload 5, 2) := by decide +kernel
theorem dX7_valueOf_42 : decode cX7_valueOf 42 = .ok (.iload 4, 2) := by decide +kernel
theorem dX7_valueOf_44 : decode cX7_valueOf 44 = .ok (.iload 9, 2) := by decide +kernel
theorem dX7_valueOf_46 : decode cX7_valueOf 46 = .ok (.invokevirtual 174, 3) := by decide +kernel
theorem dX7_valueOf_49 : decode cX7_valueOf 49 = .ok (.lstore 10, 2) := by decide +kernel
theorem dX7_valueOf_51 : decode cX7_valueOf 51 = .ok (.iload 6, 2) := by decide +kernel
theorem dX7_valueOf_53 : decode cX7_valueOf 53 = .ok (.ifCond .eq 30, 3) := by decide +kernel
theorem dX7_valueOf_56 : decode cX7_valueOf 56 = .ok (.iload 5, 2) := by decide +kernel
theorem dX7_valueOf_58 : decode cX7_valueOf 58 = .ok (.ifCond .ne 14, 3) := by decide +kernel
theorem dX7_valueOf_61 : decode cX7_valueOf 61 = .ok (.lload 10, 2) := by decide +kernel
theorem dX7_valueOf_63 : decode cX7_valueOf 63 = .ok (.lload 7, 2) := by decide +kernel
theorem dX7_valueOf_65 : decode cX7_valueOf 65 = .ok (.lcmp, 1) := by decide +kernel
theorem dX7_valueOf_66 : decode cX7_valueOf 66 = .ok (.ifCond .gt 17, 3) := by decide +kernel
theorem dX7_valueOf_69 : decode cX7_valueOf 69 = .ok (.goto 21, 3) := by decide +kernel
theorem dX7_valueOf_72 : decode cX7_valueOf 72 = .ok (.lload 10, 2) := by decide +kernel
theorem dX7_valueOf_74 : decode cX7_valueOf 74 = .ok (.lload 7, 2) := by decide +kernel
theorem dX7_valueOf_76 : decode cX7_valueOf 76 = .ok (.lcmp, 1) := by decide +kernel
theorem dX7_valueOf_77 : decode cX7_valueOf 77 = .ok (.ifCond .lt 6, 3) := by decide +kernel
theorem dX7_valueOf_80 : decode cX7_valueOf 80 = .ok (.goto 10, 3) := by decide +kernel
theorem dX7_valueOf_83 : decode cX7_valueOf 83 = .ok (.iconst 1, 1) := by decide +kernel
theorem dX7_valueOf_84 : decode cX7_valueOf 84 = .ok (.istore 6, 2) := by decide +kernel
theorem dX7_valueOf_86 : decode cX7_valueOf 86 = .ok (.lload 10, 2) := by decide +kernel
theorem dX7_valueOf_88 : decode cX7_valueOf 88 = .ok (.lstore 7, 2) := by decide +kernel
theorem dX7_valueOf_90 : decode cX7_valueOf 90 = .ok (.iinc 9 1, 3) := by decide +kernel
theorem dX7_valueOf_93 : decode cX7_valueOf 93 = .ok (.goto (-76), 3) := by decide +kernel
theorem dX7_valueOf_96 : decode cX7_valueOf 96 = .ok (.lload 7, 2) := by decide +kernel
theorem dX7_valueOf_98 : decode cX7_valueOf 98 = .ok (.lreturn, 1) := by decide +kernel
theorem dX7_strikeOf_0 : decode cX7_strikeOf 0 = .ok (.iload_n 1, 1) := by decide +kernel
theorem dX7_strikeOf_1 : decode cX7_strikeOf 1 = .ok (.iload_n 2, 1) := by decide +kernel
theorem dX7_strikeOf_2 : decode cX7_strikeOf 2 = .ok (.iload_n 3, 1) := by decide +kernel
theorem dX7_strikeOf_3 : decode cX7_strikeOf 3 = .ok (.invokestatic 171, 3) := by decide +kernel
theorem dX7_strikeOf_6 : decode cX7_strikeOf 6 = .ok (.istore 5, 2) := by decide +kernel
theorem dX7_strikeOf_8 : decode cX7_strikeOf 8 = .ok (.iconst 0, 1) := by decide +kernel
theorem dX7_strikeOf_9 : decode cX7_strikeOf 9 = .ok (.istore 6, 2) := by decide +kernel
theorem dX7_strikeOf_11 : decode cX7_strikeOf 11 = .ok (.iload 6, 2) := by decide +kernel
theorem dX7_strikeOf_13 : decode cX7_strikeOf 13 = .ok (.bipush 12, 2) := by decide +kernel
theorem dX7_strikeOf_15 : decode cX7_strikeOf 15 = .ok (.if_icmp .ge 52, 3) := by decide +kernel
theorem dX7_strikeOf_18 : decode cX7_strikeOf 18 = .ok (.iload 4, 2) := by decide +kernel
theorem dX7_strikeOf_20 : decode cX7_strikeOf 20 = .ok (.iload 6, 2) := by decide +kernel
theorem dX7_strikeOf_22 : decode cX7_strikeOf 22 = .ok (.ishr, 1) := by decide +kernel
theorem dX7_strikeOf_23 : decode cX7_strikeOf 23 = .ok (.iconst 1, 1) := by decide +kernel
theorem dX7_strikeOf_24 : decode cX7_strikeOf 24 = .ok (.iand, 1) := by decide +kernel
theorem dX7_strikeOf_25 : decode cX7_strikeOf 25 = .ok (.iconst 1, 1) := by decide +kernel
theorem dX7_strikeOf_26 : decode cX7_strikeOf 26 = .ok (.if_icmp .ne 35, 3) := by decide +kernel
theorem dX7_strikeOf_29 : decode cX7_strikeOf 29 = .ok (.aload_n 0, 1) := by decide +kernel
theorem dX7_strikeOf_30 : decode cX7_strikeOf 30 = .ok (.iload_n 1, 1) := by decide +kernel
theorem dX7_strikeOf_31 : decode cX7_strikeOf 31 = .ok (.iload_n 2, 1) := by decide +kernel
theorem dX7_strikeOf_32 : decode cX7_strikeOf 32 = .ok (.iload 5, 2) := by decide +kernel
theorem dX7_strikeOf_34 : decode cX7_strikeOf 34 = .ok (.iload 4, 2) := by decide +kernel
theorem dX7_strikeOf_36 : decode cX7_strikeOf 36 = .ok (.iload 6, 2) := by decide +kernel
theorem dX7_strikeOf_38 : decode cX7_strikeOf 38 = .ok (.invokevirtual 174, 3) := by decide +kernel
theorem dX7_strikeOf_41 : decode cX7_strikeOf 41 = .ok (.aload_n 0, 1) := by decide +kernel
theorem dX7_strikeOf_42 : decode cX7_strikeOf 42 = .ok (.getfield 42, 3) := by decide +kernel
theorem dX7_strikeOf_45 : decode cX7_strikeOf 45 = .ok (.iload_n 1, 1) := by decide +kernel
theorem dX7_strikeOf_46 : decode cX7_strikeOf 46 = .ok (.iload_n 2, 1) := by decide +kernel
theorem dX7_strikeOf_47 : decode cX7_strikeOf 47 = .ok (.iload_n 3, 1) := by decide +kernel
theorem dX7_strikeOf_48 : decode cX7_strikeOf 48 = .ok (.iload 4, 2) := by decide +kernel
theorem dX7_strikeOf_50 : decode cX7_strikeOf 50 = .ok (.invokestatic 163, 3) := by decide +kernel
theorem dX7_strikeOf_53 : decode cX7_strikeOf 53 = .ok (.laload, 1) := by decide +kernel
theorem dX7_strikeOf_54 : decode cX7_strikeOf 54 = .ok (.lcmp, 1) := by decide +kernel
theorem dX7_strikeOf_55 : decode cX7_strikeOf 55 = .ok (.ifCond .ne 6, 3) := by decide +kernel
theorem dX7_strikeOf_58 : decode cX7_strikeOf 58 = .ok (.iload 6, 2) := by decide +kernel
theorem dX7_strikeOf_60 : decode cX7_strikeOf 60 = .ok (.ireturn, 1) := by decide +kernel
theorem dX7_strikeOf_61 : decode cX7_strikeOf 61 = .ok (.iinc 6 1, 3) := by decide +kernel
theorem dX7_strikeOf_64 : decode cX7_strikeOf 64 = .ok (.goto (-53), 3) := by decide +kernel
theorem dX7_strikeOf_67 : decode cX7_strikeOf 67 = .ok (.bipush (-9), 2) := by decide +kernel
theorem dX7_strikeOf_69 : decode cX7_strikeOf 69 = .ok (.ireturn, 1) := by decide +kernel
theorem dX7_notLeft_0 : decode cX7_notLeft 0 = .ok (.iload_n 3, 1) := by decide +kernel
theorem dX7_notLeft_1 : decode cX7_notLeft 1 = .ok (.iconst 0, 1) := by decide +kernel
theorem dX7_notLeft_2 : decode cX7_notLeft 2 = .ok (.iconst 1, 1) := by decide +kernel
theorem dX7_notLeft_3 : decode cX7_notLeft 3 = .ok (.invokestatic 87, 3) := by decide +kernel
theorem dX7_notLeft_6 : decode cX7_notLeft 6 = .ok (.ifCond .eq 16, 3) := by decide +kernel
theorem dX7_notLeft_9 : decode cX7_notLeft 9 = .ok (.iload_n 1, 1) := by decide +kernel
theorem dX7_notLeft_10 : decode cX7_notLeft 10 = .ok (.ifCond .lt 12, 3) := by decide +kernel
theorem dX7_notLeft_13 : decode cX7_notLeft 13 = .ok (.iload_n 1, 1) := by decide +kernel
theorem dX7_notLeft_14 : decode cX7_notLeft 14 = .ok (.aload_n 0, 1) := by decide +kernel
theorem dX7_notLeft_15 : decode cX7_notLeft 15 = .ok (.getfield 83, 3) := by decide +kernel
theorem dX7_notLeft_18 : decode cX7_notLeft 18 = .ok (.ishr, 1) := by decide +kernel
theorem dX7_notLeft_19 : decode cX7_notLeft 19 = .ok (.ifCond .eq 5, 3) := by decide +kernel
theorem dX7_notLeft_22 : decode cX7_notLeft 22 = .ok (.iconst (-1), 1) := by decide +kernel
theorem dX7_notLeft_23 : decode cX7_notLeft 23 = .ok (.ireturn, 1) := by decide +kernel
theorem dX7_notLeft_24 : decode cX7_notLeft 24 = .ok (.iload_n 2, 1) := by decide +kernel
theorem dX7_notLeft_25 : decode cX7_notLeft 25 = .ok (.ifCond .ge 6, 3) := by decide +kernel
theorem dX7_notLeft_28 : decode cX7_notLeft 28 = .ok (.bipush (-4), 2) := by decide +kernel
theorem dX7_notLeft_30 : decode cX7_notLeft 30 = .ok (.ireturn, 1) := by decide +kernel
theorem dX7_notLeft_31 : decode cX7_notLeft 31 = .ok (.iload_n 2, 1) := by decide +kernel
theorem dX7_notLeft_32 : decode cX7_notLeft 32 = .ok (.bipush 10, 2) := by decide +kernel
theorem dX7_notLeft_34 : decode cX7_notLeft 34 = .ok (.idiv, 1) := by decide +kernel
theorem dX7_notLeft_35 : decode cX7_notLeft 35 = .ok (.iconst 3, 1) := by decide +kernel
theorem dX7_notLeft_36 : decode cX7_notLeft 36 = .ok (.if_icmp .gt 11, 3) := by decide +kernel
theorem dX7_notLeft_39 : decode cX7_notLeft 39 = .ok (.iload_n 2, 1) := by decide +kernel
theorem dX7_notLeft_40 : decode cX7_notLeft 40 = .ok (.bipush 10, 2) := by decide +kernel
theorem dX7_notLeft_42 : decode cX7_notLeft 42 = .ok (.irem, 1) := by decide +kernel
theorem dX7_notLeft_43 : decode cX7_notLeft 43 = .ok (.iconst 3, 1) := by decide +kernel
theorem dX7_notLeft_44 : decode cX7_notLeft 44 = .ok (.if_icmp .le 6, 3) := by decide +kernel
theorem dX7_notLeft_47 : decode cX7_notLeft 47 = .ok (.bipush (-6), 2) := by decide +kernel
theorem dX7_notLeft_49 : decode cX7_notLeft 49 = .ok (.ireturn, 1) := by decide +kernel
theorem dX7_notLeft_50 : decode cX7_notLeft 50 = .ok (.iload_n 1, 1) := by decide +kernel
theorem dX7_notLeft_51 : decode cX7_notLeft 51 = .ok (.invokestatic 144, 3) := by decide +kernel
theorem dX7_notLeft_54 : decode cX7_notLeft 54 = .ok (.aload_n 0, 1) := by decide +kernel
theorem dX7_notLeft_55 : decode cX7_notLeft 55 = .ok (.invokevirtual 137, 3) := by decide +kernel
theorem dX7_notLeft_58 : decode cX7_notLeft 58 = .ok (.iload_n 2, 1) := by decide +kernel
theorem dX7_notLeft_59 : decode cX7_notLeft 59 = .ok (.bipush 10, 2) := by decide +kernel
theorem dX7_notLeft_61 : decode cX7_notLeft 61 = .ok (.idiv, 1) := by decide +kernel
theorem dX7_notLeft_62 : decode cX7_notLeft 62 = .ok (.iadd, 1) := by decide +kernel
theorem dX7_notLeft_63 : decode cX7_notLeft 63 = .ok (.iload_n 2, 1) := by decide +kernel
theorem dX7_notLeft_64 : decode cX7_notLeft 64 = .ok (.bipush 10, 2) := by decide +kernel
theorem dX7_notLeft_66 : decode cX7_notLeft 66 = .ok (.irem, 1) := by decide +kernel
theorem dX7_notLeft_67 : decode cX7_notLeft 67 = .ok (.iadd, 1) := by decide +kernel
theorem dX7_notLeft_68 : decode cX7_notLeft 68 = .ok (.if_icmp .eq 8, 3) := by decide +kernel
theorem dX7_notLeft_71 : decode cX7_notLeft 71 = .ok (.bipush (-3), 2) := by decide +kernel
theorem dX7_notLeft_73 : decode cX7_notLeft 73 = .ok (.goto 4, 3) := by decide +kernel
theorem dX7_notLeft_76 : decode cX7_notLeft 76 = .ok (.iconst 0, 1) := by decide +kernel
theorem dX7_notLeft_77 : decode cX7_notLeft 77 = .ok (.ireturn, 1) := by decide +kernel
theorem dX7_best_0 : decode cX7_best 0 = .ok (.aload_n 0, 1) := by decide +kernel
theorem dX7_best_1 : decode cX7_best 1 = .ok (.iload_n 1, 1) := by decide +kernel
theorem dX7_best_2 : decode cX7_best 2 = .ok (.iload_n 2, 1) := by decide +kernel
theorem dX7_best_3 : decode cX7_best 3 = .ok (.iload_n 3, 1) := by decide +kernel
theorem dX7_best_4 : decode cX7_best 4 = .ok (.invokevirtual 178, 3) := by decide +kernel
theorem dX7_best_7 : decode cX7_best 7 = .ok (.istore 4, 2) := by decide +kernel
theorem dX7_best_9 : decode cX7_best 9 = .ok (.iload 4, 2) := by decide +kernel
theorem dX7_best_11 : decode cX7_best 11 = .ok (.ifCond .eq 10, 3) := by decide +kernel
theorem dX7_best_14 : decode cX7_best 14 = .ok (.aload_n 0, 1) := by decide +kernel
theorem dX7_best_15 : decode cX7_best 15 = .ok (.iload 4, 2) := by decide +kernel
theorem dX7_best_17 : decode cX7_best 17 = .ok (.invokevirtual 150, 3) := by decide +kernel
theorem dX7_best_20 : decode cX7_best 20 = .ok (.lreturn, 1) := by decide +kernel
theorem dX7_best_21 : decode cX7_best 21 = .ok (.aload_n 0, 1) := by decide +kernel
theorem dX7_best_22 : decode cX7_best 22 = .ok (.invokevirtual 154, 3) := by decide +kernel
theorem dX7_best_25 : decode cX7_best 25 = .ok (.aload_n 0, 1) := by decide +kernel
theorem dX7_best_26 : decode cX7_best 26 = .ok (.iload_n 1, 1) := by decide +kernel
theorem dX7_best_27 : decode cX7_best 27 = .ok (.iload_n 2, 1) := by decide +kernel
theorem dX7_best_28 : decode cX7_best 28 = .ok (.bipush 10, 2) := by decide +kernel
theorem dX7_best_30 : decode cX7_best 30 = .ok (.idiv, 1) := by decide +kernel
theorem dX7_best_31 : decode cX7_best 31 = .ok (.iload_n 2, 1) := by decide +kernel
theorem dX7_best_32 : decode cX7_best 32 = .ok (.bipush 10, 2) := by decide +kernel
theorem dX7_best_34 : decode cX7_best 34 = .ok (.irem, 1) := by decide +kernel
theorem dX7_best_35 : decode cX7_best 35 = .ok (.invokevirtual 181, 3) := by decide +kernel
theorem dX7_best_38 : decode cX7_best 38 = .ok (.aload_n 0, 1) := by decide +kernel
theorem dX7_best_39 : decode cX7_best 39 = .ok (.getfield 42, 3) := by decide +kernel
theorem dX7_best_42 : decode cX7_best 42 = .ok (.iload_n 2, 1) := by decide +kernel
theorem dX7_best_43 : decode cX7_best 43 = .ok (.bipush 10, 2) := by decide +kernel
theorem dX7_best_45 : decode cX7_best 45 = .ok (.idiv, 1) := by decide +kernel
theorem dX7_best_46 : decode cX7_best 46 = .ok (.iload_n 2, 1) := by decide +kernel
theorem dX7_best_47 : decode cX7_best 47 = .ok (.bipush 10, 2) := by decide +kernel
theorem dX7_best_49 : decode cX7_best 49 = .ok (.irem, 1) := by decide +kernel
theorem dX7_best_50 : decode cX7_best 50 = .ok (.iload_n 3, 1) := by decide +kernel
theorem dX7_best_51 : decode cX7_best 51 = .ok (.iload_n 1, 1) := by decide +kernel
theorem dX7_best_52 : decode cX7_best 52 = .ok (.invokestatic 163, 3) := by decide +kernel
theorem dX7_best_55 : decode cX7_best 55 = .ok (.laload, 1) := by decide +kernel
theorem dX7_best_56 : decode cX7_best 56 = .ok (.lreturn, 1) := by decide +kernel
theorem dX7_strike_0 : decode cX7_strike 0 = .ok (.aload_n 0, 1) := by decide +kernel
theorem dX7_strike_1 : decode cX7_strike 1 = .ok (.iload_n 1, 1) := by decide +kernel
theorem dX7_strike_2 : decode cX7_strike 2 = .ok (.iload_n 2, 1) := by decide +kernel
theorem dX7_strike_3 : decode cX7_strike 3 = .ok (.iload_n 3, 1) := by decide +kernel
theorem dX7_strike_4 : decode cX7_strike 4 = .ok (.invokevirtual 178, 3) := by decide +kernel
theorem dX7_strike_7 : decode cX7_strike 7 = .ok (.istore 4, 2) := by decide +kernel
theorem dX7_strike_9 : decode cX7_strike 9 = .ok (.iload 4, 2) := by decide +kernel
theorem dX7_strike_11 : decode cX7_strike 11 = .ok (.ifCond .eq 10, 3) := by decide +kernel
theorem dX7_strike_14 : decode cX7_strike 14 = .ok (.aload_n 0, 1) := by decide +kernel
theorem dX7_strike_15 : decode cX7_strike 15 = .ok (.iload 4, 2) := by decide +kernel
theorem dX7_strike_17 : decode cX7_strike 17 = .ok (.invokevirtual 79, 3) := by decide +kernel
theorem dX7_strike_20 : decode cX7_strike 20 = .ok (.ireturn, 1) := by decide +kernel
theorem dX7_strike_21 : decode cX7_strike 21 = .ok (.iload_n 2, 1) := by decide +kernel
theorem dX7_strike_22 : decode cX7_strike 22 = .ok (.ifCond .ne 6, 3) := by decide +kernel
theorem dX7_strike_25 : decode cX7_strike 25 = .ok (.bipush (-9), 2) := by decide +kernel
theorem dX7_strike_27 : decode cX7_strike 27 = .ok (.ireturn, 1) := by decide +kernel
theorem dX7_strike_28 : decode cX7_strike 28 = .ok (.aload_n 0, 1) := by decide +kernel
theorem dX7_strike_29 : decode cX7_strike 29 = .ok (.invokevirtual 154, 3) := by decide +kernel
theorem dX7_strike_32 : decode cX7_strike 32 = .ok (.aload_n 0, 1) := by decide +kernel
theorem dX7_strike_33 : decode cX7_strike 33 = .ok (.iload_n 1, 1) := by decide +kernel
theorem dX7_strike_34 : decode cX7_strike 34 = .ok (.iload_n 2, 1) := by decide +kernel
theorem dX7_strike_35 : decode cX7_strike 35 = .ok (.bipush 10, 2) := by decide +kernel
theorem dX7_strike_37 : decode cX7_strike 37 = .ok (.idiv, 1) := by decide +kernel
theorem dX7_strike_38 : decode cX7_strike 38 = .ok (.iload_n 2, 1) := by decide +kernel
theorem dX7_strike_39 : decode cX7_strike 39 = .ok (.bipush 10, 2) := by decide +kernel
theorem dX7_strike_41 : decode cX7_strike 41 = .ok (.irem, 1) := by decide +kernel
theorem dX7_strike_42 : decode cX7_strike 42 = .ok (.invokevirtual 181, 3) := by decide +kernel
theorem dX7_strike_45 : decode cX7_strike 45 = .ok (.aload_n 0, 1) := by decide +kernel
theorem dX7_strike_46 : decode cX7_strike 46 = .ok (.iload_n 2, 1) := by decide +kernel
theorem dX7_strike_47 : decode cX7_strike 47 = .ok (.bipush 10, 2) := by decide +kernel
theorem dX7_strike_49 : decode cX7_strike 49 = .ok (.idiv, 1) := by decide +kernel
theorem dX7_strike_50 : decode cX7_strike 50 = .ok (.iload_n 2, 1) := by decide +kernel
theorem dX7_strike_51 : decode cX7_strike 51 = .ok (.bipush 10, 2) := by decide +kernel
theorem dX7_strike_53 : decode cX7_strike 53 = .ok (.irem, 1) := by decide +kernel
theorem dX7_strike_54 : decode cX7_strike 54 = .ok (.iload_n 3, 1) := by decide +kernel
theorem dX7_strike_55 : decode cX7_strike 55 = .ok (.iload_n 1, 1) := by decide +kernel
theorem dX7_strike_56 : decode cX7_strike 56 = .ok (.invokevirtual 185, 3) := by decide +kernel
theorem dX7_strike_59 : decode cX7_strike 59 = .ok (.ireturn, 1) := by decide +kernel
theorem dX7_turnsOf_0 : decode cX7_turnsOf 0 = .ok (.aload_n 0, 1) := by decide +kernel
theorem dX7_turnsOf_1 : decode cX7_turnsOf 1 = .ok (.getfield 42, 3) := by decide +kernel
theorem dX7_turnsOf_4 : decode cX7_turnsOf 4 = .ok (.aload_n 0, 1) := by decide +kernel
theorem dX7_turnsOf_5 : decode cX7_turnsOf 5 = .ok (.getfield 19, 3) := by decide +kernel
theorem dX7_turnsOf_8 : decode cX7_turnsOf 8 = .ok (.iconst 1, 1) := by decide +kernel
theorem dX7_turnsOf_9 : decode cX7_turnsOf 9 = .ok (.iaload, 1) := by decide +kernel
theorem dX7_turnsOf_10 : decode cX7_turnsOf 10 = .ok (.aload_n 0, 1) := by decide +kernel
theorem dX7_turnsOf_11 : decode cX7_turnsOf 11 = .ok (.getfield 19, 3) := by decide +kernel
theorem dX7_turnsOf_14 : decode cX7_turnsOf 14 = .ok (.iconst 2, 1) := by decide +kernel
theorem dX7_turnsOf_15 : decode cX7_turnsOf 15 = .ok (.iaload, 1) := by decide +kernel
theorem dX7_turnsOf_16 : decode cX7_turnsOf 16 = .ok (.iconst 0, 1) := by decide +kernel
theorem dX7_turnsOf_17 : decode cX7_turnsOf 17 = .ok (.aload_n 0, 1) := by decide +kernel
theorem dX7_turnsOf_18 : decode cX7_turnsOf 18 = .ok (.invokevirtual 188, 3) := by decide +kernel
theorem dX7_turnsOf_21 : decode cX7_turnsOf 21 = .ok (.invokestatic 163, 3) := by decide +kernel
theorem dX7_turnsOf_24 : decode cX7_turnsOf 24 = .ok (.laload, 1) := by decide +kernel
theorem dX7_turnsOf_25 : decode cX7_turnsOf 25 = .ok (.lreturn, 1) := by decide +kernel
theorem dX7_findTurns_0 : decode cX7_findTurns 0 = .ok (.aload_n 0, 1) := by decide +kernel
theorem dX7_findTurns_1 : decode cX7_findTurns 1 = .ok (.invokevirtual 154, 3) := by decide +kernel
theorem dX7_findTurns_4 : decode cX7_findTurns 4 = .ok (.aload_n 0, 1) := by decide +kernel
theorem dX7_findTurns_5 : decode cX7_findTurns 5 = .ok (.aload_n 0, 1) := by decide +kernel
theorem dX7_findTurns_6 : decode cX7_findTurns 6 = .ok (.invokevirtual 188, 3) := by decide +kernel
theorem dX7_findTurns_9 : decode cX7_findTurns 9 = .ok (.aload_n 0, 1) := by decide +kernel
theorem dX7_findTurns_10 : decode cX7_findTurns 10 = .ok (.getfield 19, 3) := by decide +kernel
theorem dX7_findTurns_13 : decode cX7_findTurns 13 = .ok (.iconst 1, 1) := by decide +kernel
theorem dX7_findTurns_14 : decode cX7_findTurns 14 = .ok (.iaload, 1) := by decide +kernel
theorem dX7_findTurns_15 : decode cX7_findTurns 15 = .ok (.aload_n 0, 1) := by decide +kernel
theorem dX7_findTurns_16 : decode cX7_findTurns 16 = .ok (.getfield 19, 3) := by decide +kernel
theorem dX7_findTurns_19 : decode cX7_findTurns 19 = .ok (.iconst 2, 1) := by decide +kernel
theorem dX7_findTurns_20 : decode cX7_findTurns 20 = .ok (.iaload, 1) := by decide +kernel
theorem dX7_findTurns_21 : decode cX7_findTurns 21 = .ok (.invokevirtual 181, 3) := by decide +kernel
theorem dX7_findTurns_24 : decode cX7_findTurns 24 = .ok (.return_, 1) := by decide +kernel
theorem dX7_turns_0 : decode cX7_turns 0 = .ok (.aload_n 0, 1) := by decide +kernel
theorem dX7_turns_1 : decode cX7_turns 1 = .ok (.invokevirtual 191, 3) := by decide +kernel
theorem dX7_turns_4 : decode cX7_turns 4 = .ok (.ifCond .ne 10, 3) := by decide +kernel
theorem dX7_turns_7 : decode cX7_turns 7 = .ok (.aload_n 0, 1) := by decide +kernel
theorem dX7_turns_8 : decode cX7_turns 8 = .ok (.bipush (-3), 2) := by decide +kernel
theorem dX7_turns_10 : decode cX7_turns 10 = .ok (.invokevirtual 150, 3) := by decide +kernel
theorem dX7_turns_13 : decode cX7_turns 13 = .ok (.lreturn, 1) := by decide +kernel
theorem dX7_turns_14 : decode cX7_turns 14 = .ok (.aload_n 0, 1) := by decide +kernel
theorem dX7_turns_15 : decode cX7_turns 15 = .ok (.invokevirtual 194, 3) := by decide +kernel
theorem dX7_turns_18 : decode cX7_turns 18 = .ok (.aload_n 0, 1) := by decide +kernel
theorem dX7_turns_19 : decode cX7_turns 19 = .ok (.invokevirtual 197, 3) := by decide +kernel
theorem dX7_turns_22 : decode cX7_turns 22 = .ok (.lreturn, 1) := by decide +kernel
theorem dX7_findLine_0 : decode cX7_findLine 0 = .ok (.aload_n 0, 1) := by decide +kernel
theorem dX7_findLine_1 : decode cX7_findLine 1 = .ok (.invokevirtual 194, 3) := by decide +kernel
theorem dX7_findLine_4 : decode cX7_findLine 4 = .ok (.aload_n 0, 1) := by decide +kernel
theorem dX7_findLine_5 : decode cX7_findLine 5 = .ok (.iconst 0, 1) := by decide +kernel
theorem dX7_findLine_6 : decode cX7_findLine 6 = .ok (.putfield 201, 3) := by decide +kernel
theorem dX7_findLine_9 : decode cX7_findLine 9 = .ok (.aload_n 0, 1) := by decide +kernel
theorem dX7_findLine_10 : decode cX7_findLine 10 = .ok (.aload_n 0, 1) := by decide +kernel
theorem dX7_findLine_11 : decode cX7_findLine 11 = .ok (.invokevirtual 188, 3) := by decide +kernel
theorem dX7_findLine_14 : decode cX7_findLine 14 = .ok (.putfield 204, 3) := by decide +kernel
theorem dX7_findLine_17 : decode cX7_findLine 17 = .ok (.aload_n 0, 1) := by decide +kernel
theorem dX7_findLine_18 : decode cX7_findLine 18 = .ok (.getfield 19, 3) := by decide +kernel
theorem dX7_findLine_21 : decode cX7_findLine 21 = .ok (.iconst 1, 1) := by decide +kernel
theorem dX7_findLine_22 : decode cX7_findLine 22 = .ok (.iaload, 1) := by decide +kernel
theorem dX7_findLine_23 : decode cX7_findLine 23 = .ok (.istore_n 1, 1) := by decide +kernel
theorem dX7_findLine_24 : decode cX7_findLine 24 = .ok (.aload_n 0, 1) := by decide +kernel
theorem dX7_findLine_25 : decode cX7_findLine 25 = .ok (.getfield 19, 3) := by decide +kernel
theorem dX7_findLine_28 : decode cX7_findLine 28 = .ok (.iconst 2, 1) := by decide +kernel
theorem dX7_findLine_29 : decode cX7_findLine 29 = .ok (.iaload, 1) := by decide +kernel
theorem dX7_findLine_30 : decode cX7_findLine 30 = .ok (.istore_n 2, 1) := by decide +kernel
theorem dX7_findLine_31 : decode cX7_findLine 31 = .ok (.iconst 0, 1) := by decide +kernel
theorem dX7_findLine_32 : decode cX7_findLine 32 = .ok (.istore_n 3, 1) := by decide +kernel
theorem dX7_findLine_33 : decode cX7_findLine 33 = .ok (.iload_n 1, 1) := by decide +kernel
theorem dX7_findLine_34 : decode cX7_findLine 34 = .ok (.iload_n 2, 1) := by decide +kernel
theorem dX7_findLine_35 : decode cX7_findLine 35 = .ok (.iadd, 1) := by decide +kernel
theorem dX7_findLine_36 : decode cX7_findLine 36 = .ok (.ifCond .le 82, 3) := by decide +kernel
theorem dX7_findLine_39 : decode cX7_findLine 39 = .ok (.iload_n 1, 1) := by decide +kernel
theorem dX7_findLine_40 : decode cX7_findLine 40 = .ok (.iload_n 2, 1) := by decide +kernel
theorem dX7_findLine_41 : decode cX7_findLine 41 = .ok (.iload_n 3, 1) := by decide +kernel
theorem dX7_findLine_42 : decode cX7_findLine 42 = .ok (.invokestatic 171, 3) := by decide +kernel
theorem dX7_findLine_45 : decode cX7_findLine 45 = .ok (.istore 4, 2) := by decide +kernel
theorem dX7_findLine_47 : decode cX7_findLine 47 = .ok (.aload_n 0, 1) := by decide +kernel
theorem dX7_findLine_48 : decode cX7_findLine 48 = .ok (.iload_n 1, 1) := by decide +kernel
theorem dX7_findLine_49 : decode cX7_findLine 49 = .ok (.iload_n 2, 1) := by decide +kernel
theorem dX7_findLine_50 : decode cX7_findLine 50 = .ok (.iload_n 3, 1) := by decide +kernel
theorem dX7_findLine_51 : decode cX7_findLine 51 = .ok (.aload_n 0, 1) := by decide +kernel
theorem dX7_findLine_52 : decode cX7_findLine 52 = .ok (.getfield 204, 3) := by decide +kernel
theorem dX7_findLine_55 : decode cX7_findLine 55 = .ok (.invokevirtual 185, 3) := by decide +kernel
theorem dX7_findLine_58 : decode cX7_findLine 58 = .ok (.istore 5, 2) := by decide +kernel
theorem dX7_findLine_60 : decode cX7_findLine 60 = .ok (.aload_n 0, 1) := by decide +kernel
theorem dX7_findLine_61 : decode cX7_findLine 61 = .ok (.getfield 48, 3) := by decide +kernel
theorem dX7_findLine_64 : decode cX7_findLine 64 = .ok (.aload_n 0, 1) := by decide +kernel
theorem dX7_findLine_65 : decode cX7_findLine 65 = .ok (.getfield 201, 3) := by decide +kernel
theorem dX7_findLine_68 : decode cX7_findLine 68 = .ok (.iload 5, 2) := by decide +kernel
theorem dX7_findLine_70 : decode cX7_findLine 70 = .ok (.iastore, 1) := by decide +kernel
theorem dX7_findLine_71 : decode cX7_findLine 71 = .ok (.aload_n 0, 1) := by decide +kernel
theorem dX7_findLine_72 : decode cX7_findLine 72 = .ok (.dup, 1) := by decide +kernel
theorem dX7_findLine_73 : decode cX7_findLine 73 = .ok (.getfield 201, 3) := by decide +kernel
theorem dX7_findLine_76 : decode cX7_findLine 76 = .ok (.iconst 1, 1) := by decide +kernel
theorem dX7_findLine_77 : decode cX7_findLine 77 = .ok (.iadd, 1) := by decide +kernel
theorem dX7_findLine_78 : decode cX7_findLine 78 = .ok (.putfield 201, 3) := by decide +kernel
theorem dX7_findLine_81 : decode cX7_findLine 81 = .ok (.aload_n 0, 1) := by decide +kernel
theorem dX7_findLine_82 : decode cX7_findLine 82 = .ok (.dup, 1) := by decide +kernel
theorem dX7_findLine_83 : decode cX7_findLine 83 = .ok (.getfield 204, 3) := by decide +kernel
theorem dX7_findLine_86 : decode cX7_findLine 86 = .ok (.iconst 1, 1) := by decide +kernel
theorem dX7_findLine_87 : decode cX7_findLine 87 = .ok (.iload 5, 2) := by decide +kernel
theorem dX7_findLine_89 : decode cX7_findLine 89 = .ok (.ishl, 1) := by decide +kernel
theorem dX7_findLine_90 : decode cX7_findLine 90 = .ok (.iconst (-1), 1) := by decide +kernel
theorem dX7_findLine_91 : decode cX7_findLine 91 = .ok (.ixor, 1) := by decide +kernel
theorem dX7_findLine_92 : decode cX7_findLine 92 = .ok (.iand, 1) := by decide +kernel
theorem dX7_findLine_93 : decode cX7_findLine 93 = .ok (.putfield 204, 3) := by decide +kernel
theorem dX7_findLine_96 : decode cX7_findLine 96 = .ok (.iload 4, 2) := by decide +kernel
theorem dX7_findLine_98 : decode cX7_findLine 98 = .ok (.ifCond .ne 9, 3) := by decide +kernel
theorem dX7_findLine_101 : decode cX7_findLine 101 = .ok (.iinc 1 (-1), 3) := by decide +kernel
theorem dX7_findLine_104 : decode cX7_findLine 104 = .ok (.goto 6, 3) := by decide +kernel
theorem dX7_findLine_107 : decode cX7_findLine 107 = .ok (.iinc 2 (-1), 3) := by decide +kernel
theorem dX7_findLine_110 : decode cX7_findLine 110 = .ok (.iconst 1, 1) := by decide +kernel
theorem dX7_findLine_111 : decode cX7_findLine 111 = .ok (.iload 4, 2) := by decide +kernel
theorem dX7_findLine_113 : decode cX7_findLine 113 = .ok (.isub, 1) := by decide +kernel
theorem dX7_findLine_114 : decode cX7_findLine 114 = .ok (.istore_n 3, 1) := by decide +kernel
theorem dX7_findLine_115 : decode cX7_findLine 115 = .ok (.goto (-82), 3) := by decide +kernel
theorem dX7_findLine_118 : decode cX7_findLine 118 = .ok (.return_, 1) := by decide +kernel
theorem dX7_order_0 : decode cX7_order 0 = .ok (.aload_n 0, 1) := by decide +kernel
theorem dX7_order_1 : decode cX7_order 1 = .ok (.invokevirtual 191, 3) := by decide +kernel
theorem dX7_order_4 : decode cX7_order 4 = .ok (.ifCond .ne 10, 3) := by decide +kernel
theorem dX7_order_7 : decode cX7_order 7 = .ok (.aload_n 0, 1) := by decide +kernel
theorem dX7_order_8 : decode cX7_order 8 = .ok (.bipush (-3), 2) := by decide +kernel
theorem dX7_order_10 : decode cX7_order 10 = .ok (.invokevirtual 79, 3) := by decide +kernel
theorem dX7_order_13 : decode cX7_order 13 = .ok (.ireturn, 1) := by decide +kernel
theorem dX7_order_14 : decode cX7_order 14 = .ok (.aload_n 0, 1) := by decide +kernel
theorem dX7_order_15 : decode cX7_order 15 = .ok (.invokevirtual 207, 3) := by decide +kernel
theorem dX7_order_18 : decode cX7_order 18 = .ok (.iload_n 1, 1) := by decide +kernel
theorem dX7_order_19 : decode cX7_order 19 = .ok (.iconst 0, 1) := by decide +kernel
theorem dX7_order_20 : decode cX7_order 20 = .ok (.aload_n 0, 1) := by decide +kernel
theorem dX7_order_21 : decode cX7_order 21 = .ok (.getfield 201, 3) := by decide +kernel
theorem dX7_order_24 : decode cX7_order 24 = .ok (.iconst 1, 1) := by decide +kernel
theorem dX7_order_25 : decode cX7_order 25 = .ok (.isub, 1) := by decide +kernel
theorem dX7_order_26 : decode cX7_order 26 = .ok (.invokestatic 87, 3) := by decide +kernel
theorem dX7_order_29 : decode cX7_order 29 = .ok (.ifCond .eq 12, 3) := by decide +kernel
theorem dX7_order_32 : decode cX7_order 32 = .ok (.aload_n 0, 1) := by decide +kernel
theorem dX7_order_33 : decode cX7_order 33 = .ok (.getfield 48, 3) := by decide +kernel
theorem dX7_order_36 : decode cX7_order 36 = .ok (.iload_n 1, 1) := by decide +kernel
theorem dX7_order_37 : decode cX7_order 37 = .ok (.iaload, 1) := by decide +kernel
theorem dX7_order_38 : decode cX7_order 38 = .ok (.goto 5, 3) := by decide +kernel
theorem dX7_order_41 : decode cX7_order 41 = .ok (.bipush (-9), 2) := by decide +kernel
theorem dX7_order_43 : decode cX7_order 43 = .ok (.ireturn, 1) := by decide +kernel
theorem dX7_put_0 : decode cX7_put 0 = .ok (.iload_n 1, 1) := by decide +kernel
theorem dX7_put_1 : decode cX7_put 1 = .ok (.iconst 0, 1) := by decide +kernel
theorem dX7_put_2 : decode cX7_put 2 = .ok (.bipush 11, 2) := by decide +kernel
theorem dX7_put_4 : decode cX7_put 4 = .ok (.invokestatic 91, 3) := by decide +kernel
theorem dX7_put_7 : decode cX7_put 7 = .ok (.istore_n 2, 1) := by decide +kernel
theorem dX7_put_8 : decode cX7_put 8 = .ok (.iload_n 2, 1) := by decide +kernel
theorem dX7_put_9 : decode cX7_put 9 = .ok (.ifCond .ne 15, 3) := by decide +kernel
theorem dX7_put_12 : decode cX7_put 12 = .ok (.aload_n 0, 1) := by decide +kernel
theorem dX7_put_13 : decode cX7_put 13 = .ok (.getfield 210, 3) := by decide +kernel
theorem dX7_put_16 : decode cX7_put 16 = .ok (.bipush 6, 2) := by decide +kernel
theorem dX7_put_18 : decode cX7_put 18 = .ok (.if_icmp .ne 6, 3) := by decide +kernel
theorem dX7_put_21 : decode cX7_put 21 = .ok (.bipush (-6), 2) := by decide +kernel
theorem dX7_put_23 : decode cX7_put 23 = .ok (.istore_n 2, 1) := by decide +kernel
theorem dX7_put_24 : decode cX7_put 24 = .ok (.iload_n 2, 1) := by decide +kernel
theorem dX7_put_25 : decode cX7_put 25 = .ok (.ifCond .eq 9, 3) := by decide +kernel
theorem dX7_put_28 : decode cX7_put 28 = .ok (.aload_n 0, 1) := by decide +kernel
theorem dX7_put_29 : decode cX7_put 29 = .ok (.iload_n 2, 1) := by decide +kernel
theorem dX7_put_30 : decode cX7_put 30 = .ok (.invokevirtual 79, 3) := by decide +kernel
theorem dX7_put_33 : decode cX7_put 33 = .ok (.ireturn, 1) := by decide +kernel
theorem dX7_put_34 : decode cX7_put 34 = .ok (.aload_n 0, 1) := by decide +kernel
theorem dX7_put_35 : decode cX7_put 35 = .ok (.getfield 51, 3) := by decide +kernel
theorem dX7_put_38 : decode cX7_put 38 = .ok (.aload_n 0, 1) := by decide +kernel
theorem dX7_put_39 : decode cX7_put 39 = .ok (.getfield 210, 3) := by decide +kernel
theorem dX7_put_42 : decode cX7_put 42 = .ok (.iload_n 1, 1) := by decide +kernel
theorem dX7_put_43 : decode cX7_put 43 = .ok (.iastore, 1) := by decide +kernel
theorem dX7_put_44 : decode cX7_put 44 = .ok (.aload_n 0, 1) := by decide +kernel
theorem dX7_put_45 : decode cX7_put 45 = .ok (.dup, 1) := by decide +kernel
theorem dX7_put_46 : decode cX7_put 46 = .ok (.getfield 210, 3) := by decide +kernel
theorem dX7_put_49 : decode cX7_put 49 = .ok (.iconst 1, 1) := by decide +kernel
theorem dX7_put_50 : decode cX7_put 50 = .ok (.iadd, 1) := by decide +kernel
theorem dX7_put_51 : decode cX7_put 51 = .ok (.putfield 210, 3) := by decide +kernel
theorem dX7_put_54 : decode cX7_put 54 = .ok (.aload_n 0, 1) := by decide +kernel
theorem dX7_put_55 : decode cX7_put 55 = .ok (.getfield 210, 3) := by decide +kernel
theorem dX7_put_58 : decode cX7_put 58 = .ok (.ireturn, 1) := by decide +kernel
theorem dX7_unput_0 : decode cX7_unput 0 = .ok (.aload_n 0, 1) := by decide +kernel
theorem dX7_unput_1 : decode cX7_unput 1 = .ok (.getfield 210, 3) := by decide +kernel
theorem dX7_unput_4 : decode cX7_unput 4 = .ok (.istore_n 1, 1) := by decide +kernel
theorem dX7_unput_5 : decode cX7_unput 5 = .ok (.aload_n 0, 1) := by decide +kernel
theorem dX7_unput_6 : decode cX7_unput 6 = .ok (.iconst 0, 1) := by decide +kernel
theorem dX7_unput_7 : decode cX7_unput 7 = .ok (.putfield 210, 3) := by decide +kernel
theorem dX7_unput_10 : decode cX7_unput 10 = .ok (.iload_n 1, 1) := by decide +kernel
theorem dX7_unput_11 : decode cX7_unput 11 = .ok (.ireturn, 1) := by decide +kernel
theorem dX7_isLawful_0 : decode cX7_isLawful 0 = .ok (.aload_n 0, 1) := by decide +kernel
theorem dX7_isLawful_1 : decode cX7_isLawful 1 = .ok (.invokevirtual 188, 3) := by decide +kernel
theorem dX7_isLawful_4 : decode cX7_isLawful 4 = .ok (.istore_n 1, 1) := by decide +kernel
theorem dX7_isLawful_5 : decode cX7_isLawful 5 = .ok (.iconst 0, 1) := by decide +kernel
theorem dX7_isLawful_6 : decode cX7_isLawful 6 = .ok (.istore_n 2, 1) := by decide +kernel
theorem dX7_isLawful_7 : decode cX7_isLawful 7 = .ok (.iload_n 2, 1) := by decide +kernel
theorem dX7_isLawful_8 : decode cX7_isLawful 8 = .ok (.aload_n 0, 1) := by decide +kernel
theorem dX7_isLawful_9 : decode cX7_isLawful 9 = .ok (.getfield 210, 3) := by decide +kernel
theorem dX7_isLawful_12 : decode cX7_isLawful 12 = .ok (.if_icmp .ge 37, 3) := by decide +kernel
theorem dX7_isLawful_15 : decode cX7_isLawful 15 = .ok (.iload_n 1, 1) := by decide +kernel
theorem dX7_isLawful_16 : decode cX7_isLawful 16 = .ok (.aload_n 0, 1) := by decide +kernel
theorem dX7_isLawful_17 : decode cX7_isLawful 17 = .ok (.getfield 51, 3) := by decide +kernel
theorem dX7_isLawful_20 : decode cX7_isLawful 20 = .ok (.iload_n 2, 1) := by decide +kernel
theorem dX7_isLawful_21 : decode cX7_isLawful 21 = .ok (.iaload, 1) := by decide +kernel
theorem dX7_isLawful_22 : decode cX7_isLawful 22 = .ok (.ishr, 1) := by decide +kernel
theorem dX7_isLawful_23 : decode cX7_isLawful 23 = .ok (.iconst 1, 1) := by decide +kernel
theorem dX7_isLawful_24 : decode cX7_isLawful 24 = .ok (.iand, 1) := by decide +kernel
theorem dX7_isLawful_25 : decode cX7_isLawful 25 = .ok (.ifCond .ne 5, 3) := by decide +kernel
theorem dX7_isLawful_28 : decode cX7_isLawful 28 = .ok (.iconst 0, 1) := by decide +kernel
theorem dX7_isLawful_29 : decode cX7_isLawful 29 = .ok (.ireturn, 1) := by decide +kernel
theorem dX7_isLawful_30 : decode cX7_isLawful 30 = .ok (.iload_n 1, 1) := by decide +kernel
theorem dX7_isLawful_31 : decode cX7_isLawful 31 = .ok (.iconst 1, 1) := by decide +kernel
theorem dX7_isLawful_32 : decode cX7_isLawful 32 = .ok (.aload_n 0, 1) := by decide +kernel
theorem dX7_isLawful_33 : decode cX7_isLawful 33 = .ok (.getfield 51, 3) := by decide +kernel
theorem dX7_isLawful_36 : decode cX7_isLawful 36 = .ok (.iload_n 2, 1) := by decide +kernel
theorem dX7_isLawful_37 : decode cX7_isLawful 37 = .ok (.iaload, 1) := by decide +kernel
theorem dX7_isLawful_38 : decode cX7_isLawful 38 = .ok (.ishl, 1) := by decide +kernel
theorem dX7_isLawful_39 : decode cX7_isLawful 39 = .ok (.iconst (-1), 1) := by decide +kernel
theorem dX7_isLawful_40 : decode cX7_isLawful 40 = .ok (.ixor, 1) := by decide +kernel
theorem dX7_isLawful_41 : decode cX7_isLawful 41 = .ok (.iand, 1) := by decide +kernel
theorem dX7_isLawful_42 : decode cX7_isLawful 42 = .ok (.istore_n 1, 1) := by decide +kernel
theorem dX7_isLawful_43 : decode cX7_isLawful 43 = .ok (.iinc 2 1, 3) := by decide +kernel
theorem dX7_isLawful_46 : decode cX7_isLawful 46 = .ok (.goto (-39), 3) := by decide +kernel
theorem dX7_isLawful_49 : decode cX7_isLawful 49 = .ok (.aload_n 0, 1) := by decide +kernel
theorem dX7_isLawful_50 : decode cX7_isLawful 50 = .ok (.getfield 210, 3) := by decide +kernel
theorem dX7_isLawful_53 : decode cX7_isLawful 53 = .ok (.aload_n 0, 1) := by decide +kernel
theorem dX7_isLawful_54 : decode cX7_isLawful 54 = .ok (.getfield 19, 3) := by decide +kernel
theorem dX7_isLawful_57 : decode cX7_isLawful 57 = .ok (.iconst 1, 1) := by decide +kernel
theorem dX7_isLawful_58 : decode cX7_isLawful 58 = .ok (.iaload, 1) := by decide +kernel
theorem dX7_isLawful_59 : decode cX7_isLawful 59 = .ok (.aload_n 0, 1) := by decide +kernel
theorem dX7_isLawful_60 : decode cX7_isLawful 60 = .ok (.getfield 19, 3) := by decide +kernel
theorem dX7_isLawful_63 : decode cX7_isLawful 63 = .ok (.iconst 2, 1) := by decide +kernel
theorem dX7_isLawful_64 : decode cX7_isLawful 64 = .ok (.iaload, 1) := by decide +kernel
theorem dX7_isLawful_65 : decode cX7_isLawful 65 = .ok (.iadd, 1) := by decide +kernel
theorem dX7_isLawful_66 : decode cX7_isLawful 66 = .ok (.if_icmp .ne 7, 3) := by decide +kernel
theorem dX7_isLawful_69 : decode cX7_isLawful 69 = .ok (.iconst 1, 1) := by decide +kernel
theorem dX7_isLawful_70 : decode cX7_isLawful 70 = .ok (.goto 4, 3) := by decide +kernel
theorem dX7_isLawful_73 : decode cX7_isLawful 73 = .ok (.iconst 0, 1) := by decide +kernel
theorem dX7_isLawful_74 : decode cX7_isLawful 74 = .ok (.ireturn, 1) := by decide +kernel
theorem dX7_lawful_0 : decode cX7_lawful 0 = .ok (.aload_n 0, 1) := by decide +kernel
theorem dX7_lawful_1 : decode cX7_lawful 1 = .ok (.invokevirtual 191, 3) := by decide +kernel
theorem dX7_lawful_4 : decode cX7_lawful 4 = .ok (.ifCond .ne 10, 3) := by decide +kernel
theorem dX7_lawful_7 : decode cX7_lawful 7 = .ok (.aload_n 0, 1) := by decide +kernel
theorem dX7_lawful_8 : decode cX7_lawful 8 = .ok (.bipush (-3), 2) := by decide +kernel
theorem dX7_lawful_10 : decode cX7_lawful 10 = .ok (.invokevirtual 79, 3) := by decide +kernel
theorem dX7_lawful_13 : decode cX7_lawful 13 = .ok (.ireturn, 1) := by decide +kernel
theorem dX7_lawful_14 : decode cX7_lawful 14 = .ok (.aload_n 0, 1) := by decide +kernel
theorem dX7_lawful_15 : decode cX7_lawful 15 = .ok (.invokevirtual 213, 3) := by decide +kernel
theorem dX7_lawful_18 : decode cX7_lawful 18 = .ok (.ifCond .eq 7, 3) := by decide +kernel
