theorem dX9_attempt_0 : decode cX9_attempt 0 = .ok (.aload_n 0, 1) := by decide +kernel
theorem dX9_attempt_1 : decode cX9_attempt 1 = .ok (.getfield 10, 3) := by decide +kernel
theorem dX9_attempt_4 : decode cX9_attempt 4 = .ok (.getfield 127, 3) := by decide +kernel
theorem dX9_attempt_7 : decode cX9_attempt 7 = .ok (.aload_n 0, 1) := by decide +kernel
theorem dX9_attempt_8 : decode cX9_attempt 8 = .ok (.getfield 130, 3) := by decide +kernel
theorem dX9_attempt_11 : decode cX9_attempt 11 = .ok (.isub, 1) := by decide +kernel
theorem dX9_attempt_12 : decode cX9_attempt 12 = .ok (.sipush 300, 3) := by decide +kernel
theorem dX9_attempt_15 : decode cX9_attempt 15 = .ok (.if_icmp .lt 6, 3) := by decide +kernel
theorem dX9_attempt_18 : decode cX9_attempt 18 = .ok (.bipush (-6), 2) := by decide +kernel
theorem dX9_attempt_20 : decode cX9_attempt 20 = .ok (.ireturn, 1) := by decide +kernel
theorem dX9_attempt_21 : decode cX9_attempt 21 = .ok (.iload_n 1, 1) := by decide +kernel
theorem dX9_attempt_22 : decode cX9_attempt 22 = .ok (.tableswitch 214 37 62 #[153, 214, 214, 214, 214, 214, 164, 130, 142, 118, 214, 214, 214, 214, 214, 214, 214, 214, 214, 214, 214, 214, 214, 201, 176, 188], 118) := by decide +kernel
theorem dX9_attempt_140 : decode cX9_attempt 140 = .ok (.aload_n 0, 1) := by decide +kernel
theorem dX9_attempt_141 : decode cX9_attempt 141 = .ok (.getfield 10, 3) := by decide +kernel
theorem dX9_attempt_144 : decode cX9_attempt 144 = .ok (.iconst 0, 1) := by decide +kernel
theorem dX9_attempt_145 : decode cX9_attempt 145 = .ok (.invokevirtual 41, 3) := by decide +kernel
theorem dX9_attempt_148 : decode cX9_attempt 148 = .ok (.istore_n 3, 1) := by decide +kernel
theorem dX9_attempt_149 : decode cX9_attempt 149 = .ok (.goto 96, 3) := by decide +kernel
theorem dX9_attempt_152 : decode cX9_attempt 152 = .ok (.aload_n 0, 1) := by decide +kernel
theorem dX9_attempt_153 : decode cX9_attempt 153 = .ok (.getfield 10, 3) := by decide +kernel
theorem dX9_attempt_156 : decode cX9_attempt 156 = .ok (.iconst 1, 1) := by decide +kernel
theorem dX9_attempt_157 : decode cX9_attempt 157 = .ok (.invokevirtual 41, 3) := by decide +kernel
theorem dX9_attempt_160 : decode cX9_attempt 160 = .ok (.istore_n 3, 1) := by decide +kernel
theorem dX9_attempt_161 : decode cX9_attempt 161 = .ok (.goto 84, 3) := by decide +kernel
theorem dX9_attempt_164 : decode cX9_attempt 164 = .ok (.aload_n 0, 1) := by decide +kernel
theorem dX9_attempt_165 : decode cX9_attempt 165 = .ok (.getfield 10, 3) := by decide +kernel
theorem dX9_attempt_168 : decode cX9_attempt 168 = .ok (.invokevirtual 56, 3) := by decide +kernel
theorem dX9_attempt_171 : decode cX9_attempt 171 = .ok (.istore_n 3, 1) := by decide +kernel
theorem dX9_attempt_172 : decode cX9_attempt 172 = .ok (.goto 73, 3) := by decide +kernel
theorem dX9_attempt_175 : decode cX9_attempt 175 = .ok (.aload_n 0, 1) := by decide +kernel
theorem dX9_attempt_176 : decode cX9_attempt 176 = .ok (.getfield 10, 3) := by decide +kernel
theorem dX9_attempt_179 : decode cX9_attempt 179 = .ok (.invokevirtual 67, 3) := by decide +kernel
theorem dX9_attempt_182 : decode cX9_attempt 182 = .ok (.istore_n 3, 1) := by decide +kernel
theorem dX9_attempt_183 : decode cX9_attempt 183 = .ok (.goto 62, 3) := by decide +kernel
theorem dX9_attempt_186 : decode cX9_attempt 186 = .ok (.aload_n 0, 1) := by decide +kernel
theorem dX9_attempt_187 : decode cX9_attempt 187 = .ok (.getfield 10, 3) := by decide +kernel
theorem dX9_attempt_190 : decode cX9_attempt 190 = .ok (.iload_n 2, 1) := by decide +kernel
theorem dX9_attempt_191 : decode cX9_attempt 191 = .ok (.invokevirtual 49, 3) := by decide +kernel
theorem dX9_attempt_194 : decode cX9_attempt 194 = .ok (.istore_n 3, 1) := by decide +kernel
theorem dX9_attempt_195 : decode cX9_attempt 195 = .ok (.goto 50, 3) := by decide +kernel
theorem dX9_attempt_198 : decode cX9_attempt 198 = .ok (.aload_n 0, 1) := by decide +kernel
theorem dX9_attempt_199 : decode cX9_attempt 199 = .ok (.getfield 10, 3) := by decide +kernel
theorem dX9_attempt_202 : decode cX9_attempt 202 = .ok (.iload_n 2, 1) := by decide +kernel
theorem dX9_attempt_203 : decode cX9_attempt 203 = .ok (.invokevirtual 53, 3) := by decide +kernel
theorem dX9_attempt_206 : decode cX9_attempt 206 = .ok (.istore_n 3, 1) := by decide +kernel
theorem dX9_attempt_207 : decode cX9_attempt 207 = .ok (.goto 38, 3) := by decide +kernel
theorem dX9_attempt_210 : decode cX9_attempt 210 = .ok (.aload_n 0, 1) := by decide +kernel
theorem dX9_attempt_211 : decode cX9_attempt 211 = .ok (.getfield 10, 3) := by decide +kernel
theorem dX9_attempt_214 : decode cX9_attempt 214 = .ok (.iload_n 2, 1) := by decide +kernel
theorem dX9_attempt_215 : decode cX9_attempt 215 = .ok (.iconst 0, 1) := by decide +kernel
theorem dX9_attempt_216 : decode cX9_attempt 216 = .ok (.invokevirtual 63, 3) := by decide +kernel
theorem dX9_attempt_219 : decode cX9_attempt 219 = .ok (.istore_n 3, 1) := by decide +kernel
theorem dX9_attempt_220 : decode cX9_attempt 220 = .ok (.goto 25, 3) := by decide +kernel
theorem dX9_attempt_223 : decode cX9_attempt 223 = .ok (.aload_n 0, 1) := by decide +kernel
theorem dX9_attempt_224 : decode cX9_attempt 224 = .ok (.getfield 10, 3) := by decide +kernel
theorem dX9_attempt_227 : decode cX9_attempt 227 = .ok (.iload_n 2, 1) := by decide +kernel
theorem dX9_attempt_228 : decode cX9_attempt 228 = .ok (.iconst 1, 1) := by decide +kernel
theorem dX9_attempt_229 : decode cX9_attempt 229 = .ok (.invokevirtual 63, 3) := by decide +kernel
theorem dX9_attempt_232 : decode cX9_attempt 232 = .ok (.istore_n 3, 1) := by decide +kernel
theorem dX9_attempt_233 : decode cX9_attempt 233 = .ok (.goto 12, 3) := by decide +kernel
theorem dX9_attempt_236 : decode cX9_attempt 236 = .ok (.aload_n 0, 1) := by decide +kernel
theorem dX9_attempt_237 : decode cX9_attempt 237 = .ok (.getfield 10, 3) := by decide +kernel
theorem dX9_attempt_240 : decode cX9_attempt 240 = .ok (.iload_n 2, 1) := by decide +kernel
theorem dX9_attempt_241 : decode cX9_attempt 241 = .ok (.invokevirtual 60, 3) := by decide +kernel
theorem dX9_attempt_244 : decode cX9_attempt 244 = .ok (.istore_n 3, 1) := by decide +kernel
theorem dX9_attempt_245 : decode cX9_attempt 245 = .ok (.iload_n 3, 1) := by decide +kernel
theorem dX9_attempt_246 : decode cX9_attempt 246 = .ok (.ifCond .ge 7, 3) := by decide +kernel
theorem dX9_attempt_249 : decode cX9_attempt 249 = .ok (.iload_n 3, 1) := by decide +kernel
theorem dX9_attempt_250 : decode cX9_attempt 250 = .ok (.goto 4, 3) := by decide +kernel
theorem dX9_attempt_253 : decode cX9_attempt 253 = .ok (.iconst 0, 1) := by decide +kernel
theorem dX9_attempt_254 : decode cX9_attempt 254 = .ok (.ireturn, 1) := by decide +kernel
theorem dX10_thrown_0 : decode cX10_thrown 0 = .ok (.aload_n 0, 1) := by decide +kernel
theorem dX10_thrown_1 : decode cX10_thrown 1 = .ok (.getfield 1, 3) := by decide +kernel
theorem dX10_thrown_4 : decode cX10_thrown 4 = .ok (.ireturn, 1) := by decide +kernel
theorem dX10_in_0 : decode cX10_in 0 = .ok (.iload_n 0, 1) := by decide +kernel
theorem dX10_in_1 : decode cX10_in 1 = .ok (.iload_n 1, 1) := by decide +kernel
theorem dX10_in_2 : decode cX10_in 2 = .ok (.if_icmp .lt 12, 3) := by decide +kernel
theorem dX10_in_5 : decode cX10_in 5 = .ok (.iload_n 0, 1) := by decide +kernel
theorem dX10_in_6 : decode cX10_in 6 = .ok (.iload_n 2, 1) := by decide +kernel
theorem dX10_in_7 : decode cX10_in 7 = .ok (.if_icmp .gt 7, 3) := by decide +kernel
theorem dX10_in_10 : decode cX10_in 10 = .ok (.iconst 1, 1) := by decide +kernel
theorem dX10_in_11 : decode cX10_in 11 = .ok (.goto 4, 3) := by decide +kernel
theorem dX10_in_14 : decode cX10_in 14 = .ok (.iconst 0, 1) := by decide +kernel
theorem dX10_in_15 : decode cX10_in 15 = .ok (.ireturn, 1) := by decide +kernel
theorem dX10_fails_0 : decode cX10_fails 0 = .ok (.iload_n 1, 1) := by decide +kernel
theorem dX10_fails_1 : decode cX10_fails 1 = .ok (.ifCond .ne 15, 3) := by decide +kernel
theorem dX10_fails_4 : decode cX10_fails 4 = .ok (.aload_n 0, 1) := by decide +kernel
theorem dX10_fails_5 : decode cX10_fails 5 = .ok (.getfield 1, 3) := by decide +kernel
theorem dX10_fails_8 : decode cX10_fails 8 = .ok (.ifCond .ne 8, 3) := by decide +kernel
theorem dX10_fails_11 : decode cX10_fails 11 = .ok (.aload_n 0, 1) := by decide +kernel
theorem dX10_fails_12 : decode cX10_fails 12 = .ok (.iload_n 2, 1) := by decide +kernel
theorem dX10_fails_13 : decode cX10_fails 13 = .ok (.putfield 1, 3) := by decide +kernel
theorem dX10_fails_16 : decode cX10_fails 16 = .ok (.aload_n 0, 1) := by decide +kernel
theorem dX10_fails_17 : decode cX10_fails 17 = .ok (.getfield 1, 3) := by decide +kernel
theorem dX10_fails_20 : decode cX10_fails 20 = .ok (.ifCond .eq 7, 3) := by decide +kernel
theorem dX10_fails_23 : decode cX10_fails 23 = .ok (.iconst 1, 1) := by decide +kernel
theorem dX10_fails_24 : decode cX10_fails 24 = .ok (.goto 4, 3) := by decide +kernel
theorem dX10_fails_27 : decode cX10_fails 27 = .ok (.iconst 0, 1) := by decide +kernel
theorem dX10_fails_28 : decode cX10_fails 28 = .ok (.ireturn, 1) := by decide +kernel
theorem dX10_init_0 : decode cX10_init 0 = .ok (.aload_n 0, 1) := by decide +kernel
theorem dX10_init_1 : decode cX10_init 1 = .ok (.invokespecial 7, 3) := by decide +kernel
theorem dX10_init_4 : decode cX10_init 4 = .ok (.aload_n 0, 1) := by decide +kernel
theorem dX10_init_5 : decode cX10_init 5 = .ok (.bipush 101, 2) := by decide +kernel
theorem dX10_init_7 : decode cX10_init 7 = .ok (.newarray .int, 2) := by decide +kernel
theorem dX10_init_9 : decode cX10_init 9 = .ok (.putfield 13, 3) := by decide +kernel
theorem dX10_init_12 : decode cX10_init 12 = .ok (.aload_n 0, 1) := by decide +kernel
theorem dX10_init_13 : decode cX10_init 13 = .ok (.bipush 101, 2) := by decide +kernel
theorem dX10_init_15 : decode cX10_init 15 = .ok (.newarray .int, 2) := by decide +kernel
theorem dX10_init_17 : decode cX10_init 17 = .ok (.putfield 17, 3) := by decide +kernel
theorem dX10_init_20 : decode cX10_init 20 = .ok (.aload_n 0, 1) := by decide +kernel
theorem dX10_init_21 : decode cX10_init 21 = .ok (.bipush 6, 2) := by decide +kernel
theorem dX10_init_23 : decode cX10_init 23 = .ok (.newarray .int, 2) := by decide +kernel
theorem dX10_init_25 : decode cX10_init 25 = .ok (.putfield 20, 3) := by decide +kernel
theorem dX10_init_28 : decode cX10_init 28 = .ok (.aload_n 0, 1) := by decide +kernel
theorem dX10_init_29 : decode cX10_init 29 = .ok (.sipush 5000, 3) := by decide +kernel
theorem dX10_init_32 : decode cX10_init 32 = .ok (.newarray .int, 2) := by decide +kernel
theorem dX10_init_34 : decode cX10_init 34 = .ok (.putfield 23, 3) := by decide +kernel
theorem dX10_init_37 : decode cX10_init 37 = .ok (.aload_n 0, 1) := by decide +kernel
theorem dX10_init_38 : decode cX10_init 38 = .ok (.bipush 50, 2) := by decide +kernel
theorem dX10_init_40 : decode cX10_init 40 = .ok (.newarray .int, 2) := by decide +kernel
theorem dX10_init_42 : decode cX10_init 42 = .ok (.putfield 26, 3) := by decide +kernel
theorem dX10_init_45 : decode cX10_init 45 = .ok (.aload_n 0, 1) := by decide +kernel
theorem dX10_init_46 : decode cX10_init 46 = .ok (.bipush 50, 2) := by decide +kernel
theorem dX10_init_48 : decode cX10_init 48 = .ok (.newarray .int, 2) := by decide +kernel
theorem dX10_init_50 : decode cX10_init 50 = .ok (.putfield 29, 3) := by decide +kernel
theorem dX10_init_53 : decode cX10_init 53 = .ok (.aload_n 0, 1) := by decide +kernel
theorem dX10_init_54 : decode cX10_init 54 = .ok (.sipush 300, 3) := by decide +kernel
theorem dX10_init_57 : decode cX10_init 57 = .ok (.newarray .int, 2) := by decide +kernel
theorem dX10_init_59 : decode cX10_init 59 = .ok (.putfield 32, 3) := by decide +kernel
theorem dX10_init_62 : decode cX10_init 62 = .ok (.aload_n 0, 1) := by decide +kernel
theorem dX10_init_63 : decode cX10_init 63 = .ok (.iconst (-1), 1) := by decide +kernel
theorem dX10_init_64 : decode cX10_init 64 = .ok (.putfield 35, 3) := by decide +kernel
theorem dX10_init_67 : decode cX10_init 67 = .ok (.aload_n 0, 1) := by decide +kernel
theorem dX10_init_68 : decode cX10_init 68 = .ok (.bipush 100, 2) := by decide +kernel
theorem dX10_init_70 : decode cX10_init 70 = .ok (.newarray .int, 2) := by decide +kernel
theorem dX10_init_72 : decode cX10_init 72 = .ok (.putfield 38, 3) := by decide +kernel
theorem dX10_init_75 : decode cX10_init 75 = .ok (.aload_n 0, 1) := by decide +kernel
theorem dX10_init_76 : decode cX10_init 76 = .ok (.sipush 300, 3) := by decide +kernel
theorem dX10_init_79 : decode cX10_init 79 = .ok (.newarray .int, 2) := by decide +kernel
theorem dX10_init_81 : decode cX10_init 81 = .ok (.putfield 41, 3) := by decide +kernel
theorem dX10_init_84 : decode cX10_init 84 = .ok (.aload_n 0, 1) := by decide +kernel
theorem dX10_init_85 : decode cX10_init 85 = .ok (.sipush 300, 3) := by decide +kernel
theorem dX10_init_88 : decode cX10_init 88 = .ok (.newarray .int, 2) := by decide +kernel
theorem dX10_init_90 : decode cX10_init 90 = .ok (.putfield 44, 3) := by decide +kernel
theorem dX10_init_93 : decode cX10_init 93 = .ok (.aload_n 0, 1) := by decide +kernel
theorem dX10_init_94 : decode cX10_init 94 = .ok (.sipush 300, 3) := by decide +kernel
theorem dX10_init_97 : decode cX10_init 97 = .ok (.newarray .int, 2) := by decide +kernel
theorem dX10_init_99 : decode cX10_init 99 = .ok (.putfield 47, 3) := by decide +kernel
theorem dX10_init_102 : decode cX10_init 102 = .ok (.aload_n 0, 1) := by decide +kernel
theorem dX10_init_103 : decode cX10_init 103 = .ok (.iconst 4, 1) := by decide +kernel
theorem dX10_init_104 : decode cX10_init 104 = .ok (.newarray .int, 2) := by decide +kernel
theorem dX10_init_106 : decode cX10_init 106 = .ok (.putfield 50, 3) := by decide +kernel
theorem dX10_init_109 : decode cX10_init 109 = .ok (.aload_n 0, 1) := by decide +kernel
theorem dX10_init_110 : decode cX10_init 110 = .ok (.iconst 4, 1) := by decide +kernel
theorem dX10_init_111 : decode cX10_init 111 = .ok (.newarray .int, 2) := by decide +kernel
theorem dX10_init_113 : decode cX10_init 113 = .ok (.putfield 53, 3) := by decide +kernel
theorem dX10_init_116 : decode cX10_init 116 = .ok (.aload_n 0, 1) := by decide +kernel
theorem dX10_init_117 : decode cX10_init 117 = .ok (.iconst 4, 1) := by decide +kernel
theorem dX10_init_118 : decode cX10_init 118 = .ok (.newarray .int, 2) := by decide +kernel
theorem dX10_init_120 : decode cX10_init 120 = .ok (.putfield 56, 3) := by decide +kernel
theorem dX10_init_123 : decode cX10_init 123 = .ok (.aload_n 0, 1) := by decide +kernel
theorem dX10_init_124 : decode cX10_init 124 = .ok (.sipush 720, 3) := by decide +kernel
theorem dX10_init_127 : decode cX10_init 127 = .ok (.newarray .int, 2) := by decide +kernel
theorem dX10_init_129 : decode cX10_init 129 = .ok (.putfield 59, 3) := by decide +kernel
theorem dX10_init_132 : decode cX10_init 132 = .ok (.return_, 1) := by decide +kernel
theorem dX10_letters_0 : decode cX10_letters 0 = .ok (.iconst 0, 1) := by decide +kernel
theorem dX10_letters_1 : decode cX10_letters 1 = .ok (.istore_n 1, 1) := by decide +kernel
theorem dX10_letters_2 : decode cX10_letters 2 = .ok (.iload_n 0, 1) := by decide +kernel
theorem dX10_letters_3 : decode cX10_letters 3 = .ok (.istore_n 2, 1) := by decide +kernel
theorem dX10_letters_4 : decode cX10_letters 4 = .ok (.iload_n 2, 1) := by decide +kernel
theorem dX10_letters_5 : decode cX10_letters 5 = .ok (.ifCond .le 14, 3) := by decide +kernel
theorem dX10_letters_8 : decode cX10_letters 8 = .ok (.iinc 1 1, 3) := by decide +kernel
theorem dX10_letters_11 : decode cX10_letters 11 = .ok (.iload_n 2, 1) := by decide +kernel
theorem dX10_letters_12 : decode cX10_letters 12 = .ok (.bipush 27, 2) := by decide +kernel
theorem dX10_letters_14 : decode cX10_letters 14 = .ok (.idiv, 1) := by decide +kernel
theorem dX10_letters_15 : decode cX10_letters 15 = .ok (.istore_n 2, 1) := by decide +kernel
theorem dX10_letters_16 : decode cX10_letters 16 = .ok (.goto (-12), 3) := by decide +kernel
theorem dX10_letters_19 : decode cX10_letters 19 = .ok (.iload_n 1, 1) := by decide +kernel
theorem dX10_letters_20 : decode cX10_letters 20 = .ok (.ireturn, 1) := by decide +kernel
theorem dX10_isWord_0 : decode cX10_isWord 0 = .ok (.iload_n 0, 1) := by decide +kernel
theorem dX10_isWord_1 : decode cX10_isWord 1 = .ok (.istore_n 1, 1) := by decide +kernel
theorem dX10_isWord_2 : decode cX10_isWord 2 = .ok (.iload_n 1, 1) := by decide +kernel
theorem dX10_isWord_3 : decode cX10_isWord 3 = .ok (.ifCond .le 20, 3) := by decide +kernel
theorem dX10_isWord_6 : decode cX10_isWord 6 = .ok (.iload_n 1, 1) := by decide +kernel
theorem dX10_isWord_7 : decode cX10_isWord 7 = .ok (.bipush 27, 2) := by decide +kernel
theorem dX10_isWord_9 : decode cX10_isWord 9 = .ok (.irem, 1) := by decide +kernel
theorem dX10_isWord_10 : decode cX10_isWord 10 = .ok (.ifCond .ne 5, 3) := by decide +kernel
theorem dX10_isWord_13 : decode cX10_isWord 13 = .ok (.iconst 0, 1) := by decide +kernel
theorem dX10_isWord_14 : decode cX10_isWord 14 = .ok (.ireturn, 1) := by decide +kernel
theorem dX10_isWord_15 : decode cX10_isWord 15 = .ok (.iload_n 1, 1) := by decide +kernel
theorem dX10_isWord_16 : decode cX10_isWord 16 = .ok (.bipush 27, 2) := by decide +kernel
theorem dX10_isWord_18 : decode cX10_isWord 18 = .ok (.idiv, 1) := by decide +kernel
theorem dX10_isWord_19 : decode cX10_isWord 19 = .ok (.istore_n 1, 1) := by decide +kernel
theorem dX10_isWord_20 : decode cX10_isWord 20 = .ok (.goto (-18), 3) := by decide +kernel
theorem dX10_isWord_23 : decode cX10_isWord 23 = .ok (.iload_n 0, 1) := by decide +kernel
theorem dX10_isWord_24 : decode cX10_isWord 24 = .ok (.invokestatic 62, 3) := by decide +kernel
theorem dX10_isWord_27 : decode cX10_isWord 27 = .ok (.iconst 1, 1) := by decide +kernel
theorem dX10_isWord_28 : decode cX10_isWord 28 = .ok (.bipush 6, 2) := by decide +kernel
theorem dX10_isWord_30 : decode cX10_isWord 30 = .ok (.invokestatic 66, 3) := by decide +kernel
theorem dX10_isWord_33 : decode cX10_isWord 33 = .ok (.ireturn, 1) := by decide +kernel
theorem dX10_noWord_0 : decode cX10_noWord 0 = .ok (.aload_n 0, 1) := by decide +kernel
theorem dX10_noWord_1 : decode cX10_noWord 1 = .ok (.iload_n 1, 1) := by decide +kernel
theorem dX10_noWord_2 : decode cX10_noWord 2 = .ok (.invokestatic 70, 3) := by decide +kernel
theorem dX10_noWord_5 : decode cX10_noWord 5 = .ok (.iconst 1, 1) := by decide +kernel
theorem dX10_noWord_6 : decode cX10_noWord 6 = .ok (.invokevirtual 74, 3) := by decide +kernel
theorem dX10_noWord_9 : decode cX10_noWord 9 = .ok (.ireturn, 1) := by decide +kernel
theorem dX10_refuses_0 : decode cX10_refuses 0 = .ok (.aload_n 0, 1) := by decide +kernel
theorem dX10_refuses_1 : decode cX10_refuses 1 = .ok (.getfield 20, 3) := by decide +kernel
theorem dX10_refuses_4 : decode cX10_refuses 4 = .ok (.iconst 0, 1) := by decide +kernel
theorem dX10_refuses_5 : decode cX10_refuses 5 = .ok (.iload_n 1, 1) := by decide +kernel
theorem dX10_refuses_6 : decode cX10_refuses 6 = .ok (.isub, 1) := by decide +kernel
theorem dX10_refuses_7 : decode cX10_refuses 7 = .ok (.dup2, 1) := by decide +kernel
theorem dX10_refuses_8 : decode cX10_refuses 8 = .ok (.iaload, 1) := by decide +kernel
theorem dX10_refuses_9 : decode cX10_refuses 9 = .ok (.iconst 1, 1) := by decide +kernel
theorem dX10_refuses_10 : decode cX10_refuses 10 = .ok (.iadd, 1) := by decide +kernel
theorem dX10_refuses_11 : decode cX10_refuses 11 = .ok (.iastore, 1) := by decide +kernel
theorem dX10_refuses_12 : decode cX10_refuses 12 = .ok (.iload_n 1, 1) := by decide +kernel
theorem dX10_refuses_13 : decode cX10_refuses 13 = .ok (.ireturn, 1) := by decide +kernel
theorem dX10_keeps_0 : decode cX10_keeps 0 = .ok (.aload_n 0, 1) := by decide +kernel
theorem dX10_keeps_1 : decode cX10_keeps 1 = .ok (.getfield 78, 3) := by decide +kernel
theorem dX10_keeps_4 : decode cX10_keeps 4 = .ok (.bipush 50, 2) := by decide +kernel
theorem dX10_keeps_6 : decode cX10_keeps 6 = .ok (.if_icmp .ne 99, 3) := by decide +kernel
theorem dX10_keeps_9 : decode cX10_keeps 9 = .ok (.aload_n 0, 1) := by decide +kernel
theorem dX10_keeps_10 : decode cX10_keeps 10 = .ok (.dup, 1) := by decide +kernel
theorem dX10_keeps_11 : decode cX10_keeps 11 = .ok (.getfield 78, 3) := by decide +kernel
theorem dX10_keeps_14 : decode cX10_keeps 14 = .ok (.iconst 1, 1) := by decide +kernel
theorem dX10_keeps_15 : decode cX10_keeps 15 = .ok (.isub, 1) := by decide +kernel
theorem dX10_keeps_16 : decode cX10_keeps 16 = .ok (.putfield 78, 3) := by decide +kernel
theorem dX10_keeps_19 : decode cX10_keeps 19 = .ok (.iconst 0, 1) := by decide +kernel
theorem dX10_keeps_20 : decode cX10_keeps 20 = .ok (.istore_n 1, 1) := by decide +kernel
theorem dX10_keeps_21 : decode cX10_keeps 21 = .ok (.iload_n 1, 1) := by decide +kernel
theorem dX10_keeps_22 : decode cX10_keeps 22 = .ok (.aload_n 0, 1) := by decide +kernel
theorem dX10_keeps_23 : decode cX10_keeps 23 = .ok (.getfield 78, 3) := by decide +kernel
theorem dX10_keeps_26 : decode cX10_keeps 26 = .ok (.if_icmp .ge 79, 3) := by decide +kernel
theorem dX10_keeps_29 : decode cX10_keeps 29 = .ok (.aload_n 0, 1) := by decide +kernel
theorem dX10_keeps_30 : decode cX10_keeps 30 = .ok (.getfield 26, 3) := by decide +kernel
theorem dX10_keeps_33 : decode cX10_keeps 33 = .ok (.iload_n 1, 1) := by decide +kernel
theorem dX10_keeps_34 : decode cX10_keeps 34 = .ok (.aload_n 0, 1) := by decide +kernel
theorem dX10_keeps_35 : decode cX10_keeps 35 = .ok (.getfield 26, 3) := by decide +kernel
theorem dX10_keeps_38 : decode cX10_keeps 38 = .ok (.iload_n 1, 1) := by decide +kernel
theorem dX10_keeps_39 : decode cX10_keeps 39 = .ok (.iconst 1, 1) := by decide +kernel
theorem dX10_keeps_40 : decode cX10_keeps 40 = .ok (.iadd, 1) := by decide +kernel
theorem dX10_keeps_41 : decode cX10_keeps 41 = .ok (.iaload, 1) := by decide +kernel
theorem dX10_keeps_42 : decode cX10_keeps 42 = .ok (.iastore, 1) := by decide +kernel
theorem dX10_keeps_43 : decode cX10_keeps 43 = .ok (.aload_n 0, 1) := by decide +kernel
theorem dX10_keeps_44 : decode cX10_keeps 44 = .ok (.getfield 29, 3) := by decide +kernel
theorem dX10_keeps_47 : decode cX10_keeps 47 = .ok (.iload_n 1, 1) := by decide +kernel
theorem dX10_keeps_48 : decode cX10_keeps 48 = .ok (.aload_n 0, 1) := by decide +kernel
theorem dX10_keeps_49 : decode cX10_keeps 49 = .ok (.getfield 29, 3) := by decide +kernel
theorem dX10_keeps_52 : decode cX10_keeps 52 = .ok (.iload_n 1, 1) := by decide +kernel
theorem dX10_keeps_53 : decode cX10_keeps 53 = .ok (.iconst 1, 1) := by decide +kernel
theorem dX10_keeps_54 : decode cX10_keeps 54 = .ok (.iadd, 1) := by decide +kernel
theorem dX10_keeps_55 : decode cX10_keeps 55 = .ok (.iaload, 1) := by decide +kernel
theorem dX10_keeps_56 : decode cX10_keeps 56 = .ok (.iastore, 1) := by decide +kernel
theorem dX10_keeps_57 : decode cX10_keeps 57 = .ok (.iconst 0, 1) := by decide +kernel
theorem dX10_keeps_58 : decode cX10_keeps 58 = .ok (.istore_n 2, 1) := by decide +kernel
theorem dX10_keeps_59 : decode cX10_keeps 59 = .ok (.iload_n 2, 1) := by decide +kernel
theorem dX10_keeps_60 : decode cX10_keeps 60 = .ok (.aload_n 0, 1) := by decide +kernel
theorem dX10_keeps_61 : decode cX10_keeps 61 = .ok (.getfield 29, 3) := by decide +kernel
theorem dX10_keeps_64 : decode cX10_keeps 64 = .ok (.iload_n 1, 1) := by decide +kernel
theorem dX10_keeps_65 : decode cX10_keeps 65 = .ok (.iaload, 1) := by decide +kernel
theorem dX10_keeps_66 : decode cX10_keeps 66 = .ok (.if_icmp .ge 33, 3) := by decide +kernel
theorem dX10_keeps_69 : decode cX10_keeps 69 = .ok (.aload_n 0, 1) := by decide +kernel
theorem dX10_keeps_70 : decode cX10_keeps 70 = .ok (.getfield 23, 3) := by decide +kernel
theorem dX10_keeps_73 : decode cX10_keeps 73 = .ok (.bipush 100, 2) := by decide +kernel
theorem dX10_keeps_75 : decode cX10_keeps 75 = .ok (.iload_n 1, 1) := by decide +kernel
theorem dX10_keeps_76 : decode cX10_keeps 76 = .ok (.imul, 1) := by decide +kernel
theorem dX10_keeps_77 : decode cX10_keeps 77 = .ok (.iload_n 2, 1) := by decide +kernel
theorem dX10_keeps_78 : decode cX10_keeps 78 = .ok (.iadd, 1) := by decide +kernel
theorem dX10_keeps_79 : decode cX10_keeps 79 = .ok (.aload_n 0, 1) := by decide +kernel
theorem dX10_keeps_80 : decode cX10_keeps 80 = .ok (.getfield 23, 3) := by decide +kernel
theorem dX10_keeps_83 : decode cX10_keeps 83 = .ok (.bipush 100, 2) := by decide +kernel
theorem dX10_keeps_85 : decode cX10_keeps 85 = .ok (.iload_n 1, 1) := by decide +kernel
theorem dX10_keeps_86 : decode cX10_keeps 86 = .ok (.iconst 1, 1) := by decide +kernel
theorem dX10_keeps_87 : decode cX10_keeps 87 = .ok (.iadd, 1) := by decide +kernel
theorem dX10_keeps_88 : decode cX10_keeps 88 = .ok (.imul, 1) := by decide +kernel
theorem dX10_keeps_89 : decode cX10_keeps 89 = .ok (.iload_n 2, 1) := by decide +kernel
theorem dX10_keeps_90 : decode cX10_keeps 90 = .ok (.iadd, 1) := by decide +kernel
theorem dX10_keeps_91 : decode cX10_keeps 91 = .ok (.iaload, 1) := by decide +kernel
theorem dX10_keeps_92 : decode cX10_keeps 92 = .ok (.iastore, 1) := by decide +kernel
theorem dX10_keeps_93 : decode cX10_keeps 93 = .ok (.iinc 2 1, 3) := by decide +kernel
theorem dX10_keeps_96 : decode cX10_keeps 96 = .ok (.goto (-37), 3) := by decide +kernel
theorem dX10_keeps_99 : decode cX10_keeps 99 = .ok (.iinc 1 1, 3) := by decide +kernel
theorem dX10_keeps_102 : decode cX10_keeps 102 = .ok (.goto (-81), 3) := by decide +kernel
theorem dX10_keeps_105 : decode cX10_keeps 105 = .ok (.aload_n 0, 1) := by decide +kernel
theorem dX10_keeps_106 : decode cX10_keeps 106 = .ok (.getfield 26, 3) := by decide +kernel
theorem dX10_keeps_109 : decode cX10_keeps 109 = .ok (.aload_n 0, 1) := by decide +kernel
theorem dX10_keeps_110 : decode cX10_keeps 110 = .ok (.getfield 78, 3) := by decide +kernel
theorem dX10_keeps_113 : decode cX10_keeps 113 = .ok (.aload_n 0, 1) := by decide +kernel
theorem dX10_keeps_114 : decode cX10_keeps 114 = .ok (.getfield 81, 3) := by decide +kernel
theorem dX10_keeps_117 : decode cX10_keeps 117 = .ok (.iastore, 1) := by decide +kernel
theorem dX10_keeps_118 : decode cX10_keeps 118 = .ok (.aload_n 0, 1) := by decide +kernel
theorem dX10_keeps_119 : decode cX10_keeps 119 = .ok (.getfield 29, 3) := by decide +kernel
theorem dX10_keeps_122 : decode cX10_keeps 122 = .ok (.aload_n 0, 1) := by decide +kernel
theorem dX10_keeps_123 : decode cX10_keeps 123 = .ok (.getfield 78, 3) := by decide +kernel
theorem dX10_keeps_126 : decode cX10_keeps 126 = .ok (.aload_n 0, 1) := by decide +kernel
theorem dX10_keeps_127 : decode cX10_keeps 127 = .ok (.invokevirtual 84, 3) := by decide +kernel
theorem dX10_keeps_130 : decode cX10_keeps 130 = .ok (.iastore, 1) := by decide +kernel
theorem dX10_keeps_131 : decode cX10_keeps 131 = .ok (.iconst 0, 1) := by decide +kernel
theorem dX10_keeps_132 : decode cX10_keeps 132 = .ok (.istore_n 1, 1) := by decide +kernel
theorem dX10_keeps_133 : decode cX10_keeps 133 = .ok (.iload_n 1, 1) := by decide +kernel
theorem dX10_keeps_134 : decode cX10_keeps 134 = .ok (.aload_n 0, 1) := by decide +kernel
theorem dX10_keeps_135 : decode cX10_keeps 135 = .ok (.invokevirtual 84, 3) := by decide +kernel
theorem dX10_keeps_138 : decode cX10_keeps 138 = .ok (.if_icmp .ge 28, 3) := by decide +kernel
theorem dX10_keeps_141 : decode cX10_keeps 141 = .ok (.aload_n 0, 1) := by decide +kernel
theorem dX10_keeps_142 : decode cX10_keeps 142 = .ok (.getfield 23, 3) := by decide +kernel
theorem dX10_keeps_145 : decode cX10_keeps 145 = .ok (.bipush 100, 2) := by decide +kernel
theorem dX10_keeps_147 : decode cX10_keeps 147 = .ok (.aload_n 0, 1) := by decide +kernel
theorem dX10_keeps_148 : decode cX10_keeps 148 = .ok (.getfield 78, 3) := by decide +kernel
theorem dX10_keeps_151 : decode cX10_keeps 151 = .ok (.imul, 1) := by decide +kernel
theorem dX10_keeps_152 : decode cX10_keeps 152 = .ok (.iload_n 1, 1) := by decide +kernel
theorem dX10_keeps_153 : decode cX10_keeps 153 = .ok (.iadd, 1) := by decide +kernel
theorem dX10_keeps_154 : decode cX10_keeps 154 = .ok (.aload_n 0, 1) := by decide +kernel
theorem dX10_keeps_155 : decode cX10_keeps 155 = .ok (.iload_n 1, 1) := by decide +kernel
theorem dX10_keeps_156 : decode cX10_keeps 156 = .ok (.invokevirtual 88, 3) := by decide +kernel
theorem dX10_keeps_159 : decode cX10_keeps 159 = .ok (.iastore, 1) := by decide +kernel
theorem dX10_keeps_160 : decode cX10_keeps 160 = .ok (.iinc 1 1, 3) := by decide +kernel
theorem dX10_keeps_163 : decode cX10_keeps 163 = .ok (.goto (-30), 3) := by decide +kernel
theorem dX10_keeps_166 : decode cX10_keeps 166 = .ok (.aload_n 0, 1) := by decide +kernel
theorem dX10_keeps_167 : decode cX10_keeps 167 = .ok (.dup, 1) := by decide +kernel
theorem dX10_keeps_168 : decode cX10_keeps 168 = .ok (.getfield 78, 3) := by decide +kernel
theorem dX10_keeps_171 : decode cX10_keeps 171 = .ok (.iconst 1, 1) := by decide +kernel
theorem dX10_keeps_172 : decode cX10_keeps 172 = .ok (.iadd, 1) := by decide +kernel
theorem dX10_keeps_173 : decode cX10_keeps 173 = .ok (.putfield 78, 3) := by decide +kernel
theorem dX10_keeps_176 : decode cX10_keeps 176 = .ok (.aload_n 0, 1) := by decide +kernel
theorem dX10_keeps_177 : decode cX10_keeps 177 = .ok (.dup, 1) := by decide +kernel
theorem dX10_keeps_178 : decode cX10_keeps 178 = .ok (.getfield 91, 3) := by decide +kernel
theorem dX10_keeps_181 : decode cX10_keeps 181 = .ok (.iconst 1, 1) := by decide +kernel
theorem dX10_keeps_182 : decode cX10_keeps 182 = .ok (.iadd, 1) := by decide +kernel
theorem dX10_keeps_183 : decode cX10_keeps 183 = .ok (.putfield 91, 3) := by decide +kernel
theorem dX10_keeps_186 : decode cX10_keeps 186 = .ok (.return_, 1) := by decide +kernel
theorem dX10_many_0 : decode cX10_many 0 = .ok (.aload_n 0, 1) := by decide +kernel
theorem dX10_many_1 : decode cX10_many 1 = .ok (.getfield 81, 3) := by decide +kernel
theorem dX10_many_4 : decode cX10_many 4 = .ok (.aload_n 0, 1) := by decide +kernel
theorem dX10_many_5 : decode cX10_many 5 = .ok (.getfield 94, 3) := by decide +kernel
theorem dX10_many_8 : decode cX10_many 8 = .ok (.iadd, 1) := by decide +kernel
theorem dX10_many_9 : decode cX10_many 9 = .ok (.ireturn, 1) := by decide +kernel
theorem dX10_wordIn_0 : decode cX10_wordIn 0 = .ok (.iload_n 1, 1) := by decide +kernel
theorem dX10_wordIn_1 : decode cX10_wordIn 1 = .ok (.aload_n 0, 1) := by decide +kernel
theorem dX10_wordIn_2 : decode cX10_wordIn 2 = .ok (.getfield 81, 3) := by decide +kernel
theorem dX10_wordIn_5 : decode cX10_wordIn 5 = .ok (.if_icmp .ge 12, 3) := by decide +kernel
theorem dX10_wordIn_8 : decode cX10_wordIn 8 = .ok (.aload_n 0, 1) := by decide +kernel
theorem dX10_wordIn_9 : decode cX10_wordIn 9 = .ok (.getfield 13, 3) := by decide +kernel
theorem dX10_wordIn_12 : decode cX10_wordIn 12 = .ok (.iload_n 1, 1) := by decide +kernel
theorem dX10_wordIn_13 : decode cX10_wordIn 13 = .ok (.iaload, 1) := by decide +kernel
theorem dX10_wordIn_14 : decode cX10_wordIn 14 = .ok (.goto 21, 3) := by decide +kernel
theorem dX10_wordIn_17 : decode cX10_wordIn 17 = .ok (.aload_n 0, 1) := by decide +kernel
theorem dX10_wordIn_18 : decode cX10_wordIn 18 = .ok (.getfield 17, 3) := by decide +kernel
theorem dX10_wordIn_21 : decode cX10_wordIn 21 = .ok (.aload_n 0, 1) := by decide +kernel
theorem dX10_wordIn_22 : decode cX10_wordIn 22 = .ok (.getfield 94, 3) := by decide +kernel
theorem dX10_wordIn_25 : decode cX10_wordIn 25 = .ok (.iconst 1, 1) := by decide +kernel
theorem dX10_wordIn_26 : decode cX10_wordIn 26 = .ok (.isub, 1) := by decide +kernel
theorem dX10_wordIn_27 : decode cX10_wordIn 27 = .ok (.iload_n 1, 1) := by decide +kernel
theorem dX10_wordIn_28 : decode cX10_wordIn 28 = .ok (.aload_n 0, 1) := by decide +kernel
theorem dX10_wordIn_29 : decode cX10_wordIn 29 = .ok (.getfield 81, 3) := by decide +kernel
theorem dX10_wordIn_32 : decode cX10_wordIn 32 = .ok (.isub, 1) := by decide +kernel
theorem dX10_wordIn_33 : decode cX10_wordIn 33 = .ok (.isub, 1) := by decide +kernel
theorem dX10_wordIn_34 : decode cX10_wordIn 34 = .ok (.iaload, 1) := by decide +kernel
theorem dX10_wordIn_35 : decode cX10_wordIn 35 = .ok (.ireturn, 1) := by decide +kernel
theorem dX10_goesOn_0 : decode cX10_goesOn 0 = .ok (.aload_n 0, 1) := by decide +kernel
theorem dX10_goesOn_1 : decode cX10_goesOn 1 = .ok (.dup, 1) := by decide +kernel
theorem dX10_goesOn_2 : decode cX10_goesOn 2 = .ok (.getfield 94, 3) := by decide +kernel
theorem dX10_goesOn_5 : decode cX10_goesOn 5 = .ok (.iconst 1, 1) := by decide +kernel
theorem dX10_goesOn_6 : decode cX10_goesOn 6 = .ok (.isub, 1) := by decide +kernel
theorem dX10_goesOn_7 : decode cX10_goesOn 7 = .ok (.putfield 94, 3) := by decide +kernel
theorem dX10_goesOn_10 : decode cX10_goesOn 10 = .ok (.aload_n 0, 1) := by decide +kernel
theorem dX10_goesOn_11 : decode cX10_goesOn 11 = .ok (.getfield 13, 3) := by decide +kernel
theorem dX10_goesOn_14 : decode cX10_goesOn 14 = .ok (.aload_n 0, 1) := by decide +kernel
theorem dX10_goesOn_15 : decode cX10_goesOn 15 = .ok (.getfield 81, 3) := by decide +kernel
theorem dX10_goesOn_18 : decode cX10_goesOn 18 = .ok (.aload_n 0, 1) := by decide +kernel
theorem dX10_goesOn_19 : decode cX10_goesOn 19 = .ok (.getfield 17, 3) := by decide +kernel
theorem dX10_goesOn_22 : decode cX10_goesOn 22 = .ok (.aload_n 0, 1) := by decide +kernel
theorem dX10_goesOn_23 : decode cX10_goesOn 23 = .ok (.getfield 94, 3) := by decide +kernel
theorem dX10_goesOn_26 : decode cX10_goesOn 26 = .ok (.iaload, 1) := by decide +kernel
theorem dX10_goesOn_27 : decode cX10_goesOn 27 = .ok (.iastore, 1) := by decide +kernel
theorem dX10_goesOn_28 : decode cX10_goesOn 28 = .ok (.aload_n 0, 1) := by decide +kernel
theorem dX10_goesOn_29 : decode cX10_goesOn 29 = .ok (.dup, 1) := by decide +kernel
theorem dX10_goesOn_30 : decode cX10_goesOn 30 = .ok (.getfield 81, 3) := by decide +kernel
theorem dX10_goesOn_33 : decode cX10_goesOn 33 = .ok (.iconst 1, 1) := by decide +kernel
theorem dX10_goesOn_34 : decode cX10_goesOn 34 = .ok (.iadd, 1) := by decide +kernel
theorem dX10_goesOn_35 : decode cX10_goesOn 35 = .ok (.putfield 81, 3) := by decide +kernel
theorem dX10_goesOn_38 : decode cX10_goesOn 38 = .ok (.return_, 1) := by decide +kernel
theorem dX10_goesBack_0 : decode cX10_goesBack 0 = .ok (.aload_n 0, 1) := by decide +kernel
theorem dX10_goesBack_1 : decode cX10_goesBack 1 = .ok (.dup, 1) := by decide +kernel
theorem dX10_goesBack_2 : decode cX10_goesBack 2 = .ok (.getfield 81, 3) := by decide +kernel
theorem dX10_goesBack_5 : decode cX10_goesBack 5 = .ok (.iconst 1, 1) := by decide +kernel
theorem dX10_goesBack_6 : decode cX10_goesBack 6 = .ok (.isub, 1) := by decide +kernel
theorem dX10_goesBack_7 : decode cX10_goesBack 7 = .ok (.putfield 81, 3) := by decide +kernel
theorem dX10_goesBack_10 : decode cX10_goesBack 10 = .ok (.aload_n 0, 1) := by decide +kernel
theorem dX10_goesBack_11 : decode cX10_goesBack 11 = .ok (.getfield 17, 3) := by decide +kernel
theorem dX10_goesBack_14 : decode cX10_goesBack 14 = .ok (.aload_n 0, 1) := by decide +kernel
theorem dX10_goesBack_15 : decode cX10_goesBack 15 = .ok (.getfield 94, 3) := by decide +kernel
theorem dX10_goesBack_18 : decode cX10_goesBack 18 = .ok (.aload_n 0, 1) := by decide +kernel
theorem dX10_goesBack_19 : decode cX10_goesBack 19 = .ok (.getfield 13, 3) := by decide +kernel
theorem dX10_goesBack_22 : decode cX10_goesBack 22 = .ok (.aload_n 0, 1) := by decide +kernel
theorem dX10_goesBack_23 : decode cX10_goesBack 23 = .ok (.getfield 81, 3) := by decide +kernel
theorem dX10_goesBack_26 : decode cX10_goesBack 26 = .ok (.iaload, 1) := by decide +kernel
theorem dX10_goesBack_27 : decode cX10_goesBack 27 = .ok (.iastore, 1) := by decide +kernel
theorem dX10_goesBack_28 : decode cX10_goesBack 28 = .ok (.aload_n 0, 1) := by decide +kernel
theorem dX10_goesBack_29 : decode cX10_goesBack 29 = .ok (.dup, 1) := by decide +kernel
theorem dX10_goesBack_30 : decode cX10_goesBack 30 = .ok (.getfield 94, 3) := by decide +kernel
theorem dX10_goesBack_33 : decode cX10_goesBack 33 = .ok (.iconst 1, 1) := by decide +kernel
theorem dX10_goesBack_34 : decode cX10_goesBack 34 = .ok (.iadd, 1) := by decide +kernel
theorem dX10_goesBack_35 : decode cX10_goesBack 35 = .ok (.putfield 94, 3) := by decide +kernel
theorem dX10_goesBack_38 : decode cX10_goesBack 38 = .ok (.return_, 1) := by decide +kernel
theorem dX10_goesTo_0 : decode cX10_goesTo 0 = .ok (.aload_n 0, 1) := by decide +kernel
theorem dX10_goesTo_1 : decode cX10_goesTo 1 = .ok (.getfield 81, 3) := by decide +kernel
theorem dX10_goesTo_4 : decode cX10_goesTo 4 = .ok (.iload_n 1, 1) := by decide +kernel
theorem dX10_goesTo_5 : decode cX10_goesTo 5 = .ok (.if_icmp .ge 10, 3) := by decide +kernel
theorem dX10_goesTo_8 : decode cX10_goesTo 8 = .ok (.aload_n 0, 1) := by decide +kernel
theorem dX10_goesTo_9 : decode cX10_goesTo 9 = .ok (.invokevirtual 97, 3) := by decide +kernel
theorem dX10_goesTo_12 : decode cX10_goesTo 12 = .ok (.goto (-12), 3) := by decide +kernel
theorem dX10_goesTo_15 : decode cX10_goesTo 15 = .ok (.aload_n 0, 1) := by decide +kernel
theorem dX10_goesTo_16 : decode cX10_goesTo 16 = .ok (.getfield 81, 3) := by decide +kernel
theorem dX10_goesTo_19 : decode cX10_goesTo 19 = .ok (.iload_n 1, 1) := by decide +kernel
theorem dX10_goesTo_20 : decode cX10_goesTo 20 = .ok (.if_icmp .le 10, 3) := by decide +kernel
theorem dX10_goesTo_23 : decode cX10_goesTo 23 = .ok (.aload_n 0, 1) := by decide +kernel
theorem dX10_goesTo_24 : decode cX10_goesTo 24 = .ok (.invokevirtual 100, 3) := by decide +kernel
theorem dX10_goesTo_27 : decode cX10_goesTo 27 = .ok (.goto (-12), 3) := by decide +kernel
theorem dX10_goesTo_30 : decode cX10_goesTo 30 = .ok (.return_, 1) := by decide +kernel
theorem dX10_passes_0 : decode cX10_passes 0 = .ok (.aload_n 0, 1) := by decide +kernel
theorem dX10_passes_1 : decode cX10_passes 1 = .ok (.getfield 94, 3) := by decide +kernel
theorem dX10_passes_4 : decode cX10_passes 4 = .ok (.ifCond .ne 10, 3) := by decide +kernel
theorem dX10_passes_7 : decode cX10_passes 7 = .ok (.aload_n 0, 1) := by decide +kernel
theorem dX10_passes_8 : decode cX10_passes 8 = .ok (.bipush (-2), 2) := by decide +kernel
theorem dX10_passes_10 : decode cX10_passes 10 = .ok (.invokevirtual 103, 3) := by decide +kernel
theorem dX10_passes_13 : decode cX10_passes 13 = .ok (.ireturn, 1) := by decide +kernel
theorem dX10_passes_14 : decode cX10_passes 14 = .ok (.aload_n 0, 1) := by decide +kernel
theorem dX10_passes_15 : decode cX10_passes 15 = .ok (.invokevirtual 106, 3) := by decide +kernel
theorem dX10_passes_18 : decode cX10_passes 18 = .ok (.aload_n 0, 1) := by decide +kernel
theorem dX10_passes_19 : decode cX10_passes 19 = .ok (.invokevirtual 97, 3) := by decide +kernel
theorem dX10_passes_22 : decode cX10_passes 22 = .ok (.aload_n 0, 1) := by decide +kernel
theorem dX10_passes_23 : decode cX10_passes 23 = .ok (.iconst 1, 1) := by decide +kernel
theorem dX10_passes_24 : decode cX10_passes 24 = .ok (.putfield 109, 3) := by decide +kernel
theorem dX10_passes_27 : decode cX10_passes 27 = .ok (.aload_n 0, 1) := by decide +kernel
theorem dX10_passes_28 : decode cX10_passes 28 = .ok (.getfield 13, 3) := by decide +kernel
theorem dX10_passes_31 : decode cX10_passes 31 = .ok (.aload_n 0, 1) := by decide +kernel
theorem dX10_passes_32 : decode cX10_passes 32 = .ok (.getfield 81, 3) := by decide +kernel
theorem dX10_passes_35 : decode cX10_passes 35 = .ok (.iconst 1, 1) := by decide +kernel
theorem dX10_passes_36 : decode cX10_passes 36 = .ok (.isub, 1) := by decide +kernel
theorem dX10_passes_37 : decode cX10_passes 37 = .ok (.iaload, 1) := by decide +kernel
theorem dX10_passes_38 : decode cX10_passes 38 = .ok (.ireturn, 1) := by decide +kernel
theorem dX10_passesBack_0 : decode cX10_passesBack 0 = .ok (.aload_n 0, 1) := by decide +kernel
theorem dX10_passesBack_1 : decode cX10_passesBack 1 = .ok (.getfield 81, 3) := by decide +kernel
theorem dX10_passesBack_4 : decode cX10_passesBack 4 = .ok (.ifCond .ne 10, 3) := by decide +kernel
theorem dX10_passesBack_7 : decode cX10_passesBack 7 = .ok (.aload_n 0, 1) := by decide +kernel
theorem dX10_passesBack_8 : decode cX10_passesBack 8 = .ok (.bipush (-2), 2) := by decide +kernel
theorem dX10_passesBack_10 : decode cX10_passesBack 10 = .ok (.invokevirtual 103, 3) := by decide +kernel
theorem dX10_passesBack_13 : decode cX10_passesBack 13 = .ok (.ireturn, 1) := by decide +kernel
theorem dX10_passesBack_14 : decode cX10_passesBack 14 = .ok (.aload_n 0, 1) := by decide +kernel
theorem dX10_passesBack_15 : decode cX10_passesBack 15 = .ok (.invokevirtual 106, 3) := by decide +kernel
theorem dX10_passesBack_18 : decode cX10_passesBack 18 = .ok (.aload_n 0, 1) := by decide +kernel
theorem dX10_passesBack_19 : decode cX10_passesBack 19 = .ok (.invokevirtual 100, 3) := by decide +kernel
theorem dX10_passesBack_22 : decode cX10_passesBack 22 = .ok (.aload_n 0, 1) := by decide +kernel
theorem dX10_passesBack_23 : decode cX10_passesBack 23 = .ok (.iconst 2, 1) := by decide +kernel
theorem dX10_passesBack_24 : decode cX10_passesBack 24 = .ok (.putfield 109, 3) := by decide +kernel
theorem dX10_passesBack_27 : decode cX10_passesBack 27 = .ok (.aload_n 0, 1) := by decide +kernel
theorem dX10_passesBack_28 : decode cX10_passesBack 28 = .ok (.getfield 17, 3) := by decide +kernel
theorem dX10_passesBack_31 : decode cX10_passesBack 31 = .ok (.aload_n 0, 1) := by decide +kernel
theorem dX10_passesBack_32 : decode cX10_passesBack 32 = .ok (.getfield 94, 3) := by decide +kernel
theorem dX10_passesBack_35 : decode cX10_passesBack 35 = .ok (.iconst 1, 1) := by decide +kernel
theorem dX10_passesBack_36 : decode cX10_passesBack 36 = .ok (.isub, 1) := by decide +kernel
theorem dX10_passesBack_37 : decode cX10_passesBack 37 = .ok (.iaload, 1) := by decide +kernel
theorem dX10_passesBack_38 : decode cX10_passesBack 38 = .ok (.ireturn, 1) := by decide +kernel
theorem dX10_adds_0 : decode cX10_adds 0 = .ok (.aload_n 0, 1) := by decide +kernel
theorem dX10_adds_1 : decode cX10_adds 1 = .ok (.invokevirtual 84, 3) := by decide +kernel
theorem dX10_adds_4 : decode cX10_adds 4 = .ok (.bipush 100, 2) := by decide +kernel
theorem dX10_adds_6 : decode cX10_adds 6 = .ok (.if_icmp .ne 10, 3) := by decide +kernel
theorem dX10_adds_9 : decode cX10_adds 9 = .ok (.aload_n 0, 1) := by decide +kernel
theorem dX10_adds_10 : decode cX10_adds 10 = .ok (.bipush (-5), 2) := by decide +kernel
theorem dX10_adds_12 : decode cX10_adds 12 = .ok (.invokevirtual 103, 3) := by decide +kernel
theorem dX10_adds_15 : decode cX10_adds 15 = .ok (.ireturn, 1) := by decide +kernel
theorem dX10_adds_16 : decode cX10_adds 16 = .ok (.aload_n 0, 1) := by decide +kernel
theorem dX10_adds_17 : decode cX10_adds 17 = .ok (.invokevirtual 106, 3) := by decide +kernel
theorem dX10_adds_20 : decode cX10_adds 20 = .ok (.aload_n 0, 1) := by decide +kernel
theorem dX10_adds_21 : decode cX10_adds 21 = .ok (.getfield 13, 3) := by decide +kernel
theorem dX10_adds_24 : decode cX10_adds 24 = .ok (.aload_n 0, 1) := by decide +kernel
theorem dX10_adds_25 : decode cX10_adds 25 = .ok (.getfield 81, 3) := by decide +kernel
theorem dX10_adds_28 : decode cX10_adds 28 = .ok (.iload_n 1, 1) := by decide +kernel
theorem dX10_adds_29 : decode cX10_adds 29 = .ok (.iastore, 1) := by decide +kernel
theorem dX10_adds_30 : decode cX10_adds 30 = .ok (.aload_n 0, 1) := by decide +kernel
theorem dX10_adds_31 : decode cX10_adds 31 = .ok (.dup, 1) := by decide +kernel
theorem dX10_adds_32 : decode cX10_adds 32 = .ok (.getfield 81, 3) := by decide +kernel
theorem dX10_adds_35 : decode cX10_adds 35 = .ok (.iconst 1, 1) := by decide +kernel
theorem dX10_adds_36 : decode cX10_adds 36 = .ok (.iadd, 1) := by decide +kernel
theorem dX10_adds_37 : decode cX10_adds 37 = .ok (.putfield 81, 3) := by decide +kernel
theorem dX10_adds_40 : decode cX10_adds 40 = .ok (.aload_n 0, 1) := by decide +kernel
theorem dX10_adds_41 : decode cX10_adds 41 = .ok (.iconst 0, 1) := by decide +kernel
theorem dX10_adds_42 : decode cX10_adds 42 = .ok (.putfield 109, 3) := by decide +kernel
theorem dX10_adds_45 : decode cX10_adds 45 = .ok (.aload_n 0, 1) := by decide +kernel
theorem dX10_adds_46 : decode cX10_adds 46 = .ok (.invokevirtual 84, 3) := by decide +kernel
theorem dX10_adds_49 : decode cX10_adds 49 = .ok (.ireturn, 1) := by decide +kernel
theorem dX10_givenNow_0 : decode cX10_givenNow 0 = .ok (.aload_n 0, 1) := by decide +kernel
theorem dX10_givenNow_1 : decode cX10_givenNow 1 = .ok (.getfield 109, 3) := by decide +kernel
theorem dX10_givenNow_4 : decode cX10_givenNow 4 = .ok (.ifCond .ne 7, 3) := by decide +kernel
theorem dX10_givenNow_7 : decode cX10_givenNow 7 = .ok (.iconst (-1), 1) := by decide +kernel
theorem dX10_givenNow_8 : decode cX10_givenNow 8 = .ok (.goto 36, 3) := by decide +kernel
theorem dX10_givenNow_11 : decode cX10_givenNow 11 = .ok (.aload_n 0, 1) := by decide +kernel
theorem dX10_givenNow_12 : decode cX10_givenNow 12 = .ok (.getfield 109, 3) := by decide +kernel
theorem dX10_givenNow_15 : decode cX10_givenNow 15 = .ok (.iconst 1, 1) := by decide +kernel
theorem dX10_givenNow_16 : decode cX10_givenNow 16 = .ok (.if_icmp .ne 17, 3) := by decide +kernel
theorem dX10_givenNow_19 : decode cX10_givenNow 19 = .ok (.aload_n 0, 1) := by decide +kernel
theorem dX10_givenNow_20 : decode cX10_givenNow 20 = .ok (.getfield 13, 3) := by decide +kernel
theorem dX10_givenNow_23 : decode cX10_givenNow 23 = .ok (.aload_n 0, 1) := by decide +kernel
theorem dX10_givenNow_24 : decode cX10_givenNow 24 = .ok (.getfield 81, 3) := by decide +kernel
theorem dX10_givenNow_27 : decode cX10_givenNow 27 = .ok (.iconst 1, 1) := by decide +kernel
theorem dX10_givenNow_28 : decode cX10_givenNow 28 = .ok (.isub, 1) := by decide +kernel
theorem dX10_givenNow_29 : decode cX10_givenNow 29 = .ok (.iaload, 1) := by decide +kernel
theorem dX10_givenNow_30 : decode cX10_givenNow 30 = .ok (.goto 14, 3) := by decide +kernel
theorem dX10_givenNow_33 : decode cX10_givenNow 33 = .ok (.aload_n 0, 1) := by decide +kernel
theorem dX10_givenNow_34 : decode cX10_givenNow 34 = .ok (.getfield 17, 3) := by decide +kernel
theorem dX10_givenNow_37 : decode cX10_givenNow 37 = .ok (.aload_n 0, 1) := by decide +kernel
theorem dX10_givenNow_38 : decode cX10_givenNow 38 = .ok (.getfield 94, 3) := by decide +kernel
theorem dX10_givenNow_41 : decode cX10_givenNow 41 = .ok (.iconst 1, 1) := by decide +kernel
theorem dX10_givenNow_42 : decode cX10_givenNow 42 = .ok (.isub, 1) := by decide +kernel
theorem dX10_givenNow_43 : decode cX10_givenNow 43 = .ok (.iaload, 1) := by decide +kernel
theorem dX10_givenNow_44 : decode cX10_givenNow 44 = .ok (.ireturn, 1) := by decide +kernel
theorem dX10_sets_0 : decode cX10_sets 0 = .ok (.aload_n 0, 1) := by decide +kernel
theorem dX10_sets_1 : decode cX10_sets 1 = .ok (.getfield 109, 3) := by decide +kernel
theorem dX10_sets_4 : decode cX10_sets 4 = .ok (.ifCond .ne 10, 3) := by decide +kernel
theorem dX10_sets_7 : decode cX10_sets 7 = .ok (.aload_n 0, 1) := by decide +kernel
theorem dX10_sets_8 : decode cX10_sets 8 = .ok (.bipush (-3), 2) := by decide +kernel
theorem dX10_sets_10 : decode cX10_sets 10 = .ok (.invokevirtual 103, 3) := by decide +kernel
theorem dX10_sets_13 : decode cX10_sets 13 = .ok (.ireturn, 1) := by decide +kernel
theorem dX10_sets_14 : decode cX10_sets 14 = .ok (.aload_n 0, 1) := by decide +kernel
theorem dX10_sets_15 : decode cX10_sets 15 = .ok (.invokevirtual 106, 3) := by decide +kernel
theorem dX10_sets_18 : decode cX10_sets 18 = .ok (.aload_n 0, 1) := by decide +kernel
theorem dX10_sets_19 : decode cX10_sets 19 = .ok (.invokevirtual 112, 3) := by decide +kernel
theorem dX10_sets_22 : decode cX10_sets 22 = .ok (.istore_n 2, 1) := by decide +kernel
theorem dX10_sets_23 : decode cX10_sets 23 = .ok (.aload_n 0, 1) := by decide +kernel
theorem dX10_sets_24 : decode cX10_sets 24 = .ok (.getfield 109, 3) := by decide +kernel
theorem dX10_sets_27 : decode cX10_sets 27 = .ok (.iconst 1, 1) := by decide +kernel
theorem dX10_sets_28 : decode cX10_sets 28 = .ok (.if_icmp .ne 18, 3) := by decide +kernel
theorem dX10_sets_31 : decode cX10_sets 31 = .ok (.aload_n 0, 1) := by decide +kernel
theorem dX10_sets_32 : decode cX10_sets 32 = .ok (.getfield 13, 3) := by decide +kernel
theorem dX10_sets_35 : decode cX10_sets 35 = .ok (.aload_n 0, 1) := by decide +kernel
theorem dX10_sets_36 : decode cX10_sets 36 = .ok (.getfield 81, 3) := by decide +kernel
theorem dX10_sets_39 : decode cX10_sets 39 = .ok (.iconst 1, 1) := by decide +kernel
theorem dX10_sets_40 : decode cX10_sets 40 = .ok (.isub, 1) := by decide +kernel
theorem dX10_sets_41 : decode cX10_sets 41 = .ok (.iload_n 1, 1) := by decide +kernel
theorem dX10_sets_42 : decode cX10_sets 42 = .ok (.iastore, 1) := by decide +kernel
theorem dX10_sets_43 : decode cX10_sets 43 = .ok (.goto 15, 3) := by decide +kernel
theorem dX10_sets_46 : decode cX10_sets 46 = .ok (.aload_n 0, 1) := by decide +kernel
theorem dX10_sets_47 : decode cX10_sets 47 = .ok (.getfield 17, 3) := by decide +kernel
theorem dX10_sets_50 : decode cX10_sets 50 = .ok (.aload_n 0, 1) := by decide +kernel
theorem dX10_sets_51 : decode cX10_sets 51 = .ok (.getfield 94, 3) := by decide +kernel
theorem dX10_sets_54 : decode cX10_sets 54 = .ok (.iconst 1, 1) := by decide +kernel
theorem dX10_sets_55 : decode cX10_sets 55 = .ok (.isub, 1) := by decide +kernel
theorem dX10_sets_56 : decode cX10_sets 56 = .ok (.iload_n 1, 1) := by decide +kernel
theorem dX10_sets_57 : decode cX10_sets 57 = .ok (.iastore, 1) := by decide +kernel
theorem dX10_sets_58 : decode cX10_sets 58 = .ok (.iload_n 2, 1) := by decide +kernel
theorem dX10_sets_59 : decode cX10_sets 59 = .ok (.ireturn, 1) := by decide +kernel
theorem dX10_removes_0 : decode cX10_removes 0 = .ok (.aload_n 0, 1) := by decide +kernel
theorem dX10_removes_1 : decode cX10_removes 1 = .ok (.getfield 109, 3) := by decide +kernel
theorem dX10_removes_4 : decode cX10_removes 4 = .ok (.ifCond .ne 10, 3) := by decide +kernel
theorem dX10_removes_7 : decode cX10_removes 7 = .ok (.aload_n 0, 1) := by decide +kernel
theorem dX10_removes_8 : decode cX10_removes 8 = .ok (.bipush (-3), 2) := by decide +kernel
theorem dX10_removes_10 : decode cX10_removes 10 = .ok (.invokevirtual 103, 3) := by decide +kernel
theorem dX10_removes_13 : decode cX10_removes 13 = .ok (.ireturn, 1) := by decide +kernel
theorem dX10_removes_14 : decode cX10_removes 14 = .ok (.aload_n 0, 1) := by decide +kernel
theorem dX10_removes_15 : decode cX10_removes 15 = .ok (.invokevirtual 106, 3) := by decide +kernel
theorem dX10_removes_18 : decode cX10_removes 18 = .ok (.aload_n 0, 1) := by decide +kernel
theorem dX10_removes_19 : decode cX10_removes 19 = .ok (.invokevirtual 112, 3) := by decide +kernel
theorem dX10_removes_22 : decode cX10_removes 22 = .ok (.istore_n 1, 1) := by decide +kernel
theorem dX10_removes_23 : decode cX10_removes 23 = .ok (.aload_n 0, 1) := by decide +kernel
theorem dX10_removes_24 : decode cX10_removes 24 = .ok (.getfield 109, 3) := by decide +kernel
theorem dX10_removes_27 : decode cX10_removes 27 = .ok (.iconst 1, 1) := by decide +kernel
theorem dX10_removes_28 : decode cX10_removes 28 = .ok (.if_icmp .ne 16, 3) := by decide +kernel
theorem dX10_removes_31 : decode cX10_removes 31 = .ok (.aload_n 0, 1) := by decide +kernel
theorem dX10_removes_32 : decode cX10_removes 32 = .ok (.dup, 1) := by decide +kernel
theorem dX10_removes_33 : decode cX10_removes 33 = .ok (.getfield 81, 3) := by decide +kernel
theorem dX10_removes_36 : decode cX10_removes 36 = .ok (.iconst 1, 1) := by decide +kernel
theorem dX10_removes_37 : decode cX10_removes 37 = .ok (.isub, 1) := by decide +kernel
theorem dX10_removes_38 : decode cX10_removes 38 = .ok (.putfield 81, 3) := by decide +kernel
theorem dX10_removes_41 : decode cX10_removes 41 = .ok (.goto 13, 3) := by decide +kernel
theorem dX10_removes_44 : decode cX10_removes 44 = .ok (.aload_n 0, 1) := by decide +kernel
theorem dX10_removes_45 : decode cX10_removes 45 = .ok (.dup, 1) := by decide +kernel
theorem dX10_removes_46 : decode cX10_removes 46 = .ok (.getfield 94, 3) := by decide +kernel
theorem dX10_removes_49 : decode cX10_removes 49 = .ok (.iconst 1, 1) := by decide +kernel
theorem dX10_removes_50 : decode cX10_removes 50 = .ok (.isub, 1) := by decide +kernel
theorem dX10_removes_51 : decode cX10_removes 51 = .ok (.putfield 94, 3) := by decide +kernel
theorem dX10_removes_54 : decode cX10_removes 54 = .ok (.aload_n 0, 1) := by decide +kernel
theorem dX10_removes_55 : decode cX10_removes 55 = .ok (.iconst 0, 1) := by decide +kernel
theorem dX10_removes_56 : decode cX10_removes 56 = .ok (.putfield 109, 3) := by decide +kernel
theorem dX10_removes_59 : decode cX10_removes 59 = .ok (.iload_n 1, 1) := by decide +kernel
theorem dX10_removes_60 : decode cX10_removes 60 = .ok (.ireturn, 1) := by decide +kernel
theorem dX10_moves_0 : decode cX10_moves 0 = .ok (.iload_n 1, 1) := by decide +kernel
theorem dX10_moves_1 : decode cX10_moves 1 = .ok (.iconst 0, 1) := by decide +kernel
theorem dX10_moves_2 : decode cX10_moves 2 = .ok (.aload_n 0, 1) := by decide +kernel
theorem dX10_moves_3 : decode cX10_moves 3 = .ok (.invokevirtual 84, 3) := by decide +kernel
theorem dX10_moves_6 : decode cX10_moves 6 = .ok (.invokestatic 66, 3) := by decide +kernel
theorem dX10_moves_9 : decode cX10_moves 9 = .ok (.ifCond .ne 10, 3) := by decide +kernel
theorem dX10_moves_12 : decode cX10_moves 12 = .ok (.aload_n 0, 1) := by decide +kernel
theorem dX10_moves_13 : decode cX10_moves 13 = .ok (.bipush (-4), 2) := by decide +kernel
theorem dX10_moves_15 : decode cX10_moves 15 = .ok (.invokevirtual 103, 3) := by decide +kernel
theorem dX10_moves_18 : decode cX10_moves 18 = .ok (.ireturn, 1) := by decide +kernel
theorem dX10_moves_19 : decode cX10_moves 19 = .ok (.aload_n 0, 1) := by decide +kernel
theorem dX10_moves_20 : decode cX10_moves 20 = .ok (.invokevirtual 106, 3) := by decide +kernel
theorem dX10_moves_23 : decode cX10_moves 23 = .ok (.aload_n 0, 1) := by decide +kernel
theorem dX10_moves_24 : decode cX10_moves 24 = .ok (.iload_n 1, 1) := by decide +kernel
theorem dX10_moves_25 : decode cX10_moves 25 = .ok (.invokevirtual 115, 3) := by decide +kernel
theorem dX10_moves_28 : decode cX10_moves 28 = .ok (.aload_n 0, 1) := by decide +kernel
theorem dX10_moves_29 : decode cX10_moves 29 = .ok (.iconst 0, 1) := by decide +kernel
theorem dX10_moves_30 : decode cX10_moves 30 = .ok (.putfield 109, 3) := by decide +kernel
theorem dX10_moves_33 : decode cX10_moves 33 = .ok (.iload_n 1, 1) := by decide +kernel
theorem dX10_moves_34 : decode cX10_moves 34 = .ok (.ireturn, 1) := by decide +kernel
theorem dX10_finds_0 : decode cX10_finds 0 = .ok (.iconst 1, 1) := by decide +kernel
theorem dX10_finds_1 : decode cX10_finds 1 = .ok (.istore_n 3, 1) := by decide +kernel
theorem dX10_finds_2 : decode cX10_finds 2 = .ok (.iload_n 2, 1) := by decide +kernel
theorem dX10_finds_3 : decode cX10_finds 3 = .ok (.ifCond .eq 32, 3) := by decide +kernel
theorem dX10_finds_6 : decode cX10_finds 6 = .ok (.iload_n 3, 1) := by decide +kernel
theorem dX10_finds_7 : decode cX10_finds 7 = .ok (.aload_n 0, 1) := by decide +kernel
theorem dX10_finds_8 : decode cX10_finds 8 = .ok (.getfield 81, 3) := by decide +kernel
theorem dX10_finds_11 : decode cX10_finds 11 = .ok (.if_icmp .gt 53, 3) := by decide +kernel
theorem dX10_finds_14 : decode cX10_finds 14 = .ok (.aload_n 0, 1) := by decide +kernel
theorem dX10_finds_15 : decode cX10_finds 15 = .ok (.getfield 13, 3) := by decide +kernel
theorem dX10_finds_18 : decode cX10_finds 18 = .ok (.aload_n 0, 1) := by decide +kernel
theorem dX10_finds_19 : decode cX10_finds 19 = .ok (.getfield 81, 3) := by decide +kernel
theorem dX10_finds_22 : decode cX10_finds 22 = .ok (.iload_n 3, 1) := by decide +kernel
theorem dX10_finds_23 : decode cX10_finds 23 = .ok (.isub, 1) := by decide +kernel
theorem dX10_finds_24 : decode cX10_finds 24 = .ok (.iaload, 1) := by decide +kernel
theorem dX10_finds_25 : decode cX10_finds 25 = .ok (.iload_n 1, 1) := by decide +kernel
theorem dX10_finds_26 : decode cX10_finds 26 = .ok (.if_icmp .eq 38, 3) := by decide +kernel
theorem dX10_finds_29 : decode cX10_finds 29 = .ok (.iinc 3 1, 3) := by decide +kernel
theorem dX10_finds_32 : decode cX10_finds 32 = .ok (.goto (-26), 3) := by decide +kernel
theorem dX10_finds_35 : decode cX10_finds 35 = .ok (.iload_n 3, 1) := by decide +kernel
theorem dX10_finds_36 : decode cX10_finds 36 = .ok (.aload_n 0, 1) := by decide +kernel
theorem dX10_finds_37 : decode cX10_finds 37 = .ok (.getfield 94, 3) := by decide +kernel
theorem dX10_finds_40 : decode cX10_finds 40 = .ok (.if_icmp .gt 24, 3) := by decide +kernel
theorem dX10_finds_43 : decode cX10_finds 43 = .ok (.aload_n 0, 1) := by decide +kernel
theorem dX10_finds_44 : decode cX10_finds 44 = .ok (.getfield 17, 3) := by decide +kernel
theorem dX10_finds_47 : decode cX10_finds 47 = .ok (.aload_n 0, 1) := by decide +kernel
theorem dX10_finds_48 : decode cX10_finds 48 = .ok (.getfield 94, 3) := by decide +kernel
theorem dX10_finds_51 : decode cX10_finds 51 = .ok (.iload_n 3, 1) := by decide +kernel
theorem dX10_finds_52 : decode cX10_finds 52 = .ok (.isub, 1) := by decide +kernel
theorem dX10_finds_53 : decode cX10_finds 53 = .ok (.iaload, 1) := by decide +kernel
theorem dX10_finds_54 : decode cX10_finds 54 = .ok (.iload_n 1, 1) := by decide +kernel
theorem dX10_finds_55 : decode cX10_finds 55 = .ok (.if_icmp .eq 9, 3) := by decide +kernel
theorem dX10_finds_58 : decode cX10_finds 58 = .ok (.iinc 3 1, 3) := by decide +kernel
theorem dX10_finds_61 : decode cX10_finds 61 = .ok (.goto (-26), 3) := by decide +kernel
theorem dX10_finds_64 : decode cX10_finds 64 = .ok (.iload_n 3, 1) := by decide +kernel
theorem dX10_finds_65 : decode cX10_finds 65 = .ok (.iload_n 2, 1) := by decide +kernel
theorem dX10_finds_66 : decode cX10_finds 66 = .ok (.ifCond .eq 10, 3) := by decide +kernel
theorem dX10_finds_69 : decode cX10_finds 69 = .ok (.aload_n 0, 1) := by decide +kernel
theorem dX10_finds_70 : decode cX10_finds 70 = .ok (.getfield 81, 3) := by decide +kernel
theorem dX10_finds_73 : decode cX10_finds 73 = .ok (.goto 7, 3) := by decide +kernel
theorem dX10_finds_76 : decode cX10_finds 76 = .ok (.aload_n 0, 1) := by decide +kernel
theorem dX10_finds_77 : decode cX10_finds 77 = .ok (.getfield 94, 3) := by decide +kernel
theorem dX10_finds_80 : decode cX10_finds 80 = .ok (.if_icmp .le 10, 3) := by decide +kernel
theorem dX10_finds_83 : decode cX10_finds 83 = .ok (.aload_n 0, 1) := by decide +kernel
theorem dX10_finds_84 : decode cX10_finds 84 = .ok (.bipush (-2), 2) := by decide +kernel
theorem dX10_finds_86 : decode cX10_finds 86 = .ok (.invokevirtual 103, 3) := by decide +kernel
theorem dX10_finds_89 : decode cX10_finds 89 = .ok (.ireturn, 1) := by decide +kernel
theorem dX10_finds_90 : decode cX10_finds 90 = .ok (.aload_n 0, 1) := by decide +kernel
theorem dX10_finds_91 : decode cX10_finds 91 = .ok (.invokevirtual 106, 3) := by decide +kernel
theorem dX10_finds_94 : decode cX10_finds 94 = .ok (.aload_n 0, 1) := by decide +kernel
theorem dX10_finds_95 : decode cX10_finds 95 = .ok (.iload_n 2, 1) := by decide +kernel
theorem dX10_finds_96 : decode cX10_finds 96 = .ok (.ifCond .eq 12, 3) := by decide +kernel
theorem dX10_finds_99 : decode cX10_finds 99 = .ok (.aload_n 0, 1) := by decide +kernel
theorem dX10_finds_100 : decode cX10_finds 100 = .ok (.getfield 81, 3) := by decide +kernel
theorem dX10_finds_103 : decode cX10_finds 103 = .ok (.iload_n 3, 1) := by decide +kernel
theorem dX10_finds_104 : decode cX10_finds 104 = .ok (.isub, 1) := by decide +kernel
theorem dX10_finds_105 : decode cX10_finds 105 = .ok (.goto 9, 3) := by decide +kernel
theorem dX10_finds_108 : decode cX10_finds 108 = .ok (.aload_n 0, 1) := by decide +kernel
theorem dX10_finds_109 : decode cX10_finds 109 = .ok (.getfield 81, 3) := by decide +kernel
theorem dX10_finds_112 : decode cX10_finds 112 = .ok (.iload_n 3, 1) := by decide +kernel
theorem dX10_finds_113 : decode cX10_finds 113 = .ok (.iadd, 1) := by decide +kernel
theorem dX10_finds_114 : decode cX10_finds 114 = .ok (.invokevirtual 115, 3) := by decide +kernel
theorem dX10_finds_117 : decode cX10_finds 117 = .ok (.aload_n 0, 1) := by decide +kernel
theorem dX10_finds_118 : decode cX10_finds 118 = .ok (.iload_n 2, 1) := by decide +kernel
theorem dX10_finds_119 : decode cX10_finds 119 = .ok (.ifCond .eq 7, 3) := by decide +kernel
theorem dX10_finds_122 : decode cX10_finds 122 = .ok (.iconst 2, 1) := by decide +kernel
theorem dX10_finds_123 : decode cX10_finds 123 = .ok (.goto 4, 3) := by decide +kernel
theorem dX10_finds_126 : decode cX10_finds 126 = .ok (.iconst 1, 1) := by decide +kernel
theorem dX10_finds_127 : decode cX10_finds 127 = .ok (.putfield 109, 3) := by decide +kernel
theorem dX10_finds_130 : decode cX10_finds 130 = .ok (.iload_n 3, 1) := by decide +kernel
theorem dX10_finds_131 : decode cX10_finds 131 = .ok (.ireturn, 1) := by decide +kernel
theorem dX10_swaps_0 : decode cX10_swaps 0 = .ok (.aload_n 0, 1) := by decide +kernel
theorem dX10_swaps_1 : decode cX10_swaps 1 = .ok (.getfield 81, 3) := by decide +kernel
theorem dX10_swaps_4 : decode cX10_swaps 4 = .ok (.ifCond .eq 10, 3) := by decide +kernel
theorem dX10_swaps_7 : decode cX10_swaps 7 = .ok (.aload_n 0, 1) := by decide +kernel
theorem dX10_swaps_8 : decode cX10_swaps 8 = .ok (.getfield 94, 3) := by decide +kernel
theorem dX10_swaps_11 : decode cX10_swaps 11 = .ok (.ifCond .ne 10, 3) := by decide +kernel
theorem dX10_swaps_14 : decode cX10_swaps 14 = .ok (.aload_n 0, 1) := by decide +kernel
theorem dX10_swaps_15 : decode cX10_swaps 15 = .ok (.bipush (-2), 2) := by decide +kernel
theorem dX10_swaps_17 : decode cX10_swaps 17 = .ok (.invokevirtual 103, 3) := by decide +kernel
theorem dX10_swaps_20 : decode cX10_swaps 20 = .ok (.ireturn, 1) := by decide +kernel
theorem dX10_swaps_21 : decode cX10_swaps 21 = .ok (.aload_n 0, 1) := by decide +kernel
theorem dX10_swaps_22 : decode cX10_swaps 22 = .ok (.invokevirtual 106, 3) := by decide +kernel
theorem dX10_swaps_25 : decode cX10_swaps 25 = .ok (.aload_n 0, 1) := by decide +kernel
theorem dX10_swaps_26 : decode cX10_swaps 26 = .ok (.getfield 13, 3) := by decide +kernel
theorem dX10_swaps_29 : decode cX10_swaps 29 = .ok (.aload_n 0, 1) := by decide +kernel
theorem dX10_swaps_30 : decode cX10_swaps 30 = .ok (.getfield 81, 3) := by decide +kernel
theorem dX10_swaps_33 : decode cX10_swaps 33 = .ok (.iconst 1, 1) := by decide +kernel
theorem dX10_swaps_34 : decode cX10_swaps 34 = .ok (.isub, 1) := by decide +kernel
theorem dX10_swaps_35 : decode cX10_swaps 35 = .ok (.iaload, 1) := by decide +kernel
theorem dX10_swaps_36 : decode cX10_swaps 36 = .ok (.istore_n 1, 1) := by decide +kernel
theorem dX10_swaps_37 : decode cX10_swaps 37 = .ok (.aload_n 0, 1) := by decide +kernel
theorem dX10_swaps_38 : decode cX10_swaps 38 = .ok (.getfield 13, 3) := by decide +kernel
theorem dX10_swaps_41 : decode cX10_swaps 41 = .ok (.aload_n 0, 1) := by decide +kernel
theorem dX10_swaps_42 : decode cX10_swaps 42 = .ok (.getfield 81, 3) := by decide +kernel
theorem dX10_swaps_45 : decode cX10_swaps 45 = .ok (.iconst 1, 1) := by decide +kernel
theorem dX10_swaps_46 : decode cX10_swaps 46 = .ok (.isub, 1) := by decide +kernel
theorem dX10_swaps_47 : decode cX10_swaps 47 = .ok (.aload_n 0, 1) := by decide +kernel
theorem dX10_swaps_48 : decode cX10_swaps 48 = .ok (.getfield 17, 3) := by decide +kernel
theorem dX10_swaps_51 : decode cX10_swaps 51 = .ok (.aload_n 0, 1) := by decide +kernel
theorem dX10_swaps_52 : decode cX10_swaps 52 = .ok (.getfield 94, 3) := by decide +kernel
theorem dX10_swaps_55 : decode cX10_swaps 55 = .ok (.iconst 1, 1) := by decide +kernel
theorem dX10_swaps_56 : decode cX10_swaps 56 = .ok (.isub, 1) := by decide +kernel
theorem dX10_swaps_57 : decode cX10_swaps 57 = .ok (.iaload, 1) := by decide +kernel
theorem dX10_swaps_58 : decode cX10_swaps 58 = .ok (.iastore, 1) := by decide +kernel
theorem dX10_swaps_59 : decode cX10_swaps 59 = .ok (.aload_n 0, 1) := by decide +kernel
theorem dX10_swaps_60 : decode cX10_swaps 60 = .ok (.getfield 17, 3) := by decide +kernel
theorem dX10_swaps_63 : decode cX10_swaps 63 = .ok (.aload_n 0, 1) := by decide +kernel
theorem dX10_swaps_64 : decode cX10_swaps 64 = .ok (.getfield 94, 3) := by decide +kernel
theorem dX10_swaps_67 : decode cX10_swaps 67 = .ok (.iconst 1, 1) := by decide +kernel
theorem dX10_swaps_68 : decode cX10_swaps 68 = .ok (.isub, 1) := by decide +kernel
theorem dX10_swaps_69 : decode cX10_swaps 69 = .ok (.iload_n 1, 1) := by decide +kernel
theorem dX10_swaps_70 : decode cX10_swaps 70 = .ok (.iastore, 1) := by decide +kernel
theorem dX10_swaps_71 : decode cX10_swaps 71 = .ok (.aload_n 0, 1) := by decide +kernel
theorem dX10_swaps_72 : decode cX10_swaps 72 = .ok (.iconst 1, 1) := by decide +kernel
theorem dX10_swaps_73 : decode cX10_swaps 73 = .ok (.putfield 109, 3) := by decide +kernel
theorem dX10_swaps_76 : decode cX10_swaps 76 = .ok (.aload_n 0, 1) := by decide +kernel
theorem dX10_swaps_77 : decode cX10_swaps 77 = .ok (.getfield 13, 3) := by decide +kernel
theorem dX10_swaps_80 : decode cX10_swaps 80 = .ok (.aload_n 0, 1) := by decide +kernel
theorem dX10_swaps_81 : decode cX10_swaps 81 = .ok (.getfield 81, 3) := by decide +kernel
theorem dX10_swaps_84 : decode cX10_swaps 84 = .ok (.iconst 1, 1) := by decide +kernel
theorem dX10_swaps_85 : decode cX10_swaps 85 = .ok (.isub, 1) := by decide +kernel
theorem dX10_swaps_86 : decode cX10_swaps 86 = .ok (.iaload, 1) := by decide +kernel
theorem dX10_swaps_87 : decode cX10_swaps 87 = .ok (.ireturn, 1) := by decide +kernel
