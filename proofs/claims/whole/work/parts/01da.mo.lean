theorem d_Mo_init_0 : decode m_Mo_init.2.1 0 = .ok (.aload_n 0, 1) := by decide +kernel
theorem d_Mo_init_1 : decode m_Mo_init.2.1 1 = .ok (.invokespecial 1, 3) := by decide +kernel
theorem d_Mo_init_4 : decode m_Mo_init.2.1 4 = .ok (.aload_n 0, 1) := by decide +kernel
theorem d_Mo_init_5 : decode m_Mo_init.2.1 5 = .ok (.sipush 500, 3) := by decide +kernel
theorem d_Mo_init_8 : decode m_Mo_init.2.1 8 = .ok (.newarray .int, 2) := by decide +kernel
theorem d_Mo_init_10 : decode m_Mo_init.2.1 10 = .ok (.putfield 7, 3) := by decide +kernel
theorem d_Mo_init_13 : decode m_Mo_init.2.1 13 = .ok (.aload_n 0, 1) := by decide +kernel
theorem d_Mo_init_14 : decode m_Mo_init.2.1 14 = .ok (.bipush 14, 2) := by decide +kernel
theorem d_Mo_init_16 : decode m_Mo_init.2.1 16 = .ok (.newarray .int, 2) := by decide +kernel
theorem d_Mo_init_18 : decode m_Mo_init.2.1 18 = .ok (.putfield 13, 3) := by decide +kernel
theorem d_Mo_init_21 : decode m_Mo_init.2.1 21 = .ok (.aload_n 0, 1) := by decide +kernel
theorem d_Mo_init_22 : decode m_Mo_init.2.1 22 = .ok (.bipush 10, 2) := by decide +kernel
theorem d_Mo_init_24 : decode m_Mo_init.2.1 24 = .ok (.newarray .int, 2) := by decide +kernel
theorem d_Mo_init_26 : decode m_Mo_init.2.1 26 = .ok (.putfield 16, 3) := by decide +kernel
theorem d_Mo_init_29 : decode m_Mo_init.2.1 29 = .ok (.aload_n 0, 1) := by decide +kernel
theorem d_Mo_init_30 : decode m_Mo_init.2.1 30 = .ok (.iconst 4, 1) := by decide +kernel
theorem d_Mo_init_31 : decode m_Mo_init.2.1 31 = .ok (.newarray .int, 2) := by decide +kernel
theorem d_Mo_init_33 : decode m_Mo_init.2.1 33 = .ok (.putfield 19, 3) := by decide +kernel
theorem d_Mo_init_36 : decode m_Mo_init.2.1 36 = .ok (.aload_n 0, 1) := by decide +kernel
theorem d_Mo_init_37 : decode m_Mo_init.2.1 37 = .ok (.bipush 48, 2) := by decide +kernel
theorem d_Mo_init_39 : decode m_Mo_init.2.1 39 = .ok (.newarray .int, 2) := by decide +kernel
theorem d_Mo_init_41 : decode m_Mo_init.2.1 41 = .ok (.putfield 22, 3) := by decide +kernel
theorem d_Mo_init_44 : decode m_Mo_init.2.1 44 = .ok (.aload_n 0, 1) := by decide +kernel
theorem d_Mo_init_45 : decode m_Mo_init.2.1 45 = .ok (.bipush 120, 2) := by decide +kernel
theorem d_Mo_init_47 : decode m_Mo_init.2.1 47 = .ok (.newarray .int, 2) := by decide +kernel
theorem d_Mo_init_49 : decode m_Mo_init.2.1 49 = .ok (.putfield 25, 3) := by decide +kernel
theorem d_Mo_init_52 : decode m_Mo_init.2.1 52 = .ok (.aload_n 0, 1) := by decide +kernel
theorem d_Mo_init_53 : decode m_Mo_init.2.1 53 = .ok (.bipush 16, 2) := by decide +kernel
theorem d_Mo_init_55 : decode m_Mo_init.2.1 55 = .ok (.newarray .int, 2) := by decide +kernel
theorem d_Mo_init_57 : decode m_Mo_init.2.1 57 = .ok (.putfield 28, 3) := by decide +kernel
theorem d_Mo_init_60 : decode m_Mo_init.2.1 60 = .ok (.aload_n 0, 1) := by decide +kernel
theorem d_Mo_init_61 : decode m_Mo_init.2.1 61 = .ok (.bipush 48, 2) := by decide +kernel
theorem d_Mo_init_63 : decode m_Mo_init.2.1 63 = .ok (.newarray .int, 2) := by decide +kernel
theorem d_Mo_init_65 : decode m_Mo_init.2.1 65 = .ok (.putfield 31, 3) := by decide +kernel
theorem d_Mo_init_68 : decode m_Mo_init.2.1 68 = .ok (.aload_n 0, 1) := by decide +kernel
theorem d_Mo_init_69 : decode m_Mo_init.2.1 69 = .ok (.sipush 880, 3) := by decide +kernel
theorem d_Mo_init_72 : decode m_Mo_init.2.1 72 = .ok (.newarray .int, 2) := by decide +kernel
theorem d_Mo_init_74 : decode m_Mo_init.2.1 74 = .ok (.putfield 34, 3) := by decide +kernel
theorem d_Mo_init_77 : decode m_Mo_init.2.1 77 = .ok (.aload_n 0, 1) := by decide +kernel
theorem d_Mo_init_78 : decode m_Mo_init.2.1 78 = .ok (.sipush 15000, 3) := by decide +kernel
theorem d_Mo_init_81 : decode m_Mo_init.2.1 81 = .ok (.newarray .int, 2) := by decide +kernel
theorem d_Mo_init_83 : decode m_Mo_init.2.1 83 = .ok (.putfield 37, 3) := by decide +kernel
theorem d_Mo_init_86 : decode m_Mo_init.2.1 86 = .ok (.aload_n 0, 1) := by decide +kernel
theorem d_Mo_init_87 : decode m_Mo_init.2.1 87 = .ok (.sipush 150, 3) := by decide +kernel
theorem d_Mo_init_90 : decode m_Mo_init.2.1 90 = .ok (.newarray .int, 2) := by decide +kernel
theorem d_Mo_init_92 : decode m_Mo_init.2.1 92 = .ok (.putfield 40, 3) := by decide +kernel
theorem d_Mo_init_95 : decode m_Mo_init.2.1 95 = .ok (.aload_n 0, 1) := by decide +kernel
theorem d_Mo_init_96 : decode m_Mo_init.2.1 96 = .ok (.sipush 150, 3) := by decide +kernel
theorem d_Mo_init_99 : decode m_Mo_init.2.1 99 = .ok (.newarray .int, 2) := by decide +kernel
theorem d_Mo_init_101 : decode m_Mo_init.2.1 101 = .ok (.putfield 43, 3) := by decide +kernel
theorem d_Mo_init_104 : decode m_Mo_init.2.1 104 = .ok (.aload_n 0, 1) := by decide +kernel
theorem d_Mo_init_105 : decode m_Mo_init.2.1 105 = .ok (.sipush 15000, 3) := by decide +kernel
theorem d_Mo_init_108 : decode m_Mo_init.2.1 108 = .ok (.newarray .int, 2) := by decide +kernel
theorem d_Mo_init_110 : decode m_Mo_init.2.1 110 = .ok (.putfield 46, 3) := by decide +kernel
theorem d_Mo_init_113 : decode m_Mo_init.2.1 113 = .ok (.aload_n 0, 1) := by decide +kernel
theorem d_Mo_init_114 : decode m_Mo_init.2.1 114 = .ok (.sipush 150, 3) := by decide +kernel
theorem d_Mo_init_117 : decode m_Mo_init.2.1 117 = .ok (.newarray .int, 2) := by decide +kernel
theorem d_Mo_init_119 : decode m_Mo_init.2.1 119 = .ok (.putfield 49, 3) := by decide +kernel
theorem d_Mo_init_122 : decode m_Mo_init.2.1 122 = .ok (.aload_n 0, 1) := by decide +kernel
theorem d_Mo_init_123 : decode m_Mo_init.2.1 123 = .ok (.sipush 150, 3) := by decide +kernel
theorem d_Mo_init_126 : decode m_Mo_init.2.1 126 = .ok (.newarray .int, 2) := by decide +kernel
theorem d_Mo_init_128 : decode m_Mo_init.2.1 128 = .ok (.putfield 52, 3) := by decide +kernel
theorem d_Mo_init_131 : decode m_Mo_init.2.1 131 = .ok (.aload_n 0, 1) := by decide +kernel
theorem d_Mo_init_132 : decode m_Mo_init.2.1 132 = .ok (.sipush 150, 3) := by decide +kernel
theorem d_Mo_init_135 : decode m_Mo_init.2.1 135 = .ok (.newarray .int, 2) := by decide +kernel
theorem d_Mo_init_137 : decode m_Mo_init.2.1 137 = .ok (.putfield 55, 3) := by decide +kernel
theorem d_Mo_init_140 : decode m_Mo_init.2.1 140 = .ok (.aload_n 0, 1) := by decide +kernel
theorem d_Mo_init_141 : decode m_Mo_init.2.1 141 = .ok (.sipush 150, 3) := by decide +kernel
theorem d_Mo_init_144 : decode m_Mo_init.2.1 144 = .ok (.newarray .int, 2) := by decide +kernel
theorem d_Mo_init_146 : decode m_Mo_init.2.1 146 = .ok (.putfield 58, 3) := by decide +kernel
theorem d_Mo_init_149 : decode m_Mo_init.2.1 149 = .ok (.aload_n 0, 1) := by decide +kernel
theorem d_Mo_init_150 : decode m_Mo_init.2.1 150 = .ok (.ldc 61, 2) := by decide +kernel
theorem d_Mo_init_152 : decode m_Mo_init.2.1 152 = .ok (.newarray .int, 2) := by decide +kernel
theorem d_Mo_init_154 : decode m_Mo_init.2.1 154 = .ok (.putfield 62, 3) := by decide +kernel
theorem d_Mo_init_157 : decode m_Mo_init.2.1 157 = .ok (.aload_n 0, 1) := by decide +kernel
theorem d_Mo_init_158 : decode m_Mo_init.2.1 158 = .ok (.sipush 450, 3) := by decide +kernel
theorem d_Mo_init_161 : decode m_Mo_init.2.1 161 = .ok (.newarray .int, 2) := by decide +kernel
theorem d_Mo_init_163 : decode m_Mo_init.2.1 163 = .ok (.putfield 65, 3) := by decide +kernel
theorem d_Mo_init_166 : decode m_Mo_init.2.1 166 = .ok (.aload_n 0, 1) := by decide +kernel
theorem d_Mo_init_167 : decode m_Mo_init.2.1 167 = .ok (.iconst 3, 1) := by decide +kernel
theorem d_Mo_init_168 : decode m_Mo_init.2.1 168 = .ok (.newarray .int, 2) := by decide +kernel
theorem d_Mo_init_170 : decode m_Mo_init.2.1 170 = .ok (.putfield 68, 3) := by decide +kernel
theorem d_Mo_init_173 : decode m_Mo_init.2.1 173 = .ok (.aload_n 0, 1) := by decide +kernel
theorem d_Mo_init_174 : decode m_Mo_init.2.1 174 = .ok (.sipush 150, 3) := by decide +kernel
theorem d_Mo_init_177 : decode m_Mo_init.2.1 177 = .ok (.newarray .int, 2) := by decide +kernel
theorem d_Mo_init_179 : decode m_Mo_init.2.1 179 = .ok (.putfield 71, 3) := by decide +kernel
theorem d_Mo_init_182 : decode m_Mo_init.2.1 182 = .ok (.aload_n 0, 1) := by decide +kernel
theorem d_Mo_init_183 : decode m_Mo_init.2.1 183 = .ok (.sipush 150, 3) := by decide +kernel
theorem d_Mo_init_186 : decode m_Mo_init.2.1 186 = .ok (.newarray .int, 2) := by decide +kernel
theorem d_Mo_init_188 : decode m_Mo_init.2.1 188 = .ok (.putfield 74, 3) := by decide +kernel
theorem d_Mo_init_191 : decode m_Mo_init.2.1 191 = .ok (.aload_n 0, 1) := by decide +kernel
theorem d_Mo_init_192 : decode m_Mo_init.2.1 192 = .ok (.sipush 150, 3) := by decide +kernel
theorem d_Mo_init_195 : decode m_Mo_init.2.1 195 = .ok (.newarray .int, 2) := by decide +kernel
theorem d_Mo_init_197 : decode m_Mo_init.2.1 197 = .ok (.putfield 77, 3) := by decide +kernel
theorem d_Mo_init_200 : decode m_Mo_init.2.1 200 = .ok (.aload_n 0, 1) := by decide +kernel
theorem d_Mo_init_201 : decode m_Mo_init.2.1 201 = .ok (.bipush 7, 2) := by decide +kernel
theorem d_Mo_init_203 : decode m_Mo_init.2.1 203 = .ok (.newarray .int, 2) := by decide +kernel
theorem d_Mo_init_205 : decode m_Mo_init.2.1 205 = .ok (.putfield 80, 3) := by decide +kernel
theorem d_Mo_init_208 : decode m_Mo_init.2.1 208 = .ok (.aload_n 0, 1) := by decide +kernel
theorem d_Mo_init_209 : decode m_Mo_init.2.1 209 = .ok (.iconst 5, 1) := by decide +kernel
theorem d_Mo_init_210 : decode m_Mo_init.2.1 210 = .ok (.newarray .int, 2) := by decide +kernel
theorem d_Mo_init_212 : decode m_Mo_init.2.1 212 = .ok (.putfield 83, 3) := by decide +kernel
theorem d_Mo_init_215 : decode m_Mo_init.2.1 215 = .ok (.aload_n 0, 1) := by decide +kernel
theorem d_Mo_init_216 : decode m_Mo_init.2.1 216 = .ok (.iconst 2, 1) := by decide +kernel
theorem d_Mo_init_217 : decode m_Mo_init.2.1 217 = .ok (.newarray .int, 2) := by decide +kernel
theorem d_Mo_init_219 : decode m_Mo_init.2.1 219 = .ok (.putfield 86, 3) := by decide +kernel
theorem d_Mo_init_222 : decode m_Mo_init.2.1 222 = .ok (.aload_n 0, 1) := by decide +kernel
theorem d_Mo_init_223 : decode m_Mo_init.2.1 223 = .ok (.bipush 48, 2) := by decide +kernel
theorem d_Mo_init_225 : decode m_Mo_init.2.1 225 = .ok (.newarray .int, 2) := by decide +kernel
theorem d_Mo_init_227 : decode m_Mo_init.2.1 227 = .ok (.putfield 89, 3) := by decide +kernel
theorem d_Mo_init_230 : decode m_Mo_init.2.1 230 = .ok (.aload_n 0, 1) := by decide +kernel
theorem d_Mo_init_231 : decode m_Mo_init.2.1 231 = .ok (.bipush 120, 2) := by decide +kernel
theorem d_Mo_init_233 : decode m_Mo_init.2.1 233 = .ok (.newarray .int, 2) := by decide +kernel
theorem d_Mo_init_235 : decode m_Mo_init.2.1 235 = .ok (.putfield 92, 3) := by decide +kernel
theorem d_Mo_init_238 : decode m_Mo_init.2.1 238 = .ok (.aload_n 0, 1) := by decide +kernel
theorem d_Mo_init_239 : decode m_Mo_init.2.1 239 = .ok (.bipush 16, 2) := by decide +kernel
theorem d_Mo_init_241 : decode m_Mo_init.2.1 241 = .ok (.newarray .int, 2) := by decide +kernel
theorem d_Mo_init_243 : decode m_Mo_init.2.1 243 = .ok (.putfield 95, 3) := by decide +kernel
theorem d_Mo_init_246 : decode m_Mo_init.2.1 246 = .ok (.aload_n 0, 1) := by decide +kernel
theorem d_Mo_init_247 : decode m_Mo_init.2.1 247 = .ok (.bipush 48, 2) := by decide +kernel
theorem d_Mo_init_249 : decode m_Mo_init.2.1 249 = .ok (.newarray .int, 2) := by decide +kernel
theorem d_Mo_init_251 : decode m_Mo_init.2.1 251 = .ok (.putfield 98, 3) := by decide +kernel
theorem d_Mo_init_254 : decode m_Mo_init.2.1 254 = .ok (.aload_n 0, 1) := by decide +kernel
theorem d_Mo_init_255 : decode m_Mo_init.2.1 255 = .ok (.sipush 880, 3) := by decide +kernel
theorem d_Mo_init_258 : decode m_Mo_init.2.1 258 = .ok (.newarray .int, 2) := by decide +kernel
theorem d_Mo_init_260 : decode m_Mo_init.2.1 260 = .ok (.putfield 101, 3) := by decide +kernel
theorem d_Mo_init_263 : decode m_Mo_init.2.1 263 = .ok (.aload_n 0, 1) := by decide +kernel
theorem d_Mo_init_264 : decode m_Mo_init.2.1 264 = .ok (.iconst 4, 1) := by decide +kernel
theorem d_Mo_init_265 : decode m_Mo_init.2.1 265 = .ok (.newarray .long, 2) := by decide +kernel
theorem d_Mo_init_267 : decode m_Mo_init.2.1 267 = .ok (.putfield 104, 3) := by decide +kernel
theorem d_Mo_init_270 : decode m_Mo_init.2.1 270 = .ok (.aload_n 0, 1) := by decide +kernel
theorem d_Mo_init_271 : decode m_Mo_init.2.1 271 = .ok (.sipush 200, 3) := by decide +kernel
theorem d_Mo_init_274 : decode m_Mo_init.2.1 274 = .ok (.newarray .int, 2) := by decide +kernel
theorem d_Mo_init_276 : decode m_Mo_init.2.1 276 = .ok (.putfield 108, 3) := by decide +kernel
theorem d_Mo_init_279 : decode m_Mo_init.2.1 279 = .ok (.aload_n 0, 1) := by decide +kernel
theorem d_Mo_init_280 : decode m_Mo_init.2.1 280 = .ok (.iconst 2, 1) := by decide +kernel
theorem d_Mo_init_281 : decode m_Mo_init.2.1 281 = .ok (.newarray .int, 2) := by decide +kernel
theorem d_Mo_init_283 : decode m_Mo_init.2.1 283 = .ok (.putfield 111, 3) := by decide +kernel
theorem d_Mo_init_286 : decode m_Mo_init.2.1 286 = .ok (.return_, 1) := by decide +kernel
theorem d_Mo_thrown_0 : decode m_Mo_thrown.2.1 0 = .ok (.aload_n 0, 1) := by decide +kernel
theorem d_Mo_thrown_1 : decode m_Mo_thrown.2.1 1 = .ok (.getfield 114, 3) := by decide +kernel
theorem d_Mo_thrown_4 : decode m_Mo_thrown.2.1 4 = .ok (.ireturn, 1) := by decide +kernel
theorem d_Mo_sign1_0 : decode m_Mo_sign1.2.1 0 = .ok (.aload_n 0, 1) := by decide +kernel
theorem d_Mo_sign1_1 : decode m_Mo_sign1.2.1 1 = .ok (.iconst 0, 1) := by decide +kernel
theorem d_Mo_sign1_2 : decode m_Mo_sign1.2.1 2 = .ok (.putfield 114, 3) := by decide +kernel
theorem d_Mo_sign1_5 : decode m_Mo_sign1.2.1 5 = .ok (.aload_n 0, 1) := by decide +kernel
theorem d_Mo_sign1_6 : decode m_Mo_sign1.2.1 6 = .ok (.getfield 118, 3) := by decide +kernel
theorem d_Mo_sign1_9 : decode m_Mo_sign1.2.1 9 = .ok (.sipush 500, 3) := by decide +kernel
theorem d_Mo_sign1_12 : decode m_Mo_sign1.2.1 12 = .ok (.if_icmp .ne 4, 3) := by decide +kernel
theorem d_Mo_sign1_15 : decode m_Mo_sign1.2.1 15 = .ok (.return_, 1) := by decide +kernel
theorem d_Mo_sign1_16 : decode m_Mo_sign1.2.1 16 = .ok (.aload_n 0, 1) := by decide +kernel
theorem d_Mo_sign1_17 : decode m_Mo_sign1.2.1 17 = .ok (.getfield 7, 3) := by decide +kernel
theorem d_Mo_sign1_20 : decode m_Mo_sign1.2.1 20 = .ok (.aload_n 0, 1) := by decide +kernel
theorem d_Mo_sign1_21 : decode m_Mo_sign1.2.1 21 = .ok (.getfield 118, 3) := by decide +kernel
theorem d_Mo_sign1_24 : decode m_Mo_sign1.2.1 24 = .ok (.iload_n 1, 1) := by decide +kernel
theorem d_Mo_sign1_25 : decode m_Mo_sign1.2.1 25 = .ok (.ifCond .ge 7, 3) := by decide +kernel
theorem d_Mo_sign1_28 : decode m_Mo_sign1.2.1 28 = .ok (.iconst 0, 1) := by decide +kernel
theorem d_Mo_sign1_29 : decode m_Mo_sign1.2.1 29 = .ok (.goto 4, 3) := by decide +kernel
theorem d_Mo_sign1_32 : decode m_Mo_sign1.2.1 32 = .ok (.iload_n 1, 1) := by decide +kernel
theorem d_Mo_sign1_33 : decode m_Mo_sign1.2.1 33 = .ok (.iastore, 1) := by decide +kernel
theorem d_Mo_sign1_34 : decode m_Mo_sign1.2.1 34 = .ok (.aload_n 0, 1) := by decide +kernel
theorem d_Mo_sign1_35 : decode m_Mo_sign1.2.1 35 = .ok (.dup, 1) := by decide +kernel
theorem d_Mo_sign1_36 : decode m_Mo_sign1.2.1 36 = .ok (.getfield 118, 3) := by decide +kernel
theorem d_Mo_sign1_39 : decode m_Mo_sign1.2.1 39 = .ok (.iconst 1, 1) := by decide +kernel
theorem d_Mo_sign1_40 : decode m_Mo_sign1.2.1 40 = .ok (.iadd, 1) := by decide +kernel
theorem d_Mo_sign1_41 : decode m_Mo_sign1.2.1 41 = .ok (.putfield 118, 3) := by decide +kernel
theorem d_Mo_sign1_44 : decode m_Mo_sign1.2.1 44 = .ok (.return_, 1) := by decide +kernel
theorem d_Mo_at_0 : decode m_Mo_at.2.1 0 = .ok (.iload_n 1, 1) := by decide +kernel
theorem d_Mo_at_1 : decode m_Mo_at.2.1 1 = .ok (.aload_n 0, 1) := by decide +kernel
theorem d_Mo_at_2 : decode m_Mo_at.2.1 2 = .ok (.getfield 118, 3) := by decide +kernel
theorem d_Mo_at_5 : decode m_Mo_at.2.1 5 = .ok (.if_icmp .ge 12, 3) := by decide +kernel
theorem d_Mo_at_8 : decode m_Mo_at.2.1 8 = .ok (.aload_n 0, 1) := by decide +kernel
theorem d_Mo_at_9 : decode m_Mo_at.2.1 9 = .ok (.getfield 7, 3) := by decide +kernel
theorem d_Mo_at_12 : decode m_Mo_at.2.1 12 = .ok (.iload_n 1, 1) := by decide +kernel
theorem d_Mo_at_13 : decode m_Mo_at.2.1 13 = .ok (.iaload, 1) := by decide +kernel
theorem d_Mo_at_14 : decode m_Mo_at.2.1 14 = .ok (.goto 4, 3) := by decide +kernel
theorem d_Mo_at_17 : decode m_Mo_at.2.1 17 = .ok (.iconst (-1), 1) := by decide +kernel
theorem d_Mo_at_18 : decode m_Mo_at.2.1 18 = .ok (.ireturn, 1) := by decide +kernel
theorem d_Mo_sign_0 : decode m_Mo_sign.2.1 0 = .ok (.aload_n 0, 1) := by decide +kernel
theorem d_Mo_sign_1 : decode m_Mo_sign.2.1 1 = .ok (.aload_n 0, 1) := by decide +kernel
theorem d_Mo_sign_2 : decode m_Mo_sign.2.1 2 = .ok (.getfield 121, 3) := by decide +kernel
theorem d_Mo_sign_5 : decode m_Mo_sign.2.1 5 = .ok (.invokevirtual 124, 3) := by decide +kernel
theorem d_Mo_sign_8 : decode m_Mo_sign.2.1 8 = .ok (.bipush 32, 2) := by decide +kernel
theorem d_Mo_sign_10 : decode m_Mo_sign.2.1 10 = .ok (.if_icmp .eq 16, 3) := by decide +kernel
theorem d_Mo_sign_13 : decode m_Mo_sign.2.1 13 = .ok (.aload_n 0, 1) := by decide +kernel
theorem d_Mo_sign_14 : decode m_Mo_sign.2.1 14 = .ok (.aload_n 0, 1) := by decide +kernel
theorem d_Mo_sign_15 : decode m_Mo_sign.2.1 15 = .ok (.getfield 121, 3) := by decide +kernel
theorem d_Mo_sign_18 : decode m_Mo_sign.2.1 18 = .ok (.invokevirtual 124, 3) := by decide +kernel
theorem d_Mo_sign_21 : decode m_Mo_sign.2.1 21 = .ok (.bipush 10, 2) := by decide +kernel
theorem d_Mo_sign_23 : decode m_Mo_sign.2.1 23 = .ok (.if_icmp .ne 16, 3) := by decide +kernel
theorem d_Mo_sign_26 : decode m_Mo_sign.2.1 26 = .ok (.aload_n 0, 1) := by decide +kernel
theorem d_Mo_sign_27 : decode m_Mo_sign.2.1 27 = .ok (.dup, 1) := by decide +kernel
theorem d_Mo_sign_28 : decode m_Mo_sign.2.1 28 = .ok (.getfield 121, 3) := by decide +kernel
theorem d_Mo_sign_31 : decode m_Mo_sign.2.1 31 = .ok (.iconst 1, 1) := by decide +kernel
theorem d_Mo_sign_32 : decode m_Mo_sign.2.1 32 = .ok (.iadd, 1) := by decide +kernel
theorem d_Mo_sign_33 : decode m_Mo_sign.2.1 33 = .ok (.putfield 121, 3) := by decide +kernel
theorem d_Mo_sign_36 : decode m_Mo_sign.2.1 36 = .ok (.goto (-36), 3) := by decide +kernel
theorem d_Mo_sign_39 : decode m_Mo_sign.2.1 39 = .ok (.aload_n 0, 1) := by decide +kernel
theorem d_Mo_sign_40 : decode m_Mo_sign.2.1 40 = .ok (.aload_n 0, 1) := by decide +kernel
theorem d_Mo_sign_41 : decode m_Mo_sign.2.1 41 = .ok (.getfield 121, 3) := by decide +kernel
theorem d_Mo_sign_44 : decode m_Mo_sign.2.1 44 = .ok (.invokevirtual 124, 3) := by decide +kernel
theorem d_Mo_sign_47 : decode m_Mo_sign.2.1 47 = .ok (.ireturn, 1) := by decide +kernel
theorem d_Mo_isSmall_0 : decode m_Mo_isSmall.2.1 0 = .ok (.aload_n 0, 1) := by decide +kernel
theorem d_Mo_isSmall_1 : decode m_Mo_isSmall.2.1 1 = .ok (.iload_n 1, 1) := by decide +kernel
theorem d_Mo_isSmall_2 : decode m_Mo_isSmall.2.1 2 = .ok (.invokevirtual 124, 3) := by decide +kernel
theorem d_Mo_isSmall_5 : decode m_Mo_isSmall.2.1 5 = .ok (.bipush 97, 2) := by decide +kernel
theorem d_Mo_isSmall_7 : decode m_Mo_isSmall.2.1 7 = .ok (.if_icmp .lt 17, 3) := by decide +kernel
theorem d_Mo_isSmall_10 : decode m_Mo_isSmall.2.1 10 = .ok (.aload_n 0, 1) := by decide +kernel
theorem d_Mo_isSmall_11 : decode m_Mo_isSmall.2.1 11 = .ok (.iload_n 1, 1) := by decide +kernel
theorem d_Mo_isSmall_12 : decode m_Mo_isSmall.2.1 12 = .ok (.invokevirtual 124, 3) := by decide +kernel
theorem d_Mo_isSmall_15 : decode m_Mo_isSmall.2.1 15 = .ok (.bipush 122, 2) := by decide +kernel
theorem d_Mo_isSmall_17 : decode m_Mo_isSmall.2.1 17 = .ok (.if_icmp .gt 7, 3) := by decide +kernel
theorem d_Mo_isSmall_20 : decode m_Mo_isSmall.2.1 20 = .ok (.iconst 1, 1) := by decide +kernel
theorem d_Mo_isSmall_21 : decode m_Mo_isSmall.2.1 21 = .ok (.goto 4, 3) := by decide +kernel
theorem d_Mo_isSmall_24 : decode m_Mo_isSmall.2.1 24 = .ok (.iconst 0, 1) := by decide +kernel
theorem d_Mo_isSmall_25 : decode m_Mo_isSmall.2.1 25 = .ok (.ireturn, 1) := by decide +kernel
theorem d_Mo_isDigit_0 : decode m_Mo_isDigit.2.1 0 = .ok (.aload_n 0, 1) := by decide +kernel
theorem d_Mo_isDigit_1 : decode m_Mo_isDigit.2.1 1 = .ok (.iload_n 1, 1) := by decide +kernel
theorem d_Mo_isDigit_2 : decode m_Mo_isDigit.2.1 2 = .ok (.invokevirtual 124, 3) := by decide +kernel
theorem d_Mo_isDigit_5 : decode m_Mo_isDigit.2.1 5 = .ok (.bipush 48, 2) := by decide +kernel
theorem d_Mo_isDigit_7 : decode m_Mo_isDigit.2.1 7 = .ok (.if_icmp .lt 17, 3) := by decide +kernel
theorem d_Mo_isDigit_10 : decode m_Mo_isDigit.2.1 10 = .ok (.aload_n 0, 1) := by decide +kernel
theorem d_Mo_isDigit_11 : decode m_Mo_isDigit.2.1 11 = .ok (.iload_n 1, 1) := by decide +kernel
theorem d_Mo_isDigit_12 : decode m_Mo_isDigit.2.1 12 = .ok (.invokevirtual 124, 3) := by decide +kernel
theorem d_Mo_isDigit_15 : decode m_Mo_isDigit.2.1 15 = .ok (.bipush 57, 2) := by decide +kernel
theorem d_Mo_isDigit_17 : decode m_Mo_isDigit.2.1 17 = .ok (.if_icmp .gt 7, 3) := by decide +kernel
theorem d_Mo_isDigit_20 : decode m_Mo_isDigit.2.1 20 = .ok (.iconst 1, 1) := by decide +kernel
theorem d_Mo_isDigit_21 : decode m_Mo_isDigit.2.1 21 = .ok (.goto 4, 3) := by decide +kernel
theorem d_Mo_isDigit_24 : decode m_Mo_isDigit.2.1 24 = .ok (.iconst 0, 1) := by decide +kernel
theorem d_Mo_isDigit_25 : decode m_Mo_isDigit.2.1 25 = .ok (.ireturn, 1) := by decide +kernel
theorem d_Mo_number_0 : decode m_Mo_number.2.1 0 = .ok (.aload_n 0, 1) := by decide +kernel
theorem d_Mo_number_1 : decode m_Mo_number.2.1 1 = .ok (.invokevirtual 128, 3) := by decide +kernel
theorem d_Mo_number_4 : decode m_Mo_number.2.1 4 = .ok (.pop, 1) := by decide +kernel
theorem d_Mo_number_5 : decode m_Mo_number.2.1 5 = .ok (.aload_n 0, 1) := by decide +kernel
theorem d_Mo_number_6 : decode m_Mo_number.2.1 6 = .ok (.aload_n 0, 1) := by decide +kernel
theorem d_Mo_number_7 : decode m_Mo_number.2.1 7 = .ok (.getfield 121, 3) := by decide +kernel
theorem d_Mo_number_10 : decode m_Mo_number.2.1 10 = .ok (.invokevirtual 132, 3) := by decide +kernel
theorem d_Mo_number_13 : decode m_Mo_number.2.1 13 = .ok (.ifCond .ne 5, 3) := by decide +kernel
theorem d_Mo_number_16 : decode m_Mo_number.2.1 16 = .ok (.iconst (-1), 1) := by decide +kernel
theorem d_Mo_number_17 : decode m_Mo_number.2.1 17 = .ok (.ireturn, 1) := by decide +kernel
theorem d_Mo_number_18 : decode m_Mo_number.2.1 18 = .ok (.iconst 0, 1) := by decide +kernel
theorem d_Mo_number_19 : decode m_Mo_number.2.1 19 = .ok (.istore_n 3, 1) := by decide +kernel
theorem d_Mo_number_20 : decode m_Mo_number.2.1 20 = .ok (.iconst 0, 1) := by decide +kernel
theorem d_Mo_number_21 : decode m_Mo_number.2.1 21 = .ok (.istore 4, 2) := by decide +kernel
theorem d_Mo_number_23 : decode m_Mo_number.2.1 23 = .ok (.aload_n 0, 1) := by decide +kernel
theorem d_Mo_number_24 : decode m_Mo_number.2.1 24 = .ok (.aload_n 0, 1) := by decide +kernel
theorem d_Mo_number_25 : decode m_Mo_number.2.1 25 = .ok (.getfield 121, 3) := by decide +kernel
theorem d_Mo_number_28 : decode m_Mo_number.2.1 28 = .ok (.invokevirtual 132, 3) := by decide +kernel
theorem d_Mo_number_31 : decode m_Mo_number.2.1 31 = .ok (.ifCond .eq 44, 3) := by decide +kernel
theorem d_Mo_number_34 : decode m_Mo_number.2.1 34 = .ok (.iload 4, 2) := by decide +kernel
theorem d_Mo_number_36 : decode m_Mo_number.2.1 36 = .ok (.iconst 4, 1) := by decide +kernel
theorem d_Mo_number_37 : decode m_Mo_number.2.1 37 = .ok (.if_icmp .ne 5, 3) := by decide +kernel
theorem d_Mo_number_40 : decode m_Mo_number.2.1 40 = .ok (.iconst (-1), 1) := by decide +kernel
theorem d_Mo_number_41 : decode m_Mo_number.2.1 41 = .ok (.ireturn, 1) := by decide +kernel
theorem d_Mo_number_42 : decode m_Mo_number.2.1 42 = .ok (.bipush 10, 2) := by decide +kernel
theorem d_Mo_number_44 : decode m_Mo_number.2.1 44 = .ok (.iload_n 3, 1) := by decide +kernel
theorem d_Mo_number_45 : decode m_Mo_number.2.1 45 = .ok (.imul, 1) := by decide +kernel
theorem d_Mo_number_46 : decode m_Mo_number.2.1 46 = .ok (.aload_n 0, 1) := by decide +kernel
theorem d_Mo_number_47 : decode m_Mo_number.2.1 47 = .ok (.aload_n 0, 1) := by decide +kernel
theorem d_Mo_number_48 : decode m_Mo_number.2.1 48 = .ok (.getfield 121, 3) := by decide +kernel
theorem d_Mo_number_51 : decode m_Mo_number.2.1 51 = .ok (.invokevirtual 124, 3) := by decide +kernel
theorem d_Mo_number_54 : decode m_Mo_number.2.1 54 = .ok (.iadd, 1) := by decide +kernel
theorem d_Mo_number_55 : decode m_Mo_number.2.1 55 = .ok (.bipush 48, 2) := by decide +kernel
theorem d_Mo_number_57 : decode m_Mo_number.2.1 57 = .ok (.isub, 1) := by decide +kernel
theorem d_Mo_number_58 : decode m_Mo_number.2.1 58 = .ok (.istore_n 3, 1) := by decide +kernel
theorem d_Mo_number_59 : decode m_Mo_number.2.1 59 = .ok (.aload_n 0, 1) := by decide +kernel
theorem d_Mo_number_60 : decode m_Mo_number.2.1 60 = .ok (.dup, 1) := by decide +kernel
theorem d_Mo_number_61 : decode m_Mo_number.2.1 61 = .ok (.getfield 121, 3) := by decide +kernel
theorem d_Mo_number_64 : decode m_Mo_number.2.1 64 = .ok (.iconst 1, 1) := by decide +kernel
theorem d_Mo_number_65 : decode m_Mo_number.2.1 65 = .ok (.iadd, 1) := by decide +kernel
theorem d_Mo_number_66 : decode m_Mo_number.2.1 66 = .ok (.putfield 121, 3) := by decide +kernel
theorem d_Mo_number_69 : decode m_Mo_number.2.1 69 = .ok (.iinc 4 1, 3) := by decide +kernel
theorem d_Mo_number_72 : decode m_Mo_number.2.1 72 = .ok (.goto (-49), 3) := by decide +kernel
theorem d_Mo_number_75 : decode m_Mo_number.2.1 75 = .ok (.iload_n 3, 1) := by decide +kernel
theorem d_Mo_number_76 : decode m_Mo_number.2.1 76 = .ok (.iload_n 1, 1) := by decide +kernel
theorem d_Mo_number_77 : decode m_Mo_number.2.1 77 = .ok (.if_icmp .lt 8, 3) := by decide +kernel
theorem d_Mo_number_80 : decode m_Mo_number.2.1 80 = .ok (.iload_n 3, 1) := by decide +kernel
theorem d_Mo_number_81 : decode m_Mo_number.2.1 81 = .ok (.iload_n 2, 1) := by decide +kernel
theorem d_Mo_number_82 : decode m_Mo_number.2.1 82 = .ok (.if_icmp .le 7, 3) := by decide +kernel
theorem d_Mo_number_85 : decode m_Mo_number.2.1 85 = .ok (.iconst (-1), 1) := by decide +kernel
theorem d_Mo_number_86 : decode m_Mo_number.2.1 86 = .ok (.goto 4, 3) := by decide +kernel
theorem d_Mo_number_89 : decode m_Mo_number.2.1 89 = .ok (.iload_n 3, 1) := by decide +kernel
theorem d_Mo_number_90 : decode m_Mo_number.2.1 90 = .ok (.ireturn, 1) := by decide +kernel
theorem d_Mo_meets_0 : decode m_Mo_meets.2.1 0 = .ok (.aload_n 0, 1) := by decide +kernel
theorem d_Mo_meets_1 : decode m_Mo_meets.2.1 1 = .ok (.invokevirtual 128, 3) := by decide +kernel
theorem d_Mo_meets_4 : decode m_Mo_meets.2.1 4 = .ok (.iload_n 1, 1) := by decide +kernel
theorem d_Mo_meets_5 : decode m_Mo_meets.2.1 5 = .ok (.if_icmp .eq 5, 3) := by decide +kernel
theorem d_Mo_meets_8 : decode m_Mo_meets.2.1 8 = .ok (.iconst 0, 1) := by decide +kernel
theorem d_Mo_meets_9 : decode m_Mo_meets.2.1 9 = .ok (.ireturn, 1) := by decide +kernel
theorem d_Mo_meets_10 : decode m_Mo_meets.2.1 10 = .ok (.aload_n 0, 1) := by decide +kernel
theorem d_Mo_meets_11 : decode m_Mo_meets.2.1 11 = .ok (.dup, 1) := by decide +kernel
theorem d_Mo_meets_12 : decode m_Mo_meets.2.1 12 = .ok (.getfield 121, 3) := by decide +kernel
theorem d_Mo_meets_15 : decode m_Mo_meets.2.1 15 = .ok (.iconst 1, 1) := by decide +kernel
theorem d_Mo_meets_16 : decode m_Mo_meets.2.1 16 = .ok (.iadd, 1) := by decide +kernel
theorem d_Mo_meets_17 : decode m_Mo_meets.2.1 17 = .ok (.putfield 121, 3) := by decide +kernel
theorem d_Mo_meets_20 : decode m_Mo_meets.2.1 20 = .ok (.iconst 1, 1) := by decide +kernel
theorem d_Mo_meets_21 : decode m_Mo_meets.2.1 21 = .ok (.ireturn, 1) := by decide +kernel
theorem d_Mo_field_0 : decode m_Mo_field.2.1 0 = .ok (.aload_n 0, 1) := by decide +kernel
theorem d_Mo_field_1 : decode m_Mo_field.2.1 1 = .ok (.iconst 1, 1) := by decide +kernel
theorem d_Mo_field_2 : decode m_Mo_field.2.1 2 = .ok (.bipush 100, 2) := by decide +kernel
theorem d_Mo_field_4 : decode m_Mo_field.2.1 4 = .ok (.invokevirtual 136, 3) := by decide +kernel
theorem d_Mo_field_7 : decode m_Mo_field.2.1 7 = .ok (.istore 4, 2) := by decide +kernel
theorem d_Mo_field_9 : decode m_Mo_field.2.1 9 = .ok (.iload 4, 2) := by decide +kernel
theorem d_Mo_field_11 : decode m_Mo_field.2.1 11 = .ok (.iconst (-1), 1) := by decide +kernel
theorem d_Mo_field_12 : decode m_Mo_field.2.1 12 = .ok (.if_icmp .eq 12, 3) := by decide +kernel
theorem d_Mo_field_15 : decode m_Mo_field.2.1 15 = .ok (.aload_n 0, 1) := by decide +kernel
theorem d_Mo_field_16 : decode m_Mo_field.2.1 16 = .ok (.bipush 44, 2) := by decide +kernel
theorem d_Mo_field_18 : decode m_Mo_field.2.1 18 = .ok (.invokevirtual 140, 3) := by decide +kernel
theorem d_Mo_field_21 : decode m_Mo_field.2.1 21 = .ok (.ifCond .ne 5, 3) := by decide +kernel
theorem d_Mo_field_24 : decode m_Mo_field.2.1 24 = .ok (.iconst 0, 1) := by decide +kernel
theorem d_Mo_field_25 : decode m_Mo_field.2.1 25 = .ok (.ireturn, 1) := by decide +kernel
theorem d_Mo_field_26 : decode m_Mo_field.2.1 26 = .ok (.aload_n 0, 1) := by decide +kernel
theorem d_Mo_field_27 : decode m_Mo_field.2.1 27 = .ok (.iconst 1, 1) := by decide +kernel
theorem d_Mo_field_28 : decode m_Mo_field.2.1 28 = .ok (.iload_n 3, 1) := by decide +kernel
theorem d_Mo_field_29 : decode m_Mo_field.2.1 29 = .ok (.invokevirtual 136, 3) := by decide +kernel
theorem d_Mo_field_32 : decode m_Mo_field.2.1 32 = .ok (.istore 5, 2) := by decide +kernel
theorem d_Mo_field_34 : decode m_Mo_field.2.1 34 = .ok (.iload 5, 2) := by decide +kernel
theorem d_Mo_field_36 : decode m_Mo_field.2.1 36 = .ok (.iconst (-1), 1) := by decide +kernel
theorem d_Mo_field_37 : decode m_Mo_field.2.1 37 = .ok (.if_icmp .eq 15, 3) := by decide +kernel
theorem d_Mo_field_40 : decode m_Mo_field.2.1 40 = .ok (.iload 4, 2) := by decide +kernel
theorem d_Mo_field_42 : decode m_Mo_field.2.1 42 = .ok (.iload 5, 2) := by decide +kernel
theorem d_Mo_field_44 : decode m_Mo_field.2.1 44 = .ok (.iadd, 1) := by decide +kernel
theorem d_Mo_field_45 : decode m_Mo_field.2.1 45 = .ok (.iconst 1, 1) := by decide +kernel
theorem d_Mo_field_46 : decode m_Mo_field.2.1 46 = .ok (.isub, 1) := by decide +kernel
theorem d_Mo_field_47 : decode m_Mo_field.2.1 47 = .ok (.bipush 100, 2) := by decide +kernel
theorem d_Mo_field_49 : decode m_Mo_field.2.1 49 = .ok (.if_icmp .le 5, 3) := by decide +kernel
theorem d_Mo_field_52 : decode m_Mo_field.2.1 52 = .ok (.iconst 0, 1) := by decide +kernel
theorem d_Mo_field_53 : decode m_Mo_field.2.1 53 = .ok (.ireturn, 1) := by decide +kernel
theorem d_Mo_field_54 : decode m_Mo_field.2.1 54 = .ok (.aload_n 1, 1) := by decide +kernel
theorem d_Mo_field_55 : decode m_Mo_field.2.1 55 = .ok (.iload_n 2, 1) := by decide +kernel
theorem d_Mo_field_56 : decode m_Mo_field.2.1 56 = .ok (.iload 4, 2) := by decide +kernel
theorem d_Mo_field_58 : decode m_Mo_field.2.1 58 = .ok (.iastore, 1) := by decide +kernel
theorem d_Mo_field_59 : decode m_Mo_field.2.1 59 = .ok (.aload_n 1, 1) := by decide +kernel
theorem d_Mo_field_60 : decode m_Mo_field.2.1 60 = .ok (.iload_n 2, 1) := by decide +kernel
theorem d_Mo_field_61 : decode m_Mo_field.2.1 61 = .ok (.iconst 1, 1) := by decide +kernel
theorem d_Mo_field_62 : decode m_Mo_field.2.1 62 = .ok (.iadd, 1) := by decide +kernel
theorem d_Mo_field_63 : decode m_Mo_field.2.1 63 = .ok (.iload 5, 2) := by decide +kernel
theorem d_Mo_field_65 : decode m_Mo_field.2.1 65 = .ok (.iastore, 1) := by decide +kernel
theorem d_Mo_field_66 : decode m_Mo_field.2.1 66 = .ok (.iconst 1, 1) := by decide +kernel
theorem d_Mo_field_67 : decode m_Mo_field.2.1 67 = .ok (.ireturn, 1) := by decide +kernel
theorem d_Mo_letters_0 : decode m_Mo_letters.2.1 0 = .ok (.aload_n 0, 1) := by decide +kernel
theorem d_Mo_letters_1 : decode m_Mo_letters.2.1 1 = .ok (.dup, 1) := by decide +kernel
theorem d_Mo_letters_2 : decode m_Mo_letters.2.1 2 = .ok (.getfield 121, 3) := by decide +kernel
theorem d_Mo_letters_5 : decode m_Mo_letters.2.1 5 = .ok (.iconst 1, 1) := by decide +kernel
theorem d_Mo_letters_6 : decode m_Mo_letters.2.1 6 = .ok (.iadd, 1) := by decide +kernel
theorem d_Mo_letters_7 : decode m_Mo_letters.2.1 7 = .ok (.putfield 121, 3) := by decide +kernel
theorem d_Mo_letters_10 : decode m_Mo_letters.2.1 10 = .ok (.iconst 0, 1) := by decide +kernel
theorem d_Mo_letters_11 : decode m_Mo_letters.2.1 11 = .ok (.istore_n 2, 1) := by decide +kernel
theorem d_Mo_letters_12 : decode m_Mo_letters.2.1 12 = .ok (.aload_n 0, 1) := by decide +kernel
theorem d_Mo_letters_13 : decode m_Mo_letters.2.1 13 = .ok (.aload_n 0, 1) := by decide +kernel
theorem d_Mo_letters_14 : decode m_Mo_letters.2.1 14 = .ok (.getfield 121, 3) := by decide +kernel
theorem d_Mo_letters_17 : decode m_Mo_letters.2.1 17 = .ok (.invokevirtual 124, 3) := by decide +kernel
theorem d_Mo_letters_20 : decode m_Mo_letters.2.1 20 = .ok (.bipush 39, 2) := by decide +kernel
theorem d_Mo_letters_22 : decode m_Mo_letters.2.1 22 = .ok (.if_icmp .eq 69, 3) := by decide +kernel
theorem d_Mo_letters_25 : decode m_Mo_letters.2.1 25 = .ok (.aload_n 0, 1) := by decide +kernel
theorem d_Mo_letters_26 : decode m_Mo_letters.2.1 26 = .ok (.aload_n 0, 1) := by decide +kernel
theorem d_Mo_letters_27 : decode m_Mo_letters.2.1 27 = .ok (.getfield 121, 3) := by decide +kernel
theorem d_Mo_letters_30 : decode m_Mo_letters.2.1 30 = .ok (.invokevirtual 124, 3) := by decide +kernel
theorem d_Mo_letters_33 : decode m_Mo_letters.2.1 33 = .ok (.bipush 32, 2) := by decide +kernel
theorem d_Mo_letters_35 : decode m_Mo_letters.2.1 35 = .ok (.if_icmp .lt 22, 3) := by decide +kernel
theorem d_Mo_letters_38 : decode m_Mo_letters.2.1 38 = .ok (.aload_n 0, 1) := by decide +kernel
theorem d_Mo_letters_39 : decode m_Mo_letters.2.1 39 = .ok (.aload_n 0, 1) := by decide +kernel
theorem d_Mo_letters_40 : decode m_Mo_letters.2.1 40 = .ok (.getfield 121, 3) := by decide +kernel
theorem d_Mo_letters_43 : decode m_Mo_letters.2.1 43 = .ok (.invokevirtual 124, 3) := by decide +kernel
theorem d_Mo_letters_46 : decode m_Mo_letters.2.1 46 = .ok (.bipush 126, 2) := by decide +kernel
theorem d_Mo_letters_48 : decode m_Mo_letters.2.1 48 = .ok (.if_icmp .gt 9, 3) := by decide +kernel
theorem d_Mo_letters_51 : decode m_Mo_letters.2.1 51 = .ok (.iload_n 2, 1) := by decide +kernel
theorem d_Mo_letters_52 : decode m_Mo_letters.2.1 52 = .ok (.bipush 20, 2) := by decide +kernel
theorem d_Mo_letters_54 : decode m_Mo_letters.2.1 54 = .ok (.if_icmp .ne 5, 3) := by decide +kernel
theorem d_Mo_letters_57 : decode m_Mo_letters.2.1 57 = .ok (.iconst (-1), 1) := by decide +kernel
theorem d_Mo_letters_58 : decode m_Mo_letters.2.1 58 = .ok (.ireturn, 1) := by decide +kernel
theorem d_Mo_letters_59 : decode m_Mo_letters.2.1 59 = .ok (.aload_n 0, 1) := by decide +kernel
theorem d_Mo_letters_60 : decode m_Mo_letters.2.1 60 = .ok (.getfield 34, 3) := by decide +kernel
theorem d_Mo_letters_63 : decode m_Mo_letters.2.1 63 = .ok (.iload_n 1, 1) := by decide +kernel
theorem d_Mo_letters_64 : decode m_Mo_letters.2.1 64 = .ok (.iload_n 2, 1) := by decide +kernel
theorem d_Mo_letters_65 : decode m_Mo_letters.2.1 65 = .ok (.iadd, 1) := by decide +kernel
theorem d_Mo_letters_66 : decode m_Mo_letters.2.1 66 = .ok (.aload_n 0, 1) := by decide +kernel
theorem d_Mo_letters_67 : decode m_Mo_letters.2.1 67 = .ok (.aload_n 0, 1) := by decide +kernel
theorem d_Mo_letters_68 : decode m_Mo_letters.2.1 68 = .ok (.getfield 121, 3) := by decide +kernel
theorem d_Mo_letters_71 : decode m_Mo_letters.2.1 71 = .ok (.invokevirtual 124, 3) := by decide +kernel
theorem d_Mo_letters_74 : decode m_Mo_letters.2.1 74 = .ok (.iastore, 1) := by decide +kernel
theorem d_Mo_letters_75 : decode m_Mo_letters.2.1 75 = .ok (.iinc 2 1, 3) := by decide +kernel
theorem d_Mo_letters_78 : decode m_Mo_letters.2.1 78 = .ok (.aload_n 0, 1) := by decide +kernel
theorem d_Mo_letters_79 : decode m_Mo_letters.2.1 79 = .ok (.dup, 1) := by decide +kernel
theorem d_Mo_letters_80 : decode m_Mo_letters.2.1 80 = .ok (.getfield 121, 3) := by decide +kernel
theorem d_Mo_letters_83 : decode m_Mo_letters.2.1 83 = .ok (.iconst 1, 1) := by decide +kernel
theorem d_Mo_letters_84 : decode m_Mo_letters.2.1 84 = .ok (.iadd, 1) := by decide +kernel
theorem d_Mo_letters_85 : decode m_Mo_letters.2.1 85 = .ok (.putfield 121, 3) := by decide +kernel
theorem d_Mo_letters_88 : decode m_Mo_letters.2.1 88 = .ok (.goto (-76), 3) := by decide +kernel
theorem d_Mo_letters_91 : decode m_Mo_letters.2.1 91 = .ok (.iload_n 2, 1) := by decide +kernel
theorem d_Mo_letters_92 : decode m_Mo_letters.2.1 92 = .ok (.ifCond .ne 5, 3) := by decide +kernel
theorem d_Mo_letters_95 : decode m_Mo_letters.2.1 95 = .ok (.iconst (-1), 1) := by decide +kernel
theorem d_Mo_letters_96 : decode m_Mo_letters.2.1 96 = .ok (.ireturn, 1) := by decide +kernel
theorem d_Mo_letters_97 : decode m_Mo_letters.2.1 97 = .ok (.aload_n 0, 1) := by decide +kernel
theorem d_Mo_letters_98 : decode m_Mo_letters.2.1 98 = .ok (.dup, 1) := by decide +kernel
theorem d_Mo_letters_99 : decode m_Mo_letters.2.1 99 = .ok (.getfield 121, 3) := by decide +kernel
theorem d_Mo_letters_102 : decode m_Mo_letters.2.1 102 = .ok (.iconst 1, 1) := by decide +kernel
theorem d_Mo_letters_103 : decode m_Mo_letters.2.1 103 = .ok (.iadd, 1) := by decide +kernel
theorem d_Mo_letters_104 : decode m_Mo_letters.2.1 104 = .ok (.putfield 121, 3) := by decide +kernel
theorem d_Mo_letters_107 : decode m_Mo_letters.2.1 107 = .ok (.iload_n 2, 1) := by decide +kernel
theorem d_Mo_letters_108 : decode m_Mo_letters.2.1 108 = .ok (.ireturn, 1) := by decide +kernel
theorem d_Mo_key_0 : decode m_Mo_key.2.1 0 = .ok (.aload_n 0, 1) := by decide +kernel
theorem d_Mo_key_1 : decode m_Mo_key.2.1 1 = .ok (.getfield 16, 3) := by decide +kernel
theorem d_Mo_key_4 : decode m_Mo_key.2.1 4 = .ok (.iconst 1, 1) := by decide +kernel
theorem d_Mo_key_5 : decode m_Mo_key.2.1 5 = .ok (.iaload, 1) := by decide +kernel
theorem d_Mo_key_6 : decode m_Mo_key.2.1 6 = .ok (.bipush 6, 2) := by decide +kernel
theorem d_Mo_key_8 : decode m_Mo_key.2.1 8 = .ok (.if_icmp .ne 5, 3) := by decide +kernel
theorem d_Mo_key_11 : decode m_Mo_key.2.1 11 = .ok (.iconst 0, 1) := by decide +kernel
theorem d_Mo_key_12 : decode m_Mo_key.2.1 12 = .ok (.ireturn, 1) := by decide +kernel
theorem d_Mo_key_13 : decode m_Mo_key.2.1 13 = .ok (.iconst 4, 1) := by decide +kernel
theorem d_Mo_key_14 : decode m_Mo_key.2.1 14 = .ok (.aload_n 0, 1) := by decide +kernel
theorem d_Mo_key_15 : decode m_Mo_key.2.1 15 = .ok (.getfield 16, 3) := by decide +kernel
theorem d_Mo_key_18 : decode m_Mo_key.2.1 18 = .ok (.iconst 1, 1) := by decide +kernel
theorem d_Mo_key_19 : decode m_Mo_key.2.1 19 = .ok (.iaload, 1) := by decide +kernel
theorem d_Mo_key_20 : decode m_Mo_key.2.1 20 = .ok (.imul, 1) := by decide +kernel
theorem d_Mo_key_21 : decode m_Mo_key.2.1 21 = .ok (.istore_n 1, 1) := by decide +kernel
theorem d_Mo_key_22 : decode m_Mo_key.2.1 22 = .ok (.aload_n 0, 1) := by decide +kernel
theorem d_Mo_key_23 : decode m_Mo_key.2.1 23 = .ok (.aload_n 0, 1) := by decide +kernel
theorem d_Mo_key_24 : decode m_Mo_key.2.1 24 = .ok (.getfield 22, 3) := by decide +kernel
theorem d_Mo_key_27 : decode m_Mo_key.2.1 27 = .ok (.iload_n 1, 1) := by decide +kernel
theorem d_Mo_key_28 : decode m_Mo_key.2.1 28 = .ok (.bipush 40, 2) := by decide +kernel
theorem d_Mo_key_30 : decode m_Mo_key.2.1 30 = .ok (.invokevirtual 143, 3) := by decide +kernel
theorem d_Mo_key_33 : decode m_Mo_key.2.1 33 = .ok (.ifCond .ne 5, 3) := by decide +kernel
theorem d_Mo_key_36 : decode m_Mo_key.2.1 36 = .ok (.iconst 0, 1) := by decide +kernel
theorem d_Mo_key_37 : decode m_Mo_key.2.1 37 = .ok (.ireturn, 1) := by decide +kernel
theorem d_Mo_key_38 : decode m_Mo_key.2.1 38 = .ok (.aload_n 0, 1) := by decide +kernel
theorem d_Mo_key_39 : decode m_Mo_key.2.1 39 = .ok (.bipush 44, 2) := by decide +kernel
theorem d_Mo_key_41 : decode m_Mo_key.2.1 41 = .ok (.invokevirtual 140, 3) := by decide +kernel
theorem d_Mo_key_44 : decode m_Mo_key.2.1 44 = .ok (.ifCond .ne 5, 3) := by decide +kernel
theorem d_Mo_key_47 : decode m_Mo_key.2.1 47 = .ok (.iconst 0, 1) := by decide +kernel
theorem d_Mo_key_48 : decode m_Mo_key.2.1 48 = .ok (.ireturn, 1) := by decide +kernel
theorem d_Mo_key_49 : decode m_Mo_key.2.1 49 = .ok (.aload_n 0, 1) := by decide +kernel
theorem d_Mo_key_50 : decode m_Mo_key.2.1 50 = .ok (.invokevirtual 128, 3) := by decide +kernel
theorem d_Mo_key_53 : decode m_Mo_key.2.1 53 = .ok (.istore_n 2, 1) := by decide +kernel
theorem d_Mo_key_54 : decode m_Mo_key.2.1 54 = .ok (.iload_n 2, 1) := by decide +kernel
theorem d_Mo_key_55 : decode m_Mo_key.2.1 55 = .ok (.bipush 97, 2) := by decide +kernel
theorem d_Mo_key_57 : decode m_Mo_key.2.1 57 = .ok (.if_icmp .eq 11, 3) := by decide +kernel
theorem d_Mo_key_60 : decode m_Mo_key.2.1 60 = .ok (.iload_n 2, 1) := by decide +kernel
theorem d_Mo_key_61 : decode m_Mo_key.2.1 61 = .ok (.bipush 100, 2) := by decide +kernel
theorem d_Mo_key_63 : decode m_Mo_key.2.1 63 = .ok (.if_icmp .eq 5, 3) := by decide +kernel
theorem d_Mo_key_66 : decode m_Mo_key.2.1 66 = .ok (.iconst 0, 1) := by decide +kernel
theorem d_Mo_key_67 : decode m_Mo_key.2.1 67 = .ok (.ireturn, 1) := by decide +kernel
theorem d_Mo_key_68 : decode m_Mo_key.2.1 68 = .ok (.aload_n 0, 1) := by decide +kernel
theorem d_Mo_key_69 : decode m_Mo_key.2.1 69 = .ok (.dup, 1) := by decide +kernel
theorem d_Mo_key_70 : decode m_Mo_key.2.1 70 = .ok (.getfield 121, 3) := by decide +kernel
theorem d_Mo_key_73 : decode m_Mo_key.2.1 73 = .ok (.iconst 1, 1) := by decide +kernel
theorem d_Mo_key_74 : decode m_Mo_key.2.1 74 = .ok (.iadd, 1) := by decide +kernel
theorem d_Mo_key_75 : decode m_Mo_key.2.1 75 = .ok (.putfield 121, 3) := by decide +kernel
theorem d_Mo_key_78 : decode m_Mo_key.2.1 78 = .ok (.aload_n 0, 1) := by decide +kernel
theorem d_Mo_key_79 : decode m_Mo_key.2.1 79 = .ok (.getfield 22, 3) := by decide +kernel
theorem d_Mo_key_82 : decode m_Mo_key.2.1 82 = .ok (.iload_n 1, 1) := by decide +kernel
theorem d_Mo_key_83 : decode m_Mo_key.2.1 83 = .ok (.iconst 2, 1) := by decide +kernel
theorem d_Mo_key_84 : decode m_Mo_key.2.1 84 = .ok (.iadd, 1) := by decide +kernel
theorem d_Mo_key_85 : decode m_Mo_key.2.1 85 = .ok (.iload_n 2, 1) := by decide +kernel
theorem d_Mo_key_86 : decode m_Mo_key.2.1 86 = .ok (.bipush 100, 2) := by decide +kernel
theorem d_Mo_key_88 : decode m_Mo_key.2.1 88 = .ok (.if_icmp .ne 7, 3) := by decide +kernel
theorem d_Mo_key_91 : decode m_Mo_key.2.1 91 = .ok (.iconst 1, 1) := by decide +kernel
theorem d_Mo_key_92 : decode m_Mo_key.2.1 92 = .ok (.goto 4, 3) := by decide +kernel
theorem d_Mo_key_95 : decode m_Mo_key.2.1 95 = .ok (.iconst 0, 1) := by decide +kernel
theorem d_Mo_key_96 : decode m_Mo_key.2.1 96 = .ok (.iastore, 1) := by decide +kernel
theorem d_Mo_key_97 : decode m_Mo_key.2.1 97 = .ok (.aload_n 0, 1) := by decide +kernel
theorem d_Mo_key_98 : decode m_Mo_key.2.1 98 = .ok (.getfield 22, 3) := by decide +kernel
theorem d_Mo_key_101 : decode m_Mo_key.2.1 101 = .ok (.iload_n 1, 1) := by decide +kernel
theorem d_Mo_key_102 : decode m_Mo_key.2.1 102 = .ok (.iconst 3, 1) := by decide +kernel
theorem d_Mo_key_103 : decode m_Mo_key.2.1 103 = .ok (.iadd, 1) := by decide +kernel
theorem d_Mo_key_104 : decode m_Mo_key.2.1 104 = .ok (.iconst 0, 1) := by decide +kernel
theorem d_Mo_key_105 : decode m_Mo_key.2.1 105 = .ok (.iastore, 1) := by decide +kernel
theorem d_Mo_key_106 : decode m_Mo_key.2.1 106 = .ok (.aload_n 0, 1) := by decide +kernel
theorem d_Mo_key_107 : decode m_Mo_key.2.1 107 = .ok (.getfield 16, 3) := by decide +kernel
theorem d_Mo_key_110 : decode m_Mo_key.2.1 110 = .ok (.iconst 1, 1) := by decide +kernel
theorem d_Mo_key_111 : decode m_Mo_key.2.1 111 = .ok (.dup2, 1) := by decide +kernel
theorem d_Mo_key_112 : decode m_Mo_key.2.1 112 = .ok (.iaload, 1) := by decide +kernel
theorem d_Mo_key_113 : decode m_Mo_key.2.1 113 = .ok (.iconst 1, 1) := by decide +kernel
theorem d_Mo_key_114 : decode m_Mo_key.2.1 114 = .ok (.iadd, 1) := by decide +kernel
theorem d_Mo_key_115 : decode m_Mo_key.2.1 115 = .ok (.iastore, 1) := by decide +kernel
theorem d_Mo_key_116 : decode m_Mo_key.2.1 116 = .ok (.aload_n 0, 1) := by decide +kernel
theorem d_Mo_key_117 : decode m_Mo_key.2.1 117 = .ok (.invokevirtual 128, 3) := by decide +kernel
theorem d_Mo_key_120 : decode m_Mo_key.2.1 120 = .ok (.bipush 44, 2) := by decide +kernel
theorem d_Mo_key_122 : decode m_Mo_key.2.1 122 = .ok (.if_icmp .eq 5, 3) := by decide +kernel
theorem d_Mo_key_125 : decode m_Mo_key.2.1 125 = .ok (.iconst 1, 1) := by decide +kernel
theorem d_Mo_key_126 : decode m_Mo_key.2.1 126 = .ok (.ireturn, 1) := by decide +kernel
theorem d_Mo_key_127 : decode m_Mo_key.2.1 127 = .ok (.aload_n 0, 1) := by decide +kernel
theorem d_Mo_key_128 : decode m_Mo_key.2.1 128 = .ok (.dup, 1) := by decide +kernel
theorem d_Mo_key_129 : decode m_Mo_key.2.1 129 = .ok (.getfield 121, 3) := by decide +kernel
theorem d_Mo_key_132 : decode m_Mo_key.2.1 132 = .ok (.iconst 1, 1) := by decide +kernel
theorem d_Mo_key_133 : decode m_Mo_key.2.1 133 = .ok (.iadd, 1) := by decide +kernel
theorem d_Mo_key_134 : decode m_Mo_key.2.1 134 = .ok (.putfield 121, 3) := by decide +kernel
theorem d_Mo_key_137 : decode m_Mo_key.2.1 137 = .ok (.aload_n 0, 1) := by decide +kernel
theorem d_Mo_key_138 : decode m_Mo_key.2.1 138 = .ok (.invokevirtual 128, 3) := by decide +kernel
theorem d_Mo_key_141 : decode m_Mo_key.2.1 141 = .ok (.istore_n 3, 1) := by decide +kernel
theorem d_Mo_key_142 : decode m_Mo_key.2.1 142 = .ok (.iload_n 3, 1) := by decide +kernel
theorem d_Mo_key_143 : decode m_Mo_key.2.1 143 = .ok (.bipush 98, 2) := by decide +kernel
theorem d_Mo_key_145 : decode m_Mo_key.2.1 145 = .ok (.if_icmp .eq 11, 3) := by decide +kernel
theorem d_Mo_key_148 : decode m_Mo_key.2.1 148 = .ok (.iload_n 3, 1) := by decide +kernel
theorem d_Mo_key_149 : decode m_Mo_key.2.1 149 = .ok (.bipush 110, 2) := by decide +kernel
theorem d_Mo_key_151 : decode m_Mo_key.2.1 151 = .ok (.if_icmp .eq 5, 3) := by decide +kernel
theorem d_Mo_key_154 : decode m_Mo_key.2.1 154 = .ok (.iconst 0, 1) := by decide +kernel
theorem d_Mo_key_155 : decode m_Mo_key.2.1 155 = .ok (.ireturn, 1) := by decide +kernel
theorem d_Mo_key_156 : decode m_Mo_key.2.1 156 = .ok (.aload_n 0, 1) := by decide +kernel
theorem d_Mo_key_157 : decode m_Mo_key.2.1 157 = .ok (.dup, 1) := by decide +kernel
theorem d_Mo_key_158 : decode m_Mo_key.2.1 158 = .ok (.getfield 121, 3) := by decide +kernel
theorem d_Mo_key_161 : decode m_Mo_key.2.1 161 = .ok (.iconst 1, 1) := by decide +kernel
theorem d_Mo_key_162 : decode m_Mo_key.2.1 162 = .ok (.iadd, 1) := by decide +kernel
theorem d_Mo_key_163 : decode m_Mo_key.2.1 163 = .ok (.putfield 121, 3) := by decide +kernel
theorem d_Mo_key_166 : decode m_Mo_key.2.1 166 = .ok (.aload_n 0, 1) := by decide +kernel
theorem d_Mo_key_167 : decode m_Mo_key.2.1 167 = .ok (.getfield 22, 3) := by decide +kernel
theorem d_Mo_key_170 : decode m_Mo_key.2.1 170 = .ok (.iload_n 1, 1) := by decide +kernel
theorem d_Mo_key_171 : decode m_Mo_key.2.1 171 = .ok (.iconst 3, 1) := by decide +kernel
theorem d_Mo_key_172 : decode m_Mo_key.2.1 172 = .ok (.iadd, 1) := by decide +kernel
theorem d_Mo_key_173 : decode m_Mo_key.2.1 173 = .ok (.iload_n 3, 1) := by decide +kernel
theorem d_Mo_key_174 : decode m_Mo_key.2.1 174 = .ok (.bipush 110, 2) := by decide +kernel
theorem d_Mo_key_176 : decode m_Mo_key.2.1 176 = .ok (.if_icmp .ne 7, 3) := by decide +kernel
theorem d_Mo_key_179 : decode m_Mo_key.2.1 179 = .ok (.iconst 1, 1) := by decide +kernel
theorem d_Mo_key_180 : decode m_Mo_key.2.1 180 = .ok (.goto 4, 3) := by decide +kernel
theorem d_Mo_key_183 : decode m_Mo_key.2.1 183 = .ok (.iconst 0, 1) := by decide +kernel
theorem d_Mo_key_184 : decode m_Mo_key.2.1 184 = .ok (.iastore, 1) := by decide +kernel
theorem d_Mo_key_185 : decode m_Mo_key.2.1 185 = .ok (.iconst 1, 1) := by decide +kernel
theorem d_Mo_key_186 : decode m_Mo_key.2.1 186 = .ok (.ireturn, 1) := by decide +kernel
theorem d_Mo_test_0 : decode m_Mo_test.2.1 0 = .ok (.aload_n 0, 1) := by decide +kernel
theorem d_Mo_test_1 : decode m_Mo_test.2.1 1 = .ok (.invokevirtual 128, 3) := by decide +kernel
theorem d_Mo_test_4 : decode m_Mo_test.2.1 4 = .ok (.pop, 1) := by decide +kernel
theorem d_Mo_test_5 : decode m_Mo_test.2.1 5 = .ok (.aload_n 0, 1) := by decide +kernel
theorem d_Mo_test_6 : decode m_Mo_test.2.1 6 = .ok (.getfield 16, 3) := by decide +kernel
theorem d_Mo_test_9 : decode m_Mo_test.2.1 9 = .ok (.iconst 2, 1) := by decide +kernel
theorem d_Mo_test_10 : decode m_Mo_test.2.1 10 = .ok (.iaload, 1) := by decide +kernel
theorem d_Mo_test_11 : decode m_Mo_test.2.1 11 = .ok (.bipush 10, 2) := by decide +kernel
theorem d_Mo_test_13 : decode m_Mo_test.2.1 13 = .ok (.if_icmp .ne 5, 3) := by decide +kernel
theorem d_Mo_test_16 : decode m_Mo_test.2.1 16 = .ok (.iconst 0, 1) := by decide +kernel
theorem d_Mo_test_17 : decode m_Mo_test.2.1 17 = .ok (.ireturn, 1) := by decide +kernel
theorem d_Mo_test_18 : decode m_Mo_test.2.1 18 = .ok (.bipush 6, 2) := by decide +kernel
theorem d_Mo_test_20 : decode m_Mo_test.2.1 20 = .ok (.aload_n 0, 1) := by decide +kernel
theorem d_Mo_test_21 : decode m_Mo_test.2.1 21 = .ok (.getfield 16, 3) := by decide +kernel
theorem d_Mo_test_24 : decode m_Mo_test.2.1 24 = .ok (.iconst 2, 1) := by decide +kernel
theorem d_Mo_test_25 : decode m_Mo_test.2.1 25 = .ok (.iaload, 1) := by decide +kernel
theorem d_Mo_test_26 : decode m_Mo_test.2.1 26 = .ok (.imul, 1) := by decide +kernel
theorem d_Mo_test_27 : decode m_Mo_test.2.1 27 = .ok (.istore_n 2, 1) := by decide +kernel
theorem d_Mo_test_28 : decode m_Mo_test.2.1 28 = .ok (.aload_n 0, 1) := by decide +kernel
theorem d_Mo_test_29 : decode m_Mo_test.2.1 29 = .ok (.getfield 25, 3) := by decide +kernel
theorem d_Mo_test_32 : decode m_Mo_test.2.1 32 = .ok (.iload_n 2, 1) := by decide +kernel
theorem d_Mo_test_33 : decode m_Mo_test.2.1 33 = .ok (.iload_n 1, 1) := by decide +kernel
theorem d_Mo_test_34 : decode m_Mo_test.2.1 34 = .ok (.iastore, 1) := by decide +kernel
theorem d_Mo_test_35 : decode m_Mo_test.2.1 35 = .ok (.aload_n 0, 1) := by decide +kernel
theorem d_Mo_test_36 : decode m_Mo_test.2.1 36 = .ok (.aload_n 0, 1) := by decide +kernel
theorem d_Mo_test_37 : decode m_Mo_test.2.1 37 = .ok (.getfield 25, 3) := by decide +kernel
theorem d_Mo_test_40 : decode m_Mo_test.2.1 40 = .ok (.iload_n 2, 1) := by decide +kernel
theorem d_Mo_test_41 : decode m_Mo_test.2.1 41 = .ok (.iconst 1, 1) := by decide +kernel
theorem d_Mo_test_42 : decode m_Mo_test.2.1 42 = .ok (.iadd, 1) := by decide +kernel
theorem d_Mo_test_43 : decode m_Mo_test.2.1 43 = .ok (.bipush 40, 2) := by decide +kernel
theorem d_Mo_test_45 : decode m_Mo_test.2.1 45 = .ok (.invokevirtual 143, 3) := by decide +kernel
theorem d_Mo_test_48 : decode m_Mo_test.2.1 48 = .ok (.ifCond .ne 5, 3) := by decide +kernel
theorem d_Mo_test_51 : decode m_Mo_test.2.1 51 = .ok (.iconst 0, 1) := by decide +kernel
theorem d_Mo_test_52 : decode m_Mo_test.2.1 52 = .ok (.ireturn, 1) := by decide +kernel
theorem d_Mo_test_53 : decode m_Mo_test.2.1 53 = .ok (.aload_n 0, 1) := by decide +kernel
theorem d_Mo_test_54 : decode m_Mo_test.2.1 54 = .ok (.invokevirtual 128, 3) := by decide +kernel
theorem d_Mo_test_57 : decode m_Mo_test.2.1 57 = .ok (.istore_n 3, 1) := by decide +kernel
theorem d_Mo_test_58 : decode m_Mo_test.2.1 58 = .ok (.iload_n 3, 1) := by decide +kernel
theorem d_Mo_test_59 : decode m_Mo_test.2.1 59 = .ok (.bipush 61, 2) := by decide +kernel
theorem d_Mo_test_61 : decode m_Mo_test.2.1 61 = .ok (.if_icmp .eq 23, 3) := by decide +kernel
theorem d_Mo_test_64 : decode m_Mo_test.2.1 64 = .ok (.iload_n 3, 1) := by decide +kernel
theorem d_Mo_test_65 : decode m_Mo_test.2.1 65 = .ok (.bipush 35, 2) := by decide +kernel
theorem d_Mo_test_67 : decode m_Mo_test.2.1 67 = .ok (.if_icmp .eq 17, 3) := by decide +kernel
theorem d_Mo_test_70 : decode m_Mo_test.2.1 70 = .ok (.iload_n 3, 1) := by decide +kernel
theorem d_Mo_test_71 : decode m_Mo_test.2.1 71 = .ok (.bipush 60, 2) := by decide +kernel
theorem d_Mo_test_73 : decode m_Mo_test.2.1 73 = .ok (.if_icmp .eq 11, 3) := by decide +kernel
theorem d_Mo_test_76 : decode m_Mo_test.2.1 76 = .ok (.iload_n 3, 1) := by decide +kernel
theorem d_Mo_test_77 : decode m_Mo_test.2.1 77 = .ok (.bipush 62, 2) := by decide +kernel
theorem d_Mo_test_79 : decode m_Mo_test.2.1 79 = .ok (.if_icmp .eq 5, 3) := by decide +kernel
theorem d_Mo_test_82 : decode m_Mo_test.2.1 82 = .ok (.iconst 0, 1) := by decide +kernel
theorem d_Mo_test_83 : decode m_Mo_test.2.1 83 = .ok (.ireturn, 1) := by decide +kernel
theorem d_Mo_test_84 : decode m_Mo_test.2.1 84 = .ok (.aload_n 0, 1) := by decide +kernel
theorem d_Mo_test_85 : decode m_Mo_test.2.1 85 = .ok (.dup, 1) := by decide +kernel
theorem d_Mo_test_86 : decode m_Mo_test.2.1 86 = .ok (.getfield 121, 3) := by decide +kernel
theorem d_Mo_test_89 : decode m_Mo_test.2.1 89 = .ok (.iconst 1, 1) := by decide +kernel
theorem d_Mo_test_90 : decode m_Mo_test.2.1 90 = .ok (.iadd, 1) := by decide +kernel
theorem d_Mo_test_91 : decode m_Mo_test.2.1 91 = .ok (.putfield 121, 3) := by decide +kernel
theorem d_Mo_test_94 : decode m_Mo_test.2.1 94 = .ok (.aload_n 0, 1) := by decide +kernel
theorem d_Mo_test_95 : decode m_Mo_test.2.1 95 = .ok (.getfield 25, 3) := by decide +kernel
theorem d_Mo_test_98 : decode m_Mo_test.2.1 98 = .ok (.iload_n 2, 1) := by decide +kernel
theorem d_Mo_test_99 : decode m_Mo_test.2.1 99 = .ok (.iconst 3, 1) := by decide +kernel
theorem d_Mo_test_100 : decode m_Mo_test.2.1 100 = .ok (.iadd, 1) := by decide +kernel
theorem d_Mo_test_101 : decode m_Mo_test.2.1 101 = .ok (.iload_n 3, 1) := by decide +kernel
theorem d_Mo_test_102 : decode m_Mo_test.2.1 102 = .ok (.iastore, 1) := by decide +kernel
theorem d_Mo_test_103 : decode m_Mo_test.2.1 103 = .ok (.aload_n 0, 1) := by decide +kernel
theorem d_Mo_test_104 : decode m_Mo_test.2.1 104 = .ok (.invokevirtual 128, 3) := by decide +kernel
theorem d_Mo_test_107 : decode m_Mo_test.2.1 107 = .ok (.bipush 39, 2) := by decide +kernel
theorem d_Mo_test_109 : decode m_Mo_test.2.1 109 = .ok (.if_icmp .ne 48, 3) := by decide +kernel
theorem d_Mo_test_112 : decode m_Mo_test.2.1 112 = .ok (.aload_n 0, 1) := by decide +kernel
theorem d_Mo_test_113 : decode m_Mo_test.2.1 113 = .ok (.bipush 20, 2) := by decide +kernel
theorem d_Mo_test_115 : decode m_Mo_test.2.1 115 = .ok (.aload_n 0, 1) := by decide +kernel
theorem d_Mo_test_116 : decode m_Mo_test.2.1 116 = .ok (.getfield 16, 3) := by decide +kernel
theorem d_Mo_test_119 : decode m_Mo_test.2.1 119 = .ok (.iconst 2, 1) := by decide +kernel
theorem d_Mo_test_120 : decode m_Mo_test.2.1 120 = .ok (.iaload, 1) := by decide +kernel
theorem d_Mo_test_121 : decode m_Mo_test.2.1 121 = .ok (.imul, 1) := by decide +kernel
theorem d_Mo_test_122 : decode m_Mo_test.2.1 122 = .ok (.invokevirtual 147, 3) := by decide +kernel
theorem d_Mo_test_125 : decode m_Mo_test.2.1 125 = .ok (.istore 4, 2) := by decide +kernel
theorem d_Mo_test_127 : decode m_Mo_test.2.1 127 = .ok (.iload 4, 2) := by decide +kernel
theorem d_Mo_test_129 : decode m_Mo_test.2.1 129 = .ok (.iconst (-1), 1) := by decide +kernel
theorem d_Mo_test_130 : decode m_Mo_test.2.1 130 = .ok (.if_icmp .ne 5, 3) := by decide +kernel
theorem d_Mo_test_133 : decode m_Mo_test.2.1 133 = .ok (.iconst 0, 1) := by decide +kernel
theorem d_Mo_test_134 : decode m_Mo_test.2.1 134 = .ok (.ireturn, 1) := by decide +kernel
theorem d_Mo_test_135 : decode m_Mo_test.2.1 135 = .ok (.aload_n 0, 1) := by decide +kernel
theorem d_Mo_test_136 : decode m_Mo_test.2.1 136 = .ok (.getfield 25, 3) := by decide +kernel
theorem d_Mo_test_139 : decode m_Mo_test.2.1 139 = .ok (.iload_n 2, 1) := by decide +kernel
theorem d_Mo_test_140 : decode m_Mo_test.2.1 140 = .ok (.iconst 4, 1) := by decide +kernel
theorem d_Mo_test_141 : decode m_Mo_test.2.1 141 = .ok (.iadd, 1) := by decide +kernel
theorem d_Mo_test_142 : decode m_Mo_test.2.1 142 = .ok (.iconst 0, 1) := by decide +kernel
theorem d_Mo_test_143 : decode m_Mo_test.2.1 143 = .ok (.iastore, 1) := by decide +kernel
theorem d_Mo_test_144 : decode m_Mo_test.2.1 144 = .ok (.aload_n 0, 1) := by decide +kernel
theorem d_Mo_test_145 : decode m_Mo_test.2.1 145 = .ok (.getfield 25, 3) := by decide +kernel
theorem d_Mo_test_148 : decode m_Mo_test.2.1 148 = .ok (.iload_n 2, 1) := by decide +kernel
theorem d_Mo_test_149 : decode m_Mo_test.2.1 149 = .ok (.iconst 5, 1) := by decide +kernel
theorem d_Mo_test_150 : decode m_Mo_test.2.1 150 = .ok (.iadd, 1) := by decide +kernel
theorem d_Mo_test_151 : decode m_Mo_test.2.1 151 = .ok (.iload 4, 2) := by decide +kernel
theorem d_Mo_test_153 : decode m_Mo_test.2.1 153 = .ok (.iastore, 1) := by decide +kernel
theorem d_Mo_test_154 : decode m_Mo_test.2.1 154 = .ok (.goto 21, 3) := by decide +kernel
theorem d_Mo_test_157 : decode m_Mo_test.2.1 157 = .ok (.aload_n 0, 1) := by decide +kernel
theorem d_Mo_test_158 : decode m_Mo_test.2.1 158 = .ok (.aload_n 0, 1) := by decide +kernel
theorem d_Mo_test_159 : decode m_Mo_test.2.1 159 = .ok (.getfield 25, 3) := by decide +kernel
theorem d_Mo_test_162 : decode m_Mo_test.2.1 162 = .ok (.iload_n 2, 1) := by decide +kernel
theorem d_Mo_test_163 : decode m_Mo_test.2.1 163 = .ok (.iconst 4, 1) := by decide +kernel
theorem d_Mo_test_164 : decode m_Mo_test.2.1 164 = .ok (.iadd, 1) := by decide +kernel
theorem d_Mo_test_165 : decode m_Mo_test.2.1 165 = .ok (.bipush 40, 2) := by decide +kernel
theorem d_Mo_test_167 : decode m_Mo_test.2.1 167 = .ok (.invokevirtual 143, 3) := by decide +kernel
theorem d_Mo_test_170 : decode m_Mo_test.2.1 170 = .ok (.ifCond .ne 5, 3) := by decide +kernel
theorem d_Mo_test_173 : decode m_Mo_test.2.1 173 = .ok (.iconst 0, 1) := by decide +kernel
theorem d_Mo_test_174 : decode m_Mo_test.2.1 174 = .ok (.ireturn, 1) := by decide +kernel
theorem d_Mo_test_175 : decode m_Mo_test.2.1 175 = .ok (.aload_n 0, 1) := by decide +kernel
theorem d_Mo_test_176 : decode m_Mo_test.2.1 176 = .ok (.getfield 16, 3) := by decide +kernel
theorem d_Mo_test_179 : decode m_Mo_test.2.1 179 = .ok (.iconst 2, 1) := by decide +kernel
theorem d_Mo_test_180 : decode m_Mo_test.2.1 180 = .ok (.dup2, 1) := by decide +kernel
theorem d_Mo_test_181 : decode m_Mo_test.2.1 181 = .ok (.iaload, 1) := by decide +kernel
theorem d_Mo_test_182 : decode m_Mo_test.2.1 182 = .ok (.iconst 1, 1) := by decide +kernel
theorem d_Mo_test_183 : decode m_Mo_test.2.1 183 = .ok (.iadd, 1) := by decide +kernel
theorem d_Mo_test_184 : decode m_Mo_test.2.1 184 = .ok (.iastore, 1) := by decide +kernel
theorem d_Mo_test_185 : decode m_Mo_test.2.1 185 = .ok (.iconst 1, 1) := by decide +kernel
theorem d_Mo_test_186 : decode m_Mo_test.2.1 186 = .ok (.ireturn, 1) := by decide +kernel
theorem d_Mo_testing_0 : decode m_Mo_testing.2.1 0 = .ok (.aload_n 0, 1) := by decide +kernel
theorem d_Mo_testing_1 : decode m_Mo_testing.2.1 1 = .ok (.iconst 0, 1) := by decide +kernel
theorem d_Mo_testing_2 : decode m_Mo_testing.2.1 2 = .ok (.invokevirtual 149, 3) := by decide +kernel
theorem d_Mo_testing_5 : decode m_Mo_testing.2.1 5 = .ok (.ifCond .ne 5, 3) := by decide +kernel
theorem d_Mo_testing_8 : decode m_Mo_testing.2.1 8 = .ok (.iconst 0, 1) := by decide +kernel
theorem d_Mo_testing_9 : decode m_Mo_testing.2.1 9 = .ok (.ireturn, 1) := by decide +kernel
theorem d_Mo_testing_10 : decode m_Mo_testing.2.1 10 = .ok (.aload_n 0, 1) := by decide +kernel
theorem d_Mo_testing_11 : decode m_Mo_testing.2.1 11 = .ok (.invokevirtual 128, 3) := by decide +kernel
theorem d_Mo_testing_14 : decode m_Mo_testing.2.1 14 = .ok (.bipush 38, 2) := by decide +kernel
theorem d_Mo_testing_16 : decode m_Mo_testing.2.1 16 = .ok (.if_icmp .eq 12, 3) := by decide +kernel
theorem d_Mo_testing_19 : decode m_Mo_testing.2.1 19 = .ok (.aload_n 0, 1) := by decide +kernel
theorem d_Mo_testing_20 : decode m_Mo_testing.2.1 20 = .ok (.invokevirtual 128, 3) := by decide +kernel
theorem d_Mo_testing_23 : decode m_Mo_testing.2.1 23 = .ok (.bipush 124, 2) := by decide +kernel
theorem d_Mo_testing_25 : decode m_Mo_testing.2.1 25 = .ok (.if_icmp .ne 41, 3) := by decide +kernel
theorem d_Mo_testing_28 : decode m_Mo_testing.2.1 28 = .ok (.aload_n 0, 1) := by decide +kernel
theorem d_Mo_testing_29 : decode m_Mo_testing.2.1 29 = .ok (.invokevirtual 128, 3) := by decide +kernel
theorem d_Mo_testing_32 : decode m_Mo_testing.2.1 32 = .ok (.bipush 38, 2) := by decide +kernel
theorem d_Mo_testing_34 : decode m_Mo_testing.2.1 34 = .ok (.if_icmp .ne 7, 3) := by decide +kernel
theorem d_Mo_testing_37 : decode m_Mo_testing.2.1 37 = .ok (.iconst 1, 1) := by decide +kernel
theorem d_Mo_testing_38 : decode m_Mo_testing.2.1 38 = .ok (.goto 4, 3) := by decide +kernel
theorem d_Mo_testing_41 : decode m_Mo_testing.2.1 41 = .ok (.iconst 2, 1) := by decide +kernel
theorem d_Mo_testing_42 : decode m_Mo_testing.2.1 42 = .ok (.istore_n 1, 1) := by decide +kernel
theorem d_Mo_testing_43 : decode m_Mo_testing.2.1 43 = .ok (.aload_n 0, 1) := by decide +kernel
theorem d_Mo_testing_44 : decode m_Mo_testing.2.1 44 = .ok (.dup, 1) := by decide +kernel
theorem d_Mo_testing_45 : decode m_Mo_testing.2.1 45 = .ok (.getfield 121, 3) := by decide +kernel
theorem d_Mo_testing_48 : decode m_Mo_testing.2.1 48 = .ok (.iconst 1, 1) := by decide +kernel
theorem d_Mo_testing_49 : decode m_Mo_testing.2.1 49 = .ok (.iadd, 1) := by decide +kernel
theorem d_Mo_testing_50 : decode m_Mo_testing.2.1 50 = .ok (.putfield 121, 3) := by decide +kernel
theorem d_Mo_testing_53 : decode m_Mo_testing.2.1 53 = .ok (.aload_n 0, 1) := by decide +kernel
theorem d_Mo_testing_54 : decode m_Mo_testing.2.1 54 = .ok (.iload_n 1, 1) := by decide +kernel
theorem d_Mo_testing_55 : decode m_Mo_testing.2.1 55 = .ok (.invokevirtual 149, 3) := by decide +kernel
theorem d_Mo_testing_58 : decode m_Mo_testing.2.1 58 = .ok (.ifCond .ne 5, 3) := by decide +kernel
theorem d_Mo_testing_61 : decode m_Mo_testing.2.1 61 = .ok (.iconst 0, 1) := by decide +kernel
theorem d_Mo_testing_62 : decode m_Mo_testing.2.1 62 = .ok (.ireturn, 1) := by decide +kernel
theorem d_Mo_testing_63 : decode m_Mo_testing.2.1 63 = .ok (.goto (-53), 3) := by decide +kernel
theorem d_Mo_testing_66 : decode m_Mo_testing.2.1 66 = .ok (.iconst 1, 1) := by decide +kernel
theorem d_Mo_testing_67 : decode m_Mo_testing.2.1 67 = .ok (.ireturn, 1) := by decide +kernel
theorem d_Mo_piece_0 : decode m_Mo_piece.2.1 0 = .ok (.aload_n 0, 1) := by decide +kernel
theorem d_Mo_piece_1 : decode m_Mo_piece.2.1 1 = .ok (.getfield 16, 3) := by decide +kernel
theorem d_Mo_piece_4 : decode m_Mo_piece.2.1 4 = .ok (.iconst 4, 1) := by decide +kernel
theorem d_Mo_piece_5 : decode m_Mo_piece.2.1 5 = .ok (.iaload, 1) := by decide +kernel
theorem d_Mo_piece_6 : decode m_Mo_piece.2.1 6 = .ok (.bipush 12, 2) := by decide +kernel
theorem d_Mo_piece_8 : decode m_Mo_piece.2.1 8 = .ok (.if_icmp .ne 5, 3) := by decide +kernel
theorem d_Mo_piece_11 : decode m_Mo_piece.2.1 11 = .ok (.iconst 0, 1) := by decide +kernel
theorem d_Mo_piece_12 : decode m_Mo_piece.2.1 12 = .ok (.ireturn, 1) := by decide +kernel
theorem d_Mo_piece_13 : decode m_Mo_piece.2.1 13 = .ok (.iconst 2, 1) := by decide +kernel
theorem d_Mo_piece_14 : decode m_Mo_piece.2.1 14 = .ok (.aload_n 0, 1) := by decide +kernel
theorem d_Mo_piece_15 : decode m_Mo_piece.2.1 15 = .ok (.getfield 16, 3) := by decide +kernel
theorem d_Mo_piece_18 : decode m_Mo_piece.2.1 18 = .ok (.iconst 4, 1) := by decide +kernel
theorem d_Mo_piece_19 : decode m_Mo_piece.2.1 19 = .ok (.iaload, 1) := by decide +kernel
theorem d_Mo_piece_20 : decode m_Mo_piece.2.1 20 = .ok (.imul, 1) := by decide +kernel
theorem d_Mo_piece_21 : decode m_Mo_piece.2.1 21 = .ok (.istore_n 1, 1) := by decide +kernel
theorem d_Mo_piece_22 : decode m_Mo_piece.2.1 22 = .ok (.aload_n 0, 1) := by decide +kernel
theorem d_Mo_piece_23 : decode m_Mo_piece.2.1 23 = .ok (.invokevirtual 128, 3) := by decide +kernel
theorem d_Mo_piece_26 : decode m_Mo_piece.2.1 26 = .ok (.bipush 39, 2) := by decide +kernel
theorem d_Mo_piece_28 : decode m_Mo_piece.2.1 28 = .ok (.if_icmp .ne 46, 3) := by decide +kernel
theorem d_Mo_piece_31 : decode m_Mo_piece.2.1 31 = .ok (.aload_n 0, 1) := by decide +kernel
theorem d_Mo_piece_32 : decode m_Mo_piece.2.1 32 = .ok (.bipush 20, 2) := by decide +kernel
theorem d_Mo_piece_34 : decode m_Mo_piece.2.1 34 = .ok (.bipush 10, 2) := by decide +kernel
theorem d_Mo_piece_36 : decode m_Mo_piece.2.1 36 = .ok (.aload_n 0, 1) := by decide +kernel
theorem d_Mo_piece_37 : decode m_Mo_piece.2.1 37 = .ok (.getfield 16, 3) := by decide +kernel
theorem d_Mo_piece_40 : decode m_Mo_piece.2.1 40 = .ok (.iconst 4, 1) := by decide +kernel
theorem d_Mo_piece_41 : decode m_Mo_piece.2.1 41 = .ok (.iaload, 1) := by decide +kernel
theorem d_Mo_piece_42 : decode m_Mo_piece.2.1 42 = .ok (.iadd, 1) := by decide +kernel
theorem d_Mo_piece_43 : decode m_Mo_piece.2.1 43 = .ok (.imul, 1) := by decide +kernel
theorem d_Mo_piece_44 : decode m_Mo_piece.2.1 44 = .ok (.invokevirtual 147, 3) := by decide +kernel
theorem d_Mo_piece_47 : decode m_Mo_piece.2.1 47 = .ok (.istore_n 2, 1) := by decide +kernel
theorem d_Mo_piece_48 : decode m_Mo_piece.2.1 48 = .ok (.iload_n 2, 1) := by decide +kernel
theorem d_Mo_piece_49 : decode m_Mo_piece.2.1 49 = .ok (.iconst (-1), 1) := by decide +kernel
theorem d_Mo_piece_50 : decode m_Mo_piece.2.1 50 = .ok (.if_icmp .ne 5, 3) := by decide +kernel
theorem d_Mo_piece_53 : decode m_Mo_piece.2.1 53 = .ok (.iconst 0, 1) := by decide +kernel
theorem d_Mo_piece_54 : decode m_Mo_piece.2.1 54 = .ok (.ireturn, 1) := by decide +kernel
theorem d_Mo_piece_55 : decode m_Mo_piece.2.1 55 = .ok (.aload_n 0, 1) := by decide +kernel
theorem d_Mo_piece_56 : decode m_Mo_piece.2.1 56 = .ok (.getfield 31, 3) := by decide +kernel
theorem d_Mo_piece_59 : decode m_Mo_piece.2.1 59 = .ok (.iload_n 1, 1) := by decide +kernel
theorem d_Mo_piece_60 : decode m_Mo_piece.2.1 60 = .ok (.iconst 0, 1) := by decide +kernel
theorem d_Mo_piece_61 : decode m_Mo_piece.2.1 61 = .ok (.iastore, 1) := by decide +kernel
theorem d_Mo_piece_62 : decode m_Mo_piece.2.1 62 = .ok (.aload_n 0, 1) := by decide +kernel
theorem d_Mo_piece_63 : decode m_Mo_piece.2.1 63 = .ok (.getfield 31, 3) := by decide +kernel
theorem d_Mo_piece_66 : decode m_Mo_piece.2.1 66 = .ok (.iload_n 1, 1) := by decide +kernel
theorem d_Mo_piece_67 : decode m_Mo_piece.2.1 67 = .ok (.iconst 1, 1) := by decide +kernel
theorem d_Mo_piece_68 : decode m_Mo_piece.2.1 68 = .ok (.iadd, 1) := by decide +kernel
theorem d_Mo_piece_69 : decode m_Mo_piece.2.1 69 = .ok (.iload_n 2, 1) := by decide +kernel
theorem d_Mo_piece_70 : decode m_Mo_piece.2.1 70 = .ok (.iastore, 1) := by decide +kernel
theorem d_Mo_piece_71 : decode m_Mo_piece.2.1 71 = .ok (.goto 74, 3) := by decide +kernel
theorem d_Mo_piece_74 : decode m_Mo_piece.2.1 74 = .ok (.aload_n 0, 1) := by decide +kernel
theorem d_Mo_piece_75 : decode m_Mo_piece.2.1 75 = .ok (.invokevirtual 128, 3) := by decide +kernel
theorem d_Mo_piece_78 : decode m_Mo_piece.2.1 78 = .ok (.bipush 120, 2) := by decide +kernel
theorem d_Mo_piece_80 : decode m_Mo_piece.2.1 80 = .ok (.if_icmp .ne 49, 3) := by decide +kernel
theorem d_Mo_piece_83 : decode m_Mo_piece.2.1 83 = .ok (.aload_n 0, 1) := by decide +kernel
theorem d_Mo_piece_84 : decode m_Mo_piece.2.1 84 = .ok (.dup, 1) := by decide +kernel
theorem d_Mo_piece_85 : decode m_Mo_piece.2.1 85 = .ok (.getfield 121, 3) := by decide +kernel
theorem d_Mo_piece_88 : decode m_Mo_piece.2.1 88 = .ok (.iconst 1, 1) := by decide +kernel
theorem d_Mo_piece_89 : decode m_Mo_piece.2.1 89 = .ok (.iadd, 1) := by decide +kernel
theorem d_Mo_piece_90 : decode m_Mo_piece.2.1 90 = .ok (.putfield 121, 3) := by decide +kernel
theorem d_Mo_piece_93 : decode m_Mo_piece.2.1 93 = .ok (.aload_n 0, 1) := by decide +kernel
theorem d_Mo_piece_94 : decode m_Mo_piece.2.1 94 = .ok (.getfield 31, 3) := by decide +kernel
theorem d_Mo_piece_97 : decode m_Mo_piece.2.1 97 = .ok (.iload_n 1, 1) := by decide +kernel
theorem d_Mo_piece_98 : decode m_Mo_piece.2.1 98 = .ok (.iconst (-1), 1) := by decide +kernel
theorem d_Mo_piece_99 : decode m_Mo_piece.2.1 99 = .ok (.iastore, 1) := by decide +kernel
theorem d_Mo_piece_100 : decode m_Mo_piece.2.1 100 = .ok (.aload_n 0, 1) := by decide +kernel
theorem d_Mo_piece_101 : decode m_Mo_piece.2.1 101 = .ok (.getfield 31, 3) := by decide +kernel
theorem d_Mo_piece_104 : decode m_Mo_piece.2.1 104 = .ok (.iload_n 1, 1) := by decide +kernel
theorem d_Mo_piece_105 : decode m_Mo_piece.2.1 105 = .ok (.iconst 1, 1) := by decide +kernel
theorem d_Mo_piece_106 : decode m_Mo_piece.2.1 106 = .ok (.iadd, 1) := by decide +kernel
theorem d_Mo_piece_107 : decode m_Mo_piece.2.1 107 = .ok (.aload_n 0, 1) := by decide +kernel
theorem d_Mo_piece_108 : decode m_Mo_piece.2.1 108 = .ok (.iconst 1, 1) := by decide +kernel
theorem d_Mo_piece_109 : decode m_Mo_piece.2.1 109 = .ok (.bipush 40, 2) := by decide +kernel
theorem d_Mo_piece_111 : decode m_Mo_piece.2.1 111 = .ok (.invokevirtual 136, 3) := by decide +kernel
theorem d_Mo_piece_114 : decode m_Mo_piece.2.1 114 = .ok (.iastore, 1) := by decide +kernel
theorem d_Mo_piece_115 : decode m_Mo_piece.2.1 115 = .ok (.aload_n 0, 1) := by decide +kernel
theorem d_Mo_piece_116 : decode m_Mo_piece.2.1 116 = .ok (.getfield 31, 3) := by decide +kernel
theorem d_Mo_piece_119 : decode m_Mo_piece.2.1 119 = .ok (.iload_n 1, 1) := by decide +kernel
theorem d_Mo_piece_120 : decode m_Mo_piece.2.1 120 = .ok (.iconst 1, 1) := by decide +kernel
theorem d_Mo_piece_121 : decode m_Mo_piece.2.1 121 = .ok (.iadd, 1) := by decide +kernel
theorem d_Mo_piece_122 : decode m_Mo_piece.2.1 122 = .ok (.iaload, 1) := by decide +kernel
theorem d_Mo_piece_123 : decode m_Mo_piece.2.1 123 = .ok (.iconst (-1), 1) := by decide +kernel
theorem d_Mo_piece_124 : decode m_Mo_piece.2.1 124 = .ok (.if_icmp .ne 21, 3) := by decide +kernel
theorem d_Mo_piece_127 : decode m_Mo_piece.2.1 127 = .ok (.iconst 0, 1) := by decide +kernel
theorem d_Mo_piece_128 : decode m_Mo_piece.2.1 128 = .ok (.ireturn, 1) := by decide +kernel
theorem d_Mo_piece_129 : decode m_Mo_piece.2.1 129 = .ok (.aload_n 0, 1) := by decide +kernel
theorem d_Mo_piece_130 : decode m_Mo_piece.2.1 130 = .ok (.aload_n 0, 1) := by decide +kernel
theorem d_Mo_piece_131 : decode m_Mo_piece.2.1 131 = .ok (.getfield 31, 3) := by decide +kernel
theorem d_Mo_piece_134 : decode m_Mo_piece.2.1 134 = .ok (.iload_n 1, 1) := by decide +kernel
theorem d_Mo_piece_135 : decode m_Mo_piece.2.1 135 = .ok (.bipush 40, 2) := by decide +kernel
theorem d_Mo_piece_137 : decode m_Mo_piece.2.1 137 = .ok (.invokevirtual 143, 3) := by decide +kernel
theorem d_Mo_piece_140 : decode m_Mo_piece.2.1 140 = .ok (.ifCond .ne 5, 3) := by decide +kernel
theorem d_Mo_piece_143 : decode m_Mo_piece.2.1 143 = .ok (.iconst 0, 1) := by decide +kernel
theorem d_Mo_piece_144 : decode m_Mo_piece.2.1 144 = .ok (.ireturn, 1) := by decide +kernel
theorem d_Mo_piece_145 : decode m_Mo_piece.2.1 145 = .ok (.aload_n 0, 1) := by decide +kernel
theorem d_Mo_piece_146 : decode m_Mo_piece.2.1 146 = .ok (.getfield 16, 3) := by decide +kernel
theorem d_Mo_piece_149 : decode m_Mo_piece.2.1 149 = .ok (.iconst 4, 1) := by decide +kernel
theorem d_Mo_piece_150 : decode m_Mo_piece.2.1 150 = .ok (.dup2, 1) := by decide +kernel
theorem d_Mo_piece_151 : decode m_Mo_piece.2.1 151 = .ok (.iaload, 1) := by decide +kernel
theorem d_Mo_piece_152 : decode m_Mo_piece.2.1 152 = .ok (.iconst 1, 1) := by decide +kernel
theorem d_Mo_piece_153 : decode m_Mo_piece.2.1 153 = .ok (.iadd, 1) := by decide +kernel
theorem d_Mo_piece_154 : decode m_Mo_piece.2.1 154 = .ok (.iastore, 1) := by decide +kernel
theorem d_Mo_piece_155 : decode m_Mo_piece.2.1 155 = .ok (.iconst 1, 1) := by decide +kernel
theorem d_Mo_piece_156 : decode m_Mo_piece.2.1 156 = .ok (.ireturn, 1) := by decide +kernel
theorem d_Mo_word_0 : decode m_Mo_word.2.1 0 = .ok (.iconst 0, 1) := by decide +kernel
theorem d_Mo_word_1 : decode m_Mo_word.2.1 1 = .ok (.istore_n 1, 1) := by decide +kernel
theorem d_Mo_word_2 : decode m_Mo_word.2.1 2 = .ok (.iconst 0, 1) := by decide +kernel
theorem d_Mo_word_3 : decode m_Mo_word.2.1 3 = .ok (.istore_n 2, 1) := by decide +kernel
theorem d_Mo_word_4 : decode m_Mo_word.2.1 4 = .ok (.aload_n 0, 1) := by decide +kernel
theorem d_Mo_word_5 : decode m_Mo_word.2.1 5 = .ok (.aload_n 0, 1) := by decide +kernel
theorem d_Mo_word_6 : decode m_Mo_word.2.1 6 = .ok (.getfield 121, 3) := by decide +kernel
theorem d_Mo_word_9 : decode m_Mo_word.2.1 9 = .ok (.iload_n 1, 1) := by decide +kernel
theorem d_Mo_word_10 : decode m_Mo_word.2.1 10 = .ok (.iadd, 1) := by decide +kernel
theorem d_Mo_word_11 : decode m_Mo_word.2.1 11 = .ok (.invokevirtual 152, 3) := by decide +kernel
theorem d_Mo_word_14 : decode m_Mo_word.2.1 14 = .ok (.ifCond .eq 38, 3) := by decide +kernel
theorem d_Mo_word_17 : decode m_Mo_word.2.1 17 = .ok (.iload_n 1, 1) := by decide +kernel
theorem d_Mo_word_18 : decode m_Mo_word.2.1 18 = .ok (.bipush 6, 2) := by decide +kernel
theorem d_Mo_word_20 : decode m_Mo_word.2.1 20 = .ok (.if_icmp .ge 24, 3) := by decide +kernel
theorem d_Mo_word_23 : decode m_Mo_word.2.1 23 = .ok (.bipush 27, 2) := by decide +kernel
theorem d_Mo_word_25 : decode m_Mo_word.2.1 25 = .ok (.iload_n 2, 1) := by decide +kernel
theorem d_Mo_word_26 : decode m_Mo_word.2.1 26 = .ok (.imul, 1) := by decide +kernel
theorem d_Mo_word_27 : decode m_Mo_word.2.1 27 = .ok (.aload_n 0, 1) := by decide +kernel
theorem d_Mo_word_28 : decode m_Mo_word.2.1 28 = .ok (.aload_n 0, 1) := by decide +kernel
theorem d_Mo_word_29 : decode m_Mo_word.2.1 29 = .ok (.getfield 121, 3) := by decide +kernel
theorem d_Mo_word_32 : decode m_Mo_word.2.1 32 = .ok (.iload_n 1, 1) := by decide +kernel
theorem d_Mo_word_33 : decode m_Mo_word.2.1 33 = .ok (.iadd, 1) := by decide +kernel
theorem d_Mo_word_34 : decode m_Mo_word.2.1 34 = .ok (.invokevirtual 124, 3) := by decide +kernel
theorem d_Mo_word_37 : decode m_Mo_word.2.1 37 = .ok (.iadd, 1) := by decide +kernel
theorem d_Mo_word_38 : decode m_Mo_word.2.1 38 = .ok (.bipush 96, 2) := by decide +kernel
theorem d_Mo_word_40 : decode m_Mo_word.2.1 40 = .ok (.isub, 1) := by decide +kernel
theorem d_Mo_word_41 : decode m_Mo_word.2.1 41 = .ok (.goto 4, 3) := by decide +kernel
theorem d_Mo_word_44 : decode m_Mo_word.2.1 44 = .ok (.iconst 0, 1) := by decide +kernel
theorem d_Mo_word_45 : decode m_Mo_word.2.1 45 = .ok (.istore_n 2, 1) := by decide +kernel
theorem d_Mo_word_46 : decode m_Mo_word.2.1 46 = .ok (.iinc 1 1, 3) := by decide +kernel
theorem d_Mo_word_49 : decode m_Mo_word.2.1 49 = .ok (.goto (-45), 3) := by decide +kernel
theorem d_Mo_word_52 : decode m_Mo_word.2.1 52 = .ok (.aload_n 0, 1) := by decide +kernel
theorem d_Mo_word_53 : decode m_Mo_word.2.1 53 = .ok (.dup, 1) := by decide +kernel
theorem d_Mo_word_54 : decode m_Mo_word.2.1 54 = .ok (.getfield 121, 3) := by decide +kernel
theorem d_Mo_word_57 : decode m_Mo_word.2.1 57 = .ok (.iload_n 1, 1) := by decide +kernel
theorem d_Mo_word_58 : decode m_Mo_word.2.1 58 = .ok (.iadd, 1) := by decide +kernel
theorem d_Mo_word_59 : decode m_Mo_word.2.1 59 = .ok (.putfield 121, 3) := by decide +kernel
theorem d_Mo_word_62 : decode m_Mo_word.2.1 62 = .ok (.iload_n 1, 1) := by decide +kernel
theorem d_Mo_word_63 : decode m_Mo_word.2.1 63 = .ok (.bipush 7, 2) := by decide +kernel
theorem d_Mo_word_65 : decode m_Mo_word.2.1 65 = .ok (.if_icmp .le 5, 3) := by decide +kernel
theorem d_Mo_word_68 : decode m_Mo_word.2.1 68 = .ok (.iconst (-1), 1) := by decide +kernel
theorem d_Mo_word_69 : decode m_Mo_word.2.1 69 = .ok (.ireturn, 1) := by decide +kernel
theorem d_Mo_word_70 : decode m_Mo_word.2.1 70 = .ok (.iload_n 1, 1) := by decide +kernel
theorem d_Mo_word_71 : decode m_Mo_word.2.1 71 = .ok (.bipush 7, 2) := by decide +kernel
theorem d_Mo_word_73 : decode m_Mo_word.2.1 73 = .ok (.if_icmp .ne 23, 3) := by decide +kernel
theorem d_Mo_word_76 : decode m_Mo_word.2.1 76 = .ok (.aload_n 0, 1) := by decide +kernel
theorem d_Mo_word_77 : decode m_Mo_word.2.1 77 = .ok (.aload_n 0, 1) := by decide +kernel
theorem d_Mo_word_78 : decode m_Mo_word.2.1 78 = .ok (.getfield 121, 3) := by decide +kernel
theorem d_Mo_word_81 : decode m_Mo_word.2.1 81 = .ok (.bipush 7, 2) := by decide +kernel
theorem d_Mo_word_83 : decode m_Mo_word.2.1 83 = .ok (.isub, 1) := by decide +kernel
theorem d_Mo_word_84 : decode m_Mo_word.2.1 84 = .ok (.invokevirtual 155, 3) := by decide +kernel
theorem d_Mo_word_87 : decode m_Mo_word.2.1 87 = .ok (.ifCond .eq 7, 3) := by decide +kernel
theorem d_Mo_word_90 : decode m_Mo_word.2.1 90 = .ok (.iconst 1, 1) := by decide +kernel
theorem d_Mo_word_91 : decode m_Mo_word.2.1 91 = .ok (.goto 4, 3) := by decide +kernel
theorem d_Mo_word_94 : decode m_Mo_word.2.1 94 = .ok (.iconst (-1), 1) := by decide +kernel
theorem d_Mo_word_95 : decode m_Mo_word.2.1 95 = .ok (.ireturn, 1) := by decide +kernel
theorem d_Mo_word_96 : decode m_Mo_word.2.1 96 = .ok (.iload_n 2, 1) := by decide +kernel
theorem d_Mo_word_97 : decode m_Mo_word.2.1 97 = .ok (.ldc 158, 2) := by decide +kernel
theorem d_Mo_word_99 : decode m_Mo_word.2.1 99 = .ok (.if_icmp .ne 12, 3) := by decide +kernel
theorem d_Mo_word_102 : decode m_Mo_word.2.1 102 = .ok (.iload_n 1, 1) := by decide +kernel
theorem d_Mo_word_103 : decode m_Mo_word.2.1 103 = .ok (.iconst 4, 1) := by decide +kernel
theorem d_Mo_word_104 : decode m_Mo_word.2.1 104 = .ok (.if_icmp .ne 7, 3) := by decide +kernel
theorem d_Mo_word_107 : decode m_Mo_word.2.1 107 = .ok (.iconst 0, 1) := by decide +kernel
theorem d_Mo_word_108 : decode m_Mo_word.2.1 108 = .ok (.goto 82, 3) := by decide +kernel
theorem d_Mo_word_111 : decode m_Mo_word.2.1 111 = .ok (.iload_n 2, 1) := by decide +kernel
theorem d_Mo_word_112 : decode m_Mo_word.2.1 112 = .ok (.ldc 159, 2) := by decide +kernel
theorem d_Mo_word_114 : decode m_Mo_word.2.1 114 = .ok (.if_icmp .ne 12, 3) := by decide +kernel
theorem d_Mo_word_117 : decode m_Mo_word.2.1 117 = .ok (.iload_n 1, 1) := by decide +kernel
theorem d_Mo_word_118 : decode m_Mo_word.2.1 118 = .ok (.iconst 4, 1) := by decide +kernel
theorem d_Mo_word_119 : decode m_Mo_word.2.1 119 = .ok (.if_icmp .ne 7, 3) := by decide +kernel
theorem d_Mo_word_122 : decode m_Mo_word.2.1 122 = .ok (.iconst 2, 1) := by decide +kernel
theorem d_Mo_word_123 : decode m_Mo_word.2.1 123 = .ok (.goto 67, 3) := by decide +kernel
theorem d_Mo_word_126 : decode m_Mo_word.2.1 126 = .ok (.iload_n 2, 1) := by decide +kernel
theorem d_Mo_word_127 : decode m_Mo_word.2.1 127 = .ok (.sipush 14431, 3) := by decide +kernel
theorem d_Mo_word_130 : decode m_Mo_word.2.1 130 = .ok (.if_icmp .ne 12, 3) := by decide +kernel
theorem d_Mo_word_133 : decode m_Mo_word.2.1 133 = .ok (.iload_n 1, 1) := by decide +kernel
theorem d_Mo_word_134 : decode m_Mo_word.2.1 134 = .ok (.iconst 3, 1) := by decide +kernel
theorem d_Mo_word_135 : decode m_Mo_word.2.1 135 = .ok (.if_icmp .ne 7, 3) := by decide +kernel
theorem d_Mo_word_138 : decode m_Mo_word.2.1 138 = .ok (.iconst 3, 1) := by decide +kernel
theorem d_Mo_word_139 : decode m_Mo_word.2.1 139 = .ok (.goto 51, 3) := by decide +kernel
theorem d_Mo_word_142 : decode m_Mo_word.2.1 142 = .ok (.iload_n 2, 1) := by decide +kernel
theorem d_Mo_word_143 : decode m_Mo_word.2.1 143 = .ok (.sipush 11522, 3) := by decide +kernel
theorem d_Mo_word_146 : decode m_Mo_word.2.1 146 = .ok (.if_icmp .ne 12, 3) := by decide +kernel
theorem d_Mo_word_149 : decode m_Mo_word.2.1 149 = .ok (.iload_n 1, 1) := by decide +kernel
theorem d_Mo_word_150 : decode m_Mo_word.2.1 150 = .ok (.iconst 3, 1) := by decide +kernel
theorem d_Mo_word_151 : decode m_Mo_word.2.1 151 = .ok (.if_icmp .ne 7, 3) := by decide +kernel
theorem d_Mo_word_154 : decode m_Mo_word.2.1 154 = .ok (.iconst 4, 1) := by decide +kernel
theorem d_Mo_word_155 : decode m_Mo_word.2.1 155 = .ok (.goto 35, 3) := by decide +kernel
theorem d_Mo_word_158 : decode m_Mo_word.2.1 158 = .ok (.iload_n 2, 1) := by decide +kernel
theorem d_Mo_word_159 : decode m_Mo_word.2.1 159 = .ok (.ldc 160, 2) := by decide +kernel
theorem d_Mo_word_161 : decode m_Mo_word.2.1 161 = .ok (.if_icmp .ne 12, 3) := by decide +kernel
theorem d_Mo_word_164 : decode m_Mo_word.2.1 164 = .ok (.iload_n 1, 1) := by decide +kernel
theorem d_Mo_word_165 : decode m_Mo_word.2.1 165 = .ok (.iconst 4, 1) := by decide +kernel
theorem d_Mo_word_166 : decode m_Mo_word.2.1 166 = .ok (.if_icmp .ne 7, 3) := by decide +kernel
theorem d_Mo_word_169 : decode m_Mo_word.2.1 169 = .ok (.iconst 5, 1) := by decide +kernel
theorem d_Mo_word_170 : decode m_Mo_word.2.1 170 = .ok (.goto 20, 3) := by decide +kernel
theorem d_Mo_word_173 : decode m_Mo_word.2.1 173 = .ok (.iload_n 2, 1) := by decide +kernel
theorem d_Mo_word_174 : decode m_Mo_word.2.1 174 = .ok (.ldc 161, 2) := by decide +kernel
theorem d_Mo_word_176 : decode m_Mo_word.2.1 176 = .ok (.if_icmp .ne 13, 3) := by decide +kernel
theorem d_Mo_word_179 : decode m_Mo_word.2.1 179 = .ok (.iload_n 1, 1) := by decide +kernel
theorem d_Mo_word_180 : decode m_Mo_word.2.1 180 = .ok (.iconst 4, 1) := by decide +kernel
theorem d_Mo_word_181 : decode m_Mo_word.2.1 181 = .ok (.if_icmp .ne 8, 3) := by decide +kernel
theorem d_Mo_word_184 : decode m_Mo_word.2.1 184 = .ok (.bipush 6, 2) := by decide +kernel
theorem d_Mo_word_186 : decode m_Mo_word.2.1 186 = .ok (.goto 4, 3) := by decide +kernel
theorem d_Mo_word_189 : decode m_Mo_word.2.1 189 = .ok (.iconst (-1), 1) := by decide +kernel
theorem d_Mo_word_190 : decode m_Mo_word.2.1 190 = .ok (.ireturn, 1) := by decide +kernel
theorem d_Mo_isInclude_0 : decode m_Mo_isInclude.2.1 0 = .ok (.aload_n 0, 1) := by decide +kernel
theorem d_Mo_isInclude_1 : decode m_Mo_isInclude.2.1 1 = .ok (.iload_n 1, 1) := by decide +kernel
theorem d_Mo_isInclude_2 : decode m_Mo_isInclude.2.1 2 = .ok (.invokevirtual 124, 3) := by decide +kernel
theorem d_Mo_isInclude_5 : decode m_Mo_isInclude.2.1 5 = .ok (.bipush 105, 2) := by decide +kernel
theorem d_Mo_isInclude_7 : decode m_Mo_isInclude.2.1 7 = .ok (.if_icmp .ne 80, 3) := by decide +kernel
theorem d_Mo_isInclude_10 : decode m_Mo_isInclude.2.1 10 = .ok (.aload_n 0, 1) := by decide +kernel
theorem d_Mo_isInclude_11 : decode m_Mo_isInclude.2.1 11 = .ok (.iload_n 1, 1) := by decide +kernel
theorem d_Mo_isInclude_12 : decode m_Mo_isInclude.2.1 12 = .ok (.iconst 1, 1) := by decide +kernel
theorem d_Mo_isInclude_13 : decode m_Mo_isInclude.2.1 13 = .ok (.iadd, 1) := by decide +kernel
theorem d_Mo_isInclude_14 : decode m_Mo_isInclude.2.1 14 = .ok (.invokevirtual 124, 3) := by decide +kernel
theorem d_Mo_isInclude_17 : decode m_Mo_isInclude.2.1 17 = .ok (.bipush 110, 2) := by decide +kernel
theorem d_Mo_isInclude_19 : decode m_Mo_isInclude.2.1 19 = .ok (.if_icmp .ne 68, 3) := by decide +kernel
theorem d_Mo_isInclude_22 : decode m_Mo_isInclude.2.1 22 = .ok (.aload_n 0, 1) := by decide +kernel
theorem d_Mo_isInclude_23 : decode m_Mo_isInclude.2.1 23 = .ok (.iload_n 1, 1) := by decide +kernel
theorem d_Mo_isInclude_24 : decode m_Mo_isInclude.2.1 24 = .ok (.iconst 2, 1) := by decide +kernel
theorem d_Mo_isInclude_25 : decode m_Mo_isInclude.2.1 25 = .ok (.iadd, 1) := by decide +kernel
theorem d_Mo_isInclude_26 : decode m_Mo_isInclude.2.1 26 = .ok (.invokevirtual 124, 3) := by decide +kernel
theorem d_Mo_isInclude_29 : decode m_Mo_isInclude.2.1 29 = .ok (.bipush 99, 2) := by decide +kernel
theorem d_Mo_isInclude_31 : decode m_Mo_isInclude.2.1 31 = .ok (.if_icmp .ne 56, 3) := by decide +kernel
theorem d_Mo_isInclude_34 : decode m_Mo_isInclude.2.1 34 = .ok (.aload_n 0, 1) := by decide +kernel
theorem d_Mo_isInclude_35 : decode m_Mo_isInclude.2.1 35 = .ok (.iload_n 1, 1) := by decide +kernel
theorem d_Mo_isInclude_36 : decode m_Mo_isInclude.2.1 36 = .ok (.iconst 3, 1) := by decide +kernel
theorem d_Mo_isInclude_37 : decode m_Mo_isInclude.2.1 37 = .ok (.iadd, 1) := by decide +kernel
theorem d_Mo_isInclude_38 : decode m_Mo_isInclude.2.1 38 = .ok (.invokevirtual 124, 3) := by decide +kernel
theorem d_Mo_isInclude_41 : decode m_Mo_isInclude.2.1 41 = .ok (.bipush 108, 2) := by decide +kernel
theorem d_Mo_isInclude_43 : decode m_Mo_isInclude.2.1 43 = .ok (.if_icmp .ne 44, 3) := by decide +kernel
theorem d_Mo_isInclude_46 : decode m_Mo_isInclude.2.1 46 = .ok (.aload_n 0, 1) := by decide +kernel
theorem d_Mo_isInclude_47 : decode m_Mo_isInclude.2.1 47 = .ok (.iload_n 1, 1) := by decide +kernel
theorem d_Mo_isInclude_48 : decode m_Mo_isInclude.2.1 48 = .ok (.iconst 4, 1) := by decide +kernel
theorem d_Mo_isInclude_49 : decode m_Mo_isInclude.2.1 49 = .ok (.iadd, 1) := by decide +kernel
theorem d_Mo_isInclude_50 : decode m_Mo_isInclude.2.1 50 = .ok (.invokevirtual 124, 3) := by decide +kernel
theorem d_Mo_isInclude_53 : decode m_Mo_isInclude.2.1 53 = .ok (.bipush 117, 2) := by decide +kernel
theorem d_Mo_isInclude_55 : decode m_Mo_isInclude.2.1 55 = .ok (.if_icmp .ne 32, 3) := by decide +kernel
theorem d_Mo_isInclude_58 : decode m_Mo_isInclude.2.1 58 = .ok (.aload_n 0, 1) := by decide +kernel
theorem d_Mo_isInclude_59 : decode m_Mo_isInclude.2.1 59 = .ok (.iload_n 1, 1) := by decide +kernel
theorem d_Mo_isInclude_60 : decode m_Mo_isInclude.2.1 60 = .ok (.iconst 5, 1) := by decide +kernel
theorem d_Mo_isInclude_61 : decode m_Mo_isInclude.2.1 61 = .ok (.iadd, 1) := by decide +kernel
theorem d_Mo_isInclude_62 : decode m_Mo_isInclude.2.1 62 = .ok (.invokevirtual 124, 3) := by decide +kernel
theorem d_Mo_isInclude_65 : decode m_Mo_isInclude.2.1 65 = .ok (.bipush 100, 2) := by decide +kernel
theorem d_Mo_isInclude_67 : decode m_Mo_isInclude.2.1 67 = .ok (.if_icmp .ne 20, 3) := by decide +kernel
theorem d_Mo_isInclude_70 : decode m_Mo_isInclude.2.1 70 = .ok (.aload_n 0, 1) := by decide +kernel
theorem d_Mo_isInclude_71 : decode m_Mo_isInclude.2.1 71 = .ok (.iload_n 1, 1) := by decide +kernel
theorem d_Mo_isInclude_72 : decode m_Mo_isInclude.2.1 72 = .ok (.bipush 6, 2) := by decide +kernel
theorem d_Mo_isInclude_74 : decode m_Mo_isInclude.2.1 74 = .ok (.iadd, 1) := by decide +kernel
theorem d_Mo_isInclude_75 : decode m_Mo_isInclude.2.1 75 = .ok (.invokevirtual 124, 3) := by decide +kernel
theorem d_Mo_isInclude_78 : decode m_Mo_isInclude.2.1 78 = .ok (.bipush 101, 2) := by decide +kernel
theorem d_Mo_isInclude_80 : decode m_Mo_isInclude.2.1 80 = .ok (.if_icmp .ne 7, 3) := by decide +kernel
theorem d_Mo_isInclude_83 : decode m_Mo_isInclude.2.1 83 = .ok (.iconst 1, 1) := by decide +kernel
theorem d_Mo_isInclude_84 : decode m_Mo_isInclude.2.1 84 = .ok (.goto 4, 3) := by decide +kernel
theorem d_Mo_isInclude_87 : decode m_Mo_isInclude.2.1 87 = .ok (.iconst 0, 1) := by decide +kernel
theorem d_Mo_isInclude_88 : decode m_Mo_isInclude.2.1 88 = .ok (.ireturn, 1) := by decide +kernel
theorem d_Mo_statement_0 : decode m_Mo_statement.2.1 0 = .ok (.aload_n 0, 1) := by decide +kernel
theorem d_Mo_statement_1 : decode m_Mo_statement.2.1 1 = .ok (.getfield 121, 3) := by decide +kernel
theorem d_Mo_statement_4 : decode m_Mo_statement.2.1 4 = .ok (.istore_n 1, 1) := by decide +kernel
theorem d_Mo_statement_5 : decode m_Mo_statement.2.1 5 = .ok (.aload_n 0, 1) := by decide +kernel
theorem d_Mo_statement_6 : decode m_Mo_statement.2.1 6 = .ok (.aload_n 0, 1) := by decide +kernel
theorem d_Mo_statement_7 : decode m_Mo_statement.2.1 7 = .ok (.getfield 121, 3) := by decide +kernel
theorem d_Mo_statement_10 : decode m_Mo_statement.2.1 10 = .ok (.invokevirtual 152, 3) := by decide +kernel
theorem d_Mo_statement_13 : decode m_Mo_statement.2.1 13 = .ok (.ifCond .eq 10, 3) := by decide +kernel
theorem d_Mo_statement_16 : decode m_Mo_statement.2.1 16 = .ok (.aload_n 0, 1) := by decide +kernel
theorem d_Mo_statement_17 : decode m_Mo_statement.2.1 17 = .ok (.invokevirtual 162, 3) := by decide +kernel
theorem d_Mo_statement_20 : decode m_Mo_statement.2.1 20 = .ok (.goto 4, 3) := by decide +kernel
theorem d_Mo_statement_23 : decode m_Mo_statement.2.1 23 = .ok (.iconst (-1), 1) := by decide +kernel
theorem d_Mo_statement_24 : decode m_Mo_statement.2.1 24 = .ok (.istore_n 2, 1) := by decide +kernel
theorem d_Mo_statement_25 : decode m_Mo_statement.2.1 25 = .ok (.iload_n 2, 1) := by decide +kernel
theorem d_Mo_statement_26 : decode m_Mo_statement.2.1 26 = .ok (.iconst (-1), 1) := by decide +kernel
theorem d_Mo_statement_27 : decode m_Mo_statement.2.1 27 = .ok (.if_icmp .eq 42, 3) := by decide +kernel
theorem d_Mo_statement_30 : decode m_Mo_statement.2.1 30 = .ok (.aload_n 0, 1) := by decide +kernel
theorem d_Mo_statement_31 : decode m_Mo_statement.2.1 31 = .ok (.getfield 13, 3) := by decide +kernel
theorem d_Mo_statement_34 : decode m_Mo_statement.2.1 34 = .ok (.iload_n 2, 1) := by decide +kernel
theorem d_Mo_statement_35 : decode m_Mo_statement.2.1 35 = .ok (.iaload, 1) := by decide +kernel
theorem d_Mo_statement_36 : decode m_Mo_statement.2.1 36 = .ok (.ifCond .gt 29, 3) := by decide +kernel
theorem d_Mo_statement_39 : decode m_Mo_statement.2.1 39 = .ok (.iload_n 2, 1) := by decide +kernel
theorem d_Mo_statement_40 : decode m_Mo_statement.2.1 40 = .ok (.iconst 1, 1) := by decide +kernel
theorem d_Mo_statement_41 : decode m_Mo_statement.2.1 41 = .ok (.if_icmp .eq 8, 3) := by decide +kernel
theorem d_Mo_statement_44 : decode m_Mo_statement.2.1 44 = .ok (.iload_n 2, 1) := by decide +kernel
theorem d_Mo_statement_45 : decode m_Mo_statement.2.1 45 = .ok (.iconst 2, 1) := by decide +kernel
theorem d_Mo_statement_46 : decode m_Mo_statement.2.1 46 = .ok (.if_icmp .ne 23, 3) := by decide +kernel
theorem d_Mo_statement_49 : decode m_Mo_statement.2.1 49 = .ok (.aload_n 0, 1) := by decide +kernel
theorem d_Mo_statement_50 : decode m_Mo_statement.2.1 50 = .ok (.getfield 13, 3) := by decide +kernel
theorem d_Mo_statement_53 : decode m_Mo_statement.2.1 53 = .ok (.iconst 1, 1) := by decide +kernel
theorem d_Mo_statement_54 : decode m_Mo_statement.2.1 54 = .ok (.iaload, 1) := by decide +kernel
theorem d_Mo_statement_55 : decode m_Mo_statement.2.1 55 = .ok (.aload_n 0, 1) := by decide +kernel
theorem d_Mo_statement_56 : decode m_Mo_statement.2.1 56 = .ok (.getfield 13, 3) := by decide +kernel
theorem d_Mo_statement_59 : decode m_Mo_statement.2.1 59 = .ok (.iconst 2, 1) := by decide +kernel
theorem d_Mo_statement_60 : decode m_Mo_statement.2.1 60 = .ok (.iaload, 1) := by decide +kernel
theorem d_Mo_statement_61 : decode m_Mo_statement.2.1 61 = .ok (.iadd, 1) := by decide +kernel
theorem d_Mo_statement_62 : decode m_Mo_statement.2.1 62 = .ok (.ifCond .le 7, 3) := by decide +kernel
theorem d_Mo_statement_65 : decode m_Mo_statement.2.1 65 = .ok (.iconst 1, 1) := by decide +kernel
theorem d_Mo_statement_66 : decode m_Mo_statement.2.1 66 = .ok (.goto 4, 3) := by decide +kernel
theorem d_Mo_statement_69 : decode m_Mo_statement.2.1 69 = .ok (.iconst 0, 1) := by decide +kernel
theorem d_Mo_statement_70 : decode m_Mo_statement.2.1 70 = .ok (.istore_n 3, 1) := by decide +kernel
theorem d_Mo_statement_71 : decode m_Mo_statement.2.1 71 = .ok (.iload_n 2, 1) := by decide +kernel
theorem d_Mo_statement_72 : decode m_Mo_statement.2.1 72 = .ok (.iconst (-1), 1) := by decide +kernel
theorem d_Mo_statement_73 : decode m_Mo_statement.2.1 73 = .ok (.if_icmp .eq 7, 3) := by decide +kernel
theorem d_Mo_statement_76 : decode m_Mo_statement.2.1 76 = .ok (.iload_n 3, 1) := by decide +kernel
theorem d_Mo_statement_77 : decode m_Mo_statement.2.1 77 = .ok (.ifCond .eq 10, 3) := by decide +kernel
theorem d_Mo_statement_80 : decode m_Mo_statement.2.1 80 = .ok (.aload_n 0, 1) := by decide +kernel
theorem d_Mo_statement_81 : decode m_Mo_statement.2.1 81 = .ok (.iload_n 1, 1) := by decide +kernel
theorem d_Mo_statement_82 : decode m_Mo_statement.2.1 82 = .ok (.putfield 121, 3) := by decide +kernel
theorem d_Mo_statement_85 : decode m_Mo_statement.2.1 85 = .ok (.iconst 0, 1) := by decide +kernel
theorem d_Mo_statement_86 : decode m_Mo_statement.2.1 86 = .ok (.ireturn, 1) := by decide +kernel
theorem d_Mo_statement_87 : decode m_Mo_statement.2.1 87 = .ok (.aload_n 0, 1) := by decide +kernel
theorem d_Mo_statement_88 : decode m_Mo_statement.2.1 88 = .ok (.getfield 13, 3) := by decide +kernel
theorem d_Mo_statement_91 : decode m_Mo_statement.2.1 91 = .ok (.iload_n 2, 1) := by decide +kernel
theorem d_Mo_statement_92 : decode m_Mo_statement.2.1 92 = .ok (.iconst 1, 1) := by decide +kernel
theorem d_Mo_statement_93 : decode m_Mo_statement.2.1 93 = .ok (.iastore, 1) := by decide +kernel
theorem d_Mo_statement_94 : decode m_Mo_statement.2.1 94 = .ok (.aload_n 0, 1) := by decide +kernel
theorem d_Mo_statement_95 : decode m_Mo_statement.2.1 95 = .ok (.getfield 16, 3) := by decide +kernel
theorem d_Mo_statement_98 : decode m_Mo_statement.2.1 98 = .ok (.iconst 0, 1) := by decide +kernel
theorem d_Mo_statement_99 : decode m_Mo_statement.2.1 99 = .ok (.dup2, 1) := by decide +kernel
theorem d_Mo_statement_100 : decode m_Mo_statement.2.1 100 = .ok (.iaload, 1) := by decide +kernel
theorem d_Mo_statement_101 : decode m_Mo_statement.2.1 101 = .ok (.iconst 1, 1) := by decide +kernel
theorem d_Mo_statement_102 : decode m_Mo_statement.2.1 102 = .ok (.iadd, 1) := by decide +kernel
theorem d_Mo_statement_103 : decode m_Mo_statement.2.1 103 = .ok (.iastore, 1) := by decide +kernel
theorem d_Mo_statement_104 : decode m_Mo_statement.2.1 104 = .ok (.iconst 1, 1) := by decide +kernel
theorem d_Mo_statement_105 : decode m_Mo_statement.2.1 105 = .ok (.istore 4, 2) := by decide +kernel
theorem d_Mo_statement_107 : decode m_Mo_statement.2.1 107 = .ok (.iload_n 2, 1) := by decide +kernel
theorem d_Mo_statement_108 : decode m_Mo_statement.2.1 108 = .ok (.tableswitch 132 0 4 #[36, 65, 65, 74, 103], 36) := by decide +kernel
theorem d_Mo_statement_144 : decode m_Mo_statement.2.1 144 = .ok (.aload_n 0, 1) := by decide +kernel
theorem d_Mo_statement_145 : decode m_Mo_statement.2.1 145 = .ok (.invokevirtual 165, 3) := by decide +kernel
theorem d_Mo_statement_148 : decode m_Mo_statement.2.1 148 = .ok (.istore 4, 2) := by decide +kernel
theorem d_Mo_statement_150 : decode m_Mo_statement.2.1 150 = .ok (.iload 4, 2) := by decide +kernel
theorem d_Mo_statement_152 : decode m_Mo_statement.2.1 152 = .ok (.ifCond .eq 123, 3) := by decide +kernel
theorem d_Mo_statement_155 : decode m_Mo_statement.2.1 155 = .ok (.aload_n 0, 1) := by decide +kernel
theorem d_Mo_statement_156 : decode m_Mo_statement.2.1 156 = .ok (.invokevirtual 128, 3) := by decide +kernel
theorem d_Mo_statement_159 : decode m_Mo_statement.2.1 159 = .ok (.bipush 59, 2) := by decide +kernel
theorem d_Mo_statement_161 : decode m_Mo_statement.2.1 161 = .ok (.if_icmp .eq 114, 3) := by decide +kernel
theorem d_Mo_statement_164 : decode m_Mo_statement.2.1 164 = .ok (.aload_n 0, 1) := by decide +kernel
theorem d_Mo_statement_165 : decode m_Mo_statement.2.1 165 = .ok (.invokevirtual 165, 3) := by decide +kernel
theorem d_Mo_statement_168 : decode m_Mo_statement.2.1 168 = .ok (.istore 4, 2) := by decide +kernel
theorem d_Mo_statement_170 : decode m_Mo_statement.2.1 170 = .ok (.goto (-20), 3) := by decide +kernel
theorem d_Mo_statement_173 : decode m_Mo_statement.2.1 173 = .ok (.aload_n 0, 1) := by decide +kernel
theorem d_Mo_statement_174 : decode m_Mo_statement.2.1 174 = .ok (.invokevirtual 169, 3) := by decide +kernel
theorem d_Mo_statement_177 : decode m_Mo_statement.2.1 177 = .ok (.istore 4, 2) := by decide +kernel
theorem d_Mo_statement_179 : decode m_Mo_statement.2.1 179 = .ok (.goto 96, 3) := by decide +kernel
theorem d_Mo_statement_182 : decode m_Mo_statement.2.1 182 = .ok (.aload_n 0, 1) := by decide +kernel
theorem d_Mo_statement_183 : decode m_Mo_statement.2.1 183 = .ok (.invokevirtual 172, 3) := by decide +kernel
theorem d_Mo_statement_186 : decode m_Mo_statement.2.1 186 = .ok (.istore 4, 2) := by decide +kernel
theorem d_Mo_statement_188 : decode m_Mo_statement.2.1 188 = .ok (.iload 4, 2) := by decide +kernel
theorem d_Mo_statement_190 : decode m_Mo_statement.2.1 190 = .ok (.ifCond .eq 85, 3) := by decide +kernel
theorem d_Mo_statement_193 : decode m_Mo_statement.2.1 193 = .ok (.aload_n 0, 1) := by decide +kernel
theorem d_Mo_statement_194 : decode m_Mo_statement.2.1 194 = .ok (.invokevirtual 128, 3) := by decide +kernel
theorem d_Mo_statement_197 : decode m_Mo_statement.2.1 197 = .ok (.bipush 59, 2) := by decide +kernel
theorem d_Mo_statement_199 : decode m_Mo_statement.2.1 199 = .ok (.if_icmp .eq 76, 3) := by decide +kernel
theorem d_Mo_statement_202 : decode m_Mo_statement.2.1 202 = .ok (.aload_n 0, 1) := by decide +kernel
theorem d_Mo_statement_203 : decode m_Mo_statement.2.1 203 = .ok (.invokevirtual 172, 3) := by decide +kernel
theorem d_Mo_statement_206 : decode m_Mo_statement.2.1 206 = .ok (.istore 4, 2) := by decide +kernel
theorem d_Mo_statement_208 : decode m_Mo_statement.2.1 208 = .ok (.goto (-20), 3) := by decide +kernel
theorem d_Mo_statement_211 : decode m_Mo_statement.2.1 211 = .ok (.aload_n 0, 1) := by decide +kernel
theorem d_Mo_statement_212 : decode m_Mo_statement.2.1 212 = .ok (.invokevirtual 175, 3) := by decide +kernel
theorem d_Mo_statement_215 : decode m_Mo_statement.2.1 215 = .ok (.istore 4, 2) := by decide +kernel
theorem d_Mo_statement_217 : decode m_Mo_statement.2.1 217 = .ok (.iload 4, 2) := by decide +kernel
theorem d_Mo_statement_219 : decode m_Mo_statement.2.1 219 = .ok (.ifCond .eq 56, 3) := by decide +kernel
theorem d_Mo_statement_222 : decode m_Mo_statement.2.1 222 = .ok (.aload_n 0, 1) := by decide +kernel
theorem d_Mo_statement_223 : decode m_Mo_statement.2.1 223 = .ok (.invokevirtual 128, 3) := by decide +kernel
theorem d_Mo_statement_226 : decode m_Mo_statement.2.1 226 = .ok (.bipush 59, 2) := by decide +kernel
theorem d_Mo_statement_228 : decode m_Mo_statement.2.1 228 = .ok (.if_icmp .eq 47, 3) := by decide +kernel
theorem d_Mo_statement_231 : decode m_Mo_statement.2.1 231 = .ok (.aload_n 0, 1) := by decide +kernel
theorem d_Mo_statement_232 : decode m_Mo_statement.2.1 232 = .ok (.invokevirtual 175, 3) := by decide +kernel
theorem d_Mo_statement_235 : decode m_Mo_statement.2.1 235 = .ok (.istore 4, 2) := by decide +kernel
theorem d_Mo_statement_237 : decode m_Mo_statement.2.1 237 = .ok (.goto (-20), 3) := by decide +kernel
theorem d_Mo_statement_240 : decode m_Mo_statement.2.1 240 = .ok (.aload_n 0, 1) := by decide +kernel
theorem d_Mo_statement_241 : decode m_Mo_statement.2.1 241 = .ok (.getfield 19, 3) := by decide +kernel
theorem d_Mo_statement_244 : decode m_Mo_statement.2.1 244 = .ok (.iload_n 2, 1) := by decide +kernel
theorem d_Mo_statement_245 : decode m_Mo_statement.2.1 245 = .ok (.iconst 5, 1) := by decide +kernel
theorem d_Mo_statement_246 : decode m_Mo_statement.2.1 246 = .ok (.isub, 1) := by decide +kernel
theorem d_Mo_statement_247 : decode m_Mo_statement.2.1 247 = .ok (.aload_n 0, 1) := by decide +kernel
theorem d_Mo_statement_248 : decode m_Mo_statement.2.1 248 = .ok (.iconst 0, 1) := by decide +kernel
theorem d_Mo_statement_249 : decode m_Mo_statement.2.1 249 = .ok (.sipush 9999, 3) := by decide +kernel
theorem d_Mo_statement_252 : decode m_Mo_statement.2.1 252 = .ok (.invokevirtual 136, 3) := by decide +kernel
theorem d_Mo_statement_255 : decode m_Mo_statement.2.1 255 = .ok (.iastore, 1) := by decide +kernel
theorem d_Mo_statement_256 : decode m_Mo_statement.2.1 256 = .ok (.aload_n 0, 1) := by decide +kernel
theorem d_Mo_statement_257 : decode m_Mo_statement.2.1 257 = .ok (.getfield 19, 3) := by decide +kernel
theorem d_Mo_statement_260 : decode m_Mo_statement.2.1 260 = .ok (.iload_n 2, 1) := by decide +kernel
theorem d_Mo_statement_261 : decode m_Mo_statement.2.1 261 = .ok (.iconst 5, 1) := by decide +kernel
theorem d_Mo_statement_262 : decode m_Mo_statement.2.1 262 = .ok (.isub, 1) := by decide +kernel
theorem d_Mo_statement_263 : decode m_Mo_statement.2.1 263 = .ok (.iaload, 1) := by decide +kernel
theorem d_Mo_statement_264 : decode m_Mo_statement.2.1 264 = .ok (.iconst (-1), 1) := by decide +kernel
theorem d_Mo_statement_265 : decode m_Mo_statement.2.1 265 = .ok (.if_icmp .eq 7, 3) := by decide +kernel
theorem d_Mo_statement_268 : decode m_Mo_statement.2.1 268 = .ok (.iconst 1, 1) := by decide +kernel
theorem d_Mo_statement_269 : decode m_Mo_statement.2.1 269 = .ok (.goto 4, 3) := by decide +kernel
theorem d_Mo_statement_272 : decode m_Mo_statement.2.1 272 = .ok (.iconst 0, 1) := by decide +kernel
theorem d_Mo_statement_273 : decode m_Mo_statement.2.1 273 = .ok (.istore 4, 2) := by decide +kernel
theorem d_Mo_statement_275 : decode m_Mo_statement.2.1 275 = .ok (.iload 4, 2) := by decide +kernel
theorem d_Mo_statement_277 : decode m_Mo_statement.2.1 277 = .ok (.ifCond .eq 16, 3) := by decide +kernel
theorem d_Mo_statement_280 : decode m_Mo_statement.2.1 280 = .ok (.aload_n 0, 1) := by decide +kernel
theorem d_Mo_statement_281 : decode m_Mo_statement.2.1 281 = .ok (.bipush 59, 2) := by decide +kernel
theorem d_Mo_statement_283 : decode m_Mo_statement.2.1 283 = .ok (.invokevirtual 140, 3) := by decide +kernel
theorem d_Mo_statement_286 : decode m_Mo_statement.2.1 286 = .ok (.ifCond .eq 7, 3) := by decide +kernel
theorem d_Mo_statement_289 : decode m_Mo_statement.2.1 289 = .ok (.iconst 1, 1) := by decide +kernel
theorem d_Mo_statement_290 : decode m_Mo_statement.2.1 290 = .ok (.goto 4, 3) := by decide +kernel
theorem d_Mo_statement_293 : decode m_Mo_statement.2.1 293 = .ok (.iconst 0, 1) := by decide +kernel
theorem d_Mo_statement_294 : decode m_Mo_statement.2.1 294 = .ok (.ireturn, 1) := by decide +kernel
theorem d_Mo_sumField_0 : decode m_Mo_sumField.2.1 0 = .ok (.aload_n 0, 1) := by decide +kernel
theorem d_Mo_sumField_1 : decode m_Mo_sumField.2.1 1 = .ok (.invokevirtual 128, 3) := by decide +kernel
theorem d_Mo_sumField_4 : decode m_Mo_sumField.2.1 4 = .ok (.pop, 1) := by decide +kernel
theorem d_Mo_sumField_5 : decode m_Mo_sumField.2.1 5 = .ok (.aload_n 0, 1) := by decide +kernel
theorem d_Mo_sumField_6 : decode m_Mo_sumField.2.1 6 = .ok (.getfield 16, 3) := by decide +kernel
theorem d_Mo_sumField_9 : decode m_Mo_sumField.2.1 9 = .ok (.iconst 3, 1) := by decide +kernel
theorem d_Mo_sumField_10 : decode m_Mo_sumField.2.1 10 = .ok (.iaload, 1) := by decide +kernel
theorem d_Mo_sumField_11 : decode m_Mo_sumField.2.1 11 = .ok (.iconst 4, 1) := by decide +kernel
theorem d_Mo_sumField_12 : decode m_Mo_sumField.2.1 12 = .ok (.if_icmp .eq 24, 3) := by decide +kernel
theorem d_Mo_sumField_15 : decode m_Mo_sumField.2.1 15 = .ok (.aload_n 0, 1) := by decide +kernel
theorem d_Mo_sumField_16 : decode m_Mo_sumField.2.1 16 = .ok (.aload_n 0, 1) := by decide +kernel
theorem d_Mo_sumField_17 : decode m_Mo_sumField.2.1 17 = .ok (.getfield 28, 3) := by decide +kernel
theorem d_Mo_sumField_20 : decode m_Mo_sumField.2.1 20 = .ok (.iconst 2, 1) := by decide +kernel
theorem d_Mo_sumField_21 : decode m_Mo_sumField.2.1 21 = .ok (.aload_n 0, 1) := by decide +kernel
theorem d_Mo_sumField_22 : decode m_Mo_sumField.2.1 22 = .ok (.getfield 16, 3) := by decide +kernel
theorem d_Mo_sumField_25 : decode m_Mo_sumField.2.1 25 = .ok (.iconst 3, 1) := by decide +kernel
theorem d_Mo_sumField_26 : decode m_Mo_sumField.2.1 26 = .ok (.iaload, 1) := by decide +kernel
theorem d_Mo_sumField_27 : decode m_Mo_sumField.2.1 27 = .ok (.imul, 1) := by decide +kernel
theorem d_Mo_sumField_28 : decode m_Mo_sumField.2.1 28 = .ok (.bipush 9, 2) := by decide +kernel
theorem d_Mo_sumField_30 : decode m_Mo_sumField.2.1 30 = .ok (.invokevirtual 143, 3) := by decide +kernel
theorem d_Mo_sumField_33 : decode m_Mo_sumField.2.1 33 = .ok (.ifCond .ne 5, 3) := by decide +kernel
theorem d_Mo_sumField_36 : decode m_Mo_sumField.2.1 36 = .ok (.iconst 0, 1) := by decide +kernel
theorem d_Mo_sumField_37 : decode m_Mo_sumField.2.1 37 = .ok (.ireturn, 1) := by decide +kernel
theorem d_Mo_sumField_38 : decode m_Mo_sumField.2.1 38 = .ok (.aload_n 0, 1) := by decide +kernel
theorem d_Mo_sumField_39 : decode m_Mo_sumField.2.1 39 = .ok (.getfield 16, 3) := by decide +kernel
theorem d_Mo_sumField_42 : decode m_Mo_sumField.2.1 42 = .ok (.iconst 3, 1) := by decide +kernel
theorem d_Mo_sumField_43 : decode m_Mo_sumField.2.1 43 = .ok (.dup2, 1) := by decide +kernel
theorem d_Mo_sumField_44 : decode m_Mo_sumField.2.1 44 = .ok (.iaload, 1) := by decide +kernel
theorem d_Mo_sumField_45 : decode m_Mo_sumField.2.1 45 = .ok (.iconst 1, 1) := by decide +kernel
theorem d_Mo_sumField_46 : decode m_Mo_sumField.2.1 46 = .ok (.iadd, 1) := by decide +kernel
theorem d_Mo_sumField_47 : decode m_Mo_sumField.2.1 47 = .ok (.iastore, 1) := by decide +kernel
theorem d_Mo_sumField_48 : decode m_Mo_sumField.2.1 48 = .ok (.iconst 1, 1) := by decide +kernel
theorem d_Mo_sumField_49 : decode m_Mo_sumField.2.1 49 = .ok (.ireturn, 1) := by decide +kernel
theorem d_Mo_read_0 : decode m_Mo_read.2.1 0 = .ok (.aload_n 0, 1) := by decide +kernel
theorem d_Mo_read_1 : decode m_Mo_read.2.1 1 = .ok (.iconst 0, 1) := by decide +kernel
theorem d_Mo_read_2 : decode m_Mo_read.2.1 2 = .ok (.putfield 114, 3) := by decide +kernel
theorem d_Mo_read_5 : decode m_Mo_read.2.1 5 = .ok (.aload_n 0, 1) := by decide +kernel
theorem d_Mo_read_6 : decode m_Mo_read.2.1 6 = .ok (.iconst 0, 1) := by decide +kernel
theorem d_Mo_read_7 : decode m_Mo_read.2.1 7 = .ok (.putfield 121, 3) := by decide +kernel
theorem d_Mo_read_10 : decode m_Mo_read.2.1 10 = .ok (.aload_n 0, 1) := by decide +kernel
theorem d_Mo_read_11 : decode m_Mo_read.2.1 11 = .ok (.invokevirtual 178, 3) := by decide +kernel
theorem d_Mo_read_14 : decode m_Mo_read.2.1 14 = .ok (.iconst 0, 1) := by decide +kernel
theorem d_Mo_read_15 : decode m_Mo_read.2.1 15 = .ok (.istore_n 1, 1) := by decide +kernel
theorem d_Mo_read_16 : decode m_Mo_read.2.1 16 = .ok (.iload_n 1, 1) := by decide +kernel
theorem d_Mo_read_17 : decode m_Mo_read.2.1 17 = .ok (.bipush 7, 2) := by decide +kernel
theorem d_Mo_read_19 : decode m_Mo_read.2.1 19 = .ok (.if_icmp .ge 16, 3) := by decide +kernel
theorem d_Mo_read_22 : decode m_Mo_read.2.1 22 = .ok (.aload_n 0, 1) := by decide +kernel
theorem d_Mo_read_23 : decode m_Mo_read.2.1 23 = .ok (.getfield 13, 3) := by decide +kernel
theorem d_Mo_read_26 : decode m_Mo_read.2.1 26 = .ok (.iload_n 1, 1) := by decide +kernel
theorem d_Mo_read_27 : decode m_Mo_read.2.1 27 = .ok (.iconst 0, 1) := by decide +kernel
theorem d_Mo_read_28 : decode m_Mo_read.2.1 28 = .ok (.iastore, 1) := by decide +kernel
theorem d_Mo_read_29 : decode m_Mo_read.2.1 29 = .ok (.iinc 1 1, 3) := by decide +kernel
theorem d_Mo_read_32 : decode m_Mo_read.2.1 32 = .ok (.goto (-16), 3) := by decide +kernel
theorem d_Mo_read_35 : decode m_Mo_read.2.1 35 = .ok (.iconst 0, 1) := by decide +kernel
theorem d_Mo_read_36 : decode m_Mo_read.2.1 36 = .ok (.istore_n 1, 1) := by decide +kernel
theorem d_Mo_read_37 : decode m_Mo_read.2.1 37 = .ok (.iload_n 1, 1) := by decide +kernel
theorem d_Mo_read_38 : decode m_Mo_read.2.1 38 = .ok (.iconst 5, 1) := by decide +kernel
theorem d_Mo_read_39 : decode m_Mo_read.2.1 39 = .ok (.if_icmp .ge 16, 3) := by decide +kernel
theorem d_Mo_read_42 : decode m_Mo_read.2.1 42 = .ok (.aload_n 0, 1) := by decide +kernel
theorem d_Mo_read_43 : decode m_Mo_read.2.1 43 = .ok (.getfield 16, 3) := by decide +kernel
theorem d_Mo_read_46 : decode m_Mo_read.2.1 46 = .ok (.iload_n 1, 1) := by decide +kernel
theorem d_Mo_read_47 : decode m_Mo_read.2.1 47 = .ok (.iconst 0, 1) := by decide +kernel
theorem d_Mo_read_48 : decode m_Mo_read.2.1 48 = .ok (.iastore, 1) := by decide +kernel
theorem d_Mo_read_49 : decode m_Mo_read.2.1 49 = .ok (.iinc 1 1, 3) := by decide +kernel
theorem d_Mo_read_52 : decode m_Mo_read.2.1 52 = .ok (.goto (-15), 3) := by decide +kernel
theorem d_Mo_read_55 : decode m_Mo_read.2.1 55 = .ok (.iconst 1, 1) := by decide +kernel
theorem d_Mo_read_56 : decode m_Mo_read.2.1 56 = .ok (.istore_n 1, 1) := by decide +kernel
theorem d_Mo_read_57 : decode m_Mo_read.2.1 57 = .ok (.iload_n 1, 1) := by decide +kernel
theorem d_Mo_read_58 : decode m_Mo_read.2.1 58 = .ok (.ifCond .eq 19, 3) := by decide +kernel
theorem d_Mo_read_61 : decode m_Mo_read.2.1 61 = .ok (.aload_n 0, 1) := by decide +kernel
theorem d_Mo_read_62 : decode m_Mo_read.2.1 62 = .ok (.invokevirtual 128, 3) := by decide +kernel
theorem d_Mo_read_65 : decode m_Mo_read.2.1 65 = .ok (.iconst (-1), 1) := by decide +kernel
theorem d_Mo_read_66 : decode m_Mo_read.2.1 66 = .ok (.if_icmp .eq 11, 3) := by decide +kernel
theorem d_Mo_read_69 : decode m_Mo_read.2.1 69 = .ok (.aload_n 0, 1) := by decide +kernel
theorem d_Mo_read_70 : decode m_Mo_read.2.1 70 = .ok (.invokevirtual 181, 3) := by decide +kernel
theorem d_Mo_read_73 : decode m_Mo_read.2.1 73 = .ok (.istore_n 1, 1) := by decide +kernel
theorem d_Mo_read_74 : decode m_Mo_read.2.1 74 = .ok (.goto (-17), 3) := by decide +kernel
theorem d_Mo_read_77 : decode m_Mo_read.2.1 77 = .ok (.aload_n 0, 1) := by decide +kernel
theorem d_Mo_read_78 : decode m_Mo_read.2.1 78 = .ok (.getfield 121, 3) := by decide +kernel
theorem d_Mo_read_81 : decode m_Mo_read.2.1 81 = .ok (.istore_n 2, 1) := by decide +kernel
theorem d_Mo_read_82 : decode m_Mo_read.2.1 82 = .ok (.aload_n 0, 1) := by decide +kernel
theorem d_Mo_read_83 : decode m_Mo_read.2.1 83 = .ok (.iconst 0, 1) := by decide +kernel
theorem d_Mo_read_84 : decode m_Mo_read.2.1 84 = .ok (.putfield 118, 3) := by decide +kernel
theorem d_Mo_read_87 : decode m_Mo_read.2.1 87 = .ok (.iload_n 1, 1) := by decide +kernel
theorem d_Mo_read_88 : decode m_Mo_read.2.1 88 = .ok (.ifCond .eq 10, 3) := by decide +kernel
theorem d_Mo_read_91 : decode m_Mo_read.2.1 91 = .ok (.aload_n 0, 1) := by decide +kernel
theorem d_Mo_read_92 : decode m_Mo_read.2.1 92 = .ok (.getfield 16, 3) := by decide +kernel
theorem d_Mo_read_95 : decode m_Mo_read.2.1 95 = .ok (.iconst 0, 1) := by decide +kernel
theorem d_Mo_read_96 : decode m_Mo_read.2.1 96 = .ok (.iaload, 1) := by decide +kernel
theorem d_Mo_read_97 : decode m_Mo_read.2.1 97 = .ok (.ireturn, 1) := by decide +kernel
theorem d_Mo_read_98 : decode m_Mo_read.2.1 98 = .ok (.aload_n 0, 1) := by decide +kernel
theorem d_Mo_read_99 : decode m_Mo_read.2.1 99 = .ok (.invokevirtual 184, 3) := by decide +kernel
theorem d_Mo_read_102 : decode m_Mo_read.2.1 102 = .ok (.iconst (-1), 1) := by decide +kernel
theorem d_Mo_read_103 : decode m_Mo_read.2.1 103 = .ok (.iload_n 2, 1) := by decide +kernel
theorem d_Mo_read_104 : decode m_Mo_read.2.1 104 = .ok (.isub, 1) := by decide +kernel
theorem d_Mo_read_105 : decode m_Mo_read.2.1 105 = .ok (.ireturn, 1) := by decide +kernel
theorem d_Mo_move_0 : decode m_Mo_move.2.1 0 = .ok (.iconst 0, 1) := by decide +kernel
theorem d_Mo_move_1 : decode m_Mo_move.2.1 1 = .ok (.istore_n 3, 1) := by decide +kernel
theorem d_Mo_move_2 : decode m_Mo_move.2.1 2 = .ok (.iload_n 3, 1) := by decide +kernel
theorem d_Mo_move_3 : decode m_Mo_move.2.1 3 = .ok (.iload_n 2, 1) := by decide +kernel
theorem d_Mo_move_4 : decode m_Mo_move.2.1 4 = .ok (.if_icmp .ge 15, 3) := by decide +kernel
theorem d_Mo_move_7 : decode m_Mo_move.2.1 7 = .ok (.aload_n 1, 1) := by decide +kernel
theorem d_Mo_move_8 : decode m_Mo_move.2.1 8 = .ok (.iload_n 3, 1) := by decide +kernel
theorem d_Mo_move_9 : decode m_Mo_move.2.1 9 = .ok (.aload_n 0, 1) := by decide +kernel
theorem d_Mo_move_10 : decode m_Mo_move.2.1 10 = .ok (.iload_n 3, 1) := by decide +kernel
theorem d_Mo_move_11 : decode m_Mo_move.2.1 11 = .ok (.iaload, 1) := by decide +kernel
theorem d_Mo_move_12 : decode m_Mo_move.2.1 12 = .ok (.iastore, 1) := by decide +kernel
theorem d_Mo_move_13 : decode m_Mo_move.2.1 13 = .ok (.iinc 3 1, 3) := by decide +kernel
theorem d_Mo_move_16 : decode m_Mo_move.2.1 16 = .ok (.goto (-14), 3) := by decide +kernel
theorem d_Mo_move_19 : decode m_Mo_move.2.1 19 = .ok (.return_, 1) := by decide +kernel
theorem d_Mo_keepOld_0 : decode m_Mo_keepOld.2.1 0 = .ok (.aload_n 0, 1) := by decide +kernel
theorem d_Mo_keepOld_1 : decode m_Mo_keepOld.2.1 1 = .ok (.getfield 13, 3) := by decide +kernel
theorem d_Mo_keepOld_4 : decode m_Mo_keepOld.2.1 4 = .ok (.aload_n 0, 1) := by decide +kernel
theorem d_Mo_keepOld_5 : decode m_Mo_keepOld.2.1 5 = .ok (.getfield 80, 3) := by decide +kernel
theorem d_Mo_keepOld_8 : decode m_Mo_keepOld.2.1 8 = .ok (.bipush 7, 2) := by decide +kernel
theorem d_Mo_keepOld_10 : decode m_Mo_keepOld.2.1 10 = .ok (.invokestatic 187, 3) := by decide +kernel
theorem d_Mo_keepOld_13 : decode m_Mo_keepOld.2.1 13 = .ok (.aload_n 0, 1) := by decide +kernel
theorem d_Mo_keepOld_14 : decode m_Mo_keepOld.2.1 14 = .ok (.getfield 16, 3) := by decide +kernel
theorem d_Mo_keepOld_17 : decode m_Mo_keepOld.2.1 17 = .ok (.aload_n 0, 1) := by decide +kernel
theorem d_Mo_keepOld_18 : decode m_Mo_keepOld.2.1 18 = .ok (.getfield 83, 3) := by decide +kernel
theorem d_Mo_keepOld_21 : decode m_Mo_keepOld.2.1 21 = .ok (.iconst 5, 1) := by decide +kernel
theorem d_Mo_keepOld_22 : decode m_Mo_keepOld.2.1 22 = .ok (.invokestatic 187, 3) := by decide +kernel
theorem d_Mo_keepOld_25 : decode m_Mo_keepOld.2.1 25 = .ok (.aload_n 0, 1) := by decide +kernel
theorem d_Mo_keepOld_26 : decode m_Mo_keepOld.2.1 26 = .ok (.getfield 19, 3) := by decide +kernel
theorem d_Mo_keepOld_29 : decode m_Mo_keepOld.2.1 29 = .ok (.aload_n 0, 1) := by decide +kernel
theorem d_Mo_keepOld_30 : decode m_Mo_keepOld.2.1 30 = .ok (.getfield 86, 3) := by decide +kernel
theorem d_Mo_keepOld_33 : decode m_Mo_keepOld.2.1 33 = .ok (.iconst 2, 1) := by decide +kernel
theorem d_Mo_keepOld_34 : decode m_Mo_keepOld.2.1 34 = .ok (.invokestatic 187, 3) := by decide +kernel
theorem d_Mo_keepOld_37 : decode m_Mo_keepOld.2.1 37 = .ok (.aload_n 0, 1) := by decide +kernel
theorem d_Mo_keepOld_38 : decode m_Mo_keepOld.2.1 38 = .ok (.getfield 22, 3) := by decide +kernel
theorem d_Mo_keepOld_41 : decode m_Mo_keepOld.2.1 41 = .ok (.aload_n 0, 1) := by decide +kernel
theorem d_Mo_keepOld_42 : decode m_Mo_keepOld.2.1 42 = .ok (.getfield 89, 3) := by decide +kernel
theorem d_Mo_keepOld_45 : decode m_Mo_keepOld.2.1 45 = .ok (.bipush 48, 2) := by decide +kernel
theorem d_Mo_keepOld_47 : decode m_Mo_keepOld.2.1 47 = .ok (.invokestatic 187, 3) := by decide +kernel
theorem d_Mo_keepOld_50 : decode m_Mo_keepOld.2.1 50 = .ok (.aload_n 0, 1) := by decide +kernel
theorem d_Mo_keepOld_51 : decode m_Mo_keepOld.2.1 51 = .ok (.getfield 25, 3) := by decide +kernel
theorem d_Mo_keepOld_54 : decode m_Mo_keepOld.2.1 54 = .ok (.aload_n 0, 1) := by decide +kernel
theorem d_Mo_keepOld_55 : decode m_Mo_keepOld.2.1 55 = .ok (.getfield 92, 3) := by decide +kernel
theorem d_Mo_keepOld_58 : decode m_Mo_keepOld.2.1 58 = .ok (.bipush 120, 2) := by decide +kernel
theorem d_Mo_keepOld_60 : decode m_Mo_keepOld.2.1 60 = .ok (.invokestatic 187, 3) := by decide +kernel
theorem d_Mo_keepOld_63 : decode m_Mo_keepOld.2.1 63 = .ok (.aload_n 0, 1) := by decide +kernel
theorem d_Mo_keepOld_64 : decode m_Mo_keepOld.2.1 64 = .ok (.getfield 28, 3) := by decide +kernel
theorem d_Mo_keepOld_67 : decode m_Mo_keepOld.2.1 67 = .ok (.aload_n 0, 1) := by decide +kernel
theorem d_Mo_keepOld_68 : decode m_Mo_keepOld.2.1 68 = .ok (.getfield 95, 3) := by decide +kernel
theorem d_Mo_keepOld_71 : decode m_Mo_keepOld.2.1 71 = .ok (.bipush 16, 2) := by decide +kernel
theorem d_Mo_keepOld_73 : decode m_Mo_keepOld.2.1 73 = .ok (.invokestatic 187, 3) := by decide +kernel
theorem d_Mo_keepOld_76 : decode m_Mo_keepOld.2.1 76 = .ok (.aload_n 0, 1) := by decide +kernel
theorem d_Mo_keepOld_77 : decode m_Mo_keepOld.2.1 77 = .ok (.getfield 31, 3) := by decide +kernel
theorem d_Mo_keepOld_80 : decode m_Mo_keepOld.2.1 80 = .ok (.aload_n 0, 1) := by decide +kernel
theorem d_Mo_keepOld_81 : decode m_Mo_keepOld.2.1 81 = .ok (.getfield 98, 3) := by decide +kernel
theorem d_Mo_keepOld_84 : decode m_Mo_keepOld.2.1 84 = .ok (.bipush 48, 2) := by decide +kernel
theorem d_Mo_keepOld_86 : decode m_Mo_keepOld.2.1 86 = .ok (.invokestatic 187, 3) := by decide +kernel
theorem d_Mo_keepOld_89 : decode m_Mo_keepOld.2.1 89 = .ok (.aload_n 0, 1) := by decide +kernel
theorem d_Mo_keepOld_90 : decode m_Mo_keepOld.2.1 90 = .ok (.getfield 34, 3) := by decide +kernel
theorem d_Mo_keepOld_93 : decode m_Mo_keepOld.2.1 93 = .ok (.aload_n 0, 1) := by decide +kernel
theorem d_Mo_keepOld_94 : decode m_Mo_keepOld.2.1 94 = .ok (.getfield 101, 3) := by decide +kernel
theorem d_Mo_keepOld_97 : decode m_Mo_keepOld.2.1 97 = .ok (.sipush 880, 3) := by decide +kernel
theorem d_Mo_keepOld_100 : decode m_Mo_keepOld.2.1 100 = .ok (.invokestatic 187, 3) := by decide +kernel
theorem d_Mo_keepOld_103 : decode m_Mo_keepOld.2.1 103 = .ok (.return_, 1) := by decide +kernel
theorem d_Mo_takeOld_0 : decode m_Mo_takeOld.2.1 0 = .ok (.aload_n 0, 1) := by decide +kernel
theorem d_Mo_takeOld_1 : decode m_Mo_takeOld.2.1 1 = .ok (.getfield 80, 3) := by decide +kernel
theorem d_Mo_takeOld_4 : decode m_Mo_takeOld.2.1 4 = .ok (.aload_n 0, 1) := by decide +kernel
theorem d_Mo_takeOld_5 : decode m_Mo_takeOld.2.1 5 = .ok (.getfield 13, 3) := by decide +kernel
theorem d_Mo_takeOld_8 : decode m_Mo_takeOld.2.1 8 = .ok (.bipush 7, 2) := by decide +kernel
theorem d_Mo_takeOld_10 : decode m_Mo_takeOld.2.1 10 = .ok (.invokestatic 187, 3) := by decide +kernel
theorem d_Mo_takeOld_13 : decode m_Mo_takeOld.2.1 13 = .ok (.aload_n 0, 1) := by decide +kernel
theorem d_Mo_takeOld_14 : decode m_Mo_takeOld.2.1 14 = .ok (.getfield 83, 3) := by decide +kernel
theorem d_Mo_takeOld_17 : decode m_Mo_takeOld.2.1 17 = .ok (.aload_n 0, 1) := by decide +kernel
theorem d_Mo_takeOld_18 : decode m_Mo_takeOld.2.1 18 = .ok (.getfield 16, 3) := by decide +kernel
theorem d_Mo_takeOld_21 : decode m_Mo_takeOld.2.1 21 = .ok (.iconst 5, 1) := by decide +kernel
theorem d_Mo_takeOld_22 : decode m_Mo_takeOld.2.1 22 = .ok (.invokestatic 187, 3) := by decide +kernel
theorem d_Mo_takeOld_25 : decode m_Mo_takeOld.2.1 25 = .ok (.aload_n 0, 1) := by decide +kernel
theorem d_Mo_takeOld_26 : decode m_Mo_takeOld.2.1 26 = .ok (.getfield 86, 3) := by decide +kernel
theorem d_Mo_takeOld_29 : decode m_Mo_takeOld.2.1 29 = .ok (.aload_n 0, 1) := by decide +kernel
theorem d_Mo_takeOld_30 : decode m_Mo_takeOld.2.1 30 = .ok (.getfield 19, 3) := by decide +kernel
theorem d_Mo_takeOld_33 : decode m_Mo_takeOld.2.1 33 = .ok (.iconst 2, 1) := by decide +kernel
theorem d_Mo_takeOld_34 : decode m_Mo_takeOld.2.1 34 = .ok (.invokestatic 187, 3) := by decide +kernel
theorem d_Mo_takeOld_37 : decode m_Mo_takeOld.2.1 37 = .ok (.aload_n 0, 1) := by decide +kernel
theorem d_Mo_takeOld_38 : decode m_Mo_takeOld.2.1 38 = .ok (.getfield 89, 3) := by decide +kernel
theorem d_Mo_takeOld_41 : decode m_Mo_takeOld.2.1 41 = .ok (.aload_n 0, 1) := by decide +kernel
theorem d_Mo_takeOld_42 : decode m_Mo_takeOld.2.1 42 = .ok (.getfield 22, 3) := by decide +kernel
theorem d_Mo_takeOld_45 : decode m_Mo_takeOld.2.1 45 = .ok (.bipush 48, 2) := by decide +kernel
theorem d_Mo_takeOld_47 : decode m_Mo_takeOld.2.1 47 = .ok (.invokestatic 187, 3) := by decide +kernel
theorem d_Mo_takeOld_50 : decode m_Mo_takeOld.2.1 50 = .ok (.aload_n 0, 1) := by decide +kernel
theorem d_Mo_takeOld_51 : decode m_Mo_takeOld.2.1 51 = .ok (.getfield 92, 3) := by decide +kernel
theorem d_Mo_takeOld_54 : decode m_Mo_takeOld.2.1 54 = .ok (.aload_n 0, 1) := by decide +kernel
theorem d_Mo_takeOld_55 : decode m_Mo_takeOld.2.1 55 = .ok (.getfield 25, 3) := by decide +kernel
theorem d_Mo_takeOld_58 : decode m_Mo_takeOld.2.1 58 = .ok (.bipush 120, 2) := by decide +kernel
theorem d_Mo_takeOld_60 : decode m_Mo_takeOld.2.1 60 = .ok (.invokestatic 187, 3) := by decide +kernel
theorem d_Mo_takeOld_63 : decode m_Mo_takeOld.2.1 63 = .ok (.aload_n 0, 1) := by decide +kernel
theorem d_Mo_takeOld_64 : decode m_Mo_takeOld.2.1 64 = .ok (.getfield 95, 3) := by decide +kernel
theorem d_Mo_takeOld_67 : decode m_Mo_takeOld.2.1 67 = .ok (.aload_n 0, 1) := by decide +kernel
theorem d_Mo_takeOld_68 : decode m_Mo_takeOld.2.1 68 = .ok (.getfield 28, 3) := by decide +kernel
theorem d_Mo_takeOld_71 : decode m_Mo_takeOld.2.1 71 = .ok (.bipush 16, 2) := by decide +kernel
theorem d_Mo_takeOld_73 : decode m_Mo_takeOld.2.1 73 = .ok (.invokestatic 187, 3) := by decide +kernel
theorem d_Mo_takeOld_76 : decode m_Mo_takeOld.2.1 76 = .ok (.aload_n 0, 1) := by decide +kernel
theorem d_Mo_takeOld_77 : decode m_Mo_takeOld.2.1 77 = .ok (.getfield 98, 3) := by decide +kernel
theorem d_Mo_takeOld_80 : decode m_Mo_takeOld.2.1 80 = .ok (.aload_n 0, 1) := by decide +kernel
theorem d_Mo_takeOld_81 : decode m_Mo_takeOld.2.1 81 = .ok (.getfield 31, 3) := by decide +kernel
theorem d_Mo_takeOld_84 : decode m_Mo_takeOld.2.1 84 = .ok (.bipush 48, 2) := by decide +kernel
theorem d_Mo_takeOld_86 : decode m_Mo_takeOld.2.1 86 = .ok (.invokestatic 187, 3) := by decide +kernel
theorem d_Mo_takeOld_89 : decode m_Mo_takeOld.2.1 89 = .ok (.aload_n 0, 1) := by decide +kernel
theorem d_Mo_takeOld_90 : decode m_Mo_takeOld.2.1 90 = .ok (.getfield 101, 3) := by decide +kernel
theorem d_Mo_takeOld_93 : decode m_Mo_takeOld.2.1 93 = .ok (.aload_n 0, 1) := by decide +kernel
theorem d_Mo_takeOld_94 : decode m_Mo_takeOld.2.1 94 = .ok (.getfield 34, 3) := by decide +kernel
theorem d_Mo_takeOld_97 : decode m_Mo_takeOld.2.1 97 = .ok (.sipush 880, 3) := by decide +kernel
theorem d_Mo_takeOld_100 : decode m_Mo_takeOld.2.1 100 = .ok (.invokestatic 187, 3) := by decide +kernel
theorem d_Mo_takeOld_103 : decode m_Mo_takeOld.2.1 103 = .ok (.return_, 1) := by decide +kernel
theorem d_Mo_record_0 : decode m_Mo_record.2.1 0 = .ok (.aload_n 0, 1) := by decide +kernel
theorem d_Mo_record_1 : decode m_Mo_record.2.1 1 = .ok (.iconst 0, 1) := by decide +kernel
theorem d_Mo_record_2 : decode m_Mo_record.2.1 2 = .ok (.putfield 114, 3) := by decide +kernel
theorem d_Mo_record_5 : decode m_Mo_record.2.1 5 = .ok (.iload_n 1, 1) := by decide +kernel
theorem d_Mo_record_6 : decode m_Mo_record.2.1 6 = .ok (.ifCond .lt 18, 3) := by decide +kernel
theorem d_Mo_record_9 : decode m_Mo_record.2.1 9 = .ok (.iload_n 1, 1) := by decide +kernel
theorem d_Mo_record_10 : decode m_Mo_record.2.1 10 = .ok (.iconst 2, 1) := by decide +kernel
theorem d_Mo_record_11 : decode m_Mo_record.2.1 11 = .ok (.if_icmp .gt 13, 3) := by decide +kernel
theorem d_Mo_record_14 : decode m_Mo_record.2.1 14 = .ok (.aload_n 0, 1) := by decide +kernel
theorem d_Mo_record_15 : decode m_Mo_record.2.1 15 = .ok (.getfield 191, 3) := by decide +kernel
theorem d_Mo_record_18 : decode m_Mo_record.2.1 18 = .ok (.sipush 150, 3) := by decide +kernel
theorem d_Mo_record_21 : decode m_Mo_record.2.1 21 = .ok (.if_icmp .ne 5, 3) := by decide +kernel
theorem d_Mo_record_24 : decode m_Mo_record.2.1 24 = .ok (.iconst (-1), 1) := by decide +kernel
theorem d_Mo_record_25 : decode m_Mo_record.2.1 25 = .ok (.ireturn, 1) := by decide +kernel
theorem d_Mo_record_26 : decode m_Mo_record.2.1 26 = .ok (.aload_n 0, 1) := by decide +kernel
theorem d_Mo_record_27 : decode m_Mo_record.2.1 27 = .ok (.getfield 43, 3) := by decide +kernel
theorem d_Mo_record_30 : decode m_Mo_record.2.1 30 = .ok (.aload_n 0, 1) := by decide +kernel
theorem d_Mo_record_31 : decode m_Mo_record.2.1 31 = .ok (.getfield 191, 3) := by decide +kernel
theorem d_Mo_record_34 : decode m_Mo_record.2.1 34 = .ok (.iload_n 1, 1) := by decide +kernel
theorem d_Mo_record_35 : decode m_Mo_record.2.1 35 = .ok (.iastore, 1) := by decide +kernel
theorem d_Mo_record_36 : decode m_Mo_record.2.1 36 = .ok (.aload_n 0, 1) := by decide +kernel
theorem d_Mo_record_37 : decode m_Mo_record.2.1 37 = .ok (.dup, 1) := by decide +kernel
theorem d_Mo_record_38 : decode m_Mo_record.2.1 38 = .ok (.getfield 191, 3) := by decide +kernel
theorem d_Mo_record_41 : decode m_Mo_record.2.1 41 = .ok (.iconst 1, 1) := by decide +kernel
theorem d_Mo_record_42 : decode m_Mo_record.2.1 42 = .ok (.iadd, 1) := by decide +kernel
theorem d_Mo_record_43 : decode m_Mo_record.2.1 43 = .ok (.putfield 191, 3) := by decide +kernel
theorem d_Mo_record_46 : decode m_Mo_record.2.1 46 = .ok (.aload_n 0, 1) := by decide +kernel
theorem d_Mo_record_47 : decode m_Mo_record.2.1 47 = .ok (.getfield 191, 3) := by decide +kernel
theorem d_Mo_record_50 : decode m_Mo_record.2.1 50 = .ok (.iconst 1, 1) := by decide +kernel
theorem d_Mo_record_51 : decode m_Mo_record.2.1 51 = .ok (.isub, 1) := by decide +kernel
theorem d_Mo_record_52 : decode m_Mo_record.2.1 52 = .ok (.ireturn, 1) := by decide +kernel
theorem d_Mo_octet_0 : decode m_Mo_octet.2.1 0 = .ok (.iload_n 1, 1) := by decide +kernel
theorem d_Mo_octet_1 : decode m_Mo_octet.2.1 1 = .ok (.ifCond .lt 25, 3) := by decide +kernel
theorem d_Mo_octet_4 : decode m_Mo_octet.2.1 4 = .ok (.iload_n 1, 1) := by decide +kernel
theorem d_Mo_octet_5 : decode m_Mo_octet.2.1 5 = .ok (.aload_n 0, 1) := by decide +kernel
theorem d_Mo_octet_6 : decode m_Mo_octet.2.1 6 = .ok (.getfield 191, 3) := by decide +kernel
theorem d_Mo_octet_9 : decode m_Mo_octet.2.1 9 = .ok (.if_icmp .ge 17, 3) := by decide +kernel
theorem d_Mo_octet_12 : decode m_Mo_octet.2.1 12 = .ok (.iload_n 2, 1) := by decide +kernel
theorem d_Mo_octet_13 : decode m_Mo_octet.2.1 13 = .ok (.ifCond .lt 13, 3) := by decide +kernel
theorem d_Mo_octet_16 : decode m_Mo_octet.2.1 16 = .ok (.iload_n 2, 1) := by decide +kernel
theorem d_Mo_octet_17 : decode m_Mo_octet.2.1 17 = .ok (.bipush 100, 2) := by decide +kernel
theorem d_Mo_octet_19 : decode m_Mo_octet.2.1 19 = .ok (.if_icmp .ge 7, 3) := by decide +kernel
theorem d_Mo_octet_22 : decode m_Mo_octet.2.1 22 = .ok (.iconst 1, 1) := by decide +kernel
theorem d_Mo_octet_23 : decode m_Mo_octet.2.1 23 = .ok (.goto 4, 3) := by decide +kernel
theorem d_Mo_octet_26 : decode m_Mo_octet.2.1 26 = .ok (.iconst 0, 1) := by decide +kernel
theorem d_Mo_octet_27 : decode m_Mo_octet.2.1 27 = .ok (.istore 4, 2) := by decide +kernel
theorem d_Mo_octet_29 : decode m_Mo_octet.2.1 29 = .ok (.aload_n 0, 1) := by decide +kernel
theorem d_Mo_octet_30 : decode m_Mo_octet.2.1 30 = .ok (.iload 4, 2) := by decide +kernel
theorem d_Mo_octet_32 : decode m_Mo_octet.2.1 32 = .ok (.ifCond .eq 7, 3) := by decide +kernel
theorem d_Mo_octet_35 : decode m_Mo_octet.2.1 35 = .ok (.iconst 0, 1) := by decide +kernel
theorem d_Mo_octet_36 : decode m_Mo_octet.2.1 36 = .ok (.goto 4, 3) := by decide +kernel
theorem d_Mo_octet_39 : decode m_Mo_octet.2.1 39 = .ok (.iconst 1, 1) := by decide +kernel
theorem d_Mo_octet_40 : decode m_Mo_octet.2.1 40 = .ok (.putfield 114, 3) := by decide +kernel
theorem d_Mo_octet_43 : decode m_Mo_octet.2.1 43 = .ok (.iload 4, 2) := by decide +kernel
theorem d_Mo_octet_45 : decode m_Mo_octet.2.1 45 = .ok (.ifCond .ne 4, 3) := by decide +kernel
theorem d_Mo_octet_48 : decode m_Mo_octet.2.1 48 = .ok (.return_, 1) := by decide +kernel
theorem d_Mo_octet_49 : decode m_Mo_octet.2.1 49 = .ok (.aload_n 0, 1) := by decide +kernel
theorem d_Mo_octet_50 : decode m_Mo_octet.2.1 50 = .ok (.getfield 40, 3) := by decide +kernel
theorem d_Mo_octet_53 : decode m_Mo_octet.2.1 53 = .ok (.iload_n 1, 1) := by decide +kernel
theorem d_Mo_octet_54 : decode m_Mo_octet.2.1 54 = .ok (.iaload, 1) := by decide +kernel
theorem d_Mo_octet_55 : decode m_Mo_octet.2.1 55 = .ok (.istore 5, 2) := by decide +kernel
theorem d_Mo_octet_57 : decode m_Mo_octet.2.1 57 = .ok (.iload 5, 2) := by decide +kernel
theorem d_Mo_octet_59 : decode m_Mo_octet.2.1 59 = .ok (.iload_n 2, 1) := by decide +kernel
theorem d_Mo_octet_60 : decode m_Mo_octet.2.1 60 = .ok (.if_icmp .ge 23, 3) := by decide +kernel
theorem d_Mo_octet_63 : decode m_Mo_octet.2.1 63 = .ok (.aload_n 0, 1) := by decide +kernel
theorem d_Mo_octet_64 : decode m_Mo_octet.2.1 64 = .ok (.getfield 37, 3) := by decide +kernel
theorem d_Mo_octet_67 : decode m_Mo_octet.2.1 67 = .ok (.bipush 100, 2) := by decide +kernel
theorem d_Mo_octet_69 : decode m_Mo_octet.2.1 69 = .ok (.iload_n 1, 1) := by decide +kernel
theorem d_Mo_octet_70 : decode m_Mo_octet.2.1 70 = .ok (.imul, 1) := by decide +kernel
theorem d_Mo_octet_71 : decode m_Mo_octet.2.1 71 = .ok (.iload 5, 2) := by decide +kernel
theorem d_Mo_octet_73 : decode m_Mo_octet.2.1 73 = .ok (.iadd, 1) := by decide +kernel
theorem d_Mo_octet_74 : decode m_Mo_octet.2.1 74 = .ok (.bipush 32, 2) := by decide +kernel
theorem d_Mo_octet_76 : decode m_Mo_octet.2.1 76 = .ok (.iastore, 1) := by decide +kernel
theorem d_Mo_octet_77 : decode m_Mo_octet.2.1 77 = .ok (.iinc 5 1, 3) := by decide +kernel
theorem d_Mo_octet_80 : decode m_Mo_octet.2.1 80 = .ok (.goto (-23), 3) := by decide +kernel
theorem d_Mo_octet_83 : decode m_Mo_octet.2.1 83 = .ok (.aload_n 0, 1) := by decide +kernel
theorem d_Mo_octet_84 : decode m_Mo_octet.2.1 84 = .ok (.getfield 37, 3) := by decide +kernel
theorem d_Mo_octet_87 : decode m_Mo_octet.2.1 87 = .ok (.bipush 100, 2) := by decide +kernel
theorem d_Mo_octet_89 : decode m_Mo_octet.2.1 89 = .ok (.iload_n 1, 1) := by decide +kernel
theorem d_Mo_octet_90 : decode m_Mo_octet.2.1 90 = .ok (.imul, 1) := by decide +kernel
theorem d_Mo_octet_91 : decode m_Mo_octet.2.1 91 = .ok (.iload_n 2, 1) := by decide +kernel
theorem d_Mo_octet_92 : decode m_Mo_octet.2.1 92 = .ok (.iadd, 1) := by decide +kernel
theorem d_Mo_octet_93 : decode m_Mo_octet.2.1 93 = .ok (.iload_n 3, 1) := by decide +kernel
theorem d_Mo_octet_94 : decode m_Mo_octet.2.1 94 = .ok (.sipush 255, 3) := by decide +kernel
theorem d_Mo_octet_97 : decode m_Mo_octet.2.1 97 = .ok (.iand, 1) := by decide +kernel
theorem d_Mo_octet_98 : decode m_Mo_octet.2.1 98 = .ok (.iastore, 1) := by decide +kernel
theorem d_Mo_octet_99 : decode m_Mo_octet.2.1 99 = .ok (.aload_n 0, 1) := by decide +kernel
theorem d_Mo_octet_100 : decode m_Mo_octet.2.1 100 = .ok (.getfield 40, 3) := by decide +kernel
theorem d_Mo_octet_103 : decode m_Mo_octet.2.1 103 = .ok (.iload_n 1, 1) := by decide +kernel
theorem d_Mo_octet_104 : decode m_Mo_octet.2.1 104 = .ok (.iload_n 2, 1) := by decide +kernel
theorem d_Mo_octet_105 : decode m_Mo_octet.2.1 105 = .ok (.aload_n 0, 1) := by decide +kernel
theorem d_Mo_octet_106 : decode m_Mo_octet.2.1 106 = .ok (.getfield 40, 3) := by decide +kernel
theorem d_Mo_octet_109 : decode m_Mo_octet.2.1 109 = .ok (.iload_n 1, 1) := by decide +kernel
theorem d_Mo_octet_110 : decode m_Mo_octet.2.1 110 = .ok (.iaload, 1) := by decide +kernel
theorem d_Mo_octet_111 : decode m_Mo_octet.2.1 111 = .ok (.if_icmp .lt 9, 3) := by decide +kernel
theorem d_Mo_octet_114 : decode m_Mo_octet.2.1 114 = .ok (.iload_n 2, 1) := by decide +kernel
theorem d_Mo_octet_115 : decode m_Mo_octet.2.1 115 = .ok (.iconst 1, 1) := by decide +kernel
theorem d_Mo_octet_116 : decode m_Mo_octet.2.1 116 = .ok (.iadd, 1) := by decide +kernel
theorem d_Mo_octet_117 : decode m_Mo_octet.2.1 117 = .ok (.goto 9, 3) := by decide +kernel
theorem d_Mo_octet_120 : decode m_Mo_octet.2.1 120 = .ok (.aload_n 0, 1) := by decide +kernel
theorem d_Mo_octet_121 : decode m_Mo_octet.2.1 121 = .ok (.getfield 40, 3) := by decide +kernel
theorem d_Mo_octet_124 : decode m_Mo_octet.2.1 124 = .ok (.iload_n 1, 1) := by decide +kernel
theorem d_Mo_octet_125 : decode m_Mo_octet.2.1 125 = .ok (.iaload, 1) := by decide +kernel
theorem d_Mo_octet_126 : decode m_Mo_octet.2.1 126 = .ok (.iastore, 1) := by decide +kernel
theorem d_Mo_octet_127 : decode m_Mo_octet.2.1 127 = .ok (.return_, 1) := by decide +kernel
theorem d_Mo_byteOf_0 : decode m_Mo_byteOf.2.1 0 = .ok (.iload_n 3, 1) := by decide +kernel
theorem d_Mo_byteOf_1 : decode m_Mo_byteOf.2.1 1 = .ok (.aload_n 1, 1) := by decide +kernel
theorem d_Mo_byteOf_2 : decode m_Mo_byteOf.2.1 2 = .ok (.iload_n 2, 1) := by decide +kernel
theorem d_Mo_byteOf_3 : decode m_Mo_byteOf.2.1 3 = .ok (.iaload, 1) := by decide +kernel
theorem d_Mo_byteOf_4 : decode m_Mo_byteOf.2.1 4 = .ok (.if_icmp .ge 14, 3) := by decide +kernel
theorem d_Mo_byteOf_7 : decode m_Mo_byteOf.2.1 7 = .ok (.aload_n 0, 1) := by decide +kernel
theorem d_Mo_byteOf_8 : decode m_Mo_byteOf.2.1 8 = .ok (.bipush 100, 2) := by decide +kernel
theorem d_Mo_byteOf_10 : decode m_Mo_byteOf.2.1 10 = .ok (.iload_n 2, 1) := by decide +kernel
theorem d_Mo_byteOf_11 : decode m_Mo_byteOf.2.1 11 = .ok (.imul, 1) := by decide +kernel
theorem d_Mo_byteOf_12 : decode m_Mo_byteOf.2.1 12 = .ok (.iload_n 3, 1) := by decide +kernel
theorem d_Mo_byteOf_13 : decode m_Mo_byteOf.2.1 13 = .ok (.iadd, 1) := by decide +kernel
theorem d_Mo_byteOf_14 : decode m_Mo_byteOf.2.1 14 = .ok (.iaload, 1) := by decide +kernel
theorem d_Mo_byteOf_15 : decode m_Mo_byteOf.2.1 15 = .ok (.goto 5, 3) := by decide +kernel
theorem d_Mo_byteOf_18 : decode m_Mo_byteOf.2.1 18 = .ok (.bipush 32, 2) := by decide +kernel
theorem d_Mo_byteOf_20 : decode m_Mo_byteOf.2.1 20 = .ok (.ireturn, 1) := by decide +kernel
theorem d_Mo_asNumber_0 : decode m_Mo_asNumber.2.1 0 = .ok (.lconst 0, 1) := by decide +kernel
theorem d_Mo_asNumber_1 : decode m_Mo_asNumber.2.1 1 = .ok (.lstore 5, 2) := by decide +kernel
theorem d_Mo_asNumber_3 : decode m_Mo_asNumber.2.1 3 = .ok (.iload_n 3, 1) := by decide +kernel
theorem d_Mo_asNumber_4 : decode m_Mo_asNumber.2.1 4 = .ok (.istore 7, 2) := by decide +kernel
theorem d_Mo_asNumber_6 : decode m_Mo_asNumber.2.1 6 = .ok (.iload 7, 2) := by decide +kernel
theorem d_Mo_asNumber_8 : decode m_Mo_asNumber.2.1 8 = .ok (.iload_n 3, 1) := by decide +kernel
theorem d_Mo_asNumber_9 : decode m_Mo_asNumber.2.1 9 = .ok (.iload 4, 2) := by decide +kernel
theorem d_Mo_asNumber_11 : decode m_Mo_asNumber.2.1 11 = .ok (.iadd, 1) := by decide +kernel
theorem d_Mo_asNumber_12 : decode m_Mo_asNumber.2.1 12 = .ok (.if_icmp .ge 52, 3) := by decide +kernel
theorem d_Mo_asNumber_15 : decode m_Mo_asNumber.2.1 15 = .ok (.aload_n 0, 1) := by decide +kernel
theorem d_Mo_asNumber_16 : decode m_Mo_asNumber.2.1 16 = .ok (.aload_n 1, 1) := by decide +kernel
theorem d_Mo_asNumber_17 : decode m_Mo_asNumber.2.1 17 = .ok (.iload_n 2, 1) := by decide +kernel
theorem d_Mo_asNumber_18 : decode m_Mo_asNumber.2.1 18 = .ok (.iload 7, 2) := by decide +kernel
theorem d_Mo_asNumber_20 : decode m_Mo_asNumber.2.1 20 = .ok (.invokestatic 194, 3) := by decide +kernel
theorem d_Mo_asNumber_23 : decode m_Mo_asNumber.2.1 23 = .ok (.istore 8, 2) := by decide +kernel
theorem d_Mo_asNumber_25 : decode m_Mo_asNumber.2.1 25 = .ok (.ldc2_w 198, 3) := by decide +kernel
theorem d_Mo_asNumber_28 : decode m_Mo_asNumber.2.1 28 = .ok (.lload 5, 2) := by decide +kernel
theorem d_Mo_asNumber_30 : decode m_Mo_asNumber.2.1 30 = .ok (.lmul, 1) := by decide +kernel
theorem d_Mo_asNumber_31 : decode m_Mo_asNumber.2.1 31 = .ok (.iload 8, 2) := by decide +kernel
theorem d_Mo_asNumber_33 : decode m_Mo_asNumber.2.1 33 = .ok (.bipush 48, 2) := by decide +kernel
theorem d_Mo_asNumber_35 : decode m_Mo_asNumber.2.1 35 = .ok (.if_icmp .lt 18, 3) := by decide +kernel
theorem d_Mo_asNumber_38 : decode m_Mo_asNumber.2.1 38 = .ok (.iload 8, 2) := by decide +kernel
theorem d_Mo_asNumber_40 : decode m_Mo_asNumber.2.1 40 = .ok (.bipush 57, 2) := by decide +kernel
theorem d_Mo_asNumber_42 : decode m_Mo_asNumber.2.1 42 = .ok (.if_icmp .gt 11, 3) := by decide +kernel
theorem d_Mo_asNumber_45 : decode m_Mo_asNumber.2.1 45 = .ok (.iload 8, 2) := by decide +kernel
theorem d_Mo_asNumber_47 : decode m_Mo_asNumber.2.1 47 = .ok (.bipush 48, 2) := by decide +kernel
theorem d_Mo_asNumber_49 : decode m_Mo_asNumber.2.1 49 = .ok (.isub, 1) := by decide +kernel
theorem d_Mo_asNumber_50 : decode m_Mo_asNumber.2.1 50 = .ok (.goto 4, 3) := by decide +kernel
theorem d_Mo_asNumber_53 : decode m_Mo_asNumber.2.1 53 = .ok (.iconst 0, 1) := by decide +kernel
theorem d_Mo_asNumber_54 : decode m_Mo_asNumber.2.1 54 = .ok (.i2l, 1) := by decide +kernel
theorem d_Mo_asNumber_55 : decode m_Mo_asNumber.2.1 55 = .ok (.ladd, 1) := by decide +kernel
theorem d_Mo_asNumber_56 : decode m_Mo_asNumber.2.1 56 = .ok (.lstore 5, 2) := by decide +kernel
theorem d_Mo_asNumber_58 : decode m_Mo_asNumber.2.1 58 = .ok (.iinc 7 1, 3) := by decide +kernel
theorem d_Mo_asNumber_61 : decode m_Mo_asNumber.2.1 61 = .ok (.goto (-55), 3) := by decide +kernel
theorem d_Mo_asNumber_64 : decode m_Mo_asNumber.2.1 64 = .ok (.lload 5, 2) := by decide +kernel
theorem d_Mo_asNumber_66 : decode m_Mo_asNumber.2.1 66 = .ok (.lreturn, 1) := by decide +kernel
theorem d_Mo_digitAt_0 : decode m_Mo_digitAt.2.1 0 = .ok (.iload_n 0, 1) := by decide +kernel
theorem d_Mo_digitAt_1 : decode m_Mo_digitAt.2.1 1 = .ok (.bipush 48, 2) := by decide +kernel
theorem d_Mo_digitAt_3 : decode m_Mo_digitAt.2.1 3 = .ok (.if_icmp .lt 16, 3) := by decide +kernel
theorem d_Mo_digitAt_6 : decode m_Mo_digitAt.2.1 6 = .ok (.iload_n 0, 1) := by decide +kernel
theorem d_Mo_digitAt_7 : decode m_Mo_digitAt.2.1 7 = .ok (.bipush 57, 2) := by decide +kernel
theorem d_Mo_digitAt_9 : decode m_Mo_digitAt.2.1 9 = .ok (.if_icmp .gt 10, 3) := by decide +kernel
theorem d_Mo_digitAt_12 : decode m_Mo_digitAt.2.1 12 = .ok (.iload_n 0, 1) := by decide +kernel
theorem d_Mo_digitAt_13 : decode m_Mo_digitAt.2.1 13 = .ok (.bipush 48, 2) := by decide +kernel
theorem d_Mo_digitAt_15 : decode m_Mo_digitAt.2.1 15 = .ok (.isub, 1) := by decide +kernel
theorem d_Mo_digitAt_16 : decode m_Mo_digitAt.2.1 16 = .ok (.goto 4, 3) := by decide +kernel
theorem d_Mo_digitAt_19 : decode m_Mo_digitAt.2.1 19 = .ok (.iconst 0, 1) := by decide +kernel
theorem d_Mo_digitAt_20 : decode m_Mo_digitAt.2.1 20 = .ok (.ireturn, 1) := by decide +kernel
theorem d_Mo_byKey_0 : decode m_Mo_byKey.2.1 0 = .ok (.aload_n 0, 1) := by decide +kernel
theorem d_Mo_byKey_1 : decode m_Mo_byKey.2.1 1 = .ok (.getfield 22, 3) := by decide +kernel
theorem d_Mo_byKey_4 : decode m_Mo_byKey.2.1 4 = .ok (.iconst 4, 1) := by decide +kernel
theorem d_Mo_byKey_5 : decode m_Mo_byKey.2.1 5 = .ok (.iload_n 1, 1) := by decide +kernel
theorem d_Mo_byKey_6 : decode m_Mo_byKey.2.1 6 = .ok (.imul, 1) := by decide +kernel
theorem d_Mo_byKey_7 : decode m_Mo_byKey.2.1 7 = .ok (.iaload, 1) := by decide +kernel
theorem d_Mo_byKey_8 : decode m_Mo_byKey.2.1 8 = .ok (.iconst 1, 1) := by decide +kernel
theorem d_Mo_byKey_9 : decode m_Mo_byKey.2.1 9 = .ok (.isub, 1) := by decide +kernel
theorem d_Mo_byKey_10 : decode m_Mo_byKey.2.1 10 = .ok (.istore 8, 2) := by decide +kernel
theorem d_Mo_byKey_12 : decode m_Mo_byKey.2.1 12 = .ok (.aload_n 0, 1) := by decide +kernel
theorem d_Mo_byKey_13 : decode m_Mo_byKey.2.1 13 = .ok (.getfield 22, 3) := by decide +kernel
theorem d_Mo_byKey_16 : decode m_Mo_byKey.2.1 16 = .ok (.iconst 4, 1) := by decide +kernel
theorem d_Mo_byKey_17 : decode m_Mo_byKey.2.1 17 = .ok (.iload_n 1, 1) := by decide +kernel
theorem d_Mo_byKey_18 : decode m_Mo_byKey.2.1 18 = .ok (.imul, 1) := by decide +kernel
theorem d_Mo_byKey_19 : decode m_Mo_byKey.2.1 19 = .ok (.iconst 3, 1) := by decide +kernel
theorem d_Mo_byKey_20 : decode m_Mo_byKey.2.1 20 = .ok (.iadd, 1) := by decide +kernel
theorem d_Mo_byKey_21 : decode m_Mo_byKey.2.1 21 = .ok (.iaload, 1) := by decide +kernel
theorem d_Mo_byKey_22 : decode m_Mo_byKey.2.1 22 = .ok (.iconst 1, 1) := by decide +kernel
theorem d_Mo_byKey_23 : decode m_Mo_byKey.2.1 23 = .ok (.if_icmp .ne 7, 3) := by decide +kernel
theorem d_Mo_byKey_26 : decode m_Mo_byKey.2.1 26 = .ok (.iconst 1, 1) := by decide +kernel
theorem d_Mo_byKey_27 : decode m_Mo_byKey.2.1 27 = .ok (.goto 4, 3) := by decide +kernel
theorem d_Mo_byKey_30 : decode m_Mo_byKey.2.1 30 = .ok (.iconst 0, 1) := by decide +kernel
theorem d_Mo_byKey_31 : decode m_Mo_byKey.2.1 31 = .ok (.istore 9, 2) := by decide +kernel
theorem d_Mo_byKey_33 : decode m_Mo_byKey.2.1 33 = .ok (.iload 8, 2) := by decide +kernel
theorem d_Mo_byKey_35 : decode m_Mo_byKey.2.1 35 = .ok (.istore 10, 2) := by decide +kernel
theorem d_Mo_byKey_37 : decode m_Mo_byKey.2.1 37 = .ok (.iload 10, 2) := by decide +kernel
theorem d_Mo_byKey_39 : decode m_Mo_byKey.2.1 39 = .ok (.iload 8, 2) := by decide +kernel
theorem d_Mo_byKey_41 : decode m_Mo_byKey.2.1 41 = .ok (.aload_n 0, 1) := by decide +kernel
theorem d_Mo_byKey_42 : decode m_Mo_byKey.2.1 42 = .ok (.getfield 22, 3) := by decide +kernel
theorem d_Mo_byKey_45 : decode m_Mo_byKey.2.1 45 = .ok (.iconst 4, 1) := by decide +kernel
theorem d_Mo_byKey_46 : decode m_Mo_byKey.2.1 46 = .ok (.iload_n 1, 1) := by decide +kernel
theorem d_Mo_byKey_47 : decode m_Mo_byKey.2.1 47 = .ok (.imul, 1) := by decide +kernel
theorem d_Mo_byKey_48 : decode m_Mo_byKey.2.1 48 = .ok (.iconst 1, 1) := by decide +kernel
theorem d_Mo_byKey_49 : decode m_Mo_byKey.2.1 49 = .ok (.iadd, 1) := by decide +kernel
theorem d_Mo_byKey_50 : decode m_Mo_byKey.2.1 50 = .ok (.iaload, 1) := by decide +kernel
theorem d_Mo_byKey_51 : decode m_Mo_byKey.2.1 51 = .ok (.iadd, 1) := by decide +kernel
theorem d_Mo_byKey_52 : decode m_Mo_byKey.2.1 52 = .ok (.if_icmp .ge 87, 3) := by decide +kernel
theorem d_Mo_byKey_55 : decode m_Mo_byKey.2.1 55 = .ok (.aload_n 2, 1) := by decide +kernel
theorem d_Mo_byKey_56 : decode m_Mo_byKey.2.1 56 = .ok (.aload_n 3, 1) := by decide +kernel
theorem d_Mo_byKey_57 : decode m_Mo_byKey.2.1 57 = .ok (.iload 4, 2) := by decide +kernel
theorem d_Mo_byKey_59 : decode m_Mo_byKey.2.1 59 = .ok (.iload 10, 2) := by decide +kernel
theorem d_Mo_byKey_61 : decode m_Mo_byKey.2.1 61 = .ok (.invokestatic 194, 3) := by decide +kernel
theorem d_Mo_byKey_64 : decode m_Mo_byKey.2.1 64 = .ok (.istore 11, 2) := by decide +kernel
theorem d_Mo_byKey_66 : decode m_Mo_byKey.2.1 66 = .ok (.aload 5, 2) := by decide +kernel
theorem d_Mo_byKey_68 : decode m_Mo_byKey.2.1 68 = .ok (.aload 6, 2) := by decide +kernel
theorem d_Mo_byKey_70 : decode m_Mo_byKey.2.1 70 = .ok (.iload 7, 2) := by decide +kernel
theorem d_Mo_byKey_72 : decode m_Mo_byKey.2.1 72 = .ok (.iload 10, 2) := by decide +kernel
theorem d_Mo_byKey_74 : decode m_Mo_byKey.2.1 74 = .ok (.invokestatic 194, 3) := by decide +kernel
theorem d_Mo_byKey_77 : decode m_Mo_byKey.2.1 77 = .ok (.istore 12, 2) := by decide +kernel
theorem d_Mo_byKey_79 : decode m_Mo_byKey.2.1 79 = .ok (.iload 9, 2) := by decide +kernel
theorem d_Mo_byKey_81 : decode m_Mo_byKey.2.1 81 = .ok (.ifCond .eq 11, 3) := by decide +kernel
theorem d_Mo_byKey_84 : decode m_Mo_byKey.2.1 84 = .ok (.iload 11, 2) := by decide +kernel
theorem d_Mo_byKey_86 : decode m_Mo_byKey.2.1 86 = .ok (.invokestatic 200, 3) := by decide +kernel
theorem d_Mo_byKey_89 : decode m_Mo_byKey.2.1 89 = .ok (.goto 5, 3) := by decide +kernel
theorem d_Mo_byKey_92 : decode m_Mo_byKey.2.1 92 = .ok (.iload 11, 2) := by decide +kernel
theorem d_Mo_byKey_94 : decode m_Mo_byKey.2.1 94 = .ok (.istore 11, 2) := by decide +kernel
theorem d_Mo_byKey_96 : decode m_Mo_byKey.2.1 96 = .ok (.iload 9, 2) := by decide +kernel
theorem d_Mo_byKey_98 : decode m_Mo_byKey.2.1 98 = .ok (.ifCond .eq 11, 3) := by decide +kernel
theorem d_Mo_byKey_101 : decode m_Mo_byKey.2.1 101 = .ok (.iload 12, 2) := by decide +kernel
theorem d_Mo_byKey_103 : decode m_Mo_byKey.2.1 103 = .ok (.invokestatic 200, 3) := by decide +kernel
theorem d_Mo_byKey_106 : decode m_Mo_byKey.2.1 106 = .ok (.goto 5, 3) := by decide +kernel
theorem d_Mo_byKey_109 : decode m_Mo_byKey.2.1 109 = .ok (.iload 12, 2) := by decide +kernel
theorem d_Mo_byKey_111 : decode m_Mo_byKey.2.1 111 = .ok (.istore 12, 2) := by decide +kernel
theorem d_Mo_byKey_113 : decode m_Mo_byKey.2.1 113 = .ok (.iload 11, 2) := by decide +kernel
theorem d_Mo_byKey_115 : decode m_Mo_byKey.2.1 115 = .ok (.iload 12, 2) := by decide +kernel
theorem d_Mo_byKey_117 : decode m_Mo_byKey.2.1 117 = .ok (.if_icmp .eq 16, 3) := by decide +kernel
theorem d_Mo_byKey_120 : decode m_Mo_byKey.2.1 120 = .ok (.iload 11, 2) := by decide +kernel
theorem d_Mo_byKey_122 : decode m_Mo_byKey.2.1 122 = .ok (.iload 12, 2) := by decide +kernel
theorem d_Mo_byKey_124 : decode m_Mo_byKey.2.1 124 = .ok (.if_icmp .ge 7, 3) := by decide +kernel
theorem d_Mo_byKey_127 : decode m_Mo_byKey.2.1 127 = .ok (.iconst (-1), 1) := by decide +kernel
theorem d_Mo_byKey_128 : decode m_Mo_byKey.2.1 128 = .ok (.goto 4, 3) := by decide +kernel
theorem d_Mo_byKey_131 : decode m_Mo_byKey.2.1 131 = .ok (.iconst 1, 1) := by decide +kernel
theorem d_Mo_byKey_132 : decode m_Mo_byKey.2.1 132 = .ok (.ireturn, 1) := by decide +kernel
theorem d_Mo_byKey_133 : decode m_Mo_byKey.2.1 133 = .ok (.iinc 10 1, 3) := by decide +kernel
theorem d_Mo_byKey_136 : decode m_Mo_byKey.2.1 136 = .ok (.goto (-99), 3) := by decide +kernel
theorem d_Mo_byKey_139 : decode m_Mo_byKey.2.1 139 = .ok (.iconst 0, 1) := by decide +kernel
theorem d_Mo_byKey_140 : decode m_Mo_byKey.2.1 140 = .ok (.ireturn, 1) := by decide +kernel
theorem d_Mo_byKeys_0 : decode m_Mo_byKeys.2.1 0 = .ok (.iconst 0, 1) := by decide +kernel
theorem d_Mo_byKeys_1 : decode m_Mo_byKeys.2.1 1 = .ok (.istore 7, 2) := by decide +kernel
theorem d_Mo_byKeys_3 : decode m_Mo_byKeys.2.1 3 = .ok (.iload 7, 2) := by decide +kernel
theorem d_Mo_byKeys_5 : decode m_Mo_byKeys.2.1 5 = .ok (.aload_n 0, 1) := by decide +kernel
theorem d_Mo_byKeys_6 : decode m_Mo_byKeys.2.1 6 = .ok (.getfield 16, 3) := by decide +kernel
theorem d_Mo_byKeys_9 : decode m_Mo_byKeys.2.1 9 = .ok (.iconst 1, 1) := by decide +kernel
theorem d_Mo_byKeys_10 : decode m_Mo_byKeys.2.1 10 = .ok (.iaload, 1) := by decide +kernel
theorem d_Mo_byKeys_11 : decode m_Mo_byKeys.2.1 11 = .ok (.if_icmp .ge 56, 3) := by decide +kernel
theorem d_Mo_byKeys_14 : decode m_Mo_byKeys.2.1 14 = .ok (.aload_n 0, 1) := by decide +kernel
theorem d_Mo_byKeys_15 : decode m_Mo_byKeys.2.1 15 = .ok (.iload 7, 2) := by decide +kernel
theorem d_Mo_byKeys_17 : decode m_Mo_byKeys.2.1 17 = .ok (.aload_n 1, 1) := by decide +kernel
theorem d_Mo_byKeys_18 : decode m_Mo_byKeys.2.1 18 = .ok (.aload_n 2, 1) := by decide +kernel
theorem d_Mo_byKeys_19 : decode m_Mo_byKeys.2.1 19 = .ok (.iload_n 3, 1) := by decide +kernel
theorem d_Mo_byKeys_20 : decode m_Mo_byKeys.2.1 20 = .ok (.aload 4, 2) := by decide +kernel
theorem d_Mo_byKeys_22 : decode m_Mo_byKeys.2.1 22 = .ok (.aload 5, 2) := by decide +kernel
theorem d_Mo_byKeys_24 : decode m_Mo_byKeys.2.1 24 = .ok (.iload 6, 2) := by decide +kernel
theorem d_Mo_byKeys_26 : decode m_Mo_byKeys.2.1 26 = .ok (.invokevirtual 203, 3) := by decide +kernel
theorem d_Mo_byKeys_29 : decode m_Mo_byKeys.2.1 29 = .ok (.istore 8, 2) := by decide +kernel
theorem d_Mo_byKeys_31 : decode m_Mo_byKeys.2.1 31 = .ok (.iload 8, 2) := by decide +kernel
theorem d_Mo_byKeys_33 : decode m_Mo_byKeys.2.1 33 = .ok (.ifCond .eq 28, 3) := by decide +kernel
theorem d_Mo_byKeys_36 : decode m_Mo_byKeys.2.1 36 = .ok (.aload_n 0, 1) := by decide +kernel
theorem d_Mo_byKeys_37 : decode m_Mo_byKeys.2.1 37 = .ok (.getfield 22, 3) := by decide +kernel
theorem d_Mo_byKeys_40 : decode m_Mo_byKeys.2.1 40 = .ok (.iconst 4, 1) := by decide +kernel
theorem d_Mo_byKeys_41 : decode m_Mo_byKeys.2.1 41 = .ok (.iload 7, 2) := by decide +kernel
theorem d_Mo_byKeys_43 : decode m_Mo_byKeys.2.1 43 = .ok (.imul, 1) := by decide +kernel
theorem d_Mo_byKeys_44 : decode m_Mo_byKeys.2.1 44 = .ok (.iconst 2, 1) := by decide +kernel
theorem d_Mo_byKeys_45 : decode m_Mo_byKeys.2.1 45 = .ok (.iadd, 1) := by decide +kernel
theorem d_Mo_byKeys_46 : decode m_Mo_byKeys.2.1 46 = .ok (.iaload, 1) := by decide +kernel
theorem d_Mo_byKeys_47 : decode m_Mo_byKeys.2.1 47 = .ok (.iconst 1, 1) := by decide +kernel
theorem d_Mo_byKeys_48 : decode m_Mo_byKeys.2.1 48 = .ok (.if_icmp .ne 10, 3) := by decide +kernel
theorem d_Mo_byKeys_51 : decode m_Mo_byKeys.2.1 51 = .ok (.iconst 0, 1) := by decide +kernel
theorem d_Mo_byKeys_52 : decode m_Mo_byKeys.2.1 52 = .ok (.iload 8, 2) := by decide +kernel
theorem d_Mo_byKeys_54 : decode m_Mo_byKeys.2.1 54 = .ok (.isub, 1) := by decide +kernel
theorem d_Mo_byKeys_55 : decode m_Mo_byKeys.2.1 55 = .ok (.goto 5, 3) := by decide +kernel
theorem d_Mo_byKeys_58 : decode m_Mo_byKeys.2.1 58 = .ok (.iload 8, 2) := by decide +kernel
theorem d_Mo_byKeys_60 : decode m_Mo_byKeys.2.1 60 = .ok (.ireturn, 1) := by decide +kernel
theorem d_Mo_byKeys_61 : decode m_Mo_byKeys.2.1 61 = .ok (.iinc 7 1, 3) := by decide +kernel
theorem d_Mo_byKeys_64 : decode m_Mo_byKeys.2.1 64 = .ok (.goto (-61), 3) := by decide +kernel
theorem d_Mo_byKeys_67 : decode m_Mo_byKeys.2.1 67 = .ok (.iconst 0, 1) := by decide +kernel
theorem d_Mo_byKeys_68 : decode m_Mo_byKeys.2.1 68 = .ok (.ireturn, 1) := by decide +kernel
theorem d_Mo_holds_0 : decode m_Mo_holds.2.1 0 = .ok (.bipush 6, 2) := by decide +kernel
theorem d_Mo_holds_2 : decode m_Mo_holds.2.1 2 = .ok (.iload_n 1, 1) := by decide +kernel
theorem d_Mo_holds_3 : decode m_Mo_holds.2.1 3 = .ok (.imul, 1) := by decide +kernel
theorem d_Mo_holds_4 : decode m_Mo_holds.2.1 4 = .ok (.istore_n 3, 1) := by decide +kernel
theorem d_Mo_holds_5 : decode m_Mo_holds.2.1 5 = .ok (.aload_n 0, 1) := by decide +kernel
theorem d_Mo_holds_6 : decode m_Mo_holds.2.1 6 = .ok (.getfield 25, 3) := by decide +kernel
theorem d_Mo_holds_9 : decode m_Mo_holds.2.1 9 = .ok (.iload_n 3, 1) := by decide +kernel
theorem d_Mo_holds_10 : decode m_Mo_holds.2.1 10 = .ok (.iconst 2, 1) := by decide +kernel
theorem d_Mo_holds_11 : decode m_Mo_holds.2.1 11 = .ok (.iadd, 1) := by decide +kernel
theorem d_Mo_holds_12 : decode m_Mo_holds.2.1 12 = .ok (.iaload, 1) := by decide +kernel
theorem d_Mo_holds_13 : decode m_Mo_holds.2.1 13 = .ok (.aload_n 0, 1) := by decide +kernel
theorem d_Mo_holds_14 : decode m_Mo_holds.2.1 14 = .ok (.getfield 25, 3) := by decide +kernel
theorem d_Mo_holds_17 : decode m_Mo_holds.2.1 17 = .ok (.iload_n 3, 1) := by decide +kernel
theorem d_Mo_holds_18 : decode m_Mo_holds.2.1 18 = .ok (.iconst 5, 1) := by decide +kernel
theorem d_Mo_holds_19 : decode m_Mo_holds.2.1 19 = .ok (.iadd, 1) := by decide +kernel
theorem d_Mo_holds_20 : decode m_Mo_holds.2.1 20 = .ok (.iaload, 1) := by decide +kernel
theorem d_Mo_holds_21 : decode m_Mo_holds.2.1 21 = .ok (.if_icmp .le 14, 3) := by decide +kernel
theorem d_Mo_holds_24 : decode m_Mo_holds.2.1 24 = .ok (.aload_n 0, 1) := by decide +kernel
theorem d_Mo_holds_25 : decode m_Mo_holds.2.1 25 = .ok (.getfield 25, 3) := by decide +kernel
theorem d_Mo_holds_28 : decode m_Mo_holds.2.1 28 = .ok (.iload_n 3, 1) := by decide +kernel
theorem d_Mo_holds_29 : decode m_Mo_holds.2.1 29 = .ok (.iconst 2, 1) := by decide +kernel
theorem d_Mo_holds_30 : decode m_Mo_holds.2.1 30 = .ok (.iadd, 1) := by decide +kernel
theorem d_Mo_holds_31 : decode m_Mo_holds.2.1 31 = .ok (.iaload, 1) := by decide +kernel
theorem d_Mo_holds_32 : decode m_Mo_holds.2.1 32 = .ok (.goto 11, 3) := by decide +kernel
theorem d_Mo_holds_35 : decode m_Mo_holds.2.1 35 = .ok (.aload_n 0, 1) := by decide +kernel
theorem d_Mo_holds_36 : decode m_Mo_holds.2.1 36 = .ok (.getfield 25, 3) := by decide +kernel
theorem d_Mo_holds_39 : decode m_Mo_holds.2.1 39 = .ok (.iload_n 3, 1) := by decide +kernel
theorem d_Mo_holds_40 : decode m_Mo_holds.2.1 40 = .ok (.iconst 5, 1) := by decide +kernel
theorem d_Mo_holds_41 : decode m_Mo_holds.2.1 41 = .ok (.iadd, 1) := by decide +kernel
theorem d_Mo_holds_42 : decode m_Mo_holds.2.1 42 = .ok (.iaload, 1) := by decide +kernel
theorem d_Mo_holds_43 : decode m_Mo_holds.2.1 43 = .ok (.istore 4, 2) := by decide +kernel
theorem d_Mo_holds_45 : decode m_Mo_holds.2.1 45 = .ok (.iconst 0, 1) := by decide +kernel
theorem d_Mo_holds_46 : decode m_Mo_holds.2.1 46 = .ok (.istore 5, 2) := by decide +kernel
theorem d_Mo_holds_48 : decode m_Mo_holds.2.1 48 = .ok (.iconst 0, 1) := by decide +kernel
theorem d_Mo_holds_49 : decode m_Mo_holds.2.1 49 = .ok (.istore 6, 2) := by decide +kernel
theorem d_Mo_holds_51 : decode m_Mo_holds.2.1 51 = .ok (.iload 6, 2) := by decide +kernel
theorem d_Mo_holds_53 : decode m_Mo_holds.2.1 53 = .ok (.iload 4, 2) := by decide +kernel
theorem d_Mo_holds_55 : decode m_Mo_holds.2.1 55 = .ok (.if_icmp .ge 155, 3) := by decide +kernel
theorem d_Mo_holds_58 : decode m_Mo_holds.2.1 58 = .ok (.iload 5, 2) := by decide +kernel
theorem d_Mo_holds_60 : decode m_Mo_holds.2.1 60 = .ok (.ifCond .ne 150, 3) := by decide +kernel
theorem d_Mo_holds_63 : decode m_Mo_holds.2.1 63 = .ok (.iload 6, 2) := by decide +kernel
theorem d_Mo_holds_65 : decode m_Mo_holds.2.1 65 = .ok (.aload_n 0, 1) := by decide +kernel
theorem d_Mo_holds_66 : decode m_Mo_holds.2.1 66 = .ok (.getfield 25, 3) := by decide +kernel
theorem d_Mo_holds_69 : decode m_Mo_holds.2.1 69 = .ok (.iload_n 3, 1) := by decide +kernel
theorem d_Mo_holds_70 : decode m_Mo_holds.2.1 70 = .ok (.iconst 2, 1) := by decide +kernel
theorem d_Mo_holds_71 : decode m_Mo_holds.2.1 71 = .ok (.iadd, 1) := by decide +kernel
theorem d_Mo_holds_72 : decode m_Mo_holds.2.1 72 = .ok (.iaload, 1) := by decide +kernel
theorem d_Mo_holds_73 : decode m_Mo_holds.2.1 73 = .ok (.if_icmp .ge 31, 3) := by decide +kernel
theorem d_Mo_holds_76 : decode m_Mo_holds.2.1 76 = .ok (.aload_n 0, 1) := by decide +kernel
theorem d_Mo_holds_77 : decode m_Mo_holds.2.1 77 = .ok (.getfield 37, 3) := by decide +kernel
theorem d_Mo_holds_80 : decode m_Mo_holds.2.1 80 = .ok (.aload_n 0, 1) := by decide +kernel
theorem d_Mo_holds_81 : decode m_Mo_holds.2.1 81 = .ok (.getfield 40, 3) := by decide +kernel
theorem d_Mo_holds_84 : decode m_Mo_holds.2.1 84 = .ok (.iload_n 2, 1) := by decide +kernel
theorem d_Mo_holds_85 : decode m_Mo_holds.2.1 85 = .ok (.aload_n 0, 1) := by decide +kernel
theorem d_Mo_holds_86 : decode m_Mo_holds.2.1 86 = .ok (.getfield 25, 3) := by decide +kernel
theorem d_Mo_holds_89 : decode m_Mo_holds.2.1 89 = .ok (.iload_n 3, 1) := by decide +kernel
theorem d_Mo_holds_90 : decode m_Mo_holds.2.1 90 = .ok (.iconst 1, 1) := by decide +kernel
theorem d_Mo_holds_91 : decode m_Mo_holds.2.1 91 = .ok (.iadd, 1) := by decide +kernel
theorem d_Mo_holds_92 : decode m_Mo_holds.2.1 92 = .ok (.iaload, 1) := by decide +kernel
theorem d_Mo_holds_93 : decode m_Mo_holds.2.1 93 = .ok (.iconst 1, 1) := by decide +kernel
theorem d_Mo_holds_94 : decode m_Mo_holds.2.1 94 = .ok (.isub, 1) := by decide +kernel
theorem d_Mo_holds_95 : decode m_Mo_holds.2.1 95 = .ok (.iload 6, 2) := by decide +kernel
theorem d_Mo_holds_97 : decode m_Mo_holds.2.1 97 = .ok (.iadd, 1) := by decide +kernel
theorem d_Mo_holds_98 : decode m_Mo_holds.2.1 98 = .ok (.invokestatic 194, 3) := by decide +kernel
theorem d_Mo_holds_101 : decode m_Mo_holds.2.1 101 = .ok (.goto 5, 3) := by decide +kernel
theorem d_Mo_holds_104 : decode m_Mo_holds.2.1 104 = .ok (.bipush 32, 2) := by decide +kernel
theorem d_Mo_holds_106 : decode m_Mo_holds.2.1 106 = .ok (.istore 7, 2) := by decide +kernel
theorem d_Mo_holds_108 : decode m_Mo_holds.2.1 108 = .ok (.iload 6, 2) := by decide +kernel
theorem d_Mo_holds_110 : decode m_Mo_holds.2.1 110 = .ok (.aload_n 0, 1) := by decide +kernel
theorem d_Mo_holds_111 : decode m_Mo_holds.2.1 111 = .ok (.getfield 25, 3) := by decide +kernel
theorem d_Mo_holds_114 : decode m_Mo_holds.2.1 114 = .ok (.iload_n 3, 1) := by decide +kernel
theorem d_Mo_holds_115 : decode m_Mo_holds.2.1 115 = .ok (.iconst 5, 1) := by decide +kernel
theorem d_Mo_holds_116 : decode m_Mo_holds.2.1 116 = .ok (.iadd, 1) := by decide +kernel
theorem d_Mo_holds_117 : decode m_Mo_holds.2.1 117 = .ok (.iaload, 1) := by decide +kernel
theorem d_Mo_holds_118 : decode m_Mo_holds.2.1 118 = .ok (.if_icmp .lt 8, 3) := by decide +kernel
theorem d_Mo_holds_121 : decode m_Mo_holds.2.1 121 = .ok (.bipush 32, 2) := by decide +kernel
theorem d_Mo_holds_123 : decode m_Mo_holds.2.1 123 = .ok (.goto 54, 3) := by decide +kernel
theorem d_Mo_holds_126 : decode m_Mo_holds.2.1 126 = .ok (.aload_n 0, 1) := by decide +kernel
theorem d_Mo_holds_127 : decode m_Mo_holds.2.1 127 = .ok (.getfield 25, 3) := by decide +kernel
theorem d_Mo_holds_130 : decode m_Mo_holds.2.1 130 = .ok (.iload_n 3, 1) := by decide +kernel
theorem d_Mo_holds_131 : decode m_Mo_holds.2.1 131 = .ok (.iconst 4, 1) := by decide +kernel
theorem d_Mo_holds_132 : decode m_Mo_holds.2.1 132 = .ok (.iadd, 1) := by decide +kernel
theorem d_Mo_holds_133 : decode m_Mo_holds.2.1 133 = .ok (.iaload, 1) := by decide +kernel
theorem d_Mo_holds_134 : decode m_Mo_holds.2.1 134 = .ok (.ifCond .ne 18, 3) := by decide +kernel
theorem d_Mo_holds_137 : decode m_Mo_holds.2.1 137 = .ok (.aload_n 0, 1) := by decide +kernel
theorem d_Mo_holds_138 : decode m_Mo_holds.2.1 138 = .ok (.getfield 34, 3) := by decide +kernel
theorem d_Mo_holds_141 : decode m_Mo_holds.2.1 141 = .ok (.bipush 20, 2) := by decide +kernel
theorem d_Mo_holds_143 : decode m_Mo_holds.2.1 143 = .ok (.iload_n 1, 1) := by decide +kernel
theorem d_Mo_holds_144 : decode m_Mo_holds.2.1 144 = .ok (.imul, 1) := by decide +kernel
theorem d_Mo_holds_145 : decode m_Mo_holds.2.1 145 = .ok (.iload 6, 2) := by decide +kernel
theorem d_Mo_holds_147 : decode m_Mo_holds.2.1 147 = .ok (.iadd, 1) := by decide +kernel
theorem d_Mo_holds_148 : decode m_Mo_holds.2.1 148 = .ok (.iaload, 1) := by decide +kernel
theorem d_Mo_holds_149 : decode m_Mo_holds.2.1 149 = .ok (.goto 28, 3) := by decide +kernel
theorem d_Mo_holds_152 : decode m_Mo_holds.2.1 152 = .ok (.aload_n 0, 1) := by decide +kernel
theorem d_Mo_holds_153 : decode m_Mo_holds.2.1 153 = .ok (.getfield 37, 3) := by decide +kernel
theorem d_Mo_holds_156 : decode m_Mo_holds.2.1 156 = .ok (.aload_n 0, 1) := by decide +kernel
theorem d_Mo_holds_157 : decode m_Mo_holds.2.1 157 = .ok (.getfield 40, 3) := by decide +kernel
theorem d_Mo_holds_160 : decode m_Mo_holds.2.1 160 = .ok (.iload_n 2, 1) := by decide +kernel
theorem d_Mo_holds_161 : decode m_Mo_holds.2.1 161 = .ok (.aload_n 0, 1) := by decide +kernel
theorem d_Mo_holds_162 : decode m_Mo_holds.2.1 162 = .ok (.getfield 25, 3) := by decide +kernel
theorem d_Mo_holds_165 : decode m_Mo_holds.2.1 165 = .ok (.iload_n 3, 1) := by decide +kernel
theorem d_Mo_holds_166 : decode m_Mo_holds.2.1 166 = .ok (.iconst 4, 1) := by decide +kernel
theorem d_Mo_holds_167 : decode m_Mo_holds.2.1 167 = .ok (.iadd, 1) := by decide +kernel
theorem d_Mo_holds_168 : decode m_Mo_holds.2.1 168 = .ok (.iaload, 1) := by decide +kernel
theorem d_Mo_holds_169 : decode m_Mo_holds.2.1 169 = .ok (.iconst 1, 1) := by decide +kernel
theorem d_Mo_holds_170 : decode m_Mo_holds.2.1 170 = .ok (.isub, 1) := by decide +kernel
theorem d_Mo_holds_171 : decode m_Mo_holds.2.1 171 = .ok (.iload 6, 2) := by decide +kernel
theorem d_Mo_holds_173 : decode m_Mo_holds.2.1 173 = .ok (.iadd, 1) := by decide +kernel
theorem d_Mo_holds_174 : decode m_Mo_holds.2.1 174 = .ok (.invokestatic 194, 3) := by decide +kernel
theorem d_Mo_holds_177 : decode m_Mo_holds.2.1 177 = .ok (.istore 8, 2) := by decide +kernel
theorem d_Mo_holds_179 : decode m_Mo_holds.2.1 179 = .ok (.iload 7, 2) := by decide +kernel
theorem d_Mo_holds_181 : decode m_Mo_holds.2.1 181 = .ok (.iload 8, 2) := by decide +kernel
theorem d_Mo_holds_183 : decode m_Mo_holds.2.1 183 = .ok (.if_icmp .ge 7, 3) := by decide +kernel
theorem d_Mo_holds_186 : decode m_Mo_holds.2.1 186 = .ok (.iconst (-1), 1) := by decide +kernel
theorem d_Mo_holds_187 : decode m_Mo_holds.2.1 187 = .ok (.goto 15, 3) := by decide +kernel
theorem d_Mo_holds_190 : decode m_Mo_holds.2.1 190 = .ok (.iload 7, 2) := by decide +kernel
theorem d_Mo_holds_192 : decode m_Mo_holds.2.1 192 = .ok (.iload 8, 2) := by decide +kernel
theorem d_Mo_holds_194 : decode m_Mo_holds.2.1 194 = .ok (.if_icmp .le 7, 3) := by decide +kernel
theorem d_Mo_holds_197 : decode m_Mo_holds.2.1 197 = .ok (.iconst 1, 1) := by decide +kernel
theorem d_Mo_holds_198 : decode m_Mo_holds.2.1 198 = .ok (.goto 4, 3) := by decide +kernel
theorem d_Mo_holds_201 : decode m_Mo_holds.2.1 201 = .ok (.iconst 0, 1) := by decide +kernel
theorem d_Mo_holds_202 : decode m_Mo_holds.2.1 202 = .ok (.istore 5, 2) := by decide +kernel
theorem d_Mo_holds_204 : decode m_Mo_holds.2.1 204 = .ok (.iinc 6 1, 3) := by decide +kernel
theorem d_Mo_holds_207 : decode m_Mo_holds.2.1 207 = .ok (.goto (-156), 3) := by decide +kernel
theorem d_Mo_holds_210 : decode m_Mo_holds.2.1 210 = .ok (.aload_n 0, 1) := by decide +kernel
theorem d_Mo_holds_211 : decode m_Mo_holds.2.1 211 = .ok (.getfield 25, 3) := by decide +kernel
theorem d_Mo_holds_214 : decode m_Mo_holds.2.1 214 = .ok (.iload_n 3, 1) := by decide +kernel
theorem d_Mo_holds_215 : decode m_Mo_holds.2.1 215 = .ok (.iconst 3, 1) := by decide +kernel
theorem d_Mo_holds_216 : decode m_Mo_holds.2.1 216 = .ok (.iadd, 1) := by decide +kernel
theorem d_Mo_holds_217 : decode m_Mo_holds.2.1 217 = .ok (.iaload, 1) := by decide +kernel
theorem d_Mo_holds_218 : decode m_Mo_holds.2.1 218 = .ok (.lookupswitch 67 #[(35, 45), (60, 56), (61, 34)], 34) := by decide +kernel
theorem d_Mo_holds_252 : decode m_Mo_holds.2.1 252 = .ok (.iload 5, 2) := by decide +kernel
theorem d_Mo_holds_254 : decode m_Mo_holds.2.1 254 = .ok (.ifCond .ne 7, 3) := by decide +kernel
theorem d_Mo_holds_257 : decode m_Mo_holds.2.1 257 = .ok (.iconst 1, 1) := by decide +kernel
theorem d_Mo_holds_258 : decode m_Mo_holds.2.1 258 = .ok (.goto 4, 3) := by decide +kernel
theorem d_Mo_holds_261 : decode m_Mo_holds.2.1 261 = .ok (.iconst 0, 1) := by decide +kernel
theorem d_Mo_holds_262 : decode m_Mo_holds.2.1 262 = .ok (.ireturn, 1) := by decide +kernel
theorem d_Mo_holds_263 : decode m_Mo_holds.2.1 263 = .ok (.iload 5, 2) := by decide +kernel
theorem d_Mo_holds_265 : decode m_Mo_holds.2.1 265 = .ok (.ifCond .eq 7, 3) := by decide +kernel
theorem d_Mo_holds_268 : decode m_Mo_holds.2.1 268 = .ok (.iconst 1, 1) := by decide +kernel
theorem d_Mo_holds_269 : decode m_Mo_holds.2.1 269 = .ok (.goto 4, 3) := by decide +kernel
theorem d_Mo_holds_272 : decode m_Mo_holds.2.1 272 = .ok (.iconst 0, 1) := by decide +kernel
theorem d_Mo_holds_273 : decode m_Mo_holds.2.1 273 = .ok (.ireturn, 1) := by decide +kernel
theorem d_Mo_holds_274 : decode m_Mo_holds.2.1 274 = .ok (.iload 5, 2) := by decide +kernel
theorem d_Mo_holds_276 : decode m_Mo_holds.2.1 276 = .ok (.ifCond .ge 7, 3) := by decide +kernel
theorem d_Mo_holds_279 : decode m_Mo_holds.2.1 279 = .ok (.iconst 1, 1) := by decide +kernel
theorem d_Mo_holds_280 : decode m_Mo_holds.2.1 280 = .ok (.goto 4, 3) := by decide +kernel
theorem d_Mo_holds_283 : decode m_Mo_holds.2.1 283 = .ok (.iconst 0, 1) := by decide +kernel
theorem d_Mo_holds_284 : decode m_Mo_holds.2.1 284 = .ok (.ireturn, 1) := by decide +kernel
theorem d_Mo_holds_285 : decode m_Mo_holds.2.1 285 = .ok (.iload 5, 2) := by decide +kernel
theorem d_Mo_holds_287 : decode m_Mo_holds.2.1 287 = .ok (.ifCond .le 7, 3) := by decide +kernel
theorem d_Mo_holds_290 : decode m_Mo_holds.2.1 290 = .ok (.iconst 1, 1) := by decide +kernel
theorem d_Mo_holds_291 : decode m_Mo_holds.2.1 291 = .ok (.goto 4, 3) := by decide +kernel
theorem d_Mo_holds_294 : decode m_Mo_holds.2.1 294 = .ok (.iconst 0, 1) := by decide +kernel
theorem d_Mo_holds_295 : decode m_Mo_holds.2.1 295 = .ok (.ireturn, 1) := by decide +kernel
theorem d_Mo_comes_0 : decode m_Mo_comes.2.1 0 = .ok (.aload_n 0, 1) := by decide +kernel
theorem d_Mo_comes_1 : decode m_Mo_comes.2.1 1 = .ok (.getfield 13, 3) := by decide +kernel
theorem d_Mo_comes_4 : decode m_Mo_comes.2.1 4 = .ok (.iconst 1, 1) := by decide +kernel
theorem d_Mo_comes_5 : decode m_Mo_comes.2.1 5 = .ok (.iaload, 1) := by decide +kernel
theorem d_Mo_comes_6 : decode m_Mo_comes.2.1 6 = .ok (.aload_n 0, 1) := by decide +kernel
theorem d_Mo_comes_7 : decode m_Mo_comes.2.1 7 = .ok (.getfield 13, 3) := by decide +kernel
theorem d_Mo_comes_10 : decode m_Mo_comes.2.1 10 = .ok (.iconst 2, 1) := by decide +kernel
theorem d_Mo_comes_11 : decode m_Mo_comes.2.1 11 = .ok (.iaload, 1) := by decide +kernel
theorem d_Mo_comes_12 : decode m_Mo_comes.2.1 12 = .ok (.iadd, 1) := by decide +kernel
theorem d_Mo_comes_13 : decode m_Mo_comes.2.1 13 = .ok (.ifCond .ne 5, 3) := by decide +kernel
theorem d_Mo_comes_16 : decode m_Mo_comes.2.1 16 = .ok (.iconst 1, 1) := by decide +kernel
theorem d_Mo_comes_17 : decode m_Mo_comes.2.1 17 = .ok (.ireturn, 1) := by decide +kernel
theorem d_Mo_comes_18 : decode m_Mo_comes.2.1 18 = .ok (.aload_n 0, 1) := by decide +kernel
theorem d_Mo_comes_19 : decode m_Mo_comes.2.1 19 = .ok (.iconst 0, 1) := by decide +kernel
theorem d_Mo_comes_20 : decode m_Mo_comes.2.1 20 = .ok (.iload_n 1, 1) := by decide +kernel
theorem d_Mo_comes_21 : decode m_Mo_comes.2.1 21 = .ok (.invokevirtual 207, 3) := by decide +kernel
theorem d_Mo_comes_24 : decode m_Mo_comes.2.1 24 = .ok (.istore_n 2, 1) := by decide +kernel
theorem d_Mo_comes_25 : decode m_Mo_comes.2.1 25 = .ok (.iconst 1, 1) := by decide +kernel
theorem d_Mo_comes_26 : decode m_Mo_comes.2.1 26 = .ok (.istore_n 3, 1) := by decide +kernel
theorem d_Mo_comes_27 : decode m_Mo_comes.2.1 27 = .ok (.iload_n 3, 1) := by decide +kernel
theorem d_Mo_comes_28 : decode m_Mo_comes.2.1 28 = .ok (.aload_n 0, 1) := by decide +kernel
theorem d_Mo_comes_29 : decode m_Mo_comes.2.1 29 = .ok (.getfield 16, 3) := by decide +kernel
theorem d_Mo_comes_32 : decode m_Mo_comes.2.1 32 = .ok (.iconst 2, 1) := by decide +kernel
theorem d_Mo_comes_33 : decode m_Mo_comes.2.1 33 = .ok (.iaload, 1) := by decide +kernel
theorem d_Mo_comes_34 : decode m_Mo_comes.2.1 34 = .ok (.if_icmp .ge 62, 3) := by decide +kernel
theorem d_Mo_comes_37 : decode m_Mo_comes.2.1 37 = .ok (.aload_n 0, 1) := by decide +kernel
theorem d_Mo_comes_38 : decode m_Mo_comes.2.1 38 = .ok (.getfield 25, 3) := by decide +kernel
theorem d_Mo_comes_41 : decode m_Mo_comes.2.1 41 = .ok (.bipush 6, 2) := by decide +kernel
theorem d_Mo_comes_43 : decode m_Mo_comes.2.1 43 = .ok (.iload_n 3, 1) := by decide +kernel
theorem d_Mo_comes_44 : decode m_Mo_comes.2.1 44 = .ok (.imul, 1) := by decide +kernel
theorem d_Mo_comes_45 : decode m_Mo_comes.2.1 45 = .ok (.iaload, 1) := by decide +kernel
theorem d_Mo_comes_46 : decode m_Mo_comes.2.1 46 = .ok (.iconst 1, 1) := by decide +kernel
theorem d_Mo_comes_47 : decode m_Mo_comes.2.1 47 = .ok (.if_icmp .ne 24, 3) := by decide +kernel
theorem d_Mo_comes_50 : decode m_Mo_comes.2.1 50 = .ok (.iload_n 2, 1) := by decide +kernel
theorem d_Mo_comes_51 : decode m_Mo_comes.2.1 51 = .ok (.ifCond .eq 16, 3) := by decide +kernel
theorem d_Mo_comes_54 : decode m_Mo_comes.2.1 54 = .ok (.aload_n 0, 1) := by decide +kernel
theorem d_Mo_comes_55 : decode m_Mo_comes.2.1 55 = .ok (.iload_n 3, 1) := by decide +kernel
theorem d_Mo_comes_56 : decode m_Mo_comes.2.1 56 = .ok (.iload_n 1, 1) := by decide +kernel
theorem d_Mo_comes_57 : decode m_Mo_comes.2.1 57 = .ok (.invokevirtual 207, 3) := by decide +kernel
theorem d_Mo_comes_60 : decode m_Mo_comes.2.1 60 = .ok (.ifCond .eq 7, 3) := by decide +kernel
theorem d_Mo_comes_63 : decode m_Mo_comes.2.1 63 = .ok (.iconst 1, 1) := by decide +kernel
theorem d_Mo_comes_64 : decode m_Mo_comes.2.1 64 = .ok (.goto 25, 3) := by decide +kernel
theorem d_Mo_comes_67 : decode m_Mo_comes.2.1 67 = .ok (.iconst 0, 1) := by decide +kernel
theorem d_Mo_comes_68 : decode m_Mo_comes.2.1 68 = .ok (.goto 21, 3) := by decide +kernel
theorem d_Mo_comes_71 : decode m_Mo_comes.2.1 71 = .ok (.iload_n 2, 1) := by decide +kernel
theorem d_Mo_comes_72 : decode m_Mo_comes.2.1 72 = .ok (.ifCond .ne 12, 3) := by decide +kernel
theorem d_Mo_comes_75 : decode m_Mo_comes.2.1 75 = .ok (.aload_n 0, 1) := by decide +kernel
theorem d_Mo_comes_76 : decode m_Mo_comes.2.1 76 = .ok (.iload_n 3, 1) := by decide +kernel
theorem d_Mo_comes_77 : decode m_Mo_comes.2.1 77 = .ok (.iload_n 1, 1) := by decide +kernel
theorem d_Mo_comes_78 : decode m_Mo_comes.2.1 78 = .ok (.invokevirtual 207, 3) := by decide +kernel
theorem d_Mo_comes_81 : decode m_Mo_comes.2.1 81 = .ok (.ifCond .eq 7, 3) := by decide +kernel
theorem d_Mo_comes_84 : decode m_Mo_comes.2.1 84 = .ok (.iconst 1, 1) := by decide +kernel
theorem d_Mo_comes_85 : decode m_Mo_comes.2.1 85 = .ok (.goto 4, 3) := by decide +kernel
theorem d_Mo_comes_88 : decode m_Mo_comes.2.1 88 = .ok (.iconst 0, 1) := by decide +kernel
theorem d_Mo_comes_89 : decode m_Mo_comes.2.1 89 = .ok (.istore_n 2, 1) := by decide +kernel
theorem d_Mo_comes_90 : decode m_Mo_comes.2.1 90 = .ok (.iinc 3 1, 3) := by decide +kernel
theorem d_Mo_comes_93 : decode m_Mo_comes.2.1 93 = .ok (.goto (-66), 3) := by decide +kernel
theorem d_Mo_comes_96 : decode m_Mo_comes.2.1 96 = .ok (.aload_n 0, 1) := by decide +kernel
theorem d_Mo_comes_97 : decode m_Mo_comes.2.1 97 = .ok (.getfield 13, 3) := by decide +kernel
theorem d_Mo_comes_100 : decode m_Mo_comes.2.1 100 = .ok (.iconst 1, 1) := by decide +kernel
theorem d_Mo_comes_101 : decode m_Mo_comes.2.1 101 = .ok (.iaload, 1) := by decide +kernel
theorem d_Mo_comes_102 : decode m_Mo_comes.2.1 102 = .ok (.ifCond .le 7, 3) := by decide +kernel
theorem d_Mo_comes_105 : decode m_Mo_comes.2.1 105 = .ok (.iload_n 2, 1) := by decide +kernel
theorem d_Mo_comes_106 : decode m_Mo_comes.2.1 106 = .ok (.goto 12, 3) := by decide +kernel
theorem d_Mo_comes_109 : decode m_Mo_comes.2.1 109 = .ok (.iload_n 2, 1) := by decide +kernel
theorem d_Mo_comes_110 : decode m_Mo_comes.2.1 110 = .ok (.ifCond .ne 7, 3) := by decide +kernel
theorem d_Mo_comes_113 : decode m_Mo_comes.2.1 113 = .ok (.iconst 1, 1) := by decide +kernel
theorem d_Mo_comes_114 : decode m_Mo_comes.2.1 114 = .ok (.goto 4, 3) := by decide +kernel
theorem d_Mo_comes_117 : decode m_Mo_comes.2.1 117 = .ok (.iconst 0, 1) := by decide +kernel
theorem d_Mo_comes_118 : decode m_Mo_comes.2.1 118 = .ok (.ireturn, 1) := by decide +kernel
theorem d_Mo_put_0 : decode m_Mo_put.2.1 0 = .ok (.aload_n 0, 1) := by decide +kernel
theorem d_Mo_put_1 : decode m_Mo_put.2.1 1 = .ok (.getfield 68, 3) := by decide +kernel
theorem d_Mo_put_4 : decode m_Mo_put.2.1 4 = .ok (.iload_n 1, 1) := by decide +kernel
theorem d_Mo_put_5 : decode m_Mo_put.2.1 5 = .ok (.iaload, 1) := by decide +kernel
theorem d_Mo_put_6 : decode m_Mo_put.2.1 6 = .ok (.istore_n 3, 1) := by decide +kernel
theorem d_Mo_put_7 : decode m_Mo_put.2.1 7 = .ok (.aload_n 0, 1) := by decide +kernel
theorem d_Mo_put_8 : decode m_Mo_put.2.1 8 = .ok (.getfield 65, 3) := by decide +kernel
theorem d_Mo_put_11 : decode m_Mo_put.2.1 11 = .ok (.sipush 150, 3) := by decide +kernel
theorem d_Mo_put_14 : decode m_Mo_put.2.1 14 = .ok (.iload_n 1, 1) := by decide +kernel
theorem d_Mo_put_15 : decode m_Mo_put.2.1 15 = .ok (.imul, 1) := by decide +kernel
theorem d_Mo_put_16 : decode m_Mo_put.2.1 16 = .ok (.iload_n 3, 1) := by decide +kernel
theorem d_Mo_put_17 : decode m_Mo_put.2.1 17 = .ok (.iadd, 1) := by decide +kernel
theorem d_Mo_put_18 : decode m_Mo_put.2.1 18 = .ok (.iaload, 1) := by decide +kernel
theorem d_Mo_put_19 : decode m_Mo_put.2.1 19 = .ok (.istore 4, 2) := by decide +kernel
theorem d_Mo_put_21 : decode m_Mo_put.2.1 21 = .ok (.iload 4, 2) := by decide +kernel
theorem d_Mo_put_23 : decode m_Mo_put.2.1 23 = .ok (.bipush 100, 2) := by decide +kernel
theorem d_Mo_put_25 : decode m_Mo_put.2.1 25 = .ok (.if_icmp .ne 4, 3) := by decide +kernel
theorem d_Mo_put_28 : decode m_Mo_put.2.1 28 = .ok (.return_, 1) := by decide +kernel
theorem d_Mo_put_29 : decode m_Mo_put.2.1 29 = .ok (.aload_n 0, 1) := by decide +kernel
theorem d_Mo_put_30 : decode m_Mo_put.2.1 30 = .ok (.getfield 62, 3) := by decide +kernel
theorem d_Mo_put_33 : decode m_Mo_put.2.1 33 = .ok (.sipush 15000, 3) := by decide +kernel
theorem d_Mo_put_36 : decode m_Mo_put.2.1 36 = .ok (.iload_n 1, 1) := by decide +kernel
theorem d_Mo_put_37 : decode m_Mo_put.2.1 37 = .ok (.imul, 1) := by decide +kernel
theorem d_Mo_put_38 : decode m_Mo_put.2.1 38 = .ok (.bipush 100, 2) := by decide +kernel
theorem d_Mo_put_40 : decode m_Mo_put.2.1 40 = .ok (.iload_n 3, 1) := by decide +kernel
theorem d_Mo_put_41 : decode m_Mo_put.2.1 41 = .ok (.imul, 1) := by decide +kernel
theorem d_Mo_put_42 : decode m_Mo_put.2.1 42 = .ok (.iadd, 1) := by decide +kernel
theorem d_Mo_put_43 : decode m_Mo_put.2.1 43 = .ok (.iload 4, 2) := by decide +kernel
theorem d_Mo_put_45 : decode m_Mo_put.2.1 45 = .ok (.iadd, 1) := by decide +kernel
theorem d_Mo_put_46 : decode m_Mo_put.2.1 46 = .ok (.iload_n 2, 1) := by decide +kernel
theorem d_Mo_put_47 : decode m_Mo_put.2.1 47 = .ok (.iastore, 1) := by decide +kernel
theorem d_Mo_put_48 : decode m_Mo_put.2.1 48 = .ok (.aload_n 0, 1) := by decide +kernel
theorem d_Mo_put_49 : decode m_Mo_put.2.1 49 = .ok (.getfield 65, 3) := by decide +kernel
theorem d_Mo_put_52 : decode m_Mo_put.2.1 52 = .ok (.sipush 150, 3) := by decide +kernel
theorem d_Mo_put_55 : decode m_Mo_put.2.1 55 = .ok (.iload_n 1, 1) := by decide +kernel
theorem d_Mo_put_56 : decode m_Mo_put.2.1 56 = .ok (.imul, 1) := by decide +kernel
theorem d_Mo_put_57 : decode m_Mo_put.2.1 57 = .ok (.iload_n 3, 1) := by decide +kernel
theorem d_Mo_put_58 : decode m_Mo_put.2.1 58 = .ok (.iadd, 1) := by decide +kernel
theorem d_Mo_put_59 : decode m_Mo_put.2.1 59 = .ok (.dup2, 1) := by decide +kernel
theorem d_Mo_put_60 : decode m_Mo_put.2.1 60 = .ok (.iaload, 1) := by decide +kernel
theorem d_Mo_put_61 : decode m_Mo_put.2.1 61 = .ok (.iconst 1, 1) := by decide +kernel
theorem d_Mo_put_62 : decode m_Mo_put.2.1 62 = .ok (.iadd, 1) := by decide +kernel
theorem d_Mo_put_63 : decode m_Mo_put.2.1 63 = .ok (.iastore, 1) := by decide +kernel
theorem d_Mo_put_64 : decode m_Mo_put.2.1 64 = .ok (.return_, 1) := by decide +kernel
theorem d_Mo_begin_0 : decode m_Mo_begin.2.1 0 = .ok (.aload_n 0, 1) := by decide +kernel
theorem d_Mo_begin_1 : decode m_Mo_begin.2.1 1 = .ok (.getfield 65, 3) := by decide +kernel
theorem d_Mo_begin_4 : decode m_Mo_begin.2.1 4 = .ok (.sipush 150, 3) := by decide +kernel
theorem d_Mo_begin_7 : decode m_Mo_begin.2.1 7 = .ok (.iload_n 1, 1) := by decide +kernel
theorem d_Mo_begin_8 : decode m_Mo_begin.2.1 8 = .ok (.imul, 1) := by decide +kernel
theorem d_Mo_begin_9 : decode m_Mo_begin.2.1 9 = .ok (.aload_n 0, 1) := by decide +kernel
theorem d_Mo_begin_10 : decode m_Mo_begin.2.1 10 = .ok (.getfield 68, 3) := by decide +kernel
theorem d_Mo_begin_13 : decode m_Mo_begin.2.1 13 = .ok (.iload_n 1, 1) := by decide +kernel
theorem d_Mo_begin_14 : decode m_Mo_begin.2.1 14 = .ok (.iaload, 1) := by decide +kernel
theorem d_Mo_begin_15 : decode m_Mo_begin.2.1 15 = .ok (.iadd, 1) := by decide +kernel
theorem d_Mo_begin_16 : decode m_Mo_begin.2.1 16 = .ok (.iconst 0, 1) := by decide +kernel
theorem d_Mo_begin_17 : decode m_Mo_begin.2.1 17 = .ok (.iastore, 1) := by decide +kernel
theorem d_Mo_begin_18 : decode m_Mo_begin.2.1 18 = .ok (.return_, 1) := by decide +kernel
theorem d_Mo_summed_0 : decode m_Mo_summed.2.1 0 = .ok (.lconst 1, 1) := by decide +kernel
theorem d_Mo_summed_1 : decode m_Mo_summed.2.1 1 = .ok (.lstore 4, 2) := by decide +kernel
theorem d_Mo_summed_3 : decode m_Mo_summed.2.1 3 = .ok (.iconst 0, 1) := by decide +kernel
theorem d_Mo_summed_4 : decode m_Mo_summed.2.1 4 = .ok (.istore 6, 2) := by decide +kernel
theorem d_Mo_summed_6 : decode m_Mo_summed.2.1 6 = .ok (.iload 6, 2) := by decide +kernel
theorem d_Mo_summed_8 : decode m_Mo_summed.2.1 8 = .ok (.aload_n 0, 1) := by decide +kernel
theorem d_Mo_summed_9 : decode m_Mo_summed.2.1 9 = .ok (.getfield 28, 3) := by decide +kernel
theorem d_Mo_summed_12 : decode m_Mo_summed.2.1 12 = .ok (.iconst 2, 1) := by decide +kernel
theorem d_Mo_summed_13 : decode m_Mo_summed.2.1 13 = .ok (.iload_n 1, 1) := by decide +kernel
theorem d_Mo_summed_14 : decode m_Mo_summed.2.1 14 = .ok (.imul, 1) := by decide +kernel
theorem d_Mo_summed_15 : decode m_Mo_summed.2.1 15 = .ok (.iconst 1, 1) := by decide +kernel
theorem d_Mo_summed_16 : decode m_Mo_summed.2.1 16 = .ok (.iadd, 1) := by decide +kernel
theorem d_Mo_summed_17 : decode m_Mo_summed.2.1 17 = .ok (.iaload, 1) := by decide +kernel
theorem d_Mo_summed_18 : decode m_Mo_summed.2.1 18 = .ok (.if_icmp .ge 17, 3) := by decide +kernel
theorem d_Mo_summed_21 : decode m_Mo_summed.2.1 21 = .ok (.lload 4, 2) := by decide +kernel
theorem d_Mo_summed_23 : decode m_Mo_summed.2.1 23 = .ok (.ldc2_w 198, 3) := by decide +kernel
theorem d_Mo_summed_26 : decode m_Mo_summed.2.1 26 = .ok (.lmul, 1) := by decide +kernel
theorem d_Mo_summed_27 : decode m_Mo_summed.2.1 27 = .ok (.lstore 4, 2) := by decide +kernel
theorem d_Mo_summed_29 : decode m_Mo_summed.2.1 29 = .ok (.iinc 6 1, 3) := by decide +kernel
theorem d_Mo_summed_32 : decode m_Mo_summed.2.1 32 = .ok (.goto (-26), 3) := by decide +kernel
theorem d_Mo_summed_35 : decode m_Mo_summed.2.1 35 = .ok (.aload_n 0, 1) := by decide +kernel
theorem d_Mo_summed_36 : decode m_Mo_summed.2.1 36 = .ok (.getfield 46, 3) := by decide +kernel
theorem d_Mo_summed_39 : decode m_Mo_summed.2.1 39 = .ok (.aload_n 0, 1) := by decide +kernel
theorem d_Mo_summed_40 : decode m_Mo_summed.2.1 40 = .ok (.getfield 49, 3) := by decide +kernel
theorem d_Mo_summed_43 : decode m_Mo_summed.2.1 43 = .ok (.iload_n 2, 1) := by decide +kernel
theorem d_Mo_summed_44 : decode m_Mo_summed.2.1 44 = .ok (.aload_n 0, 1) := by decide +kernel
theorem d_Mo_summed_45 : decode m_Mo_summed.2.1 45 = .ok (.getfield 28, 3) := by decide +kernel
theorem d_Mo_summed_48 : decode m_Mo_summed.2.1 48 = .ok (.iconst 2, 1) := by decide +kernel
theorem d_Mo_summed_49 : decode m_Mo_summed.2.1 49 = .ok (.iload_n 1, 1) := by decide +kernel
theorem d_Mo_summed_50 : decode m_Mo_summed.2.1 50 = .ok (.imul, 1) := by decide +kernel
theorem d_Mo_summed_51 : decode m_Mo_summed.2.1 51 = .ok (.iaload, 1) := by decide +kernel
theorem d_Mo_summed_52 : decode m_Mo_summed.2.1 52 = .ok (.iconst 1, 1) := by decide +kernel
theorem d_Mo_summed_53 : decode m_Mo_summed.2.1 53 = .ok (.isub, 1) := by decide +kernel
theorem d_Mo_summed_54 : decode m_Mo_summed.2.1 54 = .ok (.aload_n 0, 1) := by decide +kernel
theorem d_Mo_summed_55 : decode m_Mo_summed.2.1 55 = .ok (.getfield 28, 3) := by decide +kernel
theorem d_Mo_summed_58 : decode m_Mo_summed.2.1 58 = .ok (.iconst 2, 1) := by decide +kernel
theorem d_Mo_summed_59 : decode m_Mo_summed.2.1 59 = .ok (.iload_n 1, 1) := by decide +kernel
theorem d_Mo_summed_60 : decode m_Mo_summed.2.1 60 = .ok (.imul, 1) := by decide +kernel
theorem d_Mo_summed_61 : decode m_Mo_summed.2.1 61 = .ok (.iconst 1, 1) := by decide +kernel
theorem d_Mo_summed_62 : decode m_Mo_summed.2.1 62 = .ok (.iadd, 1) := by decide +kernel
theorem d_Mo_summed_63 : decode m_Mo_summed.2.1 63 = .ok (.iaload, 1) := by decide +kernel
theorem d_Mo_summed_64 : decode m_Mo_summed.2.1 64 = .ok (.invokestatic 211, 3) := by decide +kernel
theorem d_Mo_summed_67 : decode m_Mo_summed.2.1 67 = .ok (.aload_n 0, 1) := by decide +kernel
theorem d_Mo_summed_68 : decode m_Mo_summed.2.1 68 = .ok (.getfield 46, 3) := by decide +kernel
theorem d_Mo_summed_71 : decode m_Mo_summed.2.1 71 = .ok (.aload_n 0, 1) := by decide +kernel
theorem d_Mo_summed_72 : decode m_Mo_summed.2.1 72 = .ok (.getfield 49, 3) := by decide +kernel
theorem d_Mo_summed_75 : decode m_Mo_summed.2.1 75 = .ok (.iload_n 3, 1) := by decide +kernel
theorem d_Mo_summed_76 : decode m_Mo_summed.2.1 76 = .ok (.aload_n 0, 1) := by decide +kernel
theorem d_Mo_summed_77 : decode m_Mo_summed.2.1 77 = .ok (.getfield 28, 3) := by decide +kernel
theorem d_Mo_summed_80 : decode m_Mo_summed.2.1 80 = .ok (.iconst 2, 1) := by decide +kernel
theorem d_Mo_summed_81 : decode m_Mo_summed.2.1 81 = .ok (.iload_n 1, 1) := by decide +kernel
theorem d_Mo_summed_82 : decode m_Mo_summed.2.1 82 = .ok (.imul, 1) := by decide +kernel
theorem d_Mo_summed_83 : decode m_Mo_summed.2.1 83 = .ok (.iaload, 1) := by decide +kernel
theorem d_Mo_summed_84 : decode m_Mo_summed.2.1 84 = .ok (.iconst 1, 1) := by decide +kernel
theorem d_Mo_summed_85 : decode m_Mo_summed.2.1 85 = .ok (.isub, 1) := by decide +kernel
theorem d_Mo_summed_86 : decode m_Mo_summed.2.1 86 = .ok (.aload_n 0, 1) := by decide +kernel
theorem d_Mo_summed_87 : decode m_Mo_summed.2.1 87 = .ok (.getfield 28, 3) := by decide +kernel
theorem d_Mo_summed_90 : decode m_Mo_summed.2.1 90 = .ok (.iconst 2, 1) := by decide +kernel
theorem d_Mo_summed_91 : decode m_Mo_summed.2.1 91 = .ok (.iload_n 1, 1) := by decide +kernel
theorem d_Mo_summed_92 : decode m_Mo_summed.2.1 92 = .ok (.imul, 1) := by decide +kernel
theorem d_Mo_summed_93 : decode m_Mo_summed.2.1 93 = .ok (.iconst 1, 1) := by decide +kernel
theorem d_Mo_summed_94 : decode m_Mo_summed.2.1 94 = .ok (.iadd, 1) := by decide +kernel
theorem d_Mo_summed_95 : decode m_Mo_summed.2.1 95 = .ok (.iaload, 1) := by decide +kernel
theorem d_Mo_summed_96 : decode m_Mo_summed.2.1 96 = .ok (.invokestatic 211, 3) := by decide +kernel
theorem d_Mo_summed_99 : decode m_Mo_summed.2.1 99 = .ok (.ladd, 1) := by decide +kernel
theorem d_Mo_summed_100 : decode m_Mo_summed.2.1 100 = .ok (.lstore 6, 2) := by decide +kernel
theorem d_Mo_summed_102 : decode m_Mo_summed.2.1 102 = .ok (.lload 6, 2) := by decide +kernel
theorem d_Mo_summed_104 : decode m_Mo_summed.2.1 104 = .ok (.lload 4, 2) := by decide +kernel
theorem d_Mo_summed_106 : decode m_Mo_summed.2.1 106 = .ok (.lcmp, 1) := by decide +kernel
theorem d_Mo_summed_107 : decode m_Mo_summed.2.1 107 = .ok (.ifCond .ge 8, 3) := by decide +kernel
theorem d_Mo_summed_110 : decode m_Mo_summed.2.1 110 = .ok (.lload 6, 2) := by decide +kernel
theorem d_Mo_summed_112 : decode m_Mo_summed.2.1 112 = .ok (.goto 6, 3) := by decide +kernel
theorem d_Mo_summed_115 : decode m_Mo_summed.2.1 115 = .ok (.ldc2_w 215, 3) := by decide +kernel
theorem d_Mo_summed_118 : decode m_Mo_summed.2.1 118 = .ok (.lreturn, 1) := by decide +kernel
theorem d_Mo_takesUp_0 : decode m_Mo_takesUp.2.1 0 = .ok (.aload_n 0, 1) := by decide +kernel
theorem d_Mo_takesUp_1 : decode m_Mo_takesUp.2.1 1 = .ok (.getfield 16, 3) := by decide +kernel
theorem d_Mo_takesUp_4 : decode m_Mo_takesUp.2.1 4 = .ok (.iconst 1, 1) := by decide +kernel
theorem d_Mo_takesUp_5 : decode m_Mo_takesUp.2.1 5 = .ok (.iaload, 1) := by decide +kernel
theorem d_Mo_takesUp_6 : decode m_Mo_takesUp.2.1 6 = .ok (.ifCond .eq 37, 3) := by decide +kernel
theorem d_Mo_takesUp_9 : decode m_Mo_takesUp.2.1 9 = .ok (.aload_n 0, 1) := by decide +kernel
theorem d_Mo_takesUp_10 : decode m_Mo_takesUp.2.1 10 = .ok (.getfield 16, 3) := by decide +kernel
theorem d_Mo_takesUp_13 : decode m_Mo_takesUp.2.1 13 = .ok (.iconst 3, 1) := by decide +kernel
theorem d_Mo_takesUp_14 : decode m_Mo_takesUp.2.1 14 = .ok (.iaload, 1) := by decide +kernel
theorem d_Mo_takesUp_15 : decode m_Mo_takesUp.2.1 15 = .ok (.ifCond .eq 28, 3) := by decide +kernel
theorem d_Mo_takesUp_18 : decode m_Mo_takesUp.2.1 18 = .ok (.aload_n 0, 1) := by decide +kernel
theorem d_Mo_takesUp_19 : decode m_Mo_takesUp.2.1 19 = .ok (.aload_n 0, 1) := by decide +kernel
theorem d_Mo_takesUp_20 : decode m_Mo_takesUp.2.1 20 = .ok (.getfield 46, 3) := by decide +kernel
theorem d_Mo_takesUp_23 : decode m_Mo_takesUp.2.1 23 = .ok (.aload_n 0, 1) := by decide +kernel
theorem d_Mo_takesUp_24 : decode m_Mo_takesUp.2.1 24 = .ok (.getfield 49, 3) := by decide +kernel
theorem d_Mo_takesUp_27 : decode m_Mo_takesUp.2.1 27 = .ok (.iload_n 1, 1) := by decide +kernel
theorem d_Mo_takesUp_28 : decode m_Mo_takesUp.2.1 28 = .ok (.aload_n 0, 1) := by decide +kernel
theorem d_Mo_takesUp_29 : decode m_Mo_takesUp.2.1 29 = .ok (.getfield 46, 3) := by decide +kernel
theorem d_Mo_takesUp_32 : decode m_Mo_takesUp.2.1 32 = .ok (.aload_n 0, 1) := by decide +kernel
theorem d_Mo_takesUp_33 : decode m_Mo_takesUp.2.1 33 = .ok (.getfield 49, 3) := by decide +kernel
theorem d_Mo_takesUp_36 : decode m_Mo_takesUp.2.1 36 = .ok (.iload_n 2, 1) := by decide +kernel
theorem d_Mo_takesUp_37 : decode m_Mo_takesUp.2.1 37 = .ok (.invokevirtual 217, 3) := by decide +kernel
theorem d_Mo_takesUp_40 : decode m_Mo_takesUp.2.1 40 = .ok (.ifCond .eq 5, 3) := by decide +kernel
theorem d_Mo_takesUp_43 : decode m_Mo_takesUp.2.1 43 = .ok (.iconst 0, 1) := by decide +kernel
theorem d_Mo_takesUp_44 : decode m_Mo_takesUp.2.1 44 = .ok (.ireturn, 1) := by decide +kernel
theorem d_Mo_takesUp_45 : decode m_Mo_takesUp.2.1 45 = .ok (.iconst 1, 1) := by decide +kernel
theorem d_Mo_takesUp_46 : decode m_Mo_takesUp.2.1 46 = .ok (.istore_n 3, 1) := by decide +kernel
theorem d_Mo_takesUp_47 : decode m_Mo_takesUp.2.1 47 = .ok (.iconst 0, 1) := by decide +kernel
theorem d_Mo_takesUp_48 : decode m_Mo_takesUp.2.1 48 = .ok (.istore 4, 2) := by decide +kernel
theorem d_Mo_takesUp_50 : decode m_Mo_takesUp.2.1 50 = .ok (.iload 4, 2) := by decide +kernel
theorem d_Mo_takesUp_52 : decode m_Mo_takesUp.2.1 52 = .ok (.aload_n 0, 1) := by decide +kernel
theorem d_Mo_takesUp_53 : decode m_Mo_takesUp.2.1 53 = .ok (.getfield 16, 3) := by decide +kernel
theorem d_Mo_takesUp_56 : decode m_Mo_takesUp.2.1 56 = .ok (.iconst 3, 1) := by decide +kernel
theorem d_Mo_takesUp_57 : decode m_Mo_takesUp.2.1 57 = .ok (.iaload, 1) := by decide +kernel
theorem d_Mo_takesUp_58 : decode m_Mo_takesUp.2.1 58 = .ok (.if_icmp .ge 48, 3) := by decide +kernel
theorem d_Mo_takesUp_61 : decode m_Mo_takesUp.2.1 61 = .ok (.aload_n 0, 1) := by decide +kernel
theorem d_Mo_takesUp_62 : decode m_Mo_takesUp.2.1 62 = .ok (.getfield 104, 3) := by decide +kernel
theorem d_Mo_takesUp_65 : decode m_Mo_takesUp.2.1 65 = .ok (.iload 4, 2) := by decide +kernel
theorem d_Mo_takesUp_67 : decode m_Mo_takesUp.2.1 67 = .ok (.aload_n 0, 1) := by decide +kernel
theorem d_Mo_takesUp_68 : decode m_Mo_takesUp.2.1 68 = .ok (.iload 4, 2) := by decide +kernel
theorem d_Mo_takesUp_70 : decode m_Mo_takesUp.2.1 70 = .ok (.iload_n 1, 1) := by decide +kernel
theorem d_Mo_takesUp_71 : decode m_Mo_takesUp.2.1 71 = .ok (.iload_n 2, 1) := by decide +kernel
theorem d_Mo_takesUp_72 : decode m_Mo_takesUp.2.1 72 = .ok (.invokevirtual 221, 3) := by decide +kernel
theorem d_Mo_takesUp_75 : decode m_Mo_takesUp.2.1 75 = .ok (.lastore, 1) := by decide +kernel
theorem d_Mo_takesUp_76 : decode m_Mo_takesUp.2.1 76 = .ok (.iload_n 3, 1) := by decide +kernel
theorem d_Mo_takesUp_77 : decode m_Mo_takesUp.2.1 77 = .ok (.ifCond .eq 21, 3) := by decide +kernel
theorem d_Mo_takesUp_80 : decode m_Mo_takesUp.2.1 80 = .ok (.aload_n 0, 1) := by decide +kernel
theorem d_Mo_takesUp_81 : decode m_Mo_takesUp.2.1 81 = .ok (.getfield 104, 3) := by decide +kernel
theorem d_Mo_takesUp_84 : decode m_Mo_takesUp.2.1 84 = .ok (.iload 4, 2) := by decide +kernel
theorem d_Mo_takesUp_86 : decode m_Mo_takesUp.2.1 86 = .ok (.laload, 1) := by decide +kernel
theorem d_Mo_takesUp_87 : decode m_Mo_takesUp.2.1 87 = .ok (.ldc2_w 215, 3) := by decide +kernel
theorem d_Mo_takesUp_90 : decode m_Mo_takesUp.2.1 90 = .ok (.lcmp, 1) := by decide +kernel
theorem d_Mo_takesUp_91 : decode m_Mo_takesUp.2.1 91 = .ok (.ifCond .eq 7, 3) := by decide +kernel
theorem d_Mo_takesUp_94 : decode m_Mo_takesUp.2.1 94 = .ok (.iconst 1, 1) := by decide +kernel
theorem d_Mo_takesUp_95 : decode m_Mo_takesUp.2.1 95 = .ok (.goto 4, 3) := by decide +kernel
theorem d_Mo_takesUp_98 : decode m_Mo_takesUp.2.1 98 = .ok (.iconst 0, 1) := by decide +kernel
theorem d_Mo_takesUp_99 : decode m_Mo_takesUp.2.1 99 = .ok (.istore_n 3, 1) := by decide +kernel
theorem d_Mo_takesUp_100 : decode m_Mo_takesUp.2.1 100 = .ok (.iinc 4 1, 3) := by decide +kernel
theorem d_Mo_takesUp_103 : decode m_Mo_takesUp.2.1 103 = .ok (.goto (-53), 3) := by decide +kernel
theorem d_Mo_takesUp_106 : decode m_Mo_takesUp.2.1 106 = .ok (.iload_n 3, 1) := by decide +kernel
theorem d_Mo_takesUp_107 : decode m_Mo_takesUp.2.1 107 = .ok (.ifCond .ne 10, 3) := by decide +kernel
theorem d_Mo_takesUp_110 : decode m_Mo_takesUp.2.1 110 = .ok (.aload_n 0, 1) := by decide +kernel
theorem d_Mo_takesUp_111 : decode m_Mo_takesUp.2.1 111 = .ok (.iconst 4, 1) := by decide +kernel
theorem d_Mo_takesUp_112 : decode m_Mo_takesUp.2.1 112 = .ok (.putfield 225, 3) := by decide +kernel
theorem d_Mo_takesUp_115 : decode m_Mo_takesUp.2.1 115 = .ok (.iconst 0, 1) := by decide +kernel
theorem d_Mo_takesUp_116 : decode m_Mo_takesUp.2.1 116 = .ok (.ireturn, 1) := by decide +kernel
theorem d_Mo_takesUp_117 : decode m_Mo_takesUp.2.1 117 = .ok (.iconst 0, 1) := by decide +kernel
theorem d_Mo_takesUp_118 : decode m_Mo_takesUp.2.1 118 = .ok (.istore 4, 2) := by decide +kernel
theorem d_Mo_takesUp_120 : decode m_Mo_takesUp.2.1 120 = .ok (.iload 4, 2) := by decide +kernel
theorem d_Mo_takesUp_122 : decode m_Mo_takesUp.2.1 122 = .ok (.aload_n 0, 1) := by decide +kernel
theorem d_Mo_takesUp_123 : decode m_Mo_takesUp.2.1 123 = .ok (.getfield 16, 3) := by decide +kernel
theorem d_Mo_takesUp_126 : decode m_Mo_takesUp.2.1 126 = .ok (.iconst 3, 1) := by decide +kernel
theorem d_Mo_takesUp_127 : decode m_Mo_takesUp.2.1 127 = .ok (.iaload, 1) := by decide +kernel
theorem d_Mo_takesUp_128 : decode m_Mo_takesUp.2.1 128 = .ok (.if_icmp .ge 159, 3) := by decide +kernel
theorem d_Mo_takesUp_131 : decode m_Mo_takesUp.2.1 131 = .ok (.aload_n 0, 1) := by decide +kernel
theorem d_Mo_takesUp_132 : decode m_Mo_takesUp.2.1 132 = .ok (.getfield 104, 3) := by decide +kernel
theorem d_Mo_takesUp_135 : decode m_Mo_takesUp.2.1 135 = .ok (.iload 4, 2) := by decide +kernel
theorem d_Mo_takesUp_137 : decode m_Mo_takesUp.2.1 137 = .ok (.laload, 1) := by decide +kernel
theorem d_Mo_takesUp_138 : decode m_Mo_takesUp.2.1 138 = .ok (.lstore 5, 2) := by decide +kernel
theorem d_Mo_takesUp_140 : decode m_Mo_takesUp.2.1 140 = .ok (.aload_n 0, 1) := by decide +kernel
theorem d_Mo_takesUp_141 : decode m_Mo_takesUp.2.1 141 = .ok (.getfield 28, 3) := by decide +kernel
theorem d_Mo_takesUp_144 : decode m_Mo_takesUp.2.1 144 = .ok (.iconst 2, 1) := by decide +kernel
theorem d_Mo_takesUp_145 : decode m_Mo_takesUp.2.1 145 = .ok (.iload 4, 2) := by decide +kernel
theorem d_Mo_takesUp_147 : decode m_Mo_takesUp.2.1 147 = .ok (.imul, 1) := by decide +kernel
theorem d_Mo_takesUp_148 : decode m_Mo_takesUp.2.1 148 = .ok (.iaload, 1) := by decide +kernel
theorem d_Mo_takesUp_149 : decode m_Mo_takesUp.2.1 149 = .ok (.iconst 1, 1) := by decide +kernel
theorem d_Mo_takesUp_150 : decode m_Mo_takesUp.2.1 150 = .ok (.isub, 1) := by decide +kernel
theorem d_Mo_takesUp_151 : decode m_Mo_takesUp.2.1 151 = .ok (.istore 7, 2) := by decide +kernel
theorem d_Mo_takesUp_153 : decode m_Mo_takesUp.2.1 153 = .ok (.iload 7, 2) := by decide +kernel
theorem d_Mo_takesUp_155 : decode m_Mo_takesUp.2.1 155 = .ok (.aload_n 0, 1) := by decide +kernel
theorem d_Mo_takesUp_156 : decode m_Mo_takesUp.2.1 156 = .ok (.getfield 28, 3) := by decide +kernel
theorem d_Mo_takesUp_159 : decode m_Mo_takesUp.2.1 159 = .ok (.iconst 2, 1) := by decide +kernel
theorem d_Mo_takesUp_160 : decode m_Mo_takesUp.2.1 160 = .ok (.iload 4, 2) := by decide +kernel
theorem d_Mo_takesUp_162 : decode m_Mo_takesUp.2.1 162 = .ok (.imul, 1) := by decide +kernel
theorem d_Mo_takesUp_163 : decode m_Mo_takesUp.2.1 163 = .ok (.iconst 1, 1) := by decide +kernel
theorem d_Mo_takesUp_164 : decode m_Mo_takesUp.2.1 164 = .ok (.iadd, 1) := by decide +kernel
theorem d_Mo_takesUp_165 : decode m_Mo_takesUp.2.1 165 = .ok (.iaload, 1) := by decide +kernel
theorem d_Mo_takesUp_166 : decode m_Mo_takesUp.2.1 166 = .ok (.iadd, 1) := by decide +kernel
theorem d_Mo_takesUp_167 : decode m_Mo_takesUp.2.1 167 = .ok (.istore 8, 2) := by decide +kernel
theorem d_Mo_takesUp_169 : decode m_Mo_takesUp.2.1 169 = .ok (.aload_n 0, 1) := by decide +kernel
theorem d_Mo_takesUp_170 : decode m_Mo_takesUp.2.1 170 = .ok (.getfield 49, 3) := by decide +kernel
theorem d_Mo_takesUp_173 : decode m_Mo_takesUp.2.1 173 = .ok (.iload_n 1, 1) := by decide +kernel
theorem d_Mo_takesUp_174 : decode m_Mo_takesUp.2.1 174 = .ok (.iaload, 1) := by decide +kernel
theorem d_Mo_takesUp_175 : decode m_Mo_takesUp.2.1 175 = .ok (.istore 9, 2) := by decide +kernel
theorem d_Mo_takesUp_177 : decode m_Mo_takesUp.2.1 177 = .ok (.iload 9, 2) := by decide +kernel
theorem d_Mo_takesUp_179 : decode m_Mo_takesUp.2.1 179 = .ok (.iload 8, 2) := by decide +kernel
theorem d_Mo_takesUp_181 : decode m_Mo_takesUp.2.1 181 = .ok (.if_icmp .ge 23, 3) := by decide +kernel
theorem d_Mo_takesUp_184 : decode m_Mo_takesUp.2.1 184 = .ok (.aload_n 0, 1) := by decide +kernel
theorem d_Mo_takesUp_185 : decode m_Mo_takesUp.2.1 185 = .ok (.getfield 46, 3) := by decide +kernel
theorem d_Mo_takesUp_188 : decode m_Mo_takesUp.2.1 188 = .ok (.bipush 100, 2) := by decide +kernel
theorem d_Mo_takesUp_190 : decode m_Mo_takesUp.2.1 190 = .ok (.iload_n 1, 1) := by decide +kernel
theorem d_Mo_takesUp_191 : decode m_Mo_takesUp.2.1 191 = .ok (.imul, 1) := by decide +kernel
theorem d_Mo_takesUp_192 : decode m_Mo_takesUp.2.1 192 = .ok (.iload 9, 2) := by decide +kernel
theorem d_Mo_takesUp_194 : decode m_Mo_takesUp.2.1 194 = .ok (.iadd, 1) := by decide +kernel
theorem d_Mo_takesUp_195 : decode m_Mo_takesUp.2.1 195 = .ok (.bipush 32, 2) := by decide +kernel
theorem d_Mo_takesUp_197 : decode m_Mo_takesUp.2.1 197 = .ok (.iastore, 1) := by decide +kernel
theorem d_Mo_takesUp_198 : decode m_Mo_takesUp.2.1 198 = .ok (.iinc 9 1, 3) := by decide +kernel
theorem d_Mo_takesUp_201 : decode m_Mo_takesUp.2.1 201 = .ok (.goto (-24), 3) := by decide +kernel
theorem d_Mo_takesUp_204 : decode m_Mo_takesUp.2.1 204 = .ok (.aload_n 0, 1) := by decide +kernel
theorem d_Mo_takesUp_205 : decode m_Mo_takesUp.2.1 205 = .ok (.getfield 49, 3) := by decide +kernel
theorem d_Mo_takesUp_208 : decode m_Mo_takesUp.2.1 208 = .ok (.iload_n 1, 1) := by decide +kernel
theorem d_Mo_takesUp_209 : decode m_Mo_takesUp.2.1 209 = .ok (.iload 8, 2) := by decide +kernel
theorem d_Mo_takesUp_211 : decode m_Mo_takesUp.2.1 211 = .ok (.aload_n 0, 1) := by decide +kernel
theorem d_Mo_takesUp_212 : decode m_Mo_takesUp.2.1 212 = .ok (.getfield 49, 3) := by decide +kernel
theorem d_Mo_takesUp_215 : decode m_Mo_takesUp.2.1 215 = .ok (.iload_n 1, 1) := by decide +kernel
theorem d_Mo_takesUp_216 : decode m_Mo_takesUp.2.1 216 = .ok (.iaload, 1) := by decide +kernel
theorem d_Mo_takesUp_217 : decode m_Mo_takesUp.2.1 217 = .ok (.if_icmp .le 8, 3) := by decide +kernel
theorem d_Mo_takesUp_220 : decode m_Mo_takesUp.2.1 220 = .ok (.iload 8, 2) := by decide +kernel
theorem d_Mo_takesUp_222 : decode m_Mo_takesUp.2.1 222 = .ok (.goto 9, 3) := by decide +kernel
theorem d_Mo_takesUp_225 : decode m_Mo_takesUp.2.1 225 = .ok (.aload_n 0, 1) := by decide +kernel
theorem d_Mo_takesUp_226 : decode m_Mo_takesUp.2.1 226 = .ok (.getfield 49, 3) := by decide +kernel
theorem d_Mo_takesUp_229 : decode m_Mo_takesUp.2.1 229 = .ok (.iload_n 1, 1) := by decide +kernel
theorem d_Mo_takesUp_230 : decode m_Mo_takesUp.2.1 230 = .ok (.iaload, 1) := by decide +kernel
theorem d_Mo_takesUp_231 : decode m_Mo_takesUp.2.1 231 = .ok (.iastore, 1) := by decide +kernel
theorem d_Mo_takesUp_232 : decode m_Mo_takesUp.2.1 232 = .ok (.iload 8, 2) := by decide +kernel
theorem d_Mo_takesUp_234 : decode m_Mo_takesUp.2.1 234 = .ok (.iconst 1, 1) := by decide +kernel
theorem d_Mo_takesUp_235 : decode m_Mo_takesUp.2.1 235 = .ok (.isub, 1) := by decide +kernel
theorem d_Mo_takesUp_236 : decode m_Mo_takesUp.2.1 236 = .ok (.istore 9, 2) := by decide +kernel
theorem d_Mo_takesUp_238 : decode m_Mo_takesUp.2.1 238 = .ok (.iload 9, 2) := by decide +kernel
theorem d_Mo_takesUp_240 : decode m_Mo_takesUp.2.1 240 = .ok (.iload 7, 2) := by decide +kernel
theorem d_Mo_takesUp_242 : decode m_Mo_takesUp.2.1 242 = .ok (.if_icmp .lt 39, 3) := by decide +kernel
theorem d_Mo_takesUp_245 : decode m_Mo_takesUp.2.1 245 = .ok (.aload_n 0, 1) := by decide +kernel
theorem d_Mo_takesUp_246 : decode m_Mo_takesUp.2.1 246 = .ok (.getfield 46, 3) := by decide +kernel
theorem d_Mo_takesUp_249 : decode m_Mo_takesUp.2.1 249 = .ok (.bipush 100, 2) := by decide +kernel
theorem d_Mo_takesUp_251 : decode m_Mo_takesUp.2.1 251 = .ok (.iload_n 1, 1) := by decide +kernel
theorem d_Mo_takesUp_252 : decode m_Mo_takesUp.2.1 252 = .ok (.imul, 1) := by decide +kernel
theorem d_Mo_takesUp_253 : decode m_Mo_takesUp.2.1 253 = .ok (.iload 9, 2) := by decide +kernel
theorem d_Mo_takesUp_255 : decode m_Mo_takesUp.2.1 255 = .ok (.iadd, 1) := by decide +kernel
theorem d_Mo_takesUp_256 : decode m_Mo_takesUp.2.1 256 = .ok (.bipush 48, 2) := by decide +kernel
theorem d_Mo_takesUp_258 : decode m_Mo_takesUp.2.1 258 = .ok (.lload 5, 2) := by decide +kernel
theorem d_Mo_takesUp_260 : decode m_Mo_takesUp.2.1 260 = .ok (.ldc2_w 198, 3) := by decide +kernel
theorem d_Mo_takesUp_263 : decode m_Mo_takesUp.2.1 263 = .ok (.lrem, 1) := by decide +kernel
theorem d_Mo_takesUp_264 : decode m_Mo_takesUp.2.1 264 = .ok (.l2i, 1) := by decide +kernel
theorem d_Mo_takesUp_265 : decode m_Mo_takesUp.2.1 265 = .ok (.iadd, 1) := by decide +kernel
theorem d_Mo_takesUp_266 : decode m_Mo_takesUp.2.1 266 = .ok (.iastore, 1) := by decide +kernel
theorem d_Mo_takesUp_267 : decode m_Mo_takesUp.2.1 267 = .ok (.lload 5, 2) := by decide +kernel
theorem d_Mo_takesUp_269 : decode m_Mo_takesUp.2.1 269 = .ok (.ldc2_w 198, 3) := by decide +kernel
theorem d_Mo_takesUp_272 : decode m_Mo_takesUp.2.1 272 = .ok (.ldiv, 1) := by decide +kernel
theorem d_Mo_takesUp_273 : decode m_Mo_takesUp.2.1 273 = .ok (.lstore 5, 2) := by decide +kernel
theorem d_Mo_takesUp_275 : decode m_Mo_takesUp.2.1 275 = .ok (.iinc 9 (-1), 3) := by decide +kernel
theorem d_Mo_takesUp_278 : decode m_Mo_takesUp.2.1 278 = .ok (.goto (-40), 3) := by decide +kernel
theorem d_Mo_takesUp_281 : decode m_Mo_takesUp.2.1 281 = .ok (.iinc 4 1, 3) := by decide +kernel
theorem d_Mo_takesUp_284 : decode m_Mo_takesUp.2.1 284 = .ok (.goto (-164), 3) := by decide +kernel
theorem d_Mo_takesUp_287 : decode m_Mo_takesUp.2.1 287 = .ok (.aload_n 0, 1) := by decide +kernel
theorem d_Mo_takesUp_288 : decode m_Mo_takesUp.2.1 288 = .ok (.getfield 52, 3) := by decide +kernel
theorem d_Mo_takesUp_291 : decode m_Mo_takesUp.2.1 291 = .ok (.iload_n 1, 1) := by decide +kernel
theorem d_Mo_takesUp_292 : decode m_Mo_takesUp.2.1 292 = .ok (.dup2, 1) := by decide +kernel
theorem d_Mo_takesUp_293 : decode m_Mo_takesUp.2.1 293 = .ok (.iaload, 1) := by decide +kernel
theorem d_Mo_takesUp_294 : decode m_Mo_takesUp.2.1 294 = .ok (.aload_n 0, 1) := by decide +kernel
theorem d_Mo_takesUp_295 : decode m_Mo_takesUp.2.1 295 = .ok (.getfield 52, 3) := by decide +kernel
theorem d_Mo_takesUp_298 : decode m_Mo_takesUp.2.1 298 = .ok (.iload_n 2, 1) := by decide +kernel
theorem d_Mo_takesUp_299 : decode m_Mo_takesUp.2.1 299 = .ok (.iaload, 1) := by decide +kernel
theorem d_Mo_takesUp_300 : decode m_Mo_takesUp.2.1 300 = .ok (.iadd, 1) := by decide +kernel
theorem d_Mo_takesUp_301 : decode m_Mo_takesUp.2.1 301 = .ok (.iastore, 1) := by decide +kernel
theorem d_Mo_takesUp_302 : decode m_Mo_takesUp.2.1 302 = .ok (.iconst 1, 1) := by decide +kernel
theorem d_Mo_takesUp_303 : decode m_Mo_takesUp.2.1 303 = .ok (.ireturn, 1) := by decide +kernel
theorem d_Mo_lay_0 : decode m_Mo_lay.2.1 0 = .ok (.aload_n 0, 1) := by decide +kernel
theorem d_Mo_lay_1 : decode m_Mo_lay.2.1 1 = .ok (.iconst 0, 1) := by decide +kernel
theorem d_Mo_lay_2 : decode m_Mo_lay.2.1 2 = .ok (.invokevirtual 228, 3) := by decide +kernel
theorem d_Mo_lay_5 : decode m_Mo_lay.2.1 5 = .ok (.iconst 0, 1) := by decide +kernel
theorem d_Mo_lay_6 : decode m_Mo_lay.2.1 6 = .ok (.istore_n 2, 1) := by decide +kernel
theorem d_Mo_lay_7 : decode m_Mo_lay.2.1 7 = .ok (.iload_n 2, 1) := by decide +kernel
theorem d_Mo_lay_8 : decode m_Mo_lay.2.1 8 = .ok (.aload_n 0, 1) := by decide +kernel
theorem d_Mo_lay_9 : decode m_Mo_lay.2.1 9 = .ok (.getfield 49, 3) := by decide +kernel
theorem d_Mo_lay_12 : decode m_Mo_lay.2.1 12 = .ok (.iload_n 1, 1) := by decide +kernel
theorem d_Mo_lay_13 : decode m_Mo_lay.2.1 13 = .ok (.iaload, 1) := by decide +kernel
theorem d_Mo_lay_14 : decode m_Mo_lay.2.1 14 = .ok (.if_icmp .ge 34, 3) := by decide +kernel
theorem d_Mo_lay_17 : decode m_Mo_lay.2.1 17 = .ok (.aload_n 0, 1) := by decide +kernel
theorem d_Mo_lay_18 : decode m_Mo_lay.2.1 18 = .ok (.getfield 13, 3) := by decide +kernel
theorem d_Mo_lay_21 : decode m_Mo_lay.2.1 21 = .ok (.iconst 4, 1) := by decide +kernel
theorem d_Mo_lay_22 : decode m_Mo_lay.2.1 22 = .ok (.iaload, 1) := by decide +kernel
theorem d_Mo_lay_23 : decode m_Mo_lay.2.1 23 = .ok (.ifCond .ne 25, 3) := by decide +kernel
theorem d_Mo_lay_26 : decode m_Mo_lay.2.1 26 = .ok (.aload_n 0, 1) := by decide +kernel
theorem d_Mo_lay_27 : decode m_Mo_lay.2.1 27 = .ok (.iconst 0, 1) := by decide +kernel
theorem d_Mo_lay_28 : decode m_Mo_lay.2.1 28 = .ok (.aload_n 0, 1) := by decide +kernel
theorem d_Mo_lay_29 : decode m_Mo_lay.2.1 29 = .ok (.getfield 46, 3) := by decide +kernel
theorem d_Mo_lay_32 : decode m_Mo_lay.2.1 32 = .ok (.bipush 100, 2) := by decide +kernel
theorem d_Mo_lay_34 : decode m_Mo_lay.2.1 34 = .ok (.iload_n 1, 1) := by decide +kernel
theorem d_Mo_lay_35 : decode m_Mo_lay.2.1 35 = .ok (.imul, 1) := by decide +kernel
theorem d_Mo_lay_36 : decode m_Mo_lay.2.1 36 = .ok (.iload_n 2, 1) := by decide +kernel
theorem d_Mo_lay_37 : decode m_Mo_lay.2.1 37 = .ok (.iadd, 1) := by decide +kernel
theorem d_Mo_lay_38 : decode m_Mo_lay.2.1 38 = .ok (.iaload, 1) := by decide +kernel
theorem d_Mo_lay_39 : decode m_Mo_lay.2.1 39 = .ok (.invokevirtual 232, 3) := by decide +kernel
theorem d_Mo_lay_42 : decode m_Mo_lay.2.1 42 = .ok (.iinc 2 1, 3) := by decide +kernel
theorem d_Mo_lay_45 : decode m_Mo_lay.2.1 45 = .ok (.goto (-38), 3) := by decide +kernel
theorem d_Mo_lay_48 : decode m_Mo_lay.2.1 48 = .ok (.iconst 0, 1) := by decide +kernel
theorem d_Mo_lay_49 : decode m_Mo_lay.2.1 49 = .ok (.istore_n 2, 1) := by decide +kernel
theorem d_Mo_lay_50 : decode m_Mo_lay.2.1 50 = .ok (.iload_n 2, 1) := by decide +kernel
theorem d_Mo_lay_51 : decode m_Mo_lay.2.1 51 = .ok (.aload_n 0, 1) := by decide +kernel
theorem d_Mo_lay_52 : decode m_Mo_lay.2.1 52 = .ok (.getfield 16, 3) := by decide +kernel
theorem d_Mo_lay_55 : decode m_Mo_lay.2.1 55 = .ok (.iconst 4, 1) := by decide +kernel
theorem d_Mo_lay_56 : decode m_Mo_lay.2.1 56 = .ok (.iaload, 1) := by decide +kernel
theorem d_Mo_lay_57 : decode m_Mo_lay.2.1 57 = .ok (.if_icmp .ge 97, 3) := by decide +kernel
theorem d_Mo_lay_60 : decode m_Mo_lay.2.1 60 = .ok (.iconst 0, 1) := by decide +kernel
theorem d_Mo_lay_61 : decode m_Mo_lay.2.1 61 = .ok (.istore_n 3, 1) := by decide +kernel
theorem d_Mo_lay_62 : decode m_Mo_lay.2.1 62 = .ok (.iload_n 3, 1) := by decide +kernel
theorem d_Mo_lay_63 : decode m_Mo_lay.2.1 63 = .ok (.aload_n 0, 1) := by decide +kernel
theorem d_Mo_lay_64 : decode m_Mo_lay.2.1 64 = .ok (.getfield 31, 3) := by decide +kernel
theorem d_Mo_lay_67 : decode m_Mo_lay.2.1 67 = .ok (.iconst 2, 1) := by decide +kernel
theorem d_Mo_lay_68 : decode m_Mo_lay.2.1 68 = .ok (.iload_n 2, 1) := by decide +kernel
theorem d_Mo_lay_69 : decode m_Mo_lay.2.1 69 = .ok (.imul, 1) := by decide +kernel
theorem d_Mo_lay_70 : decode m_Mo_lay.2.1 70 = .ok (.iconst 1, 1) := by decide +kernel
theorem d_Mo_lay_71 : decode m_Mo_lay.2.1 71 = .ok (.iadd, 1) := by decide +kernel
theorem d_Mo_lay_72 : decode m_Mo_lay.2.1 72 = .ok (.iaload, 1) := by decide +kernel
theorem d_Mo_lay_73 : decode m_Mo_lay.2.1 73 = .ok (.if_icmp .ge 75, 3) := by decide +kernel
theorem d_Mo_lay_76 : decode m_Mo_lay.2.1 76 = .ok (.aload_n 0, 1) := by decide +kernel
theorem d_Mo_lay_77 : decode m_Mo_lay.2.1 77 = .ok (.getfield 31, 3) := by decide +kernel
theorem d_Mo_lay_80 : decode m_Mo_lay.2.1 80 = .ok (.iconst 2, 1) := by decide +kernel
theorem d_Mo_lay_81 : decode m_Mo_lay.2.1 81 = .ok (.iload_n 2, 1) := by decide +kernel
theorem d_Mo_lay_82 : decode m_Mo_lay.2.1 82 = .ok (.imul, 1) := by decide +kernel
theorem d_Mo_lay_83 : decode m_Mo_lay.2.1 83 = .ok (.iaload, 1) := by decide +kernel
theorem d_Mo_lay_84 : decode m_Mo_lay.2.1 84 = .ok (.istore 4, 2) := by decide +kernel
theorem d_Mo_lay_86 : decode m_Mo_lay.2.1 86 = .ok (.aload_n 0, 1) := by decide +kernel
theorem d_Mo_lay_87 : decode m_Mo_lay.2.1 87 = .ok (.iconst 0, 1) := by decide +kernel
theorem d_Mo_lay_88 : decode m_Mo_lay.2.1 88 = .ok (.iload 4, 2) := by decide +kernel
theorem d_Mo_lay_90 : decode m_Mo_lay.2.1 90 = .ok (.iconst (-1), 1) := by decide +kernel
theorem d_Mo_lay_91 : decode m_Mo_lay.2.1 91 = .ok (.if_icmp .ne 8, 3) := by decide +kernel
theorem d_Mo_lay_94 : decode m_Mo_lay.2.1 94 = .ok (.bipush 32, 2) := by decide +kernel
theorem d_Mo_lay_96 : decode m_Mo_lay.2.1 96 = .ok (.goto 43, 3) := by decide +kernel
theorem d_Mo_lay_99 : decode m_Mo_lay.2.1 99 = .ok (.iload 4, 2) := by decide +kernel
theorem d_Mo_lay_101 : decode m_Mo_lay.2.1 101 = .ok (.ifCond .ne 20, 3) := by decide +kernel
theorem d_Mo_lay_104 : decode m_Mo_lay.2.1 104 = .ok (.aload_n 0, 1) := by decide +kernel
theorem d_Mo_lay_105 : decode m_Mo_lay.2.1 105 = .ok (.getfield 34, 3) := by decide +kernel
theorem d_Mo_lay_108 : decode m_Mo_lay.2.1 108 = .ok (.bipush 20, 2) := by decide +kernel
theorem d_Mo_lay_110 : decode m_Mo_lay.2.1 110 = .ok (.bipush 10, 2) := by decide +kernel
theorem d_Mo_lay_112 : decode m_Mo_lay.2.1 112 = .ok (.iload_n 2, 1) := by decide +kernel
theorem d_Mo_lay_113 : decode m_Mo_lay.2.1 113 = .ok (.iadd, 1) := by decide +kernel
theorem d_Mo_lay_114 : decode m_Mo_lay.2.1 114 = .ok (.imul, 1) := by decide +kernel
theorem d_Mo_lay_115 : decode m_Mo_lay.2.1 115 = .ok (.iload_n 3, 1) := by decide +kernel
theorem d_Mo_lay_116 : decode m_Mo_lay.2.1 116 = .ok (.iadd, 1) := by decide +kernel
theorem d_Mo_lay_117 : decode m_Mo_lay.2.1 117 = .ok (.iaload, 1) := by decide +kernel
theorem d_Mo_lay_118 : decode m_Mo_lay.2.1 118 = .ok (.goto 21, 3) := by decide +kernel
theorem d_Mo_lay_121 : decode m_Mo_lay.2.1 121 = .ok (.aload_n 0, 1) := by decide +kernel
theorem d_Mo_lay_122 : decode m_Mo_lay.2.1 122 = .ok (.getfield 46, 3) := by decide +kernel
theorem d_Mo_lay_125 : decode m_Mo_lay.2.1 125 = .ok (.aload_n 0, 1) := by decide +kernel
theorem d_Mo_lay_126 : decode m_Mo_lay.2.1 126 = .ok (.getfield 49, 3) := by decide +kernel
theorem d_Mo_lay_129 : decode m_Mo_lay.2.1 129 = .ok (.iload_n 1, 1) := by decide +kernel
theorem d_Mo_lay_130 : decode m_Mo_lay.2.1 130 = .ok (.iload 4, 2) := by decide +kernel
theorem d_Mo_lay_132 : decode m_Mo_lay.2.1 132 = .ok (.iconst 1, 1) := by decide +kernel
theorem d_Mo_lay_133 : decode m_Mo_lay.2.1 133 = .ok (.isub, 1) := by decide +kernel
theorem d_Mo_lay_134 : decode m_Mo_lay.2.1 134 = .ok (.iload_n 3, 1) := by decide +kernel
theorem d_Mo_lay_135 : decode m_Mo_lay.2.1 135 = .ok (.iadd, 1) := by decide +kernel
theorem d_Mo_lay_136 : decode m_Mo_lay.2.1 136 = .ok (.invokestatic 194, 3) := by decide +kernel
theorem d_Mo_lay_139 : decode m_Mo_lay.2.1 139 = .ok (.invokevirtual 232, 3) := by decide +kernel
theorem d_Mo_lay_142 : decode m_Mo_lay.2.1 142 = .ok (.iinc 3 1, 3) := by decide +kernel
theorem d_Mo_lay_145 : decode m_Mo_lay.2.1 145 = .ok (.goto (-83), 3) := by decide +kernel
theorem d_Mo_lay_148 : decode m_Mo_lay.2.1 148 = .ok (.iinc 2 1, 3) := by decide +kernel
theorem d_Mo_lay_151 : decode m_Mo_lay.2.1 151 = .ok (.goto (-101), 3) := by decide +kernel
theorem d_Mo_lay_154 : decode m_Mo_lay.2.1 154 = .ok (.aload_n 0, 1) := by decide +kernel
theorem d_Mo_lay_155 : decode m_Mo_lay.2.1 155 = .ok (.getfield 71, 3) := by decide +kernel
theorem d_Mo_lay_158 : decode m_Mo_lay.2.1 158 = .ok (.aload_n 0, 1) := by decide +kernel
theorem d_Mo_lay_159 : decode m_Mo_lay.2.1 159 = .ok (.getfield 68, 3) := by decide +kernel
theorem d_Mo_lay_162 : decode m_Mo_lay.2.1 162 = .ok (.iconst 0, 1) := by decide +kernel
theorem d_Mo_lay_163 : decode m_Mo_lay.2.1 163 = .ok (.iaload, 1) := by decide +kernel
theorem d_Mo_lay_164 : decode m_Mo_lay.2.1 164 = .ok (.aload_n 0, 1) := by decide +kernel
theorem d_Mo_lay_165 : decode m_Mo_lay.2.1 165 = .ok (.getfield 52, 3) := by decide +kernel
theorem d_Mo_lay_168 : decode m_Mo_lay.2.1 168 = .ok (.iload_n 1, 1) := by decide +kernel
theorem d_Mo_lay_169 : decode m_Mo_lay.2.1 169 = .ok (.iaload, 1) := by decide +kernel
theorem d_Mo_lay_170 : decode m_Mo_lay.2.1 170 = .ok (.iastore, 1) := by decide +kernel
theorem d_Mo_lay_171 : decode m_Mo_lay.2.1 171 = .ok (.aload_n 0, 1) := by decide +kernel
theorem d_Mo_lay_172 : decode m_Mo_lay.2.1 172 = .ok (.getfield 74, 3) := by decide +kernel
theorem d_Mo_lay_175 : decode m_Mo_lay.2.1 175 = .ok (.aload_n 0, 1) := by decide +kernel
theorem d_Mo_lay_176 : decode m_Mo_lay.2.1 176 = .ok (.getfield 68, 3) := by decide +kernel
theorem d_Mo_lay_179 : decode m_Mo_lay.2.1 179 = .ok (.iconst 0, 1) := by decide +kernel
theorem d_Mo_lay_180 : decode m_Mo_lay.2.1 180 = .ok (.iaload, 1) := by decide +kernel
theorem d_Mo_lay_181 : decode m_Mo_lay.2.1 181 = .ok (.aload_n 0, 1) := by decide +kernel
theorem d_Mo_lay_182 : decode m_Mo_lay.2.1 182 = .ok (.getfield 55, 3) := by decide +kernel
theorem d_Mo_lay_185 : decode m_Mo_lay.2.1 185 = .ok (.iload_n 1, 1) := by decide +kernel
theorem d_Mo_lay_186 : decode m_Mo_lay.2.1 186 = .ok (.iaload, 1) := by decide +kernel
theorem d_Mo_lay_187 : decode m_Mo_lay.2.1 187 = .ok (.iastore, 1) := by decide +kernel
theorem d_Mo_lay_188 : decode m_Mo_lay.2.1 188 = .ok (.aload_n 0, 1) := by decide +kernel
theorem d_Mo_lay_189 : decode m_Mo_lay.2.1 189 = .ok (.getfield 68, 3) := by decide +kernel
theorem d_Mo_lay_192 : decode m_Mo_lay.2.1 192 = .ok (.iconst 0, 1) := by decide +kernel
theorem d_Mo_lay_193 : decode m_Mo_lay.2.1 193 = .ok (.dup2, 1) := by decide +kernel
theorem d_Mo_lay_194 : decode m_Mo_lay.2.1 194 = .ok (.iaload, 1) := by decide +kernel
theorem d_Mo_lay_195 : decode m_Mo_lay.2.1 195 = .ok (.iconst 1, 1) := by decide +kernel
theorem d_Mo_lay_196 : decode m_Mo_lay.2.1 196 = .ok (.iadd, 1) := by decide +kernel
theorem d_Mo_lay_197 : decode m_Mo_lay.2.1 197 = .ok (.iastore, 1) := by decide +kernel
theorem d_Mo_lay_198 : decode m_Mo_lay.2.1 198 = .ok (.return_, 1) := by decide +kernel
theorem d_Mo_run_0 : decode m_Mo_run.2.1 0 = .ok (.aload_n 0, 1) := by decide +kernel
theorem d_Mo_run_1 : decode m_Mo_run.2.1 1 = .ok (.iconst 0, 1) := by decide +kernel
theorem d_Mo_run_2 : decode m_Mo_run.2.1 2 = .ok (.putfield 114, 3) := by decide +kernel
theorem d_Mo_run_5 : decode m_Mo_run.2.1 5 = .ok (.aload_n 0, 1) := by decide +kernel
theorem d_Mo_run_6 : decode m_Mo_run.2.1 6 = .ok (.iconst 0, 1) := by decide +kernel
theorem d_Mo_run_7 : decode m_Mo_run.2.1 7 = .ok (.putfield 225, 3) := by decide +kernel
theorem d_Mo_run_10 : decode m_Mo_run.2.1 10 = .ok (.aload_n 0, 1) := by decide +kernel
theorem d_Mo_run_11 : decode m_Mo_run.2.1 11 = .ok (.getfield 68, 3) := by decide +kernel
theorem d_Mo_run_14 : decode m_Mo_run.2.1 14 = .ok (.iconst 0, 1) := by decide +kernel
theorem d_Mo_run_15 : decode m_Mo_run.2.1 15 = .ok (.iconst 0, 1) := by decide +kernel
theorem d_Mo_run_16 : decode m_Mo_run.2.1 16 = .ok (.iastore, 1) := by decide +kernel
theorem d_Mo_run_17 : decode m_Mo_run.2.1 17 = .ok (.aload_n 0, 1) := by decide +kernel
theorem d_Mo_run_18 : decode m_Mo_run.2.1 18 = .ok (.getfield 68, 3) := by decide +kernel
theorem d_Mo_run_21 : decode m_Mo_run.2.1 21 = .ok (.iconst 1, 1) := by decide +kernel
theorem d_Mo_run_22 : decode m_Mo_run.2.1 22 = .ok (.iconst 0, 1) := by decide +kernel
theorem d_Mo_run_23 : decode m_Mo_run.2.1 23 = .ok (.iastore, 1) := by decide +kernel
theorem d_Mo_run_24 : decode m_Mo_run.2.1 24 = .ok (.iconst 0, 1) := by decide +kernel
theorem d_Mo_run_25 : decode m_Mo_run.2.1 25 = .ok (.istore_n 1, 1) := by decide +kernel
theorem d_Mo_run_26 : decode m_Mo_run.2.1 26 = .ok (.iconst 0, 1) := by decide +kernel
theorem d_Mo_run_27 : decode m_Mo_run.2.1 27 = .ok (.istore_n 2, 1) := by decide +kernel
theorem d_Mo_run_28 : decode m_Mo_run.2.1 28 = .ok (.iconst 0, 1) := by decide +kernel
theorem d_Mo_run_29 : decode m_Mo_run.2.1 29 = .ok (.istore_n 3, 1) := by decide +kernel
theorem d_Mo_run_30 : decode m_Mo_run.2.1 30 = .ok (.iload_n 3, 1) := by decide +kernel
theorem d_Mo_run_31 : decode m_Mo_run.2.1 31 = .ok (.aload_n 0, 1) := by decide +kernel
theorem d_Mo_run_32 : decode m_Mo_run.2.1 32 = .ok (.getfield 191, 3) := by decide +kernel
theorem d_Mo_run_35 : decode m_Mo_run.2.1 35 = .ok (.if_icmp .ge 284, 3) := by decide +kernel
theorem d_Mo_run_38 : decode m_Mo_run.2.1 38 = .ok (.aload_n 0, 1) := by decide +kernel
theorem d_Mo_run_39 : decode m_Mo_run.2.1 39 = .ok (.getfield 43, 3) := by decide +kernel
theorem d_Mo_run_42 : decode m_Mo_run.2.1 42 = .ok (.iload_n 3, 1) := by decide +kernel
theorem d_Mo_run_43 : decode m_Mo_run.2.1 43 = .ok (.iaload, 1) := by decide +kernel
theorem d_Mo_run_44 : decode m_Mo_run.2.1 44 = .ok (.ifCond .eq 6, 3) := by decide +kernel
theorem d_Mo_run_47 : decode m_Mo_run.2.1 47 = .ok (.goto 266, 3) := by decide +kernel
theorem d_Mo_run_50 : decode m_Mo_run.2.1 50 = .ok (.iinc 2 1, 3) := by decide +kernel
theorem d_Mo_run_53 : decode m_Mo_run.2.1 53 = .ok (.iload_n 2, 1) := by decide +kernel
theorem d_Mo_run_54 : decode m_Mo_run.2.1 54 = .ok (.aload_n 0, 1) := by decide +kernel
theorem d_Mo_run_55 : decode m_Mo_run.2.1 55 = .ok (.getfield 13, 3) := by decide +kernel
theorem d_Mo_run_58 : decode m_Mo_run.2.1 58 = .ok (.iconst 5, 1) := by decide +kernel
theorem d_Mo_run_59 : decode m_Mo_run.2.1 59 = .ok (.iaload, 1) := by decide +kernel
theorem d_Mo_run_60 : decode m_Mo_run.2.1 60 = .ok (.ifCond .le 12, 3) := by decide +kernel
theorem d_Mo_run_63 : decode m_Mo_run.2.1 63 = .ok (.aload_n 0, 1) := by decide +kernel
theorem d_Mo_run_64 : decode m_Mo_run.2.1 64 = .ok (.getfield 19, 3) := by decide +kernel
theorem d_Mo_run_67 : decode m_Mo_run.2.1 67 = .ok (.iconst 0, 1) := by decide +kernel
theorem d_Mo_run_68 : decode m_Mo_run.2.1 68 = .ok (.iaload, 1) := by decide +kernel
theorem d_Mo_run_69 : decode m_Mo_run.2.1 69 = .ok (.goto 4, 3) := by decide +kernel
theorem d_Mo_run_72 : decode m_Mo_run.2.1 72 = .ok (.iconst 0, 1) := by decide +kernel
theorem d_Mo_run_73 : decode m_Mo_run.2.1 73 = .ok (.isub, 1) := by decide +kernel
theorem d_Mo_run_74 : decode m_Mo_run.2.1 74 = .ok (.istore 4, 2) := by decide +kernel
theorem d_Mo_run_76 : decode m_Mo_run.2.1 76 = .ok (.iload 4, 2) := by decide +kernel
theorem d_Mo_run_78 : decode m_Mo_run.2.1 78 = .ok (.iconst 1, 1) := by decide +kernel
theorem d_Mo_run_79 : decode m_Mo_run.2.1 79 = .ok (.if_icmp .lt 234, 3) := by decide +kernel
theorem d_Mo_run_82 : decode m_Mo_run.2.1 82 = .ok (.aload_n 0, 1) := by decide +kernel
theorem d_Mo_run_83 : decode m_Mo_run.2.1 83 = .ok (.getfield 13, 3) := by decide +kernel
theorem d_Mo_run_86 : decode m_Mo_run.2.1 86 = .ok (.bipush 6, 2) := by decide +kernel
theorem d_Mo_run_88 : decode m_Mo_run.2.1 88 = .ok (.iaload, 1) := by decide +kernel
theorem d_Mo_run_89 : decode m_Mo_run.2.1 89 = .ok (.ifCond .le 17, 3) := by decide +kernel
theorem d_Mo_run_92 : decode m_Mo_run.2.1 92 = .ok (.iload 4, 2) := by decide +kernel
theorem d_Mo_run_94 : decode m_Mo_run.2.1 94 = .ok (.aload_n 0, 1) := by decide +kernel
theorem d_Mo_run_95 : decode m_Mo_run.2.1 95 = .ok (.getfield 19, 3) := by decide +kernel
theorem d_Mo_run_98 : decode m_Mo_run.2.1 98 = .ok (.iconst 1, 1) := by decide +kernel
theorem d_Mo_run_99 : decode m_Mo_run.2.1 99 = .ok (.iaload, 1) := by decide +kernel
theorem d_Mo_run_100 : decode m_Mo_run.2.1 100 = .ok (.if_icmp .le 6, 3) := by decide +kernel
theorem d_Mo_run_103 : decode m_Mo_run.2.1 103 = .ok (.goto 210, 3) := by decide +kernel
theorem d_Mo_run_106 : decode m_Mo_run.2.1 106 = .ok (.aload_n 0, 1) := by decide +kernel
theorem d_Mo_run_107 : decode m_Mo_run.2.1 107 = .ok (.iload_n 3, 1) := by decide +kernel
theorem d_Mo_run_108 : decode m_Mo_run.2.1 108 = .ok (.invokevirtual 236, 3) := by decide +kernel
theorem d_Mo_run_111 : decode m_Mo_run.2.1 111 = .ok (.ifCond .ne 58, 3) := by decide +kernel
theorem d_Mo_run_114 : decode m_Mo_run.2.1 114 = .ok (.aload_n 0, 1) := by decide +kernel
theorem d_Mo_run_115 : decode m_Mo_run.2.1 115 = .ok (.iconst 1, 1) := by decide +kernel
theorem d_Mo_run_116 : decode m_Mo_run.2.1 116 = .ok (.invokevirtual 228, 3) := by decide +kernel
theorem d_Mo_run_119 : decode m_Mo_run.2.1 119 = .ok (.iconst 0, 1) := by decide +kernel
theorem d_Mo_run_120 : decode m_Mo_run.2.1 120 = .ok (.istore 5, 2) := by decide +kernel
theorem d_Mo_run_122 : decode m_Mo_run.2.1 122 = .ok (.iload 5, 2) := by decide +kernel
theorem d_Mo_run_124 : decode m_Mo_run.2.1 124 = .ok (.aload_n 0, 1) := by decide +kernel
theorem d_Mo_run_125 : decode m_Mo_run.2.1 125 = .ok (.getfield 40, 3) := by decide +kernel
theorem d_Mo_run_128 : decode m_Mo_run.2.1 128 = .ok (.iload_n 3, 1) := by decide +kernel
theorem d_Mo_run_129 : decode m_Mo_run.2.1 129 = .ok (.iaload, 1) := by decide +kernel
theorem d_Mo_run_130 : decode m_Mo_run.2.1 130 = .ok (.if_icmp .ge 26, 3) := by decide +kernel
theorem d_Mo_run_133 : decode m_Mo_run.2.1 133 = .ok (.aload_n 0, 1) := by decide +kernel
theorem d_Mo_run_134 : decode m_Mo_run.2.1 134 = .ok (.iconst 1, 1) := by decide +kernel
theorem d_Mo_run_135 : decode m_Mo_run.2.1 135 = .ok (.aload_n 0, 1) := by decide +kernel
theorem d_Mo_run_136 : decode m_Mo_run.2.1 136 = .ok (.getfield 37, 3) := by decide +kernel
theorem d_Mo_run_139 : decode m_Mo_run.2.1 139 = .ok (.bipush 100, 2) := by decide +kernel
theorem d_Mo_run_141 : decode m_Mo_run.2.1 141 = .ok (.iload_n 3, 1) := by decide +kernel
theorem d_Mo_run_142 : decode m_Mo_run.2.1 142 = .ok (.imul, 1) := by decide +kernel
theorem d_Mo_run_143 : decode m_Mo_run.2.1 143 = .ok (.iload 5, 2) := by decide +kernel
theorem d_Mo_run_145 : decode m_Mo_run.2.1 145 = .ok (.iadd, 1) := by decide +kernel
theorem d_Mo_run_146 : decode m_Mo_run.2.1 146 = .ok (.iaload, 1) := by decide +kernel
theorem d_Mo_run_147 : decode m_Mo_run.2.1 147 = .ok (.invokevirtual 232, 3) := by decide +kernel
theorem d_Mo_run_150 : decode m_Mo_run.2.1 150 = .ok (.iinc 5 1, 3) := by decide +kernel
theorem d_Mo_run_153 : decode m_Mo_run.2.1 153 = .ok (.goto (-31), 3) := by decide +kernel
theorem d_Mo_run_156 : decode m_Mo_run.2.1 156 = .ok (.aload_n 0, 1) := by decide +kernel
theorem d_Mo_run_157 : decode m_Mo_run.2.1 157 = .ok (.getfield 68, 3) := by decide +kernel
theorem d_Mo_run_160 : decode m_Mo_run.2.1 160 = .ok (.iconst 1, 1) := by decide +kernel
theorem d_Mo_run_161 : decode m_Mo_run.2.1 161 = .ok (.dup2, 1) := by decide +kernel
theorem d_Mo_run_162 : decode m_Mo_run.2.1 162 = .ok (.iaload, 1) := by decide +kernel
theorem d_Mo_run_163 : decode m_Mo_run.2.1 163 = .ok (.iconst 1, 1) := by decide +kernel
theorem d_Mo_run_164 : decode m_Mo_run.2.1 164 = .ok (.iadd, 1) := by decide +kernel
theorem d_Mo_run_165 : decode m_Mo_run.2.1 165 = .ok (.iastore, 1) := by decide +kernel
theorem d_Mo_run_166 : decode m_Mo_run.2.1 166 = .ok (.goto 147, 3) := by decide +kernel
theorem d_Mo_run_169 : decode m_Mo_run.2.1 169 = .ok (.iconst 0, 1) := by decide +kernel
theorem d_Mo_run_170 : decode m_Mo_run.2.1 170 = .ok (.istore 5, 2) := by decide +kernel
theorem d_Mo_run_172 : decode m_Mo_run.2.1 172 = .ok (.iload 5, 2) := by decide +kernel
theorem d_Mo_run_174 : decode m_Mo_run.2.1 174 = .ok (.aload_n 0, 1) := by decide +kernel
theorem d_Mo_run_175 : decode m_Mo_run.2.1 175 = .ok (.getfield 40, 3) := by decide +kernel
theorem d_Mo_run_178 : decode m_Mo_run.2.1 178 = .ok (.iload_n 3, 1) := by decide +kernel
theorem d_Mo_run_179 : decode m_Mo_run.2.1 179 = .ok (.iaload, 1) := by decide +kernel
theorem d_Mo_run_180 : decode m_Mo_run.2.1 180 = .ok (.if_icmp .ge 33, 3) := by decide +kernel
theorem d_Mo_run_183 : decode m_Mo_run.2.1 183 = .ok (.aload_n 0, 1) := by decide +kernel
theorem d_Mo_run_184 : decode m_Mo_run.2.1 184 = .ok (.getfield 46, 3) := by decide +kernel
theorem d_Mo_run_187 : decode m_Mo_run.2.1 187 = .ok (.bipush 100, 2) := by decide +kernel
theorem d_Mo_run_189 : decode m_Mo_run.2.1 189 = .ok (.iload_n 1, 1) := by decide +kernel
theorem d_Mo_run_190 : decode m_Mo_run.2.1 190 = .ok (.imul, 1) := by decide +kernel
theorem d_Mo_run_191 : decode m_Mo_run.2.1 191 = .ok (.iload 5, 2) := by decide +kernel
theorem d_Mo_run_193 : decode m_Mo_run.2.1 193 = .ok (.iadd, 1) := by decide +kernel
theorem d_Mo_run_194 : decode m_Mo_run.2.1 194 = .ok (.aload_n 0, 1) := by decide +kernel
theorem d_Mo_run_195 : decode m_Mo_run.2.1 195 = .ok (.getfield 37, 3) := by decide +kernel
theorem d_Mo_run_198 : decode m_Mo_run.2.1 198 = .ok (.bipush 100, 2) := by decide +kernel
theorem d_Mo_run_200 : decode m_Mo_run.2.1 200 = .ok (.iload_n 3, 1) := by decide +kernel
theorem d_Mo_run_201 : decode m_Mo_run.2.1 201 = .ok (.imul, 1) := by decide +kernel
theorem d_Mo_run_202 : decode m_Mo_run.2.1 202 = .ok (.iload 5, 2) := by decide +kernel
theorem d_Mo_run_204 : decode m_Mo_run.2.1 204 = .ok (.iadd, 1) := by decide +kernel
theorem d_Mo_run_205 : decode m_Mo_run.2.1 205 = .ok (.iaload, 1) := by decide +kernel
theorem d_Mo_run_206 : decode m_Mo_run.2.1 206 = .ok (.iastore, 1) := by decide +kernel
theorem d_Mo_run_207 : decode m_Mo_run.2.1 207 = .ok (.iinc 5 1, 3) := by decide +kernel
theorem d_Mo_run_210 : decode m_Mo_run.2.1 210 = .ok (.goto (-38), 3) := by decide +kernel
theorem d_Mo_run_213 : decode m_Mo_run.2.1 213 = .ok (.aload_n 0, 1) := by decide +kernel
theorem d_Mo_run_214 : decode m_Mo_run.2.1 214 = .ok (.getfield 49, 3) := by decide +kernel
theorem d_Mo_run_217 : decode m_Mo_run.2.1 217 = .ok (.iload_n 1, 1) := by decide +kernel
theorem d_Mo_run_218 : decode m_Mo_run.2.1 218 = .ok (.aload_n 0, 1) := by decide +kernel
theorem d_Mo_run_219 : decode m_Mo_run.2.1 219 = .ok (.getfield 40, 3) := by decide +kernel
theorem d_Mo_run_222 : decode m_Mo_run.2.1 222 = .ok (.iload_n 3, 1) := by decide +kernel
theorem d_Mo_run_223 : decode m_Mo_run.2.1 223 = .ok (.iaload, 1) := by decide +kernel
theorem d_Mo_run_224 : decode m_Mo_run.2.1 224 = .ok (.iastore, 1) := by decide +kernel
theorem d_Mo_run_225 : decode m_Mo_run.2.1 225 = .ok (.aload_n 0, 1) := by decide +kernel
theorem d_Mo_run_226 : decode m_Mo_run.2.1 226 = .ok (.getfield 52, 3) := by decide +kernel
theorem d_Mo_run_229 : decode m_Mo_run.2.1 229 = .ok (.iload_n 1, 1) := by decide +kernel
theorem d_Mo_run_230 : decode m_Mo_run.2.1 230 = .ok (.iconst 1, 1) := by decide +kernel
theorem d_Mo_run_231 : decode m_Mo_run.2.1 231 = .ok (.iastore, 1) := by decide +kernel
theorem d_Mo_run_232 : decode m_Mo_run.2.1 232 = .ok (.aload_n 0, 1) := by decide +kernel
theorem d_Mo_run_233 : decode m_Mo_run.2.1 233 = .ok (.getfield 55, 3) := by decide +kernel
theorem d_Mo_run_236 : decode m_Mo_run.2.1 236 = .ok (.iload_n 1, 1) := by decide +kernel
theorem d_Mo_run_237 : decode m_Mo_run.2.1 237 = .ok (.iload_n 3, 1) := by decide +kernel
theorem d_Mo_run_238 : decode m_Mo_run.2.1 238 = .ok (.iastore, 1) := by decide +kernel
theorem d_Mo_run_239 : decode m_Mo_run.2.1 239 = .ok (.iload_n 1, 1) := by decide +kernel
theorem d_Mo_run_240 : decode m_Mo_run.2.1 240 = .ok (.istore 5, 2) := by decide +kernel
theorem d_Mo_run_242 : decode m_Mo_run.2.1 242 = .ok (.iload 5, 2) := by decide +kernel
theorem d_Mo_run_244 : decode m_Mo_run.2.1 244 = .ok (.ifCond .le 58, 3) := by decide +kernel
theorem d_Mo_run_247 : decode m_Mo_run.2.1 247 = .ok (.aload_n 0, 1) := by decide +kernel
theorem d_Mo_run_248 : decode m_Mo_run.2.1 248 = .ok (.aload_n 0, 1) := by decide +kernel
theorem d_Mo_run_249 : decode m_Mo_run.2.1 249 = .ok (.getfield 46, 3) := by decide +kernel
theorem d_Mo_run_252 : decode m_Mo_run.2.1 252 = .ok (.aload_n 0, 1) := by decide +kernel
theorem d_Mo_run_253 : decode m_Mo_run.2.1 253 = .ok (.getfield 49, 3) := by decide +kernel
theorem d_Mo_run_256 : decode m_Mo_run.2.1 256 = .ok (.aload_n 0, 1) := by decide +kernel
theorem d_Mo_run_257 : decode m_Mo_run.2.1 257 = .ok (.getfield 58, 3) := by decide +kernel
theorem d_Mo_run_260 : decode m_Mo_run.2.1 260 = .ok (.iload 5, 2) := by decide +kernel
theorem d_Mo_run_262 : decode m_Mo_run.2.1 262 = .ok (.iconst 1, 1) := by decide +kernel
theorem d_Mo_run_263 : decode m_Mo_run.2.1 263 = .ok (.isub, 1) := by decide +kernel
theorem d_Mo_run_264 : decode m_Mo_run.2.1 264 = .ok (.iaload, 1) := by decide +kernel
theorem d_Mo_run_265 : decode m_Mo_run.2.1 265 = .ok (.aload_n 0, 1) := by decide +kernel
theorem d_Mo_run_266 : decode m_Mo_run.2.1 266 = .ok (.getfield 46, 3) := by decide +kernel
theorem d_Mo_run_269 : decode m_Mo_run.2.1 269 = .ok (.aload_n 0, 1) := by decide +kernel
theorem d_Mo_run_270 : decode m_Mo_run.2.1 270 = .ok (.getfield 49, 3) := by decide +kernel
theorem d_Mo_run_273 : decode m_Mo_run.2.1 273 = .ok (.iload_n 1, 1) := by decide +kernel
theorem d_Mo_run_274 : decode m_Mo_run.2.1 274 = .ok (.invokevirtual 217, 3) := by decide +kernel
theorem d_Mo_run_277 : decode m_Mo_run.2.1 277 = .ok (.ifCond .le 25, 3) := by decide +kernel
theorem d_Mo_run_280 : decode m_Mo_run.2.1 280 = .ok (.aload_n 0, 1) := by decide +kernel
theorem d_Mo_run_281 : decode m_Mo_run.2.1 281 = .ok (.getfield 58, 3) := by decide +kernel
theorem d_Mo_run_284 : decode m_Mo_run.2.1 284 = .ok (.iload 5, 2) := by decide +kernel
theorem d_Mo_run_286 : decode m_Mo_run.2.1 286 = .ok (.aload_n 0, 1) := by decide +kernel
theorem d_Mo_run_287 : decode m_Mo_run.2.1 287 = .ok (.getfield 58, 3) := by decide +kernel
theorem d_Mo_run_290 : decode m_Mo_run.2.1 290 = .ok (.iload 5, 2) := by decide +kernel
theorem d_Mo_run_292 : decode m_Mo_run.2.1 292 = .ok (.iconst 1, 1) := by decide +kernel
theorem d_Mo_run_293 : decode m_Mo_run.2.1 293 = .ok (.isub, 1) := by decide +kernel
theorem d_Mo_run_294 : decode m_Mo_run.2.1 294 = .ok (.iaload, 1) := by decide +kernel
theorem d_Mo_run_295 : decode m_Mo_run.2.1 295 = .ok (.iastore, 1) := by decide +kernel
theorem d_Mo_run_296 : decode m_Mo_run.2.1 296 = .ok (.iinc 5 (-1), 3) := by decide +kernel
theorem d_Mo_run_299 : decode m_Mo_run.2.1 299 = .ok (.goto (-57), 3) := by decide +kernel
theorem d_Mo_run_302 : decode m_Mo_run.2.1 302 = .ok (.aload_n 0, 1) := by decide +kernel
theorem d_Mo_run_303 : decode m_Mo_run.2.1 303 = .ok (.getfield 58, 3) := by decide +kernel
theorem d_Mo_run_306 : decode m_Mo_run.2.1 306 = .ok (.iload 5, 2) := by decide +kernel
theorem d_Mo_run_308 : decode m_Mo_run.2.1 308 = .ok (.iload_n 1, 1) := by decide +kernel
theorem d_Mo_run_309 : decode m_Mo_run.2.1 309 = .ok (.iastore, 1) := by decide +kernel
theorem d_Mo_run_310 : decode m_Mo_run.2.1 310 = .ok (.iinc 1 1, 3) := by decide +kernel
theorem d_Mo_run_313 : decode m_Mo_run.2.1 313 = .ok (.iinc 3 1, 3) := by decide +kernel
theorem d_Mo_run_316 : decode m_Mo_run.2.1 316 = .ok (.goto (-286), 3) := by decide +kernel
theorem d_Mo_run_319 : decode m_Mo_run.2.1 319 = .ok (.iconst 0, 1) := by decide +kernel
theorem d_Mo_run_320 : decode m_Mo_run.2.1 320 = .ok (.istore_n 3, 1) := by decide +kernel
theorem d_Mo_run_321 : decode m_Mo_run.2.1 321 = .ok (.iconst 0, 1) := by decide +kernel
theorem d_Mo_run_322 : decode m_Mo_run.2.1 322 = .ok (.istore 4, 2) := by decide +kernel
theorem d_Mo_run_324 : decode m_Mo_run.2.1 324 = .ok (.iload 4, 2) := by decide +kernel
theorem d_Mo_run_326 : decode m_Mo_run.2.1 326 = .ok (.iload_n 1, 1) := by decide +kernel
theorem d_Mo_run_327 : decode m_Mo_run.2.1 327 = .ok (.if_icmp .ge 54, 3) := by decide +kernel
theorem d_Mo_run_330 : decode m_Mo_run.2.1 330 = .ok (.iload_n 3, 1) := by decide +kernel
theorem d_Mo_run_331 : decode m_Mo_run.2.1 331 = .ok (.ifCond .le 28, 3) := by decide +kernel
theorem d_Mo_run_334 : decode m_Mo_run.2.1 334 = .ok (.aload_n 0, 1) := by decide +kernel
theorem d_Mo_run_335 : decode m_Mo_run.2.1 335 = .ok (.aload_n 0, 1) := by decide +kernel
theorem d_Mo_run_336 : decode m_Mo_run.2.1 336 = .ok (.getfield 58, 3) := by decide +kernel
theorem d_Mo_run_339 : decode m_Mo_run.2.1 339 = .ok (.iload_n 3, 1) := by decide +kernel
theorem d_Mo_run_340 : decode m_Mo_run.2.1 340 = .ok (.iconst 1, 1) := by decide +kernel
theorem d_Mo_run_341 : decode m_Mo_run.2.1 341 = .ok (.isub, 1) := by decide +kernel
theorem d_Mo_run_342 : decode m_Mo_run.2.1 342 = .ok (.iaload, 1) := by decide +kernel
theorem d_Mo_run_343 : decode m_Mo_run.2.1 343 = .ok (.aload_n 0, 1) := by decide +kernel
theorem d_Mo_run_344 : decode m_Mo_run.2.1 344 = .ok (.getfield 58, 3) := by decide +kernel
theorem d_Mo_run_347 : decode m_Mo_run.2.1 347 = .ok (.iload 4, 2) := by decide +kernel
theorem d_Mo_run_349 : decode m_Mo_run.2.1 349 = .ok (.iaload, 1) := by decide +kernel
theorem d_Mo_run_350 : decode m_Mo_run.2.1 350 = .ok (.invokevirtual 239, 3) := by decide +kernel
theorem d_Mo_run_353 : decode m_Mo_run.2.1 353 = .ok (.ifCond .eq 6, 3) := by decide +kernel
theorem d_Mo_run_356 : decode m_Mo_run.2.1 356 = .ok (.goto 19, 3) := by decide +kernel
theorem d_Mo_run_359 : decode m_Mo_run.2.1 359 = .ok (.aload_n 0, 1) := by decide +kernel
theorem d_Mo_run_360 : decode m_Mo_run.2.1 360 = .ok (.getfield 58, 3) := by decide +kernel
theorem d_Mo_run_363 : decode m_Mo_run.2.1 363 = .ok (.iload_n 3, 1) := by decide +kernel
theorem d_Mo_run_364 : decode m_Mo_run.2.1 364 = .ok (.aload_n 0, 1) := by decide +kernel
theorem d_Mo_run_365 : decode m_Mo_run.2.1 365 = .ok (.getfield 58, 3) := by decide +kernel
theorem d_Mo_run_368 : decode m_Mo_run.2.1 368 = .ok (.iload 4, 2) := by decide +kernel
theorem d_Mo_run_370 : decode m_Mo_run.2.1 370 = .ok (.iaload, 1) := by decide +kernel
theorem d_Mo_run_371 : decode m_Mo_run.2.1 371 = .ok (.iastore, 1) := by decide +kernel
theorem d_Mo_run_372 : decode m_Mo_run.2.1 372 = .ok (.iinc 3 1, 3) := by decide +kernel
theorem d_Mo_run_375 : decode m_Mo_run.2.1 375 = .ok (.iinc 4 1, 3) := by decide +kernel
theorem d_Mo_run_378 : decode m_Mo_run.2.1 378 = .ok (.goto (-54), 3) := by decide +kernel
theorem d_Mo_run_381 : decode m_Mo_run.2.1 381 = .ok (.iconst 0, 1) := by decide +kernel
theorem d_Mo_run_382 : decode m_Mo_run.2.1 382 = .ok (.istore 4, 2) := by decide +kernel
theorem d_Mo_run_384 : decode m_Mo_run.2.1 384 = .ok (.iload 4, 2) := by decide +kernel
theorem d_Mo_run_386 : decode m_Mo_run.2.1 386 = .ok (.iload_n 3, 1) := by decide +kernel
theorem d_Mo_run_387 : decode m_Mo_run.2.1 387 = .ok (.if_icmp .ge 162, 3) := by decide +kernel
theorem d_Mo_run_390 : decode m_Mo_run.2.1 390 = .ok (.aload_n 0, 1) := by decide +kernel
theorem d_Mo_run_391 : decode m_Mo_run.2.1 391 = .ok (.getfield 58, 3) := by decide +kernel
theorem d_Mo_run_394 : decode m_Mo_run.2.1 394 = .ok (.iload 4, 2) := by decide +kernel
theorem d_Mo_run_396 : decode m_Mo_run.2.1 396 = .ok (.iaload, 1) := by decide +kernel
theorem d_Mo_run_397 : decode m_Mo_run.2.1 397 = .ok (.istore 5, 2) := by decide +kernel
theorem d_Mo_run_399 : decode m_Mo_run.2.1 399 = .ok (.aload_n 0, 1) := by decide +kernel
theorem d_Mo_run_400 : decode m_Mo_run.2.1 400 = .ok (.getfield 242, 3) := by decide +kernel
theorem d_Mo_run_403 : decode m_Mo_run.2.1 403 = .ok (.ifCond .eq 22, 3) := by decide +kernel
theorem d_Mo_run_406 : decode m_Mo_run.2.1 406 = .ok (.iload 4, 2) := by decide +kernel
theorem d_Mo_run_408 : decode m_Mo_run.2.1 408 = .ok (.iconst 2, 1) := by decide +kernel
theorem d_Mo_run_409 : decode m_Mo_run.2.1 409 = .ok (.if_icmp .ne 16, 3) := by decide +kernel
theorem d_Mo_run_412 : decode m_Mo_run.2.1 412 = .ok (.aload_n 0, 1) := by decide +kernel
theorem d_Mo_run_413 : decode m_Mo_run.2.1 413 = .ok (.bipush 16, 2) := by decide +kernel
theorem d_Mo_run_415 : decode m_Mo_run.2.1 415 = .ok (.putfield 225, 3) := by decide +kernel
theorem d_Mo_run_418 : decode m_Mo_run.2.1 418 = .ok (.aload_n 0, 1) := by decide +kernel
theorem d_Mo_run_419 : decode m_Mo_run.2.1 419 = .ok (.getfield 68, 3) := by decide +kernel
theorem d_Mo_run_422 : decode m_Mo_run.2.1 422 = .ok (.iconst 0, 1) := by decide +kernel
theorem d_Mo_run_423 : decode m_Mo_run.2.1 423 = .ok (.iaload, 1) := by decide +kernel
theorem d_Mo_run_424 : decode m_Mo_run.2.1 424 = .ok (.ireturn, 1) := by decide +kernel
theorem d_Mo_run_425 : decode m_Mo_run.2.1 425 = .ok (.aload_n 0, 1) := by decide +kernel
theorem d_Mo_run_426 : decode m_Mo_run.2.1 426 = .ok (.getfield 246, 3) := by decide +kernel
theorem d_Mo_run_429 : decode m_Mo_run.2.1 429 = .ok (.iconst 1, 1) := by decide +kernel
theorem d_Mo_run_430 : decode m_Mo_run.2.1 430 = .ok (.if_icmp .ne 26, 3) := by decide +kernel
theorem d_Mo_run_433 : decode m_Mo_run.2.1 433 = .ok (.aload_n 0, 1) := by decide +kernel
theorem d_Mo_run_434 : decode m_Mo_run.2.1 434 = .ok (.getfield 46, 3) := by decide +kernel
theorem d_Mo_run_437 : decode m_Mo_run.2.1 437 = .ok (.aload_n 0, 1) := by decide +kernel
theorem d_Mo_run_438 : decode m_Mo_run.2.1 438 = .ok (.getfield 49, 3) := by decide +kernel
theorem d_Mo_run_441 : decode m_Mo_run.2.1 441 = .ok (.iload 5, 2) := by decide +kernel
theorem d_Mo_run_443 : decode m_Mo_run.2.1 443 = .ok (.iconst 0, 1) := by decide +kernel
theorem d_Mo_run_444 : decode m_Mo_run.2.1 444 = .ok (.invokestatic 194, 3) := by decide +kernel
theorem d_Mo_run_447 : decode m_Mo_run.2.1 447 = .ok (.iconst 2, 1) := by decide +kernel
theorem d_Mo_run_448 : decode m_Mo_run.2.1 448 = .ok (.irem, 1) := by decide +kernel
theorem d_Mo_run_449 : decode m_Mo_run.2.1 449 = .ok (.iconst 1, 1) := by decide +kernel
theorem d_Mo_run_450 : decode m_Mo_run.2.1 450 = .ok (.if_icmp .ne 6, 3) := by decide +kernel
theorem d_Mo_run_453 : decode m_Mo_run.2.1 453 = .ok (.goto 90, 3) := by decide +kernel
theorem d_Mo_run_456 : decode m_Mo_run.2.1 456 = .ok (.iconst 0, 1) := by decide +kernel
theorem d_Mo_run_457 : decode m_Mo_run.2.1 457 = .ok (.istore 6, 2) := by decide +kernel
theorem d_Mo_run_459 : decode m_Mo_run.2.1 459 = .ok (.iload 6, 2) := by decide +kernel
theorem d_Mo_run_461 : decode m_Mo_run.2.1 461 = .ok (.aload_n 0, 1) := by decide +kernel
theorem d_Mo_run_462 : decode m_Mo_run.2.1 462 = .ok (.getfield 49, 3) := by decide +kernel
theorem d_Mo_run_465 : decode m_Mo_run.2.1 465 = .ok (.iload 5, 2) := by decide +kernel
theorem d_Mo_run_467 : decode m_Mo_run.2.1 467 = .ok (.iaload, 1) := by decide +kernel
theorem d_Mo_run_468 : decode m_Mo_run.2.1 468 = .ok (.if_icmp .ge 69, 3) := by decide +kernel
theorem d_Mo_run_471 : decode m_Mo_run.2.1 471 = .ok (.aload_n 0, 1) := by decide +kernel
theorem d_Mo_run_472 : decode m_Mo_run.2.1 472 = .ok (.getfield 246, 3) := by decide +kernel
theorem d_Mo_run_475 : decode m_Mo_run.2.1 475 = .ok (.iconst 2, 1) := by decide +kernel
theorem d_Mo_run_476 : decode m_Mo_run.2.1 476 = .ok (.if_icmp .ne 61, 3) := by decide +kernel
theorem d_Mo_run_479 : decode m_Mo_run.2.1 479 = .ok (.aload_n 0, 1) := by decide +kernel
theorem d_Mo_run_480 : decode m_Mo_run.2.1 480 = .ok (.getfield 46, 3) := by decide +kernel
theorem d_Mo_run_483 : decode m_Mo_run.2.1 483 = .ok (.bipush 100, 2) := by decide +kernel
theorem d_Mo_run_485 : decode m_Mo_run.2.1 485 = .ok (.iload 5, 2) := by decide +kernel
theorem d_Mo_run_487 : decode m_Mo_run.2.1 487 = .ok (.imul, 1) := by decide +kernel
theorem d_Mo_run_488 : decode m_Mo_run.2.1 488 = .ok (.iload 6, 2) := by decide +kernel
theorem d_Mo_run_490 : decode m_Mo_run.2.1 490 = .ok (.iadd, 1) := by decide +kernel
theorem d_Mo_run_491 : decode m_Mo_run.2.1 491 = .ok (.iaload, 1) := by decide +kernel
theorem d_Mo_run_492 : decode m_Mo_run.2.1 492 = .ok (.istore 7, 2) := by decide +kernel
theorem d_Mo_run_494 : decode m_Mo_run.2.1 494 = .ok (.aload_n 0, 1) := by decide +kernel
theorem d_Mo_run_495 : decode m_Mo_run.2.1 495 = .ok (.getfield 46, 3) := by decide +kernel
theorem d_Mo_run_498 : decode m_Mo_run.2.1 498 = .ok (.bipush 100, 2) := by decide +kernel
theorem d_Mo_run_500 : decode m_Mo_run.2.1 500 = .ok (.iload 5, 2) := by decide +kernel
theorem d_Mo_run_502 : decode m_Mo_run.2.1 502 = .ok (.imul, 1) := by decide +kernel
theorem d_Mo_run_503 : decode m_Mo_run.2.1 503 = .ok (.iload 6, 2) := by decide +kernel
theorem d_Mo_run_505 : decode m_Mo_run.2.1 505 = .ok (.iadd, 1) := by decide +kernel
theorem d_Mo_run_506 : decode m_Mo_run.2.1 506 = .ok (.iload 7, 2) := by decide +kernel
theorem d_Mo_run_508 : decode m_Mo_run.2.1 508 = .ok (.bipush 96, 2) := by decide +kernel
theorem d_Mo_run_510 : decode m_Mo_run.2.1 510 = .ok (.if_icmp .le 18, 3) := by decide +kernel
theorem d_Mo_run_513 : decode m_Mo_run.2.1 513 = .ok (.iload 7, 2) := by decide +kernel
theorem d_Mo_run_515 : decode m_Mo_run.2.1 515 = .ok (.bipush 123, 2) := by decide +kernel
theorem d_Mo_run_517 : decode m_Mo_run.2.1 517 = .ok (.if_icmp .ge 11, 3) := by decide +kernel
theorem d_Mo_run_520 : decode m_Mo_run.2.1 520 = .ok (.iload 7, 2) := by decide +kernel
theorem d_Mo_run_522 : decode m_Mo_run.2.1 522 = .ok (.bipush 32, 2) := by decide +kernel
theorem d_Mo_run_524 : decode m_Mo_run.2.1 524 = .ok (.isub, 1) := by decide +kernel
theorem d_Mo_run_525 : decode m_Mo_run.2.1 525 = .ok (.goto 5, 3) := by decide +kernel
theorem d_Mo_run_528 : decode m_Mo_run.2.1 528 = .ok (.iload 7, 2) := by decide +kernel
theorem d_Mo_run_530 : decode m_Mo_run.2.1 530 = .ok (.iastore, 1) := by decide +kernel
theorem d_Mo_run_531 : decode m_Mo_run.2.1 531 = .ok (.iinc 6 1, 3) := by decide +kernel
theorem d_Mo_run_534 : decode m_Mo_run.2.1 534 = .ok (.goto (-75), 3) := by decide +kernel
theorem d_Mo_run_537 : decode m_Mo_run.2.1 537 = .ok (.aload_n 0, 1) := by decide +kernel
theorem d_Mo_run_538 : decode m_Mo_run.2.1 538 = .ok (.iload 5, 2) := by decide +kernel
theorem d_Mo_run_540 : decode m_Mo_run.2.1 540 = .ok (.invokevirtual 249, 3) := by decide +kernel
theorem d_Mo_run_543 : decode m_Mo_run.2.1 543 = .ok (.iinc 4 1, 3) := by decide +kernel
theorem d_Mo_run_546 : decode m_Mo_run.2.1 546 = .ok (.goto (-162), 3) := by decide +kernel
theorem d_Mo_run_549 : decode m_Mo_run.2.1 549 = .ok (.aload_n 0, 1) := by decide +kernel
theorem d_Mo_run_550 : decode m_Mo_run.2.1 550 = .ok (.getfield 68, 3) := by decide +kernel
theorem d_Mo_run_553 : decode m_Mo_run.2.1 553 = .ok (.iconst 0, 1) := by decide +kernel
theorem d_Mo_run_554 : decode m_Mo_run.2.1 554 = .ok (.iaload, 1) := by decide +kernel
theorem d_Mo_run_555 : decode m_Mo_run.2.1 555 = .ok (.ireturn, 1) := by decide +kernel
theorem d_Mo_join_0 : decode m_Mo_join.2.1 0 = .ok (.aload_n 0, 1) := by decide +kernel
theorem d_Mo_join_1 : decode m_Mo_join.2.1 1 = .ok (.iconst 0, 1) := by decide +kernel
theorem d_Mo_join_2 : decode m_Mo_join.2.1 2 = .ok (.putfield 114, 3) := by decide +kernel
theorem d_Mo_join_5 : decode m_Mo_join.2.1 5 = .ok (.aload_n 0, 1) := by decide +kernel
theorem d_Mo_join_6 : decode m_Mo_join.2.1 6 = .ok (.getfield 16, 3) := by decide +kernel
theorem d_Mo_join_9 : decode m_Mo_join.2.1 9 = .ok (.iconst 1, 1) := by decide +kernel
theorem d_Mo_join_10 : decode m_Mo_join.2.1 10 = .ok (.iaload, 1) := by decide +kernel
theorem d_Mo_join_11 : decode m_Mo_join.2.1 11 = .ok (.ifCond .eq 26, 3) := by decide +kernel
theorem d_Mo_join_14 : decode m_Mo_join.2.1 14 = .ok (.iload_n 1, 1) := by decide +kernel
theorem d_Mo_join_15 : decode m_Mo_join.2.1 15 = .ok (.ifCond .lt 22, 3) := by decide +kernel
theorem d_Mo_join_18 : decode m_Mo_join.2.1 18 = .ok (.iload_n 1, 1) := by decide +kernel
theorem d_Mo_join_19 : decode m_Mo_join.2.1 19 = .ok (.iconst 2, 1) := by decide +kernel
theorem d_Mo_join_20 : decode m_Mo_join.2.1 20 = .ok (.if_icmp .gt 17, 3) := by decide +kernel
theorem d_Mo_join_23 : decode m_Mo_join.2.1 23 = .ok (.iload_n 2, 1) := by decide +kernel
theorem d_Mo_join_24 : decode m_Mo_join.2.1 24 = .ok (.ifCond .lt 13, 3) := by decide +kernel
theorem d_Mo_join_27 : decode m_Mo_join.2.1 27 = .ok (.iload_n 2, 1) := by decide +kernel
theorem d_Mo_join_28 : decode m_Mo_join.2.1 28 = .ok (.iconst 2, 1) := by decide +kernel
theorem d_Mo_join_29 : decode m_Mo_join.2.1 29 = .ok (.if_icmp .gt 8, 3) := by decide +kernel
theorem d_Mo_join_32 : decode m_Mo_join.2.1 32 = .ok (.iload_n 1, 1) := by decide +kernel
theorem d_Mo_join_33 : decode m_Mo_join.2.1 33 = .ok (.iload_n 2, 1) := by decide +kernel
theorem d_Mo_join_34 : decode m_Mo_join.2.1 34 = .ok (.if_icmp .ne 5, 3) := by decide +kernel
theorem d_Mo_join_37 : decode m_Mo_join.2.1 37 = .ok (.iconst (-1), 1) := by decide +kernel
theorem d_Mo_join_38 : decode m_Mo_join.2.1 38 = .ok (.ireturn, 1) := by decide +kernel
theorem d_Mo_join_39 : decode m_Mo_join.2.1 39 = .ok (.iconst 0, 1) := by decide +kernel
theorem d_Mo_join_40 : decode m_Mo_join.2.1 40 = .ok (.istore_n 3, 1) := by decide +kernel
theorem d_Mo_join_41 : decode m_Mo_join.2.1 41 = .ok (.iconst 0, 1) := by decide +kernel
theorem d_Mo_join_42 : decode m_Mo_join.2.1 42 = .ok (.istore 4, 2) := by decide +kernel
theorem d_Mo_join_44 : decode m_Mo_join.2.1 44 = .ok (.iload 4, 2) := by decide +kernel
theorem d_Mo_join_46 : decode m_Mo_join.2.1 46 = .ok (.aload_n 0, 1) := by decide +kernel
theorem d_Mo_join_47 : decode m_Mo_join.2.1 47 = .ok (.getfield 191, 3) := by decide +kernel
theorem d_Mo_join_50 : decode m_Mo_join.2.1 50 = .ok (.if_icmp .ge 43, 3) := by decide +kernel
theorem d_Mo_join_53 : decode m_Mo_join.2.1 53 = .ok (.aload_n 0, 1) := by decide +kernel
theorem d_Mo_join_54 : decode m_Mo_join.2.1 54 = .ok (.getfield 43, 3) := by decide +kernel
theorem d_Mo_join_57 : decode m_Mo_join.2.1 57 = .ok (.iload 4, 2) := by decide +kernel
theorem d_Mo_join_59 : decode m_Mo_join.2.1 59 = .ok (.iaload, 1) := by decide +kernel
theorem d_Mo_join_60 : decode m_Mo_join.2.1 60 = .ok (.iload_n 1, 1) := by decide +kernel
theorem d_Mo_join_61 : decode m_Mo_join.2.1 61 = .ok (.if_icmp .ne 24, 3) := by decide +kernel
theorem d_Mo_join_64 : decode m_Mo_join.2.1 64 = .ok (.aload_n 0, 1) := by decide +kernel
theorem d_Mo_join_65 : decode m_Mo_join.2.1 65 = .ok (.getfield 40, 3) := by decide +kernel
theorem d_Mo_join_68 : decode m_Mo_join.2.1 68 = .ok (.iload 4, 2) := by decide +kernel
theorem d_Mo_join_70 : decode m_Mo_join.2.1 70 = .ok (.iaload, 1) := by decide +kernel
theorem d_Mo_join_71 : decode m_Mo_join.2.1 71 = .ok (.iload_n 3, 1) := by decide +kernel
theorem d_Mo_join_72 : decode m_Mo_join.2.1 72 = .ok (.if_icmp .le 13, 3) := by decide +kernel
theorem d_Mo_join_75 : decode m_Mo_join.2.1 75 = .ok (.aload_n 0, 1) := by decide +kernel
theorem d_Mo_join_76 : decode m_Mo_join.2.1 76 = .ok (.getfield 40, 3) := by decide +kernel
theorem d_Mo_join_79 : decode m_Mo_join.2.1 79 = .ok (.iload 4, 2) := by decide +kernel
theorem d_Mo_join_81 : decode m_Mo_join.2.1 81 = .ok (.iaload, 1) := by decide +kernel
theorem d_Mo_join_82 : decode m_Mo_join.2.1 82 = .ok (.goto 4, 3) := by decide +kernel
theorem d_Mo_join_85 : decode m_Mo_join.2.1 85 = .ok (.iload_n 3, 1) := by decide +kernel
theorem d_Mo_join_86 : decode m_Mo_join.2.1 86 = .ok (.istore_n 3, 1) := by decide +kernel
theorem d_Mo_join_87 : decode m_Mo_join.2.1 87 = .ok (.iinc 4 1, 3) := by decide +kernel
theorem d_Mo_join_90 : decode m_Mo_join.2.1 90 = .ok (.goto (-46), 3) := by decide +kernel
theorem d_Mo_join_93 : decode m_Mo_join.2.1 93 = .ok (.aload_n 0, 1) := by decide +kernel
theorem d_Mo_join_94 : decode m_Mo_join.2.1 94 = .ok (.getfield 68, 3) := by decide +kernel
theorem d_Mo_join_97 : decode m_Mo_join.2.1 97 = .ok (.iconst 2, 1) := by decide +kernel
theorem d_Mo_join_98 : decode m_Mo_join.2.1 98 = .ok (.iconst 0, 1) := by decide +kernel
theorem d_Mo_join_99 : decode m_Mo_join.2.1 99 = .ok (.iastore, 1) := by decide +kernel
theorem d_Mo_join_100 : decode m_Mo_join.2.1 100 = .ok (.aload_n 0, 1) := by decide +kernel
theorem d_Mo_join_101 : decode m_Mo_join.2.1 101 = .ok (.iconst 0, 1) := by decide +kernel
theorem d_Mo_join_102 : decode m_Mo_join.2.1 102 = .ok (.putfield 252, 3) := by decide +kernel
theorem d_Mo_join_105 : decode m_Mo_join.2.1 105 = .ok (.iconst 0, 1) := by decide +kernel
theorem d_Mo_join_106 : decode m_Mo_join.2.1 106 = .ok (.istore 4, 2) := by decide +kernel
theorem d_Mo_join_108 : decode m_Mo_join.2.1 108 = .ok (.iload 4, 2) := by decide +kernel
theorem d_Mo_join_110 : decode m_Mo_join.2.1 110 = .ok (.aload_n 0, 1) := by decide +kernel
theorem d_Mo_join_111 : decode m_Mo_join.2.1 111 = .ok (.getfield 191, 3) := by decide +kernel
theorem d_Mo_join_114 : decode m_Mo_join.2.1 114 = .ok (.if_icmp .ge 222, 3) := by decide +kernel
theorem d_Mo_join_117 : decode m_Mo_join.2.1 117 = .ok (.aload_n 0, 1) := by decide +kernel
theorem d_Mo_join_118 : decode m_Mo_join.2.1 118 = .ok (.getfield 43, 3) := by decide +kernel
theorem d_Mo_join_121 : decode m_Mo_join.2.1 121 = .ok (.iload 4, 2) := by decide +kernel
theorem d_Mo_join_123 : decode m_Mo_join.2.1 123 = .ok (.iaload, 1) := by decide +kernel
theorem d_Mo_join_124 : decode m_Mo_join.2.1 124 = .ok (.iload_n 1, 1) := by decide +kernel
theorem d_Mo_join_125 : decode m_Mo_join.2.1 125 = .ok (.if_icmp .eq 6, 3) := by decide +kernel
theorem d_Mo_join_128 : decode m_Mo_join.2.1 128 = .ok (.goto 202, 3) := by decide +kernel
theorem d_Mo_join_131 : decode m_Mo_join.2.1 131 = .ok (.iconst 1, 1) := by decide +kernel
theorem d_Mo_join_132 : decode m_Mo_join.2.1 132 = .ok (.istore 5, 2) := by decide +kernel
theorem d_Mo_join_134 : decode m_Mo_join.2.1 134 = .ok (.iconst 0, 1) := by decide +kernel
theorem d_Mo_join_135 : decode m_Mo_join.2.1 135 = .ok (.istore 6, 2) := by decide +kernel
theorem d_Mo_join_137 : decode m_Mo_join.2.1 137 = .ok (.iload 6, 2) := by decide +kernel
theorem d_Mo_join_139 : decode m_Mo_join.2.1 139 = .ok (.aload_n 0, 1) := by decide +kernel
theorem d_Mo_join_140 : decode m_Mo_join.2.1 140 = .ok (.getfield 191, 3) := by decide +kernel
theorem d_Mo_join_143 : decode m_Mo_join.2.1 143 = .ok (.if_icmp .ge 158, 3) := by decide +kernel
theorem d_Mo_join_146 : decode m_Mo_join.2.1 146 = .ok (.aload_n 0, 1) := by decide +kernel
theorem d_Mo_join_147 : decode m_Mo_join.2.1 147 = .ok (.getfield 43, 3) := by decide +kernel
theorem d_Mo_join_150 : decode m_Mo_join.2.1 150 = .ok (.iload 6, 2) := by decide +kernel
theorem d_Mo_join_152 : decode m_Mo_join.2.1 152 = .ok (.iaload, 1) := by decide +kernel
theorem d_Mo_join_153 : decode m_Mo_join.2.1 153 = .ok (.iload_n 2, 1) := by decide +kernel
theorem d_Mo_join_154 : decode m_Mo_join.2.1 154 = .ok (.if_icmp .ne 141, 3) := by decide +kernel
theorem d_Mo_join_157 : decode m_Mo_join.2.1 157 = .ok (.aload_n 0, 1) := by decide +kernel
theorem d_Mo_join_158 : decode m_Mo_join.2.1 158 = .ok (.iconst 0, 1) := by decide +kernel
theorem d_Mo_join_159 : decode m_Mo_join.2.1 159 = .ok (.aload_n 0, 1) := by decide +kernel
theorem d_Mo_join_160 : decode m_Mo_join.2.1 160 = .ok (.getfield 37, 3) := by decide +kernel
theorem d_Mo_join_163 : decode m_Mo_join.2.1 163 = .ok (.aload_n 0, 1) := by decide +kernel
theorem d_Mo_join_164 : decode m_Mo_join.2.1 164 = .ok (.getfield 40, 3) := by decide +kernel
theorem d_Mo_join_167 : decode m_Mo_join.2.1 167 = .ok (.iload 4, 2) := by decide +kernel
theorem d_Mo_join_169 : decode m_Mo_join.2.1 169 = .ok (.aload_n 0, 1) := by decide +kernel
theorem d_Mo_join_170 : decode m_Mo_join.2.1 170 = .ok (.getfield 37, 3) := by decide +kernel
theorem d_Mo_join_173 : decode m_Mo_join.2.1 173 = .ok (.aload_n 0, 1) := by decide +kernel
theorem d_Mo_join_174 : decode m_Mo_join.2.1 174 = .ok (.getfield 40, 3) := by decide +kernel
theorem d_Mo_join_177 : decode m_Mo_join.2.1 177 = .ok (.iload 6, 2) := by decide +kernel
theorem d_Mo_join_179 : decode m_Mo_join.2.1 179 = .ok (.invokevirtual 203, 3) := by decide +kernel
theorem d_Mo_join_182 : decode m_Mo_join.2.1 182 = .ok (.ifCond .eq 6, 3) := by decide +kernel
theorem d_Mo_join_185 : decode m_Mo_join.2.1 185 = .ok (.goto 110, 3) := by decide +kernel
theorem d_Mo_join_188 : decode m_Mo_join.2.1 188 = .ok (.iconst 0, 1) := by decide +kernel
theorem d_Mo_join_189 : decode m_Mo_join.2.1 189 = .ok (.istore 5, 2) := by decide +kernel
theorem d_Mo_join_191 : decode m_Mo_join.2.1 191 = .ok (.aload_n 0, 1) := by decide +kernel
theorem d_Mo_join_192 : decode m_Mo_join.2.1 192 = .ok (.getfield 68, 3) := by decide +kernel
theorem d_Mo_join_195 : decode m_Mo_join.2.1 195 = .ok (.iconst 2, 1) := by decide +kernel
theorem d_Mo_join_196 : decode m_Mo_join.2.1 196 = .ok (.iaload, 1) := by decide +kernel
theorem d_Mo_join_197 : decode m_Mo_join.2.1 197 = .ok (.sipush 150, 3) := by decide +kernel
theorem d_Mo_join_200 : decode m_Mo_join.2.1 200 = .ok (.if_icmp .ne 6, 3) := by decide +kernel
theorem d_Mo_join_203 : decode m_Mo_join.2.1 203 = .ok (.goto 92, 3) := by decide +kernel
theorem d_Mo_join_206 : decode m_Mo_join.2.1 206 = .ok (.aload_n 0, 1) := by decide +kernel
theorem d_Mo_join_207 : decode m_Mo_join.2.1 207 = .ok (.iconst 2, 1) := by decide +kernel
theorem d_Mo_join_208 : decode m_Mo_join.2.1 208 = .ok (.invokevirtual 228, 3) := by decide +kernel
theorem d_Mo_join_211 : decode m_Mo_join.2.1 211 = .ok (.iconst 0, 1) := by decide +kernel
theorem d_Mo_join_212 : decode m_Mo_join.2.1 212 = .ok (.istore 7, 2) := by decide +kernel
theorem d_Mo_join_214 : decode m_Mo_join.2.1 214 = .ok (.iload 7, 2) := by decide +kernel
theorem d_Mo_join_216 : decode m_Mo_join.2.1 216 = .ok (.iload_n 3, 1) := by decide +kernel
theorem d_Mo_join_217 : decode m_Mo_join.2.1 217 = .ok (.if_icmp .ge 29, 3) := by decide +kernel
theorem d_Mo_join_220 : decode m_Mo_join.2.1 220 = .ok (.aload_n 0, 1) := by decide +kernel
theorem d_Mo_join_221 : decode m_Mo_join.2.1 221 = .ok (.iconst 2, 1) := by decide +kernel
theorem d_Mo_join_222 : decode m_Mo_join.2.1 222 = .ok (.aload_n 0, 1) := by decide +kernel
theorem d_Mo_join_223 : decode m_Mo_join.2.1 223 = .ok (.getfield 37, 3) := by decide +kernel
theorem d_Mo_join_226 : decode m_Mo_join.2.1 226 = .ok (.aload_n 0, 1) := by decide +kernel
theorem d_Mo_join_227 : decode m_Mo_join.2.1 227 = .ok (.getfield 40, 3) := by decide +kernel
theorem d_Mo_join_230 : decode m_Mo_join.2.1 230 = .ok (.iload 4, 2) := by decide +kernel
theorem d_Mo_join_232 : decode m_Mo_join.2.1 232 = .ok (.iload 7, 2) := by decide +kernel
theorem d_Mo_join_234 : decode m_Mo_join.2.1 234 = .ok (.invokestatic 194, 3) := by decide +kernel
theorem d_Mo_join_237 : decode m_Mo_join.2.1 237 = .ok (.invokevirtual 232, 3) := by decide +kernel
theorem d_Mo_join_240 : decode m_Mo_join.2.1 240 = .ok (.iinc 7 1, 3) := by decide +kernel
theorem d_Mo_join_243 : decode m_Mo_join.2.1 243 = .ok (.goto (-29), 3) := by decide +kernel
theorem d_Mo_join_246 : decode m_Mo_join.2.1 246 = .ok (.iconst 0, 1) := by decide +kernel
theorem d_Mo_join_247 : decode m_Mo_join.2.1 247 = .ok (.istore 7, 2) := by decide +kernel
theorem d_Mo_join_249 : decode m_Mo_join.2.1 249 = .ok (.iload 7, 2) := by decide +kernel
theorem d_Mo_join_251 : decode m_Mo_join.2.1 251 = .ok (.aload_n 0, 1) := by decide +kernel
theorem d_Mo_join_252 : decode m_Mo_join.2.1 252 = .ok (.getfield 40, 3) := by decide +kernel
theorem d_Mo_join_255 : decode m_Mo_join.2.1 255 = .ok (.iload 6, 2) := by decide +kernel
theorem d_Mo_join_257 : decode m_Mo_join.2.1 257 = .ok (.iaload, 1) := by decide +kernel
theorem d_Mo_join_258 : decode m_Mo_join.2.1 258 = .ok (.if_icmp .ge 27, 3) := by decide +kernel
theorem d_Mo_join_261 : decode m_Mo_join.2.1 261 = .ok (.aload_n 0, 1) := by decide +kernel
theorem d_Mo_join_262 : decode m_Mo_join.2.1 262 = .ok (.iconst 2, 1) := by decide +kernel
theorem d_Mo_join_263 : decode m_Mo_join.2.1 263 = .ok (.aload_n 0, 1) := by decide +kernel
theorem d_Mo_join_264 : decode m_Mo_join.2.1 264 = .ok (.getfield 37, 3) := by decide +kernel
theorem d_Mo_join_267 : decode m_Mo_join.2.1 267 = .ok (.bipush 100, 2) := by decide +kernel
theorem d_Mo_join_269 : decode m_Mo_join.2.1 269 = .ok (.iload 6, 2) := by decide +kernel
theorem d_Mo_join_271 : decode m_Mo_join.2.1 271 = .ok (.imul, 1) := by decide +kernel
theorem d_Mo_join_272 : decode m_Mo_join.2.1 272 = .ok (.iload 7, 2) := by decide +kernel
theorem d_Mo_join_274 : decode m_Mo_join.2.1 274 = .ok (.iadd, 1) := by decide +kernel
theorem d_Mo_join_275 : decode m_Mo_join.2.1 275 = .ok (.iaload, 1) := by decide +kernel
theorem d_Mo_join_276 : decode m_Mo_join.2.1 276 = .ok (.invokevirtual 232, 3) := by decide +kernel
theorem d_Mo_join_279 : decode m_Mo_join.2.1 279 = .ok (.iinc 7 1, 3) := by decide +kernel
theorem d_Mo_join_282 : decode m_Mo_join.2.1 282 = .ok (.goto (-33), 3) := by decide +kernel
theorem d_Mo_join_285 : decode m_Mo_join.2.1 285 = .ok (.aload_n 0, 1) := by decide +kernel
theorem d_Mo_join_286 : decode m_Mo_join.2.1 286 = .ok (.getfield 68, 3) := by decide +kernel
theorem d_Mo_join_289 : decode m_Mo_join.2.1 289 = .ok (.iconst 2, 1) := by decide +kernel
theorem d_Mo_join_290 : decode m_Mo_join.2.1 290 = .ok (.dup2, 1) := by decide +kernel
theorem d_Mo_join_291 : decode m_Mo_join.2.1 291 = .ok (.iaload, 1) := by decide +kernel
theorem d_Mo_join_292 : decode m_Mo_join.2.1 292 = .ok (.iconst 1, 1) := by decide +kernel
theorem d_Mo_join_293 : decode m_Mo_join.2.1 293 = .ok (.iadd, 1) := by decide +kernel
theorem d_Mo_join_294 : decode m_Mo_join.2.1 294 = .ok (.iastore, 1) := by decide +kernel
theorem d_Mo_join_295 : decode m_Mo_join.2.1 295 = .ok (.iinc 6 1, 3) := by decide +kernel
theorem d_Mo_join_298 : decode m_Mo_join.2.1 298 = .ok (.goto (-161), 3) := by decide +kernel
theorem d_Mo_join_301 : decode m_Mo_join.2.1 301 = .ok (.iload 5, 2) := by decide +kernel
theorem d_Mo_join_303 : decode m_Mo_join.2.1 303 = .ok (.ifCond .ne 6, 3) := by decide +kernel
theorem d_Mo_join_306 : decode m_Mo_join.2.1 306 = .ok (.goto 24, 3) := by decide +kernel
theorem d_Mo_join_309 : decode m_Mo_join.2.1 309 = .ok (.aload_n 0, 1) := by decide +kernel
theorem d_Mo_join_310 : decode m_Mo_join.2.1 310 = .ok (.getfield 77, 3) := by decide +kernel
theorem d_Mo_join_313 : decode m_Mo_join.2.1 313 = .ok (.aload_n 0, 1) := by decide +kernel
theorem d_Mo_join_314 : decode m_Mo_join.2.1 314 = .ok (.getfield 252, 3) := by decide +kernel
theorem d_Mo_join_317 : decode m_Mo_join.2.1 317 = .ok (.iload 4, 2) := by decide +kernel
theorem d_Mo_join_319 : decode m_Mo_join.2.1 319 = .ok (.iastore, 1) := by decide +kernel
theorem d_Mo_join_320 : decode m_Mo_join.2.1 320 = .ok (.aload_n 0, 1) := by decide +kernel
theorem d_Mo_join_321 : decode m_Mo_join.2.1 321 = .ok (.dup, 1) := by decide +kernel
theorem d_Mo_join_322 : decode m_Mo_join.2.1 322 = .ok (.getfield 252, 3) := by decide +kernel
theorem d_Mo_join_325 : decode m_Mo_join.2.1 325 = .ok (.iconst 1, 1) := by decide +kernel
theorem d_Mo_join_326 : decode m_Mo_join.2.1 326 = .ok (.iadd, 1) := by decide +kernel
theorem d_Mo_join_327 : decode m_Mo_join.2.1 327 = .ok (.putfield 252, 3) := by decide +kernel
theorem d_Mo_join_330 : decode m_Mo_join.2.1 330 = .ok (.iinc 4 1, 3) := by decide +kernel
theorem d_Mo_join_333 : decode m_Mo_join.2.1 333 = .ok (.goto (-225), 3) := by decide +kernel
theorem d_Mo_join_336 : decode m_Mo_join.2.1 336 = .ok (.aload_n 0, 1) := by decide +kernel
theorem d_Mo_join_337 : decode m_Mo_join.2.1 337 = .ok (.getfield 68, 3) := by decide +kernel
theorem d_Mo_join_340 : decode m_Mo_join.2.1 340 = .ok (.iconst 2, 1) := by decide +kernel
theorem d_Mo_join_341 : decode m_Mo_join.2.1 341 = .ok (.iaload, 1) := by decide +kernel
theorem d_Mo_join_342 : decode m_Mo_join.2.1 342 = .ok (.ireturn, 1) := by decide +kernel
theorem d_Mo_isOut_0 : decode m_Mo_isOut.2.1 0 = .ok (.iload_n 1, 1) := by decide +kernel
theorem d_Mo_isOut_1 : decode m_Mo_isOut.2.1 1 = .ok (.ifCond .lt 26, 3) := by decide +kernel
theorem d_Mo_isOut_4 : decode m_Mo_isOut.2.1 4 = .ok (.iload_n 1, 1) := by decide +kernel
theorem d_Mo_isOut_5 : decode m_Mo_isOut.2.1 5 = .ok (.iconst 3, 1) := by decide +kernel
theorem d_Mo_isOut_6 : decode m_Mo_isOut.2.1 6 = .ok (.if_icmp .ge 21, 3) := by decide +kernel
theorem d_Mo_isOut_9 : decode m_Mo_isOut.2.1 9 = .ok (.iload_n 2, 1) := by decide +kernel
theorem d_Mo_isOut_10 : decode m_Mo_isOut.2.1 10 = .ok (.ifCond .lt 17, 3) := by decide +kernel
theorem d_Mo_isOut_13 : decode m_Mo_isOut.2.1 13 = .ok (.iload_n 2, 1) := by decide +kernel
theorem d_Mo_isOut_14 : decode m_Mo_isOut.2.1 14 = .ok (.aload_n 0, 1) := by decide +kernel
theorem d_Mo_isOut_15 : decode m_Mo_isOut.2.1 15 = .ok (.getfield 68, 3) := by decide +kernel
theorem d_Mo_isOut_18 : decode m_Mo_isOut.2.1 18 = .ok (.iload_n 1, 1) := by decide +kernel
theorem d_Mo_isOut_19 : decode m_Mo_isOut.2.1 19 = .ok (.iaload, 1) := by decide +kernel
theorem d_Mo_isOut_20 : decode m_Mo_isOut.2.1 20 = .ok (.if_icmp .ge 7, 3) := by decide +kernel
theorem d_Mo_isOut_23 : decode m_Mo_isOut.2.1 23 = .ok (.iconst 1, 1) := by decide +kernel
theorem d_Mo_isOut_24 : decode m_Mo_isOut.2.1 24 = .ok (.goto 4, 3) := by decide +kernel
theorem d_Mo_isOut_27 : decode m_Mo_isOut.2.1 27 = .ok (.iconst 0, 1) := by decide +kernel
theorem d_Mo_isOut_28 : decode m_Mo_isOut.2.1 28 = .ok (.ireturn, 1) := by decide +kernel
theorem d_Mo_out_0 : decode m_Mo_out.2.1 0 = .ok (.aload_n 0, 1) := by decide +kernel
theorem d_Mo_out_1 : decode m_Mo_out.2.1 1 = .ok (.iconst 0, 1) := by decide +kernel
theorem d_Mo_out_2 : decode m_Mo_out.2.1 2 = .ok (.putfield 114, 3) := by decide +kernel
theorem d_Mo_out_5 : decode m_Mo_out.2.1 5 = .ok (.aload_n 0, 1) := by decide +kernel
theorem d_Mo_out_6 : decode m_Mo_out.2.1 6 = .ok (.iload_n 1, 1) := by decide +kernel
theorem d_Mo_out_7 : decode m_Mo_out.2.1 7 = .ok (.iload_n 2, 1) := by decide +kernel
theorem d_Mo_out_8 : decode m_Mo_out.2.1 8 = .ok (.invokevirtual 255, 3) := by decide +kernel
theorem d_Mo_out_11 : decode m_Mo_out.2.1 11 = .ok (.ifCond .eq 23, 3) := by decide +kernel
theorem d_Mo_out_14 : decode m_Mo_out.2.1 14 = .ok (.iload_n 3, 1) := by decide +kernel
theorem d_Mo_out_15 : decode m_Mo_out.2.1 15 = .ok (.ifCond .lt 19, 3) := by decide +kernel
theorem d_Mo_out_18 : decode m_Mo_out.2.1 18 = .ok (.iload_n 3, 1) := by decide +kernel
theorem d_Mo_out_19 : decode m_Mo_out.2.1 19 = .ok (.aload_n 0, 1) := by decide +kernel
theorem d_Mo_out_20 : decode m_Mo_out.2.1 20 = .ok (.getfield 65, 3) := by decide +kernel
theorem d_Mo_out_23 : decode m_Mo_out.2.1 23 = .ok (.sipush 150, 3) := by decide +kernel
theorem d_Mo_out_26 : decode m_Mo_out.2.1 26 = .ok (.iload_n 1, 1) := by decide +kernel
theorem d_Mo_out_27 : decode m_Mo_out.2.1 27 = .ok (.imul, 1) := by decide +kernel
theorem d_Mo_out_28 : decode m_Mo_out.2.1 28 = .ok (.iload_n 2, 1) := by decide +kernel
theorem d_Mo_out_29 : decode m_Mo_out.2.1 29 = .ok (.iadd, 1) := by decide +kernel
theorem d_Mo_out_30 : decode m_Mo_out.2.1 30 = .ok (.iaload, 1) := by decide +kernel
theorem d_Mo_out_31 : decode m_Mo_out.2.1 31 = .ok (.if_icmp .lt 5, 3) := by decide +kernel
theorem d_Mo_out_34 : decode m_Mo_out.2.1 34 = .ok (.iconst (-1), 1) := by decide +kernel
theorem d_Mo_out_35 : decode m_Mo_out.2.1 35 = .ok (.ireturn, 1) := by decide +kernel
theorem d_Mo_out_36 : decode m_Mo_out.2.1 36 = .ok (.aload_n 0, 1) := by decide +kernel
theorem d_Mo_out_37 : decode m_Mo_out.2.1 37 = .ok (.getfield 62, 3) := by decide +kernel
theorem d_Mo_out_40 : decode m_Mo_out.2.1 40 = .ok (.sipush 15000, 3) := by decide +kernel
theorem d_Mo_out_43 : decode m_Mo_out.2.1 43 = .ok (.iload_n 1, 1) := by decide +kernel
theorem d_Mo_out_44 : decode m_Mo_out.2.1 44 = .ok (.imul, 1) := by decide +kernel
theorem d_Mo_out_45 : decode m_Mo_out.2.1 45 = .ok (.bipush 100, 2) := by decide +kernel
theorem d_Mo_out_47 : decode m_Mo_out.2.1 47 = .ok (.iload_n 2, 1) := by decide +kernel
theorem d_Mo_out_48 : decode m_Mo_out.2.1 48 = .ok (.imul, 1) := by decide +kernel
theorem d_Mo_out_49 : decode m_Mo_out.2.1 49 = .ok (.iadd, 1) := by decide +kernel
theorem d_Mo_out_50 : decode m_Mo_out.2.1 50 = .ok (.iload_n 3, 1) := by decide +kernel
theorem d_Mo_out_51 : decode m_Mo_out.2.1 51 = .ok (.iadd, 1) := by decide +kernel
theorem d_Mo_out_52 : decode m_Mo_out.2.1 52 = .ok (.iaload, 1) := by decide +kernel
theorem d_Mo_out_53 : decode m_Mo_out.2.1 53 = .ok (.ireturn, 1) := by decide +kernel
theorem d_Mo_sum_0 : decode m_Mo_sum.2.1 0 = .ok (.aload_n 0, 1) := by decide +kernel
theorem d_Mo_sum_1 : decode m_Mo_sum.2.1 1 = .ok (.iconst 0, 1) := by decide +kernel
theorem d_Mo_sum_2 : decode m_Mo_sum.2.1 2 = .ok (.putfield 114, 3) := by decide +kernel
theorem d_Mo_sum_5 : decode m_Mo_sum.2.1 5 = .ok (.aload_n 0, 1) := by decide +kernel
theorem d_Mo_sum_6 : decode m_Mo_sum.2.1 6 = .ok (.iconst 0, 1) := by decide +kernel
theorem d_Mo_sum_7 : decode m_Mo_sum.2.1 7 = .ok (.iload_n 1, 1) := by decide +kernel
theorem d_Mo_sum_8 : decode m_Mo_sum.2.1 8 = .ok (.invokevirtual 255, 3) := by decide +kernel
theorem d_Mo_sum_11 : decode m_Mo_sum.2.1 11 = .ok (.ifCond .eq 12, 3) := by decide +kernel
theorem d_Mo_sum_14 : decode m_Mo_sum.2.1 14 = .ok (.iload_n 2, 1) := by decide +kernel
theorem d_Mo_sum_15 : decode m_Mo_sum.2.1 15 = .ok (.ifCond .lt 8, 3) := by decide +kernel
theorem d_Mo_sum_18 : decode m_Mo_sum.2.1 18 = .ok (.iload_n 2, 1) := by decide +kernel
theorem d_Mo_sum_19 : decode m_Mo_sum.2.1 19 = .ok (.iconst 2, 1) := by decide +kernel
theorem d_Mo_sum_20 : decode m_Mo_sum.2.1 20 = .ok (.if_icmp .le 5, 3) := by decide +kernel
theorem d_Mo_sum_23 : decode m_Mo_sum.2.1 23 = .ok (.iconst (-1), 1) := by decide +kernel
theorem d_Mo_sum_24 : decode m_Mo_sum.2.1 24 = .ok (.ireturn, 1) := by decide +kernel
theorem d_Mo_sum_25 : decode m_Mo_sum.2.1 25 = .ok (.iload_n 2, 1) := by decide +kernel
theorem d_Mo_sum_26 : decode m_Mo_sum.2.1 26 = .ok (.ifCond .ne 12, 3) := by decide +kernel
theorem d_Mo_sum_29 : decode m_Mo_sum.2.1 29 = .ok (.aload_n 0, 1) := by decide +kernel
theorem d_Mo_sum_30 : decode m_Mo_sum.2.1 30 = .ok (.getfield 71, 3) := by decide +kernel
theorem d_Mo_sum_33 : decode m_Mo_sum.2.1 33 = .ok (.iload_n 1, 1) := by decide +kernel
theorem d_Mo_sum_34 : decode m_Mo_sum.2.1 34 = .ok (.iaload, 1) := by decide +kernel
theorem d_Mo_sum_35 : decode m_Mo_sum.2.1 35 = .ok (.goto 23, 3) := by decide +kernel
theorem d_Mo_sum_38 : decode m_Mo_sum.2.1 38 = .ok (.iload_n 2, 1) := by decide +kernel
theorem d_Mo_sum_39 : decode m_Mo_sum.2.1 39 = .ok (.iconst 1, 1) := by decide +kernel
theorem d_Mo_sum_40 : decode m_Mo_sum.2.1 40 = .ok (.if_icmp .ne 12, 3) := by decide +kernel
theorem d_Mo_sum_43 : decode m_Mo_sum.2.1 43 = .ok (.aload_n 0, 1) := by decide +kernel
theorem d_Mo_sum_44 : decode m_Mo_sum.2.1 44 = .ok (.getfield 65, 3) := by decide +kernel
theorem d_Mo_sum_47 : decode m_Mo_sum.2.1 47 = .ok (.iload_n 1, 1) := by decide +kernel
theorem d_Mo_sum_48 : decode m_Mo_sum.2.1 48 = .ok (.iaload, 1) := by decide +kernel
theorem d_Mo_sum_49 : decode m_Mo_sum.2.1 49 = .ok (.goto 9, 3) := by decide +kernel
theorem d_Mo_sum_52 : decode m_Mo_sum.2.1 52 = .ok (.aload_n 0, 1) := by decide +kernel
theorem d_Mo_sum_53 : decode m_Mo_sum.2.1 53 = .ok (.getfield 74, 3) := by decide +kernel
theorem d_Mo_sum_56 : decode m_Mo_sum.2.1 56 = .ok (.iload_n 1, 1) := by decide +kernel
theorem d_Mo_sum_57 : decode m_Mo_sum.2.1 57 = .ok (.iaload, 1) := by decide +kernel
theorem d_Mo_sum_58 : decode m_Mo_sum.2.1 58 = .ok (.ireturn, 1) := by decide +kernel
theorem d_Mo_left_0 : decode m_Mo_left.2.1 0 = .ok (.aload_n 0, 1) := by decide +kernel
theorem d_Mo_left_1 : decode m_Mo_left.2.1 1 = .ok (.iconst 0, 1) := by decide +kernel
theorem d_Mo_left_2 : decode m_Mo_left.2.1 2 = .ok (.putfield 114, 3) := by decide +kernel
theorem d_Mo_left_5 : decode m_Mo_left.2.1 5 = .ok (.iload_n 1, 1) := by decide +kernel
theorem d_Mo_left_6 : decode m_Mo_left.2.1 6 = .ok (.ifCond .lt 20, 3) := by decide +kernel
theorem d_Mo_left_9 : decode m_Mo_left.2.1 9 = .ok (.iload_n 1, 1) := by decide +kernel
theorem d_Mo_left_10 : decode m_Mo_left.2.1 10 = .ok (.aload_n 0, 1) := by decide +kernel
theorem d_Mo_left_11 : decode m_Mo_left.2.1 11 = .ok (.getfield 252, 3) := by decide +kernel
theorem d_Mo_left_14 : decode m_Mo_left.2.1 14 = .ok (.if_icmp .ge 12, 3) := by decide +kernel
theorem d_Mo_left_17 : decode m_Mo_left.2.1 17 = .ok (.aload_n 0, 1) := by decide +kernel
theorem d_Mo_left_18 : decode m_Mo_left.2.1 18 = .ok (.getfield 77, 3) := by decide +kernel
theorem d_Mo_left_21 : decode m_Mo_left.2.1 21 = .ok (.iload_n 1, 1) := by decide +kernel
theorem d_Mo_left_22 : decode m_Mo_left.2.1 22 = .ok (.iaload, 1) := by decide +kernel
theorem d_Mo_left_23 : decode m_Mo_left.2.1 23 = .ok (.goto 4, 3) := by decide +kernel
theorem d_Mo_left_26 : decode m_Mo_left.2.1 26 = .ok (.iconst (-1), 1) := by decide +kernel
theorem d_Mo_left_27 : decode m_Mo_left.2.1 27 = .ok (.ireturn, 1) := by decide +kernel
theorem d_Mo_code_0 : decode m_Mo_code.2.1 0 = .ok (.aload_n 0, 1) := by decide +kernel
theorem d_Mo_code_1 : decode m_Mo_code.2.1 1 = .ok (.iconst 0, 1) := by decide +kernel
theorem d_Mo_code_2 : decode m_Mo_code.2.1 2 = .ok (.putfield 114, 3) := by decide +kernel
theorem d_Mo_code_5 : decode m_Mo_code.2.1 5 = .ok (.aload_n 0, 1) := by decide +kernel
theorem d_Mo_code_6 : decode m_Mo_code.2.1 6 = .ok (.getfield 225, 3) := by decide +kernel
theorem d_Mo_code_9 : decode m_Mo_code.2.1 9 = .ok (.ireturn, 1) := by decide +kernel
theorem d_Mo_exit_0 : decode m_Mo_exit.2.1 0 = .ok (.aload_n 0, 1) := by decide +kernel
theorem d_Mo_exit_1 : decode m_Mo_exit.2.1 1 = .ok (.iconst 0, 1) := by decide +kernel
theorem d_Mo_exit_2 : decode m_Mo_exit.2.1 2 = .ok (.putfield 114, 3) := by decide +kernel
theorem d_Mo_exit_5 : decode m_Mo_exit.2.1 5 = .ok (.iload_n 1, 1) := by decide +kernel
theorem d_Mo_exit_6 : decode m_Mo_exit.2.1 6 = .ok (.ifCond .lt 8, 3) := by decide +kernel
theorem d_Mo_exit_9 : decode m_Mo_exit.2.1 9 = .ok (.iload_n 1, 1) := by decide +kernel
theorem d_Mo_exit_10 : decode m_Mo_exit.2.1 10 = .ok (.iconst 2, 1) := by decide +kernel
theorem d_Mo_exit_11 : decode m_Mo_exit.2.1 11 = .ok (.if_icmp .le 5, 3) := by decide +kernel
theorem d_Mo_exit_14 : decode m_Mo_exit.2.1 14 = .ok (.iconst (-1), 1) := by decide +kernel
theorem d_Mo_exit_15 : decode m_Mo_exit.2.1 15 = .ok (.ireturn, 1) := by decide +kernel
theorem d_Mo_exit_16 : decode m_Mo_exit.2.1 16 = .ok (.aload_n 0, 1) := by decide +kernel
theorem d_Mo_exit_17 : decode m_Mo_exit.2.1 17 = .ok (.getfield 246, 3) := by decide +kernel
theorem d_Mo_exit_20 : decode m_Mo_exit.2.1 20 = .ok (.istore_n 3, 1) := by decide +kernel
theorem d_Mo_exit_21 : decode m_Mo_exit.2.1 21 = .ok (.aload_n 0, 1) := by decide +kernel
theorem d_Mo_exit_22 : decode m_Mo_exit.2.1 22 = .ok (.iload_n 1, 1) := by decide +kernel
theorem d_Mo_exit_23 : decode m_Mo_exit.2.1 23 = .ok (.putfield 246, 3) := by decide +kernel
theorem d_Mo_exit_26 : decode m_Mo_exit.2.1 26 = .ok (.aload_n 0, 1) := by decide +kernel
theorem d_Mo_exit_27 : decode m_Mo_exit.2.1 27 = .ok (.iload_n 2, 1) := by decide +kernel
theorem d_Mo_exit_28 : decode m_Mo_exit.2.1 28 = .ok (.putfield 242, 3) := by decide +kernel
theorem d_Mo_exit_31 : decode m_Mo_exit.2.1 31 = .ok (.iload_n 3, 1) := by decide +kernel
theorem d_Mo_exit_32 : decode m_Mo_exit.2.1 32 = .ok (.ireturn, 1) := by decide +kernel
theorem d_Mo_total_0 : decode m_Mo_total.2.1 0 = .ok (.aload_n 0, 1) := by decide +kernel
theorem d_Mo_total_1 : decode m_Mo_total.2.1 1 = .ok (.iconst 0, 1) := by decide +kernel
theorem d_Mo_total_2 : decode m_Mo_total.2.1 2 = .ok (.putfield 114, 3) := by decide +kernel
theorem d_Mo_total_5 : decode m_Mo_total.2.1 5 = .ok (.aload_n 0, 1) := by decide +kernel
theorem d_Mo_total_6 : decode m_Mo_total.2.1 6 = .ok (.iload_n 1, 1) := by decide +kernel
theorem d_Mo_total_7 : decode m_Mo_total.2.1 7 = .ok (.iload_n 2, 1) := by decide +kernel
theorem d_Mo_total_8 : decode m_Mo_total.2.1 8 = .ok (.invokevirtual 255, 3) := by decide +kernel
theorem d_Mo_total_11 : decode m_Mo_total.2.1 11 = .ok (.ifCond .ne 5, 3) := by decide +kernel
theorem d_Mo_total_14 : decode m_Mo_total.2.1 14 = .ok (.iconst (-1), 1) := by decide +kernel
theorem d_Mo_total_15 : decode m_Mo_total.2.1 15 = .ok (.ireturn, 1) := by decide +kernel
theorem d_Mo_total_16 : decode m_Mo_total.2.1 16 = .ok (.iconst 0, 1) := by decide +kernel
theorem d_Mo_total_17 : decode m_Mo_total.2.1 17 = .ok (.istore_n 3, 1) := by decide +kernel
theorem d_Mo_total_18 : decode m_Mo_total.2.1 18 = .ok (.iconst 0, 1) := by decide +kernel
theorem d_Mo_total_19 : decode m_Mo_total.2.1 19 = .ok (.istore 4, 2) := by decide +kernel
theorem d_Mo_total_21 : decode m_Mo_total.2.1 21 = .ok (.iload 4, 2) := by decide +kernel
theorem d_Mo_total_23 : decode m_Mo_total.2.1 23 = .ok (.aload_n 0, 1) := by decide +kernel
theorem d_Mo_total_24 : decode m_Mo_total.2.1 24 = .ok (.getfield 65, 3) := by decide +kernel
theorem d_Mo_total_27 : decode m_Mo_total.2.1 27 = .ok (.sipush 150, 3) := by decide +kernel
theorem d_Mo_total_30 : decode m_Mo_total.2.1 30 = .ok (.iload_n 1, 1) := by decide +kernel
theorem d_Mo_total_31 : decode m_Mo_total.2.1 31 = .ok (.imul, 1) := by decide +kernel
theorem d_Mo_total_32 : decode m_Mo_total.2.1 32 = .ok (.iload_n 2, 1) := by decide +kernel
theorem d_Mo_total_33 : decode m_Mo_total.2.1 33 = .ok (.iadd, 1) := by decide +kernel
theorem d_Mo_total_34 : decode m_Mo_total.2.1 34 = .ok (.iaload, 1) := by decide +kernel
theorem d_Mo_total_35 : decode m_Mo_total.2.1 35 = .ok (.if_icmp .ge 30, 3) := by decide +kernel
theorem d_Mo_total_38 : decode m_Mo_total.2.1 38 = .ok (.iload_n 3, 1) := by decide +kernel
theorem d_Mo_total_39 : decode m_Mo_total.2.1 39 = .ok (.aload_n 0, 1) := by decide +kernel
theorem d_Mo_total_40 : decode m_Mo_total.2.1 40 = .ok (.getfield 62, 3) := by decide +kernel
theorem d_Mo_total_43 : decode m_Mo_total.2.1 43 = .ok (.sipush 15000, 3) := by decide +kernel
theorem d_Mo_total_46 : decode m_Mo_total.2.1 46 = .ok (.iload_n 1, 1) := by decide +kernel
theorem d_Mo_total_47 : decode m_Mo_total.2.1 47 = .ok (.imul, 1) := by decide +kernel
theorem d_Mo_total_48 : decode m_Mo_total.2.1 48 = .ok (.bipush 100, 2) := by decide +kernel
theorem d_Mo_total_50 : decode m_Mo_total.2.1 50 = .ok (.iload_n 2, 1) := by decide +kernel
theorem d_Mo_total_51 : decode m_Mo_total.2.1 51 = .ok (.imul, 1) := by decide +kernel
theorem d_Mo_total_52 : decode m_Mo_total.2.1 52 = .ok (.iadd, 1) := by decide +kernel
theorem d_Mo_total_53 : decode m_Mo_total.2.1 53 = .ok (.iload 4, 2) := by decide +kernel
theorem d_Mo_total_55 : decode m_Mo_total.2.1 55 = .ok (.iadd, 1) := by decide +kernel
theorem d_Mo_total_56 : decode m_Mo_total.2.1 56 = .ok (.iaload, 1) := by decide +kernel
theorem d_Mo_total_57 : decode m_Mo_total.2.1 57 = .ok (.iadd, 1) := by decide +kernel
theorem d_Mo_total_58 : decode m_Mo_total.2.1 58 = .ok (.istore_n 3, 1) := by decide +kernel
theorem d_Mo_total_59 : decode m_Mo_total.2.1 59 = .ok (.iinc 4 1, 3) := by decide +kernel
theorem d_Mo_total_62 : decode m_Mo_total.2.1 62 = .ok (.goto (-41), 3) := by decide +kernel
theorem d_Mo_total_65 : decode m_Mo_total.2.1 65 = .ok (.iload_n 3, 1) := by decide +kernel
theorem d_Mo_total_66 : decode m_Mo_total.2.1 66 = .ok (.ireturn, 1) := by decide +kernel
theorem d_Mo_plain_0 : decode m_Mo_plain.2.1 0 = .ok (.aload_n 0, 1) := by decide +kernel
theorem d_Mo_plain_1 : decode m_Mo_plain.2.1 1 = .ok (.iconst 0, 1) := by decide +kernel
theorem d_Mo_plain_2 : decode m_Mo_plain.2.1 2 = .ok (.putfield 114, 3) := by decide +kernel
theorem d_Mo_plain_5 : decode m_Mo_plain.2.1 5 = .ok (.iconst 1, 1) := by decide +kernel
theorem d_Mo_plain_6 : decode m_Mo_plain.2.1 6 = .ok (.istore_n 2, 1) := by decide +kernel
theorem d_Mo_plain_7 : decode m_Mo_plain.2.1 7 = .ok (.iconst 1, 1) := by decide +kernel
theorem d_Mo_plain_8 : decode m_Mo_plain.2.1 8 = .ok (.istore_n 3, 1) := by decide +kernel
theorem d_Mo_plain_9 : decode m_Mo_plain.2.1 9 = .ok (.aload_n 0, 1) := by decide +kernel
theorem d_Mo_plain_10 : decode m_Mo_plain.2.1 10 = .ok (.iload_n 1, 1) := by decide +kernel
theorem d_Mo_plain_11 : decode m_Mo_plain.2.1 11 = .ok (.iload_n 3, 1) := by decide +kernel
theorem d_Mo_plain_12 : decode m_Mo_plain.2.1 12 = .ok (.invokevirtual 255, 3) := by decide +kernel
theorem d_Mo_plain_15 : decode m_Mo_plain.2.1 15 = .ok (.ifCond .eq 135, 3) := by decide +kernel
theorem d_Mo_plain_18 : decode m_Mo_plain.2.1 18 = .ok (.iconst 0, 1) := by decide +kernel
theorem d_Mo_plain_19 : decode m_Mo_plain.2.1 19 = .ok (.istore 4, 2) := by decide +kernel
theorem d_Mo_plain_21 : decode m_Mo_plain.2.1 21 = .ok (.iload 4, 2) := by decide +kernel
theorem d_Mo_plain_23 : decode m_Mo_plain.2.1 23 = .ok (.iconst 2, 1) := by decide +kernel
theorem d_Mo_plain_24 : decode m_Mo_plain.2.1 24 = .ok (.if_icmp .ge 85, 3) := by decide +kernel
theorem d_Mo_plain_27 : decode m_Mo_plain.2.1 27 = .ok (.aload_n 0, 1) := by decide +kernel
theorem d_Mo_plain_28 : decode m_Mo_plain.2.1 28 = .ok (.getfield 111, 3) := by decide +kernel
theorem d_Mo_plain_31 : decode m_Mo_plain.2.1 31 = .ok (.iload 4, 2) := by decide +kernel
theorem d_Mo_plain_33 : decode m_Mo_plain.2.1 33 = .ok (.aload_n 0, 1) := by decide +kernel
theorem d_Mo_plain_34 : decode m_Mo_plain.2.1 34 = .ok (.getfield 65, 3) := by decide +kernel
theorem d_Mo_plain_37 : decode m_Mo_plain.2.1 37 = .ok (.sipush 150, 3) := by decide +kernel
theorem d_Mo_plain_40 : decode m_Mo_plain.2.1 40 = .ok (.iload_n 1, 1) := by decide +kernel
theorem d_Mo_plain_41 : decode m_Mo_plain.2.1 41 = .ok (.imul, 1) := by decide +kernel
theorem d_Mo_plain_42 : decode m_Mo_plain.2.1 42 = .ok (.iload_n 3, 1) := by decide +kernel
theorem d_Mo_plain_43 : decode m_Mo_plain.2.1 43 = .ok (.iadd, 1) := by decide +kernel
theorem d_Mo_plain_44 : decode m_Mo_plain.2.1 44 = .ok (.iconst 1, 1) := by decide +kernel
theorem d_Mo_plain_45 : decode m_Mo_plain.2.1 45 = .ok (.isub, 1) := by decide +kernel
theorem d_Mo_plain_46 : decode m_Mo_plain.2.1 46 = .ok (.iload 4, 2) := by decide +kernel
theorem d_Mo_plain_48 : decode m_Mo_plain.2.1 48 = .ok (.iadd, 1) := by decide +kernel
theorem d_Mo_plain_49 : decode m_Mo_plain.2.1 49 = .ok (.iaload, 1) := by decide +kernel
theorem d_Mo_plain_50 : decode m_Mo_plain.2.1 50 = .ok (.iastore, 1) := by decide +kernel
theorem d_Mo_plain_51 : decode m_Mo_plain.2.1 51 = .ok (.iconst 0, 1) := by decide +kernel
theorem d_Mo_plain_52 : decode m_Mo_plain.2.1 52 = .ok (.istore 5, 2) := by decide +kernel
theorem d_Mo_plain_54 : decode m_Mo_plain.2.1 54 = .ok (.iload 5, 2) := by decide +kernel
theorem d_Mo_plain_56 : decode m_Mo_plain.2.1 56 = .ok (.bipush 100, 2) := by decide +kernel
theorem d_Mo_plain_58 : decode m_Mo_plain.2.1 58 = .ok (.if_icmp .ge 45, 3) := by decide +kernel
theorem d_Mo_plain_61 : decode m_Mo_plain.2.1 61 = .ok (.aload_n 0, 1) := by decide +kernel
theorem d_Mo_plain_62 : decode m_Mo_plain.2.1 62 = .ok (.getfield 108, 3) := by decide +kernel
theorem d_Mo_plain_65 : decode m_Mo_plain.2.1 65 = .ok (.bipush 100, 2) := by decide +kernel
theorem d_Mo_plain_67 : decode m_Mo_plain.2.1 67 = .ok (.iload 4, 2) := by decide +kernel
theorem d_Mo_plain_69 : decode m_Mo_plain.2.1 69 = .ok (.imul, 1) := by decide +kernel
theorem d_Mo_plain_70 : decode m_Mo_plain.2.1 70 = .ok (.iload 5, 2) := by decide +kernel
theorem d_Mo_plain_72 : decode m_Mo_plain.2.1 72 = .ok (.iadd, 1) := by decide +kernel
theorem d_Mo_plain_73 : decode m_Mo_plain.2.1 73 = .ok (.aload_n 0, 1) := by decide +kernel
theorem d_Mo_plain_74 : decode m_Mo_plain.2.1 74 = .ok (.getfield 62, 3) := by decide +kernel
theorem d_Mo_plain_77 : decode m_Mo_plain.2.1 77 = .ok (.sipush 15000, 3) := by decide +kernel
theorem d_Mo_plain_80 : decode m_Mo_plain.2.1 80 = .ok (.iload_n 1, 1) := by decide +kernel
theorem d_Mo_plain_81 : decode m_Mo_plain.2.1 81 = .ok (.imul, 1) := by decide +kernel
theorem d_Mo_plain_82 : decode m_Mo_plain.2.1 82 = .ok (.bipush 100, 2) := by decide +kernel
theorem d_Mo_plain_84 : decode m_Mo_plain.2.1 84 = .ok (.iload_n 3, 1) := by decide +kernel
theorem d_Mo_plain_85 : decode m_Mo_plain.2.1 85 = .ok (.iconst 1, 1) := by decide +kernel
theorem d_Mo_plain_86 : decode m_Mo_plain.2.1 86 = .ok (.isub, 1) := by decide +kernel
theorem d_Mo_plain_87 : decode m_Mo_plain.2.1 87 = .ok (.iload 4, 2) := by decide +kernel
theorem d_Mo_plain_89 : decode m_Mo_plain.2.1 89 = .ok (.iadd, 1) := by decide +kernel
theorem d_Mo_plain_90 : decode m_Mo_plain.2.1 90 = .ok (.imul, 1) := by decide +kernel
theorem d_Mo_plain_91 : decode m_Mo_plain.2.1 91 = .ok (.iadd, 1) := by decide +kernel
theorem d_Mo_plain_92 : decode m_Mo_plain.2.1 92 = .ok (.iload 5, 2) := by decide +kernel
theorem d_Mo_plain_94 : decode m_Mo_plain.2.1 94 = .ok (.iadd, 1) := by decide +kernel
theorem d_Mo_plain_95 : decode m_Mo_plain.2.1 95 = .ok (.iaload, 1) := by decide +kernel
theorem d_Mo_plain_96 : decode m_Mo_plain.2.1 96 = .ok (.iastore, 1) := by decide +kernel
theorem d_Mo_plain_97 : decode m_Mo_plain.2.1 97 = .ok (.iinc 5 1, 3) := by decide +kernel
theorem d_Mo_plain_100 : decode m_Mo_plain.2.1 100 = .ok (.goto (-46), 3) := by decide +kernel
theorem d_Mo_plain_103 : decode m_Mo_plain.2.1 103 = .ok (.iinc 4 1, 3) := by decide +kernel
theorem d_Mo_plain_106 : decode m_Mo_plain.2.1 106 = .ok (.goto (-85), 3) := by decide +kernel
theorem d_Mo_plain_109 : decode m_Mo_plain.2.1 109 = .ok (.iload_n 2, 1) := by decide +kernel
theorem d_Mo_plain_110 : decode m_Mo_plain.2.1 110 = .ok (.ifCond .eq 32, 3) := by decide +kernel
theorem d_Mo_plain_113 : decode m_Mo_plain.2.1 113 = .ok (.aload_n 0, 1) := by decide +kernel
theorem d_Mo_plain_114 : decode m_Mo_plain.2.1 114 = .ok (.aload_n 0, 1) := by decide +kernel
theorem d_Mo_plain_115 : decode m_Mo_plain.2.1 115 = .ok (.getfield 108, 3) := by decide +kernel
theorem d_Mo_plain_118 : decode m_Mo_plain.2.1 118 = .ok (.aload_n 0, 1) := by decide +kernel
theorem d_Mo_plain_119 : decode m_Mo_plain.2.1 119 = .ok (.getfield 111, 3) := by decide +kernel
theorem d_Mo_plain_122 : decode m_Mo_plain.2.1 122 = .ok (.iconst 0, 1) := by decide +kernel
theorem d_Mo_plain_123 : decode m_Mo_plain.2.1 123 = .ok (.aload_n 0, 1) := by decide +kernel
theorem d_Mo_plain_124 : decode m_Mo_plain.2.1 124 = .ok (.getfield 108, 3) := by decide +kernel
theorem d_Mo_plain_127 : decode m_Mo_plain.2.1 127 = .ok (.aload_n 0, 1) := by decide +kernel
theorem d_Mo_plain_128 : decode m_Mo_plain.2.1 128 = .ok (.getfield 111, 3) := by decide +kernel
theorem d_Mo_plain_131 : decode m_Mo_plain.2.1 131 = .ok (.iconst 1, 1) := by decide +kernel
theorem d_Mo_plain_132 : decode m_Mo_plain.2.1 132 = .ok (.invokevirtual 217, 3) := by decide +kernel
theorem d_Mo_plain_135 : decode m_Mo_plain.2.1 135 = .ok (.ifCond .gt 7, 3) := by decide +kernel
theorem d_Mo_plain_138 : decode m_Mo_plain.2.1 138 = .ok (.iconst 1, 1) := by decide +kernel
theorem d_Mo_plain_139 : decode m_Mo_plain.2.1 139 = .ok (.goto 4, 3) := by decide +kernel
theorem d_Mo_plain_142 : decode m_Mo_plain.2.1 142 = .ok (.iconst 0, 1) := by decide +kernel
theorem d_Mo_plain_143 : decode m_Mo_plain.2.1 143 = .ok (.istore_n 2, 1) := by decide +kernel
theorem d_Mo_plain_144 : decode m_Mo_plain.2.1 144 = .ok (.iinc 3 1, 3) := by decide +kernel
theorem d_Mo_plain_147 : decode m_Mo_plain.2.1 147 = .ok (.goto (-138), 3) := by decide +kernel
theorem d_Mo_plain_150 : decode m_Mo_plain.2.1 150 = .ok (.iload_n 2, 1) := by decide +kernel
theorem d_Mo_plain_151 : decode m_Mo_plain.2.1 151 = .ok (.ireturn, 1) := by decide +kernel
theorem d_Mo_count_0 : decode m_Mo_count.2.1 0 = .ok (.aload_n 0, 1) := by decide +kernel
theorem d_Mo_count_1 : decode m_Mo_count.2.1 1 = .ok (.iconst 0, 1) := by decide +kernel
theorem d_Mo_count_2 : decode m_Mo_count.2.1 2 = .ok (.putfield 114, 3) := by decide +kernel
theorem d_Mo_count_5 : decode m_Mo_count.2.1 5 = .ok (.iload_n 1, 1) := by decide +kernel
theorem d_Mo_count_6 : decode m_Mo_count.2.1 6 = .ok (.tableswitch 81 0 8 #[50, 57, 62, 62, 62, 62, 71, 71, 71], 50) := by decide +kernel
theorem d_Mo_count_56 : decode m_Mo_count.2.1 56 = .ok (.aload_n 0, 1) := by decide +kernel
theorem d_Mo_count_57 : decode m_Mo_count.2.1 57 = .ok (.getfield 16, 3) := by decide +kernel
theorem d_Mo_count_60 : decode m_Mo_count.2.1 60 = .ok (.iconst 0, 1) := by decide +kernel
theorem d_Mo_count_61 : decode m_Mo_count.2.1 61 = .ok (.iaload, 1) := by decide +kernel
theorem d_Mo_count_62 : decode m_Mo_count.2.1 62 = .ok (.ireturn, 1) := by decide +kernel
theorem d_Mo_count_63 : decode m_Mo_count.2.1 63 = .ok (.aload_n 0, 1) := by decide +kernel
theorem d_Mo_count_64 : decode m_Mo_count.2.1 64 = .ok (.getfield 191, 3) := by decide +kernel
theorem d_Mo_count_67 : decode m_Mo_count.2.1 67 = .ok (.ireturn, 1) := by decide +kernel
theorem d_Mo_count_68 : decode m_Mo_count.2.1 68 = .ok (.aload_n 0, 1) := by decide +kernel
theorem d_Mo_count_69 : decode m_Mo_count.2.1 69 = .ok (.getfield 16, 3) := by decide +kernel
theorem d_Mo_count_72 : decode m_Mo_count.2.1 72 = .ok (.iload_n 1, 1) := by decide +kernel
theorem d_Mo_count_73 : decode m_Mo_count.2.1 73 = .ok (.iconst 1, 1) := by decide +kernel
theorem d_Mo_count_74 : decode m_Mo_count.2.1 74 = .ok (.isub, 1) := by decide +kernel
theorem d_Mo_count_75 : decode m_Mo_count.2.1 75 = .ok (.iaload, 1) := by decide +kernel
theorem d_Mo_count_76 : decode m_Mo_count.2.1 76 = .ok (.ireturn, 1) := by decide +kernel
theorem d_Mo_count_77 : decode m_Mo_count.2.1 77 = .ok (.aload_n 0, 1) := by decide +kernel
theorem d_Mo_count_78 : decode m_Mo_count.2.1 78 = .ok (.getfield 68, 3) := by decide +kernel
theorem d_Mo_count_81 : decode m_Mo_count.2.1 81 = .ok (.iload_n 1, 1) := by decide +kernel
theorem d_Mo_count_82 : decode m_Mo_count.2.1 82 = .ok (.bipush 6, 2) := by decide +kernel
theorem d_Mo_count_84 : decode m_Mo_count.2.1 84 = .ok (.isub, 1) := by decide +kernel
theorem d_Mo_count_85 : decode m_Mo_count.2.1 85 = .ok (.iaload, 1) := by decide +kernel
theorem d_Mo_count_86 : decode m_Mo_count.2.1 86 = .ok (.ireturn, 1) := by decide +kernel
theorem d_Mo_count_87 : decode m_Mo_count.2.1 87 = .ok (.iconst (-1), 1) := by decide +kernel
theorem d_Mo_count_88 : decode m_Mo_count.2.1 88 = .ok (.ireturn, 1) := by decide +kernel
