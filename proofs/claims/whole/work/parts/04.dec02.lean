theorem dX11_level_14 : decode cX11_level 14 = .ok (.aload_n 0, 1) := by decide +kernel
theorem dX11_level_15 : decode cX11_level 15 = .ok (.getfield 182, 3) := by decide +kernel
theorem dX11_level_18 : decode cX11_level 18 = .ok (.bipush 8, 2) := by decide +kernel
theorem dX11_level_20 : decode cX11_level 20 = .ok (.irem, 1) := by decide +kernel
theorem dX11_level_21 : decode cX11_level 21 = .ok (.ifCond .ne 16, 3) := by decide +kernel
theorem dX11_level_24 : decode cX11_level 24 = .ok (.aload_n 0, 1) := by decide +kernel
theorem dX11_level_25 : decode cX11_level 25 = .ok (.getfield 50, 3) := by decide +kernel
theorem dX11_level_28 : decode cX11_level 28 = .ok (.aload_n 0, 1) := by decide +kernel
theorem dX11_level_29 : decode cX11_level 29 = .ok (.getfield 182, 3) := by decide +kernel
theorem dX11_level_32 : decode cX11_level 32 = .ok (.bipush 8, 2) := by decide +kernel
theorem dX11_level_34 : decode cX11_level 34 = .ok (.idiv, 1) := by decide +kernel
theorem dX11_level_35 : decode cX11_level 35 = .ok (.iconst 0, 1) := by decide +kernel
theorem dX11_level_36 : decode cX11_level 36 = .ok (.iastore, 1) := by decide +kernel
theorem dX11_level_37 : decode cX11_level 37 = .ok (.aload_n 0, 1) := by decide +kernel
theorem dX11_level_38 : decode cX11_level 38 = .ok (.getfield 50, 3) := by decide +kernel
theorem dX11_level_41 : decode cX11_level 41 = .ok (.aload_n 0, 1) := by decide +kernel
theorem dX11_level_42 : decode cX11_level 42 = .ok (.getfield 182, 3) := by decide +kernel
theorem dX11_level_45 : decode cX11_level 45 = .ok (.bipush 8, 2) := by decide +kernel
theorem dX11_level_47 : decode cX11_level 47 = .ok (.idiv, 1) := by decide +kernel
theorem dX11_level_48 : decode cX11_level 48 = .ok (.dup2, 1) := by decide +kernel
theorem dX11_level_49 : decode cX11_level 49 = .ok (.iaload, 1) := by decide +kernel
theorem dX11_level_50 : decode cX11_level 50 = .ok (.aload_n 0, 1) := by decide +kernel
theorem dX11_level_51 : decode cX11_level 51 = .ok (.getfield 179, 3) := by decide +kernel
theorem dX11_level_54 : decode cX11_level 54 = .ok (.bipush 7, 2) := by decide +kernel
theorem dX11_level_56 : decode cX11_level 56 = .ok (.aload_n 0, 1) := by decide +kernel
theorem dX11_level_57 : decode cX11_level 57 = .ok (.getfield 182, 3) := by decide +kernel
theorem dX11_level_60 : decode cX11_level 60 = .ok (.bipush 8, 2) := by decide +kernel
theorem dX11_level_62 : decode cX11_level 62 = .ok (.irem, 1) := by decide +kernel
theorem dX11_level_63 : decode cX11_level 63 = .ok (.isub, 1) := by decide +kernel
theorem dX11_level_64 : decode cX11_level 64 = .ok (.ishl, 1) := by decide +kernel
theorem dX11_level_65 : decode cX11_level 65 = .ok (.ior, 1) := by decide +kernel
theorem dX11_level_66 : decode cX11_level 66 = .ok (.iastore, 1) := by decide +kernel
theorem dX11_level_67 : decode cX11_level 67 = .ok (.aload_n 0, 1) := by decide +kernel
theorem dX11_level_68 : decode cX11_level 68 = .ok (.dup, 1) := by decide +kernel
theorem dX11_level_69 : decode cX11_level 69 = .ok (.getfield 182, 3) := by decide +kernel
theorem dX11_level_72 : decode cX11_level 72 = .ok (.iconst 1, 1) := by decide +kernel
theorem dX11_level_73 : decode cX11_level 73 = .ok (.iadd, 1) := by decide +kernel
theorem dX11_level_74 : decode cX11_level 74 = .ok (.putfield 182, 3) := by decide +kernel
theorem dX11_level_77 : decode cX11_level 77 = .ok (.return_, 1) := by decide +kernel
theorem dX11_mark_0 : decode cX11_mark 0 = .ok (.aload_n 0, 1) := by decide +kernel
theorem dX11_mark_1 : decode cX11_mark 1 = .ok (.iconst 0, 1) := by decide +kernel
theorem dX11_mark_2 : decode cX11_mark 2 = .ok (.invokevirtual 185, 3) := by decide +kernel
theorem dX11_mark_5 : decode cX11_mark 5 = .ok (.iconst 0, 1) := by decide +kernel
theorem dX11_mark_6 : decode cX11_mark 6 = .ok (.istore_n 1, 1) := by decide +kernel
theorem dX11_mark_7 : decode cX11_mark 7 = .ok (.iload_n 1, 1) := by decide +kernel
theorem dX11_mark_8 : decode cX11_mark 8 = .ok (.bipush 6, 2) := by decide +kernel
theorem dX11_mark_10 : decode cX11_mark 10 = .ok (.if_icmp .ge 14, 3) := by decide +kernel
theorem dX11_mark_13 : decode cX11_mark 13 = .ok (.aload_n 0, 1) := by decide +kernel
theorem dX11_mark_14 : decode cX11_mark 14 = .ok (.iconst 1, 1) := by decide +kernel
theorem dX11_mark_15 : decode cX11_mark 15 = .ok (.invokevirtual 185, 3) := by decide +kernel
theorem dX11_mark_18 : decode cX11_mark 18 = .ok (.iinc 1 1, 3) := by decide +kernel
theorem dX11_mark_21 : decode cX11_mark 21 = .ok (.goto (-14), 3) := by decide +kernel
theorem dX11_mark_24 : decode cX11_mark 24 = .ok (.aload_n 0, 1) := by decide +kernel
theorem dX11_mark_25 : decode cX11_mark 25 = .ok (.iconst 0, 1) := by decide +kernel
theorem dX11_mark_26 : decode cX11_mark 26 = .ok (.invokevirtual 185, 3) := by decide +kernel
theorem dX11_mark_29 : decode cX11_mark 29 = .ok (.return_, 1) := by decide +kernel
theorem dX11_isIn_0 : decode cX11_isIn 0 = .ok (.iload_n 0, 1) := by decide +kernel
theorem dX11_isIn_1 : decode cX11_isIn 1 = .ok (.iload_n 1, 1) := by decide +kernel
theorem dX11_isIn_2 : decode cX11_isIn 2 = .ok (.if_icmp .lt 12, 3) := by decide +kernel
theorem dX11_isIn_5 : decode cX11_isIn 5 = .ok (.iload_n 0, 1) := by decide +kernel
theorem dX11_isIn_6 : decode cX11_isIn 6 = .ok (.iload_n 2, 1) := by decide +kernel
theorem dX11_isIn_7 : decode cX11_isIn 7 = .ok (.if_icmp .gt 7, 3) := by decide +kernel
theorem dX11_isIn_10 : decode cX11_isIn 10 = .ok (.iconst 1, 1) := by decide +kernel
theorem dX11_isIn_11 : decode cX11_isIn 11 = .ok (.goto 4, 3) := by decide +kernel
theorem dX11_isIn_14 : decode cX11_isIn 14 = .ok (.iconst 0, 1) := by decide +kernel
theorem dX11_isIn_15 : decode cX11_isIn 15 = .ok (.ireturn, 1) := by decide +kernel
theorem dX11_says_0 : decode cX11_says 0 = .ok (.iload_n 1, 1) := by decide +kernel
theorem dX11_says_1 : decode cX11_says 1 = .ok (.tableswitch 308 1 4 #[31, 115, 191, 206], 31) := by decide +kernel
theorem dX11_says_32 : decode cX11_says 32 = .ok (.iload_n 2, 1) := by decide +kernel
theorem dX11_says_33 : decode cX11_says 33 = .ok (.sipush (-32768), 3) := by decide +kernel
theorem dX11_says_36 : decode cX11_says 36 = .ok (.sipush 32767, 3) := by decide +kernel
theorem dX11_says_39 : decode cX11_says 39 = .ok (.invokestatic 188, 3) := by decide +kernel
theorem dX11_says_42 : decode cX11_says 42 = .ok (.ifCond .eq 40, 3) := by decide +kernel
theorem dX11_says_45 : decode cX11_says 45 = .ok (.iload_n 3, 1) := by decide +kernel
theorem dX11_says_46 : decode cX11_says 46 = .ok (.sipush (-32768), 3) := by decide +kernel
theorem dX11_says_49 : decode cX11_says 49 = .ok (.sipush 32767, 3) := by decide +kernel
theorem dX11_says_52 : decode cX11_says 52 = .ok (.invokestatic 188, 3) := by decide +kernel
theorem dX11_says_55 : decode cX11_says 55 = .ok (.ifCond .eq 27, 3) := by decide +kernel
theorem dX11_says_58 : decode cX11_says 58 = .ok (.iload 4, 2) := by decide +kernel
theorem dX11_says_60 : decode cX11_says 60 = .ok (.bipush (-128), 2) := by decide +kernel
theorem dX11_says_62 : decode cX11_says 62 = .ok (.bipush 127, 2) := by decide +kernel
theorem dX11_says_64 : decode cX11_says 64 = .ok (.invokestatic 188, 3) := by decide +kernel
theorem dX11_says_67 : decode cX11_says 67 = .ok (.ifCond .eq 15, 3) := by decide +kernel
theorem dX11_says_70 : decode cX11_says 70 = .ok (.iload 5, 2) := by decide +kernel
theorem dX11_says_72 : decode cX11_says 72 = .ok (.bipush (-128), 2) := by decide +kernel
theorem dX11_says_74 : decode cX11_says 74 = .ok (.bipush 127, 2) := by decide +kernel
theorem dX11_says_76 : decode cX11_says 76 = .ok (.invokestatic 188, 3) := by decide +kernel
theorem dX11_says_79 : decode cX11_says 79 = .ok (.ifCond .ne 5, 3) := by decide +kernel
theorem dX11_says_82 : decode cX11_says 82 = .ok (.iconst 0, 1) := by decide +kernel
theorem dX11_says_83 : decode cX11_says 83 = .ok (.ireturn, 1) := by decide +kernel
theorem dX11_says_84 : decode cX11_says 84 = .ok (.aload_n 0, 1) := by decide +kernel
theorem dX11_says_85 : decode cX11_says 85 = .ok (.iload_n 2, 1) := by decide +kernel
theorem dX11_says_86 : decode cX11_says 86 = .ok (.bipush 16, 2) := by decide +kernel
theorem dX11_says_88 : decode cX11_says 88 = .ok (.invokevirtual 191, 3) := by decide +kernel
theorem dX11_says_91 : decode cX11_says 91 = .ok (.aload_n 0, 1) := by decide +kernel
theorem dX11_says_92 : decode cX11_says 92 = .ok (.iload_n 3, 1) := by decide +kernel
theorem dX11_says_93 : decode cX11_says 93 = .ok (.bipush 16, 2) := by decide +kernel
theorem dX11_says_95 : decode cX11_says 95 = .ok (.invokevirtual 191, 3) := by decide +kernel
theorem dX11_says_98 : decode cX11_says 98 = .ok (.aload_n 0, 1) := by decide +kernel
theorem dX11_says_99 : decode cX11_says 99 = .ok (.iload 4, 2) := by decide +kernel
theorem dX11_says_101 : decode cX11_says 101 = .ok (.bipush 8, 2) := by decide +kernel
theorem dX11_says_103 : decode cX11_says 103 = .ok (.invokevirtual 191, 3) := by decide +kernel
theorem dX11_says_106 : decode cX11_says 106 = .ok (.aload_n 0, 1) := by decide +kernel
theorem dX11_says_107 : decode cX11_says 107 = .ok (.iload 5, 2) := by decide +kernel
theorem dX11_says_109 : decode cX11_says 109 = .ok (.bipush 8, 2) := by decide +kernel
theorem dX11_says_111 : decode cX11_says 111 = .ok (.invokevirtual 191, 3) := by decide +kernel
theorem dX11_says_114 : decode cX11_says 114 = .ok (.iconst 1, 1) := by decide +kernel
theorem dX11_says_115 : decode cX11_says 115 = .ok (.ireturn, 1) := by decide +kernel
theorem dX11_says_116 : decode cX11_says 116 = .ok (.iload_n 2, 1) := by decide +kernel
theorem dX11_says_117 : decode cX11_says 117 = .ok (.iconst 0, 1) := by decide +kernel
theorem dX11_says_118 : decode cX11_says 118 = .ok (.sipush 32767, 3) := by decide +kernel
theorem dX11_says_121 : decode cX11_says 121 = .ok (.invokestatic 188, 3) := by decide +kernel
theorem dX11_says_124 : decode cX11_says 124 = .ok (.ifCond .eq 42, 3) := by decide +kernel
theorem dX11_says_127 : decode cX11_says 127 = .ok (.iload_n 3, 1) := by decide +kernel
theorem dX11_says_128 : decode cX11_says 128 = .ok (.iconst 0, 1) := by decide +kernel
theorem dX11_says_129 : decode cX11_says 129 = .ok (.sipush 32767, 3) := by decide +kernel
theorem dX11_says_132 : decode cX11_says 132 = .ok (.invokestatic 188, 3) := by decide +kernel
theorem dX11_says_135 : decode cX11_says 135 = .ok (.ifCond .eq 31, 3) := by decide +kernel
theorem dX11_says_138 : decode cX11_says 138 = .ok (.iload 4, 2) := by decide +kernel
theorem dX11_says_140 : decode cX11_says 140 = .ok (.iconst 0, 1) := by decide +kernel
theorem dX11_says_141 : decode cX11_says 141 = .ok (.sipush 255, 3) := by decide +kernel
theorem dX11_says_144 : decode cX11_says 144 = .ok (.invokestatic 188, 3) := by decide +kernel
theorem dX11_says_147 : decode cX11_says 147 = .ok (.ifCond .eq 19, 3) := by decide +kernel
theorem dX11_says_150 : decode cX11_says 150 = .ok (.iload_n 2, 1) := by decide +kernel
theorem dX11_says_151 : decode cX11_says 151 = .ok (.iconst 3, 1) := by decide +kernel
theorem dX11_says_152 : decode cX11_says 152 = .ok (.invokestatic 140, 3) := by decide +kernel
theorem dX11_says_155 : decode cX11_says 155 = .ok (.ifCond .eq 11, 3) := by decide +kernel
theorem dX11_says_158 : decode cX11_says 158 = .ok (.iload_n 3, 1) := by decide +kernel
theorem dX11_says_159 : decode cX11_says 159 = .ok (.iconst 3, 1) := by decide +kernel
theorem dX11_says_160 : decode cX11_says 160 = .ok (.invokestatic 140, 3) := by decide +kernel
theorem dX11_says_163 : decode cX11_says 163 = .ok (.ifCond .ne 5, 3) := by decide +kernel
theorem dX11_says_166 : decode cX11_says 166 = .ok (.iconst 0, 1) := by decide +kernel
theorem dX11_says_167 : decode cX11_says 167 = .ok (.ireturn, 1) := by decide +kernel
theorem dX11_says_168 : decode cX11_says 168 = .ok (.aload_n 0, 1) := by decide +kernel
theorem dX11_says_169 : decode cX11_says 169 = .ok (.iload_n 2, 1) := by decide +kernel
theorem dX11_says_170 : decode cX11_says 170 = .ok (.bipush 15, 2) := by decide +kernel
theorem dX11_says_172 : decode cX11_says 172 = .ok (.invokevirtual 191, 3) := by decide +kernel
theorem dX11_says_175 : decode cX11_says 175 = .ok (.aload_n 0, 1) := by decide +kernel
theorem dX11_says_176 : decode cX11_says 176 = .ok (.iload_n 3, 1) := by decide +kernel
theorem dX11_says_177 : decode cX11_says 177 = .ok (.bipush 15, 2) := by decide +kernel
theorem dX11_says_179 : decode cX11_says 179 = .ok (.invokevirtual 191, 3) := by decide +kernel
theorem dX11_says_182 : decode cX11_says 182 = .ok (.aload_n 0, 1) := by decide +kernel
theorem dX11_says_183 : decode cX11_says 183 = .ok (.iload 4, 2) := by decide +kernel
theorem dX11_says_185 : decode cX11_says 185 = .ok (.bipush 8, 2) := by decide +kernel
theorem dX11_says_187 : decode cX11_says 187 = .ok (.invokevirtual 191, 3) := by decide +kernel
theorem dX11_says_190 : decode cX11_says 190 = .ok (.iconst 1, 1) := by decide +kernel
theorem dX11_says_191 : decode cX11_says 191 = .ok (.ireturn, 1) := by decide +kernel
theorem dX11_says_192 : decode cX11_says 192 = .ok (.iload_n 2, 1) := by decide +kernel
theorem dX11_says_193 : decode cX11_says 193 = .ok (.ifCond .ge 5, 3) := by decide +kernel
theorem dX11_says_196 : decode cX11_says 196 = .ok (.iconst 0, 1) := by decide +kernel
theorem dX11_says_197 : decode cX11_says 197 = .ok (.ireturn, 1) := by decide +kernel
theorem dX11_says_198 : decode cX11_says 198 = .ok (.aload_n 0, 1) := by decide +kernel
theorem dX11_says_199 : decode cX11_says 199 = .ok (.iload_n 2, 1) := by decide +kernel
theorem dX11_says_200 : decode cX11_says 200 = .ok (.bipush 31, 2) := by decide +kernel
theorem dX11_says_202 : decode cX11_says 202 = .ok (.invokevirtual 191, 3) := by decide +kernel
theorem dX11_says_205 : decode cX11_says 205 = .ok (.iconst 1, 1) := by decide +kernel
theorem dX11_says_206 : decode cX11_says 206 = .ok (.ireturn, 1) := by decide +kernel
theorem dX11_says_207 : decode cX11_says 207 = .ok (.iload_n 2, 1) := by decide +kernel
theorem dX11_says_208 : decode cX11_says 208 = .ok (.iconst 0, 1) := by decide +kernel
theorem dX11_says_209 : decode cX11_says 209 = .ok (.sipush 511, 3) := by decide +kernel
theorem dX11_says_212 : decode cX11_says 212 = .ok (.invokestatic 188, 3) := by decide +kernel
theorem dX11_says_215 : decode cX11_says 215 = .ok (.ifCond .eq 68, 3) := by decide +kernel
theorem dX11_says_218 : decode cX11_says 218 = .ok (.iload_n 2, 1) := by decide +kernel
theorem dX11_says_219 : decode cX11_says 219 = .ok (.bipush 7, 2) := by decide +kernel
theorem dX11_says_221 : decode cX11_says 221 = .ok (.iand, 1) := by decide +kernel
theorem dX11_says_222 : decode cX11_says 222 = .ok (.iconst 2, 1) := by decide +kernel
theorem dX11_says_223 : decode cX11_says 223 = .ok (.iconst 5, 1) := by decide +kernel
theorem dX11_says_224 : decode cX11_says 224 = .ok (.invokestatic 188, 3) := by decide +kernel
theorem dX11_says_227 : decode cX11_says 227 = .ok (.ifCond .eq 56, 3) := by decide +kernel
theorem dX11_says_230 : decode cX11_says 230 = .ok (.iload_n 2, 1) := by decide +kernel
theorem dX11_says_231 : decode cX11_says 231 = .ok (.iconst 3, 1) := by decide +kernel
theorem dX11_says_232 : decode cX11_says 232 = .ok (.ishr, 1) := by decide +kernel
theorem dX11_says_233 : decode cX11_says 233 = .ok (.bipush 7, 2) := by decide +kernel
theorem dX11_says_235 : decode cX11_says 235 = .ok (.iand, 1) := by decide +kernel
theorem dX11_says_236 : decode cX11_says 236 = .ok (.iload_n 2, 1) := by decide +kernel
theorem dX11_says_237 : decode cX11_says 237 = .ok (.bipush 7, 2) := by decide +kernel
theorem dX11_says_239 : decode cX11_says 239 = .ok (.iand, 1) := by decide +kernel
theorem dX11_says_240 : decode cX11_says 240 = .ok (.if_icmp .ge 43, 3) := by decide +kernel
theorem dX11_says_243 : decode cX11_says 243 = .ok (.iload_n 3, 1) := by decide +kernel
theorem dX11_says_244 : decode cX11_says 244 = .ok (.iconst 0, 1) := by decide +kernel
theorem dX11_says_245 : decode cX11_says 245 = .ok (.sipush 1023, 3) := by decide +kernel
theorem dX11_says_248 : decode cX11_says 248 = .ok (.invokestatic 188, 3) := by decide +kernel
theorem dX11_says_251 : decode cX11_says 251 = .ok (.ifCond .eq 32, 3) := by decide +kernel
theorem dX11_says_254 : decode cX11_says 254 = .ok (.iload 4, 2) := by decide +kernel
theorem dX11_says_256 : decode cX11_says 256 = .ok (.iconst 0, 1) := by decide +kernel
theorem dX11_says_257 : decode cX11_says 257 = .ok (.sipush 1023, 3) := by decide +kernel
theorem dX11_says_260 : decode cX11_says 260 = .ok (.invokestatic 188, 3) := by decide +kernel
theorem dX11_says_263 : decode cX11_says 263 = .ok (.ifCond .eq 20, 3) := by decide +kernel
theorem dX11_says_266 : decode cX11_says 266 = .ok (.iload_n 3, 1) := by decide +kernel
theorem dX11_says_267 : decode cX11_says 267 = .ok (.iconst 2, 1) := by decide +kernel
theorem dX11_says_268 : decode cX11_says 268 = .ok (.invokestatic 140, 3) := by decide +kernel
theorem dX11_says_271 : decode cX11_says 271 = .ok (.ifCond .eq 12, 3) := by decide +kernel
theorem dX11_says_274 : decode cX11_says 274 = .ok (.iload 4, 2) := by decide +kernel
theorem dX11_says_276 : decode cX11_says 276 = .ok (.iconst 2, 1) := by decide +kernel
theorem dX11_says_277 : decode cX11_says 277 = .ok (.invokestatic 140, 3) := by decide +kernel
theorem dX11_says_280 : decode cX11_says 280 = .ok (.ifCond .ne 5, 3) := by decide +kernel
theorem dX11_says_283 : decode cX11_says 283 = .ok (.iconst 0, 1) := by decide +kernel
theorem dX11_says_284 : decode cX11_says 284 = .ok (.ireturn, 1) := by decide +kernel
theorem dX11_says_285 : decode cX11_says 285 = .ok (.aload_n 0, 1) := by decide +kernel
theorem dX11_says_286 : decode cX11_says 286 = .ok (.iload_n 2, 1) := by decide +kernel
theorem dX11_says_287 : decode cX11_says 287 = .ok (.bipush 9, 2) := by decide +kernel
theorem dX11_says_289 : decode cX11_says 289 = .ok (.invokevirtual 191, 3) := by decide +kernel
theorem dX11_says_292 : decode cX11_says 292 = .ok (.aload_n 0, 1) := by decide +kernel
theorem dX11_says_293 : decode cX11_says 293 = .ok (.iload_n 3, 1) := by decide +kernel
theorem dX11_says_294 : decode cX11_says 294 = .ok (.bipush 10, 2) := by decide +kernel
theorem dX11_says_296 : decode cX11_says 296 = .ok (.invokevirtual 191, 3) := by decide +kernel
theorem dX11_says_299 : decode cX11_says 299 = .ok (.aload_n 0, 1) := by decide +kernel
theorem dX11_says_300 : decode cX11_says 300 = .ok (.iload 4, 2) := by decide +kernel
theorem dX11_says_302 : decode cX11_says 302 = .ok (.bipush 10, 2) := by decide +kernel
theorem dX11_says_304 : decode cX11_says 304 = .ok (.invokevirtual 191, 3) := by decide +kernel
theorem dX11_says_307 : decode cX11_says 307 = .ok (.iconst 1, 1) := by decide +kernel
theorem dX11_says_308 : decode cX11_says 308 = .ok (.ireturn, 1) := by decide +kernel
theorem dX11_says_309 : decode cX11_says 309 = .ok (.iload_n 1, 1) := by decide +kernel
theorem dX11_says_310 : decode cX11_says 310 = .ok (.iconst 5, 1) := by decide +kernel
theorem dX11_says_311 : decode cX11_says 311 = .ok (.if_icmp .ne 24, 3) := by decide +kernel
theorem dX11_says_314 : decode cX11_says 314 = .ok (.iload_n 2, 1) := by decide +kernel
theorem dX11_says_315 : decode cX11_says 315 = .ok (.iconst 0, 1) := by decide +kernel
theorem dX11_says_316 : decode cX11_says 316 = .ok (.sipush 2249, 3) := by decide +kernel
theorem dX11_says_319 : decode cX11_says 319 = .ok (.invokestatic 188, 3) := by decide +kernel
theorem dX11_says_322 : decode cX11_says 322 = .ok (.ifCond .eq 13, 3) := by decide +kernel
theorem dX11_says_325 : decode cX11_says 325 = .ok (.iload_n 3, 1) := by decide +kernel
theorem dX11_says_326 : decode cX11_says 326 = .ok (.iconst 1, 1) := by decide +kernel
theorem dX11_says_327 : decode cX11_says 327 = .ok (.bipush 7, 2) := by decide +kernel
theorem dX11_says_329 : decode cX11_says 329 = .ok (.invokestatic 188, 3) := by decide +kernel
theorem dX11_says_332 : decode cX11_says 332 = .ok (.ifCond .ne 5, 3) := by decide +kernel
theorem dX11_says_335 : decode cX11_says 335 = .ok (.iconst 0, 1) := by decide +kernel
theorem dX11_says_336 : decode cX11_says 336 = .ok (.ireturn, 1) := by decide +kernel
theorem dX11_says_337 : decode cX11_says 337 = .ok (.aload_n 0, 1) := by decide +kernel
theorem dX11_says_338 : decode cX11_says 338 = .ok (.iload_n 2, 1) := by decide +kernel
theorem dX11_says_339 : decode cX11_says 339 = .ok (.bipush 12, 2) := by decide +kernel
theorem dX11_says_341 : decode cX11_says 341 = .ok (.invokevirtual 191, 3) := by decide +kernel
theorem dX11_says_344 : decode cX11_says 344 = .ok (.aload_n 0, 1) := by decide +kernel
theorem dX11_says_345 : decode cX11_says 345 = .ok (.iload_n 3, 1) := by decide +kernel
theorem dX11_says_346 : decode cX11_says 346 = .ok (.iconst 3, 1) := by decide +kernel
theorem dX11_says_347 : decode cX11_says 347 = .ok (.invokevirtual 191, 3) := by decide +kernel
theorem dX11_says_350 : decode cX11_says 350 = .ok (.iconst 1, 1) := by decide +kernel
theorem dX11_says_351 : decode cX11_says 351 = .ok (.ireturn, 1) := by decide +kernel
theorem dX11_build_0 : decode cX11_build 0 = .ok (.aload_n 0, 1) := by decide +kernel
theorem dX11_build_1 : decode cX11_build 1 = .ok (.iconst 0, 1) := by decide +kernel
theorem dX11_build_2 : decode cX11_build 2 = .ok (.putfield 94, 3) := by decide +kernel
theorem dX11_build_5 : decode cX11_build 5 = .ok (.iload_n 1, 1) := by decide +kernel
theorem dX11_build_6 : decode cX11_build 6 = .ok (.iconst 1, 1) := by decide +kernel
theorem dX11_build_7 : decode cX11_build 7 = .ok (.iconst 5, 1) := by decide +kernel
theorem dX11_build_8 : decode cX11_build 8 = .ok (.invokestatic 188, 3) := by decide +kernel
theorem dX11_build_11 : decode cX11_build 11 = .ok (.ifCond .eq 13, 3) := by decide +kernel
theorem dX11_build_14 : decode cX11_build 14 = .ok (.iload_n 2, 1) := by decide +kernel
theorem dX11_build_15 : decode cX11_build 15 = .ok (.iconst 0, 1) := by decide +kernel
theorem dX11_build_16 : decode cX11_build 16 = .ok (.ldc 194, 2) := by decide +kernel
theorem dX11_build_18 : decode cX11_build 18 = .ok (.invokestatic 188, 3) := by decide +kernel
theorem dX11_build_21 : decode cX11_build 21 = .ok (.ifCond .ne 5, 3) := by decide +kernel
theorem dX11_build_24 : decode cX11_build 24 = .ok (.iconst (-1), 1) := by decide +kernel
theorem dX11_build_25 : decode cX11_build 25 = .ok (.ireturn, 1) := by decide +kernel
theorem dX11_build_26 : decode cX11_build 26 = .ok (.aload_n 0, 1) := by decide +kernel
theorem dX11_build_27 : decode cX11_build 27 = .ok (.iconst 0, 1) := by decide +kernel
theorem dX11_build_28 : decode cX11_build 28 = .ok (.putfield 176, 3) := by decide +kernel
theorem dX11_build_31 : decode cX11_build 31 = .ok (.aload_n 0, 1) := by decide +kernel
theorem dX11_build_32 : decode cX11_build 32 = .ok (.iload_n 1, 1) := by decide +kernel
theorem dX11_build_33 : decode cX11_build 33 = .ok (.iconst 4, 1) := by decide +kernel
theorem dX11_build_34 : decode cX11_build 34 = .ok (.invokevirtual 191, 3) := by decide +kernel
theorem dX11_build_37 : decode cX11_build 37 = .ok (.aload_n 0, 1) := by decide +kernel
theorem dX11_build_38 : decode cX11_build 38 = .ok (.iload_n 2, 1) := by decide +kernel
theorem dX11_build_39 : decode cX11_build 39 = .ok (.bipush 20, 2) := by decide +kernel
theorem dX11_build_41 : decode cX11_build 41 = .ok (.invokevirtual 191, 3) := by decide +kernel
theorem dX11_build_44 : decode cX11_build 44 = .ok (.aload_n 0, 1) := by decide +kernel
theorem dX11_build_45 : decode cX11_build 45 = .ok (.iload_n 1, 1) := by decide +kernel
theorem dX11_build_46 : decode cX11_build 46 = .ok (.iload_n 3, 1) := by decide +kernel
theorem dX11_build_47 : decode cX11_build 47 = .ok (.iload 4, 2) := by decide +kernel
theorem dX11_build_49 : decode cX11_build 49 = .ok (.iload 5, 2) := by decide +kernel
theorem dX11_build_51 : decode cX11_build 51 = .ok (.iload 6, 2) := by decide +kernel
theorem dX11_build_53 : decode cX11_build 53 = .ok (.invokevirtual 195, 3) := by decide +kernel
theorem dX11_build_56 : decode cX11_build 56 = .ok (.ifCond .ne 5, 3) := by decide +kernel
theorem dX11_build_59 : decode cX11_build 59 = .ok (.iconst (-1), 1) := by decide +kernel
theorem dX11_build_60 : decode cX11_build 60 = .ok (.ireturn, 1) := by decide +kernel
theorem dX11_build_61 : decode cX11_build 61 = .ok (.ldc 104, 2) := by decide +kernel
theorem dX11_build_63 : decode cX11_build 63 = .ok (.istore 7, 2) := by decide +kernel
theorem dX11_build_65 : decode cX11_build 65 = .ok (.iconst 0, 1) := by decide +kernel
theorem dX11_build_66 : decode cX11_build 66 = .ok (.istore 8, 2) := by decide +kernel
theorem dX11_build_68 : decode cX11_build 68 = .ok (.iload 8, 2) := by decide +kernel
theorem dX11_build_70 : decode cX11_build 70 = .ok (.aload_n 0, 1) := by decide +kernel
theorem dX11_build_71 : decode cX11_build 71 = .ok (.getfield 176, 3) := by decide +kernel
theorem dX11_build_74 : decode cX11_build 74 = .ok (.if_icmp .ge 23, 3) := by decide +kernel
theorem dX11_build_77 : decode cX11_build 77 = .ok (.iload 7, 2) := by decide +kernel
theorem dX11_build_79 : decode cX11_build 79 = .ok (.aload_n 0, 1) := by decide +kernel
theorem dX11_build_80 : decode cX11_build 80 = .ok (.getfield 53, 3) := by decide +kernel
theorem dX11_build_83 : decode cX11_build 83 = .ok (.iload 8, 2) := by decide +kernel
theorem dX11_build_85 : decode cX11_build 85 = .ok (.iaload, 1) := by decide +kernel
theorem dX11_build_86 : decode cX11_build 86 = .ok (.invokestatic 119, 3) := by decide +kernel
theorem dX11_build_89 : decode cX11_build 89 = .ok (.istore 7, 2) := by decide +kernel
theorem dX11_build_91 : decode cX11_build 91 = .ok (.iinc 8 1, 3) := by decide +kernel
theorem dX11_build_94 : decode cX11_build 94 = .ok (.goto (-26), 3) := by decide +kernel
theorem dX11_build_97 : decode cX11_build 97 = .ok (.aload_n 0, 1) := by decide +kernel
theorem dX11_build_98 : decode cX11_build 98 = .ok (.iload 7, 2) := by decide +kernel
theorem dX11_build_100 : decode cX11_build 100 = .ok (.ldc 104, 2) := by decide +kernel
theorem dX11_build_102 : decode cX11_build 102 = .ok (.ixor, 1) := by decide +kernel
theorem dX11_build_103 : decode cX11_build 103 = .ok (.bipush 16, 2) := by decide +kernel
theorem dX11_build_105 : decode cX11_build 105 = .ok (.invokevirtual 191, 3) := by decide +kernel
theorem dX11_build_108 : decode cX11_build 108 = .ok (.aload_n 0, 1) := by decide +kernel
theorem dX11_build_109 : decode cX11_build 109 = .ok (.iconst 0, 1) := by decide +kernel
theorem dX11_build_110 : decode cX11_build 110 = .ok (.putfield 182, 3) := by decide +kernel
theorem dX11_build_113 : decode cX11_build 113 = .ok (.aload_n 0, 1) := by decide +kernel
theorem dX11_build_114 : decode cX11_build 114 = .ok (.iconst 0, 1) := by decide +kernel
theorem dX11_build_115 : decode cX11_build 115 = .ok (.putfield 179, 3) := by decide +kernel
theorem dX11_build_118 : decode cX11_build 118 = .ok (.aload_n 0, 1) := by decide +kernel
theorem dX11_build_119 : decode cX11_build 119 = .ok (.iconst 0, 1) := by decide +kernel
theorem dX11_build_120 : decode cX11_build 120 = .ok (.invokevirtual 185, 3) := by decide +kernel
theorem dX11_build_123 : decode cX11_build 123 = .ok (.aload_n 0, 1) := by decide +kernel
theorem dX11_build_124 : decode cX11_build 124 = .ok (.invokevirtual 199, 3) := by decide +kernel
theorem dX11_build_127 : decode cX11_build 127 = .ok (.iconst 0, 1) := by decide +kernel
theorem dX11_build_128 : decode cX11_build 128 = .ok (.istore 8, 2) := by decide +kernel
theorem dX11_build_130 : decode cX11_build 130 = .ok (.iconst 0, 1) := by decide +kernel
theorem dX11_build_131 : decode cX11_build 131 = .ok (.istore 9, 2) := by decide +kernel
theorem dX11_build_133 : decode cX11_build 133 = .ok (.iload 9, 2) := by decide +kernel
theorem dX11_build_135 : decode cX11_build 135 = .ok (.aload_n 0, 1) := by decide +kernel
theorem dX11_build_136 : decode cX11_build 136 = .ok (.getfield 176, 3) := by decide +kernel
theorem dX11_build_139 : decode cX11_build 139 = .ok (.if_icmp .ge 58, 3) := by decide +kernel
theorem dX11_build_142 : decode cX11_build 142 = .ok (.aload_n 0, 1) := by decide +kernel
theorem dX11_build_143 : decode cX11_build 143 = .ok (.aload_n 0, 1) := by decide +kernel
theorem dX11_build_144 : decode cX11_build 144 = .ok (.getfield 53, 3) := by decide +kernel
theorem dX11_build_147 : decode cX11_build 147 = .ok (.iload 9, 2) := by decide +kernel
theorem dX11_build_149 : decode cX11_build 149 = .ok (.iaload, 1) := by decide +kernel
theorem dX11_build_150 : decode cX11_build 150 = .ok (.invokevirtual 185, 3) := by decide +kernel
theorem dX11_build_153 : decode cX11_build 153 = .ok (.aload_n 0, 1) := by decide +kernel
theorem dX11_build_154 : decode cX11_build 154 = .ok (.getfield 53, 3) := by decide +kernel
theorem dX11_build_157 : decode cX11_build 157 = .ok (.iload 9, 2) := by decide +kernel
theorem dX11_build_159 : decode cX11_build 159 = .ok (.iaload, 1) := by decide +kernel
theorem dX11_build_160 : decode cX11_build 160 = .ok (.iconst 1, 1) := by decide +kernel
theorem dX11_build_161 : decode cX11_build 161 = .ok (.if_icmp .ne 10, 3) := by decide +kernel
theorem dX11_build_164 : decode cX11_build 164 = .ok (.iload 8, 2) := by decide +kernel
theorem dX11_build_166 : decode cX11_build 166 = .ok (.iconst 1, 1) := by decide +kernel
theorem dX11_build_167 : decode cX11_build 167 = .ok (.iadd, 1) := by decide +kernel
theorem dX11_build_168 : decode cX11_build 168 = .ok (.goto 4, 3) := by decide +kernel
theorem dX11_build_171 : decode cX11_build 171 = .ok (.iconst 0, 1) := by decide +kernel
theorem dX11_build_172 : decode cX11_build 172 = .ok (.istore 8, 2) := by decide +kernel
theorem dX11_build_174 : decode cX11_build 174 = .ok (.iload 8, 2) := by decide +kernel
theorem dX11_build_176 : decode cX11_build 176 = .ok (.iconst 5, 1) := by decide +kernel
theorem dX11_build_177 : decode cX11_build 177 = .ok (.if_icmp .ge 6, 3) := by decide +kernel
theorem dX11_build_180 : decode cX11_build 180 = .ok (.goto 11, 3) := by decide +kernel
theorem dX11_build_183 : decode cX11_build 183 = .ok (.aload_n 0, 1) := by decide +kernel
theorem dX11_build_184 : decode cX11_build 184 = .ok (.iconst 0, 1) := by decide +kernel
theorem dX11_build_185 : decode cX11_build 185 = .ok (.invokevirtual 185, 3) := by decide +kernel
theorem dX11_build_188 : decode cX11_build 188 = .ok (.iconst 0, 1) := by decide +kernel
theorem dX11_build_189 : decode cX11_build 189 = .ok (.istore 8, 2) := by decide +kernel
theorem dX11_build_191 : decode cX11_build 191 = .ok (.iinc 9 1, 3) := by decide +kernel
theorem dX11_build_194 : decode cX11_build 194 = .ok (.goto (-61), 3) := by decide +kernel
theorem dX11_build_197 : decode cX11_build 197 = .ok (.aload_n 0, 1) := by decide +kernel
theorem dX11_build_198 : decode cX11_build 198 = .ok (.invokevirtual 199, 3) := by decide +kernel
theorem dX11_build_201 : decode cX11_build 201 = .ok (.aload_n 0, 1) := by decide +kernel
theorem dX11_build_202 : decode cX11_build 202 = .ok (.getfield 182, 3) := by decide +kernel
theorem dX11_build_205 : decode cX11_build 205 = .ok (.bipush 8, 2) := by decide +kernel
theorem dX11_build_207 : decode cX11_build 207 = .ok (.irem, 1) := by decide +kernel
theorem dX11_build_208 : decode cX11_build 208 = .ok (.ifCond .eq 11, 3) := by decide +kernel
theorem dX11_build_211 : decode cX11_build 211 = .ok (.aload_n 0, 1) := by decide +kernel
theorem dX11_build_212 : decode cX11_build 212 = .ok (.iconst 0, 1) := by decide +kernel
theorem dX11_build_213 : decode cX11_build 213 = .ok (.invokevirtual 185, 3) := by decide +kernel
theorem dX11_build_216 : decode cX11_build 216 = .ok (.goto (-15), 3) := by decide +kernel
theorem dX11_build_219 : decode cX11_build 219 = .ok (.aload_n 0, 1) := by decide +kernel
theorem dX11_build_220 : decode cX11_build 220 = .ok (.aload_n 0, 1) := by decide +kernel
theorem dX11_build_221 : decode cX11_build 221 = .ok (.getfield 182, 3) := by decide +kernel
theorem dX11_build_224 : decode cX11_build 224 = .ok (.bipush 8, 2) := by decide +kernel
theorem dX11_build_226 : decode cX11_build 226 = .ok (.idiv, 1) := by decide +kernel
theorem dX11_build_227 : decode cX11_build 227 = .ok (.putfield 202, 3) := by decide +kernel
theorem dX11_build_230 : decode cX11_build 230 = .ok (.aload_n 0, 1) := by decide +kernel
theorem dX11_build_231 : decode cX11_build 231 = .ok (.getfield 202, 3) := by decide +kernel
theorem dX11_build_234 : decode cX11_build 234 = .ok (.ireturn, 1) := by decide +kernel
theorem dX11_octet_0 : decode cX11_octet 0 = .ok (.iload_n 1, 1) := by decide +kernel
theorem dX11_octet_1 : decode cX11_octet 1 = .ok (.ifCond .lt 11, 3) := by decide +kernel
theorem dX11_octet_4 : decode cX11_octet 4 = .ok (.iload_n 1, 1) := by decide +kernel
theorem dX11_octet_5 : decode cX11_octet 5 = .ok (.aload_n 0, 1) := by decide +kernel
theorem dX11_octet_6 : decode cX11_octet 6 = .ok (.getfield 202, 3) := by decide +kernel
theorem dX11_octet_9 : decode cX11_octet 9 = .ok (.if_icmp .lt 8, 3) := by decide +kernel
theorem dX11_octet_12 : decode cX11_octet 12 = .ok (.aload_n 0, 1) := by decide +kernel
theorem dX11_octet_13 : decode cX11_octet 13 = .ok (.invokevirtual 159, 3) := by decide +kernel
theorem dX11_octet_16 : decode cX11_octet 16 = .ok (.ireturn, 1) := by decide +kernel
theorem dX11_octet_17 : decode cX11_octet 17 = .ok (.aload_n 0, 1) := by decide +kernel
theorem dX11_octet_18 : decode cX11_octet 18 = .ok (.iconst 0, 1) := by decide +kernel
theorem dX11_octet_19 : decode cX11_octet 19 = .ok (.putfield 94, 3) := by decide +kernel
theorem dX11_octet_22 : decode cX11_octet 22 = .ok (.aload_n 0, 1) := by decide +kernel
theorem dX11_octet_23 : decode cX11_octet 23 = .ok (.getfield 50, 3) := by decide +kernel
theorem dX11_octet_26 : decode cX11_octet 26 = .ok (.iload_n 1, 1) := by decide +kernel
theorem dX11_octet_27 : decode cX11_octet 27 = .ok (.iaload, 1) := by decide +kernel
theorem dX11_octet_28 : decode cX11_octet 28 = .ok (.ireturn, 1) := by decide +kernel
theorem dX11_isAhead_0 : decode cX11_isAhead 0 = .ok (.aload_n 0, 1) := by decide +kernel
theorem dX11_isAhead_1 : decode cX11_isAhead 1 = .ok (.getfield 25, 3) := by decide +kernel
theorem dX11_isAhead_4 : decode cX11_isAhead 4 = .ok (.bipush 8, 2) := by decide +kernel
theorem dX11_isAhead_6 : decode cX11_isAhead 6 = .ok (.iload_n 1, 1) := by decide +kernel
theorem dX11_isAhead_7 : decode cX11_isAhead 7 = .ok (.imul, 1) := by decide +kernel
theorem dX11_isAhead_8 : decode cX11_isAhead 8 = .ok (.iconst 3, 1) := by decide +kernel
theorem dX11_isAhead_9 : decode cX11_isAhead 9 = .ok (.iadd, 1) := by decide +kernel
theorem dX11_isAhead_10 : decode cX11_isAhead 10 = .ok (.iaload, 1) := by decide +kernel
theorem dX11_isAhead_11 : decode cX11_isAhead 11 = .ok (.aload_n 0, 1) := by decide +kernel
theorem dX11_isAhead_12 : decode cX11_isAhead 12 = .ok (.getfield 25, 3) := by decide +kernel
theorem dX11_isAhead_15 : decode cX11_isAhead 15 = .ok (.bipush 8, 2) := by decide +kernel
theorem dX11_isAhead_17 : decode cX11_isAhead 17 = .ok (.iload_n 2, 1) := by decide +kernel
theorem dX11_isAhead_18 : decode cX11_isAhead 18 = .ok (.imul, 1) := by decide +kernel
theorem dX11_isAhead_19 : decode cX11_isAhead 19 = .ok (.iconst 3, 1) := by decide +kernel
theorem dX11_isAhead_20 : decode cX11_isAhead 20 = .ok (.iadd, 1) := by decide +kernel
theorem dX11_isAhead_21 : decode cX11_isAhead 21 = .ok (.iaload, 1) := by decide +kernel
theorem dX11_isAhead_22 : decode cX11_isAhead 22 = .ok (.if_icmp .eq 34, 3) := by decide +kernel
theorem dX11_isAhead_25 : decode cX11_isAhead 25 = .ok (.aload_n 0, 1) := by decide +kernel
theorem dX11_isAhead_26 : decode cX11_isAhead 26 = .ok (.getfield 25, 3) := by decide +kernel
theorem dX11_isAhead_29 : decode cX11_isAhead 29 = .ok (.bipush 8, 2) := by decide +kernel
theorem dX11_isAhead_31 : decode cX11_isAhead 31 = .ok (.iload_n 1, 1) := by decide +kernel
theorem dX11_isAhead_32 : decode cX11_isAhead 32 = .ok (.imul, 1) := by decide +kernel
theorem dX11_isAhead_33 : decode cX11_isAhead 33 = .ok (.iconst 3, 1) := by decide +kernel
theorem dX11_isAhead_34 : decode cX11_isAhead 34 = .ok (.iadd, 1) := by decide +kernel
theorem dX11_isAhead_35 : decode cX11_isAhead 35 = .ok (.iaload, 1) := by decide +kernel
theorem dX11_isAhead_36 : decode cX11_isAhead 36 = .ok (.aload_n 0, 1) := by decide +kernel
theorem dX11_isAhead_37 : decode cX11_isAhead 37 = .ok (.getfield 25, 3) := by decide +kernel
theorem dX11_isAhead_40 : decode cX11_isAhead 40 = .ok (.bipush 8, 2) := by decide +kernel
theorem dX11_isAhead_42 : decode cX11_isAhead 42 = .ok (.iload_n 2, 1) := by decide +kernel
theorem dX11_isAhead_43 : decode cX11_isAhead 43 = .ok (.imul, 1) := by decide +kernel
theorem dX11_isAhead_44 : decode cX11_isAhead 44 = .ok (.iconst 3, 1) := by decide +kernel
theorem dX11_isAhead_45 : decode cX11_isAhead 45 = .ok (.iadd, 1) := by decide +kernel
theorem dX11_isAhead_46 : decode cX11_isAhead 46 = .ok (.iaload, 1) := by decide +kernel
theorem dX11_isAhead_47 : decode cX11_isAhead 47 = .ok (.if_icmp .ge 7, 3) := by decide +kernel
theorem dX11_isAhead_50 : decode cX11_isAhead 50 = .ok (.iconst 1, 1) := by decide +kernel
theorem dX11_isAhead_51 : decode cX11_isAhead 51 = .ok (.goto 4, 3) := by decide +kernel
theorem dX11_isAhead_54 : decode cX11_isAhead 54 = .ok (.iconst 0, 1) := by decide +kernel
theorem dX11_isAhead_55 : decode cX11_isAhead 55 = .ok (.ireturn, 1) := by decide +kernel
theorem dX11_isAhead_56 : decode cX11_isAhead 56 = .ok (.aload_n 0, 1) := by decide +kernel
theorem dX11_isAhead_57 : decode cX11_isAhead 57 = .ok (.getfield 25, 3) := by decide +kernel
theorem dX11_isAhead_60 : decode cX11_isAhead 60 = .ok (.bipush 8, 2) := by decide +kernel
theorem dX11_isAhead_62 : decode cX11_isAhead 62 = .ok (.iload_n 1, 1) := by decide +kernel
theorem dX11_isAhead_63 : decode cX11_isAhead 63 = .ok (.imul, 1) := by decide +kernel
theorem dX11_isAhead_64 : decode cX11_isAhead 64 = .ok (.iconst 4, 1) := by decide +kernel
theorem dX11_isAhead_65 : decode cX11_isAhead 65 = .ok (.iadd, 1) := by decide +kernel
theorem dX11_isAhead_66 : decode cX11_isAhead 66 = .ok (.iaload, 1) := by decide +kernel
theorem dX11_isAhead_67 : decode cX11_isAhead 67 = .ok (.aload_n 0, 1) := by decide +kernel
theorem dX11_isAhead_68 : decode cX11_isAhead 68 = .ok (.getfield 25, 3) := by decide +kernel
theorem dX11_isAhead_71 : decode cX11_isAhead 71 = .ok (.bipush 8, 2) := by decide +kernel
theorem dX11_isAhead_73 : decode cX11_isAhead 73 = .ok (.iload_n 2, 1) := by decide +kernel
theorem dX11_isAhead_74 : decode cX11_isAhead 74 = .ok (.imul, 1) := by decide +kernel
theorem dX11_isAhead_75 : decode cX11_isAhead 75 = .ok (.iconst 4, 1) := by decide +kernel
theorem dX11_isAhead_76 : decode cX11_isAhead 76 = .ok (.iadd, 1) := by decide +kernel
theorem dX11_isAhead_77 : decode cX11_isAhead 77 = .ok (.iaload, 1) := by decide +kernel
theorem dX11_isAhead_78 : decode cX11_isAhead 78 = .ok (.if_icmp .eq 34, 3) := by decide +kernel
theorem dX11_isAhead_81 : decode cX11_isAhead 81 = .ok (.aload_n 0, 1) := by decide +kernel
theorem dX11_isAhead_82 : decode cX11_isAhead 82 = .ok (.getfield 25, 3) := by decide +kernel
theorem dX11_isAhead_85 : decode cX11_isAhead 85 = .ok (.bipush 8, 2) := by decide +kernel
theorem dX11_isAhead_87 : decode cX11_isAhead 87 = .ok (.iload_n 1, 1) := by decide +kernel
theorem dX11_isAhead_88 : decode cX11_isAhead 88 = .ok (.imul, 1) := by decide +kernel
theorem dX11_isAhead_89 : decode cX11_isAhead 89 = .ok (.iconst 4, 1) := by decide +kernel
theorem dX11_isAhead_90 : decode cX11_isAhead 90 = .ok (.iadd, 1) := by decide +kernel
theorem dX11_isAhead_91 : decode cX11_isAhead 91 = .ok (.iaload, 1) := by decide +kernel
theorem dX11_isAhead_92 : decode cX11_isAhead 92 = .ok (.aload_n 0, 1) := by decide +kernel
theorem dX11_isAhead_93 : decode cX11_isAhead 93 = .ok (.getfield 25, 3) := by decide +kernel
theorem dX11_isAhead_96 : decode cX11_isAhead 96 = .ok (.bipush 8, 2) := by decide +kernel
theorem dX11_isAhead_98 : decode cX11_isAhead 98 = .ok (.iload_n 2, 1) := by decide +kernel
theorem dX11_isAhead_99 : decode cX11_isAhead 99 = .ok (.imul, 1) := by decide +kernel
theorem dX11_isAhead_100 : decode cX11_isAhead 100 = .ok (.iconst 4, 1) := by decide +kernel
theorem dX11_isAhead_101 : decode cX11_isAhead 101 = .ok (.iadd, 1) := by decide +kernel
theorem dX11_isAhead_102 : decode cX11_isAhead 102 = .ok (.iaload, 1) := by decide +kernel
theorem dX11_isAhead_103 : decode cX11_isAhead 103 = .ok (.if_icmp .ge 7, 3) := by decide +kernel
theorem dX11_isAhead_106 : decode cX11_isAhead 106 = .ok (.iconst 1, 1) := by decide +kernel
theorem dX11_isAhead_107 : decode cX11_isAhead 107 = .ok (.goto 4, 3) := by decide +kernel
theorem dX11_isAhead_110 : decode cX11_isAhead 110 = .ok (.iconst 0, 1) := by decide +kernel
theorem dX11_isAhead_111 : decode cX11_isAhead 111 = .ok (.ireturn, 1) := by decide +kernel
theorem dX11_isAhead_112 : decode cX11_isAhead 112 = .ok (.aload_n 0, 1) := by decide +kernel
theorem dX11_isAhead_113 : decode cX11_isAhead 113 = .ok (.getfield 25, 3) := by decide +kernel
theorem dX11_isAhead_116 : decode cX11_isAhead 116 = .ok (.bipush 8, 2) := by decide +kernel
theorem dX11_isAhead_118 : decode cX11_isAhead 118 = .ok (.iload_n 1, 1) := by decide +kernel
theorem dX11_isAhead_119 : decode cX11_isAhead 119 = .ok (.imul, 1) := by decide +kernel
theorem dX11_isAhead_120 : decode cX11_isAhead 120 = .ok (.iconst 5, 1) := by decide +kernel
theorem dX11_isAhead_121 : decode cX11_isAhead 121 = .ok (.iadd, 1) := by decide +kernel
theorem dX11_isAhead_122 : decode cX11_isAhead 122 = .ok (.iaload, 1) := by decide +kernel
theorem dX11_isAhead_123 : decode cX11_isAhead 123 = .ok (.aload_n 0, 1) := by decide +kernel
theorem dX11_isAhead_124 : decode cX11_isAhead 124 = .ok (.getfield 25, 3) := by decide +kernel
theorem dX11_isAhead_127 : decode cX11_isAhead 127 = .ok (.bipush 8, 2) := by decide +kernel
theorem dX11_isAhead_129 : decode cX11_isAhead 129 = .ok (.iload_n 2, 1) := by decide +kernel
theorem dX11_isAhead_130 : decode cX11_isAhead 130 = .ok (.imul, 1) := by decide +kernel
theorem dX11_isAhead_131 : decode cX11_isAhead 131 = .ok (.iconst 5, 1) := by decide +kernel
theorem dX11_isAhead_132 : decode cX11_isAhead 132 = .ok (.iadd, 1) := by decide +kernel
theorem dX11_isAhead_133 : decode cX11_isAhead 133 = .ok (.iaload, 1) := by decide +kernel
theorem dX11_isAhead_134 : decode cX11_isAhead 134 = .ok (.if_icmp .eq 36, 3) := by decide +kernel
theorem dX11_isAhead_137 : decode cX11_isAhead 137 = .ok (.aload_n 0, 1) := by decide +kernel
theorem dX11_isAhead_138 : decode cX11_isAhead 138 = .ok (.getfield 25, 3) := by decide +kernel
theorem dX11_isAhead_141 : decode cX11_isAhead 141 = .ok (.bipush 8, 2) := by decide +kernel
theorem dX11_isAhead_143 : decode cX11_isAhead 143 = .ok (.iload_n 1, 1) := by decide +kernel
theorem dX11_isAhead_144 : decode cX11_isAhead 144 = .ok (.imul, 1) := by decide +kernel
theorem dX11_isAhead_145 : decode cX11_isAhead 145 = .ok (.iconst 5, 1) := by decide +kernel
theorem dX11_isAhead_146 : decode cX11_isAhead 146 = .ok (.iadd, 1) := by decide +kernel
theorem dX11_isAhead_147 : decode cX11_isAhead 147 = .ok (.iaload, 1) := by decide +kernel
theorem dX11_isAhead_148 : decode cX11_isAhead 148 = .ok (.aload_n 0, 1) := by decide +kernel
theorem dX11_isAhead_149 : decode cX11_isAhead 149 = .ok (.getfield 25, 3) := by decide +kernel
theorem dX11_isAhead_152 : decode cX11_isAhead 152 = .ok (.bipush 8, 2) := by decide +kernel
theorem dX11_isAhead_154 : decode cX11_isAhead 154 = .ok (.iload_n 2, 1) := by decide +kernel
theorem dX11_isAhead_155 : decode cX11_isAhead 155 = .ok (.imul, 1) := by decide +kernel
theorem dX11_isAhead_156 : decode cX11_isAhead 156 = .ok (.iconst 5, 1) := by decide +kernel
theorem dX11_isAhead_157 : decode cX11_isAhead 157 = .ok (.iadd, 1) := by decide +kernel
theorem dX11_isAhead_158 : decode cX11_isAhead 158 = .ok (.iaload, 1) := by decide +kernel
theorem dX11_isAhead_159 : decode cX11_isAhead 159 = .ok (.if_icmp .ge 7, 3) := by decide +kernel
theorem dX11_isAhead_162 : decode cX11_isAhead 162 = .ok (.iconst 1, 1) := by decide +kernel
theorem dX11_isAhead_163 : decode cX11_isAhead 163 = .ok (.goto 17, 3) := by decide +kernel
theorem dX11_isAhead_166 : decode cX11_isAhead 166 = .ok (.iconst 0, 1) := by decide +kernel
theorem dX11_isAhead_167 : decode cX11_isAhead 167 = .ok (.goto 13, 3) := by decide +kernel
theorem dX11_isAhead_170 : decode cX11_isAhead 170 = .ok (.iload_n 1, 1) := by decide +kernel
theorem dX11_isAhead_171 : decode cX11_isAhead 171 = .ok (.iload_n 2, 1) := by decide +kernel
theorem dX11_isAhead_172 : decode cX11_isAhead 172 = .ok (.if_icmp .ge 7, 3) := by decide +kernel
theorem dX11_isAhead_175 : decode cX11_isAhead 175 = .ok (.iconst 1, 1) := by decide +kernel
theorem dX11_isAhead_176 : decode cX11_isAhead 176 = .ok (.goto 4, 3) := by decide +kernel
theorem dX11_isAhead_179 : decode cX11_isAhead 179 = .ok (.iconst 0, 1) := by decide +kernel
theorem dX11_isAhead_180 : decode cX11_isAhead 180 = .ok (.ireturn, 1) := by decide +kernel
theorem dX11_raises_0 : decode cX11_raises 0 = .ok (.ldc2_w 205, 3) := by decide +kernel
theorem dX11_raises_3 : decode cX11_raises 3 = .ok (.lstore_n 2, 1) := by decide +kernel
theorem dX11_raises_4 : decode cX11_raises 4 = .ok (.iconst 0, 1) := by decide +kernel
theorem dX11_raises_5 : decode cX11_raises 5 = .ok (.istore 4, 2) := by decide +kernel
theorem dX11_raises_7 : decode cX11_raises 7 = .ok (.iload 4, 2) := by decide +kernel
theorem dX11_raises_9 : decode cX11_raises 9 = .ok (.iload_n 1, 1) := by decide +kernel
theorem dX11_raises_10 : decode cX11_raises 10 = .ok (.if_icmp .ge 25, 3) := by decide +kernel
theorem dX11_raises_13 : decode cX11_raises 13 = .ok (.aload_n 0, 1) := by decide +kernel
theorem dX11_raises_14 : decode cX11_raises 14 = .ok (.getfield 84, 3) := by decide +kernel
theorem dX11_raises_17 : decode cX11_raises 17 = .ok (.iload 4, 2) := by decide +kernel
theorem dX11_raises_19 : decode cX11_raises 19 = .ok (.lload_n 2, 1) := by decide +kernel
theorem dX11_raises_20 : decode cX11_raises 20 = .ok (.lastore, 1) := by decide +kernel
theorem dX11_raises_21 : decode cX11_raises 21 = .ok (.aload_n 0, 1) := by decide +kernel
theorem dX11_raises_22 : decode cX11_raises 22 = .ok (.getfield 87, 3) := by decide +kernel
theorem dX11_raises_25 : decode cX11_raises 25 = .ok (.iload 4, 2) := by decide +kernel
theorem dX11_raises_27 : decode cX11_raises 27 = .ok (.iconst (-1), 1) := by decide +kernel
theorem dX11_raises_28 : decode cX11_raises 28 = .ok (.iastore, 1) := by decide +kernel
theorem dX11_raises_29 : decode cX11_raises 29 = .ok (.iinc 4 1, 3) := by decide +kernel
theorem dX11_raises_32 : decode cX11_raises 32 = .ok (.goto (-25), 3) := by decide +kernel
theorem dX11_raises_35 : decode cX11_raises 35 = .ok (.iconst 0, 1) := by decide +kernel
theorem dX11_raises_36 : decode cX11_raises 36 = .ok (.istore 4, 2) := by decide +kernel
theorem dX11_raises_38 : decode cX11_raises 38 = .ok (.iload 4, 2) := by decide +kernel
theorem dX11_raises_40 : decode cX11_raises 40 = .ok (.iload_n 1, 1) := by decide +kernel
theorem dX11_raises_41 : decode cX11_raises 41 = .ok (.if_icmp .ge 58, 3) := by decide +kernel
theorem dX11_raises_44 : decode cX11_raises 44 = .ok (.aload_n 0, 1) := by decide +kernel
theorem dX11_raises_45 : decode cX11_raises 45 = .ok (.getfield 81, 3) := by decide +kernel
theorem dX11_raises_48 : decode cX11_raises 48 = .ok (.iload 4, 2) := by decide +kernel
theorem dX11_raises_50 : decode cX11_raises 50 = .ok (.baload, 1) := by decide +kernel
theorem dX11_raises_51 : decode cX11_raises 51 = .ok (.ifCond .ne 42, 3) := by decide +kernel
theorem dX11_raises_54 : decode cX11_raises 54 = .ok (.aload_n 0, 1) := by decide +kernel
theorem dX11_raises_55 : decode cX11_raises 55 = .ok (.getfield 62, 3) := by decide +kernel
theorem dX11_raises_58 : decode cX11_raises 58 = .ok (.iload 4, 2) := by decide +kernel
theorem dX11_raises_60 : decode cX11_raises 60 = .ok (.iaload, 1) := by decide +kernel
theorem dX11_raises_61 : decode cX11_raises 61 = .ok (.iconst (-1), 1) := by decide +kernel
theorem dX11_raises_62 : decode cX11_raises 62 = .ok (.if_icmp .eq 6, 3) := by decide +kernel
theorem dX11_raises_65 : decode cX11_raises 65 = .ok (.goto 28, 3) := by decide +kernel
theorem dX11_raises_68 : decode cX11_raises 68 = .ok (.iconst 0, 1) := by decide +kernel
theorem dX11_raises_69 : decode cX11_raises 69 = .ok (.istore 5, 2) := by decide +kernel
theorem dX11_raises_71 : decode cX11_raises 71 = .ok (.iload 5, 2) := by decide +kernel
theorem dX11_raises_73 : decode cX11_raises 73 = .ok (.iload_n 1, 1) := by decide +kernel
theorem dX11_raises_74 : decode cX11_raises 74 = .ok (.if_icmp .ge 19, 3) := by decide +kernel
theorem dX11_raises_77 : decode cX11_raises 77 = .ok (.aload_n 0, 1) := by decide +kernel
theorem dX11_raises_78 : decode cX11_raises 78 = .ok (.iload 4, 2) := by decide +kernel
theorem dX11_raises_80 : decode cX11_raises 80 = .ok (.iload 5, 2) := by decide +kernel
theorem dX11_raises_82 : decode cX11_raises 82 = .ok (.lconst 0, 1) := by decide +kernel
theorem dX11_raises_83 : decode cX11_raises 83 = .ok (.invokevirtual 207, 3) := by decide +kernel
theorem dX11_raises_86 : decode cX11_raises 86 = .ok (.pop, 1) := by decide +kernel
theorem dX11_raises_87 : decode cX11_raises 87 = .ok (.iinc 5 1, 3) := by decide +kernel
theorem dX11_raises_90 : decode cX11_raises 90 = .ok (.goto (-19), 3) := by decide +kernel
theorem dX11_raises_93 : decode cX11_raises 93 = .ok (.iinc 4 1, 3) := by decide +kernel
theorem dX11_raises_96 : decode cX11_raises 96 = .ok (.goto (-58), 3) := by decide +kernel
theorem dX11_raises_99 : decode cX11_raises 99 = .ok (.iconst 1, 1) := by decide +kernel
theorem dX11_raises_100 : decode cX11_raises 100 = .ok (.istore 4, 2) := by decide +kernel
theorem dX11_raises_102 : decode cX11_raises 102 = .ok (.iload 4, 2) := by decide +kernel
theorem dX11_raises_104 : decode cX11_raises 104 = .ok (.ifCond .eq 121, 3) := by decide +kernel
theorem dX11_raises_107 : decode cX11_raises 107 = .ok (.iconst 0, 1) := by decide +kernel
theorem dX11_raises_108 : decode cX11_raises 108 = .ok (.istore 4, 2) := by decide +kernel
theorem dX11_raises_110 : decode cX11_raises 110 = .ok (.iconst 0, 1) := by decide +kernel
theorem dX11_raises_111 : decode cX11_raises 111 = .ok (.istore 5, 2) := by decide +kernel
theorem dX11_raises_113 : decode cX11_raises 113 = .ok (.iload 5, 2) := by decide +kernel
theorem dX11_raises_115 : decode cX11_raises 115 = .ok (.iload_n 1, 1) := by decide +kernel
theorem dX11_raises_116 : decode cX11_raises 116 = .ok (.if_icmp .ge 106, 3) := by decide +kernel
theorem dX11_raises_119 : decode cX11_raises 119 = .ok (.aload_n 0, 1) := by decide +kernel
theorem dX11_raises_120 : decode cX11_raises 120 = .ok (.getfield 65, 3) := by decide +kernel
theorem dX11_raises_123 : decode cX11_raises 123 = .ok (.iload 5, 2) := by decide +kernel
theorem dX11_raises_125 : decode cX11_raises 125 = .ok (.iaload, 1) := by decide +kernel
theorem dX11_raises_126 : decode cX11_raises 126 = .ok (.istore 6, 2) := by decide +kernel
theorem dX11_raises_128 : decode cX11_raises 128 = .ok (.aload_n 0, 1) := by decide +kernel
theorem dX11_raises_129 : decode cX11_raises 129 = .ok (.getfield 84, 3) := by decide +kernel
theorem dX11_raises_132 : decode cX11_raises 132 = .ok (.iload 5, 2) := by decide +kernel
theorem dX11_raises_134 : decode cX11_raises 134 = .ok (.laload, 1) := by decide +kernel
theorem dX11_raises_135 : decode cX11_raises 135 = .ok (.lload_n 2, 1) := by decide +kernel
theorem dX11_raises_136 : decode cX11_raises 136 = .ok (.lcmp, 1) := by decide +kernel
theorem dX11_raises_137 : decode cX11_raises 137 = .ok (.ifCond .eq 79, 3) := by decide +kernel
theorem dX11_raises_140 : decode cX11_raises 140 = .ok (.iload 6, 2) := by decide +kernel
theorem dX11_raises_142 : decode cX11_raises 142 = .ok (.iconst (-1), 1) := by decide +kernel
theorem dX11_raises_143 : decode cX11_raises 143 = .ok (.if_icmp .eq 73, 3) := by decide +kernel
theorem dX11_raises_146 : decode cX11_raises 146 = .ok (.aload_n 0, 1) := by decide +kernel
theorem dX11_raises_147 : decode cX11_raises 147 = .ok (.getfield 81, 3) := by decide +kernel
theorem dX11_raises_150 : decode cX11_raises 150 = .ok (.iload 6, 2) := by decide +kernel
theorem dX11_raises_152 : decode cX11_raises 152 = .ok (.baload, 1) := by decide +kernel
theorem dX11_raises_153 : decode cX11_raises 153 = .ok (.ifCond .eq 6, 3) := by decide +kernel
theorem dX11_raises_156 : decode cX11_raises 156 = .ok (.goto 60, 3) := by decide +kernel
theorem dX11_raises_159 : decode cX11_raises 159 = .ok (.iconst 0, 1) := by decide +kernel
theorem dX11_raises_160 : decode cX11_raises 160 = .ok (.istore 7, 2) := by decide +kernel
theorem dX11_raises_162 : decode cX11_raises 162 = .ok (.iload 7, 2) := by decide +kernel
theorem dX11_raises_164 : decode cX11_raises 164 = .ok (.iload_n 1, 1) := by decide +kernel
theorem dX11_raises_165 : decode cX11_raises 165 = .ok (.if_icmp .ge 51, 3) := by decide +kernel
theorem dX11_raises_168 : decode cX11_raises 168 = .ok (.iload 7, 2) := by decide +kernel
theorem dX11_raises_170 : decode cX11_raises 170 = .ok (.iload 5, 2) := by decide +kernel
theorem dX11_raises_172 : decode cX11_raises 172 = .ok (.if_icmp .eq 38, 3) := by decide +kernel
theorem dX11_raises_175 : decode cX11_raises 175 = .ok (.aload_n 0, 1) := by decide +kernel
theorem dX11_raises_176 : decode cX11_raises 176 = .ok (.iload 6, 2) := by decide +kernel
theorem dX11_raises_178 : decode cX11_raises 178 = .ok (.iload 7, 2) := by decide +kernel
theorem dX11_raises_180 : decode cX11_raises 180 = .ok (.aload_n 0, 1) := by decide +kernel
theorem dX11_raises_181 : decode cX11_raises 181 = .ok (.getfield 84, 3) := by decide +kernel
theorem dX11_raises_184 : decode cX11_raises 184 = .ok (.iload 5, 2) := by decide +kernel
theorem dX11_raises_186 : decode cX11_raises 186 = .ok (.laload, 1) := by decide +kernel
theorem dX11_raises_187 : decode cX11_raises 187 = .ok (.aload_n 0, 1) := by decide +kernel
theorem dX11_raises_188 : decode cX11_raises 188 = .ok (.getfield 74, 3) := by decide +kernel
theorem dX11_raises_191 : decode cX11_raises 191 = .ok (.bipush 16, 2) := by decide +kernel
theorem dX11_raises_193 : decode cX11_raises 193 = .ok (.iload 6, 2) := by decide +kernel
theorem dX11_raises_195 : decode cX11_raises 195 = .ok (.imul, 1) := by decide +kernel
theorem dX11_raises_196 : decode cX11_raises 196 = .ok (.iload 5, 2) := by decide +kernel
theorem dX11_raises_198 : decode cX11_raises 198 = .ok (.iadd, 1) := by decide +kernel
theorem dX11_raises_199 : decode cX11_raises 199 = .ok (.laload, 1) := by decide +kernel
theorem dX11_raises_200 : decode cX11_raises 200 = .ok (.lsub, 1) := by decide +kernel
theorem dX11_raises_201 : decode cX11_raises 201 = .ok (.invokevirtual 207, 3) := by decide +kernel
theorem dX11_raises_204 : decode cX11_raises 204 = .ok (.ifCond .eq 6, 3) := by decide +kernel
theorem dX11_raises_207 : decode cX11_raises 207 = .ok (.iconst 1, 1) := by decide +kernel
theorem dX11_raises_208 : decode cX11_raises 208 = .ok (.istore 4, 2) := by decide +kernel
theorem dX11_raises_210 : decode cX11_raises 210 = .ok (.iinc 7 1, 3) := by decide +kernel
theorem dX11_raises_213 : decode cX11_raises 213 = .ok (.goto (-51), 3) := by decide +kernel
theorem dX11_raises_216 : decode cX11_raises 216 = .ok (.iinc 5 1, 3) := by decide +kernel
theorem dX11_raises_219 : decode cX11_raises 219 = .ok (.goto (-106), 3) := by decide +kernel
theorem dX11_raises_222 : decode cX11_raises 222 = .ok (.goto (-120), 3) := by decide +kernel
theorem dX11_raises_225 : decode cX11_raises 225 = .ok (.iconst (-1), 1) := by decide +kernel
theorem dX11_raises_226 : decode cX11_raises 226 = .ok (.istore 5, 2) := by decide +kernel
theorem dX11_raises_228 : decode cX11_raises 228 = .ok (.iconst 0, 1) := by decide +kernel
theorem dX11_raises_229 : decode cX11_raises 229 = .ok (.istore 6, 2) := by decide +kernel
theorem dX11_raises_231 : decode cX11_raises 231 = .ok (.iload 6, 2) := by decide +kernel
theorem dX11_raises_233 : decode cX11_raises 233 = .ok (.iload_n 1, 1) := by decide +kernel
theorem dX11_raises_234 : decode cX11_raises 234 = .ok (.if_icmp .ge 60, 3) := by decide +kernel
theorem dX11_raises_237 : decode cX11_raises 237 = .ok (.aload_n 0, 1) := by decide +kernel
theorem dX11_raises_238 : decode cX11_raises 238 = .ok (.getfield 65, 3) := by decide +kernel
theorem dX11_raises_241 : decode cX11_raises 241 = .ok (.iload 6, 2) := by decide +kernel
theorem dX11_raises_243 : decode cX11_raises 243 = .ok (.iaload, 1) := by decide +kernel
theorem dX11_raises_244 : decode cX11_raises 244 = .ok (.iconst (-1), 1) := by decide +kernel
theorem dX11_raises_245 : decode cX11_raises 245 = .ok (.if_icmp .ne 43, 3) := by decide +kernel
theorem dX11_raises_248 : decode cX11_raises 248 = .ok (.aload_n 0, 1) := by decide +kernel
theorem dX11_raises_249 : decode cX11_raises 249 = .ok (.getfield 84, 3) := by decide +kernel
theorem dX11_raises_252 : decode cX11_raises 252 = .ok (.iload 6, 2) := by decide +kernel
theorem dX11_raises_254 : decode cX11_raises 254 = .ok (.laload, 1) := by decide +kernel
theorem dX11_raises_255 : decode cX11_raises 255 = .ok (.lload_n 2, 1) := by decide +kernel
theorem dX11_raises_256 : decode cX11_raises 256 = .ok (.lcmp, 1) := by decide +kernel
theorem dX11_raises_257 : decode cX11_raises 257 = .ok (.ifCond .ge 31, 3) := by decide +kernel
theorem dX11_raises_260 : decode cX11_raises 260 = .ok (.iload 5, 2) := by decide +kernel
theorem dX11_raises_262 : decode cX11_raises 262 = .ok (.iconst (-1), 1) := by decide +kernel
theorem dX11_raises_263 : decode cX11_raises 263 = .ok (.if_icmp .eq 21, 3) := by decide +kernel
theorem dX11_raises_266 : decode cX11_raises 266 = .ok (.aload_n 0, 1) := by decide +kernel
theorem dX11_raises_267 : decode cX11_raises 267 = .ok (.getfield 84, 3) := by decide +kernel
theorem dX11_raises_270 : decode cX11_raises 270 = .ok (.iload 6, 2) := by decide +kernel
theorem dX11_raises_272 : decode cX11_raises 272 = .ok (.laload, 1) := by decide +kernel
theorem dX11_raises_273 : decode cX11_raises 273 = .ok (.aload_n 0, 1) := by decide +kernel
theorem dX11_raises_274 : decode cX11_raises 274 = .ok (.getfield 84, 3) := by decide +kernel
theorem dX11_raises_277 : decode cX11_raises 277 = .ok (.iload 5, 2) := by decide +kernel
theorem dX11_raises_279 : decode cX11_raises 279 = .ok (.laload, 1) := by decide +kernel
theorem dX11_raises_280 : decode cX11_raises 280 = .ok (.lcmp, 1) := by decide +kernel
theorem dX11_raises_281 : decode cX11_raises 281 = .ok (.ifCond .ge 7, 3) := by decide +kernel
theorem dX11_raises_284 : decode cX11_raises 284 = .ok (.iload 6, 2) := by decide +kernel
theorem dX11_raises_286 : decode cX11_raises 286 = .ok (.istore 5, 2) := by decide +kernel
theorem dX11_raises_288 : decode cX11_raises 288 = .ok (.iinc 6 1, 3) := by decide +kernel
theorem dX11_raises_291 : decode cX11_raises 291 = .ok (.goto (-60), 3) := by decide +kernel
theorem dX11_raises_294 : decode cX11_raises 294 = .ok (.iload 5, 2) := by decide +kernel
theorem dX11_raises_296 : decode cX11_raises 296 = .ok (.iconst (-1), 1) := by decide +kernel
theorem dX11_raises_297 : decode cX11_raises 297 = .ok (.if_icmp .ne 5, 3) := by decide +kernel
theorem dX11_raises_300 : decode cX11_raises 300 = .ok (.iconst 0, 1) := by decide +kernel
theorem dX11_raises_301 : decode cX11_raises 301 = .ok (.ireturn, 1) := by decide +kernel
theorem dX11_raises_302 : decode cX11_raises 302 = .ok (.aload_n 0, 1) := by decide +kernel
theorem dX11_raises_303 : decode cX11_raises 303 = .ok (.dup, 1) := by decide +kernel
theorem dX11_raises_304 : decode cX11_raises 304 = .ok (.getfield 211, 3) := by decide +kernel
theorem dX11_raises_307 : decode cX11_raises 307 = .ok (.aload_n 0, 1) := by decide +kernel
theorem dX11_raises_308 : decode cX11_raises 308 = .ok (.getfield 84, 3) := by decide +kernel
theorem dX11_raises_311 : decode cX11_raises 311 = .ok (.iload 5, 2) := by decide +kernel
theorem dX11_raises_313 : decode cX11_raises 313 = .ok (.laload, 1) := by decide +kernel
theorem dX11_raises_314 : decode cX11_raises 314 = .ok (.ladd, 1) := by decide +kernel
theorem dX11_raises_315 : decode cX11_raises 315 = .ok (.putfield 211, 3) := by decide +kernel
theorem dX11_raises_318 : decode cX11_raises 318 = .ok (.aload_n 0, 1) := by decide +kernel
theorem dX11_raises_319 : decode cX11_raises 319 = .ok (.dup, 1) := by decide +kernel
theorem dX11_raises_320 : decode cX11_raises 320 = .ok (.getfield 215, 3) := by decide +kernel
theorem dX11_raises_323 : decode cX11_raises 323 = .ok (.iconst 1, 1) := by decide +kernel
theorem dX11_raises_324 : decode cX11_raises 324 = .ok (.iadd, 1) := by decide +kernel
theorem dX11_raises_325 : decode cX11_raises 325 = .ok (.putfield 215, 3) := by decide +kernel
theorem dX11_raises_328 : decode cX11_raises 328 = .ok (.iload 5, 2) := by decide +kernel
theorem dX11_raises_330 : decode cX11_raises 330 = .ok (.istore 6, 2) := by decide +kernel
theorem dX11_raises_332 : decode cX11_raises 332 = .ok (.iload 6, 2) := by decide +kernel
theorem dX11_raises_334 : decode cX11_raises 334 = .ok (.iconst (-1), 1) := by decide +kernel
theorem dX11_raises_335 : decode cX11_raises 335 = .ok (.if_icmp .eq 46, 3) := by decide +kernel
theorem dX11_raises_338 : decode cX11_raises 338 = .ok (.aload_n 0, 1) := by decide +kernel
theorem dX11_raises_339 : decode cX11_raises 339 = .ok (.getfield 87, 3) := by decide +kernel
theorem dX11_raises_342 : decode cX11_raises 342 = .ok (.iload 6, 2) := by decide +kernel
theorem dX11_raises_344 : decode cX11_raises 344 = .ok (.iaload, 1) := by decide +kernel
theorem dX11_raises_345 : decode cX11_raises 345 = .ok (.istore 7, 2) := by decide +kernel
theorem dX11_raises_347 : decode cX11_raises 347 = .ok (.aload_n 0, 1) := by decide +kernel
theorem dX11_raises_348 : decode cX11_raises 348 = .ok (.getfield 62, 3) := by decide +kernel
theorem dX11_raises_351 : decode cX11_raises 351 = .ok (.iload 7, 2) := by decide +kernel
theorem dX11_raises_353 : decode cX11_raises 353 = .ok (.iaload, 1) := by decide +kernel
theorem dX11_raises_354 : decode cX11_raises 354 = .ok (.istore 8, 2) := by decide +kernel
theorem dX11_raises_356 : decode cX11_raises 356 = .ok (.aload_n 0, 1) := by decide +kernel
theorem dX11_raises_357 : decode cX11_raises 357 = .ok (.getfield 62, 3) := by decide +kernel
theorem dX11_raises_360 : decode cX11_raises 360 = .ok (.iload 7, 2) := by decide +kernel
theorem dX11_raises_362 : decode cX11_raises 362 = .ok (.iload 6, 2) := by decide +kernel
theorem dX11_raises_364 : decode cX11_raises 364 = .ok (.iastore, 1) := by decide +kernel
theorem dX11_raises_365 : decode cX11_raises 365 = .ok (.aload_n 0, 1) := by decide +kernel
theorem dX11_raises_366 : decode cX11_raises 366 = .ok (.getfield 65, 3) := by decide +kernel
theorem dX11_raises_369 : decode cX11_raises 369 = .ok (.iload 6, 2) := by decide +kernel
theorem dX11_raises_371 : decode cX11_raises 371 = .ok (.iload 7, 2) := by decide +kernel
theorem dX11_raises_373 : decode cX11_raises 373 = .ok (.iastore, 1) := by decide +kernel
theorem dX11_raises_374 : decode cX11_raises 374 = .ok (.iload 8, 2) := by decide +kernel
theorem dX11_raises_376 : decode cX11_raises 376 = .ok (.istore 6, 2) := by decide +kernel
theorem dX11_raises_378 : decode cX11_raises 378 = .ok (.goto (-46), 3) := by decide +kernel
theorem dX11_raises_381 : decode cX11_raises 381 = .ok (.iconst 1, 1) := by decide +kernel
theorem dX11_raises_382 : decode cX11_raises 382 = .ok (.ireturn, 1) := by decide +kernel
theorem dX11_lowers_0 : decode cX11_lowers 0 = .ok (.aload_n 0, 1) := by decide +kernel
theorem dX11_lowers_1 : decode cX11_lowers 1 = .ok (.getfield 78, 3) := by decide +kernel
theorem dX11_lowers_4 : decode cX11_lowers 4 = .ok (.bipush 16, 2) := by decide +kernel
theorem dX11_lowers_6 : decode cX11_lowers 6 = .ok (.iload_n 1, 1) := by decide +kernel
theorem dX11_lowers_7 : decode cX11_lowers 7 = .ok (.imul, 1) := by decide +kernel
theorem dX11_lowers_8 : decode cX11_lowers 8 = .ok (.iload_n 2, 1) := by decide +kernel
theorem dX11_lowers_9 : decode cX11_lowers 9 = .ok (.iadd, 1) := by decide +kernel
theorem dX11_lowers_10 : decode cX11_lowers 10 = .ok (.baload, 1) := by decide +kernel
theorem dX11_lowers_11 : decode cX11_lowers 11 = .ok (.ifCond .eq 26, 3) := by decide +kernel
theorem dX11_lowers_14 : decode cX11_lowers 14 = .ok (.lload_n 3, 1) := by decide +kernel
theorem dX11_lowers_15 : decode cX11_lowers 15 = .ok (.aload_n 0, 1) := by decide +kernel
theorem dX11_lowers_16 : decode cX11_lowers 16 = .ok (.getfield 74, 3) := by decide +kernel
theorem dX11_lowers_19 : decode cX11_lowers 19 = .ok (.bipush 16, 2) := by decide +kernel
theorem dX11_lowers_21 : decode cX11_lowers 21 = .ok (.iload_n 1, 1) := by decide +kernel
theorem dX11_lowers_22 : decode cX11_lowers 22 = .ok (.imul, 1) := by decide +kernel
theorem dX11_lowers_23 : decode cX11_lowers 23 = .ok (.iload_n 2, 1) := by decide +kernel
theorem dX11_lowers_24 : decode cX11_lowers 24 = .ok (.iadd, 1) := by decide +kernel
theorem dX11_lowers_25 : decode cX11_lowers 25 = .ok (.laload, 1) := by decide +kernel
theorem dX11_lowers_26 : decode cX11_lowers 26 = .ok (.ladd, 1) := by decide +kernel
theorem dX11_lowers_27 : decode cX11_lowers 27 = .ok (.aload_n 0, 1) := by decide +kernel
theorem dX11_lowers_28 : decode cX11_lowers 28 = .ok (.getfield 84, 3) := by decide +kernel
theorem dX11_lowers_31 : decode cX11_lowers 31 = .ok (.iload_n 2, 1) := by decide +kernel
theorem dX11_lowers_32 : decode cX11_lowers 32 = .ok (.laload, 1) := by decide +kernel
theorem dX11_lowers_33 : decode cX11_lowers 33 = .ok (.lcmp, 1) := by decide +kernel
theorem dX11_lowers_34 : decode cX11_lowers 34 = .ok (.ifCond .lt 5, 3) := by decide +kernel
theorem dX11_lowers_37 : decode cX11_lowers 37 = .ok (.iconst 0, 1) := by decide +kernel
theorem dX11_lowers_38 : decode cX11_lowers 38 = .ok (.ireturn, 1) := by decide +kernel
theorem dX11_lowers_39 : decode cX11_lowers 39 = .ok (.aload_n 0, 1) := by decide +kernel
theorem dX11_lowers_40 : decode cX11_lowers 40 = .ok (.getfield 65, 3) := by decide +kernel
theorem dX11_lowers_43 : decode cX11_lowers 43 = .ok (.iload_n 2, 1) := by decide +kernel
theorem dX11_lowers_44 : decode cX11_lowers 44 = .ok (.iaload, 1) := by decide +kernel
theorem dX11_lowers_45 : decode cX11_lowers 45 = .ok (.istore 5, 2) := by decide +kernel
theorem dX11_lowers_47 : decode cX11_lowers 47 = .ok (.iload 5, 2) := by decide +kernel
theorem dX11_lowers_49 : decode cX11_lowers 49 = .ok (.iconst (-1), 1) := by decide +kernel
theorem dX11_lowers_50 : decode cX11_lowers 50 = .ok (.if_icmp .eq 15, 3) := by decide +kernel
theorem dX11_lowers_53 : decode cX11_lowers 53 = .ok (.aload_n 0, 1) := by decide +kernel
theorem dX11_lowers_54 : decode cX11_lowers 54 = .ok (.getfield 81, 3) := by decide +kernel
theorem dX11_lowers_57 : decode cX11_lowers 57 = .ok (.iload 5, 2) := by decide +kernel
theorem dX11_lowers_59 : decode cX11_lowers 59 = .ok (.baload, 1) := by decide +kernel
theorem dX11_lowers_60 : decode cX11_lowers 60 = .ok (.ifCond .eq 5, 3) := by decide +kernel
theorem dX11_lowers_63 : decode cX11_lowers 63 = .ok (.iconst 0, 1) := by decide +kernel
theorem dX11_lowers_64 : decode cX11_lowers 64 = .ok (.ireturn, 1) := by decide +kernel
theorem dX11_lowers_65 : decode cX11_lowers 65 = .ok (.aload_n 0, 1) := by decide +kernel
theorem dX11_lowers_66 : decode cX11_lowers 66 = .ok (.getfield 84, 3) := by decide +kernel
theorem dX11_lowers_69 : decode cX11_lowers 69 = .ok (.iload_n 2, 1) := by decide +kernel
theorem dX11_lowers_70 : decode cX11_lowers 70 = .ok (.lload_n 3, 1) := by decide +kernel
theorem dX11_lowers_71 : decode cX11_lowers 71 = .ok (.aload_n 0, 1) := by decide +kernel
theorem dX11_lowers_72 : decode cX11_lowers 72 = .ok (.getfield 74, 3) := by decide +kernel
theorem dX11_lowers_75 : decode cX11_lowers 75 = .ok (.bipush 16, 2) := by decide +kernel
theorem dX11_lowers_77 : decode cX11_lowers 77 = .ok (.iload_n 1, 1) := by decide +kernel
theorem dX11_lowers_78 : decode cX11_lowers 78 = .ok (.imul, 1) := by decide +kernel
theorem dX11_lowers_79 : decode cX11_lowers 79 = .ok (.iload_n 2, 1) := by decide +kernel
theorem dX11_lowers_80 : decode cX11_lowers 80 = .ok (.iadd, 1) := by decide +kernel
theorem dX11_lowers_81 : decode cX11_lowers 81 = .ok (.laload, 1) := by decide +kernel
theorem dX11_lowers_82 : decode cX11_lowers 82 = .ok (.ladd, 1) := by decide +kernel
theorem dX11_lowers_83 : decode cX11_lowers 83 = .ok (.lastore, 1) := by decide +kernel
theorem dX11_lowers_84 : decode cX11_lowers 84 = .ok (.aload_n 0, 1) := by decide +kernel
theorem dX11_lowers_85 : decode cX11_lowers 85 = .ok (.getfield 87, 3) := by decide +kernel
theorem dX11_lowers_88 : decode cX11_lowers 88 = .ok (.iload_n 2, 1) := by decide +kernel
theorem dX11_lowers_89 : decode cX11_lowers 89 = .ok (.iload_n 1, 1) := by decide +kernel
theorem dX11_lowers_90 : decode cX11_lowers 90 = .ok (.iastore, 1) := by decide +kernel
theorem dX11_lowers_91 : decode cX11_lowers 91 = .ok (.iconst 1, 1) := by decide +kernel
theorem dX11_lowers_92 : decode cX11_lowers 92 = .ok (.ireturn, 1) := by decide +kernel
theorem dX11_solve_0 : decode cX11_solve 0 = .ok (.aload_n 0, 1) := by decide +kernel
theorem dX11_solve_1 : decode cX11_solve 1 = .ok (.iconst 0, 1) := by decide +kernel
theorem dX11_solve_2 : decode cX11_solve 2 = .ok (.putfield 215, 3) := by decide +kernel
theorem dX11_solve_5 : decode cX11_solve 5 = .ok (.aload_n 0, 1) := by decide +kernel
theorem dX11_solve_6 : decode cX11_solve 6 = .ok (.lconst 0, 1) := by decide +kernel
theorem dX11_solve_7 : decode cX11_solve 7 = .ok (.putfield 211, 3) := by decide +kernel
theorem dX11_solve_10 : decode cX11_solve 10 = .ok (.iconst 0, 1) := by decide +kernel
theorem dX11_solve_11 : decode cX11_solve 11 = .ok (.istore_n 2, 1) := by decide +kernel
theorem dX11_solve_12 : decode cX11_solve 12 = .ok (.iload_n 2, 1) := by decide +kernel
theorem dX11_solve_13 : decode cX11_solve 13 = .ok (.iload_n 1, 1) := by decide +kernel
theorem dX11_solve_14 : decode cX11_solve 14 = .ok (.if_icmp .ge 23, 3) := by decide +kernel
theorem dX11_solve_17 : decode cX11_solve 17 = .ok (.aload_n 0, 1) := by decide +kernel
theorem dX11_solve_18 : decode cX11_solve 18 = .ok (.getfield 62, 3) := by decide +kernel
theorem dX11_solve_21 : decode cX11_solve 21 = .ok (.iload_n 2, 1) := by decide +kernel
theorem dX11_solve_22 : decode cX11_solve 22 = .ok (.iconst (-1), 1) := by decide +kernel
theorem dX11_solve_23 : decode cX11_solve 23 = .ok (.iastore, 1) := by decide +kernel
theorem dX11_solve_24 : decode cX11_solve 24 = .ok (.aload_n 0, 1) := by decide +kernel
theorem dX11_solve_25 : decode cX11_solve 25 = .ok (.getfield 65, 3) := by decide +kernel
theorem dX11_solve_28 : decode cX11_solve 28 = .ok (.iload_n 2, 1) := by decide +kernel
theorem dX11_solve_29 : decode cX11_solve 29 = .ok (.iconst (-1), 1) := by decide +kernel
theorem dX11_solve_30 : decode cX11_solve 30 = .ok (.iastore, 1) := by decide +kernel
theorem dX11_solve_31 : decode cX11_solve 31 = .ok (.iinc 2 1, 3) := by decide +kernel
theorem dX11_solve_34 : decode cX11_solve 34 = .ok (.goto (-22), 3) := by decide +kernel
theorem dX11_solve_37 : decode cX11_solve 37 = .ok (.iconst 0, 1) := by decide +kernel
theorem dX11_solve_38 : decode cX11_solve 38 = .ok (.istore_n 2, 1) := by decide +kernel
theorem dX11_solve_39 : decode cX11_solve 39 = .ok (.iload_n 2, 1) := by decide +kernel
theorem dX11_solve_40 : decode cX11_solve 40 = .ok (.iload_n 1, 1) := by decide +kernel
theorem dX11_solve_41 : decode cX11_solve 41 = .ok (.if_icmp .ge 90, 3) := by decide +kernel
theorem dX11_solve_44 : decode cX11_solve 44 = .ok (.aload_n 0, 1) := by decide +kernel
theorem dX11_solve_45 : decode cX11_solve 45 = .ok (.getfield 81, 3) := by decide +kernel
theorem dX11_solve_48 : decode cX11_solve 48 = .ok (.iload_n 2, 1) := by decide +kernel
theorem dX11_solve_49 : decode cX11_solve 49 = .ok (.baload, 1) := by decide +kernel
theorem dX11_solve_50 : decode cX11_solve 50 = .ok (.ifCond .eq 75, 3) := by decide +kernel
theorem dX11_solve_53 : decode cX11_solve 53 = .ok (.aload_n 0, 1) := by decide +kernel
theorem dX11_solve_54 : decode cX11_solve 54 = .ok (.getfield 71, 3) := by decide +kernel
theorem dX11_solve_57 : decode cX11_solve 57 = .ok (.iload_n 2, 1) := by decide +kernel
theorem dX11_solve_58 : decode cX11_solve 58 = .ok (.iaload, 1) := by decide +kernel
theorem dX11_solve_59 : decode cX11_solve 59 = .ok (.iconst (-1), 1) := by decide +kernel
theorem dX11_solve_60 : decode cX11_solve 60 = .ok (.if_icmp .ne 6, 3) := by decide +kernel
theorem dX11_solve_63 : decode cX11_solve 63 = .ok (.goto 62, 3) := by decide +kernel
theorem dX11_solve_66 : decode cX11_solve 66 = .ok (.aload_n 0, 1) := by decide +kernel
theorem dX11_solve_67 : decode cX11_solve 67 = .ok (.getfield 62, 3) := by decide +kernel
theorem dX11_solve_70 : decode cX11_solve 70 = .ok (.iload_n 2, 1) := by decide +kernel
theorem dX11_solve_71 : decode cX11_solve 71 = .ok (.aload_n 0, 1) := by decide +kernel
theorem dX11_solve_72 : decode cX11_solve 72 = .ok (.getfield 71, 3) := by decide +kernel
theorem dX11_solve_75 : decode cX11_solve 75 = .ok (.iload_n 2, 1) := by decide +kernel
theorem dX11_solve_76 : decode cX11_solve 76 = .ok (.iaload, 1) := by decide +kernel
theorem dX11_solve_77 : decode cX11_solve 77 = .ok (.iastore, 1) := by decide +kernel
theorem dX11_solve_78 : decode cX11_solve 78 = .ok (.aload_n 0, 1) := by decide +kernel
theorem dX11_solve_79 : decode cX11_solve 79 = .ok (.getfield 65, 3) := by decide +kernel
theorem dX11_solve_82 : decode cX11_solve 82 = .ok (.aload_n 0, 1) := by decide +kernel
theorem dX11_solve_83 : decode cX11_solve 83 = .ok (.getfield 71, 3) := by decide +kernel
theorem dX11_solve_86 : decode cX11_solve 86 = .ok (.iload_n 2, 1) := by decide +kernel
theorem dX11_solve_87 : decode cX11_solve 87 = .ok (.iaload, 1) := by decide +kernel
theorem dX11_solve_88 : decode cX11_solve 88 = .ok (.iload_n 2, 1) := by decide +kernel
theorem dX11_solve_89 : decode cX11_solve 89 = .ok (.iastore, 1) := by decide +kernel
theorem dX11_solve_90 : decode cX11_solve 90 = .ok (.aload_n 0, 1) := by decide +kernel
theorem dX11_solve_91 : decode cX11_solve 91 = .ok (.dup, 1) := by decide +kernel
theorem dX11_solve_92 : decode cX11_solve 92 = .ok (.getfield 215, 3) := by decide +kernel
theorem dX11_solve_95 : decode cX11_solve 95 = .ok (.iconst 1, 1) := by decide +kernel
theorem dX11_solve_96 : decode cX11_solve 96 = .ok (.iadd, 1) := by decide +kernel
theorem dX11_solve_97 : decode cX11_solve 97 = .ok (.putfield 215, 3) := by decide +kernel
theorem dX11_solve_100 : decode cX11_solve 100 = .ok (.aload_n 0, 1) := by decide +kernel
theorem dX11_solve_101 : decode cX11_solve 101 = .ok (.dup, 1) := by decide +kernel
theorem dX11_solve_102 : decode cX11_solve 102 = .ok (.getfield 211, 3) := by decide +kernel
theorem dX11_solve_105 : decode cX11_solve 105 = .ok (.aload_n 0, 1) := by decide +kernel
theorem dX11_solve_106 : decode cX11_solve 106 = .ok (.getfield 74, 3) := by decide +kernel
theorem dX11_solve_109 : decode cX11_solve 109 = .ok (.bipush 16, 2) := by decide +kernel
theorem dX11_solve_111 : decode cX11_solve 111 = .ok (.iload_n 2, 1) := by decide +kernel
theorem dX11_solve_112 : decode cX11_solve 112 = .ok (.imul, 1) := by decide +kernel
theorem dX11_solve_113 : decode cX11_solve 113 = .ok (.aload_n 0, 1) := by decide +kernel
theorem dX11_solve_114 : decode cX11_solve 114 = .ok (.getfield 71, 3) := by decide +kernel
theorem dX11_solve_117 : decode cX11_solve 117 = .ok (.iload_n 2, 1) := by decide +kernel
theorem dX11_solve_118 : decode cX11_solve 118 = .ok (.iaload, 1) := by decide +kernel
theorem dX11_solve_119 : decode cX11_solve 119 = .ok (.iadd, 1) := by decide +kernel
theorem dX11_solve_120 : decode cX11_solve 120 = .ok (.laload, 1) := by decide +kernel
theorem dX11_solve_121 : decode cX11_solve 121 = .ok (.ladd, 1) := by decide +kernel
theorem dX11_solve_122 : decode cX11_solve 122 = .ok (.putfield 211, 3) := by decide +kernel
theorem dX11_solve_125 : decode cX11_solve 125 = .ok (.iinc 2 1, 3) := by decide +kernel
theorem dX11_solve_128 : decode cX11_solve 128 = .ok (.goto (-89), 3) := by decide +kernel
theorem dX11_solve_131 : decode cX11_solve 131 = .ok (.iconst 1, 1) := by decide +kernel
theorem dX11_solve_132 : decode cX11_solve 132 = .ok (.istore_n 2, 1) := by decide +kernel
theorem dX11_solve_133 : decode cX11_solve 133 = .ok (.iload_n 2, 1) := by decide +kernel
theorem dX11_solve_134 : decode cX11_solve 134 = .ok (.ifCond .eq 12, 3) := by decide +kernel
theorem dX11_solve_137 : decode cX11_solve 137 = .ok (.aload_n 0, 1) := by decide +kernel
theorem dX11_solve_138 : decode cX11_solve 138 = .ok (.iload_n 1, 1) := by decide +kernel
theorem dX11_solve_139 : decode cX11_solve 139 = .ok (.invokevirtual 218, 3) := by decide +kernel
theorem dX11_solve_142 : decode cX11_solve 142 = .ok (.istore_n 2, 1) := by decide +kernel
theorem dX11_solve_143 : decode cX11_solve 143 = .ok (.goto (-10), 3) := by decide +kernel
theorem dX11_solve_146 : decode cX11_solve 146 = .ok (.return_, 1) := by decide +kernel
theorem dX11_part_0 : decode cX11_part 0 = .ok (.aload_n 0, 1) := by decide +kernel
theorem dX11_part_1 : decode cX11_part 1 = .ok (.iconst 0, 1) := by decide +kernel
theorem dX11_part_2 : decode cX11_part 2 = .ok (.putfield 94, 3) := by decide +kernel
theorem dX11_part_5 : decode cX11_part 5 = .ok (.iload_n 2, 1) := by decide +kernel
theorem dX11_part_6 : decode cX11_part 6 = .ok (.iconst 1, 1) := by decide +kernel
theorem dX11_part_7 : decode cX11_part 7 = .ok (.if_icmp .lt 10, 3) := by decide +kernel
theorem dX11_part_10 : decode cX11_part 10 = .ok (.iload_n 2, 1) := by decide +kernel
theorem dX11_part_11 : decode cX11_part 11 = .ok (.sipush 1000, 3) := by decide +kernel
theorem dX11_part_14 : decode cX11_part 14 = .ok (.if_icmp .le 5, 3) := by decide +kernel
theorem dX11_part_17 : decode cX11_part 17 = .ok (.iconst (-1), 1) := by decide +kernel
theorem dX11_part_18 : decode cX11_part 18 = .ok (.ireturn, 1) := by decide +kernel
theorem dX11_part_19 : decode cX11_part 19 = .ok (.iconst 0, 1) := by decide +kernel
theorem dX11_part_20 : decode cX11_part 20 = .ok (.istore_n 3, 1) := by decide +kernel
theorem dX11_part_21 : decode cX11_part 21 = .ok (.iconst 0, 1) := by decide +kernel
theorem dX11_part_22 : decode cX11_part 22 = .ok (.istore 4, 2) := by decide +kernel
theorem dX11_part_24 : decode cX11_part 24 = .ok (.iload 4, 2) := by decide +kernel
theorem dX11_part_26 : decode cX11_part 26 = .ok (.aload_n 0, 1) := by decide +kernel
theorem dX11_part_27 : decode cX11_part 27 = .ok (.getfield 153, 3) := by decide +kernel
theorem dX11_part_30 : decode cX11_part 30 = .ok (.if_icmp .ge 110, 3) := by decide +kernel
theorem dX11_part_33 : decode cX11_part 33 = .ok (.aload_n 0, 1) := by decide +kernel
theorem dX11_part_34 : decode cX11_part 34 = .ok (.getfield 25, 3) := by decide +kernel
theorem dX11_part_37 : decode cX11_part 37 = .ok (.bipush 8, 2) := by decide +kernel
theorem dX11_part_39 : decode cX11_part 39 = .ok (.iload 4, 2) := by decide +kernel
theorem dX11_part_41 : decode cX11_part 41 = .ok (.imul, 1) := by decide +kernel
theorem dX11_part_42 : decode cX11_part 42 = .ok (.iaload, 1) := by decide +kernel
theorem dX11_part_43 : decode cX11_part 43 = .ok (.iconst 1, 1) := by decide +kernel
theorem dX11_part_44 : decode cX11_part 44 = .ok (.if_icmp .ne 90, 3) := by decide +kernel
theorem dX11_part_47 : decode cX11_part 47 = .ok (.aload_n 0, 1) := by decide +kernel
theorem dX11_part_48 : decode cX11_part 48 = .ok (.getfield 25, 3) := by decide +kernel
theorem dX11_part_51 : decode cX11_part 51 = .ok (.bipush 8, 2) := by decide +kernel
theorem dX11_part_53 : decode cX11_part 53 = .ok (.iload 4, 2) := by decide +kernel
theorem dX11_part_55 : decode cX11_part 55 = .ok (.imul, 1) := by decide +kernel
theorem dX11_part_56 : decode cX11_part 56 = .ok (.iconst 1, 1) := by decide +kernel
theorem dX11_part_57 : decode cX11_part 57 = .ok (.iadd, 1) := by decide +kernel
theorem dX11_part_58 : decode cX11_part 58 = .ok (.iaload, 1) := by decide +kernel
theorem dX11_part_59 : decode cX11_part 59 = .ok (.iload_n 1, 1) := by decide +kernel
theorem dX11_part_60 : decode cX11_part 60 = .ok (.if_icmp .eq 6, 3) := by decide +kernel
theorem dX11_part_63 : decode cX11_part 63 = .ok (.goto 71, 3) := by decide +kernel
theorem dX11_part_66 : decode cX11_part 66 = .ok (.iload_n 3, 1) := by decide +kernel
theorem dX11_part_67 : decode cX11_part 67 = .ok (.bipush 16, 2) := by decide +kernel
theorem dX11_part_69 : decode cX11_part 69 = .ok (.if_icmp .ne 5, 3) := by decide +kernel
theorem dX11_part_72 : decode cX11_part 72 = .ok (.iconst (-1), 1) := by decide +kernel
theorem dX11_part_73 : decode cX11_part 73 = .ok (.ireturn, 1) := by decide +kernel
theorem dX11_part_74 : decode cX11_part 74 = .ok (.iload_n 3, 1) := by decide +kernel
theorem dX11_part_75 : decode cX11_part 75 = .ok (.istore 5, 2) := by decide +kernel
theorem dX11_part_77 : decode cX11_part 77 = .ok (.iload 5, 2) := by decide +kernel
theorem dX11_part_79 : decode cX11_part 79 = .ok (.ifCond .le 43, 3) := by decide +kernel
theorem dX11_part_82 : decode cX11_part 82 = .ok (.aload_n 0, 1) := by decide +kernel
theorem dX11_part_83 : decode cX11_part 83 = .ok (.iload 4, 2) := by decide +kernel
theorem dX11_part_85 : decode cX11_part 85 = .ok (.aload_n 0, 1) := by decide +kernel
theorem dX11_part_86 : decode cX11_part 86 = .ok (.getfield 59, 3) := by decide +kernel
theorem dX11_part_89 : decode cX11_part 89 = .ok (.iload 5, 2) := by decide +kernel
theorem dX11_part_91 : decode cX11_part 91 = .ok (.iconst 1, 1) := by decide +kernel
theorem dX11_part_92 : decode cX11_part 92 = .ok (.isub, 1) := by decide +kernel
theorem dX11_part_93 : decode cX11_part 93 = .ok (.iaload, 1) := by decide +kernel
theorem dX11_part_94 : decode cX11_part 94 = .ok (.invokevirtual 222, 3) := by decide +kernel
theorem dX11_part_97 : decode cX11_part 97 = .ok (.ifCond .eq 25, 3) := by decide +kernel
theorem dX11_part_100 : decode cX11_part 100 = .ok (.aload_n 0, 1) := by decide +kernel
theorem dX11_part_101 : decode cX11_part 101 = .ok (.getfield 59, 3) := by decide +kernel
theorem dX11_part_104 : decode cX11_part 104 = .ok (.iload 5, 2) := by decide +kernel
theorem dX11_part_106 : decode cX11_part 106 = .ok (.aload_n 0, 1) := by decide +kernel
theorem dX11_part_107 : decode cX11_part 107 = .ok (.getfield 59, 3) := by decide +kernel
theorem dX11_part_110 : decode cX11_part 110 = .ok (.iload 5, 2) := by decide +kernel
theorem dX11_part_112 : decode cX11_part 112 = .ok (.iconst 1, 1) := by decide +kernel
theorem dX11_part_113 : decode cX11_part 113 = .ok (.isub, 1) := by decide +kernel
theorem dX11_part_114 : decode cX11_part 114 = .ok (.iaload, 1) := by decide +kernel
theorem dX11_part_115 : decode cX11_part 115 = .ok (.iastore, 1) := by decide +kernel
theorem dX11_part_116 : decode cX11_part 116 = .ok (.iinc 5 (-1), 3) := by decide +kernel
theorem dX11_part_119 : decode cX11_part 119 = .ok (.goto (-42), 3) := by decide +kernel
theorem dX11_part_122 : decode cX11_part 122 = .ok (.aload_n 0, 1) := by decide +kernel
theorem dX11_part_123 : decode cX11_part 123 = .ok (.getfield 59, 3) := by decide +kernel
theorem dX11_part_126 : decode cX11_part 126 = .ok (.iload 5, 2) := by decide +kernel
theorem dX11_part_128 : decode cX11_part 128 = .ok (.iload 4, 2) := by decide +kernel
theorem dX11_part_130 : decode cX11_part 130 = .ok (.iastore, 1) := by decide +kernel
theorem dX11_part_131 : decode cX11_part 131 = .ok (.iinc 3 1, 3) := by decide +kernel
theorem dX11_part_134 : decode cX11_part 134 = .ok (.iinc 4 1, 3) := by decide +kernel
theorem dX11_part_137 : decode cX11_part 137 = .ok (.goto (-113), 3) := by decide +kernel
theorem dX11_part_140 : decode cX11_part 140 = .ok (.iload_n 3, 1) := by decide +kernel
theorem dX11_part_141 : decode cX11_part 141 = .ok (.ifCond .ne 5, 3) := by decide +kernel
theorem dX11_part_144 : decode cX11_part 144 = .ok (.iconst (-1), 1) := by decide +kernel
theorem dX11_part_145 : decode cX11_part 145 = .ok (.ireturn, 1) := by decide +kernel
theorem dX11_part_146 : decode cX11_part 146 = .ok (.iconst 0, 1) := by decide +kernel
theorem dX11_part_147 : decode cX11_part 147 = .ok (.istore 4, 2) := by decide +kernel
theorem dX11_part_149 : decode cX11_part 149 = .ok (.iload 4, 2) := by decide +kernel
theorem dX11_part_151 : decode cX11_part 151 = .ok (.iload_n 3, 1) := by decide +kernel
theorem dX11_part_152 : decode cX11_part 152 = .ok (.if_icmp .ge 232, 3) := by decide +kernel
theorem dX11_part_155 : decode cX11_part 155 = .ok (.aload_n 0, 1) := by decide +kernel
theorem dX11_part_156 : decode cX11_part 156 = .ok (.getfield 56, 3) := by decide +kernel
theorem dX11_part_159 : decode cX11_part 159 = .ok (.iload 4, 2) := by decide +kernel
theorem dX11_part_161 : decode cX11_part 161 = .ok (.aload_n 0, 1) := by decide +kernel
theorem dX11_part_162 : decode cX11_part 162 = .ok (.getfield 59, 3) := by decide +kernel
theorem dX11_part_165 : decode cX11_part 165 = .ok (.iload 4, 2) := by decide +kernel
theorem dX11_part_167 : decode cX11_part 167 = .ok (.iaload, 1) := by decide +kernel
theorem dX11_part_168 : decode cX11_part 168 = .ok (.iastore, 1) := by decide +kernel
theorem dX11_part_169 : decode cX11_part 169 = .ok (.aload_n 0, 1) := by decide +kernel
theorem dX11_part_170 : decode cX11_part 170 = .ok (.getfield 81, 3) := by decide +kernel
theorem dX11_part_173 : decode cX11_part 173 = .ok (.iload 4, 2) := by decide +kernel
theorem dX11_part_175 : decode cX11_part 175 = .ok (.iconst 0, 1) := by decide +kernel
theorem dX11_part_176 : decode cX11_part 176 = .ok (.bastore, 1) := by decide +kernel
theorem dX11_part_177 : decode cX11_part 177 = .ok (.iconst 0, 1) := by decide +kernel
theorem dX11_part_178 : decode cX11_part 178 = .ok (.istore 5, 2) := by decide +kernel
theorem dX11_part_180 : decode cX11_part 180 = .ok (.iload 5, 2) := by decide +kernel
theorem dX11_part_182 : decode cX11_part 182 = .ok (.iload_n 3, 1) := by decide +kernel
theorem dX11_part_183 : decode cX11_part 183 = .ok (.if_icmp .ge 195, 3) := by decide +kernel
theorem dX11_part_186 : decode cX11_part 186 = .ok (.aload_n 0, 1) := by decide +kernel
theorem dX11_part_187 : decode cX11_part 187 = .ok (.getfield 25, 3) := by decide +kernel
theorem dX11_part_190 : decode cX11_part 190 = .ok (.bipush 8, 2) := by decide +kernel
theorem dX11_part_192 : decode cX11_part 192 = .ok (.aload_n 0, 1) := by decide +kernel
theorem dX11_part_193 : decode cX11_part 193 = .ok (.getfield 59, 3) := by decide +kernel
theorem dX11_part_196 : decode cX11_part 196 = .ok (.iload 4, 2) := by decide +kernel
theorem dX11_part_198 : decode cX11_part 198 = .ok (.iaload, 1) := by decide +kernel
theorem dX11_part_199 : decode cX11_part 199 = .ok (.imul, 1) := by decide +kernel
theorem dX11_part_200 : decode cX11_part 200 = .ok (.iconst 4, 1) := by decide +kernel
theorem dX11_part_201 : decode cX11_part 201 = .ok (.iadd, 1) := by decide +kernel
theorem dX11_part_202 : decode cX11_part 202 = .ok (.iaload, 1) := by decide +kernel
theorem dX11_part_203 : decode cX11_part 203 = .ok (.aload_n 0, 1) := by decide +kernel
theorem dX11_part_204 : decode cX11_part 204 = .ok (.getfield 25, 3) := by decide +kernel
theorem dX11_part_207 : decode cX11_part 207 = .ok (.bipush 8, 2) := by decide +kernel
theorem dX11_part_209 : decode cX11_part 209 = .ok (.aload_n 0, 1) := by decide +kernel
theorem dX11_part_210 : decode cX11_part 210 = .ok (.getfield 59, 3) := by decide +kernel
theorem dX11_part_213 : decode cX11_part 213 = .ok (.iload 5, 2) := by decide +kernel
theorem dX11_part_215 : decode cX11_part 215 = .ok (.iaload, 1) := by decide +kernel
theorem dX11_part_216 : decode cX11_part 216 = .ok (.imul, 1) := by decide +kernel
theorem dX11_part_217 : decode cX11_part 217 = .ok (.iconst 4, 1) := by decide +kernel
theorem dX11_part_218 : decode cX11_part 218 = .ok (.iadd, 1) := by decide +kernel
theorem dX11_part_219 : decode cX11_part 219 = .ok (.iaload, 1) := by decide +kernel
theorem dX11_part_220 : decode cX11_part 220 = .ok (.isub, 1) := by decide +kernel
theorem dX11_part_221 : decode cX11_part 221 = .ok (.i2l, 1) := by decide +kernel
theorem dX11_part_222 : decode cX11_part 222 = .ok (.lstore 6, 2) := by decide +kernel
theorem dX11_part_224 : decode cX11_part 224 = .ok (.aload_n 0, 1) := by decide +kernel
theorem dX11_part_225 : decode cX11_part 225 = .ok (.getfield 25, 3) := by decide +kernel
theorem dX11_part_228 : decode cX11_part 228 = .ok (.bipush 8, 2) := by decide +kernel
theorem dX11_part_230 : decode cX11_part 230 = .ok (.aload_n 0, 1) := by decide +kernel
theorem dX11_part_231 : decode cX11_part 231 = .ok (.getfield 59, 3) := by decide +kernel
theorem dX11_part_234 : decode cX11_part 234 = .ok (.iload 4, 2) := by decide +kernel
theorem dX11_part_236 : decode cX11_part 236 = .ok (.iaload, 1) := by decide +kernel
theorem dX11_part_237 : decode cX11_part 237 = .ok (.imul, 1) := by decide +kernel
theorem dX11_part_238 : decode cX11_part 238 = .ok (.iconst 5, 1) := by decide +kernel
theorem dX11_part_239 : decode cX11_part 239 = .ok (.iadd, 1) := by decide +kernel
theorem dX11_part_240 : decode cX11_part 240 = .ok (.iaload, 1) := by decide +kernel
theorem dX11_part_241 : decode cX11_part 241 = .ok (.aload_n 0, 1) := by decide +kernel
theorem dX11_part_242 : decode cX11_part 242 = .ok (.getfield 25, 3) := by decide +kernel
theorem dX11_part_245 : decode cX11_part 245 = .ok (.bipush 8, 2) := by decide +kernel
theorem dX11_part_247 : decode cX11_part 247 = .ok (.aload_n 0, 1) := by decide +kernel
theorem dX11_part_248 : decode cX11_part 248 = .ok (.getfield 59, 3) := by decide +kernel
theorem dX11_part_251 : decode cX11_part 251 = .ok (.iload 5, 2) := by decide +kernel
theorem dX11_part_253 : decode cX11_part 253 = .ok (.iaload, 1) := by decide +kernel
theorem dX11_part_254 : decode cX11_part 254 = .ok (.imul, 1) := by decide +kernel
theorem dX11_part_255 : decode cX11_part 255 = .ok (.iconst 5, 1) := by decide +kernel
theorem dX11_part_256 : decode cX11_part 256 = .ok (.iadd, 1) := by decide +kernel
theorem dX11_part_257 : decode cX11_part 257 = .ok (.iaload, 1) := by decide +kernel
theorem dX11_part_258 : decode cX11_part 258 = .ok (.isub, 1) := by decide +kernel
theorem dX11_part_259 : decode cX11_part 259 = .ok (.i2l, 1) := by decide +kernel
theorem dX11_part_260 : decode cX11_part 260 = .ok (.lstore 8, 2) := by decide +kernel
theorem dX11_part_262 : decode cX11_part 262 = .ok (.iload_n 2, 1) := by decide +kernel
theorem dX11_part_263 : decode cX11_part 263 = .ok (.i2l, 1) := by decide +kernel
theorem dX11_part_264 : decode cX11_part 264 = .ok (.aload_n 0, 1) := by decide +kernel
theorem dX11_part_265 : decode cX11_part 265 = .ok (.getfield 25, 3) := by decide +kernel
theorem dX11_part_268 : decode cX11_part 268 = .ok (.bipush 8, 2) := by decide +kernel
theorem dX11_part_270 : decode cX11_part 270 = .ok (.aload_n 0, 1) := by decide +kernel
theorem dX11_part_271 : decode cX11_part 271 = .ok (.getfield 59, 3) := by decide +kernel
theorem dX11_part_274 : decode cX11_part 274 = .ok (.iload 4, 2) := by decide +kernel
theorem dX11_part_276 : decode cX11_part 276 = .ok (.iaload, 1) := by decide +kernel
theorem dX11_part_277 : decode cX11_part 277 = .ok (.imul, 1) := by decide +kernel
theorem dX11_part_278 : decode cX11_part 278 = .ok (.iconst 3, 1) := by decide +kernel
theorem dX11_part_279 : decode cX11_part 279 = .ok (.iadd, 1) := by decide +kernel
theorem dX11_part_280 : decode cX11_part 280 = .ok (.iaload, 1) := by decide +kernel
theorem dX11_part_281 : decode cX11_part 281 = .ok (.aload_n 0, 1) := by decide +kernel
theorem dX11_part_282 : decode cX11_part 282 = .ok (.getfield 25, 3) := by decide +kernel
theorem dX11_part_285 : decode cX11_part 285 = .ok (.bipush 8, 2) := by decide +kernel
theorem dX11_part_287 : decode cX11_part 287 = .ok (.aload_n 0, 1) := by decide +kernel
theorem dX11_part_288 : decode cX11_part 288 = .ok (.getfield 59, 3) := by decide +kernel
theorem dX11_part_291 : decode cX11_part 291 = .ok (.iload 5, 2) := by decide +kernel
theorem dX11_part_293 : decode cX11_part 293 = .ok (.iaload, 1) := by decide +kernel
theorem dX11_part_294 : decode cX11_part 294 = .ok (.imul, 1) := by decide +kernel
theorem dX11_part_295 : decode cX11_part 295 = .ok (.iconst 3, 1) := by decide +kernel
theorem dX11_part_296 : decode cX11_part 296 = .ok (.iadd, 1) := by decide +kernel
theorem dX11_part_297 : decode cX11_part 297 = .ok (.iaload, 1) := by decide +kernel
theorem dX11_part_298 : decode cX11_part 298 = .ok (.isub, 1) := by decide +kernel
theorem dX11_part_299 : decode cX11_part 299 = .ok (.i2l, 1) := by decide +kernel
theorem dX11_part_300 : decode cX11_part 300 = .ok (.lmul, 1) := by decide +kernel
theorem dX11_part_301 : decode cX11_part 301 = .ok (.lstore 10, 2) := by decide +kernel
theorem dX11_part_303 : decode cX11_part 303 = .ok (.aload_n 0, 1) := by decide +kernel
theorem dX11_part_304 : decode cX11_part 304 = .ok (.getfield 74, 3) := by decide +kernel
theorem dX11_part_307 : decode cX11_part 307 = .ok (.bipush 16, 2) := by decide +kernel
theorem dX11_part_309 : decode cX11_part 309 = .ok (.iload 4, 2) := by decide +kernel
theorem dX11_part_311 : decode cX11_part 311 = .ok (.imul, 1) := by decide +kernel
theorem dX11_part_312 : decode cX11_part 312 = .ok (.iload 5, 2) := by decide +kernel
theorem dX11_part_314 : decode cX11_part 314 = .ok (.iadd, 1) := by decide +kernel
theorem dX11_part_315 : decode cX11_part 315 = .ok (.lload 6, 2) := by decide +kernel
theorem dX11_part_317 : decode cX11_part 317 = .ok (.lload 6, 2) := by decide +kernel
theorem dX11_part_319 : decode cX11_part 319 = .ok (.lmul, 1) := by decide +kernel
theorem dX11_part_320 : decode cX11_part 320 = .ok (.lload 8, 2) := by decide +kernel
theorem dX11_part_322 : decode cX11_part 322 = .ok (.lload 8, 2) := by decide +kernel
theorem dX11_part_324 : decode cX11_part 324 = .ok (.lmul, 1) := by decide +kernel
theorem dX11_part_325 : decode cX11_part 325 = .ok (.ladd, 1) := by decide +kernel
theorem dX11_part_326 : decode cX11_part 326 = .ok (.lastore, 1) := by decide +kernel
theorem dX11_part_327 : decode cX11_part 327 = .ok (.aload_n 0, 1) := by decide +kernel
theorem dX11_part_328 : decode cX11_part 328 = .ok (.getfield 78, 3) := by decide +kernel
theorem dX11_part_331 : decode cX11_part 331 = .ok (.bipush 16, 2) := by decide +kernel
theorem dX11_part_333 : decode cX11_part 333 = .ok (.iload 4, 2) := by decide +kernel
theorem dX11_part_335 : decode cX11_part 335 = .ok (.imul, 1) := by decide +kernel
theorem dX11_part_336 : decode cX11_part 336 = .ok (.iload 5, 2) := by decide +kernel
theorem dX11_part_338 : decode cX11_part 338 = .ok (.iadd, 1) := by decide +kernel
theorem dX11_part_339 : decode cX11_part 339 = .ok (.lload 10, 2) := by decide +kernel
theorem dX11_part_341 : decode cX11_part 341 = .ok (.lconst 0, 1) := by decide +kernel
theorem dX11_part_342 : decode cX11_part 342 = .ok (.lcmp, 1) := by decide +kernel
theorem dX11_part_343 : decode cX11_part 343 = .ok (.ifCond .le 27, 3) := by decide +kernel
theorem dX11_part_346 : decode cX11_part 346 = .ok (.lload 6, 2) := by decide +kernel
theorem dX11_part_348 : decode cX11_part 348 = .ok (.lload 6, 2) := by decide +kernel
theorem dX11_part_350 : decode cX11_part 350 = .ok (.lmul, 1) := by decide +kernel
theorem dX11_part_351 : decode cX11_part 351 = .ok (.lload 8, 2) := by decide +kernel
theorem dX11_part_353 : decode cX11_part 353 = .ok (.lload 8, 2) := by decide +kernel
theorem dX11_part_355 : decode cX11_part 355 = .ok (.lmul, 1) := by decide +kernel
theorem dX11_part_356 : decode cX11_part 356 = .ok (.ladd, 1) := by decide +kernel
theorem dX11_part_357 : decode cX11_part 357 = .ok (.lload 10, 2) := by decide +kernel
theorem dX11_part_359 : decode cX11_part 359 = .ok (.lload 10, 2) := by decide +kernel
theorem dX11_part_361 : decode cX11_part 361 = .ok (.lmul, 1) := by decide +kernel
theorem dX11_part_362 : decode cX11_part 362 = .ok (.lcmp, 1) := by decide +kernel
theorem dX11_part_363 : decode cX11_part 363 = .ok (.ifCond .gt 7, 3) := by decide +kernel
theorem dX11_part_366 : decode cX11_part 366 = .ok (.iconst 1, 1) := by decide +kernel
theorem dX11_part_367 : decode cX11_part 367 = .ok (.goto 4, 3) := by decide +kernel
theorem dX11_part_370 : decode cX11_part 370 = .ok (.iconst 0, 1) := by decide +kernel
theorem dX11_part_371 : decode cX11_part 371 = .ok (.bastore, 1) := by decide +kernel
theorem dX11_part_372 : decode cX11_part 372 = .ok (.iinc 5 1, 3) := by decide +kernel
theorem dX11_part_375 : decode cX11_part 375 = .ok (.goto (-195), 3) := by decide +kernel
theorem dX11_part_378 : decode cX11_part 378 = .ok (.iinc 4 1, 3) := by decide +kernel
theorem dX11_part_381 : decode cX11_part 381 = .ok (.goto (-232), 3) := by decide +kernel
theorem dX11_part_384 : decode cX11_part 384 = .ok (.aload_n 0, 1) := by decide +kernel
theorem dX11_part_385 : decode cX11_part 385 = .ok (.iload_n 3, 1) := by decide +kernel
theorem dX11_part_386 : decode cX11_part 386 = .ok (.putfield 225, 3) := by decide +kernel
theorem dX11_part_389 : decode cX11_part 389 = .ok (.aload_n 0, 1) := by decide +kernel
theorem dX11_part_390 : decode cX11_part 390 = .ok (.iload_n 3, 1) := by decide +kernel
theorem dX11_part_391 : decode cX11_part 391 = .ok (.invokevirtual 228, 3) := by decide +kernel
theorem dX11_part_394 : decode cX11_part 394 = .ok (.aload_n 0, 1) := by decide +kernel
theorem dX11_part_395 : decode cX11_part 395 = .ok (.getfield 215, 3) := by decide +kernel
theorem dX11_part_398 : decode cX11_part 398 = .ok (.istore 4, 2) := by decide +kernel
theorem dX11_part_400 : decode cX11_part 400 = .ok (.aload_n 0, 1) := by decide +kernel
theorem dX11_part_401 : decode cX11_part 401 = .ok (.aload_n 0, 1) := by decide +kernel
theorem dX11_part_402 : decode cX11_part 402 = .ok (.getfield 211, 3) := by decide +kernel
theorem dX11_part_405 : decode cX11_part 405 = .ok (.putfield 231, 3) := by decide +kernel
theorem dX11_part_408 : decode cX11_part 408 = .ok (.iconst 0, 1) := by decide +kernel
theorem dX11_part_409 : decode cX11_part 409 = .ok (.istore 5, 2) := by decide +kernel
theorem dX11_part_411 : decode cX11_part 411 = .ok (.iload 5, 2) := by decide +kernel
theorem dX11_part_413 : decode cX11_part 413 = .ok (.iload_n 3, 1) := by decide +kernel
theorem dX11_part_414 : decode cX11_part 414 = .ok (.if_icmp .ge 106, 3) := by decide +kernel
theorem dX11_part_417 : decode cX11_part 417 = .ok (.aload_n 0, 1) := by decide +kernel
theorem dX11_part_418 : decode cX11_part 418 = .ok (.getfield 81, 3) := by decide +kernel
theorem dX11_part_421 : decode cX11_part 421 = .ok (.iload 5, 2) := by decide +kernel
theorem dX11_part_423 : decode cX11_part 423 = .ok (.iconst 1, 1) := by decide +kernel
theorem dX11_part_424 : decode cX11_part 424 = .ok (.bastore, 1) := by decide +kernel
theorem dX11_part_425 : decode cX11_part 425 = .ok (.iconst 0, 1) := by decide +kernel
theorem dX11_part_426 : decode cX11_part 426 = .ok (.istore 6, 2) := by decide +kernel
theorem dX11_part_428 : decode cX11_part 428 = .ok (.iconst 0, 1) := by decide +kernel
theorem dX11_part_429 : decode cX11_part 429 = .ok (.istore 7, 2) := by decide +kernel
theorem dX11_part_431 : decode cX11_part 431 = .ok (.iload 7, 2) := by decide +kernel
theorem dX11_part_433 : decode cX11_part 433 = .ok (.iload_n 3, 1) := by decide +kernel
theorem dX11_part_434 : decode cX11_part 434 = .ok (.if_icmp .ge 67, 3) := by decide +kernel
theorem dX11_part_437 : decode cX11_part 437 = .ok (.iload 6, 2) := by decide +kernel
theorem dX11_part_439 : decode cX11_part 439 = .ok (.ifCond .ne 62, 3) := by decide +kernel
theorem dX11_part_442 : decode cX11_part 442 = .ok (.aload_n 0, 1) := by decide +kernel
theorem dX11_part_443 : decode cX11_part 443 = .ok (.getfield 71, 3) := by decide +kernel
theorem dX11_part_446 : decode cX11_part 446 = .ok (.iload 5, 2) := by decide +kernel
theorem dX11_part_448 : decode cX11_part 448 = .ok (.iload 7, 2) := by decide +kernel
theorem dX11_part_450 : decode cX11_part 450 = .ok (.iastore, 1) := by decide +kernel
theorem dX11_part_451 : decode cX11_part 451 = .ok (.aload_n 0, 1) := by decide +kernel
theorem dX11_part_452 : decode cX11_part 452 = .ok (.getfield 78, 3) := by decide +kernel
theorem dX11_part_455 : decode cX11_part 455 = .ok (.bipush 16, 2) := by decide +kernel
theorem dX11_part_457 : decode cX11_part 457 = .ok (.iload 5, 2) := by decide +kernel
theorem dX11_part_459 : decode cX11_part 459 = .ok (.imul, 1) := by decide +kernel
theorem dX11_part_460 : decode cX11_part 460 = .ok (.iload 7, 2) := by decide +kernel
theorem dX11_part_462 : decode cX11_part 462 = .ok (.iadd, 1) := by decide +kernel
theorem dX11_part_463 : decode cX11_part 463 = .ok (.baload, 1) := by decide +kernel
theorem dX11_part_464 : decode cX11_part 464 = .ok (.ifCond .eq 28, 3) := by decide +kernel
theorem dX11_part_467 : decode cX11_part 467 = .ok (.aload_n 0, 1) := by decide +kernel
theorem dX11_part_468 : decode cX11_part 468 = .ok (.iload 5, 2) := by decide +kernel
theorem dX11_part_470 : decode cX11_part 470 = .ok (.iload 7, 2) := by decide +kernel
theorem dX11_part_472 : decode cX11_part 472 = .ok (.invokevirtual 234, 3) := by decide +kernel
theorem dX11_part_475 : decode cX11_part 475 = .ok (.ifCond .eq 17, 3) := by decide +kernel
theorem dX11_part_478 : decode cX11_part 478 = .ok (.aload_n 0, 1) := by decide +kernel
theorem dX11_part_479 : decode cX11_part 479 = .ok (.iload_n 3, 1) := by decide +kernel
theorem dX11_part_480 : decode cX11_part 480 = .ok (.iload 4, 2) := by decide +kernel
theorem dX11_part_482 : decode cX11_part 482 = .ok (.invokevirtual 237, 3) := by decide +kernel
theorem dX11_part_485 : decode cX11_part 485 = .ok (.ifCond .eq 7, 3) := by decide +kernel
theorem dX11_part_488 : decode cX11_part 488 = .ok (.iconst 1, 1) := by decide +kernel
theorem dX11_part_489 : decode cX11_part 489 = .ok (.goto 4, 3) := by decide +kernel
theorem dX11_part_492 : decode cX11_part 492 = .ok (.iconst 0, 1) := by decide +kernel
theorem dX11_part_493 : decode cX11_part 493 = .ok (.istore 6, 2) := by decide +kernel
theorem dX11_part_495 : decode cX11_part 495 = .ok (.iinc 7 1, 3) := by decide +kernel
theorem dX11_part_498 : decode cX11_part 498 = .ok (.goto (-67), 3) := by decide +kernel
theorem dX11_part_501 : decode cX11_part 501 = .ok (.iload 6, 2) := by decide +kernel
theorem dX11_part_503 : decode cX11_part 503 = .ok (.ifCond .ne 11, 3) := by decide +kernel
theorem dX11_part_506 : decode cX11_part 506 = .ok (.aload_n 0, 1) := by decide +kernel
theorem dX11_part_507 : decode cX11_part 507 = .ok (.getfield 71, 3) := by decide +kernel
theorem dX11_part_510 : decode cX11_part 510 = .ok (.iload 5, 2) := by decide +kernel
theorem dX11_part_512 : decode cX11_part 512 = .ok (.iconst (-1), 1) := by decide +kernel
theorem dX11_part_513 : decode cX11_part 513 = .ok (.iastore, 1) := by decide +kernel
theorem dX11_part_514 : decode cX11_part 514 = .ok (.iinc 5 1, 3) := by decide +kernel
theorem dX11_part_517 : decode cX11_part 517 = .ok (.goto (-106), 3) := by decide +kernel
theorem dX11_part_520 : decode cX11_part 520 = .ok (.iconst 0, 1) := by decide +kernel
theorem dX11_part_521 : decode cX11_part 521 = .ok (.istore 5, 2) := by decide +kernel
theorem dX11_part_523 : decode cX11_part 523 = .ok (.iconst 0, 1) := by decide +kernel
theorem dX11_part_524 : decode cX11_part 524 = .ok (.istore 6, 2) := by decide +kernel
theorem dX11_part_526 : decode cX11_part 526 = .ok (.iload 6, 2) := by decide +kernel
theorem dX11_part_528 : decode cX11_part 528 = .ok (.iload_n 3, 1) := by decide +kernel
theorem dX11_part_529 : decode cX11_part 529 = .ok (.if_icmp .ge 58, 3) := by decide +kernel
theorem dX11_part_532 : decode cX11_part 532 = .ok (.aload_n 0, 1) := by decide +kernel
theorem dX11_part_533 : decode cX11_part 533 = .ok (.getfield 68, 3) := by decide +kernel
theorem dX11_part_536 : decode cX11_part 536 = .ok (.iload 6, 2) := by decide +kernel
theorem dX11_part_538 : decode cX11_part 538 = .ok (.aload_n 0, 1) := by decide +kernel
theorem dX11_part_539 : decode cX11_part 539 = .ok (.getfield 71, 3) := by decide +kernel
theorem dX11_part_542 : decode cX11_part 542 = .ok (.iload 6, 2) := by decide +kernel
theorem dX11_part_544 : decode cX11_part 544 = .ok (.iaload, 1) := by decide +kernel
theorem dX11_part_545 : decode cX11_part 545 = .ok (.iconst (-1), 1) := by decide +kernel
theorem dX11_part_546 : decode cX11_part 546 = .ok (.if_icmp .ne 8, 3) := by decide +kernel
theorem dX11_part_549 : decode cX11_part 549 = .ok (.iload 5, 2) := by decide +kernel
theorem dX11_part_551 : decode cX11_part 551 = .ok (.goto 15, 3) := by decide +kernel
theorem dX11_part_554 : decode cX11_part 554 = .ok (.aload_n 0, 1) := by decide +kernel
theorem dX11_part_555 : decode cX11_part 555 = .ok (.getfield 68, 3) := by decide +kernel
theorem dX11_part_558 : decode cX11_part 558 = .ok (.aload_n 0, 1) := by decide +kernel
theorem dX11_part_559 : decode cX11_part 559 = .ok (.getfield 71, 3) := by decide +kernel
theorem dX11_part_562 : decode cX11_part 562 = .ok (.iload 6, 2) := by decide +kernel
theorem dX11_part_564 : decode cX11_part 564 = .ok (.iaload, 1) := by decide +kernel
theorem dX11_part_565 : decode cX11_part 565 = .ok (.iaload, 1) := by decide +kernel
theorem dX11_part_566 : decode cX11_part 566 = .ok (.iastore, 1) := by decide +kernel
theorem dX11_part_567 : decode cX11_part 567 = .ok (.aload_n 0, 1) := by decide +kernel
theorem dX11_part_568 : decode cX11_part 568 = .ok (.getfield 71, 3) := by decide +kernel
theorem dX11_part_571 : decode cX11_part 571 = .ok (.iload 6, 2) := by decide +kernel
theorem dX11_part_573 : decode cX11_part 573 = .ok (.iaload, 1) := by decide +kernel
theorem dX11_part_574 : decode cX11_part 574 = .ok (.iconst (-1), 1) := by decide +kernel
theorem dX11_part_575 : decode cX11_part 575 = .ok (.if_icmp .ne 6, 3) := by decide +kernel
theorem dX11_part_578 : decode cX11_part 578 = .ok (.iinc 5 1, 3) := by decide +kernel
theorem dX11_part_581 : decode cX11_part 581 = .ok (.iinc 6 1, 3) := by decide +kernel
theorem dX11_part_584 : decode cX11_part 584 = .ok (.goto (-58), 3) := by decide +kernel
theorem dX11_part_587 : decode cX11_part 587 = .ok (.iload 5, 2) := by decide +kernel
theorem dX11_part_589 : decode cX11_part 589 = .ok (.ireturn, 1) := by decide +kernel
theorem dX11_isFree_0 : decode cX11_isFree 0 = .ok (.iconst 0, 1) := by decide +kernel
theorem dX11_isFree_1 : decode cX11_isFree 1 = .ok (.istore_n 3, 1) := by decide +kernel
theorem dX11_isFree_2 : decode cX11_isFree 2 = .ok (.iload_n 3, 1) := by decide +kernel
theorem dX11_isFree_3 : decode cX11_isFree 3 = .ok (.iload_n 1, 1) := by decide +kernel
theorem dX11_isFree_4 : decode cX11_isFree 4 = .ok (.if_icmp .ge 21, 3) := by decide +kernel
theorem dX11_isFree_7 : decode cX11_isFree 7 = .ok (.aload_n 0, 1) := by decide +kernel
theorem dX11_isFree_8 : decode cX11_isFree 8 = .ok (.getfield 71, 3) := by decide +kernel
theorem dX11_isFree_11 : decode cX11_isFree 11 = .ok (.iload_n 3, 1) := by decide +kernel
theorem dX11_isFree_12 : decode cX11_isFree 12 = .ok (.iaload, 1) := by decide +kernel
theorem dX11_isFree_13 : decode cX11_isFree 13 = .ok (.iload_n 2, 1) := by decide +kernel
theorem dX11_isFree_14 : decode cX11_isFree 14 = .ok (.if_icmp .ne 5, 3) := by decide +kernel
theorem dX11_isFree_17 : decode cX11_isFree 17 = .ok (.iconst 0, 1) := by decide +kernel
theorem dX11_isFree_18 : decode cX11_isFree 18 = .ok (.ireturn, 1) := by decide +kernel
theorem dX11_isFree_19 : decode cX11_isFree 19 = .ok (.iinc 3 1, 3) := by decide +kernel
theorem dX11_isFree_22 : decode cX11_isFree 22 = .ok (.goto (-20), 3) := by decide +kernel
theorem dX11_isFree_25 : decode cX11_isFree 25 = .ok (.iconst 1, 1) := by decide +kernel
theorem dX11_isFree_26 : decode cX11_isFree 26 = .ok (.ireturn, 1) := by decide +kernel
theorem dX11_goesOn_0 : decode cX11_goesOn 0 = .ok (.aload_n 0, 1) := by decide +kernel
theorem dX11_goesOn_1 : decode cX11_goesOn 1 = .ok (.iload_n 1, 1) := by decide +kernel
theorem dX11_goesOn_2 : decode cX11_goesOn 2 = .ok (.invokevirtual 228, 3) := by decide +kernel
theorem dX11_goesOn_5 : decode cX11_goesOn 5 = .ok (.aload_n 0, 1) := by decide +kernel
theorem dX11_goesOn_6 : decode cX11_goesOn 6 = .ok (.getfield 215, 3) := by decide +kernel
theorem dX11_goesOn_9 : decode cX11_goesOn 9 = .ok (.iload_n 2, 1) := by decide +kernel
theorem dX11_goesOn_10 : decode cX11_goesOn 10 = .ok (.if_icmp .ne 19, 3) := by decide +kernel
theorem dX11_goesOn_13 : decode cX11_goesOn 13 = .ok (.aload_n 0, 1) := by decide +kernel
theorem dX11_goesOn_14 : decode cX11_goesOn 14 = .ok (.getfield 211, 3) := by decide +kernel
theorem dX11_goesOn_17 : decode cX11_goesOn 17 = .ok (.aload_n 0, 1) := by decide +kernel
theorem dX11_goesOn_18 : decode cX11_goesOn 18 = .ok (.getfield 231, 3) := by decide +kernel
theorem dX11_goesOn_21 : decode cX11_goesOn 21 = .ok (.lcmp, 1) := by decide +kernel
theorem dX11_goesOn_22 : decode cX11_goesOn 22 = .ok (.ifCond .ne 7, 3) := by decide +kernel
theorem dX11_goesOn_25 : decode cX11_goesOn 25 = .ok (.iconst 1, 1) := by decide +kernel
theorem dX11_goesOn_26 : decode cX11_goesOn 26 = .ok (.goto 4, 3) := by decide +kernel
theorem dX11_goesOn_29 : decode cX11_goesOn 29 = .ok (.iconst 0, 1) := by decide +kernel
theorem dX11_goesOn_30 : decode cX11_goesOn 30 = .ok (.ireturn, 1) := by decide +kernel
theorem dX11_cost_0 : decode cX11_cost 0 = .ok (.aload_n 0, 1) := by decide +kernel
theorem dX11_cost_1 : decode cX11_cost 1 = .ok (.iconst 0, 1) := by decide +kernel
theorem dX11_cost_2 : decode cX11_cost 2 = .ok (.putfield 94, 3) := by decide +kernel
theorem dX11_cost_5 : decode cX11_cost 5 = .ok (.aload_n 0, 1) := by decide +kernel
theorem dX11_cost_6 : decode cX11_cost 6 = .ok (.getfield 231, 3) := by decide +kernel
theorem dX11_cost_9 : decode cX11_cost 9 = .ok (.lreturn, 1) := by decide +kernel
theorem dX11_parted_0 : decode cX11_parted 0 = .ok (.aload_n 0, 1) := by decide +kernel
theorem dX11_parted_1 : decode cX11_parted 1 = .ok (.iconst 0, 1) := by decide +kernel
theorem dX11_parted_2 : decode cX11_parted 2 = .ok (.putfield 94, 3) := by decide +kernel
theorem dX11_parted_5 : decode cX11_parted 5 = .ok (.iload_n 1, 1) := by decide +kernel
theorem dX11_parted_6 : decode cX11_parted 6 = .ok (.ifCond .lt 20, 3) := by decide +kernel
theorem dX11_parted_9 : decode cX11_parted 9 = .ok (.iload_n 1, 1) := by decide +kernel
theorem dX11_parted_10 : decode cX11_parted 10 = .ok (.aload_n 0, 1) := by decide +kernel
theorem dX11_parted_11 : decode cX11_parted 11 = .ok (.getfield 225, 3) := by decide +kernel
theorem dX11_parted_14 : decode cX11_parted 14 = .ok (.if_icmp .ge 12, 3) := by decide +kernel
theorem dX11_parted_17 : decode cX11_parted 17 = .ok (.iload_n 2, 1) := by decide +kernel
theorem dX11_parted_18 : decode cX11_parted 18 = .ok (.ifCond .lt 8, 3) := by decide +kernel
theorem dX11_parted_21 : decode cX11_parted 21 = .ok (.iload_n 2, 1) := by decide +kernel
theorem dX11_parted_22 : decode cX11_parted 22 = .ok (.iconst 2, 1) := by decide +kernel
theorem dX11_parted_23 : decode cX11_parted 23 = .ok (.if_icmp .le 5, 3) := by decide +kernel
theorem dX11_parted_26 : decode cX11_parted 26 = .ok (.iconst (-1), 1) := by decide +kernel
theorem dX11_parted_27 : decode cX11_parted 27 = .ok (.ireturn, 1) := by decide +kernel
theorem dX11_parted_28 : decode cX11_parted 28 = .ok (.iload_n 2, 1) := by decide +kernel
theorem dX11_parted_29 : decode cX11_parted 29 = .ok (.ifCond .ne 12, 3) := by decide +kernel
theorem dX11_parted_32 : decode cX11_parted 32 = .ok (.aload_n 0, 1) := by decide +kernel
theorem dX11_parted_33 : decode cX11_parted 33 = .ok (.getfield 56, 3) := by decide +kernel
theorem dX11_parted_36 : decode cX11_parted 36 = .ok (.iload_n 1, 1) := by decide +kernel
theorem dX11_parted_37 : decode cX11_parted 37 = .ok (.iaload, 1) := by decide +kernel
theorem dX11_parted_38 : decode cX11_parted 38 = .ok (.goto 23, 3) := by decide +kernel
theorem dX11_parted_41 : decode cX11_parted 41 = .ok (.iload_n 2, 1) := by decide +kernel
theorem dX11_parted_42 : decode cX11_parted 42 = .ok (.iconst 1, 1) := by decide +kernel
theorem dX11_parted_43 : decode cX11_parted 43 = .ok (.if_icmp .ne 12, 3) := by decide +kernel
theorem dX11_parted_46 : decode cX11_parted 46 = .ok (.aload_n 0, 1) := by decide +kernel
theorem dX11_parted_47 : decode cX11_parted 47 = .ok (.getfield 71, 3) := by decide +kernel
theorem dX11_parted_50 : decode cX11_parted 50 = .ok (.iload_n 1, 1) := by decide +kernel
theorem dX11_parted_51 : decode cX11_parted 51 = .ok (.iaload, 1) := by decide +kernel
theorem dX11_parted_52 : decode cX11_parted 52 = .ok (.goto 9, 3) := by decide +kernel
theorem dX11_parted_55 : decode cX11_parted 55 = .ok (.aload_n 0, 1) := by decide +kernel
theorem dX11_parted_56 : decode cX11_parted 56 = .ok (.getfield 68, 3) := by decide +kernel
theorem dX11_parted_59 : decode cX11_parted 59 = .ok (.iload_n 1, 1) := by decide +kernel
theorem dX11_parted_60 : decode cX11_parted 60 = .ok (.iaload, 1) := by decide +kernel
theorem dX11_parted_61 : decode cX11_parted 61 = .ok (.ireturn, 1) := by decide +kernel
theorem dX11_latest_0 : decode cX11_latest 0 = .ok (.aload_n 0, 1) := by decide +kernel
theorem dX11_latest_1 : decode cX11_latest 1 = .ok (.getfield 153, 3) := by decide +kernel
theorem dX11_latest_4 : decode cX11_latest 4 = .ok (.iconst 1, 1) := by decide +kernel
theorem dX11_latest_5 : decode cX11_latest 5 = .ok (.isub, 1) := by decide +kernel
theorem dX11_latest_6 : decode cX11_latest 6 = .ok (.istore_n 2, 1) := by decide +kernel
theorem dX11_latest_7 : decode cX11_latest 7 = .ok (.iload_n 2, 1) := by decide +kernel
theorem dX11_latest_8 : decode cX11_latest 8 = .ok (.ifCond .lt 42, 3) := by decide +kernel
theorem dX11_latest_11 : decode cX11_latest 11 = .ok (.aload_n 0, 1) := by decide +kernel
theorem dX11_latest_12 : decode cX11_latest 12 = .ok (.getfield 25, 3) := by decide +kernel
theorem dX11_latest_15 : decode cX11_latest 15 = .ok (.bipush 8, 2) := by decide +kernel
theorem dX11_latest_17 : decode cX11_latest 17 = .ok (.iload_n 2, 1) := by decide +kernel
theorem dX11_latest_18 : decode cX11_latest 18 = .ok (.imul, 1) := by decide +kernel
theorem dX11_latest_19 : decode cX11_latest 19 = .ok (.iaload, 1) := by decide +kernel
theorem dX11_latest_20 : decode cX11_latest 20 = .ok (.iconst 1, 1) := by decide +kernel
theorem dX11_latest_21 : decode cX11_latest 21 = .ok (.if_icmp .ne 23, 3) := by decide +kernel
theorem dX11_latest_24 : decode cX11_latest 24 = .ok (.aload_n 0, 1) := by decide +kernel
theorem dX11_latest_25 : decode cX11_latest 25 = .ok (.getfield 25, 3) := by decide +kernel
theorem dX11_latest_28 : decode cX11_latest 28 = .ok (.bipush 8, 2) := by decide +kernel
theorem dX11_latest_30 : decode cX11_latest 30 = .ok (.iload_n 2, 1) := by decide +kernel
theorem dX11_latest_31 : decode cX11_latest 31 = .ok (.imul, 1) := by decide +kernel
theorem dX11_latest_32 : decode cX11_latest 32 = .ok (.iconst 1, 1) := by decide +kernel
theorem dX11_latest_33 : decode cX11_latest 33 = .ok (.iadd, 1) := by decide +kernel
theorem dX11_latest_34 : decode cX11_latest 34 = .ok (.iaload, 1) := by decide +kernel
theorem dX11_latest_35 : decode cX11_latest 35 = .ok (.iload_n 1, 1) := by decide +kernel
theorem dX11_latest_36 : decode cX11_latest 36 = .ok (.if_icmp .ne 8, 3) := by decide +kernel
theorem dX11_latest_39 : decode cX11_latest 39 = .ok (.bipush 8, 2) := by decide +kernel
theorem dX11_latest_41 : decode cX11_latest 41 = .ok (.iload_n 2, 1) := by decide +kernel
theorem dX11_latest_42 : decode cX11_latest 42 = .ok (.imul, 1) := by decide +kernel
theorem dX11_latest_43 : decode cX11_latest 43 = .ok (.ireturn, 1) := by decide +kernel
theorem dX11_latest_44 : decode cX11_latest 44 = .ok (.iinc 2 (-1), 3) := by decide +kernel
theorem dX11_latest_47 : decode cX11_latest 47 = .ok (.goto (-40), 3) := by decide +kernel
theorem dX11_latest_50 : decode cX11_latest 50 = .ok (.iconst (-1), 1) := by decide +kernel
theorem dX11_latest_51 : decode cX11_latest 51 = .ok (.ireturn, 1) := by decide +kernel
theorem dX11_gap_0 : decode cX11_gap 0 = .ok (.aload_n 0, 1) := by decide +kernel
theorem dX11_gap_1 : decode cX11_gap 1 = .ok (.getfield 25, 3) := by decide +kernel
theorem dX11_gap_4 : decode cX11_gap 4 = .ok (.iload_n 1, 1) := by decide +kernel
theorem dX11_gap_5 : decode cX11_gap 5 = .ok (.iconst 4, 1) := by decide +kernel
theorem dX11_gap_6 : decode cX11_gap 6 = .ok (.iadd, 1) := by decide +kernel
theorem dX11_gap_7 : decode cX11_gap 7 = .ok (.iaload, 1) := by decide +kernel
theorem dX11_gap_8 : decode cX11_gap 8 = .ok (.i2l, 1) := by decide +kernel
theorem dX11_gap_9 : decode cX11_gap 9 = .ok (.aload_n 0, 1) := by decide +kernel
theorem dX11_gap_10 : decode cX11_gap 10 = .ok (.getfield 25, 3) := by decide +kernel
theorem dX11_gap_13 : decode cX11_gap 13 = .ok (.iload_n 1, 1) := by decide +kernel
theorem dX11_gap_14 : decode cX11_gap 14 = .ok (.bipush 6, 2) := by decide +kernel
theorem dX11_gap_16 : decode cX11_gap 16 = .ok (.iadd, 1) := by decide +kernel
theorem dX11_gap_17 : decode cX11_gap 17 = .ok (.iaload, 1) := by decide +kernel
theorem dX11_gap_18 : decode cX11_gap 18 = .ok (.i2l, 1) := by decide +kernel
theorem dX11_gap_19 : decode cX11_gap 19 = .ok (.iload_n 3, 1) := by decide +kernel
theorem dX11_gap_20 : decode cX11_gap 20 = .ok (.aload_n 0, 1) := by decide +kernel
theorem dX11_gap_21 : decode cX11_gap 21 = .ok (.getfield 25, 3) := by decide +kernel
theorem dX11_gap_24 : decode cX11_gap 24 = .ok (.iload_n 1, 1) := by decide +kernel
theorem dX11_gap_25 : decode cX11_gap 25 = .ok (.iconst 3, 1) := by decide +kernel
theorem dX11_gap_26 : decode cX11_gap 26 = .ok (.iadd, 1) := by decide +kernel
theorem dX11_gap_27 : decode cX11_gap 27 = .ok (.iaload, 1) := by decide +kernel
theorem dX11_gap_28 : decode cX11_gap 28 = .ok (.isub, 1) := by decide +kernel
theorem dX11_gap_29 : decode cX11_gap 29 = .ok (.i2l, 1) := by decide +kernel
theorem dX11_gap_30 : decode cX11_gap 30 = .ok (.lmul, 1) := by decide +kernel
theorem dX11_gap_31 : decode cX11_gap 31 = .ok (.ladd, 1) := by decide +kernel
theorem dX11_gap_32 : decode cX11_gap 32 = .ok (.aload_n 0, 1) := by decide +kernel
theorem dX11_gap_33 : decode cX11_gap 33 = .ok (.getfield 25, 3) := by decide +kernel
theorem dX11_gap_36 : decode cX11_gap 36 = .ok (.iload_n 2, 1) := by decide +kernel
theorem dX11_gap_37 : decode cX11_gap 37 = .ok (.iconst 4, 1) := by decide +kernel
theorem dX11_gap_38 : decode cX11_gap 38 = .ok (.iadd, 1) := by decide +kernel
theorem dX11_gap_39 : decode cX11_gap 39 = .ok (.iaload, 1) := by decide +kernel
theorem dX11_gap_40 : decode cX11_gap 40 = .ok (.i2l, 1) := by decide +kernel
theorem dX11_gap_41 : decode cX11_gap 41 = .ok (.lsub, 1) := by decide +kernel
theorem dX11_gap_42 : decode cX11_gap 42 = .ok (.aload_n 0, 1) := by decide +kernel
theorem dX11_gap_43 : decode cX11_gap 43 = .ok (.getfield 25, 3) := by decide +kernel
theorem dX11_gap_46 : decode cX11_gap 46 = .ok (.iload_n 2, 1) := by decide +kernel
theorem dX11_gap_47 : decode cX11_gap 47 = .ok (.bipush 6, 2) := by decide +kernel
theorem dX11_gap_49 : decode cX11_gap 49 = .ok (.iadd, 1) := by decide +kernel
theorem dX11_gap_50 : decode cX11_gap 50 = .ok (.iaload, 1) := by decide +kernel
theorem dX11_gap_51 : decode cX11_gap 51 = .ok (.i2l, 1) := by decide +kernel
theorem dX11_gap_52 : decode cX11_gap 52 = .ok (.iload_n 3, 1) := by decide +kernel
theorem dX11_gap_53 : decode cX11_gap 53 = .ok (.aload_n 0, 1) := by decide +kernel
theorem dX11_gap_54 : decode cX11_gap 54 = .ok (.getfield 25, 3) := by decide +kernel
theorem dX11_gap_57 : decode cX11_gap 57 = .ok (.iload_n 2, 1) := by decide +kernel
theorem dX11_gap_58 : decode cX11_gap 58 = .ok (.iconst 3, 1) := by decide +kernel
theorem dX11_gap_59 : decode cX11_gap 59 = .ok (.iadd, 1) := by decide +kernel
theorem dX11_gap_60 : decode cX11_gap 60 = .ok (.iaload, 1) := by decide +kernel
theorem dX11_gap_61 : decode cX11_gap 61 = .ok (.isub, 1) := by decide +kernel
theorem dX11_gap_62 : decode cX11_gap 62 = .ok (.i2l, 1) := by decide +kernel
theorem dX11_gap_63 : decode cX11_gap 63 = .ok (.lmul, 1) := by decide +kernel
theorem dX11_gap_64 : decode cX11_gap 64 = .ok (.lsub, 1) := by decide +kernel
theorem dX11_gap_65 : decode cX11_gap 65 = .ok (.lstore 4, 2) := by decide +kernel
theorem dX11_gap_67 : decode cX11_gap 67 = .ok (.aload_n 0, 1) := by decide +kernel
theorem dX11_gap_68 : decode cX11_gap 68 = .ok (.getfield 25, 3) := by decide +kernel
theorem dX11_gap_71 : decode cX11_gap 71 = .ok (.iload_n 1, 1) := by decide +kernel
theorem dX11_gap_72 : decode cX11_gap 72 = .ok (.iconst 5, 1) := by decide +kernel
theorem dX11_gap_73 : decode cX11_gap 73 = .ok (.iadd, 1) := by decide +kernel
theorem dX11_gap_74 : decode cX11_gap 74 = .ok (.iaload, 1) := by decide +kernel
theorem dX11_gap_75 : decode cX11_gap 75 = .ok (.i2l, 1) := by decide +kernel
theorem dX11_gap_76 : decode cX11_gap 76 = .ok (.aload_n 0, 1) := by decide +kernel
theorem dX11_gap_77 : decode cX11_gap 77 = .ok (.getfield 25, 3) := by decide +kernel
theorem dX11_gap_80 : decode cX11_gap 80 = .ok (.iload_n 1, 1) := by decide +kernel
theorem dX11_gap_81 : decode cX11_gap 81 = .ok (.bipush 7, 2) := by decide +kernel
theorem dX11_gap_83 : decode cX11_gap 83 = .ok (.iadd, 1) := by decide +kernel
theorem dX11_gap_84 : decode cX11_gap 84 = .ok (.iaload, 1) := by decide +kernel
theorem dX11_gap_85 : decode cX11_gap 85 = .ok (.i2l, 1) := by decide +kernel
theorem dX11_gap_86 : decode cX11_gap 86 = .ok (.iload_n 3, 1) := by decide +kernel
theorem dX11_gap_87 : decode cX11_gap 87 = .ok (.aload_n 0, 1) := by decide +kernel
theorem dX11_gap_88 : decode cX11_gap 88 = .ok (.getfield 25, 3) := by decide +kernel
theorem dX11_gap_91 : decode cX11_gap 91 = .ok (.iload_n 1, 1) := by decide +kernel
theorem dX11_gap_92 : decode cX11_gap 92 = .ok (.iconst 3, 1) := by decide +kernel
theorem dX11_gap_93 : decode cX11_gap 93 = .ok (.iadd, 1) := by decide +kernel
theorem dX11_gap_94 : decode cX11_gap 94 = .ok (.iaload, 1) := by decide +kernel
theorem dX11_gap_95 : decode cX11_gap 95 = .ok (.isub, 1) := by decide +kernel
theorem dX11_gap_96 : decode cX11_gap 96 = .ok (.i2l, 1) := by decide +kernel
theorem dX11_gap_97 : decode cX11_gap 97 = .ok (.lmul, 1) := by decide +kernel
theorem dX11_gap_98 : decode cX11_gap 98 = .ok (.ladd, 1) := by decide +kernel
theorem dX11_gap_99 : decode cX11_gap 99 = .ok (.aload_n 0, 1) := by decide +kernel
theorem dX11_gap_100 : decode cX11_gap 100 = .ok (.getfield 25, 3) := by decide +kernel
theorem dX11_gap_103 : decode cX11_gap 103 = .ok (.iload_n 2, 1) := by decide +kernel
theorem dX11_gap_104 : decode cX11_gap 104 = .ok (.iconst 5, 1) := by decide +kernel
theorem dX11_gap_105 : decode cX11_gap 105 = .ok (.iadd, 1) := by decide +kernel
theorem dX11_gap_106 : decode cX11_gap 106 = .ok (.iaload, 1) := by decide +kernel
theorem dX11_gap_107 : decode cX11_gap 107 = .ok (.i2l, 1) := by decide +kernel
theorem dX11_gap_108 : decode cX11_gap 108 = .ok (.lsub, 1) := by decide +kernel
theorem dX11_gap_109 : decode cX11_gap 109 = .ok (.aload_n 0, 1) := by decide +kernel
theorem dX11_gap_110 : decode cX11_gap 110 = .ok (.getfield 25, 3) := by decide +kernel
theorem dX11_gap_113 : decode cX11_gap 113 = .ok (.iload_n 2, 1) := by decide +kernel
theorem dX11_gap_114 : decode cX11_gap 114 = .ok (.bipush 7, 2) := by decide +kernel
theorem dX11_gap_116 : decode cX11_gap 116 = .ok (.iadd, 1) := by decide +kernel
theorem dX11_gap_117 : decode cX11_gap 117 = .ok (.iaload, 1) := by decide +kernel
theorem dX11_gap_118 : decode cX11_gap 118 = .ok (.i2l, 1) := by decide +kernel
theorem dX11_gap_119 : decode cX11_gap 119 = .ok (.iload_n 3, 1) := by decide +kernel
theorem dX11_gap_120 : decode cX11_gap 120 = .ok (.aload_n 0, 1) := by decide +kernel
theorem dX11_gap_121 : decode cX11_gap 121 = .ok (.getfield 25, 3) := by decide +kernel
theorem dX11_gap_124 : decode cX11_gap 124 = .ok (.iload_n 2, 1) := by decide +kernel
theorem dX11_gap_125 : decode cX11_gap 125 = .ok (.iconst 3, 1) := by decide +kernel
theorem dX11_gap_126 : decode cX11_gap 126 = .ok (.iadd, 1) := by decide +kernel
theorem dX11_gap_127 : decode cX11_gap 127 = .ok (.iaload, 1) := by decide +kernel
theorem dX11_gap_128 : decode cX11_gap 128 = .ok (.isub, 1) := by decide +kernel
theorem dX11_gap_129 : decode cX11_gap 129 = .ok (.i2l, 1) := by decide +kernel
theorem dX11_gap_130 : decode cX11_gap 130 = .ok (.lmul, 1) := by decide +kernel
theorem dX11_gap_131 : decode cX11_gap 131 = .ok (.lsub, 1) := by decide +kernel
theorem dX11_gap_132 : decode cX11_gap 132 = .ok (.lstore 6, 2) := by decide +kernel
theorem dX11_gap_134 : decode cX11_gap 134 = .ok (.lload 4, 2) := by decide +kernel
theorem dX11_gap_136 : decode cX11_gap 136 = .ok (.lload 4, 2) := by decide +kernel
theorem dX11_gap_138 : decode cX11_gap 138 = .ok (.lmul, 1) := by decide +kernel
theorem dX11_gap_139 : decode cX11_gap 139 = .ok (.lload 6, 2) := by decide +kernel
theorem dX11_gap_141 : decode cX11_gap 141 = .ok (.lload 6, 2) := by decide +kernel
theorem dX11_gap_143 : decode cX11_gap 143 = .ok (.lmul, 1) := by decide +kernel
theorem dX11_gap_144 : decode cX11_gap 144 = .ok (.ladd, 1) := by decide +kernel
theorem dX11_gap_145 : decode cX11_gap 145 = .ok (.lreturn, 1) := by decide +kernel
theorem dX11_meet_0 : decode cX11_meet 0 = .ok (.aload_n 0, 1) := by decide +kernel
theorem dX11_meet_1 : decode cX11_meet 1 = .ok (.iconst 0, 1) := by decide +kernel
theorem dX11_meet_2 : decode cX11_meet 2 = .ok (.putfield 94, 3) := by decide +kernel
theorem dX11_meet_5 : decode cX11_meet 5 = .ok (.aload_n 0, 1) := by decide +kernel
theorem dX11_meet_6 : decode cX11_meet 6 = .ok (.iload_n 1, 1) := by decide +kernel
theorem dX11_meet_7 : decode cX11_meet 7 = .ok (.invokevirtual 240, 3) := by decide +kernel
theorem dX11_meet_10 : decode cX11_meet 10 = .ok (.istore_n 3, 1) := by decide +kernel
theorem dX11_meet_11 : decode cX11_meet 11 = .ok (.aload_n 0, 1) := by decide +kernel
theorem dX11_meet_12 : decode cX11_meet 12 = .ok (.iload_n 2, 1) := by decide +kernel
theorem dX11_meet_13 : decode cX11_meet 13 = .ok (.invokevirtual 240, 3) := by decide +kernel
theorem dX11_meet_16 : decode cX11_meet 16 = .ok (.istore 4, 2) := by decide +kernel
theorem dX11_meet_18 : decode cX11_meet 18 = .ok (.iload_n 1, 1) := by decide +kernel
theorem dX11_meet_19 : decode cX11_meet 19 = .ok (.iload_n 2, 1) := by decide +kernel
theorem dX11_meet_20 : decode cX11_meet 20 = .ok (.if_icmp .eq 14, 3) := by decide +kernel
theorem dX11_meet_23 : decode cX11_meet 23 = .ok (.iload_n 3, 1) := by decide +kernel
theorem dX11_meet_24 : decode cX11_meet 24 = .ok (.iconst (-1), 1) := by decide +kernel
theorem dX11_meet_25 : decode cX11_meet 25 = .ok (.if_icmp .eq 9, 3) := by decide +kernel
theorem dX11_meet_28 : decode cX11_meet 28 = .ok (.iload 4, 2) := by decide +kernel
theorem dX11_meet_30 : decode cX11_meet 30 = .ok (.iconst (-1), 1) := by decide +kernel
theorem dX11_meet_31 : decode cX11_meet 31 = .ok (.if_icmp .ne 7, 3) := by decide +kernel
theorem dX11_meet_34 : decode cX11_meet 34 = .ok (.ldc2_w 243, 3) := by decide +kernel
theorem dX11_meet_37 : decode cX11_meet 37 = .ok (.lreturn, 1) := by decide +kernel
theorem dX11_meet_38 : decode cX11_meet 38 = .ok (.aload_n 0, 1) := by decide +kernel
theorem dX11_meet_39 : decode cX11_meet 39 = .ok (.iload_n 3, 1) := by decide +kernel
theorem dX11_meet_40 : decode cX11_meet 40 = .ok (.iload 4, 2) := by decide +kernel
theorem dX11_meet_42 : decode cX11_meet 42 = .ok (.aload_n 0, 1) := by decide +kernel
theorem dX11_meet_43 : decode cX11_meet 43 = .ok (.getfield 133, 3) := by decide +kernel
theorem dX11_meet_46 : decode cX11_meet 46 = .ok (.invokevirtual 245, 3) := by decide +kernel
theorem dX11_meet_49 : decode cX11_meet 49 = .ok (.lstore 5, 2) := by decide +kernel
theorem dX11_meet_51 : decode cX11_meet 51 = .ok (.aload_n 0, 1) := by decide +kernel
theorem dX11_meet_52 : decode cX11_meet 52 = .ok (.aload_n 0, 1) := by decide +kernel
theorem dX11_meet_53 : decode cX11_meet 53 = .ok (.getfield 133, 3) := by decide +kernel
theorem dX11_meet_56 : decode cX11_meet 56 = .ok (.putfield 90, 3) := by decide +kernel
theorem dX11_meet_59 : decode cX11_meet 59 = .ok (.aload_n 0, 1) := by decide +kernel
theorem dX11_meet_60 : decode cX11_meet 60 = .ok (.getfield 133, 3) := by decide +kernel
theorem dX11_meet_63 : decode cX11_meet 63 = .ok (.iconst 1, 1) := by decide +kernel
theorem dX11_meet_64 : decode cX11_meet 64 = .ok (.iadd, 1) := by decide +kernel
theorem dX11_meet_65 : decode cX11_meet 65 = .ok (.istore 7, 2) := by decide +kernel
theorem dX11_meet_67 : decode cX11_meet 67 = .ok (.iload 7, 2) := by decide +kernel
theorem dX11_meet_69 : decode cX11_meet 69 = .ok (.aload_n 0, 1) := by decide +kernel
theorem dX11_meet_70 : decode cX11_meet 70 = .ok (.getfield 133, 3) := by decide +kernel
theorem dX11_meet_73 : decode cX11_meet 73 = .ok (.sipush 3600, 3) := by decide +kernel
theorem dX11_meet_76 : decode cX11_meet 76 = .ok (.iadd, 1) := by decide +kernel
theorem dX11_meet_77 : decode cX11_meet 77 = .ok (.if_icmp .gt 41, 3) := by decide +kernel
theorem dX11_meet_80 : decode cX11_meet 80 = .ok (.aload_n 0, 1) := by decide +kernel
theorem dX11_meet_81 : decode cX11_meet 81 = .ok (.iload_n 3, 1) := by decide +kernel
theorem dX11_meet_82 : decode cX11_meet 82 = .ok (.iload 4, 2) := by decide +kernel
theorem dX11_meet_84 : decode cX11_meet 84 = .ok (.iload 7, 2) := by decide +kernel
theorem dX11_meet_86 : decode cX11_meet 86 = .ok (.invokevirtual 245, 3) := by decide +kernel
theorem dX11_meet_89 : decode cX11_meet 89 = .ok (.lstore 8, 2) := by decide +kernel
theorem dX11_meet_91 : decode cX11_meet 91 = .ok (.lload 8, 2) := by decide +kernel
theorem dX11_meet_93 : decode cX11_meet 93 = .ok (.lload 5, 2) := by decide +kernel
theorem dX11_meet_95 : decode cX11_meet 95 = .ok (.lcmp, 1) := by decide +kernel
theorem dX11_meet_96 : decode cX11_meet 96 = .ok (.ifCond .lt 6, 3) := by decide +kernel
theorem dX11_meet_99 : decode cX11_meet 99 = .ok (.goto 13, 3) := by decide +kernel
theorem dX11_meet_102 : decode cX11_meet 102 = .ok (.lload 8, 2) := by decide +kernel
theorem dX11_meet_104 : decode cX11_meet 104 = .ok (.lstore 5, 2) := by decide +kernel
theorem dX11_meet_106 : decode cX11_meet 106 = .ok (.aload_n 0, 1) := by decide +kernel
theorem dX11_meet_107 : decode cX11_meet 107 = .ok (.iload 7, 2) := by decide +kernel
theorem dX11_meet_109 : decode cX11_meet 109 = .ok (.putfield 90, 3) := by decide +kernel
theorem dX11_meet_112 : decode cX11_meet 112 = .ok (.iinc 7 1, 3) := by decide +kernel
theorem dX11_meet_115 : decode cX11_meet 115 = .ok (.goto (-48), 3) := by decide +kernel
theorem dX11_meet_118 : decode cX11_meet 118 = .ok (.lload 5, 2) := by decide +kernel
theorem dX11_meet_120 : decode cX11_meet 120 = .ok (.lreturn, 1) := by decide +kernel
theorem dX11_when_0 : decode cX11_when 0 = .ok (.aload_n 0, 1) := by decide +kernel
theorem dX11_when_1 : decode cX11_when 1 = .ok (.iconst 0, 1) := by decide +kernel
theorem dX11_when_2 : decode cX11_when 2 = .ok (.putfield 94, 3) := by decide +kernel
theorem dX11_when_5 : decode cX11_when 5 = .ok (.aload_n 0, 1) := by decide +kernel
theorem dX11_when_6 : decode cX11_when 6 = .ok (.getfield 90, 3) := by decide +kernel
theorem dX11_when_9 : decode cX11_when 9 = .ok (.ireturn, 1) := by decide +kernel
theorem dX11_count_0 : decode cX11_count 0 = .ok (.aload_n 0, 1) := by decide +kernel
theorem dX11_count_1 : decode cX11_count 1 = .ok (.iconst 0, 1) := by decide +kernel
theorem dX11_count_2 : decode cX11_count 2 = .ok (.putfield 94, 3) := by decide +kernel
theorem dX11_count_5 : decode cX11_count 5 = .ok (.iload_n 1, 1) := by decide +kernel
theorem dX11_count_6 : decode cX11_count 6 = .ok (.tableswitch 99 0 8 #[50, 55, 60, 65, 70, 75, 80, 85, 92], 50) := by decide +kernel
theorem dX11_count_56 : decode cX11_count 56 = .ok (.aload_n 0, 1) := by decide +kernel
theorem dX11_count_57 : decode cX11_count 57 = .ok (.getfield 133, 3) := by decide +kernel
theorem dX11_count_60 : decode cX11_count 60 = .ok (.ireturn, 1) := by decide +kernel
theorem dX11_count_61 : decode cX11_count 61 = .ok (.aload_n 0, 1) := by decide +kernel
theorem dX11_count_62 : decode cX11_count 62 = .ok (.getfield 143, 3) := by decide +kernel
theorem dX11_count_65 : decode cX11_count 65 = .ok (.ireturn, 1) := by decide +kernel
theorem dX11_count_66 : decode cX11_count 66 = .ok (.aload_n 0, 1) := by decide +kernel
theorem dX11_count_67 : decode cX11_count 67 = .ok (.getfield 153, 3) := by decide +kernel
theorem dX11_count_70 : decode cX11_count 70 = .ok (.ireturn, 1) := by decide +kernel
theorem dX11_count_71 : decode cX11_count 71 = .ok (.aload_n 0, 1) := by decide +kernel
theorem dX11_count_72 : decode cX11_count 72 = .ok (.getfield 150, 3) := by decide +kernel
theorem dX11_count_75 : decode cX11_count 75 = .ok (.ireturn, 1) := by decide +kernel
theorem dX11_count_76 : decode cX11_count 76 = .ok (.aload_n 0, 1) := by decide +kernel
theorem dX11_count_77 : decode cX11_count 77 = .ok (.getfield 105, 3) := by decide +kernel
theorem dX11_count_80 : decode cX11_count 80 = .ok (.ireturn, 1) := by decide +kernel
theorem dX11_count_81 : decode cX11_count 81 = .ok (.aload_n 0, 1) := by decide +kernel
theorem dX11_count_82 : decode cX11_count 82 = .ok (.getfield 97, 3) := by decide +kernel
theorem dX11_count_85 : decode cX11_count 85 = .ok (.ireturn, 1) := by decide +kernel
theorem dX11_count_86 : decode cX11_count 86 = .ok (.aload_n 0, 1) := by decide +kernel
theorem dX11_count_87 : decode cX11_count 87 = .ok (.getfield 202, 3) := by decide +kernel
theorem dX11_count_90 : decode cX11_count 90 = .ok (.ireturn, 1) := by decide +kernel
theorem dX11_count_91 : decode cX11_count 91 = .ok (.aload_n 0, 1) := by decide +kernel
theorem dX11_count_92 : decode cX11_count 92 = .ok (.getfield 19, 3) := by decide +kernel
theorem dX11_count_95 : decode cX11_count 95 = .ok (.iconst 0, 1) := by decide +kernel
theorem dX11_count_96 : decode cX11_count 96 = .ok (.iaload, 1) := by decide +kernel
theorem dX11_count_97 : decode cX11_count 97 = .ok (.ireturn, 1) := by decide +kernel
theorem dX11_count_98 : decode cX11_count 98 = .ok (.aload_n 0, 1) := by decide +kernel
theorem dX11_count_99 : decode cX11_count 99 = .ok (.getfield 19, 3) := by decide +kernel
theorem dX11_count_102 : decode cX11_count 102 = .ok (.iconst 1, 1) := by decide +kernel
theorem dX11_count_103 : decode cX11_count 103 = .ok (.iaload, 1) := by decide +kernel
theorem dX11_count_104 : decode cX11_count 104 = .ok (.ireturn, 1) := by decide +kernel
theorem dX11_count_105 : decode cX11_count 105 = .ok (.iconst (-1), 1) := by decide +kernel
theorem dX11_count_106 : decode cX11_count 106 = .ok (.ireturn, 1) := by decide +kernel
theorem dJ6_compare_7cf53_0 : decode cJ6_compare_7cf53 0 = .ok (.iload_n 0, 1) := by decide +kernel
theorem dJ6_compare_7cf53_1 : decode cJ6_compare_7cf53 1 = .ok (.iload_n 1, 1) := by decide +kernel
theorem dJ6_compare_7cf53_2 : decode cJ6_compare_7cf53 2 = .ok (.if_icmp .ge 7, 3) := by decide +kernel
theorem dJ6_compare_7cf53_5 : decode cJ6_compare_7cf53 5 = .ok (.iconst (-1), 1) := by decide +kernel
theorem dJ6_compare_7cf53_6 : decode cJ6_compare_7cf53 6 = .ok (.goto 13, 3) := by decide +kernel
theorem dJ6_compare_7cf53_9 : decode cJ6_compare_7cf53 9 = .ok (.iload_n 0, 1) := by decide +kernel
theorem dJ6_compare_7cf53_10 : decode cJ6_compare_7cf53 10 = .ok (.iload_n 1, 1) := by decide +kernel
theorem dJ6_compare_7cf53_11 : decode cJ6_compare_7cf53 11 = .ok (.if_icmp .ne 7, 3) := by decide +kernel
theorem dJ6_compare_7cf53_14 : decode cJ6_compare_7cf53 14 = .ok (.iconst 0, 1) := by decide +kernel
theorem dJ6_compare_7cf53_15 : decode cJ6_compare_7cf53 15 = .ok (.goto 4, 3) := by decide +kernel
theorem dJ6_compare_7cf53_18 : decode cJ6_compare_7cf53 18 = .ok (.iconst 1, 1) := by decide +kernel
theorem dJ6_compare_7cf53_19 : decode cJ6_compare_7cf53 19 = .ok (.ireturn, 1) := by decide +kernel
theorem dJ9_floorDiv_f86c9_0 : decode cJ9_floorDiv_f86c9 0 = .ok (.lload_n 0, 1) := by decide +kernel
theorem dJ9_floorDiv_f86c9_1 : decode cJ9_floorDiv_f86c9 1 = .ok (.lload_n 2, 1) := by decide +kernel
theorem dJ9_floorDiv_f86c9_2 : decode cJ9_floorDiv_f86c9 2 = .ok (.ldiv, 1) := by decide +kernel
theorem dJ9_floorDiv_f86c9_3 : decode cJ9_floorDiv_f86c9 3 = .ok (.lstore 4, 2) := by decide +kernel
theorem dJ9_floorDiv_f86c9_5 : decode cJ9_floorDiv_f86c9 5 = .ok (.lload_n 0, 1) := by decide +kernel
theorem dJ9_floorDiv_f86c9_6 : decode cJ9_floorDiv_f86c9 6 = .ok (.lload_n 2, 1) := by decide +kernel
theorem dJ9_floorDiv_f86c9_7 : decode cJ9_floorDiv_f86c9 7 = .ok (.lxor, 1) := by decide +kernel
theorem dJ9_floorDiv_f86c9_8 : decode cJ9_floorDiv_f86c9 8 = .ok (.lconst 0, 1) := by decide +kernel
theorem dJ9_floorDiv_f86c9_9 : decode cJ9_floorDiv_f86c9 9 = .ok (.lcmp, 1) := by decide +kernel
theorem dJ9_floorDiv_f86c9_10 : decode cJ9_floorDiv_f86c9 10 = .ok (.ifCond .ge 17, 3) := by decide +kernel
theorem dJ9_floorDiv_f86c9_13 : decode cJ9_floorDiv_f86c9 13 = .ok (.lload 4, 2) := by decide +kernel
theorem dJ9_floorDiv_f86c9_15 : decode cJ9_floorDiv_f86c9 15 = .ok (.lload_n 2, 1) := by decide +kernel
theorem dJ9_floorDiv_f86c9_16 : decode cJ9_floorDiv_f86c9 16 = .ok (.lmul, 1) := by decide +kernel
theorem dJ9_floorDiv_f86c9_17 : decode cJ9_floorDiv_f86c9 17 = .ok (.lload_n 0, 1) := by decide +kernel
theorem dJ9_floorDiv_f86c9_18 : decode cJ9_floorDiv_f86c9 18 = .ok (.lcmp, 1) := by decide +kernel
theorem dJ9_floorDiv_f86c9_19 : decode cJ9_floorDiv_f86c9 19 = .ok (.ifCond .eq 8, 3) := by decide +kernel
theorem dJ9_floorDiv_f86c9_22 : decode cJ9_floorDiv_f86c9 22 = .ok (.lload 4, 2) := by decide +kernel
theorem dJ9_floorDiv_f86c9_24 : decode cJ9_floorDiv_f86c9 24 = .ok (.lconst 1, 1) := by decide +kernel
theorem dJ9_floorDiv_f86c9_25 : decode cJ9_floorDiv_f86c9 25 = .ok (.lsub, 1) := by decide +kernel
theorem dJ9_floorDiv_f86c9_26 : decode cJ9_floorDiv_f86c9 26 = .ok (.lreturn, 1) := by decide +kernel
theorem dJ9_floorDiv_f86c9_27 : decode cJ9_floorDiv_f86c9 27 = .ok (.lload 4, 2) := by decide +kernel
theorem dJ9_floorDiv_f86c9_29 : decode cJ9_floorDiv_f86c9 29 = .ok (.lreturn, 1) := by decide +kernel
theorem dJ9_max_7cf53_0 : decode cJ9_max_7cf53 0 = .ok (.iload_n 0, 1) := by decide +kernel
theorem dJ9_max_7cf53_1 : decode cJ9_max_7cf53 1 = .ok (.iload_n 1, 1) := by decide +kernel
theorem dJ9_max_7cf53_2 : decode cJ9_max_7cf53 2 = .ok (.if_icmp .lt 7, 3) := by decide +kernel
theorem dJ9_max_7cf53_5 : decode cJ9_max_7cf53 5 = .ok (.iload_n 0, 1) := by decide +kernel
theorem dJ9_max_7cf53_6 : decode cJ9_max_7cf53 6 = .ok (.goto 4, 3) := by decide +kernel
theorem dJ9_max_7cf53_9 : decode cJ9_max_7cf53 9 = .ok (.iload_n 1, 1) := by decide +kernel
theorem dJ9_max_7cf53_10 : decode cJ9_max_7cf53 10 = .ok (.ireturn, 1) := by decide +kernel
theorem dJ9_max_f86c9_0 : decode cJ9_max_f86c9 0 = .ok (.lload_n 0, 1) := by decide +kernel
theorem dJ9_max_f86c9_1 : decode cJ9_max_f86c9 1 = .ok (.lload_n 2, 1) := by decide +kernel
theorem dJ9_max_f86c9_2 : decode cJ9_max_f86c9 2 = .ok (.lcmp, 1) := by decide +kernel
theorem dJ9_max_f86c9_3 : decode cJ9_max_f86c9 3 = .ok (.ifCond .lt 7, 3) := by decide +kernel
theorem dJ9_max_f86c9_6 : decode cJ9_max_f86c9 6 = .ok (.lload_n 0, 1) := by decide +kernel
theorem dJ9_max_f86c9_7 : decode cJ9_max_f86c9 7 = .ok (.goto 4, 3) := by decide +kernel
theorem dJ9_max_f86c9_10 : decode cJ9_max_f86c9 10 = .ok (.lload_n 2, 1) := by decide +kernel
theorem dJ9_max_f86c9_11 : decode cJ9_max_f86c9 11 = .ok (.lreturn, 1) := by decide +kernel
theorem dJ9_min_7cf53_0 : decode cJ9_min_7cf53 0 = .ok (.iload_n 0, 1) := by decide +kernel
theorem dJ9_min_7cf53_1 : decode cJ9_min_7cf53 1 = .ok (.iload_n 1, 1) := by decide +kernel
theorem dJ9_min_7cf53_2 : decode cJ9_min_7cf53 2 = .ok (.if_icmp .gt 7, 3) := by decide +kernel
theorem dJ9_min_7cf53_5 : decode cJ9_min_7cf53 5 = .ok (.iload_n 0, 1) := by decide +kernel
theorem dJ9_min_7cf53_6 : decode cJ9_min_7cf53 6 = .ok (.goto 4, 3) := by decide +kernel
theorem dJ9_min_7cf53_9 : decode cJ9_min_7cf53 9 = .ok (.iload_n 1, 1) := by decide +kernel
theorem dJ9_min_7cf53_10 : decode cJ9_min_7cf53 10 = .ok (.ireturn, 1) := by decide +kernel
theorem dJ9_min_f86c9_0 : decode cJ9_min_f86c9 0 = .ok (.lload_n 0, 1) := by decide +kernel
theorem dJ9_min_f86c9_1 : decode cJ9_min_f86c9 1 = .ok (.lload_n 2, 1) := by decide +kernel
theorem dJ9_min_f86c9_2 : decode cJ9_min_f86c9 2 = .ok (.lcmp, 1) := by decide +kernel
theorem dJ9_min_f86c9_3 : decode cJ9_min_f86c9 3 = .ok (.ifCond .gt 7, 3) := by decide +kernel
theorem dJ9_min_f86c9_6 : decode cJ9_min_f86c9 6 = .ok (.lload_n 0, 1) := by decide +kernel
theorem dJ9_min_f86c9_7 : decode cJ9_min_f86c9 7 = .ok (.goto 4, 3) := by decide +kernel
theorem dJ9_min_f86c9_10 : decode cJ9_min_f86c9 10 = .ok (.lload_n 2, 1) := by decide +kernel
theorem dJ9_min_f86c9_11 : decode cJ9_min_f86c9 11 = .ok (.lreturn, 1) := by decide +kernel
theorem dL_octet_0 : decode cL_octet 0 = .ok (.aload_n 2, 1) := by decide +kernel
theorem dL_octet_1 : decode cL_octet 1 = .ok (.iconst 0, 1) := by decide +kernel
theorem dL_octet_2 : decode cL_octet 2 = .ok (.aload_n 0, 1) := by decide +kernel
theorem dL_octet_3 : decode cL_octet 3 = .ok (.iload_n 1, 1) := by decide +kernel
theorem dL_octet_4 : decode cL_octet 4 = .ok (.invokevirtual 7, 3) := by decide +kernel
theorem dL_octet_7 : decode cL_octet 7 = .ok (.i2l, 1) := by decide +kernel
theorem dL_octet_8 : decode cL_octet 8 = .ok (.lastore, 1) := by decide +kernel
theorem dL_octet_9 : decode cL_octet 9 = .ok (.goto 6, 3) := by decide +kernel
theorem dL_octet_12 : decode cL_octet 12 = .ok (.astore_n 3, 1) := by decide +kernel
theorem dL_octet_13 : decode cL_octet 13 = .ok (.iconst 1, 1) := by decide +kernel
theorem dL_octet_14 : decode cL_octet 14 = .ok (.ireturn, 1) := by decide +kernel
theorem dL_octet_15 : decode cL_octet 15 = .ok (.iconst 0, 1) := by decide +kernel
theorem dL_octet_16 : decode cL_octet 16 = .ok (.ireturn, 1) := by decide +kernel
theorem dL_message_0 : decode cL_message 0 = .ok (.aload_n 3, 1) := by decide +kernel
theorem dL_message_1 : decode cL_message 1 = .ok (.iconst 0, 1) := by decide +kernel
theorem dL_message_2 : decode cL_message 2 = .ok (.aload_n 0, 1) := by decide +kernel
theorem dL_message_3 : decode cL_message 3 = .ok (.iload_n 1, 1) := by decide +kernel
theorem dL_message_4 : decode cL_message 4 = .ok (.iload_n 2, 1) := by decide +kernel
theorem dL_message_5 : decode cL_message 5 = .ok (.invokevirtual 15, 3) := by decide +kernel
theorem dL_message_8 : decode cL_message 8 = .ok (.i2l, 1) := by decide +kernel
theorem dL_message_9 : decode cL_message 9 = .ok (.lastore, 1) := by decide +kernel
theorem dL_message_10 : decode cL_message 10 = .ok (.goto 7, 3) := by decide +kernel
theorem dL_message_13 : decode cL_message 13 = .ok (.astore 4, 2) := by decide +kernel
theorem dL_message_15 : decode cL_message 15 = .ok (.iconst 1, 1) := by decide +kernel
theorem dL_message_16 : decode cL_message 16 = .ok (.ireturn, 1) := by decide +kernel
theorem dL_message_17 : decode cL_message 17 = .ok (.iconst 0, 1) := by decide +kernel
theorem dL_message_18 : decode cL_message 18 = .ok (.ireturn, 1) := by decide +kernel
theorem dL_clash_0 : decode cL_clash 0 = .ok (.aload_n 3, 1) := by decide +kernel
theorem dL_clash_1 : decode cL_clash 1 = .ok (.iconst 0, 1) := by decide +kernel
theorem dL_clash_2 : decode cL_clash 2 = .ok (.aload_n 0, 1) := by decide +kernel
theorem dL_clash_3 : decode cL_clash 3 = .ok (.iload_n 1, 1) := by decide +kernel
theorem dL_clash_4 : decode cL_clash 4 = .ok (.iload_n 2, 1) := by decide +kernel
theorem dL_clash_5 : decode cL_clash 5 = .ok (.invokevirtual 19, 3) := by decide +kernel
theorem dL_clash_8 : decode cL_clash 8 = .ok (.i2l, 1) := by decide +kernel
theorem dL_clash_9 : decode cL_clash 9 = .ok (.lastore, 1) := by decide +kernel
theorem dL_clash_10 : decode cL_clash 10 = .ok (.goto 7, 3) := by decide +kernel
theorem dL_clash_13 : decode cL_clash 13 = .ok (.astore 4, 2) := by decide +kernel
theorem dL_clash_15 : decode cL_clash 15 = .ok (.iconst 1, 1) := by decide +kernel
theorem dL_clash_16 : decode cL_clash 16 = .ok (.ireturn, 1) := by decide +kernel
theorem dL_clash_17 : decode cL_clash 17 = .ok (.iconst 0, 1) := by decide +kernel
theorem dL_clash_18 : decode cL_clash 18 = .ok (.ireturn, 1) := by decide +kernel
theorem dL_text_0 : decode cL_text 0 = .ok (.aload_n 3, 1) := by decide +kernel
theorem dL_text_1 : decode cL_text 1 = .ok (.iconst 0, 1) := by decide +kernel
theorem dL_text_2 : decode cL_text 2 = .ok (.aload_n 0, 1) := by decide +kernel
theorem dL_text_3 : decode cL_text 3 = .ok (.iload_n 1, 1) := by decide +kernel
theorem dL_text_4 : decode cL_text 4 = .ok (.iload_n 2, 1) := by decide +kernel
theorem dL_text_5 : decode cL_text 5 = .ok (.invokevirtual 22, 3) := by decide +kernel
theorem dL_text_8 : decode cL_text 8 = .ok (.i2l, 1) := by decide +kernel
theorem dL_text_9 : decode cL_text 9 = .ok (.lastore, 1) := by decide +kernel
theorem dL_text_10 : decode cL_text 10 = .ok (.goto 7, 3) := by decide +kernel
theorem dL_text_13 : decode cL_text 13 = .ok (.astore 4, 2) := by decide +kernel
theorem dL_text_15 : decode cL_text 15 = .ok (.iconst 1, 1) := by decide +kernel
theorem dL_text_16 : decode cL_text 16 = .ok (.ireturn, 1) := by decide +kernel
theorem dL_text_17 : decode cL_text 17 = .ok (.iconst 0, 1) := by decide +kernel
theorem dL_text_18 : decode cL_text 18 = .ok (.ireturn, 1) := by decide +kernel
theorem dL_letter_0 : decode cL_letter 0 = .ok (.aload_n 3, 1) := by decide +kernel
theorem dL_letter_1 : decode cL_letter 1 = .ok (.iconst 0, 1) := by decide +kernel
theorem dL_letter_2 : decode cL_letter 2 = .ok (.aload_n 0, 1) := by decide +kernel
theorem dL_letter_3 : decode cL_letter 3 = .ok (.iload_n 1, 1) := by decide +kernel
theorem dL_letter_4 : decode cL_letter 4 = .ok (.iload_n 2, 1) := by decide +kernel
theorem dL_letter_5 : decode cL_letter 5 = .ok (.invokevirtual 25, 3) := by decide +kernel
theorem dL_letter_8 : decode cL_letter 8 = .ok (.i2l, 1) := by decide +kernel
theorem dL_letter_9 : decode cL_letter 9 = .ok (.lastore, 1) := by decide +kernel
theorem dL_letter_10 : decode cL_letter 10 = .ok (.goto 7, 3) := by decide +kernel
theorem dL_letter_13 : decode cL_letter 13 = .ok (.astore 4, 2) := by decide +kernel
theorem dL_letter_15 : decode cL_letter 15 = .ok (.iconst 1, 1) := by decide +kernel
theorem dL_letter_16 : decode cL_letter 16 = .ok (.ireturn, 1) := by decide +kernel
theorem dL_letter_17 : decode cL_letter 17 = .ok (.iconst 0, 1) := by decide +kernel
theorem dL_letter_18 : decode cL_letter 18 = .ok (.ireturn, 1) := by decide +kernel
theorem dL_law_0 : decode cL_law 0 = .ok (.new 8, 3) := by decide +kernel
theorem dL_law_3 : decode cL_law 3 = .ok (.dup, 1) := by decide +kernel
theorem dL_law_4 : decode cL_law 4 = .ok (.invokespecial 28, 3) := by decide +kernel
theorem dL_law_7 : decode cL_law 7 = .ok (.astore_n 1, 1) := by decide +kernel
theorem dL_law_8 : decode cL_law 8 = .ok (.new 29, 3) := by decide +kernel
theorem dL_law_11 : decode cL_law 11 = .ok (.dup, 1) := by decide +kernel
theorem dL_law_12 : decode cL_law 12 = .ok (.invokespecial 31, 3) := by decide +kernel
theorem dL_law_15 : decode cL_law 15 = .ok (.astore_n 2, 1) := by decide +kernel
theorem dL_law_16 : decode cL_law 16 = .ok (.iconst 1, 1) := by decide +kernel
theorem dL_law_17 : decode cL_law 17 = .ok (.newarray .long, 2) := by decide +kernel
theorem dL_law_19 : decode cL_law 19 = .ok (.astore_n 3, 1) := by decide +kernel
theorem dL_law_20 : decode cL_law 20 = .ok (.iconst 0, 1) := by decide +kernel
theorem dL_law_21 : decode cL_law 21 = .ok (.istore 4, 2) := by decide +kernel
theorem dL_law_23 : decode cL_law 23 = .ok (.iload 4, 2) := by decide +kernel
theorem dL_law_25 : decode cL_law 25 = .ok (.aload_n 0, 1) := by decide +kernel
theorem dL_law_26 : decode cL_law 26 = .ok (.arraylength, 1) := by decide +kernel
theorem dL_law_27 : decode cL_law 27 = .ok (.bipush 7, 2) := by decide +kernel
theorem dL_law_29 : decode cL_law 29 = .ok (.isub, 1) := by decide +kernel
theorem dL_law_30 : decode cL_law 30 = .ok (.if_icmp .gt 886, 3) := by decide +kernel
theorem dL_law_33 : decode cL_law 33 = .ok (.aload_n 0, 1) := by decide +kernel
theorem dL_law_34 : decode cL_law 34 = .ok (.iload 4, 2) := by decide +kernel
theorem dL_law_36 : decode cL_law 36 = .ok (.iaload, 1) := by decide +kernel
theorem dL_law_37 : decode cL_law 37 = .ok (.bipush 31, 2) := by decide +kernel
theorem dL_law_39 : decode cL_law 39 = .ok (.iand, 1) := by decide +kernel
theorem dL_law_40 : decode cL_law 40 = .ok (.tableswitch 870 0 18 #[92, 165, 190, 215, 240, 327, 383, 451, 488, 502, 539, 552, 620, 633, 701, 769, 807, 820, 845], 92) := by decide +kernel
theorem dL_law_132 : decode cL_law 132 = .ok (.aload_n 1, 1) := by decide +kernel
theorem dL_law_133 : decode cL_law 133 = .ok (.aload_n 0, 1) := by decide +kernel
theorem dL_law_134 : decode cL_law 134 = .ok (.iload 4, 2) := by decide +kernel
theorem dL_law_136 : decode cL_law 136 = .ok (.iconst 1, 1) := by decide +kernel
theorem dL_law_137 : decode cL_law 137 = .ok (.iadd, 1) := by decide +kernel
theorem dL_law_138 : decode cL_law 138 = .ok (.iaload, 1) := by decide +kernel
theorem dL_law_139 : decode cL_law 139 = .ok (.aload_n 0, 1) := by decide +kernel
theorem dL_law_140 : decode cL_law 140 = .ok (.iload 4, 2) := by decide +kernel
theorem dL_law_142 : decode cL_law 142 = .ok (.iconst 2, 1) := by decide +kernel
theorem dL_law_143 : decode cL_law 143 = .ok (.iadd, 1) := by decide +kernel
theorem dL_law_144 : decode cL_law 144 = .ok (.iaload, 1) := by decide +kernel
theorem dL_law_145 : decode cL_law 145 = .ok (.aload_n 0, 1) := by decide +kernel
theorem dL_law_146 : decode cL_law 146 = .ok (.iload 4, 2) := by decide +kernel
theorem dL_law_148 : decode cL_law 148 = .ok (.iconst 3, 1) := by decide +kernel
theorem dL_law_149 : decode cL_law 149 = .ok (.iadd, 1) := by decide +kernel
theorem dL_law_150 : decode cL_law 150 = .ok (.iaload, 1) := by decide +kernel
theorem dL_law_151 : decode cL_law 151 = .ok (.aload_n 0, 1) := by decide +kernel
theorem dL_law_152 : decode cL_law 152 = .ok (.iload 4, 2) := by decide +kernel
theorem dL_law_154 : decode cL_law 154 = .ok (.iconst 4, 1) := by decide +kernel
theorem dL_law_155 : decode cL_law 155 = .ok (.iadd, 1) := by decide +kernel
theorem dL_law_156 : decode cL_law 156 = .ok (.iaload, 1) := by decide +kernel
theorem dL_law_157 : decode cL_law 157 = .ok (.aload_n 0, 1) := by decide +kernel
theorem dL_law_158 : decode cL_law 158 = .ok (.iload 4, 2) := by decide +kernel
theorem dL_law_160 : decode cL_law 160 = .ok (.iconst 5, 1) := by decide +kernel
theorem dL_law_161 : decode cL_law 161 = .ok (.iadd, 1) := by decide +kernel
theorem dL_law_162 : decode cL_law 162 = .ok (.iaload, 1) := by decide +kernel
theorem dL_law_163 : decode cL_law 163 = .ok (.invokevirtual 32, 3) := by decide +kernel
theorem dL_law_166 : decode cL_law 166 = .ok (.aload_n 2, 1) := by decide +kernel
theorem dL_law_167 : decode cL_law 167 = .ok (.aload_n 0, 1) := by decide +kernel
theorem dL_law_168 : decode cL_law 168 = .ok (.iload 4, 2) := by decide +kernel
theorem dL_law_170 : decode cL_law 170 = .ok (.iconst 1, 1) := by decide +kernel
theorem dL_law_171 : decode cL_law 171 = .ok (.iadd, 1) := by decide +kernel
theorem dL_law_172 : decode cL_law 172 = .ok (.iaload, 1) := by decide +kernel
theorem dL_law_173 : decode cL_law 173 = .ok (.aload_n 0, 1) := by decide +kernel
theorem dL_law_174 : decode cL_law 174 = .ok (.iload 4, 2) := by decide +kernel
theorem dL_law_176 : decode cL_law 176 = .ok (.iconst 2, 1) := by decide +kernel
theorem dL_law_177 : decode cL_law 177 = .ok (.iadd, 1) := by decide +kernel
theorem dL_law_178 : decode cL_law 178 = .ok (.iaload, 1) := by decide +kernel
theorem dL_law_179 : decode cL_law 179 = .ok (.aload_n 0, 1) := by decide +kernel
theorem dL_law_180 : decode cL_law 180 = .ok (.iload 4, 2) := by decide +kernel
theorem dL_law_182 : decode cL_law 182 = .ok (.iconst 3, 1) := by decide +kernel
theorem dL_law_183 : decode cL_law 183 = .ok (.iadd, 1) := by decide +kernel
theorem dL_law_184 : decode cL_law 184 = .ok (.iaload, 1) := by decide +kernel
theorem dL_law_185 : decode cL_law 185 = .ok (.aload_n 0, 1) := by decide +kernel
theorem dL_law_186 : decode cL_law 186 = .ok (.iload 4, 2) := by decide +kernel
theorem dL_law_188 : decode cL_law 188 = .ok (.iconst 4, 1) := by decide +kernel
theorem dL_law_189 : decode cL_law 189 = .ok (.iadd, 1) := by decide +kernel
theorem dL_law_190 : decode cL_law 190 = .ok (.iaload, 1) := by decide +kernel
theorem dL_law_191 : decode cL_law 191 = .ok (.aload_n 0, 1) := by decide +kernel
theorem dL_law_192 : decode cL_law 192 = .ok (.iload 4, 2) := by decide +kernel
theorem dL_law_194 : decode cL_law 194 = .ok (.iconst 5, 1) := by decide +kernel
theorem dL_law_195 : decode cL_law 195 = .ok (.iadd, 1) := by decide +kernel
theorem dL_law_196 : decode cL_law 196 = .ok (.iaload, 1) := by decide +kernel
theorem dL_law_197 : decode cL_law 197 = .ok (.invokevirtual 36, 3) := by decide +kernel
theorem dL_law_200 : decode cL_law 200 = .ok (.if_icmp .eq 710, 3) := by decide +kernel
theorem dL_law_203 : decode cL_law 203 = .ok (.iconst 0, 1) := by decide +kernel
theorem dL_law_204 : decode cL_law 204 = .ok (.ireturn, 1) := by decide +kernel
theorem dL_law_205 : decode cL_law 205 = .ok (.aload_n 1, 1) := by decide +kernel
theorem dL_law_206 : decode cL_law 206 = .ok (.aload_n 0, 1) := by decide +kernel
theorem dL_law_207 : decode cL_law 207 = .ok (.iload 4, 2) := by decide +kernel
theorem dL_law_209 : decode cL_law 209 = .ok (.iconst 1, 1) := by decide +kernel
theorem dL_law_210 : decode cL_law 210 = .ok (.iadd, 1) := by decide +kernel
theorem dL_law_211 : decode cL_law 211 = .ok (.iaload, 1) := by decide +kernel
theorem dL_law_212 : decode cL_law 212 = .ok (.invokevirtual 37, 3) := by decide +kernel
theorem dL_law_215 : decode cL_law 215 = .ok (.aload_n 2, 1) := by decide +kernel
theorem dL_law_216 : decode cL_law 216 = .ok (.aload_n 0, 1) := by decide +kernel
theorem dL_law_217 : decode cL_law 217 = .ok (.iload 4, 2) := by decide +kernel
theorem dL_law_219 : decode cL_law 219 = .ok (.iconst 1, 1) := by decide +kernel
theorem dL_law_220 : decode cL_law 220 = .ok (.iadd, 1) := by decide +kernel
theorem dL_law_221 : decode cL_law 221 = .ok (.iaload, 1) := by decide +kernel
theorem dL_law_222 : decode cL_law 222 = .ok (.invokevirtual 41, 3) := by decide +kernel
theorem dL_law_225 : decode cL_law 225 = .ok (.if_icmp .eq 685, 3) := by decide +kernel
theorem dL_law_228 : decode cL_law 228 = .ok (.iconst 0, 1) := by decide +kernel
theorem dL_law_229 : decode cL_law 229 = .ok (.ireturn, 1) := by decide +kernel
theorem dL_law_230 : decode cL_law 230 = .ok (.aload_n 1, 1) := by decide +kernel
theorem dL_law_231 : decode cL_law 231 = .ok (.aload_n 0, 1) := by decide +kernel
theorem dL_law_232 : decode cL_law 232 = .ok (.iload 4, 2) := by decide +kernel
theorem dL_law_234 : decode cL_law 234 = .ok (.iconst 1, 1) := by decide +kernel
theorem dL_law_235 : decode cL_law 235 = .ok (.iadd, 1) := by decide +kernel
theorem dL_law_236 : decode cL_law 236 = .ok (.iaload, 1) := by decide +kernel
theorem dL_law_237 : decode cL_law 237 = .ok (.invokevirtual 42, 3) := by decide +kernel
theorem dL_law_240 : decode cL_law 240 = .ok (.aload_n 2, 1) := by decide +kernel
theorem dL_law_241 : decode cL_law 241 = .ok (.aload_n 0, 1) := by decide +kernel
theorem dL_law_242 : decode cL_law 242 = .ok (.iload 4, 2) := by decide +kernel
theorem dL_law_244 : decode cL_law 244 = .ok (.iconst 1, 1) := by decide +kernel
theorem dL_law_245 : decode cL_law 245 = .ok (.iadd, 1) := by decide +kernel
theorem dL_law_246 : decode cL_law 246 = .ok (.iaload, 1) := by decide +kernel
theorem dL_law_247 : decode cL_law 247 = .ok (.invokevirtual 45, 3) := by decide +kernel
theorem dL_law_250 : decode cL_law 250 = .ok (.if_icmp .eq 660, 3) := by decide +kernel
theorem dL_law_253 : decode cL_law 253 = .ok (.iconst 0, 1) := by decide +kernel
theorem dL_law_254 : decode cL_law 254 = .ok (.ireturn, 1) := by decide +kernel
theorem dL_law_255 : decode cL_law 255 = .ok (.aload_n 1, 1) := by decide +kernel
theorem dL_law_256 : decode cL_law 256 = .ok (.aload_n 0, 1) := by decide +kernel
theorem dL_law_257 : decode cL_law 257 = .ok (.iload 4, 2) := by decide +kernel
theorem dL_law_259 : decode cL_law 259 = .ok (.iconst 1, 1) := by decide +kernel
theorem dL_law_260 : decode cL_law 260 = .ok (.iadd, 1) := by decide +kernel
theorem dL_law_261 : decode cL_law 261 = .ok (.iaload, 1) := by decide +kernel
theorem dL_law_262 : decode cL_law 262 = .ok (.invokevirtual 46, 3) := by decide +kernel
theorem dL_law_265 : decode cL_law 265 = .ok (.aload_n 2, 1) := by decide +kernel
theorem dL_law_266 : decode cL_law 266 = .ok (.aload_n 0, 1) := by decide +kernel
theorem dL_law_267 : decode cL_law 267 = .ok (.iload 4, 2) := by decide +kernel
theorem dL_law_269 : decode cL_law 269 = .ok (.iconst 1, 1) := by decide +kernel
theorem dL_law_270 : decode cL_law 270 = .ok (.iadd, 1) := by decide +kernel
theorem dL_law_271 : decode cL_law 271 = .ok (.iaload, 1) := by decide +kernel
theorem dL_law_272 : decode cL_law 272 = .ok (.invokevirtual 49, 3) := by decide +kernel
theorem dL_law_275 : decode cL_law 275 = .ok (.if_icmp .eq 635, 3) := by decide +kernel
theorem dL_law_278 : decode cL_law 278 = .ok (.iconst 0, 1) := by decide +kernel
theorem dL_law_279 : decode cL_law 279 = .ok (.ireturn, 1) := by decide +kernel
theorem dL_law_280 : decode cL_law 280 = .ok (.aload_n 1, 1) := by decide +kernel
theorem dL_law_281 : decode cL_law 281 = .ok (.aload_n 0, 1) := by decide +kernel
theorem dL_law_282 : decode cL_law 282 = .ok (.iload 4, 2) := by decide +kernel
theorem dL_law_284 : decode cL_law 284 = .ok (.iconst 1, 1) := by decide +kernel
theorem dL_law_285 : decode cL_law 285 = .ok (.iadd, 1) := by decide +kernel
theorem dL_law_286 : decode cL_law 286 = .ok (.iaload, 1) := by decide +kernel
theorem dL_law_287 : decode cL_law 287 = .ok (.aload_n 0, 1) := by decide +kernel
theorem dL_law_288 : decode cL_law 288 = .ok (.iload 4, 2) := by decide +kernel
theorem dL_law_290 : decode cL_law 290 = .ok (.iconst 2, 1) := by decide +kernel
theorem dL_law_291 : decode cL_law 291 = .ok (.iadd, 1) := by decide +kernel
theorem dL_law_292 : decode cL_law 292 = .ok (.iaload, 1) := by decide +kernel
theorem dL_law_293 : decode cL_law 293 = .ok (.aload_n 0, 1) := by decide +kernel
theorem dL_law_294 : decode cL_law 294 = .ok (.iload 4, 2) := by decide +kernel
theorem dL_law_296 : decode cL_law 296 = .ok (.iconst 3, 1) := by decide +kernel
theorem dL_law_297 : decode cL_law 297 = .ok (.iadd, 1) := by decide +kernel
theorem dL_law_298 : decode cL_law 298 = .ok (.iaload, 1) := by decide +kernel
theorem dL_law_299 : decode cL_law 299 = .ok (.aload_n 0, 1) := by decide +kernel
theorem dL_law_300 : decode cL_law 300 = .ok (.iload 4, 2) := by decide +kernel
theorem dL_law_302 : decode cL_law 302 = .ok (.iconst 4, 1) := by decide +kernel
theorem dL_law_303 : decode cL_law 303 = .ok (.iadd, 1) := by decide +kernel
theorem dL_law_304 : decode cL_law 304 = .ok (.iaload, 1) := by decide +kernel
theorem dL_law_305 : decode cL_law 305 = .ok (.aload_n 0, 1) := by decide +kernel
theorem dL_law_306 : decode cL_law 306 = .ok (.iload 4, 2) := by decide +kernel
theorem dL_law_308 : decode cL_law 308 = .ok (.iconst 5, 1) := by decide +kernel
theorem dL_law_309 : decode cL_law 309 = .ok (.iadd, 1) := by decide +kernel
theorem dL_law_310 : decode cL_law 310 = .ok (.iaload, 1) := by decide +kernel
theorem dL_law_311 : decode cL_law 311 = .ok (.aload_n 0, 1) := by decide +kernel
theorem dL_law_312 : decode cL_law 312 = .ok (.iload 4, 2) := by decide +kernel
theorem dL_law_314 : decode cL_law 314 = .ok (.bipush 6, 2) := by decide +kernel
theorem dL_law_316 : decode cL_law 316 = .ok (.iadd, 1) := by decide +kernel
theorem dL_law_317 : decode cL_law 317 = .ok (.iaload, 1) := by decide +kernel
theorem dL_law_318 : decode cL_law 318 = .ok (.invokevirtual 50, 3) := by decide +kernel
theorem dL_law_321 : decode cL_law 321 = .ok (.aload_n 2, 1) := by decide +kernel
theorem dL_law_322 : decode cL_law 322 = .ok (.aload_n 0, 1) := by decide +kernel
theorem dL_law_323 : decode cL_law 323 = .ok (.iload 4, 2) := by decide +kernel
theorem dL_law_325 : decode cL_law 325 = .ok (.iconst 1, 1) := by decide +kernel
theorem dL_law_326 : decode cL_law 326 = .ok (.iadd, 1) := by decide +kernel
theorem dL_law_327 : decode cL_law 327 = .ok (.iaload, 1) := by decide +kernel
theorem dL_law_328 : decode cL_law 328 = .ok (.aload_n 0, 1) := by decide +kernel
theorem dL_law_329 : decode cL_law 329 = .ok (.iload 4, 2) := by decide +kernel
theorem dL_law_331 : decode cL_law 331 = .ok (.iconst 2, 1) := by decide +kernel
theorem dL_law_332 : decode cL_law 332 = .ok (.iadd, 1) := by decide +kernel
theorem dL_law_333 : decode cL_law 333 = .ok (.iaload, 1) := by decide +kernel
theorem dL_law_334 : decode cL_law 334 = .ok (.aload_n 0, 1) := by decide +kernel
theorem dL_law_335 : decode cL_law 335 = .ok (.iload 4, 2) := by decide +kernel
theorem dL_law_337 : decode cL_law 337 = .ok (.iconst 3, 1) := by decide +kernel
theorem dL_law_338 : decode cL_law 338 = .ok (.iadd, 1) := by decide +kernel
theorem dL_law_339 : decode cL_law 339 = .ok (.iaload, 1) := by decide +kernel
theorem dL_law_340 : decode cL_law 340 = .ok (.aload_n 0, 1) := by decide +kernel
theorem dL_law_341 : decode cL_law 341 = .ok (.iload 4, 2) := by decide +kernel
theorem dL_law_343 : decode cL_law 343 = .ok (.iconst 4, 1) := by decide +kernel
theorem dL_law_344 : decode cL_law 344 = .ok (.iadd, 1) := by decide +kernel
theorem dL_law_345 : decode cL_law 345 = .ok (.iaload, 1) := by decide +kernel
theorem dL_law_346 : decode cL_law 346 = .ok (.aload_n 0, 1) := by decide +kernel
theorem dL_law_347 : decode cL_law 347 = .ok (.iload 4, 2) := by decide +kernel
theorem dL_law_349 : decode cL_law 349 = .ok (.iconst 5, 1) := by decide +kernel
theorem dL_law_350 : decode cL_law 350 = .ok (.iadd, 1) := by decide +kernel
theorem dL_law_351 : decode cL_law 351 = .ok (.iaload, 1) := by decide +kernel
theorem dL_law_352 : decode cL_law 352 = .ok (.aload_n 0, 1) := by decide +kernel
theorem dL_law_353 : decode cL_law 353 = .ok (.iload 4, 2) := by decide +kernel
theorem dL_law_355 : decode cL_law 355 = .ok (.bipush 6, 2) := by decide +kernel
theorem dL_law_357 : decode cL_law 357 = .ok (.iadd, 1) := by decide +kernel
theorem dL_law_358 : decode cL_law 358 = .ok (.iaload, 1) := by decide +kernel
theorem dL_law_359 : decode cL_law 359 = .ok (.invokevirtual 54, 3) := by decide +kernel
theorem dL_law_362 : decode cL_law 362 = .ok (.if_icmp .eq 548, 3) := by decide +kernel
theorem dL_law_365 : decode cL_law 365 = .ok (.iconst 0, 1) := by decide +kernel
theorem dL_law_366 : decode cL_law 366 = .ok (.ireturn, 1) := by decide +kernel
theorem dL_law_367 : decode cL_law 367 = .ok (.aload_n 1, 1) := by decide +kernel
theorem dL_law_368 : decode cL_law 368 = .ok (.aload_n 0, 1) := by decide +kernel
theorem dL_law_369 : decode cL_law 369 = .ok (.iload 4, 2) := by decide +kernel
theorem dL_law_371 : decode cL_law 371 = .ok (.iconst 1, 1) := by decide +kernel
theorem dL_law_372 : decode cL_law 372 = .ok (.iadd, 1) := by decide +kernel
theorem dL_law_373 : decode cL_law 373 = .ok (.iaload, 1) := by decide +kernel
theorem dL_law_374 : decode cL_law 374 = .ok (.aload_n 3, 1) := by decide +kernel
theorem dL_law_375 : decode cL_law 375 = .ok (.invokestatic 55, 3) := by decide +kernel
theorem dL_law_378 : decode cL_law 378 = .ok (.istore 5, 2) := by decide +kernel
theorem dL_law_380 : decode cL_law 380 = .ok (.aload_n 2, 1) := by decide +kernel
theorem dL_law_381 : decode cL_law 381 = .ok (.aload_n 0, 1) := by decide +kernel
theorem dL_law_382 : decode cL_law 382 = .ok (.iload 4, 2) := by decide +kernel
theorem dL_law_384 : decode cL_law 384 = .ok (.iconst 1, 1) := by decide +kernel
theorem dL_law_385 : decode cL_law 385 = .ok (.iadd, 1) := by decide +kernel
theorem dL_law_386 : decode cL_law 386 = .ok (.iaload, 1) := by decide +kernel
theorem dL_law_387 : decode cL_law 387 = .ok (.invokevirtual 60, 3) := by decide +kernel
theorem dL_law_390 : decode cL_law 390 = .ok (.istore 6, 2) := by decide +kernel
theorem dL_law_392 : decode cL_law 392 = .ok (.aload_n 2, 1) := by decide +kernel
theorem dL_law_393 : decode cL_law 393 = .ok (.invokevirtual 61, 3) := by decide +kernel
theorem dL_law_396 : decode cL_law 396 = .ok (.iload 5, 2) := by decide +kernel
theorem dL_law_398 : decode cL_law 398 = .ok (.if_icmp .eq 5, 3) := by decide +kernel
theorem dL_law_401 : decode cL_law 401 = .ok (.iconst 0, 1) := by decide +kernel
theorem dL_law_402 : decode cL_law 402 = .ok (.ireturn, 1) := by decide +kernel
theorem dL_law_403 : decode cL_law 403 = .ok (.iload 5, 2) := by decide +kernel
theorem dL_law_405 : decode cL_law 405 = .ok (.ifCond .ne 15, 3) := by decide +kernel
theorem dL_law_408 : decode cL_law 408 = .ok (.aload_n 3, 1) := by decide +kernel
theorem dL_law_409 : decode cL_law 409 = .ok (.iconst 0, 1) := by decide +kernel
theorem dL_law_410 : decode cL_law 410 = .ok (.laload, 1) := by decide +kernel
theorem dL_law_411 : decode cL_law 411 = .ok (.iload 6, 2) := by decide +kernel
theorem dL_law_413 : decode cL_law 413 = .ok (.i2l, 1) := by decide +kernel
theorem dL_law_414 : decode cL_law 414 = .ok (.lcmp, 1) := by decide +kernel
theorem dL_law_415 : decode cL_law 415 = .ok (.ifCond .eq 5, 3) := by decide +kernel
theorem dL_law_418 : decode cL_law 418 = .ok (.iconst 0, 1) := by decide +kernel
theorem dL_law_419 : decode cL_law 419 = .ok (.ireturn, 1) := by decide +kernel
theorem dL_law_420 : decode cL_law 420 = .ok (.goto 490, 3) := by decide +kernel
theorem dL_law_423 : decode cL_law 423 = .ok (.aload_n 1, 1) := by decide +kernel
theorem dL_law_424 : decode cL_law 424 = .ok (.aload_n 0, 1) := by decide +kernel
theorem dL_law_425 : decode cL_law 425 = .ok (.iload 4, 2) := by decide +kernel
theorem dL_law_427 : decode cL_law 427 = .ok (.iconst 1, 1) := by decide +kernel
theorem dL_law_428 : decode cL_law 428 = .ok (.iadd, 1) := by decide +kernel
theorem dL_law_429 : decode cL_law 429 = .ok (.iaload, 1) := by decide +kernel
theorem dL_law_430 : decode cL_law 430 = .ok (.aload_n 0, 1) := by decide +kernel
theorem dL_law_431 : decode cL_law 431 = .ok (.iload 4, 2) := by decide +kernel
theorem dL_law_433 : decode cL_law 433 = .ok (.iconst 2, 1) := by decide +kernel
theorem dL_law_434 : decode cL_law 434 = .ok (.iadd, 1) := by decide +kernel
theorem dL_law_435 : decode cL_law 435 = .ok (.iaload, 1) := by decide +kernel
theorem dL_law_436 : decode cL_law 436 = .ok (.aload_n 3, 1) := by decide +kernel
theorem dL_law_437 : decode cL_law 437 = .ok (.invokestatic 65, 3) := by decide +kernel
theorem dL_law_440 : decode cL_law 440 = .ok (.istore 5, 2) := by decide +kernel
theorem dL_law_442 : decode cL_law 442 = .ok (.aload_n 2, 1) := by decide +kernel
theorem dL_law_443 : decode cL_law 443 = .ok (.aload_n 0, 1) := by decide +kernel
theorem dL_law_444 : decode cL_law 444 = .ok (.iload 4, 2) := by decide +kernel
theorem dL_law_446 : decode cL_law 446 = .ok (.iconst 1, 1) := by decide +kernel
theorem dL_law_447 : decode cL_law 447 = .ok (.iadd, 1) := by decide +kernel
theorem dL_law_448 : decode cL_law 448 = .ok (.iaload, 1) := by decide +kernel
theorem dL_law_449 : decode cL_law 449 = .ok (.aload_n 0, 1) := by decide +kernel
theorem dL_law_450 : decode cL_law 450 = .ok (.iload 4, 2) := by decide +kernel
theorem dL_law_452 : decode cL_law 452 = .ok (.iconst 2, 1) := by decide +kernel
theorem dL_law_453 : decode cL_law 453 = .ok (.iadd, 1) := by decide +kernel
theorem dL_law_454 : decode cL_law 454 = .ok (.iaload, 1) := by decide +kernel
theorem dL_law_455 : decode cL_law 455 = .ok (.invokevirtual 68, 3) := by decide +kernel
theorem dL_law_458 : decode cL_law 458 = .ok (.istore 6, 2) := by decide +kernel
theorem dL_law_460 : decode cL_law 460 = .ok (.aload_n 2, 1) := by decide +kernel
theorem dL_law_461 : decode cL_law 461 = .ok (.invokevirtual 61, 3) := by decide +kernel
theorem dL_law_464 : decode cL_law 464 = .ok (.iload 5, 2) := by decide +kernel
theorem dL_law_466 : decode cL_law 466 = .ok (.if_icmp .eq 5, 3) := by decide +kernel
theorem dL_law_469 : decode cL_law 469 = .ok (.iconst 0, 1) := by decide +kernel
theorem dL_law_470 : decode cL_law 470 = .ok (.ireturn, 1) := by decide +kernel
theorem dL_law_471 : decode cL_law 471 = .ok (.iload 5, 2) := by decide +kernel
theorem dL_law_473 : decode cL_law 473 = .ok (.ifCond .ne 15, 3) := by decide +kernel
theorem dL_law_476 : decode cL_law 476 = .ok (.aload_n 3, 1) := by decide +kernel
theorem dL_law_477 : decode cL_law 477 = .ok (.iconst 0, 1) := by decide +kernel
theorem dL_law_478 : decode cL_law 478 = .ok (.laload, 1) := by decide +kernel
theorem dL_law_479 : decode cL_law 479 = .ok (.iload 6, 2) := by decide +kernel
theorem dL_law_481 : decode cL_law 481 = .ok (.i2l, 1) := by decide +kernel
theorem dL_law_482 : decode cL_law 482 = .ok (.lcmp, 1) := by decide +kernel
theorem dL_law_483 : decode cL_law 483 = .ok (.ifCond .eq 5, 3) := by decide +kernel
theorem dL_law_486 : decode cL_law 486 = .ok (.iconst 0, 1) := by decide +kernel
theorem dL_law_487 : decode cL_law 487 = .ok (.ireturn, 1) := by decide +kernel
theorem dL_law_488 : decode cL_law 488 = .ok (.goto 422, 3) := by decide +kernel
theorem dL_law_491 : decode cL_law 491 = .ok (.aload_n 1, 1) := by decide +kernel
theorem dL_law_492 : decode cL_law 492 = .ok (.aload_n 0, 1) := by decide +kernel
theorem dL_law_493 : decode cL_law 493 = .ok (.iload 4, 2) := by decide +kernel
theorem dL_law_495 : decode cL_law 495 = .ok (.iconst 1, 1) := by decide +kernel
theorem dL_law_496 : decode cL_law 496 = .ok (.iadd, 1) := by decide +kernel
theorem dL_law_497 : decode cL_law 497 = .ok (.iaload, 1) := by decide +kernel
theorem dL_law_498 : decode cL_law 498 = .ok (.aload_n 0, 1) := by decide +kernel
theorem dL_law_499 : decode cL_law 499 = .ok (.iload 4, 2) := by decide +kernel
theorem dL_law_501 : decode cL_law 501 = .ok (.iconst 2, 1) := by decide +kernel
theorem dL_law_502 : decode cL_law 502 = .ok (.iadd, 1) := by decide +kernel
theorem dL_law_503 : decode cL_law 503 = .ok (.iaload, 1) := by decide +kernel
theorem dL_law_504 : decode cL_law 504 = .ok (.invokevirtual 69, 3) := by decide +kernel
theorem dL_law_507 : decode cL_law 507 = .ok (.aload_n 2, 1) := by decide +kernel
theorem dL_law_508 : decode cL_law 508 = .ok (.aload_n 0, 1) := by decide +kernel
theorem dL_law_509 : decode cL_law 509 = .ok (.iload 4, 2) := by decide +kernel
theorem dL_law_511 : decode cL_law 511 = .ok (.iconst 1, 1) := by decide +kernel
theorem dL_law_512 : decode cL_law 512 = .ok (.iadd, 1) := by decide +kernel
theorem dL_law_513 : decode cL_law 513 = .ok (.iaload, 1) := by decide +kernel
theorem dL_law_514 : decode cL_law 514 = .ok (.aload_n 0, 1) := by decide +kernel
theorem dL_law_515 : decode cL_law 515 = .ok (.iload 4, 2) := by decide +kernel
theorem dL_law_517 : decode cL_law 517 = .ok (.iconst 2, 1) := by decide +kernel
theorem dL_law_518 : decode cL_law 518 = .ok (.iadd, 1) := by decide +kernel
theorem dL_law_519 : decode cL_law 519 = .ok (.iaload, 1) := by decide +kernel
theorem dL_law_520 : decode cL_law 520 = .ok (.invokevirtual 72, 3) := by decide +kernel
theorem dL_law_523 : decode cL_law 523 = .ok (.if_icmp .eq 387, 3) := by decide +kernel
theorem dL_law_526 : decode cL_law 526 = .ok (.iconst 0, 1) := by decide +kernel
theorem dL_law_527 : decode cL_law 527 = .ok (.ireturn, 1) := by decide +kernel
theorem dL_law_528 : decode cL_law 528 = .ok (.aload_n 1, 1) := by decide +kernel
theorem dL_law_529 : decode cL_law 529 = .ok (.invokevirtual 73, 3) := by decide +kernel
theorem dL_law_532 : decode cL_law 532 = .ok (.aload_n 2, 1) := by decide +kernel
theorem dL_law_533 : decode cL_law 533 = .ok (.invokevirtual 77, 3) := by decide +kernel
theorem dL_law_536 : decode cL_law 536 = .ok (.lcmp, 1) := by decide +kernel
theorem dL_law_537 : decode cL_law 537 = .ok (.ifCond .eq 373, 3) := by decide +kernel
theorem dL_law_540 : decode cL_law 540 = .ok (.iconst 0, 1) := by decide +kernel
theorem dL_law_541 : decode cL_law 541 = .ok (.ireturn, 1) := by decide +kernel
theorem dL_law_542 : decode cL_law 542 = .ok (.aload_n 1, 1) := by decide +kernel
theorem dL_law_543 : decode cL_law 543 = .ok (.aload_n 0, 1) := by decide +kernel
theorem dL_law_544 : decode cL_law 544 = .ok (.iload 4, 2) := by decide +kernel
theorem dL_law_546 : decode cL_law 546 = .ok (.iconst 1, 1) := by decide +kernel
theorem dL_law_547 : decode cL_law 547 = .ok (.iadd, 1) := by decide +kernel
theorem dL_law_548 : decode cL_law 548 = .ok (.iaload, 1) := by decide +kernel
theorem dL_law_549 : decode cL_law 549 = .ok (.aload_n 0, 1) := by decide +kernel
theorem dL_law_550 : decode cL_law 550 = .ok (.iload 4, 2) := by decide +kernel
theorem dL_law_552 : decode cL_law 552 = .ok (.iconst 2, 1) := by decide +kernel
theorem dL_law_553 : decode cL_law 553 = .ok (.iadd, 1) := by decide +kernel
theorem dL_law_554 : decode cL_law 554 = .ok (.iaload, 1) := by decide +kernel
theorem dL_law_555 : decode cL_law 555 = .ok (.invokevirtual 78, 3) := by decide +kernel
theorem dL_law_558 : decode cL_law 558 = .ok (.aload_n 2, 1) := by decide +kernel
theorem dL_law_559 : decode cL_law 559 = .ok (.aload_n 0, 1) := by decide +kernel
theorem dL_law_560 : decode cL_law 560 = .ok (.iload 4, 2) := by decide +kernel
theorem dL_law_562 : decode cL_law 562 = .ok (.iconst 1, 1) := by decide +kernel
theorem dL_law_563 : decode cL_law 563 = .ok (.iadd, 1) := by decide +kernel
theorem dL_law_564 : decode cL_law 564 = .ok (.iaload, 1) := by decide +kernel
theorem dL_law_565 : decode cL_law 565 = .ok (.aload_n 0, 1) := by decide +kernel
theorem dL_law_566 : decode cL_law 566 = .ok (.iload 4, 2) := by decide +kernel
theorem dL_law_568 : decode cL_law 568 = .ok (.iconst 2, 1) := by decide +kernel
theorem dL_law_569 : decode cL_law 569 = .ok (.iadd, 1) := by decide +kernel
theorem dL_law_570 : decode cL_law 570 = .ok (.iaload, 1) := by decide +kernel
theorem dL_law_571 : decode cL_law 571 = .ok (.invokevirtual 81, 3) := by decide +kernel
theorem dL_law_574 : decode cL_law 574 = .ok (.if_icmp .eq 336, 3) := by decide +kernel
theorem dL_law_577 : decode cL_law 577 = .ok (.iconst 0, 1) := by decide +kernel
theorem dL_law_578 : decode cL_law 578 = .ok (.ireturn, 1) := by decide +kernel
theorem dL_law_579 : decode cL_law 579 = .ok (.aload_n 1, 1) := by decide +kernel
theorem dL_law_580 : decode cL_law 580 = .ok (.invokevirtual 82, 3) := by decide +kernel
theorem dL_law_583 : decode cL_law 583 = .ok (.aload_n 2, 1) := by decide +kernel
theorem dL_law_584 : decode cL_law 584 = .ok (.invokevirtual 85, 3) := by decide +kernel
theorem dL_law_587 : decode cL_law 587 = .ok (.if_icmp .eq 323, 3) := by decide +kernel
theorem dL_law_590 : decode cL_law 590 = .ok (.iconst 0, 1) := by decide +kernel
theorem dL_law_591 : decode cL_law 591 = .ok (.ireturn, 1) := by decide +kernel
theorem dL_law_592 : decode cL_law 592 = .ok (.aload_n 1, 1) := by decide +kernel
theorem dL_law_593 : decode cL_law 593 = .ok (.aload_n 0, 1) := by decide +kernel
theorem dL_law_594 : decode cL_law 594 = .ok (.iload 4, 2) := by decide +kernel
theorem dL_law_596 : decode cL_law 596 = .ok (.iconst 1, 1) := by decide +kernel
theorem dL_law_597 : decode cL_law 597 = .ok (.iadd, 1) := by decide +kernel
theorem dL_law_598 : decode cL_law 598 = .ok (.iaload, 1) := by decide +kernel
theorem dL_law_599 : decode cL_law 599 = .ok (.aload_n 0, 1) := by decide +kernel
theorem dL_law_600 : decode cL_law 600 = .ok (.iload 4, 2) := by decide +kernel
theorem dL_law_602 : decode cL_law 602 = .ok (.iconst 2, 1) := by decide +kernel
theorem dL_law_603 : decode cL_law 603 = .ok (.iadd, 1) := by decide +kernel
theorem dL_law_604 : decode cL_law 604 = .ok (.iaload, 1) := by decide +kernel
theorem dL_law_605 : decode cL_law 605 = .ok (.aload_n 3, 1) := by decide +kernel
theorem dL_law_606 : decode cL_law 606 = .ok (.invokestatic 86, 3) := by decide +kernel
theorem dL_law_609 : decode cL_law 609 = .ok (.istore 5, 2) := by decide +kernel
theorem dL_law_611 : decode cL_law 611 = .ok (.aload_n 2, 1) := by decide +kernel
theorem dL_law_612 : decode cL_law 612 = .ok (.aload_n 0, 1) := by decide +kernel
theorem dL_law_613 : decode cL_law 613 = .ok (.iload 4, 2) := by decide +kernel
theorem dL_law_615 : decode cL_law 615 = .ok (.iconst 1, 1) := by decide +kernel
theorem dL_law_616 : decode cL_law 616 = .ok (.iadd, 1) := by decide +kernel
theorem dL_law_617 : decode cL_law 617 = .ok (.iaload, 1) := by decide +kernel
theorem dL_law_618 : decode cL_law 618 = .ok (.aload_n 0, 1) := by decide +kernel
theorem dL_law_619 : decode cL_law 619 = .ok (.iload 4, 2) := by decide +kernel
theorem dL_law_621 : decode cL_law 621 = .ok (.iconst 2, 1) := by decide +kernel
theorem dL_law_622 : decode cL_law 622 = .ok (.iadd, 1) := by decide +kernel
theorem dL_law_623 : decode cL_law 623 = .ok (.iaload, 1) := by decide +kernel
theorem dL_law_624 : decode cL_law 624 = .ok (.invokevirtual 88, 3) := by decide +kernel
theorem dL_law_627 : decode cL_law 627 = .ok (.istore 6, 2) := by decide +kernel
theorem dL_law_629 : decode cL_law 629 = .ok (.aload_n 2, 1) := by decide +kernel
theorem dL_law_630 : decode cL_law 630 = .ok (.invokevirtual 61, 3) := by decide +kernel
theorem dL_law_633 : decode cL_law 633 = .ok (.iload 5, 2) := by decide +kernel
theorem dL_law_635 : decode cL_law 635 = .ok (.if_icmp .eq 5, 3) := by decide +kernel
theorem dL_law_638 : decode cL_law 638 = .ok (.iconst 0, 1) := by decide +kernel
theorem dL_law_639 : decode cL_law 639 = .ok (.ireturn, 1) := by decide +kernel
theorem dL_law_640 : decode cL_law 640 = .ok (.iload 5, 2) := by decide +kernel
theorem dL_law_642 : decode cL_law 642 = .ok (.ifCond .ne 15, 3) := by decide +kernel
theorem dL_law_645 : decode cL_law 645 = .ok (.aload_n 3, 1) := by decide +kernel
theorem dL_law_646 : decode cL_law 646 = .ok (.iconst 0, 1) := by decide +kernel
theorem dL_law_647 : decode cL_law 647 = .ok (.laload, 1) := by decide +kernel
theorem dL_law_648 : decode cL_law 648 = .ok (.iload 6, 2) := by decide +kernel
theorem dL_law_650 : decode cL_law 650 = .ok (.i2l, 1) := by decide +kernel
theorem dL_law_651 : decode cL_law 651 = .ok (.lcmp, 1) := by decide +kernel
theorem dL_law_652 : decode cL_law 652 = .ok (.ifCond .eq 5, 3) := by decide +kernel
theorem dL_law_655 : decode cL_law 655 = .ok (.iconst 0, 1) := by decide +kernel
theorem dL_law_656 : decode cL_law 656 = .ok (.ireturn, 1) := by decide +kernel
theorem dL_law_657 : decode cL_law 657 = .ok (.goto 253, 3) := by decide +kernel
theorem dL_law_660 : decode cL_law 660 = .ok (.aload_n 1, 1) := by decide +kernel
theorem dL_law_661 : decode cL_law 661 = .ok (.invokevirtual 89, 3) := by decide +kernel
theorem dL_law_664 : decode cL_law 664 = .ok (.aload_n 2, 1) := by decide +kernel
theorem dL_law_665 : decode cL_law 665 = .ok (.invokevirtual 92, 3) := by decide +kernel
theorem dL_law_668 : decode cL_law 668 = .ok (.if_icmp .eq 242, 3) := by decide +kernel
theorem dL_law_671 : decode cL_law 671 = .ok (.iconst 0, 1) := by decide +kernel
theorem dL_law_672 : decode cL_law 672 = .ok (.ireturn, 1) := by decide +kernel
theorem dL_law_673 : decode cL_law 673 = .ok (.aload_n 1, 1) := by decide +kernel
theorem dL_law_674 : decode cL_law 674 = .ok (.aload_n 0, 1) := by decide +kernel
theorem dL_law_675 : decode cL_law 675 = .ok (.iload 4, 2) := by decide +kernel
theorem dL_law_677 : decode cL_law 677 = .ok (.iconst 1, 1) := by decide +kernel
theorem dL_law_678 : decode cL_law 678 = .ok (.iadd, 1) := by decide +kernel
theorem dL_law_679 : decode cL_law 679 = .ok (.iaload, 1) := by decide +kernel
theorem dL_law_680 : decode cL_law 680 = .ok (.aload_n 0, 1) := by decide +kernel
theorem dL_law_681 : decode cL_law 681 = .ok (.iload 4, 2) := by decide +kernel
theorem dL_law_683 : decode cL_law 683 = .ok (.iconst 2, 1) := by decide +kernel
theorem dL_law_684 : decode cL_law 684 = .ok (.iadd, 1) := by decide +kernel
theorem dL_law_685 : decode cL_law 685 = .ok (.iaload, 1) := by decide +kernel
theorem dL_law_686 : decode cL_law 686 = .ok (.aload_n 3, 1) := by decide +kernel
theorem dL_law_687 : decode cL_law 687 = .ok (.invokestatic 93, 3) := by decide +kernel
theorem dL_law_690 : decode cL_law 690 = .ok (.istore 5, 2) := by decide +kernel
theorem dL_law_692 : decode cL_law 692 = .ok (.aload_n 2, 1) := by decide +kernel
theorem dL_law_693 : decode cL_law 693 = .ok (.aload_n 0, 1) := by decide +kernel
theorem dL_law_694 : decode cL_law 694 = .ok (.iload 4, 2) := by decide +kernel
theorem dL_law_696 : decode cL_law 696 = .ok (.iconst 1, 1) := by decide +kernel
theorem dL_law_697 : decode cL_law 697 = .ok (.iadd, 1) := by decide +kernel
theorem dL_law_698 : decode cL_law 698 = .ok (.iaload, 1) := by decide +kernel
theorem dL_law_699 : decode cL_law 699 = .ok (.aload_n 0, 1) := by decide +kernel
theorem dL_law_700 : decode cL_law 700 = .ok (.iload 4, 2) := by decide +kernel
theorem dL_law_702 : decode cL_law 702 = .ok (.iconst 2, 1) := by decide +kernel
theorem dL_law_703 : decode cL_law 703 = .ok (.iadd, 1) := by decide +kernel
theorem dL_law_704 : decode cL_law 704 = .ok (.iaload, 1) := by decide +kernel
theorem dL_law_705 : decode cL_law 705 = .ok (.invokevirtual 95, 3) := by decide +kernel
theorem dL_law_708 : decode cL_law 708 = .ok (.istore 6, 2) := by decide +kernel
theorem dL_law_710 : decode cL_law 710 = .ok (.aload_n 2, 1) := by decide +kernel
theorem dL_law_711 : decode cL_law 711 = .ok (.invokevirtual 61, 3) := by decide +kernel
theorem dL_law_714 : decode cL_law 714 = .ok (.iload 5, 2) := by decide +kernel
theorem dL_law_716 : decode cL_law 716 = .ok (.if_icmp .eq 5, 3) := by decide +kernel
theorem dL_law_719 : decode cL_law 719 = .ok (.iconst 0, 1) := by decide +kernel
theorem dL_law_720 : decode cL_law 720 = .ok (.ireturn, 1) := by decide +kernel
theorem dL_law_721 : decode cL_law 721 = .ok (.iload 5, 2) := by decide +kernel
theorem dL_law_723 : decode cL_law 723 = .ok (.ifCond .ne 15, 3) := by decide +kernel
theorem dL_law_726 : decode cL_law 726 = .ok (.aload_n 3, 1) := by decide +kernel
theorem dL_law_727 : decode cL_law 727 = .ok (.iconst 0, 1) := by decide +kernel
theorem dL_law_728 : decode cL_law 728 = .ok (.laload, 1) := by decide +kernel
theorem dL_law_729 : decode cL_law 729 = .ok (.iload 6, 2) := by decide +kernel
theorem dL_law_731 : decode cL_law 731 = .ok (.i2l, 1) := by decide +kernel
theorem dL_law_732 : decode cL_law 732 = .ok (.lcmp, 1) := by decide +kernel
theorem dL_law_733 : decode cL_law 733 = .ok (.ifCond .eq 5, 3) := by decide +kernel
theorem dL_law_736 : decode cL_law 736 = .ok (.iconst 0, 1) := by decide +kernel
theorem dL_law_737 : decode cL_law 737 = .ok (.ireturn, 1) := by decide +kernel
theorem dL_law_738 : decode cL_law 738 = .ok (.goto 172, 3) := by decide +kernel
theorem dL_law_741 : decode cL_law 741 = .ok (.aload_n 1, 1) := by decide +kernel
theorem dL_law_742 : decode cL_law 742 = .ok (.aload_n 0, 1) := by decide +kernel
theorem dL_law_743 : decode cL_law 743 = .ok (.iload 4, 2) := by decide +kernel
theorem dL_law_745 : decode cL_law 745 = .ok (.iconst 1, 1) := by decide +kernel
theorem dL_law_746 : decode cL_law 746 = .ok (.iadd, 1) := by decide +kernel
theorem dL_law_747 : decode cL_law 747 = .ok (.iaload, 1) := by decide +kernel
theorem dL_law_748 : decode cL_law 748 = .ok (.aload_n 0, 1) := by decide +kernel
theorem dL_law_749 : decode cL_law 749 = .ok (.iload 4, 2) := by decide +kernel
theorem dL_law_751 : decode cL_law 751 = .ok (.iconst 2, 1) := by decide +kernel
theorem dL_law_752 : decode cL_law 752 = .ok (.iadd, 1) := by decide +kernel
theorem dL_law_753 : decode cL_law 753 = .ok (.iaload, 1) := by decide +kernel
theorem dL_law_754 : decode cL_law 754 = .ok (.aload_n 3, 1) := by decide +kernel
theorem dL_law_755 : decode cL_law 755 = .ok (.invokestatic 96, 3) := by decide +kernel
theorem dL_law_758 : decode cL_law 758 = .ok (.istore 5, 2) := by decide +kernel
theorem dL_law_760 : decode cL_law 760 = .ok (.aload_n 2, 1) := by decide +kernel
theorem dL_law_761 : decode cL_law 761 = .ok (.aload_n 0, 1) := by decide +kernel
theorem dL_law_762 : decode cL_law 762 = .ok (.iload 4, 2) := by decide +kernel
theorem dL_law_764 : decode cL_law 764 = .ok (.iconst 1, 1) := by decide +kernel
theorem dL_law_765 : decode cL_law 765 = .ok (.iadd, 1) := by decide +kernel
theorem dL_law_766 : decode cL_law 766 = .ok (.iaload, 1) := by decide +kernel
theorem dL_law_767 : decode cL_law 767 = .ok (.aload_n 0, 1) := by decide +kernel
theorem dL_law_768 : decode cL_law 768 = .ok (.iload 4, 2) := by decide +kernel
theorem dL_law_770 : decode cL_law 770 = .ok (.iconst 2, 1) := by decide +kernel
theorem dL_law_771 : decode cL_law 771 = .ok (.iadd, 1) := by decide +kernel
theorem dL_law_772 : decode cL_law 772 = .ok (.iaload, 1) := by decide +kernel
theorem dL_law_773 : decode cL_law 773 = .ok (.invokevirtual 98, 3) := by decide +kernel
theorem dL_law_776 : decode cL_law 776 = .ok (.istore 6, 2) := by decide +kernel
theorem dL_law_778 : decode cL_law 778 = .ok (.aload_n 2, 1) := by decide +kernel
theorem dL_law_779 : decode cL_law 779 = .ok (.invokevirtual 61, 3) := by decide +kernel
theorem dL_law_782 : decode cL_law 782 = .ok (.iload 5, 2) := by decide +kernel
theorem dL_law_784 : decode cL_law 784 = .ok (.if_icmp .eq 5, 3) := by decide +kernel
theorem dL_law_787 : decode cL_law 787 = .ok (.iconst 0, 1) := by decide +kernel
theorem dL_law_788 : decode cL_law 788 = .ok (.ireturn, 1) := by decide +kernel
theorem dL_law_789 : decode cL_law 789 = .ok (.iload 5, 2) := by decide +kernel
theorem dL_law_791 : decode cL_law 791 = .ok (.ifCond .ne 15, 3) := by decide +kernel
theorem dL_law_794 : decode cL_law 794 = .ok (.aload_n 3, 1) := by decide +kernel
theorem dL_law_795 : decode cL_law 795 = .ok (.iconst 0, 1) := by decide +kernel
theorem dL_law_796 : decode cL_law 796 = .ok (.laload, 1) := by decide +kernel
theorem dL_law_797 : decode cL_law 797 = .ok (.iload 6, 2) := by decide +kernel
theorem dL_law_799 : decode cL_law 799 = .ok (.i2l, 1) := by decide +kernel
theorem dL_law_800 : decode cL_law 800 = .ok (.lcmp, 1) := by decide +kernel
theorem dL_law_801 : decode cL_law 801 = .ok (.ifCond .eq 5, 3) := by decide +kernel
theorem dL_law_804 : decode cL_law 804 = .ok (.iconst 0, 1) := by decide +kernel
theorem dL_law_805 : decode cL_law 805 = .ok (.ireturn, 1) := by decide +kernel
theorem dL_law_806 : decode cL_law 806 = .ok (.goto 104, 3) := by decide +kernel
theorem dL_law_809 : decode cL_law 809 = .ok (.aload_n 1, 1) := by decide +kernel
theorem dL_law_810 : decode cL_law 810 = .ok (.aload_n 0, 1) := by decide +kernel
theorem dL_law_811 : decode cL_law 811 = .ok (.iload 4, 2) := by decide +kernel
theorem dL_law_813 : decode cL_law 813 = .ok (.iconst 1, 1) := by decide +kernel
theorem dL_law_814 : decode cL_law 814 = .ok (.iadd, 1) := by decide +kernel
theorem dL_law_815 : decode cL_law 815 = .ok (.iaload, 1) := by decide +kernel
theorem dL_law_816 : decode cL_law 816 = .ok (.aload_n 0, 1) := by decide +kernel
theorem dL_law_817 : decode cL_law 817 = .ok (.iload 4, 2) := by decide +kernel
theorem dL_law_819 : decode cL_law 819 = .ok (.iconst 2, 1) := by decide +kernel
theorem dL_law_820 : decode cL_law 820 = .ok (.iadd, 1) := by decide +kernel
theorem dL_law_821 : decode cL_law 821 = .ok (.iaload, 1) := by decide +kernel
theorem dL_law_822 : decode cL_law 822 = .ok (.invokevirtual 99, 3) := by decide +kernel
theorem dL_law_825 : decode cL_law 825 = .ok (.aload_n 2, 1) := by decide +kernel
theorem dL_law_826 : decode cL_law 826 = .ok (.aload_n 0, 1) := by decide +kernel
theorem dL_law_827 : decode cL_law 827 = .ok (.iload 4, 2) := by decide +kernel
theorem dL_law_829 : decode cL_law 829 = .ok (.iconst 1, 1) := by decide +kernel
theorem dL_law_830 : decode cL_law 830 = .ok (.iadd, 1) := by decide +kernel
theorem dL_law_831 : decode cL_law 831 = .ok (.iaload, 1) := by decide +kernel
theorem dL_law_832 : decode cL_law 832 = .ok (.aload_n 0, 1) := by decide +kernel
theorem dL_law_833 : decode cL_law 833 = .ok (.iload 4, 2) := by decide +kernel
theorem dL_law_835 : decode cL_law 835 = .ok (.iconst 2, 1) := by decide +kernel
theorem dL_law_836 : decode cL_law 836 = .ok (.iadd, 1) := by decide +kernel
theorem dL_law_837 : decode cL_law 837 = .ok (.iaload, 1) := by decide +kernel
theorem dL_law_838 : decode cL_law 838 = .ok (.invokevirtual 103, 3) := by decide +kernel
theorem dL_law_841 : decode cL_law 841 = .ok (.lcmp, 1) := by decide +kernel
theorem dL_law_842 : decode cL_law 842 = .ok (.ifCond .eq 68, 3) := by decide +kernel
theorem dL_law_845 : decode cL_law 845 = .ok (.iconst 0, 1) := by decide +kernel
theorem dL_law_846 : decode cL_law 846 = .ok (.ireturn, 1) := by decide +kernel
theorem dL_law_847 : decode cL_law 847 = .ok (.aload_n 1, 1) := by decide +kernel
theorem dL_law_848 : decode cL_law 848 = .ok (.invokevirtual 104, 3) := by decide +kernel
theorem dL_law_851 : decode cL_law 851 = .ok (.aload_n 2, 1) := by decide +kernel
theorem dL_law_852 : decode cL_law 852 = .ok (.invokevirtual 107, 3) := by decide +kernel
theorem dL_law_855 : decode cL_law 855 = .ok (.if_icmp .eq 55, 3) := by decide +kernel
theorem dL_law_858 : decode cL_law 858 = .ok (.iconst 0, 1) := by decide +kernel
theorem dL_law_859 : decode cL_law 859 = .ok (.ireturn, 1) := by decide +kernel
theorem dL_law_860 : decode cL_law 860 = .ok (.aload_n 1, 1) := by decide +kernel
theorem dL_law_861 : decode cL_law 861 = .ok (.aload_n 0, 1) := by decide +kernel
theorem dL_law_862 : decode cL_law 862 = .ok (.iload 4, 2) := by decide +kernel
theorem dL_law_864 : decode cL_law 864 = .ok (.iconst 1, 1) := by decide +kernel
theorem dL_law_865 : decode cL_law 865 = .ok (.iadd, 1) := by decide +kernel
theorem dL_law_866 : decode cL_law 866 = .ok (.iaload, 1) := by decide +kernel
theorem dL_law_867 : decode cL_law 867 = .ok (.invokevirtual 108, 3) := by decide +kernel
theorem dL_law_870 : decode cL_law 870 = .ok (.aload_n 2, 1) := by decide +kernel
theorem dL_law_871 : decode cL_law 871 = .ok (.aload_n 0, 1) := by decide +kernel
theorem dL_law_872 : decode cL_law 872 = .ok (.iload 4, 2) := by decide +kernel
theorem dL_law_874 : decode cL_law 874 = .ok (.iconst 1, 1) := by decide +kernel
theorem dL_law_875 : decode cL_law 875 = .ok (.iadd, 1) := by decide +kernel
theorem dL_law_876 : decode cL_law 876 = .ok (.iaload, 1) := by decide +kernel
theorem dL_law_877 : decode cL_law 877 = .ok (.invokevirtual 111, 3) := by decide +kernel
theorem dL_law_880 : decode cL_law 880 = .ok (.if_icmp .eq 30, 3) := by decide +kernel
theorem dL_law_883 : decode cL_law 883 = .ok (.iconst 0, 1) := by decide +kernel
theorem dL_law_884 : decode cL_law 884 = .ok (.ireturn, 1) := by decide +kernel
theorem dL_law_885 : decode cL_law 885 = .ok (.aload_n 1, 1) := by decide +kernel
theorem dL_law_886 : decode cL_law 886 = .ok (.aload_n 0, 1) := by decide +kernel
theorem dL_law_887 : decode cL_law 887 = .ok (.iload 4, 2) := by decide +kernel
theorem dL_law_889 : decode cL_law 889 = .ok (.iconst 1, 1) := by decide +kernel
theorem dL_law_890 : decode cL_law 890 = .ok (.iadd, 1) := by decide +kernel
theorem dL_law_891 : decode cL_law 891 = .ok (.iaload, 1) := by decide +kernel
theorem dL_law_892 : decode cL_law 892 = .ok (.invokevirtual 112, 3) := by decide +kernel
theorem dL_law_895 : decode cL_law 895 = .ok (.aload_n 2, 1) := by decide +kernel
theorem dL_law_896 : decode cL_law 896 = .ok (.aload_n 0, 1) := by decide +kernel
theorem dL_law_897 : decode cL_law 897 = .ok (.iload 4, 2) := by decide +kernel
theorem dL_law_899 : decode cL_law 899 = .ok (.iconst 1, 1) := by decide +kernel
theorem dL_law_900 : decode cL_law 900 = .ok (.iadd, 1) := by decide +kernel
theorem dL_law_901 : decode cL_law 901 = .ok (.iaload, 1) := by decide +kernel
theorem dL_law_902 : decode cL_law 902 = .ok (.invokevirtual 115, 3) := by decide +kernel
theorem dL_law_905 : decode cL_law 905 = .ok (.if_icmp .eq 5, 3) := by decide +kernel
theorem dL_law_908 : decode cL_law 908 = .ok (.iconst 0, 1) := by decide +kernel
theorem dL_law_909 : decode cL_law 909 = .ok (.ireturn, 1) := by decide +kernel
theorem dL_law_910 : decode cL_law 910 = .ok (.iinc 4 7, 3) := by decide +kernel
theorem dL_law_913 : decode cL_law 913 = .ok (.goto (-890), 3) := by decide +kernel
theorem dL_law_916 : decode cL_law 916 = .ok (.iconst 1, 1) := by decide +kernel
theorem dL_law_917 : decode cL_law 917 = .ok (.ireturn, 1) := by decide +kernel
