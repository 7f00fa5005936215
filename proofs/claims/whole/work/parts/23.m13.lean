theorem d_Mo_splits_0 : decode b_Mo_splits 0 = .ok (.aload_n 0, 1) := by decide +kernel
theorem d_Mo_splits_1 : decode b_Mo_splits 1 = .ok (.invokevirtual 166, 3) := by decide +kernel
theorem d_Mo_splits_4 : decode b_Mo_splits 4 = .ok (.iconst 0, 1) := by decide +kernel
theorem d_Mo_splits_5 : decode b_Mo_splits 5 = .ok (.istore_n 2, 1) := by decide +kernel
theorem d_Mo_splits_6 : decode b_Mo_splits 6 = .ok (.iload_n 2, 1) := by decide +kernel
theorem d_Mo_splits_7 : decode b_Mo_splits 7 = .ok (.aload_n 0, 1) := by decide +kernel
theorem d_Mo_splits_8 : decode b_Mo_splits 8 = .ok (.getfield 79, 3) := by decide +kernel
theorem d_Mo_splits_11 : decode b_Mo_splits 11 = .ok (.if_icmp .ge 135, 3) := by decide +kernel
theorem d_Mo_splits_14 : decode b_Mo_splits 14 = .ok (.aload_n 0, 1) := by decide +kernel
theorem d_Mo_splits_15 : decode b_Mo_splits 15 = .ok (.getfield 13, 3) := by decide +kernel
theorem d_Mo_splits_18 : decode b_Mo_splits 18 = .ok (.iload_n 2, 1) := by decide +kernel
theorem d_Mo_splits_19 : decode b_Mo_splits 19 = .ok (.iaload, 1) := by decide +kernel
theorem d_Mo_splits_20 : decode b_Mo_splits 20 = .ok (.istore_n 3, 1) := by decide +kernel
theorem d_Mo_splits_21 : decode b_Mo_splits 21 = .ok (.aload_n 0, 1) := by decide +kernel
theorem d_Mo_splits_22 : decode b_Mo_splits 22 = .ok (.getfield 17, 3) := by decide +kernel
theorem d_Mo_splits_25 : decode b_Mo_splits 25 = .ok (.iload_n 2, 1) := by decide +kernel
theorem d_Mo_splits_26 : decode b_Mo_splits 26 = .ok (.iaload, 1) := by decide +kernel
theorem d_Mo_splits_27 : decode b_Mo_splits 27 = .ok (.istore 4, 2) := by decide +kernel
theorem d_Mo_splits_29 : decode b_Mo_splits 29 = .ok (.aload_n 0, 1) := by decide +kernel
theorem d_Mo_splits_30 : decode b_Mo_splits 30 = .ok (.getfield 52, 3) := by decide +kernel
theorem d_Mo_splits_33 : decode b_Mo_splits 33 = .ok (.bipush 13, 2) := by decide +kernel
theorem d_Mo_splits_35 : decode b_Mo_splits 35 = .ok (.iload_n 3, 1) := by decide +kernel
theorem d_Mo_splits_36 : decode b_Mo_splits 36 = .ok (.imul, 1) := by decide +kernel
theorem d_Mo_splits_37 : decode b_Mo_splits 37 = .ok (.iload_n 3, 1) := by decide +kernel
theorem d_Mo_splits_38 : decode b_Mo_splits 38 = .ok (.iadd, 1) := by decide +kernel
theorem d_Mo_splits_39 : decode b_Mo_splits 39 = .ok (.dup2, 1) := by decide +kernel
theorem d_Mo_splits_40 : decode b_Mo_splits 40 = .ok (.laload, 1) := by decide +kernel
theorem d_Mo_splits_41 : decode b_Mo_splits 41 = .ok (.lconst 1, 1) := by decide +kernel
theorem d_Mo_splits_42 : decode b_Mo_splits 42 = .ok (.ladd, 1) := by decide +kernel
theorem d_Mo_splits_43 : decode b_Mo_splits 43 = .ok (.lastore, 1) := by decide +kernel
theorem d_Mo_splits_44 : decode b_Mo_splits 44 = .ok (.aload_n 0, 1) := by decide +kernel
theorem d_Mo_splits_45 : decode b_Mo_splits 45 = .ok (.getfield 52, 3) := by decide +kernel
theorem d_Mo_splits_48 : decode b_Mo_splits 48 = .ok (.bipush 13, 2) := by decide +kernel
theorem d_Mo_splits_50 : decode b_Mo_splits 50 = .ok (.iload 4, 2) := by decide +kernel
theorem d_Mo_splits_52 : decode b_Mo_splits 52 = .ok (.imul, 1) := by decide +kernel
theorem d_Mo_splits_53 : decode b_Mo_splits 53 = .ok (.iload 4, 2) := by decide +kernel
theorem d_Mo_splits_55 : decode b_Mo_splits 55 = .ok (.iadd, 1) := by decide +kernel
theorem d_Mo_splits_56 : decode b_Mo_splits 56 = .ok (.dup2, 1) := by decide +kernel
theorem d_Mo_splits_57 : decode b_Mo_splits 57 = .ok (.laload, 1) := by decide +kernel
theorem d_Mo_splits_58 : decode b_Mo_splits 58 = .ok (.lconst 1, 1) := by decide +kernel
theorem d_Mo_splits_59 : decode b_Mo_splits 59 = .ok (.ladd, 1) := by decide +kernel
theorem d_Mo_splits_60 : decode b_Mo_splits 60 = .ok (.lastore, 1) := by decide +kernel
theorem d_Mo_splits_61 : decode b_Mo_splits 61 = .ok (.aload_n 0, 1) := by decide +kernel
theorem d_Mo_splits_62 : decode b_Mo_splits 62 = .ok (.getfield 52, 3) := by decide +kernel
theorem d_Mo_splits_65 : decode b_Mo_splits 65 = .ok (.bipush 13, 2) := by decide +kernel
theorem d_Mo_splits_67 : decode b_Mo_splits 67 = .ok (.iload_n 3, 1) := by decide +kernel
theorem d_Mo_splits_68 : decode b_Mo_splits 68 = .ok (.imul, 1) := by decide +kernel
theorem d_Mo_splits_69 : decode b_Mo_splits 69 = .ok (.iload 4, 2) := by decide +kernel
theorem d_Mo_splits_71 : decode b_Mo_splits 71 = .ok (.iadd, 1) := by decide +kernel
theorem d_Mo_splits_72 : decode b_Mo_splits 72 = .ok (.dup2, 1) := by decide +kernel
theorem d_Mo_splits_73 : decode b_Mo_splits 73 = .ok (.laload, 1) := by decide +kernel
theorem d_Mo_splits_74 : decode b_Mo_splits 74 = .ok (.lconst 1, 1) := by decide +kernel
theorem d_Mo_splits_75 : decode b_Mo_splits 75 = .ok (.lsub, 1) := by decide +kernel
theorem d_Mo_splits_76 : decode b_Mo_splits 76 = .ok (.lastore, 1) := by decide +kernel
theorem d_Mo_splits_77 : decode b_Mo_splits 77 = .ok (.aload_n 0, 1) := by decide +kernel
theorem d_Mo_splits_78 : decode b_Mo_splits 78 = .ok (.getfield 52, 3) := by decide +kernel
theorem d_Mo_splits_81 : decode b_Mo_splits 81 = .ok (.bipush 13, 2) := by decide +kernel
theorem d_Mo_splits_83 : decode b_Mo_splits 83 = .ok (.iload 4, 2) := by decide +kernel
theorem d_Mo_splits_85 : decode b_Mo_splits 85 = .ok (.imul, 1) := by decide +kernel
theorem d_Mo_splits_86 : decode b_Mo_splits 86 = .ok (.iload_n 3, 1) := by decide +kernel
theorem d_Mo_splits_87 : decode b_Mo_splits 87 = .ok (.iadd, 1) := by decide +kernel
theorem d_Mo_splits_88 : decode b_Mo_splits 88 = .ok (.dup2, 1) := by decide +kernel
theorem d_Mo_splits_89 : decode b_Mo_splits 89 = .ok (.laload, 1) := by decide +kernel
theorem d_Mo_splits_90 : decode b_Mo_splits 90 = .ok (.lconst 1, 1) := by decide +kernel
theorem d_Mo_splits_91 : decode b_Mo_splits 91 = .ok (.lsub, 1) := by decide +kernel
theorem d_Mo_splits_92 : decode b_Mo_splits 92 = .ok (.lastore, 1) := by decide +kernel
theorem d_Mo_splits_93 : decode b_Mo_splits 93 = .ok (.aload_n 0, 1) := by decide +kernel
theorem d_Mo_splits_94 : decode b_Mo_splits 94 = .ok (.getfield 52, 3) := by decide +kernel
theorem d_Mo_splits_97 : decode b_Mo_splits 97 = .ok (.bipush 13, 2) := by decide +kernel
theorem d_Mo_splits_99 : decode b_Mo_splits 99 = .ok (.iload 4, 2) := by decide +kernel
theorem d_Mo_splits_101 : decode b_Mo_splits 101 = .ok (.imul, 1) := by decide +kernel
theorem d_Mo_splits_102 : decode b_Mo_splits 102 = .ok (.aload_n 0, 1) := by decide +kernel
theorem d_Mo_splits_103 : decode b_Mo_splits 103 = .ok (.getfield 7, 3) := by decide +kernel
theorem d_Mo_splits_106 : decode b_Mo_splits 106 = .ok (.iadd, 1) := by decide +kernel
theorem d_Mo_splits_107 : decode b_Mo_splits 107 = .ok (.dup2, 1) := by decide +kernel
theorem d_Mo_splits_108 : decode b_Mo_splits 108 = .ok (.laload, 1) := by decide +kernel
theorem d_Mo_splits_109 : decode b_Mo_splits 109 = .ok (.aload_n 0, 1) := by decide +kernel
theorem d_Mo_splits_110 : decode b_Mo_splits 110 = .ok (.iload_n 1, 1) := by decide +kernel
theorem d_Mo_splits_111 : decode b_Mo_splits 111 = .ok (.iload_n 2, 1) := by decide +kernel
theorem d_Mo_splits_112 : decode b_Mo_splits 112 = .ok (.invokevirtual 120, 3) := by decide +kernel
theorem d_Mo_splits_115 : decode b_Mo_splits 115 = .ok (.ladd, 1) := by decide +kernel
theorem d_Mo_splits_116 : decode b_Mo_splits 116 = .ok (.lastore, 1) := by decide +kernel
theorem d_Mo_splits_117 : decode b_Mo_splits 117 = .ok (.aload_n 0, 1) := by decide +kernel
theorem d_Mo_splits_118 : decode b_Mo_splits 118 = .ok (.getfield 52, 3) := by decide +kernel
theorem d_Mo_splits_121 : decode b_Mo_splits 121 = .ok (.bipush 13, 2) := by decide +kernel
theorem d_Mo_splits_123 : decode b_Mo_splits 123 = .ok (.iload_n 3, 1) := by decide +kernel
theorem d_Mo_splits_124 : decode b_Mo_splits 124 = .ok (.imul, 1) := by decide +kernel
theorem d_Mo_splits_125 : decode b_Mo_splits 125 = .ok (.aload_n 0, 1) := by decide +kernel
theorem d_Mo_splits_126 : decode b_Mo_splits 126 = .ok (.getfield 7, 3) := by decide +kernel
theorem d_Mo_splits_129 : decode b_Mo_splits 129 = .ok (.iadd, 1) := by decide +kernel
theorem d_Mo_splits_130 : decode b_Mo_splits 130 = .ok (.dup2, 1) := by decide +kernel
theorem d_Mo_splits_131 : decode b_Mo_splits 131 = .ok (.laload, 1) := by decide +kernel
theorem d_Mo_splits_132 : decode b_Mo_splits 132 = .ok (.aload_n 0, 1) := by decide +kernel
theorem d_Mo_splits_133 : decode b_Mo_splits 133 = .ok (.iload_n 1, 1) := by decide +kernel
theorem d_Mo_splits_134 : decode b_Mo_splits 134 = .ok (.iload_n 2, 1) := by decide +kernel
theorem d_Mo_splits_135 : decode b_Mo_splits 135 = .ok (.invokevirtual 120, 3) := by decide +kernel
theorem d_Mo_splits_138 : decode b_Mo_splits 138 = .ok (.lsub, 1) := by decide +kernel
theorem d_Mo_splits_139 : decode b_Mo_splits 139 = .ok (.lastore, 1) := by decide +kernel
theorem d_Mo_splits_140 : decode b_Mo_splits 140 = .ok (.iinc 2 1, 3) := by decide +kernel
theorem d_Mo_splits_143 : decode b_Mo_splits 143 = .ok (.goto (-137), 3) := by decide +kernel
theorem d_Mo_splits_146 : decode b_Mo_splits 146 = .ok (.aload_n 0, 1) := by decide +kernel
theorem d_Mo_splits_147 : decode b_Mo_splits 147 = .ok (.aload_n 0, 1) := by decide +kernel
theorem d_Mo_splits_148 : decode b_Mo_splits 148 = .ok (.getfield 7, 3) := by decide +kernel
theorem d_Mo_splits_151 : decode b_Mo_splits 151 = .ok (.invokevirtual 180, 3) := by decide +kernel
theorem d_Mo_splits_154 : decode b_Mo_splits 154 = .ok (.aload_n 0, 1) := by decide +kernel
theorem d_Mo_splits_155 : decode b_Mo_splits 155 = .ok (.aload_n 0, 1) := by decide +kernel
theorem d_Mo_splits_156 : decode b_Mo_splits 156 = .ok (.getfield 150, 3) := by decide +kernel
theorem d_Mo_splits_159 : decode b_Mo_splits 159 = .ok (.putfield 183, 3) := by decide +kernel
theorem d_Mo_splits_162 : decode b_Mo_splits 162 = .ok (.iconst 0, 1) := by decide +kernel
theorem d_Mo_splits_163 : decode b_Mo_splits 163 = .ok (.istore_n 2, 1) := by decide +kernel
theorem d_Mo_splits_164 : decode b_Mo_splits 164 = .ok (.iload_n 2, 1) := by decide +kernel
theorem d_Mo_splits_165 : decode b_Mo_splits 165 = .ok (.aload_n 0, 1) := by decide +kernel
theorem d_Mo_splits_166 : decode b_Mo_splits 166 = .ok (.getfield 79, 3) := by decide +kernel
theorem d_Mo_splits_169 : decode b_Mo_splits 169 = .ok (.if_icmp .ge 38, 3) := by decide +kernel
theorem d_Mo_splits_172 : decode b_Mo_splits 172 = .ok (.aload_n 0, 1) := by decide +kernel
theorem d_Mo_splits_173 : decode b_Mo_splits 173 = .ok (.getfield 67, 3) := by decide +kernel
theorem d_Mo_splits_176 : decode b_Mo_splits 176 = .ok (.iload_n 2, 1) := by decide +kernel
theorem d_Mo_splits_177 : decode b_Mo_splits 177 = .ok (.aload_n 0, 1) := by decide +kernel
theorem d_Mo_splits_178 : decode b_Mo_splits 178 = .ok (.getfield 58, 3) := by decide +kernel
theorem d_Mo_splits_181 : decode b_Mo_splits 181 = .ok (.aload_n 0, 1) := by decide +kernel
theorem d_Mo_splits_182 : decode b_Mo_splits 182 = .ok (.getfield 17, 3) := by decide +kernel
theorem d_Mo_splits_185 : decode b_Mo_splits 185 = .ok (.iload_n 2, 1) := by decide +kernel
theorem d_Mo_splits_186 : decode b_Mo_splits 186 = .ok (.iaload, 1) := by decide +kernel
theorem d_Mo_splits_187 : decode b_Mo_splits 187 = .ok (.laload, 1) := by decide +kernel
theorem d_Mo_splits_188 : decode b_Mo_splits 188 = .ok (.aload_n 0, 1) := by decide +kernel
theorem d_Mo_splits_189 : decode b_Mo_splits 189 = .ok (.getfield 58, 3) := by decide +kernel
theorem d_Mo_splits_192 : decode b_Mo_splits 192 = .ok (.aload_n 0, 1) := by decide +kernel
theorem d_Mo_splits_193 : decode b_Mo_splits 193 = .ok (.getfield 13, 3) := by decide +kernel
theorem d_Mo_splits_196 : decode b_Mo_splits 196 = .ok (.iload_n 2, 1) := by decide +kernel
theorem d_Mo_splits_197 : decode b_Mo_splits 197 = .ok (.iaload, 1) := by decide +kernel
theorem d_Mo_splits_198 : decode b_Mo_splits 198 = .ok (.laload, 1) := by decide +kernel
theorem d_Mo_splits_199 : decode b_Mo_splits 199 = .ok (.lsub, 1) := by decide +kernel
theorem d_Mo_splits_200 : decode b_Mo_splits 200 = .ok (.lastore, 1) := by decide +kernel
theorem d_Mo_splits_201 : decode b_Mo_splits 201 = .ok (.iinc 2 1, 3) := by decide +kernel
theorem d_Mo_splits_204 : decode b_Mo_splits 204 = .ok (.goto (-40), 3) := by decide +kernel
theorem d_Mo_splits_207 : decode b_Mo_splits 207 = .ok (.aload_n 0, 1) := by decide +kernel
theorem d_Mo_splits_208 : decode b_Mo_splits 208 = .ok (.invokevirtual 166, 3) := by decide +kernel
theorem d_Mo_splits_211 : decode b_Mo_splits 211 = .ok (.iconst 0, 1) := by decide +kernel
theorem d_Mo_splits_212 : decode b_Mo_splits 212 = .ok (.istore_n 2, 1) := by decide +kernel
theorem d_Mo_splits_213 : decode b_Mo_splits 213 = .ok (.iload_n 2, 1) := by decide +kernel
theorem d_Mo_splits_214 : decode b_Mo_splits 214 = .ok (.aload_n 0, 1) := by decide +kernel
theorem d_Mo_splits_215 : decode b_Mo_splits 215 = .ok (.getfield 82, 3) := by decide +kernel
theorem d_Mo_splits_218 : decode b_Mo_splits 218 = .ok (.if_icmp .ge 118, 3) := by decide +kernel
theorem d_Mo_splits_221 : decode b_Mo_splits 221 = .ok (.iconst 0, 1) := by decide +kernel
theorem d_Mo_splits_222 : decode b_Mo_splits 222 = .ok (.istore_n 3, 1) := by decide +kernel
theorem d_Mo_splits_223 : decode b_Mo_splits 223 = .ok (.iload_n 3, 1) := by decide +kernel
theorem d_Mo_splits_224 : decode b_Mo_splits 224 = .ok (.aload_n 0, 1) := by decide +kernel
theorem d_Mo_splits_225 : decode b_Mo_splits 225 = .ok (.getfield 82, 3) := by decide +kernel
theorem d_Mo_splits_228 : decode b_Mo_splits 228 = .ok (.if_icmp .ge 56, 3) := by decide +kernel
theorem d_Mo_splits_231 : decode b_Mo_splits 231 = .ok (.iconst 0, 1) := by decide +kernel
theorem d_Mo_splits_232 : decode b_Mo_splits 232 = .ok (.istore 4, 2) := by decide +kernel
theorem d_Mo_splits_234 : decode b_Mo_splits 234 = .ok (.iload 4, 2) := by decide +kernel
theorem d_Mo_splits_236 : decode b_Mo_splits 236 = .ok (.aload_n 0, 1) := by decide +kernel
theorem d_Mo_splits_237 : decode b_Mo_splits 237 = .ok (.getfield 79, 3) := by decide +kernel
theorem d_Mo_splits_240 : decode b_Mo_splits 240 = .ok (.if_icmp .ge 38, 3) := by decide +kernel
theorem d_Mo_splits_243 : decode b_Mo_splits 243 = .ok (.aload_n 0, 1) := by decide +kernel
theorem d_Mo_splits_244 : decode b_Mo_splits 244 = .ok (.getfield 52, 3) := by decide +kernel
theorem d_Mo_splits_247 : decode b_Mo_splits 247 = .ok (.bipush 13, 2) := by decide +kernel
theorem d_Mo_splits_249 : decode b_Mo_splits 249 = .ok (.iload_n 2, 1) := by decide +kernel
theorem d_Mo_splits_250 : decode b_Mo_splits 250 = .ok (.imul, 1) := by decide +kernel
theorem d_Mo_splits_251 : decode b_Mo_splits 251 = .ok (.iload_n 3, 1) := by decide +kernel
theorem d_Mo_splits_252 : decode b_Mo_splits 252 = .ok (.iadd, 1) := by decide +kernel
theorem d_Mo_splits_253 : decode b_Mo_splits 253 = .ok (.dup2, 1) := by decide +kernel
theorem d_Mo_splits_254 : decode b_Mo_splits 254 = .ok (.laload, 1) := by decide +kernel
theorem d_Mo_splits_255 : decode b_Mo_splits 255 = .ok (.aload_n 0, 1) := by decide +kernel
theorem d_Mo_splits_256 : decode b_Mo_splits 256 = .ok (.iload_n 2, 1) := by decide +kernel
theorem d_Mo_splits_257 : decode b_Mo_splits 257 = .ok (.iload 4, 2) := by decide +kernel
theorem d_Mo_splits_259 : decode b_Mo_splits 259 = .ok (.invokevirtual 186, 3) := by decide +kernel
theorem d_Mo_splits_262 : decode b_Mo_splits 262 = .ok (.aload_n 0, 1) := by decide +kernel
theorem d_Mo_splits_263 : decode b_Mo_splits 263 = .ok (.iload_n 3, 1) := by decide +kernel
theorem d_Mo_splits_264 : decode b_Mo_splits 264 = .ok (.iload 4, 2) := by decide +kernel
theorem d_Mo_splits_266 : decode b_Mo_splits 266 = .ok (.invokevirtual 186, 3) := by decide +kernel
theorem d_Mo_splits_269 : decode b_Mo_splits 269 = .ok (.lmul, 1) := by decide +kernel
theorem d_Mo_splits_270 : decode b_Mo_splits 270 = .ok (.ladd, 1) := by decide +kernel
theorem d_Mo_splits_271 : decode b_Mo_splits 271 = .ok (.lastore, 1) := by decide +kernel
theorem d_Mo_splits_272 : decode b_Mo_splits 272 = .ok (.iinc 4 1, 3) := by decide +kernel
theorem d_Mo_splits_275 : decode b_Mo_splits 275 = .ok (.goto (-41), 3) := by decide +kernel
theorem d_Mo_splits_278 : decode b_Mo_splits 278 = .ok (.iinc 3 1, 3) := by decide +kernel
theorem d_Mo_splits_281 : decode b_Mo_splits 281 = .ok (.goto (-58), 3) := by decide +kernel
theorem d_Mo_splits_284 : decode b_Mo_splits 284 = .ok (.iconst 0, 1) := by decide +kernel
theorem d_Mo_splits_285 : decode b_Mo_splits 285 = .ok (.istore_n 3, 1) := by decide +kernel
theorem d_Mo_splits_286 : decode b_Mo_splits 286 = .ok (.iload_n 3, 1) := by decide +kernel
theorem d_Mo_splits_287 : decode b_Mo_splits 287 = .ok (.aload_n 0, 1) := by decide +kernel
theorem d_Mo_splits_288 : decode b_Mo_splits 288 = .ok (.getfield 79, 3) := by decide +kernel
theorem d_Mo_splits_291 : decode b_Mo_splits 291 = .ok (.if_icmp .ge 39, 3) := by decide +kernel
theorem d_Mo_splits_294 : decode b_Mo_splits 294 = .ok (.aload_n 0, 1) := by decide +kernel
theorem d_Mo_splits_295 : decode b_Mo_splits 295 = .ok (.getfield 52, 3) := by decide +kernel
theorem d_Mo_splits_298 : decode b_Mo_splits 298 = .ok (.bipush 13, 2) := by decide +kernel
theorem d_Mo_splits_300 : decode b_Mo_splits 300 = .ok (.iload_n 2, 1) := by decide +kernel
theorem d_Mo_splits_301 : decode b_Mo_splits 301 = .ok (.imul, 1) := by decide +kernel
theorem d_Mo_splits_302 : decode b_Mo_splits 302 = .ok (.aload_n 0, 1) := by decide +kernel
theorem d_Mo_splits_303 : decode b_Mo_splits 303 = .ok (.getfield 82, 3) := by decide +kernel
theorem d_Mo_splits_306 : decode b_Mo_splits 306 = .ok (.iadd, 1) := by decide +kernel
theorem d_Mo_splits_307 : decode b_Mo_splits 307 = .ok (.dup2, 1) := by decide +kernel
theorem d_Mo_splits_308 : decode b_Mo_splits 308 = .ok (.laload, 1) := by decide +kernel
theorem d_Mo_splits_309 : decode b_Mo_splits 309 = .ok (.aload_n 0, 1) := by decide +kernel
theorem d_Mo_splits_310 : decode b_Mo_splits 310 = .ok (.iload_n 2, 1) := by decide +kernel
theorem d_Mo_splits_311 : decode b_Mo_splits 311 = .ok (.iload_n 3, 1) := by decide +kernel
theorem d_Mo_splits_312 : decode b_Mo_splits 312 = .ok (.invokevirtual 186, 3) := by decide +kernel
theorem d_Mo_splits_315 : decode b_Mo_splits 315 = .ok (.aload_n 0, 1) := by decide +kernel
theorem d_Mo_splits_316 : decode b_Mo_splits 316 = .ok (.iload_n 1, 1) := by decide +kernel
theorem d_Mo_splits_317 : decode b_Mo_splits 317 = .ok (.iload_n 3, 1) := by decide +kernel
theorem d_Mo_splits_318 : decode b_Mo_splits 318 = .ok (.invokevirtual 120, 3) := by decide +kernel
theorem d_Mo_splits_321 : decode b_Mo_splits 321 = .ok (.lmul, 1) := by decide +kernel
theorem d_Mo_splits_322 : decode b_Mo_splits 322 = .ok (.ladd, 1) := by decide +kernel
theorem d_Mo_splits_323 : decode b_Mo_splits 323 = .ok (.lastore, 1) := by decide +kernel
theorem d_Mo_splits_324 : decode b_Mo_splits 324 = .ok (.iinc 3 1, 3) := by decide +kernel
theorem d_Mo_splits_327 : decode b_Mo_splits 327 = .ok (.goto (-41), 3) := by decide +kernel
theorem d_Mo_splits_330 : decode b_Mo_splits 330 = .ok (.iinc 2 1, 3) := by decide +kernel
theorem d_Mo_splits_333 : decode b_Mo_splits 333 = .ok (.goto (-120), 3) := by decide +kernel
theorem d_Mo_splits_336 : decode b_Mo_splits 336 = .ok (.aload_n 0, 1) := by decide +kernel
theorem d_Mo_splits_337 : decode b_Mo_splits 337 = .ok (.aload_n 0, 1) := by decide +kernel
theorem d_Mo_splits_338 : decode b_Mo_splits 338 = .ok (.getfield 82, 3) := by decide +kernel
theorem d_Mo_splits_341 : decode b_Mo_splits 341 = .ok (.invokevirtual 180, 3) := by decide +kernel
theorem d_Mo_splits_344 : decode b_Mo_splits 344 = .ok (.aload_n 0, 1) := by decide +kernel
theorem d_Mo_splits_345 : decode b_Mo_splits 345 = .ok (.aload_n 0, 1) := by decide +kernel
theorem d_Mo_splits_346 : decode b_Mo_splits 346 = .ok (.getfield 150, 3) := by decide +kernel
theorem d_Mo_splits_349 : decode b_Mo_splits 349 = .ok (.putfield 189, 3) := by decide +kernel
theorem d_Mo_splits_352 : decode b_Mo_splits 352 = .ok (.iconst 0, 1) := by decide +kernel
theorem d_Mo_splits_353 : decode b_Mo_splits 353 = .ok (.istore_n 2, 1) := by decide +kernel
theorem d_Mo_splits_354 : decode b_Mo_splits 354 = .ok (.iload_n 2, 1) := by decide +kernel
theorem d_Mo_splits_355 : decode b_Mo_splits 355 = .ok (.aload_n 0, 1) := by decide +kernel
theorem d_Mo_splits_356 : decode b_Mo_splits 356 = .ok (.getfield 79, 3) := by decide +kernel
theorem d_Mo_splits_359 : decode b_Mo_splits 359 = .ok (.if_icmp .ge 54, 3) := by decide +kernel
theorem d_Mo_splits_362 : decode b_Mo_splits 362 = .ok (.aload_n 0, 1) := by decide +kernel
theorem d_Mo_splits_363 : decode b_Mo_splits 363 = .ok (.getfield 70, 3) := by decide +kernel
theorem d_Mo_splits_366 : decode b_Mo_splits 366 = .ok (.iload_n 2, 1) := by decide +kernel
theorem d_Mo_splits_367 : decode b_Mo_splits 367 = .ok (.lconst 0, 1) := by decide +kernel
theorem d_Mo_splits_368 : decode b_Mo_splits 368 = .ok (.lastore, 1) := by decide +kernel
theorem d_Mo_splits_369 : decode b_Mo_splits 369 = .ok (.iconst 0, 1) := by decide +kernel
theorem d_Mo_splits_370 : decode b_Mo_splits 370 = .ok (.istore_n 3, 1) := by decide +kernel
theorem d_Mo_splits_371 : decode b_Mo_splits 371 = .ok (.iload_n 3, 1) := by decide +kernel
theorem d_Mo_splits_372 : decode b_Mo_splits 372 = .ok (.aload_n 0, 1) := by decide +kernel
theorem d_Mo_splits_373 : decode b_Mo_splits 373 = .ok (.getfield 82, 3) := by decide +kernel
theorem d_Mo_splits_376 : decode b_Mo_splits 376 = .ok (.if_icmp .ge 31, 3) := by decide +kernel
theorem d_Mo_splits_379 : decode b_Mo_splits 379 = .ok (.aload_n 0, 1) := by decide +kernel
theorem d_Mo_splits_380 : decode b_Mo_splits 380 = .ok (.getfield 70, 3) := by decide +kernel
theorem d_Mo_splits_383 : decode b_Mo_splits 383 = .ok (.iload_n 2, 1) := by decide +kernel
theorem d_Mo_splits_384 : decode b_Mo_splits 384 = .ok (.dup2, 1) := by decide +kernel
theorem d_Mo_splits_385 : decode b_Mo_splits 385 = .ok (.laload, 1) := by decide +kernel
theorem d_Mo_splits_386 : decode b_Mo_splits 386 = .ok (.aload_n 0, 1) := by decide +kernel
theorem d_Mo_splits_387 : decode b_Mo_splits 387 = .ok (.iload_n 3, 1) := by decide +kernel
theorem d_Mo_splits_388 : decode b_Mo_splits 388 = .ok (.iload_n 2, 1) := by decide +kernel
theorem d_Mo_splits_389 : decode b_Mo_splits 389 = .ok (.invokevirtual 186, 3) := by decide +kernel
theorem d_Mo_splits_392 : decode b_Mo_splits 392 = .ok (.aload_n 0, 1) := by decide +kernel
theorem d_Mo_splits_393 : decode b_Mo_splits 393 = .ok (.getfield 58, 3) := by decide +kernel
theorem d_Mo_splits_396 : decode b_Mo_splits 396 = .ok (.iload_n 3, 1) := by decide +kernel
theorem d_Mo_splits_397 : decode b_Mo_splits 397 = .ok (.laload, 1) := by decide +kernel
theorem d_Mo_splits_398 : decode b_Mo_splits 398 = .ok (.lmul, 1) := by decide +kernel
theorem d_Mo_splits_399 : decode b_Mo_splits 399 = .ok (.ladd, 1) := by decide +kernel
theorem d_Mo_splits_400 : decode b_Mo_splits 400 = .ok (.lastore, 1) := by decide +kernel
theorem d_Mo_splits_401 : decode b_Mo_splits 401 = .ok (.iinc 3 1, 3) := by decide +kernel
theorem d_Mo_splits_404 : decode b_Mo_splits 404 = .ok (.goto (-33), 3) := by decide +kernel
theorem d_Mo_splits_407 : decode b_Mo_splits 407 = .ok (.iinc 2 1, 3) := by decide +kernel
theorem d_Mo_splits_410 : decode b_Mo_splits 410 = .ok (.goto (-56), 3) := by decide +kernel
theorem d_Mo_splits_413 : decode b_Mo_splits 413 = .ok (.return_, 1) := by decide +kernel
def q_Mo_splits_L6 (kx146 : Int32 → Mem → Prop) (post : Mem → Prop) : Nat → Int32 → Int32 → Mem → Prop
  | 0, _, _, _ => False
  | n + 1, x1, x2, M => ((M.1 56 1) ≤ x2 → kx146 x1 M) ∧ (¬ (M.1 56 1) ≤ x2 → vp_in x2 12 ∧ (vp_in x2 12 ∧ (vp_in (((13 : Int32) * (M.1 57 x2.toNatClampNeg)) + (M.1 57 x2.toNatClampNeg)) 156 ∧ (vp_in (((13 : Int32) * (M.1 57 x2.toNatClampNeg)) + (M.1 57 x2.toNatClampNeg)) 156 ∧ (∀ M2, M2 = wJ M 69 (((13 : Int32) * (M.1 57 x2.toNatClampNeg)) + (M.1 57 x2.toNatClampNeg)).toNatClampNeg ((M.2 69 (((13 : Int32) * (M.1 57 x2.toNatClampNeg)) + (M.1 57 x2.toNatClampNeg)).toNatClampNeg) + (1 : Int64)) → vp_in (((13 : Int32) * (M.1 58 x2.toNatClampNeg)) + (M.1 58 x2.toNatClampNeg)) 156 ∧ (vp_in (((13 : Int32) * (M.1 58 x2.toNatClampNeg)) + (M.1 58 x2.toNatClampNeg)) 156 ∧ (∀ M3, M3 = wJ M2 69 (((13 : Int32) * (M.1 58 x2.toNatClampNeg)) + (M.1 58 x2.toNatClampNeg)).toNatClampNeg ((M2.2 69 (((13 : Int32) * (M.1 58 x2.toNatClampNeg)) + (M.1 58 x2.toNatClampNeg)).toNatClampNeg) + (1 : Int64)) → vp_in (((13 : Int32) * (M.1 57 x2.toNatClampNeg)) + (M.1 58 x2.toNatClampNeg)) 156 ∧ (vp_in (((13 : Int32) * (M.1 57 x2.toNatClampNeg)) + (M.1 58 x2.toNatClampNeg)) 156 ∧ (∀ M4, M4 = wJ M3 69 (((13 : Int32) * (M.1 57 x2.toNatClampNeg)) + (M.1 58 x2.toNatClampNeg)).toNatClampNeg ((M3.2 69 (((13 : Int32) * (M.1 57 x2.toNatClampNeg)) + (M.1 58 x2.toNatClampNeg)).toNatClampNeg) - (1 : Int64)) → vp_in (((13 : Int32) * (M.1 58 x2.toNatClampNeg)) + (M.1 57 x2.toNatClampNeg)) 156 ∧ (vp_in (((13 : Int32) * (M.1 58 x2.toNatClampNeg)) + (M.1 57 x2.toNatClampNeg)) 156 ∧ (∀ M5, M5 = wJ M4 69 (((13 : Int32) * (M.1 58 x2.toNatClampNeg)) + (M.1 57 x2.toNatClampNeg)).toNatClampNeg ((M4.2 69 (((13 : Int32) * (M.1 58 x2.toNatClampNeg)) + (M.1 57 x2.toNatClampNeg)).toNatClampNeg) - (1 : Int64)) → vp_in (((13 : Int32) * (M.1 58 x2.toNatClampNeg)) + (M5.1 56 0)) 156 ∧ (q_Mo_at x1 x2 M5 (fun r7 M6 => vp_in (((13 : Int32) * (M.1 58 x2.toNatClampNeg)) + (M5.1 56 0)) 156 ∧ (∀ M8, M8 = wJ M6 69 (((13 : Int32) * (M.1 58 x2.toNatClampNeg)) + (M5.1 56 0)).toNatClampNeg ((M5.2 69 (((13 : Int32) * (M.1 58 x2.toNatClampNeg)) + (M5.1 56 0)).toNatClampNeg) + r7) → vp_in (((13 : Int32) * (M.1 57 x2.toNatClampNeg)) + (M8.1 56 0)) 156 ∧ (q_Mo_at x1 x2 M8 (fun r10 M9 => vp_in (((13 : Int32) * (M.1 57 x2.toNatClampNeg)) + (M8.1 56 0)) 156 ∧ (∀ M11, M11 = wJ M9 69 (((13 : Int32) * (M.1 57 x2.toNatClampNeg)) + (M8.1 56 0)).toNatClampNeg ((M8.2 69 (((13 : Int32) * (M.1 57 x2.toNatClampNeg)) + (M8.1 56 0)).toNatClampNeg) - r10) → q_Mo_splits_L6 kx146 post n x1 (x2 + 1) M11)))))))))))))))))
set_option maxHeartbeats 4000000 in
theorem s_Mo_splits_L6 {γ : Gm} {κ : Kp} {post : Mem → Prop} {kx146 : Int32 → Mem → Prop} (C : Cx γ κ "NetFormsModel" b_Mo_splits 5 3 (0, 0)) (R : Rt γ (none)) (hx146 : ∀ y1 M', kx146 y1 M' → G γ κ 5 (0, 0) (Gq γ κ (pV post)) 146 [(0, .ref (κ.1 + 56)), (1, .int y1)] [] M') : ∀ (n : Nat) (x1 : Int32) (x2 : Int32) (M : Mem), q_Mo_splits_L6 kx146 post n x1 x2 M → G γ κ 5 (0, 0) (Gq γ κ (pV post)) 6 [(0, .ref (κ.1 + 56)), (1, .int x1), (2, .int x2)] [] M := by
  intro n
  induction n with
  | zero => intro x1 x2 M hq; exact hq.elim
  | succ n ih =>
    intro x1 x2 M hq
    unfold q_Mo_splits_L6 at hq
    refine G_iload_n C 2 d_Mo_splits_6 rfl rfl ?_
    refine G_aload_n C 0 d_Mo_splits_7 rfl rfl ?_
    refine Gg_Mo_edges C wd_522 d_Mo_splits_8 ?_
    refine G_icmp_ge C (tgt := 146) d_Mo_splits_11 (by decide) (fun c => ?_) (fun c => ?_)
    · replace hq := hq.1 c
      exact G_sub [0, 1] (by rfl) (hx146 _ _ hq)
    · replace hq := hq.2 c
      refine G_aload_n C 0 d_Mo_splits_14 rfl rfl ?_
      refine Gg_Mo_begin C wd_524 d_Mo_splits_15 ?_
      refine G_iload_n C 2 d_Mo_splits_18 rfl rfl ?_
      refine G_iaload C (k := 57) (by decide) (fun _ _ => rfl) hq.1 d_Mo_splits_19 ?_
      replace hq := hq.2
      refine G_istore_n C (lv' := [(3, _), (0, _), (1, _), (2, _)]) d_Mo_splits_20 rfl (by decide) rfl ?_
      refine G_aload_n C 1 d_Mo_splits_21 rfl rfl ?_
      refine Gg_Mo_end C wd_525 d_Mo_splits_22 ?_
      refine G_iload_n C 3 d_Mo_splits_25 rfl rfl ?_
      refine G_iaload C (k := 58) (by decide) (fun _ _ => rfl) hq.1 d_Mo_splits_26 ?_
      replace hq := hq.2
      refine G_istore C (lv' := [(4, _), (3, _), (0, _), (1, _), (2, _)]) d_Mo_splits_27 (by decide) rfl ?_
      refine G_aload_n C 2 d_Mo_splits_29 rfl rfl ?_
      refine Gg_Mo_table C wd_537 d_Mo_splits_30 ?_
      refine G_bipush C (v := 13) d_Mo_splits_33 (by decide) ?_
      refine G_iload_n C 1 d_Mo_splits_35 rfl rfl ?_
      refine G_imul C d_Mo_splits_36 ?_
      refine G_iload_n C 1 d_Mo_splits_37 rfl rfl ?_
      refine G_iadd C d_Mo_splits_38 ?_
      refine G_dup2 C d_Mo_splits_39 rfl rfl ?_
      refine G_laload C (k := 69) (by decide) (fun _ _ => rfl) hq.1 d_Mo_splits_40 ?_
      replace hq := hq.2
      refine G_lconst C (v := 1) d_Mo_splits_41 (by decide) ?_
      refine G_ladd C d_Mo_splits_42 ?_
      refine G_lastore C (k := 69) (by decide) (fun _ _ => rfl) hq.1 d_Mo_splits_43 ?_
      replace hq := hq.2 _ rfl
      refine G_aload_n C 2 d_Mo_splits_44 rfl rfl ?_
      refine Gg_Mo_table C wd_537 d_Mo_splits_45 ?_
      refine G_bipush C (v := 13) d_Mo_splits_48 (by decide) ?_
      refine G_iload C 0 d_Mo_splits_50 rfl ?_
      refine G_imul C d_Mo_splits_52 ?_
      refine G_iload C 0 d_Mo_splits_53 rfl ?_
      refine G_iadd C d_Mo_splits_55 ?_
      refine G_dup2 C d_Mo_splits_56 rfl rfl ?_
      refine G_laload C (k := 69) (by decide) (fun _ _ => rfl) hq.1 d_Mo_splits_57 ?_
      replace hq := hq.2
      refine G_lconst C (v := 1) d_Mo_splits_58 (by decide) ?_
      refine G_ladd C d_Mo_splits_59 ?_
      refine G_lastore C (k := 69) (by decide) (fun _ _ => rfl) hq.1 d_Mo_splits_60 ?_
      replace hq := hq.2 _ rfl
      refine G_aload_n C 2 d_Mo_splits_61 rfl rfl ?_
      refine Gg_Mo_table C wd_537 d_Mo_splits_62 ?_
      refine G_bipush C (v := 13) d_Mo_splits_65 (by decide) ?_
      refine G_iload_n C 1 d_Mo_splits_67 rfl rfl ?_
      refine G_imul C d_Mo_splits_68 ?_
      refine G_iload C 0 d_Mo_splits_69 rfl ?_
      refine G_iadd C d_Mo_splits_71 ?_
      refine G_dup2 C d_Mo_splits_72 rfl rfl ?_
      refine G_laload C (k := 69) (by decide) (fun _ _ => rfl) hq.1 d_Mo_splits_73 ?_
      replace hq := hq.2
      refine G_lconst C (v := 1) d_Mo_splits_74 (by decide) ?_
      refine G_lsub C d_Mo_splits_75 ?_
      refine G_lastore C (k := 69) (by decide) (fun _ _ => rfl) hq.1 d_Mo_splits_76 ?_
      replace hq := hq.2 _ rfl
      refine G_aload_n C 2 d_Mo_splits_77 rfl rfl ?_
      refine Gg_Mo_table C wd_537 d_Mo_splits_78 ?_
      refine G_bipush C (v := 13) d_Mo_splits_81 (by decide) ?_
      refine G_iload C 0 d_Mo_splits_83 rfl ?_
      refine G_imul C d_Mo_splits_85 ?_
      refine G_iload_n C 1 d_Mo_splits_86 rfl rfl ?_
      refine G_iadd C d_Mo_splits_87 ?_
      refine G_dup2 C d_Mo_splits_88 rfl rfl ?_
      refine G_laload C (k := 69) (by decide) (fun _ _ => rfl) hq.1 d_Mo_splits_89 ?_
      replace hq := hq.2
      refine G_lconst C (v := 1) d_Mo_splits_90 (by decide) ?_
      refine G_lsub C d_Mo_splits_91 ?_
      refine G_lastore C (k := 69) (by decide) (fun _ _ => rfl) hq.1 d_Mo_splits_92 ?_
      replace hq := hq.2 _ rfl
      refine G_aload_n C 2 d_Mo_splits_93 rfl rfl ?_
      refine Gg_Mo_table C wd_537 d_Mo_splits_94 ?_
      refine G_bipush C (v := 13) d_Mo_splits_97 (by decide) ?_
      refine G_iload C 0 d_Mo_splits_99 rfl ?_
      refine G_imul C d_Mo_splits_101 ?_
      refine G_aload_n C 2 d_Mo_splits_102 rfl rfl ?_
      refine Gg_Mo_points C wd_521 d_Mo_splits_103 ?_
      refine G_iadd C d_Mo_splits_106 ?_
      refine G_dup2 C d_Mo_splits_107 rfl rfl ?_
      refine G_laload C (k := 69) (by decide) (fun _ _ => rfl) hq.1 d_Mo_splits_108 ?_
      replace hq := hq.2
      refine G_aload_n C 2 d_Mo_splits_109 rfl rfl ?_
      refine G_iload_n C 3 d_Mo_splits_110 rfl rfl ?_
      refine G_iload_n C 4 d_Mo_splits_111 rfl rfl ?_
      refine G_callV C (s_Mo_at hq) v_Mo_at i_Mo_at z_Mo_at wd_668 (by decide) rfl (k := 56) (ci := 7) (by decide) rfl rfl rfl (rest := [_, _, _]) (by rfl) (Nat.le_of_ble_eq_true rfl) d_Mo_splits_112 (kj_ (fun r7 M6 hq => ?_))
      refine G_ladd C d_Mo_splits_115 ?_
      refine G_lastore C (k := 69) (by decide) (fun _ _ => rfl) hq.1 d_Mo_splits_116 ?_
      replace hq := hq.2 _ rfl
      refine G_aload_n C 2 d_Mo_splits_117 rfl rfl ?_
      refine Gg_Mo_table C wd_537 d_Mo_splits_118 ?_
      refine G_bipush C (v := 13) d_Mo_splits_121 (by decide) ?_
      refine G_iload_n C 1 d_Mo_splits_123 rfl rfl ?_
      refine G_imul C d_Mo_splits_124 ?_
      refine G_aload_n C 2 d_Mo_splits_125 rfl rfl ?_
      refine Gg_Mo_points C wd_521 d_Mo_splits_126 ?_
      refine G_iadd C d_Mo_splits_129 ?_
      refine G_dup2 C d_Mo_splits_130 rfl rfl ?_
      refine G_laload C (k := 69) (by decide) (fun _ _ => rfl) hq.1 d_Mo_splits_131 ?_
      replace hq := hq.2
      refine G_aload_n C 2 d_Mo_splits_132 rfl rfl ?_
      refine G_iload_n C 3 d_Mo_splits_133 rfl rfl ?_
      refine G_iload_n C 4 d_Mo_splits_134 rfl rfl ?_
      refine G_callV C (s_Mo_at hq) v_Mo_at i_Mo_at z_Mo_at wd_668 (by decide) rfl (k := 56) (ci := 7) (by decide) rfl rfl rfl (rest := [_, _, _]) (by rfl) (Nat.le_of_ble_eq_true rfl) d_Mo_splits_135 (kj_ (fun r10 M9 hq => ?_))
      refine G_lsub C d_Mo_splits_138 ?_
      refine G_lastore C (k := 69) (by decide) (fun _ _ => rfl) hq.1 d_Mo_splits_139 ?_
      replace hq := hq.2 _ rfl
      refine G_iinc C (v := _ + 1) (lv' := [(2, _), (4, _), (3, _), (0, _), (1, _)]) 4 d_Mo_splits_140 rfl rfl (by decide) rfl ?_
      refine G_goto C (tgt := 6) d_Mo_splits_143 (by decide) ?_
      exact G_sub [3, 4, 0] (by rfl) (ih _ _ _ hq)
def q_Mo_splits_L164 (kx207 : Int32 → Mem → Prop) (post : Mem → Prop) : Nat → Int32 → Int32 → Mem → Prop
  | 0, _, _, _ => False
  | n + 1, x1, x2, M => ((M.1 56 1) ≤ x2 → kx207 x1 M) ∧ (¬ (M.1 56 1) ≤ x2 → vp_in x2 12 ∧ (vp_in (M.1 58 x2.toNatClampNeg) 12 ∧ (vp_in x2 12 ∧ (vp_in (M.1 57 x2.toNatClampNeg) 12 ∧ (vp_in x2 12 ∧ (∀ M17, M17 = wJ M 74 x2.toNatClampNeg ((M.2 71 (M.1 58 x2.toNatClampNeg).toNatClampNeg) - (M.2 71 (M.1 57 x2.toNatClampNeg).toNatClampNeg)) → q_Mo_splits_L164 kx207 post n x1 (x2 + 1) M17))))))
set_option maxHeartbeats 4000000 in
theorem s_Mo_splits_L164 {γ : Gm} {κ : Kp} {post : Mem → Prop} {kx207 : Int32 → Mem → Prop} (C : Cx γ κ "NetFormsModel" b_Mo_splits 5 3 (0, 0)) (R : Rt γ (none)) (hx207 : ∀ y1 M', kx207 y1 M' → G γ κ 5 (0, 0) (Gq γ κ (pV post)) 207 [(0, .ref (κ.1 + 56)), (1, .int y1)] [] M') : ∀ (n : Nat) (x1 : Int32) (x2 : Int32) (M : Mem), q_Mo_splits_L164 kx207 post n x1 x2 M → G γ κ 5 (0, 0) (Gq γ κ (pV post)) 164 [(0, .ref (κ.1 + 56)), (1, .int x1), (2, .int x2)] [] M := by
  intro n
  induction n with
  | zero => intro x1 x2 M hq; exact hq.elim
  | succ n ih =>
    intro x1 x2 M hq
    unfold q_Mo_splits_L164 at hq
    refine G_iload_n C 2 d_Mo_splits_164 rfl rfl ?_
    refine G_aload_n C 0 d_Mo_splits_165 rfl rfl ?_
    refine Gg_Mo_edges C wd_522 d_Mo_splits_166 ?_
    refine G_icmp_ge C (tgt := 207) d_Mo_splits_169 (by decide) (fun c => ?_) (fun c => ?_)
    · replace hq := hq.1 c
      exact G_sub [0, 1] (by rfl) (hx207 _ _ hq)
    · replace hq := hq.2 c
      refine G_aload_n C 0 d_Mo_splits_172 rfl rfl ?_
      refine Gg_Mo_slopePart C wd_543 d_Mo_splits_173 ?_
      refine G_iload_n C 2 d_Mo_splits_176 rfl rfl ?_
      refine G_aload_n C 0 d_Mo_splits_177 rfl rfl ?_
      refine Gg_Mo_solved C wd_540 d_Mo_splits_178 ?_
      refine G_aload_n C 0 d_Mo_splits_181 rfl rfl ?_
      refine Gg_Mo_end C wd_525 d_Mo_splits_182 ?_
      refine G_iload_n C 2 d_Mo_splits_185 rfl rfl ?_
      refine G_iaload C (k := 58) (by decide) (fun _ _ => rfl) hq.1 d_Mo_splits_186 ?_
      replace hq := hq.2
      refine G_laload C (k := 71) (by decide) (fun _ _ => rfl) hq.1 d_Mo_splits_187 ?_
      replace hq := hq.2
      refine G_aload_n C 0 d_Mo_splits_188 rfl rfl ?_
      refine Gg_Mo_solved C wd_540 d_Mo_splits_189 ?_
      refine G_aload_n C 0 d_Mo_splits_192 rfl rfl ?_
      refine Gg_Mo_begin C wd_524 d_Mo_splits_193 ?_
      refine G_iload_n C 2 d_Mo_splits_196 rfl rfl ?_
      refine G_iaload C (k := 57) (by decide) (fun _ _ => rfl) hq.1 d_Mo_splits_197 ?_
      replace hq := hq.2
      refine G_laload C (k := 71) (by decide) (fun _ _ => rfl) hq.1 d_Mo_splits_198 ?_
      replace hq := hq.2
      refine G_lsub C d_Mo_splits_199 ?_
      refine G_lastore C (k := 74) (by decide) (fun _ _ => rfl) hq.1 d_Mo_splits_200 ?_
      replace hq := hq.2 _ rfl
      refine G_iinc C (v := _ + 1) (lv' := [(2, _), (0, _), (1, _)]) 2 d_Mo_splits_201 rfl rfl (by decide) rfl ?_
      refine G_goto C (tgt := 164) d_Mo_splits_204 (by decide) ?_
      exact G_sub [1, 2, 0] (by rfl) (ih _ _ _ hq)
def q_Mo_splits_L234 (kx278 : Int32 → Int32 → Int32 → Mem → Prop) (post : Mem → Prop) : Nat → Int32 → Int32 → Int32 → Int32 → Mem → Prop
  | 0, _, _, _, _, _ => False
  | n + 1, x1, x2, x3, x4, M => ((M.1 56 1) ≤ x4 → kx278 x1 x2 x3 M) ∧ (¬ (M.1 56 1) ≤ x4 → vp_in (((13 : Int32) * x2) + x3) 156 ∧ (q_Mo_sideOf x2 x4 M (fun r23 M22 => q_Mo_sideOf x3 x4 M22 (fun r25 M24 => vp_in (((13 : Int32) * x2) + x3) 156 ∧ (∀ M26, M26 = wJ M24 69 (((13 : Int32) * x2) + x3).toNatClampNeg ((M.2 69 (((13 : Int32) * x2) + x3).toNatClampNeg) + (r23 * r25)) → q_Mo_splits_L234 kx278 post n x1 x2 x3 (x4 + 1) M26)))))
set_option maxHeartbeats 4000000 in
theorem s_Mo_splits_L234 {γ : Gm} {κ : Kp} {post : Mem → Prop} {kx278 : Int32 → Int32 → Int32 → Mem → Prop} (C : Cx γ κ "NetFormsModel" b_Mo_splits 5 3 (0, 0)) (R : Rt γ (none)) (hx278 : ∀ y1 y2 y3 M', kx278 y1 y2 y3 M' → G γ κ 5 (0, 0) (Gq γ κ (pV post)) 278 [(0, .ref (κ.1 + 56)), (1, .int y1), (2, .int y2), (3, .int y3)] [] M') : ∀ (n : Nat) (x1 : Int32) (x2 : Int32) (x3 : Int32) (x4 : Int32) (M : Mem), q_Mo_splits_L234 kx278 post n x1 x2 x3 x4 M → G γ κ 5 (0, 0) (Gq γ κ (pV post)) 234 [(0, .ref (κ.1 + 56)), (1, .int x1), (2, .int x2), (3, .int x3), (4, .int x4)] [] M := by
  intro n
  induction n with
  | zero => intro x1 x2 x3 x4 M hq; exact hq.elim
  | succ n ih =>
    intro x1 x2 x3 x4 M hq
    unfold q_Mo_splits_L234 at hq
    refine G_iload C 4 d_Mo_splits_234 rfl ?_
    refine G_aload_n C 0 d_Mo_splits_236 rfl rfl ?_
    refine Gg_Mo_edges C wd_522 d_Mo_splits_237 ?_
    refine G_icmp_ge C (tgt := 278) d_Mo_splits_240 (by decide) (fun c => ?_) (fun c => ?_)
    · replace hq := hq.1 c
      exact G_sub [0, 1, 2, 3] (by rfl) (hx278 _ _ _ _ hq)
    · replace hq := hq.2 c
      refine G_aload_n C 0 d_Mo_splits_243 rfl rfl ?_
      refine Gg_Mo_table C wd_537 d_Mo_splits_244 ?_
      refine G_bipush C (v := 13) d_Mo_splits_247 (by decide) ?_
      refine G_iload_n C 2 d_Mo_splits_249 rfl rfl ?_
      refine G_imul C d_Mo_splits_250 ?_
      refine G_iload_n C 3 d_Mo_splits_251 rfl rfl ?_
      refine G_iadd C d_Mo_splits_252 ?_
      refine G_dup2 C d_Mo_splits_253 rfl rfl ?_
      refine G_laload C (k := 69) (by decide) (fun _ _ => rfl) hq.1 d_Mo_splits_254 ?_
      replace hq := hq.2
      refine G_aload_n C 0 d_Mo_splits_255 rfl rfl ?_
      refine G_iload_n C 2 d_Mo_splits_256 rfl rfl ?_
      refine G_iload C 4 d_Mo_splits_257 rfl ?_
      refine G_callV C (s_Mo_sideOf hq) v_Mo_sideOf i_Mo_sideOf z_Mo_sideOf wd_761 (by decide) rfl (k := 56) (ci := 7) (by decide) rfl rfl rfl (rest := [_, _, _]) (by rfl) (Nat.le_of_ble_eq_true rfl) d_Mo_splits_259 (kj_ (fun r23 M22 hq => ?_))
      refine G_aload_n C 0 d_Mo_splits_262 rfl rfl ?_
      refine G_iload_n C 3 d_Mo_splits_263 rfl rfl ?_
      refine G_iload C 4 d_Mo_splits_264 rfl ?_
      refine G_callV C (s_Mo_sideOf hq) v_Mo_sideOf i_Mo_sideOf z_Mo_sideOf wd_761 (by decide) rfl (k := 56) (ci := 7) (by decide) rfl rfl rfl (rest := [_, _, _, _]) (by rfl) (Nat.le_of_ble_eq_true rfl) d_Mo_splits_266 (kj_ (fun r25 M24 hq => ?_))
      refine G_lmul C d_Mo_splits_269 ?_
      refine G_ladd C d_Mo_splits_270 ?_
      refine G_lastore C (k := 69) (by decide) (fun _ _ => rfl) hq.1 d_Mo_splits_271 ?_
      replace hq := hq.2 _ rfl
      refine G_iinc C (v := _ + 1) (lv' := [(4, _), (0, _), (1, _), (2, _), (3, _)]) 4 d_Mo_splits_272 rfl rfl (by decide) rfl ?_
      refine G_goto C (tgt := 234) d_Mo_splits_275 (by decide) ?_
      exact G_sub [1, 2, 3, 4, 0] (by rfl) (ih _ _ _ _ _ hq)
def q_Mo_splits_L223 (kx284 : Int32 → Int32 → Mem → Prop) (post : Mem → Prop) : Nat → Int32 → Int32 → Int32 → Mem → Prop
  | 0, _, _, _, _ => False
  | n + 1, x1, x2, x3, M => ((M.1 56 2) ≤ x3 → kx284 x1 x2 M) ∧ (¬ (M.1 56 2) ≤ x3 → ∃ n27, q_Mo_splits_L234 (fun x28 x29 x30 M31 => q_Mo_splits_L223 kx284 post n x28 x29 (x30 + 1) M31) post n27 x1 x2 x3 (0 : Int32) M)
set_option maxHeartbeats 4000000 in
theorem s_Mo_splits_L223 {γ : Gm} {κ : Kp} {post : Mem → Prop} {kx284 : Int32 → Int32 → Mem → Prop} (C : Cx γ κ "NetFormsModel" b_Mo_splits 5 3 (0, 0)) (R : Rt γ (none)) (hx284 : ∀ y1 y2 M', kx284 y1 y2 M' → G γ κ 5 (0, 0) (Gq γ κ (pV post)) 284 [(0, .ref (κ.1 + 56)), (1, .int y1), (2, .int y2)] [] M') : ∀ (n : Nat) (x1 : Int32) (x2 : Int32) (x3 : Int32) (M : Mem), q_Mo_splits_L223 kx284 post n x1 x2 x3 M → G γ κ 5 (0, 0) (Gq γ κ (pV post)) 223 [(0, .ref (κ.1 + 56)), (1, .int x1), (2, .int x2), (3, .int x3)] [] M := by
  intro n
  induction n with
  | zero => intro x1 x2 x3 M hq; exact hq.elim
  | succ n ih =>
    intro x1 x2 x3 M hq
    unfold q_Mo_splits_L223 at hq
    refine G_iload_n C 3 d_Mo_splits_223 rfl rfl ?_
    refine G_aload_n C 0 d_Mo_splits_224 rfl rfl ?_
    refine Gg_Mo_faces C wd_523 d_Mo_splits_225 ?_
    refine G_icmp_ge C (tgt := 284) d_Mo_splits_228 (by decide) (fun c => ?_) (fun c => ?_)
    · replace hq := hq.1 c
      exact G_sub [0, 1, 2] (by rfl) (hx284 _ _ _ hq)
    · replace hq := hq.2 c
      refine G_iconst C (v := 0) d_Mo_splits_231 (by decide) ?_
      refine G_istore C (lv' := [(4, _), (0, _), (1, _), (2, _), (3, _)]) d_Mo_splits_232 (by decide) rfl ?_
      obtain ⟨n27, hq⟩ := hq
      refine G_sub [1, 2, 3, 4, 0] (by rfl) (s_Mo_splits_L234 C R ?_ n27 _ _ _ _ _ hq)
      · intro x28 x29 x30 M31 hq
        refine G_iinc C (v := _ + 1) (lv' := [(3, _), (0, _), (1, _), (2, _)]) 3 d_Mo_splits_278 rfl rfl (by decide) rfl ?_
        refine G_goto C (tgt := 223) d_Mo_splits_281 (by decide) ?_
        exact G_sub [1, 2, 3, 0] (by rfl) (ih _ _ _ _ hq)
def q_Mo_splits_L286 (kx330 : Int32 → Int32 → Mem → Prop) (post : Mem → Prop) : Nat → Int32 → Int32 → Int32 → Mem → Prop
  | 0, _, _, _, _ => False
  | n + 1, x1, x2, x3, M => ((M.1 56 1) ≤ x3 → kx330 x1 x2 M) ∧ (¬ (M.1 56 1) ≤ x3 → vp_in (((13 : Int32) * x2) + (M.1 56 2)) 156 ∧ (q_Mo_sideOf x2 x3 M (fun r37 M36 => q_Mo_at x1 x3 M36 (fun r39 M38 => vp_in (((13 : Int32) * x2) + (M.1 56 2)) 156 ∧ (∀ M40, M40 = wJ M38 69 (((13 : Int32) * x2) + (M.1 56 2)).toNatClampNeg ((M.2 69 (((13 : Int32) * x2) + (M.1 56 2)).toNatClampNeg) + (r37 * r39)) → q_Mo_splits_L286 kx330 post n x1 x2 (x3 + 1) M40)))))
set_option maxHeartbeats 4000000 in
theorem s_Mo_splits_L286 {γ : Gm} {κ : Kp} {post : Mem → Prop} {kx330 : Int32 → Int32 → Mem → Prop} (C : Cx γ κ "NetFormsModel" b_Mo_splits 5 3 (0, 0)) (R : Rt γ (none)) (hx330 : ∀ y1 y2 M', kx330 y1 y2 M' → G γ κ 5 (0, 0) (Gq γ κ (pV post)) 330 [(0, .ref (κ.1 + 56)), (1, .int y1), (2, .int y2)] [] M') : ∀ (n : Nat) (x1 : Int32) (x2 : Int32) (x3 : Int32) (M : Mem), q_Mo_splits_L286 kx330 post n x1 x2 x3 M → G γ κ 5 (0, 0) (Gq γ κ (pV post)) 286 [(0, .ref (κ.1 + 56)), (1, .int x1), (2, .int x2), (3, .int x3)] [] M := by
  intro n
  induction n with
  | zero => intro x1 x2 x3 M hq; exact hq.elim
  | succ n ih =>
    intro x1 x2 x3 M hq
    unfold q_Mo_splits_L286 at hq
    refine G_iload_n C 3 d_Mo_splits_286 rfl rfl ?_
    refine G_aload_n C 0 d_Mo_splits_287 rfl rfl ?_
    refine Gg_Mo_edges C wd_522 d_Mo_splits_288 ?_
    refine G_icmp_ge C (tgt := 330) d_Mo_splits_291 (by decide) (fun c => ?_) (fun c => ?_)
    · replace hq := hq.1 c
      exact G_sub [0, 1, 2] (by rfl) (hx330 _ _ _ hq)
    · replace hq := hq.2 c
      refine G_aload_n C 0 d_Mo_splits_294 rfl rfl ?_
      refine Gg_Mo_table C wd_537 d_Mo_splits_295 ?_
      refine G_bipush C (v := 13) d_Mo_splits_298 (by decide) ?_
      refine G_iload_n C 2 d_Mo_splits_300 rfl rfl ?_
      refine G_imul C d_Mo_splits_301 ?_
      refine G_aload_n C 0 d_Mo_splits_302 rfl rfl ?_
      refine Gg_Mo_faces C wd_523 d_Mo_splits_303 ?_
      refine G_iadd C d_Mo_splits_306 ?_
      refine G_dup2 C d_Mo_splits_307 rfl rfl ?_
      refine G_laload C (k := 69) (by decide) (fun _ _ => rfl) hq.1 d_Mo_splits_308 ?_
      replace hq := hq.2
      refine G_aload_n C 0 d_Mo_splits_309 rfl rfl ?_
      refine G_iload_n C 2 d_Mo_splits_310 rfl rfl ?_
      refine G_iload_n C 3 d_Mo_splits_311 rfl rfl ?_
      refine G_callV C (s_Mo_sideOf hq) v_Mo_sideOf i_Mo_sideOf z_Mo_sideOf wd_761 (by decide) rfl (k := 56) (ci := 7) (by decide) rfl rfl rfl (rest := [_, _, _]) (by rfl) (Nat.le_of_ble_eq_true rfl) d_Mo_splits_312 (kj_ (fun r37 M36 hq => ?_))
      refine G_aload_n C 0 d_Mo_splits_315 rfl rfl ?_
      refine G_iload_n C 1 d_Mo_splits_316 rfl rfl ?_
      refine G_iload_n C 3 d_Mo_splits_317 rfl rfl ?_
      refine G_callV C (s_Mo_at hq) v_Mo_at i_Mo_at z_Mo_at wd_668 (by decide) rfl (k := 56) (ci := 7) (by decide) rfl rfl rfl (rest := [_, _, _, _]) (by rfl) (Nat.le_of_ble_eq_true rfl) d_Mo_splits_318 (kj_ (fun r39 M38 hq => ?_))
      refine G_lmul C d_Mo_splits_321 ?_
      refine G_ladd C d_Mo_splits_322 ?_
      refine G_lastore C (k := 69) (by decide) (fun _ _ => rfl) hq.1 d_Mo_splits_323 ?_
      replace hq := hq.2 _ rfl
      refine G_iinc C (v := _ + 1) (lv' := [(3, _), (0, _), (1, _), (2, _)]) 3 d_Mo_splits_324 rfl rfl (by decide) rfl ?_
      refine G_goto C (tgt := 286) d_Mo_splits_327 (by decide) ?_
      exact G_sub [1, 2, 3, 0] (by rfl) (ih _ _ _ _ hq)
def q_Mo_splits_L213 (kx336 : Mem → Prop) (post : Mem → Prop) : Nat → Int32 → Int32 → Mem → Prop
  | 0, _, _, _ => False
  | n + 1, x1, x2, M => ((M.1 56 2) ≤ x2 → kx336 M) ∧ (¬ (M.1 56 2) ≤ x2 → ∃ n32, q_Mo_splits_L223 (fun x33 x34 M35 => ∃ n41, q_Mo_splits_L286 (fun x42 x43 M44 => q_Mo_splits_L213 kx336 post n x42 (x43 + 1) M44) post n41 x33 x34 (0 : Int32) M35) post n32 x1 x2 (0 : Int32) M)
set_option maxHeartbeats 4000000 in
theorem s_Mo_splits_L213 {γ : Gm} {κ : Kp} {post : Mem → Prop} {kx336 : Mem → Prop} (C : Cx γ κ "NetFormsModel" b_Mo_splits 5 3 (0, 0)) (R : Rt γ (none)) (hx336 : ∀ M', kx336 M' → G γ κ 5 (0, 0) (Gq γ κ (pV post)) 336 [(0, .ref (κ.1 + 56))] [] M') : ∀ (n : Nat) (x1 : Int32) (x2 : Int32) (M : Mem), q_Mo_splits_L213 kx336 post n x1 x2 M → G γ κ 5 (0, 0) (Gq γ κ (pV post)) 213 [(0, .ref (κ.1 + 56)), (1, .int x1), (2, .int x2)] [] M := by
  intro n
  induction n with
  | zero => intro x1 x2 M hq; exact hq.elim
  | succ n ih =>
    intro x1 x2 M hq
    unfold q_Mo_splits_L213 at hq
    refine G_iload_n C 2 d_Mo_splits_213 rfl rfl ?_
    refine G_aload_n C 0 d_Mo_splits_214 rfl rfl ?_
    refine Gg_Mo_faces C wd_523 d_Mo_splits_215 ?_
    refine G_icmp_ge C (tgt := 336) d_Mo_splits_218 (by decide) (fun c => ?_) (fun c => ?_)
    · replace hq := hq.1 c
      exact G_sub [0] (by rfl) (hx336 _ hq)
    · replace hq := hq.2 c
      refine G_iconst C (v := 0) d_Mo_splits_221 (by decide) ?_
      refine G_istore_n C (lv' := [(3, _), (0, _), (1, _), (2, _)]) d_Mo_splits_222 rfl (by decide) rfl ?_
      obtain ⟨n32, hq⟩ := hq
      refine G_sub [1, 2, 3, 0] (by rfl) (s_Mo_splits_L223 C R ?_ n32 _ _ _ _ hq)
      · intro x33 x34 M35 hq
        refine G_iconst C (v := 0) d_Mo_splits_284 (by decide) ?_
        refine G_istore_n C (lv' := [(3, _), (0, _), (1, _), (2, _)]) d_Mo_splits_285 rfl (by decide) rfl ?_
        obtain ⟨n41, hq⟩ := hq
        refine G_sub [1, 2, 3, 0] (by rfl) (s_Mo_splits_L286 C R ?_ n41 _ _ _ _ hq)
        · intro x42 x43 M44 hq
          refine G_iinc C (v := _ + 1) (lv' := [(2, _), (0, _), (1, _)]) 2 d_Mo_splits_330 rfl rfl (by decide) rfl ?_
          refine G_goto C (tgt := 213) d_Mo_splits_333 (by decide) ?_
          exact G_sub [1, 2, 0] (by rfl) (ih _ _ _ hq)
def q_Mo_splits_L371 (kx407 : Int32 → Mem → Prop) (post : Mem → Prop) : Nat → Int32 → Int32 → Mem → Prop
  | 0, _, _, _ => False
  | n + 1, x2, x3, M => ((M.1 56 2) ≤ x3 → kx407 x2 M) ∧ (¬ (M.1 56 2) ≤ x3 → vp_in x2 12 ∧ (q_Mo_sideOf x3 x2 M (fun r51 M50 => vp_in x3 12 ∧ (vp_in x2 12 ∧ (∀ M52, M52 = wJ M50 75 x2.toNatClampNeg ((M.2 75 x2.toNatClampNeg) + (r51 * (M50.2 71 x3.toNatClampNeg))) → q_Mo_splits_L371 kx407 post n x2 (x3 + 1) M52)))))
set_option maxHeartbeats 4000000 in
theorem s_Mo_splits_L371 {γ : Gm} {κ : Kp} {post : Mem → Prop} {kx407 : Int32 → Mem → Prop} (C : Cx γ κ "NetFormsModel" b_Mo_splits 5 3 (0, 0)) (R : Rt γ (none)) (hx407 : ∀ y1 M', kx407 y1 M' → G γ κ 5 (0, 0) (Gq γ κ (pV post)) 407 [(0, .ref (κ.1 + 56)), (2, .int y1)] [] M') : ∀ (n : Nat) (x2 : Int32) (x3 : Int32) (M : Mem), q_Mo_splits_L371 kx407 post n x2 x3 M → G γ κ 5 (0, 0) (Gq γ κ (pV post)) 371 [(0, .ref (κ.1 + 56)), (2, .int x2), (3, .int x3)] [] M := by
  intro n
  induction n with
  | zero => intro x2 x3 M hq; exact hq.elim
  | succ n ih =>
    intro x2 x3 M hq
    unfold q_Mo_splits_L371 at hq
    refine G_iload_n C 2 d_Mo_splits_371 rfl rfl ?_
    refine G_aload_n C 0 d_Mo_splits_372 rfl rfl ?_
    refine Gg_Mo_faces C wd_523 d_Mo_splits_373 ?_
    refine G_icmp_ge C (tgt := 407) d_Mo_splits_376 (by decide) (fun c => ?_) (fun c => ?_)
    · replace hq := hq.1 c
      exact G_sub [0, 1] (by rfl) (hx407 _ _ hq)
    · replace hq := hq.2 c
      refine G_aload_n C 0 d_Mo_splits_379 rfl rfl ?_
      refine Gg_Mo_rimPart C wd_544 d_Mo_splits_380 ?_
      refine G_iload_n C 1 d_Mo_splits_383 rfl rfl ?_
      refine G_dup2 C d_Mo_splits_384 rfl rfl ?_
      refine G_laload C (k := 75) (by decide) (fun _ _ => rfl) hq.1 d_Mo_splits_385 ?_
      replace hq := hq.2
      refine G_aload_n C 0 d_Mo_splits_386 rfl rfl ?_
      refine G_iload_n C 2 d_Mo_splits_387 rfl rfl ?_
      refine G_iload_n C 1 d_Mo_splits_388 rfl rfl ?_
      refine G_callV C (s_Mo_sideOf hq) v_Mo_sideOf i_Mo_sideOf z_Mo_sideOf wd_761 (by decide) rfl (k := 56) (ci := 7) (by decide) rfl rfl rfl (rest := [_, _, _]) (by rfl) (Nat.le_of_ble_eq_true rfl) d_Mo_splits_389 (kj_ (fun r51 M50 hq => ?_))
      refine G_aload_n C 0 d_Mo_splits_392 rfl rfl ?_
      refine Gg_Mo_solved C wd_540 d_Mo_splits_393 ?_
      refine G_iload_n C 2 d_Mo_splits_396 rfl rfl ?_
      refine G_laload C (k := 71) (by decide) (fun _ _ => rfl) hq.1 d_Mo_splits_397 ?_
      replace hq := hq.2
      refine G_lmul C d_Mo_splits_398 ?_
      refine G_ladd C d_Mo_splits_399 ?_
      refine G_lastore C (k := 75) (by decide) (fun _ _ => rfl) hq.1 d_Mo_splits_400 ?_
      replace hq := hq.2 _ rfl
      refine G_iinc C (v := _ + 1) (lv' := [(3, _), (0, _), (2, _)]) 2 d_Mo_splits_401 rfl rfl (by decide) rfl ?_
      refine G_goto C (tgt := 371) d_Mo_splits_404 (by decide) ?_
      exact G_sub [1, 2, 0] (by rfl) (ih _ _ _ hq)
def q_Mo_splits_L354 (kx413 : Mem → Prop) (post : Mem → Prop) : Nat → Int32 → Mem → Prop
  | 0, _, _ => False
  | n + 1, x2, M => ((M.1 56 1) ≤ x2 → kx413 M) ∧ (¬ (M.1 56 1) ≤ x2 → vp_in x2 12 ∧ (∀ M49, M49 = wJ M 75 x2.toNatClampNeg (0 : Int64) → ∃ n53, q_Mo_splits_L371 (fun x54 M55 => q_Mo_splits_L354 kx413 post n (x54 + 1) M55) post n53 x2 (0 : Int32) M49))
set_option maxHeartbeats 4000000 in
theorem s_Mo_splits_L354 {γ : Gm} {κ : Kp} {post : Mem → Prop} {kx413 : Mem → Prop} (C : Cx γ κ "NetFormsModel" b_Mo_splits 5 3 (0, 0)) (R : Rt γ (none)) (hx413 : ∀ M', kx413 M' → G γ κ 5 (0, 0) (Gq γ κ (pV post)) 413 [] [] M') : ∀ (n : Nat) (x2 : Int32) (M : Mem), q_Mo_splits_L354 kx413 post n x2 M → G γ κ 5 (0, 0) (Gq γ κ (pV post)) 354 [(0, .ref (κ.1 + 56)), (2, .int x2)] [] M := by
  intro n
  induction n with
  | zero => intro x2 M hq; exact hq.elim
  | succ n ih =>
    intro x2 M hq
    unfold q_Mo_splits_L354 at hq
    refine G_iload_n C 1 d_Mo_splits_354 rfl rfl ?_
    refine G_aload_n C 0 d_Mo_splits_355 rfl rfl ?_
    refine Gg_Mo_edges C wd_522 d_Mo_splits_356 ?_
    refine G_icmp_ge C (tgt := 413) d_Mo_splits_359 (by decide) (fun c => ?_) (fun c => ?_)
    · replace hq := hq.1 c
      exact G_sub [] (by rfl) (hx413 _ hq)
    · replace hq := hq.2 c
      refine G_aload_n C 0 d_Mo_splits_362 rfl rfl ?_
      refine Gg_Mo_rimPart C wd_544 d_Mo_splits_363 ?_
      refine G_iload_n C 1 d_Mo_splits_366 rfl rfl ?_
      refine G_lconst C (v := 0) d_Mo_splits_367 (by decide) ?_
      refine G_lastore C (k := 75) (by decide) (fun _ _ => rfl) hq.1 d_Mo_splits_368 ?_
      replace hq := hq.2 _ rfl
      refine G_iconst C (v := 0) d_Mo_splits_369 (by decide) ?_
      refine G_istore_n C (lv' := [(3, _), (0, _), (2, _)]) d_Mo_splits_370 rfl (by decide) rfl ?_
      obtain ⟨n53, hq⟩ := hq
      refine G_sub [1, 2, 0] (by rfl) (s_Mo_splits_L371 C R ?_ n53 _ _ _ hq)
      · intro x54 M55 hq
        refine G_iinc C (v := _ + 1) (lv' := [(2, _), (0, _)]) 1 d_Mo_splits_407 rfl rfl (by decide) rfl ?_
        refine G_goto C (tgt := 354) d_Mo_splits_410 (by decide) ?_
        exact G_sub [1, 0] (by rfl) (ih _ _ hq)
def q_Mo_splits (a1 : Int32) (M : Mem) (post : Mem → Prop) : Prop := q_Mo_empties M (fun M1 => ∃ n12, q_Mo_splits_L6 (fun x13 M14 => q_Mo_solves (M14.1 56 0) M14 (fun M15 => ∀ M16, M16 = wJ M15 56 24 (M15.2 56 18) → ∃ n18, q_Mo_splits_L164 (fun x19 M20 => q_Mo_empties M20 (fun M21 => ∃ n45, q_Mo_splits_L213 (fun M46 => q_Mo_solves (M46.1 56 2) M46 (fun M47 => ∀ M48, M48 = wJ M47 56 25 (M47.2 56 18) → ∃ n56, q_Mo_splits_L354 (fun M57 => post M57) post n56 (0 : Int32) M48)) post n45 x19 (0 : Int32) M21)) post n18 x13 (0 : Int32) M16)) post n12 a1 (0 : Int32) M1)
set_option maxHeartbeats 4000000 in
theorem s_Mo_splits {l : Launch} {κ : Kp} {a1 : Int32} {M : Mem} {post : Mem → Prop} (hq : q_Mo_splits a1 M post) : Ct l κ y_Mo_splits b_Mo_splits 5 (none) 3 [.ref (κ.1 + 56), .int a1] M (pV post) := by
  refine Ct_of (by decide) (Nat.le_of_ble_eq_true rfl) (fun γ hγ C R => ?_)
  subst hγ
  unfold q_Mo_splits at hq
  show G γ κ 5 (0, 0) (Gq γ κ (pV post)) 0 [(0, .ref (κ.1 + 56)), (1, .int a1)] [] M
  refine G_aload_n C 0 d_Mo_splits_0 rfl rfl ?_
  refine G_callV C (s_Mo_empties hq) v_Mo_empties i_Mo_empties z_Mo_empties wd_731 (by decide) rfl (k := 56) (ci := 7) (by decide) rfl rfl rfl (rest := []) (by rfl) (Nat.le_of_ble_eq_true rfl) d_Mo_splits_1 (kv_ (fun M1 hq => ?_))
  refine G_iconst C (v := 0) d_Mo_splits_4 (by decide) ?_
  refine G_istore_n C (lv' := [(2, _), (0, _), (1, _)]) d_Mo_splits_5 rfl (by decide) rfl ?_
  obtain ⟨n12, hq⟩ := hq
  refine G_sub [1, 2, 0] (by rfl) (s_Mo_splits_L6 C R ?_ n12 _ _ _ hq)
  · intro x13 M14 hq
    refine G_aload_n C 0 d_Mo_splits_146 rfl rfl ?_
    refine G_aload_n C 0 d_Mo_splits_147 rfl rfl ?_
    refine Gg_Mo_points C wd_521 d_Mo_splits_148 ?_
    refine G_callV C (s_Mo_solves hq) v_Mo_solves i_Mo_solves z_Mo_solves wd_757 (by decide) rfl (k := 56) (ci := 7) (by decide) rfl rfl rfl (rest := []) (by rfl) (Nat.le_of_ble_eq_true rfl) d_Mo_splits_151 (kv_ (fun M15 hq => ?_))
    refine G_aload_n C 0 d_Mo_splits_154 rfl rfl ?_
    refine G_aload_n C 0 d_Mo_splits_155 rfl rfl ?_
    refine Gg_Mo_shared C wd_539 d_Mo_splits_156 ?_
    refine Gp_Mo_slopeShared C wd_545 d_Mo_splits_159 ?_
    replace hq := hq _ rfl
    refine G_iconst C (v := 0) d_Mo_splits_162 (by decide) ?_
    refine G_istore_n C (lv' := [(2, _), (0, _), (1, _)]) d_Mo_splits_163 rfl (by decide) rfl ?_
    obtain ⟨n18, hq⟩ := hq
    refine G_sub [1, 2, 0] (by rfl) (s_Mo_splits_L164 C R ?_ n18 _ _ _ hq)
    · intro x19 M20 hq
      refine G_aload_n C 0 d_Mo_splits_207 rfl rfl ?_
      refine G_callV C (s_Mo_empties hq) v_Mo_empties i_Mo_empties z_Mo_empties wd_731 (by decide) rfl (k := 56) (ci := 7) (by decide) rfl rfl rfl (rest := []) (by rfl) (Nat.le_of_ble_eq_true rfl) d_Mo_splits_208 (kv_ (fun M21 hq => ?_))
      refine G_iconst C (v := 0) d_Mo_splits_211 (by decide) ?_
      refine G_istore_n C (lv' := [(2, _), (0, _), (1, _)]) d_Mo_splits_212 rfl (by decide) rfl ?_
      obtain ⟨n45, hq⟩ := hq
      refine G_sub [1, 2, 0] (by rfl) (s_Mo_splits_L213 C R ?_ n45 _ _ _ hq)
      · intro M46 hq
        refine G_aload_n C 0 d_Mo_splits_336 rfl rfl ?_
        refine G_aload_n C 0 d_Mo_splits_337 rfl rfl ?_
        refine Gg_Mo_faces C wd_523 d_Mo_splits_338 ?_
        refine G_callV C (s_Mo_solves hq) v_Mo_solves i_Mo_solves z_Mo_solves wd_757 (by decide) rfl (k := 56) (ci := 7) (by decide) rfl rfl rfl (rest := []) (by rfl) (Nat.le_of_ble_eq_true rfl) d_Mo_splits_341 (kv_ (fun M47 hq => ?_))
        refine G_aload_n C 0 d_Mo_splits_344 rfl rfl ?_
        refine G_aload_n C 0 d_Mo_splits_345 rfl rfl ?_
        refine Gg_Mo_shared C wd_539 d_Mo_splits_346 ?_
        refine Gp_Mo_rimShared C wd_546 d_Mo_splits_349 ?_
        replace hq := hq _ rfl
        refine G_iconst C (v := 0) d_Mo_splits_352 (by decide) ?_
        refine G_istore_n C (lv' := [(2, _), (0, _)]) d_Mo_splits_353 rfl (by decide) rfl ?_
        obtain ⟨n56, hq⟩ := hq
        refine G_sub [1, 0] (by rfl) (s_Mo_splits_L354 C R ?_ n56 _ _ hq)
        · intro M57 hq
          exact G_vret C R d_Mo_splits_413 ⟨rfl, hq⟩
theorem d_Mo_field_0 : decode b_Mo_field 0 = .ok (.aload_n 0, 1) := by decide +kernel
theorem d_Mo_field_1 : decode b_Mo_field 1 = .ok (.invokevirtual 206, 3) := by decide +kernel
theorem d_Mo_field_4 : decode b_Mo_field 4 = .ok (.ireturn, 1) := by decide +kernel
def q_Mo_field (M : Mem) (post : Int32 → Mem → Prop) : Prop := q_Mo_forbids M (fun r2 M1 => post r2 M1)
set_option maxHeartbeats 4000000 in
theorem s_Mo_field {l : Launch} {κ : Kp} {M : Mem} {post : Int32 → Mem → Prop} (hq : q_Mo_field M post) : Ct l κ y_Mo_field b_Mo_field 1 (some .int) 3 [.ref (κ.1 + 56)] M (pI post) := by
  refine Ct_of (by decide) (Nat.le_of_ble_eq_true rfl) (fun γ hγ C R => ?_)
  subst hγ
  unfold q_Mo_field at hq
  show G γ κ 1 (0, 0) (Gq γ κ (pI post)) 0 [(0, .ref (κ.1 + 56))] [] M
  refine G_aload_n C 0 d_Mo_field_0 rfl rfl ?_
  refine G_callV C (s_Mo_forbids hq) v_Mo_forbids i_Mo_forbids z_Mo_forbids wd_784 (by decide) rfl (k := 56) (ci := 7) (by decide) rfl rfl rfl (rest := []) (by rfl) (Nat.le_of_ble_eq_true rfl) d_Mo_field_1 (ki_ (fun r2 M1 hq => ?_))
  exact G_iret C R d_Mo_field_4 ⟨_, rfl, hq⟩
