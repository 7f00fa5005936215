theorem d_Law_0 : decode code 0 = .ok (.new 7, 3) := by decide +kernel
theorem d_Law_3 : decode code 3 = .ok (.dup, 1) := by decide +kernel
theorem d_Law_4 : decode code 4 = .ok (.invokespecial 9, 3) := by decide +kernel
theorem d_Law_7 : decode code 7 = .ok (.astore_n 1, 1) := by decide +kernel
theorem d_Law_8 : decode code 8 = .ok (.new 10, 3) := by decide +kernel
theorem d_Law_11 : decode code 11 = .ok (.dup, 1) := by decide +kernel
theorem d_Law_12 : decode code 12 = .ok (.invokespecial 12, 3) := by decide +kernel
theorem d_Law_15 : decode code 15 = .ok (.astore_n 2, 1) := by decide +kernel
theorem d_Law_16 : decode code 16 = .ok (.iconst 0, 1) := by decide +kernel
theorem d_Law_17 : decode code 17 = .ok (.istore_n 3, 1) := by decide +kernel
theorem d_Law_18 : decode code 18 = .ok (.iload_n 3, 1) := by decide +kernel
theorem d_Law_19 : decode code 19 = .ok (.aload_n 0, 1) := by decide +kernel
theorem d_Law_20 : decode code 20 = .ok (.arraylength, 1) := by decide +kernel
theorem d_Law_21 : decode code 21 = .ok (.bipush 6, 2) := by decide +kernel
theorem d_Law_23 : decode code 23 = .ok (.isub, 1) := by decide +kernel
theorem d_Law_24 : decode code 24 = .ok (.if_icmp .gt 948, 3) := by decide +kernel
theorem d_Law_27 : decode code 27 = .ok (.aload_n 0, 1) := by decide +kernel
theorem d_Law_28 : decode code 28 = .ok (.iload_n 3, 1) := by decide +kernel
theorem d_Law_29 : decode code 29 = .ok (.iaload, 1) := by decide +kernel
theorem d_Law_30 : decode code 30 = .ok (.bipush 31, 2) := by decide +kernel
theorem d_Law_32 : decode code 32 = .ok (.iand, 1) := by decide +kernel
theorem d_Law_33 : decode code 33 = .ok (.tableswitch 933 0 25 #[119, 142, 175, 218, 261, 294, 337, 370, 403, 436, 479, 542, 575, 598, 631, 685, 718, 741, 754, 788, 811, 834, 858, 882, 896, 919], 119) := by decide +kernel
theorem d_Law_152 : decode code 152 = .ok (.aload_n 1, 1) := by decide +kernel
theorem d_Law_153 : decode code 153 = .ok (.aload_n 0, 1) := by decide +kernel
theorem d_Law_154 : decode code 154 = .ok (.iload_n 3, 1) := by decide +kernel
theorem d_Law_155 : decode code 155 = .ok (.iconst 1, 1) := by decide +kernel
theorem d_Law_156 : decode code 156 = .ok (.iadd, 1) := by decide +kernel
theorem d_Law_157 : decode code 157 = .ok (.iaload, 1) := by decide +kernel
theorem d_Law_158 : decode code 158 = .ok (.invokevirtual 13, 3) := by decide +kernel
theorem d_Law_161 : decode code 161 = .ok (.aload_n 2, 1) := by decide +kernel
theorem d_Law_162 : decode code 162 = .ok (.aload_n 0, 1) := by decide +kernel
theorem d_Law_163 : decode code 163 = .ok (.iload_n 3, 1) := by decide +kernel
theorem d_Law_164 : decode code 164 = .ok (.iconst 1, 1) := by decide +kernel
theorem d_Law_165 : decode code 165 = .ok (.iadd, 1) := by decide +kernel
theorem d_Law_166 : decode code 166 = .ok (.iaload, 1) := by decide +kernel
theorem d_Law_167 : decode code 167 = .ok (.invokevirtual 17, 3) := by decide +kernel
theorem d_Law_170 : decode code 170 = .ok (.if_icmp .eq 796, 3) := by decide +kernel
theorem d_Law_173 : decode code 173 = .ok (.iconst 0, 1) := by decide +kernel
theorem d_Law_174 : decode code 174 = .ok (.ireturn, 1) := by decide +kernel
theorem d_Law_175 : decode code 175 = .ok (.aload_n 1, 1) := by decide +kernel
theorem d_Law_176 : decode code 176 = .ok (.aload_n 0, 1) := by decide +kernel
theorem d_Law_177 : decode code 177 = .ok (.iload_n 3, 1) := by decide +kernel
theorem d_Law_178 : decode code 178 = .ok (.iconst 1, 1) := by decide +kernel
theorem d_Law_179 : decode code 179 = .ok (.iadd, 1) := by decide +kernel
theorem d_Law_180 : decode code 180 = .ok (.iaload, 1) := by decide +kernel
theorem d_Law_181 : decode code 181 = .ok (.aload_n 0, 1) := by decide +kernel
theorem d_Law_182 : decode code 182 = .ok (.iload_n 3, 1) := by decide +kernel
theorem d_Law_183 : decode code 183 = .ok (.iconst 2, 1) := by decide +kernel
theorem d_Law_184 : decode code 184 = .ok (.iadd, 1) := by decide +kernel
theorem d_Law_185 : decode code 185 = .ok (.iaload, 1) := by decide +kernel
theorem d_Law_186 : decode code 186 = .ok (.invokevirtual 18, 3) := by decide +kernel
theorem d_Law_189 : decode code 189 = .ok (.aload_n 2, 1) := by decide +kernel
theorem d_Law_190 : decode code 190 = .ok (.aload_n 0, 1) := by decide +kernel
theorem d_Law_191 : decode code 191 = .ok (.iload_n 3, 1) := by decide +kernel
theorem d_Law_192 : decode code 192 = .ok (.iconst 1, 1) := by decide +kernel
theorem d_Law_193 : decode code 193 = .ok (.iadd, 1) := by decide +kernel
theorem d_Law_194 : decode code 194 = .ok (.iaload, 1) := by decide +kernel
theorem d_Law_195 : decode code 195 = .ok (.aload_n 0, 1) := by decide +kernel
theorem d_Law_196 : decode code 196 = .ok (.iload_n 3, 1) := by decide +kernel
theorem d_Law_197 : decode code 197 = .ok (.iconst 2, 1) := by decide +kernel
theorem d_Law_198 : decode code 198 = .ok (.iadd, 1) := by decide +kernel
theorem d_Law_199 : decode code 199 = .ok (.iaload, 1) := by decide +kernel
theorem d_Law_200 : decode code 200 = .ok (.invokevirtual 22, 3) := by decide +kernel
theorem d_Law_203 : decode code 203 = .ok (.if_icmp .eq 763, 3) := by decide +kernel
theorem d_Law_206 : decode code 206 = .ok (.iconst 0, 1) := by decide +kernel
theorem d_Law_207 : decode code 207 = .ok (.ireturn, 1) := by decide +kernel
theorem d_Law_208 : decode code 208 = .ok (.aload_n 1, 1) := by decide +kernel
theorem d_Law_209 : decode code 209 = .ok (.aload_n 0, 1) := by decide +kernel
theorem d_Law_210 : decode code 210 = .ok (.iload_n 3, 1) := by decide +kernel
theorem d_Law_211 : decode code 211 = .ok (.iconst 1, 1) := by decide +kernel
theorem d_Law_212 : decode code 212 = .ok (.iadd, 1) := by decide +kernel
theorem d_Law_213 : decode code 213 = .ok (.iaload, 1) := by decide +kernel
theorem d_Law_214 : decode code 214 = .ok (.aload_n 0, 1) := by decide +kernel
theorem d_Law_215 : decode code 215 = .ok (.iload_n 3, 1) := by decide +kernel
theorem d_Law_216 : decode code 216 = .ok (.iconst 2, 1) := by decide +kernel
theorem d_Law_217 : decode code 217 = .ok (.iadd, 1) := by decide +kernel
theorem d_Law_218 : decode code 218 = .ok (.iaload, 1) := by decide +kernel
theorem d_Law_219 : decode code 219 = .ok (.aload_n 0, 1) := by decide +kernel
theorem d_Law_220 : decode code 220 = .ok (.iload_n 3, 1) := by decide +kernel
theorem d_Law_221 : decode code 221 = .ok (.iconst 3, 1) := by decide +kernel
theorem d_Law_222 : decode code 222 = .ok (.iadd, 1) := by decide +kernel
theorem d_Law_223 : decode code 223 = .ok (.iaload, 1) := by decide +kernel
theorem d_Law_224 : decode code 224 = .ok (.invokevirtual 23, 3) := by decide +kernel
theorem d_Law_227 : decode code 227 = .ok (.aload_n 2, 1) := by decide +kernel
theorem d_Law_228 : decode code 228 = .ok (.aload_n 0, 1) := by decide +kernel
theorem d_Law_229 : decode code 229 = .ok (.iload_n 3, 1) := by decide +kernel
theorem d_Law_230 : decode code 230 = .ok (.iconst 1, 1) := by decide +kernel
theorem d_Law_231 : decode code 231 = .ok (.iadd, 1) := by decide +kernel
theorem d_Law_232 : decode code 232 = .ok (.iaload, 1) := by decide +kernel
theorem d_Law_233 : decode code 233 = .ok (.aload_n 0, 1) := by decide +kernel
theorem d_Law_234 : decode code 234 = .ok (.iload_n 3, 1) := by decide +kernel
theorem d_Law_235 : decode code 235 = .ok (.iconst 2, 1) := by decide +kernel
theorem d_Law_236 : decode code 236 = .ok (.iadd, 1) := by decide +kernel
theorem d_Law_237 : decode code 237 = .ok (.iaload, 1) := by decide +kernel
theorem d_Law_238 : decode code 238 = .ok (.aload_n 0, 1) := by decide +kernel
theorem d_Law_239 : decode code 239 = .ok (.iload_n 3, 1) := by decide +kernel
theorem d_Law_240 : decode code 240 = .ok (.iconst 3, 1) := by decide +kernel
theorem d_Law_241 : decode code 241 = .ok (.iadd, 1) := by decide +kernel
theorem d_Law_242 : decode code 242 = .ok (.iaload, 1) := by decide +kernel
theorem d_Law_243 : decode code 243 = .ok (.invokevirtual 27, 3) := by decide +kernel
theorem d_Law_246 : decode code 246 = .ok (.if_icmp .eq 720, 3) := by decide +kernel
theorem d_Law_249 : decode code 249 = .ok (.iconst 0, 1) := by decide +kernel
theorem d_Law_250 : decode code 250 = .ok (.ireturn, 1) := by decide +kernel
theorem d_Law_251 : decode code 251 = .ok (.aload_n 1, 1) := by decide +kernel
theorem d_Law_252 : decode code 252 = .ok (.aload_n 0, 1) := by decide +kernel
theorem d_Law_253 : decode code 253 = .ok (.iload_n 3, 1) := by decide +kernel
theorem d_Law_254 : decode code 254 = .ok (.iconst 1, 1) := by decide +kernel
theorem d_Law_255 : decode code 255 = .ok (.iadd, 1) := by decide +kernel
theorem d_Law_256 : decode code 256 = .ok (.iaload, 1) := by decide +kernel
theorem d_Law_257 : decode code 257 = .ok (.aload_n 0, 1) := by decide +kernel
theorem d_Law_258 : decode code 258 = .ok (.iload_n 3, 1) := by decide +kernel
theorem d_Law_259 : decode code 259 = .ok (.iconst 2, 1) := by decide +kernel
theorem d_Law_260 : decode code 260 = .ok (.iadd, 1) := by decide +kernel
theorem d_Law_261 : decode code 261 = .ok (.iaload, 1) := by decide +kernel
theorem d_Law_262 : decode code 262 = .ok (.aload_n 0, 1) := by decide +kernel
theorem d_Law_263 : decode code 263 = .ok (.iload_n 3, 1) := by decide +kernel
theorem d_Law_264 : decode code 264 = .ok (.iconst 3, 1) := by decide +kernel
theorem d_Law_265 : decode code 265 = .ok (.iadd, 1) := by decide +kernel
theorem d_Law_266 : decode code 266 = .ok (.iaload, 1) := by decide +kernel
theorem d_Law_267 : decode code 267 = .ok (.invokevirtual 28, 3) := by decide +kernel
theorem d_Law_270 : decode code 270 = .ok (.aload_n 2, 1) := by decide +kernel
theorem d_Law_271 : decode code 271 = .ok (.aload_n 0, 1) := by decide +kernel
theorem d_Law_272 : decode code 272 = .ok (.iload_n 3, 1) := by decide +kernel
theorem d_Law_273 : decode code 273 = .ok (.iconst 1, 1) := by decide +kernel
theorem d_Law_274 : decode code 274 = .ok (.iadd, 1) := by decide +kernel
theorem d_Law_275 : decode code 275 = .ok (.iaload, 1) := by decide +kernel
theorem d_Law_276 : decode code 276 = .ok (.aload_n 0, 1) := by decide +kernel
theorem d_Law_277 : decode code 277 = .ok (.iload_n 3, 1) := by decide +kernel
theorem d_Law_278 : decode code 278 = .ok (.iconst 2, 1) := by decide +kernel
theorem d_Law_279 : decode code 279 = .ok (.iadd, 1) := by decide +kernel
theorem d_Law_280 : decode code 280 = .ok (.iaload, 1) := by decide +kernel
theorem d_Law_281 : decode code 281 = .ok (.aload_n 0, 1) := by decide +kernel
theorem d_Law_282 : decode code 282 = .ok (.iload_n 3, 1) := by decide +kernel
theorem d_Law_283 : decode code 283 = .ok (.iconst 3, 1) := by decide +kernel
theorem d_Law_284 : decode code 284 = .ok (.iadd, 1) := by decide +kernel
theorem d_Law_285 : decode code 285 = .ok (.iaload, 1) := by decide +kernel
theorem d_Law_286 : decode code 286 = .ok (.invokevirtual 31, 3) := by decide +kernel
theorem d_Law_289 : decode code 289 = .ok (.if_icmp .eq 677, 3) := by decide +kernel
theorem d_Law_292 : decode code 292 = .ok (.iconst 0, 1) := by decide +kernel
theorem d_Law_293 : decode code 293 = .ok (.ireturn, 1) := by decide +kernel
theorem d_Law_294 : decode code 294 = .ok (.aload_n 1, 1) := by decide +kernel
theorem d_Law_295 : decode code 295 = .ok (.aload_n 0, 1) := by decide +kernel
theorem d_Law_296 : decode code 296 = .ok (.iload_n 3, 1) := by decide +kernel
theorem d_Law_297 : decode code 297 = .ok (.iconst 1, 1) := by decide +kernel
theorem d_Law_298 : decode code 298 = .ok (.iadd, 1) := by decide +kernel
theorem d_Law_299 : decode code 299 = .ok (.iaload, 1) := by decide +kernel
theorem d_Law_300 : decode code 300 = .ok (.aload_n 0, 1) := by decide +kernel
theorem d_Law_301 : decode code 301 = .ok (.iload_n 3, 1) := by decide +kernel
theorem d_Law_302 : decode code 302 = .ok (.iconst 2, 1) := by decide +kernel
theorem d_Law_303 : decode code 303 = .ok (.iadd, 1) := by decide +kernel
theorem d_Law_304 : decode code 304 = .ok (.iaload, 1) := by decide +kernel
theorem d_Law_305 : decode code 305 = .ok (.invokevirtual 32, 3) := by decide +kernel
theorem d_Law_308 : decode code 308 = .ok (.aload_n 2, 1) := by decide +kernel
theorem d_Law_309 : decode code 309 = .ok (.aload_n 0, 1) := by decide +kernel
theorem d_Law_310 : decode code 310 = .ok (.iload_n 3, 1) := by decide +kernel
theorem d_Law_311 : decode code 311 = .ok (.iconst 1, 1) := by decide +kernel
theorem d_Law_312 : decode code 312 = .ok (.iadd, 1) := by decide +kernel
theorem d_Law_313 : decode code 313 = .ok (.iaload, 1) := by decide +kernel
theorem d_Law_314 : decode code 314 = .ok (.aload_n 0, 1) := by decide +kernel
theorem d_Law_315 : decode code 315 = .ok (.iload_n 3, 1) := by decide +kernel
theorem d_Law_316 : decode code 316 = .ok (.iconst 2, 1) := by decide +kernel
theorem d_Law_317 : decode code 317 = .ok (.iadd, 1) := by decide +kernel
theorem d_Law_318 : decode code 318 = .ok (.iaload, 1) := by decide +kernel
theorem d_Law_319 : decode code 319 = .ok (.invokevirtual 35, 3) := by decide +kernel
theorem d_Law_322 : decode code 322 = .ok (.if_icmp .eq 644, 3) := by decide +kernel
theorem d_Law_325 : decode code 325 = .ok (.iconst 0, 1) := by decide +kernel
theorem d_Law_326 : decode code 326 = .ok (.ireturn, 1) := by decide +kernel
theorem d_Law_327 : decode code 327 = .ok (.aload_n 1, 1) := by decide +kernel
theorem d_Law_328 : decode code 328 = .ok (.aload_n 0, 1) := by decide +kernel
theorem d_Law_329 : decode code 329 = .ok (.iload_n 3, 1) := by decide +kernel
theorem d_Law_330 : decode code 330 = .ok (.iconst 1, 1) := by decide +kernel
theorem d_Law_331 : decode code 331 = .ok (.iadd, 1) := by decide +kernel
theorem d_Law_332 : decode code 332 = .ok (.iaload, 1) := by decide +kernel
theorem d_Law_333 : decode code 333 = .ok (.aload_n 0, 1) := by decide +kernel
theorem d_Law_334 : decode code 334 = .ok (.iload_n 3, 1) := by decide +kernel
theorem d_Law_335 : decode code 335 = .ok (.iconst 2, 1) := by decide +kernel
theorem d_Law_336 : decode code 336 = .ok (.iadd, 1) := by decide +kernel
theorem d_Law_337 : decode code 337 = .ok (.iaload, 1) := by decide +kernel
theorem d_Law_338 : decode code 338 = .ok (.aload_n 0, 1) := by decide +kernel
theorem d_Law_339 : decode code 339 = .ok (.iload_n 3, 1) := by decide +kernel
theorem d_Law_340 : decode code 340 = .ok (.iconst 3, 1) := by decide +kernel
theorem d_Law_341 : decode code 341 = .ok (.iadd, 1) := by decide +kernel
theorem d_Law_342 : decode code 342 = .ok (.iaload, 1) := by decide +kernel
theorem d_Law_343 : decode code 343 = .ok (.invokevirtual 36, 3) := by decide +kernel
theorem d_Law_346 : decode code 346 = .ok (.aload_n 2, 1) := by decide +kernel
theorem d_Law_347 : decode code 347 = .ok (.aload_n 0, 1) := by decide +kernel
theorem d_Law_348 : decode code 348 = .ok (.iload_n 3, 1) := by decide +kernel
theorem d_Law_349 : decode code 349 = .ok (.iconst 1, 1) := by decide +kernel
theorem d_Law_350 : decode code 350 = .ok (.iadd, 1) := by decide +kernel
theorem d_Law_351 : decode code 351 = .ok (.iaload, 1) := by decide +kernel
theorem d_Law_352 : decode code 352 = .ok (.aload_n 0, 1) := by decide +kernel
theorem d_Law_353 : decode code 353 = .ok (.iload_n 3, 1) := by decide +kernel
theorem d_Law_354 : decode code 354 = .ok (.iconst 2, 1) := by decide +kernel
theorem d_Law_355 : decode code 355 = .ok (.iadd, 1) := by decide +kernel
theorem d_Law_356 : decode code 356 = .ok (.iaload, 1) := by decide +kernel
theorem d_Law_357 : decode code 357 = .ok (.aload_n 0, 1) := by decide +kernel
theorem d_Law_358 : decode code 358 = .ok (.iload_n 3, 1) := by decide +kernel
theorem d_Law_359 : decode code 359 = .ok (.iconst 3, 1) := by decide +kernel
theorem d_Law_360 : decode code 360 = .ok (.iadd, 1) := by decide +kernel
theorem d_Law_361 : decode code 361 = .ok (.iaload, 1) := by decide +kernel
theorem d_Law_362 : decode code 362 = .ok (.invokevirtual 39, 3) := by decide +kernel
theorem d_Law_365 : decode code 365 = .ok (.if_icmp .eq 601, 3) := by decide +kernel
theorem d_Law_368 : decode code 368 = .ok (.iconst 0, 1) := by decide +kernel
theorem d_Law_369 : decode code 369 = .ok (.ireturn, 1) := by decide +kernel
theorem d_Law_370 : decode code 370 = .ok (.aload_n 1, 1) := by decide +kernel
theorem d_Law_371 : decode code 371 = .ok (.aload_n 0, 1) := by decide +kernel
theorem d_Law_372 : decode code 372 = .ok (.iload_n 3, 1) := by decide +kernel
theorem d_Law_373 : decode code 373 = .ok (.iconst 1, 1) := by decide +kernel
theorem d_Law_374 : decode code 374 = .ok (.iadd, 1) := by decide +kernel
theorem d_Law_375 : decode code 375 = .ok (.iaload, 1) := by decide +kernel
theorem d_Law_376 : decode code 376 = .ok (.aload_n 0, 1) := by decide +kernel
theorem d_Law_377 : decode code 377 = .ok (.iload_n 3, 1) := by decide +kernel
theorem d_Law_378 : decode code 378 = .ok (.iconst 2, 1) := by decide +kernel
theorem d_Law_379 : decode code 379 = .ok (.iadd, 1) := by decide +kernel
theorem d_Law_380 : decode code 380 = .ok (.iaload, 1) := by decide +kernel
theorem d_Law_381 : decode code 381 = .ok (.invokevirtual 40, 3) := by decide +kernel
theorem d_Law_384 : decode code 384 = .ok (.aload_n 2, 1) := by decide +kernel
theorem d_Law_385 : decode code 385 = .ok (.aload_n 0, 1) := by decide +kernel
theorem d_Law_386 : decode code 386 = .ok (.iload_n 3, 1) := by decide +kernel
theorem d_Law_387 : decode code 387 = .ok (.iconst 1, 1) := by decide +kernel
theorem d_Law_388 : decode code 388 = .ok (.iadd, 1) := by decide +kernel
theorem d_Law_389 : decode code 389 = .ok (.iaload, 1) := by decide +kernel
theorem d_Law_390 : decode code 390 = .ok (.aload_n 0, 1) := by decide +kernel
theorem d_Law_391 : decode code 391 = .ok (.iload_n 3, 1) := by decide +kernel
theorem d_Law_392 : decode code 392 = .ok (.iconst 2, 1) := by decide +kernel
theorem d_Law_393 : decode code 393 = .ok (.iadd, 1) := by decide +kernel
theorem d_Law_394 : decode code 394 = .ok (.iaload, 1) := by decide +kernel
theorem d_Law_395 : decode code 395 = .ok (.invokevirtual 43, 3) := by decide +kernel
theorem d_Law_398 : decode code 398 = .ok (.if_icmp .eq 568, 3) := by decide +kernel
theorem d_Law_401 : decode code 401 = .ok (.iconst 0, 1) := by decide +kernel
theorem d_Law_402 : decode code 402 = .ok (.ireturn, 1) := by decide +kernel
theorem d_Law_403 : decode code 403 = .ok (.aload_n 1, 1) := by decide +kernel
theorem d_Law_404 : decode code 404 = .ok (.aload_n 0, 1) := by decide +kernel
theorem d_Law_405 : decode code 405 = .ok (.iload_n 3, 1) := by decide +kernel
theorem d_Law_406 : decode code 406 = .ok (.iconst 1, 1) := by decide +kernel
theorem d_Law_407 : decode code 407 = .ok (.iadd, 1) := by decide +kernel
theorem d_Law_408 : decode code 408 = .ok (.iaload, 1) := by decide +kernel
theorem d_Law_409 : decode code 409 = .ok (.aload_n 0, 1) := by decide +kernel
theorem d_Law_410 : decode code 410 = .ok (.iload_n 3, 1) := by decide +kernel
theorem d_Law_411 : decode code 411 = .ok (.iconst 2, 1) := by decide +kernel
theorem d_Law_412 : decode code 412 = .ok (.iadd, 1) := by decide +kernel
theorem d_Law_413 : decode code 413 = .ok (.iaload, 1) := by decide +kernel
theorem d_Law_414 : decode code 414 = .ok (.invokevirtual 44, 3) := by decide +kernel
theorem d_Law_417 : decode code 417 = .ok (.aload_n 2, 1) := by decide +kernel
theorem d_Law_418 : decode code 418 = .ok (.aload_n 0, 1) := by decide +kernel
theorem d_Law_419 : decode code 419 = .ok (.iload_n 3, 1) := by decide +kernel
theorem d_Law_420 : decode code 420 = .ok (.iconst 1, 1) := by decide +kernel
theorem d_Law_421 : decode code 421 = .ok (.iadd, 1) := by decide +kernel
theorem d_Law_422 : decode code 422 = .ok (.iaload, 1) := by decide +kernel
theorem d_Law_423 : decode code 423 = .ok (.aload_n 0, 1) := by decide +kernel
theorem d_Law_424 : decode code 424 = .ok (.iload_n 3, 1) := by decide +kernel
theorem d_Law_425 : decode code 425 = .ok (.iconst 2, 1) := by decide +kernel
theorem d_Law_426 : decode code 426 = .ok (.iadd, 1) := by decide +kernel
theorem d_Law_427 : decode code 427 = .ok (.iaload, 1) := by decide +kernel
theorem d_Law_428 : decode code 428 = .ok (.invokevirtual 47, 3) := by decide +kernel
theorem d_Law_431 : decode code 431 = .ok (.if_icmp .eq 535, 3) := by decide +kernel
theorem d_Law_434 : decode code 434 = .ok (.iconst 0, 1) := by decide +kernel
theorem d_Law_435 : decode code 435 = .ok (.ireturn, 1) := by decide +kernel
theorem d_Law_436 : decode code 436 = .ok (.aload_n 1, 1) := by decide +kernel
theorem d_Law_437 : decode code 437 = .ok (.aload_n 0, 1) := by decide +kernel
theorem d_Law_438 : decode code 438 = .ok (.iload_n 3, 1) := by decide +kernel
theorem d_Law_439 : decode code 439 = .ok (.iconst 1, 1) := by decide +kernel
theorem d_Law_440 : decode code 440 = .ok (.iadd, 1) := by decide +kernel
theorem d_Law_441 : decode code 441 = .ok (.iaload, 1) := by decide +kernel
theorem d_Law_442 : decode code 442 = .ok (.aload_n 0, 1) := by decide +kernel
theorem d_Law_443 : decode code 443 = .ok (.iload_n 3, 1) := by decide +kernel
theorem d_Law_444 : decode code 444 = .ok (.iconst 2, 1) := by decide +kernel
theorem d_Law_445 : decode code 445 = .ok (.iadd, 1) := by decide +kernel
theorem d_Law_446 : decode code 446 = .ok (.iaload, 1) := by decide +kernel
theorem d_Law_447 : decode code 447 = .ok (.invokevirtual 48, 3) := by decide +kernel
theorem d_Law_450 : decode code 450 = .ok (.aload_n 2, 1) := by decide +kernel
theorem d_Law_451 : decode code 451 = .ok (.aload_n 0, 1) := by decide +kernel
theorem d_Law_452 : decode code 452 = .ok (.iload_n 3, 1) := by decide +kernel
theorem d_Law_453 : decode code 453 = .ok (.iconst 1, 1) := by decide +kernel
theorem d_Law_454 : decode code 454 = .ok (.iadd, 1) := by decide +kernel
theorem d_Law_455 : decode code 455 = .ok (.iaload, 1) := by decide +kernel
theorem d_Law_456 : decode code 456 = .ok (.aload_n 0, 1) := by decide +kernel
theorem d_Law_457 : decode code 457 = .ok (.iload_n 3, 1) := by decide +kernel
theorem d_Law_458 : decode code 458 = .ok (.iconst 2, 1) := by decide +kernel
theorem d_Law_459 : decode code 459 = .ok (.iadd, 1) := by decide +kernel
theorem d_Law_460 : decode code 460 = .ok (.iaload, 1) := by decide +kernel
theorem d_Law_461 : decode code 461 = .ok (.invokevirtual 51, 3) := by decide +kernel
theorem d_Law_464 : decode code 464 = .ok (.if_icmp .eq 502, 3) := by decide +kernel
theorem d_Law_467 : decode code 467 = .ok (.iconst 0, 1) := by decide +kernel
theorem d_Law_468 : decode code 468 = .ok (.ireturn, 1) := by decide +kernel
theorem d_Law_469 : decode code 469 = .ok (.aload_n 1, 1) := by decide +kernel
theorem d_Law_470 : decode code 470 = .ok (.aload_n 0, 1) := by decide +kernel
theorem d_Law_471 : decode code 471 = .ok (.iload_n 3, 1) := by decide +kernel
theorem d_Law_472 : decode code 472 = .ok (.iconst 1, 1) := by decide +kernel
theorem d_Law_473 : decode code 473 = .ok (.iadd, 1) := by decide +kernel
theorem d_Law_474 : decode code 474 = .ok (.iaload, 1) := by decide +kernel
theorem d_Law_475 : decode code 475 = .ok (.aload_n 0, 1) := by decide +kernel
theorem d_Law_476 : decode code 476 = .ok (.iload_n 3, 1) := by decide +kernel
theorem d_Law_477 : decode code 477 = .ok (.iconst 2, 1) := by decide +kernel
theorem d_Law_478 : decode code 478 = .ok (.iadd, 1) := by decide +kernel
theorem d_Law_479 : decode code 479 = .ok (.iaload, 1) := by decide +kernel
theorem d_Law_480 : decode code 480 = .ok (.aload_n 0, 1) := by decide +kernel
theorem d_Law_481 : decode code 481 = .ok (.iload_n 3, 1) := by decide +kernel
theorem d_Law_482 : decode code 482 = .ok (.iconst 3, 1) := by decide +kernel
theorem d_Law_483 : decode code 483 = .ok (.iadd, 1) := by decide +kernel
theorem d_Law_484 : decode code 484 = .ok (.iaload, 1) := by decide +kernel
theorem d_Law_485 : decode code 485 = .ok (.invokevirtual 52, 3) := by decide +kernel
theorem d_Law_488 : decode code 488 = .ok (.aload_n 2, 1) := by decide +kernel
theorem d_Law_489 : decode code 489 = .ok (.aload_n 0, 1) := by decide +kernel
theorem d_Law_490 : decode code 490 = .ok (.iload_n 3, 1) := by decide +kernel
theorem d_Law_491 : decode code 491 = .ok (.iconst 1, 1) := by decide +kernel
theorem d_Law_492 : decode code 492 = .ok (.iadd, 1) := by decide +kernel
theorem d_Law_493 : decode code 493 = .ok (.iaload, 1) := by decide +kernel
theorem d_Law_494 : decode code 494 = .ok (.aload_n 0, 1) := by decide +kernel
theorem d_Law_495 : decode code 495 = .ok (.iload_n 3, 1) := by decide +kernel
theorem d_Law_496 : decode code 496 = .ok (.iconst 2, 1) := by decide +kernel
theorem d_Law_497 : decode code 497 = .ok (.iadd, 1) := by decide +kernel
theorem d_Law_498 : decode code 498 = .ok (.iaload, 1) := by decide +kernel
theorem d_Law_499 : decode code 499 = .ok (.aload_n 0, 1) := by decide +kernel
theorem d_Law_500 : decode code 500 = .ok (.iload_n 3, 1) := by decide +kernel
theorem d_Law_501 : decode code 501 = .ok (.iconst 3, 1) := by decide +kernel
theorem d_Law_502 : decode code 502 = .ok (.iadd, 1) := by decide +kernel
theorem d_Law_503 : decode code 503 = .ok (.iaload, 1) := by decide +kernel
theorem d_Law_504 : decode code 504 = .ok (.invokevirtual 55, 3) := by decide +kernel
theorem d_Law_507 : decode code 507 = .ok (.if_icmp .eq 459, 3) := by decide +kernel
theorem d_Law_510 : decode code 510 = .ok (.iconst 0, 1) := by decide +kernel
theorem d_Law_511 : decode code 511 = .ok (.ireturn, 1) := by decide +kernel
theorem d_Law_512 : decode code 512 = .ok (.aload_n 1, 1) := by decide +kernel
theorem d_Law_513 : decode code 513 = .ok (.aload_n 0, 1) := by decide +kernel
theorem d_Law_514 : decode code 514 = .ok (.iload_n 3, 1) := by decide +kernel
theorem d_Law_515 : decode code 515 = .ok (.iconst 1, 1) := by decide +kernel
theorem d_Law_516 : decode code 516 = .ok (.iadd, 1) := by decide +kernel
theorem d_Law_517 : decode code 517 = .ok (.iaload, 1) := by decide +kernel
theorem d_Law_518 : decode code 518 = .ok (.aload_n 0, 1) := by decide +kernel
theorem d_Law_519 : decode code 519 = .ok (.iload_n 3, 1) := by decide +kernel
theorem d_Law_520 : decode code 520 = .ok (.iconst 2, 1) := by decide +kernel
theorem d_Law_521 : decode code 521 = .ok (.iadd, 1) := by decide +kernel
theorem d_Law_522 : decode code 522 = .ok (.iaload, 1) := by decide +kernel
theorem d_Law_523 : decode code 523 = .ok (.aload_n 0, 1) := by decide +kernel
theorem d_Law_524 : decode code 524 = .ok (.iload_n 3, 1) := by decide +kernel
theorem d_Law_525 : decode code 525 = .ok (.iconst 3, 1) := by decide +kernel
theorem d_Law_526 : decode code 526 = .ok (.iadd, 1) := by decide +kernel
theorem d_Law_527 : decode code 527 = .ok (.iaload, 1) := by decide +kernel
theorem d_Law_528 : decode code 528 = .ok (.aload_n 0, 1) := by decide +kernel
theorem d_Law_529 : decode code 529 = .ok (.iload_n 3, 1) := by decide +kernel
theorem d_Law_530 : decode code 530 = .ok (.iconst 4, 1) := by decide +kernel
theorem d_Law_531 : decode code 531 = .ok (.iadd, 1) := by decide +kernel
theorem d_Law_532 : decode code 532 = .ok (.iaload, 1) := by decide +kernel
theorem d_Law_533 : decode code 533 = .ok (.aload_n 0, 1) := by decide +kernel
theorem d_Law_534 : decode code 534 = .ok (.iload_n 3, 1) := by decide +kernel
theorem d_Law_535 : decode code 535 = .ok (.iconst 5, 1) := by decide +kernel
theorem d_Law_536 : decode code 536 = .ok (.iadd, 1) := by decide +kernel
theorem d_Law_537 : decode code 537 = .ok (.iaload, 1) := by decide +kernel
theorem d_Law_538 : decode code 538 = .ok (.invokevirtual 56, 3) := by decide +kernel
theorem d_Law_541 : decode code 541 = .ok (.aload_n 2, 1) := by decide +kernel
theorem d_Law_542 : decode code 542 = .ok (.aload_n 0, 1) := by decide +kernel
theorem d_Law_543 : decode code 543 = .ok (.iload_n 3, 1) := by decide +kernel
theorem d_Law_544 : decode code 544 = .ok (.iconst 1, 1) := by decide +kernel
theorem d_Law_545 : decode code 545 = .ok (.iadd, 1) := by decide +kernel
theorem d_Law_546 : decode code 546 = .ok (.iaload, 1) := by decide +kernel
theorem d_Law_547 : decode code 547 = .ok (.aload_n 0, 1) := by decide +kernel
theorem d_Law_548 : decode code 548 = .ok (.iload_n 3, 1) := by decide +kernel
theorem d_Law_549 : decode code 549 = .ok (.iconst 2, 1) := by decide +kernel
theorem d_Law_550 : decode code 550 = .ok (.iadd, 1) := by decide +kernel
theorem d_Law_551 : decode code 551 = .ok (.iaload, 1) := by decide +kernel
theorem d_Law_552 : decode code 552 = .ok (.aload_n 0, 1) := by decide +kernel
theorem d_Law_553 : decode code 553 = .ok (.iload_n 3, 1) := by decide +kernel
theorem d_Law_554 : decode code 554 = .ok (.iconst 3, 1) := by decide +kernel
theorem d_Law_555 : decode code 555 = .ok (.iadd, 1) := by decide +kernel
theorem d_Law_556 : decode code 556 = .ok (.iaload, 1) := by decide +kernel
theorem d_Law_557 : decode code 557 = .ok (.aload_n 0, 1) := by decide +kernel
theorem d_Law_558 : decode code 558 = .ok (.iload_n 3, 1) := by decide +kernel
theorem d_Law_559 : decode code 559 = .ok (.iconst 4, 1) := by decide +kernel
theorem d_Law_560 : decode code 560 = .ok (.iadd, 1) := by decide +kernel
theorem d_Law_561 : decode code 561 = .ok (.iaload, 1) := by decide +kernel
theorem d_Law_562 : decode code 562 = .ok (.aload_n 0, 1) := by decide +kernel
theorem d_Law_563 : decode code 563 = .ok (.iload_n 3, 1) := by decide +kernel
theorem d_Law_564 : decode code 564 = .ok (.iconst 5, 1) := by decide +kernel
theorem d_Law_565 : decode code 565 = .ok (.iadd, 1) := by decide +kernel
theorem d_Law_566 : decode code 566 = .ok (.iaload, 1) := by decide +kernel
theorem d_Law_567 : decode code 567 = .ok (.invokevirtual 60, 3) := by decide +kernel
theorem d_Law_570 : decode code 570 = .ok (.if_icmp .eq 396, 3) := by decide +kernel
theorem d_Law_573 : decode code 573 = .ok (.iconst 0, 1) := by decide +kernel
theorem d_Law_574 : decode code 574 = .ok (.ireturn, 1) := by decide +kernel
theorem d_Law_575 : decode code 575 = .ok (.aload_n 1, 1) := by decide +kernel
theorem d_Law_576 : decode code 576 = .ok (.aload_n 0, 1) := by decide +kernel
theorem d_Law_577 : decode code 577 = .ok (.iload_n 3, 1) := by decide +kernel
theorem d_Law_578 : decode code 578 = .ok (.iconst 1, 1) := by decide +kernel
theorem d_Law_579 : decode code 579 = .ok (.iadd, 1) := by decide +kernel
theorem d_Law_580 : decode code 580 = .ok (.iaload, 1) := by decide +kernel
theorem d_Law_581 : decode code 581 = .ok (.aload_n 0, 1) := by decide +kernel
theorem d_Law_582 : decode code 582 = .ok (.iload_n 3, 1) := by decide +kernel
theorem d_Law_583 : decode code 583 = .ok (.iconst 2, 1) := by decide +kernel
theorem d_Law_584 : decode code 584 = .ok (.iadd, 1) := by decide +kernel
theorem d_Law_585 : decode code 585 = .ok (.iaload, 1) := by decide +kernel
theorem d_Law_586 : decode code 586 = .ok (.invokevirtual 61, 3) := by decide +kernel
theorem d_Law_589 : decode code 589 = .ok (.aload_n 2, 1) := by decide +kernel
theorem d_Law_590 : decode code 590 = .ok (.aload_n 0, 1) := by decide +kernel
theorem d_Law_591 : decode code 591 = .ok (.iload_n 3, 1) := by decide +kernel
theorem d_Law_592 : decode code 592 = .ok (.iconst 1, 1) := by decide +kernel
theorem d_Law_593 : decode code 593 = .ok (.iadd, 1) := by decide +kernel
theorem d_Law_594 : decode code 594 = .ok (.iaload, 1) := by decide +kernel
theorem d_Law_595 : decode code 595 = .ok (.aload_n 0, 1) := by decide +kernel
theorem d_Law_596 : decode code 596 = .ok (.iload_n 3, 1) := by decide +kernel
theorem d_Law_597 : decode code 597 = .ok (.iconst 2, 1) := by decide +kernel
theorem d_Law_598 : decode code 598 = .ok (.iadd, 1) := by decide +kernel
theorem d_Law_599 : decode code 599 = .ok (.iaload, 1) := by decide +kernel
theorem d_Law_600 : decode code 600 = .ok (.invokevirtual 64, 3) := by decide +kernel
theorem d_Law_603 : decode code 603 = .ok (.if_icmp .eq 363, 3) := by decide +kernel
theorem d_Law_606 : decode code 606 = .ok (.iconst 0, 1) := by decide +kernel
theorem d_Law_607 : decode code 607 = .ok (.ireturn, 1) := by decide +kernel
theorem d_Law_608 : decode code 608 = .ok (.aload_n 1, 1) := by decide +kernel
theorem d_Law_609 : decode code 609 = .ok (.aload_n 0, 1) := by decide +kernel
theorem d_Law_610 : decode code 610 = .ok (.iload_n 3, 1) := by decide +kernel
theorem d_Law_611 : decode code 611 = .ok (.iconst 1, 1) := by decide +kernel
theorem d_Law_612 : decode code 612 = .ok (.iadd, 1) := by decide +kernel
theorem d_Law_613 : decode code 613 = .ok (.iaload, 1) := by decide +kernel
theorem d_Law_614 : decode code 614 = .ok (.invokevirtual 65, 3) := by decide +kernel
theorem d_Law_617 : decode code 617 = .ok (.aload_n 2, 1) := by decide +kernel
theorem d_Law_618 : decode code 618 = .ok (.aload_n 0, 1) := by decide +kernel
theorem d_Law_619 : decode code 619 = .ok (.iload_n 3, 1) := by decide +kernel
theorem d_Law_620 : decode code 620 = .ok (.iconst 1, 1) := by decide +kernel
theorem d_Law_621 : decode code 621 = .ok (.iadd, 1) := by decide +kernel
theorem d_Law_622 : decode code 622 = .ok (.iaload, 1) := by decide +kernel
theorem d_Law_623 : decode code 623 = .ok (.invokevirtual 68, 3) := by decide +kernel
theorem d_Law_626 : decode code 626 = .ok (.if_icmp .eq 340, 3) := by decide +kernel
theorem d_Law_629 : decode code 629 = .ok (.iconst 0, 1) := by decide +kernel
theorem d_Law_630 : decode code 630 = .ok (.ireturn, 1) := by decide +kernel
theorem d_Law_631 : decode code 631 = .ok (.aload_n 1, 1) := by decide +kernel
theorem d_Law_632 : decode code 632 = .ok (.aload_n 0, 1) := by decide +kernel
theorem d_Law_633 : decode code 633 = .ok (.iload_n 3, 1) := by decide +kernel
theorem d_Law_634 : decode code 634 = .ok (.iconst 1, 1) := by decide +kernel
theorem d_Law_635 : decode code 635 = .ok (.iadd, 1) := by decide +kernel
theorem d_Law_636 : decode code 636 = .ok (.iaload, 1) := by decide +kernel
theorem d_Law_637 : decode code 637 = .ok (.aload_n 0, 1) := by decide +kernel
theorem d_Law_638 : decode code 638 = .ok (.iload_n 3, 1) := by decide +kernel
theorem d_Law_639 : decode code 639 = .ok (.iconst 2, 1) := by decide +kernel
theorem d_Law_640 : decode code 640 = .ok (.iadd, 1) := by decide +kernel
theorem d_Law_641 : decode code 641 = .ok (.iaload, 1) := by decide +kernel
theorem d_Law_642 : decode code 642 = .ok (.invokevirtual 69, 3) := by decide +kernel
theorem d_Law_645 : decode code 645 = .ok (.aload_n 2, 1) := by decide +kernel
theorem d_Law_646 : decode code 646 = .ok (.aload_n 0, 1) := by decide +kernel
theorem d_Law_647 : decode code 647 = .ok (.iload_n 3, 1) := by decide +kernel
theorem d_Law_648 : decode code 648 = .ok (.iconst 1, 1) := by decide +kernel
theorem d_Law_649 : decode code 649 = .ok (.iadd, 1) := by decide +kernel
theorem d_Law_650 : decode code 650 = .ok (.iaload, 1) := by decide +kernel
theorem d_Law_651 : decode code 651 = .ok (.aload_n 0, 1) := by decide +kernel
theorem d_Law_652 : decode code 652 = .ok (.iload_n 3, 1) := by decide +kernel
theorem d_Law_653 : decode code 653 = .ok (.iconst 2, 1) := by decide +kernel
theorem d_Law_654 : decode code 654 = .ok (.iadd, 1) := by decide +kernel
theorem d_Law_655 : decode code 655 = .ok (.iaload, 1) := by decide +kernel
theorem d_Law_656 : decode code 656 = .ok (.invokevirtual 72, 3) := by decide +kernel
theorem d_Law_659 : decode code 659 = .ok (.if_icmp .eq 307, 3) := by decide +kernel
theorem d_Law_662 : decode code 662 = .ok (.iconst 0, 1) := by decide +kernel
theorem d_Law_663 : decode code 663 = .ok (.ireturn, 1) := by decide +kernel
theorem d_Law_664 : decode code 664 = .ok (.aload_n 1, 1) := by decide +kernel
theorem d_Law_665 : decode code 665 = .ok (.aload_n 0, 1) := by decide +kernel
theorem d_Law_666 : decode code 666 = .ok (.iload_n 3, 1) := by decide +kernel
theorem d_Law_667 : decode code 667 = .ok (.iconst 1, 1) := by decide +kernel
theorem d_Law_668 : decode code 668 = .ok (.iadd, 1) := by decide +kernel
theorem d_Law_669 : decode code 669 = .ok (.iaload, 1) := by decide +kernel
theorem d_Law_670 : decode code 670 = .ok (.aload_n 0, 1) := by decide +kernel
theorem d_Law_671 : decode code 671 = .ok (.iload_n 3, 1) := by decide +kernel
theorem d_Law_672 : decode code 672 = .ok (.iconst 2, 1) := by decide +kernel
theorem d_Law_673 : decode code 673 = .ok (.iadd, 1) := by decide +kernel
theorem d_Law_674 : decode code 674 = .ok (.iaload, 1) := by decide +kernel
theorem d_Law_675 : decode code 675 = .ok (.aload_n 0, 1) := by decide +kernel
theorem d_Law_676 : decode code 676 = .ok (.iload_n 3, 1) := by decide +kernel
theorem d_Law_677 : decode code 677 = .ok (.iconst 3, 1) := by decide +kernel
theorem d_Law_678 : decode code 678 = .ok (.iadd, 1) := by decide +kernel
theorem d_Law_679 : decode code 679 = .ok (.iaload, 1) := by decide +kernel
theorem d_Law_680 : decode code 680 = .ok (.aload_n 0, 1) := by decide +kernel
theorem d_Law_681 : decode code 681 = .ok (.iload_n 3, 1) := by decide +kernel
theorem d_Law_682 : decode code 682 = .ok (.iconst 4, 1) := by decide +kernel
theorem d_Law_683 : decode code 683 = .ok (.iadd, 1) := by decide +kernel
theorem d_Law_684 : decode code 684 = .ok (.iaload, 1) := by decide +kernel
theorem d_Law_685 : decode code 685 = .ok (.invokevirtual 73, 3) := by decide +kernel
theorem d_Law_688 : decode code 688 = .ok (.aload_n 2, 1) := by decide +kernel
theorem d_Law_689 : decode code 689 = .ok (.aload_n 0, 1) := by decide +kernel
theorem d_Law_690 : decode code 690 = .ok (.iload_n 3, 1) := by decide +kernel
theorem d_Law_691 : decode code 691 = .ok (.iconst 1, 1) := by decide +kernel
theorem d_Law_692 : decode code 692 = .ok (.iadd, 1) := by decide +kernel
theorem d_Law_693 : decode code 693 = .ok (.iaload, 1) := by decide +kernel
theorem d_Law_694 : decode code 694 = .ok (.aload_n 0, 1) := by decide +kernel
theorem d_Law_695 : decode code 695 = .ok (.iload_n 3, 1) := by decide +kernel
theorem d_Law_696 : decode code 696 = .ok (.iconst 2, 1) := by decide +kernel
theorem d_Law_697 : decode code 697 = .ok (.iadd, 1) := by decide +kernel
theorem d_Law_698 : decode code 698 = .ok (.iaload, 1) := by decide +kernel
theorem d_Law_699 : decode code 699 = .ok (.aload_n 0, 1) := by decide +kernel
theorem d_Law_700 : decode code 700 = .ok (.iload_n 3, 1) := by decide +kernel
theorem d_Law_701 : decode code 701 = .ok (.iconst 3, 1) := by decide +kernel
theorem d_Law_702 : decode code 702 = .ok (.iadd, 1) := by decide +kernel
theorem d_Law_703 : decode code 703 = .ok (.iaload, 1) := by decide +kernel
theorem d_Law_704 : decode code 704 = .ok (.aload_n 0, 1) := by decide +kernel
theorem d_Law_705 : decode code 705 = .ok (.iload_n 3, 1) := by decide +kernel
theorem d_Law_706 : decode code 706 = .ok (.iconst 4, 1) := by decide +kernel
theorem d_Law_707 : decode code 707 = .ok (.iadd, 1) := by decide +kernel
theorem d_Law_708 : decode code 708 = .ok (.iaload, 1) := by decide +kernel
theorem d_Law_709 : decode code 709 = .ok (.invokevirtual 77, 3) := by decide +kernel
theorem d_Law_712 : decode code 712 = .ok (.lcmp, 1) := by decide +kernel
theorem d_Law_713 : decode code 713 = .ok (.ifCond .eq 253, 3) := by decide +kernel
theorem d_Law_716 : decode code 716 = .ok (.iconst 0, 1) := by decide +kernel
theorem d_Law_717 : decode code 717 = .ok (.ireturn, 1) := by decide +kernel
theorem d_Law_718 : decode code 718 = .ok (.aload_n 1, 1) := by decide +kernel
theorem d_Law_719 : decode code 719 = .ok (.aload_n 0, 1) := by decide +kernel
theorem d_Law_720 : decode code 720 = .ok (.iload_n 3, 1) := by decide +kernel
theorem d_Law_721 : decode code 721 = .ok (.iconst 1, 1) := by decide +kernel
theorem d_Law_722 : decode code 722 = .ok (.iadd, 1) := by decide +kernel
theorem d_Law_723 : decode code 723 = .ok (.iaload, 1) := by decide +kernel
theorem d_Law_724 : decode code 724 = .ok (.aload_n 0, 1) := by decide +kernel
theorem d_Law_725 : decode code 725 = .ok (.iload_n 3, 1) := by decide +kernel
theorem d_Law_726 : decode code 726 = .ok (.iconst 2, 1) := by decide +kernel
theorem d_Law_727 : decode code 727 = .ok (.iadd, 1) := by decide +kernel
theorem d_Law_728 : decode code 728 = .ok (.iaload, 1) := by decide +kernel
theorem d_Law_729 : decode code 729 = .ok (.invokevirtual 78, 3) := by decide +kernel
theorem d_Law_732 : decode code 732 = .ok (.aload_n 2, 1) := by decide +kernel
theorem d_Law_733 : decode code 733 = .ok (.aload_n 0, 1) := by decide +kernel
theorem d_Law_734 : decode code 734 = .ok (.iload_n 3, 1) := by decide +kernel
theorem d_Law_735 : decode code 735 = .ok (.iconst 1, 1) := by decide +kernel
theorem d_Law_736 : decode code 736 = .ok (.iadd, 1) := by decide +kernel
theorem d_Law_737 : decode code 737 = .ok (.iaload, 1) := by decide +kernel
theorem d_Law_738 : decode code 738 = .ok (.aload_n 0, 1) := by decide +kernel
theorem d_Law_739 : decode code 739 = .ok (.iload_n 3, 1) := by decide +kernel
theorem d_Law_740 : decode code 740 = .ok (.iconst 2, 1) := by decide +kernel
theorem d_Law_741 : decode code 741 = .ok (.iadd, 1) := by decide +kernel
theorem d_Law_742 : decode code 742 = .ok (.iaload, 1) := by decide +kernel
theorem d_Law_743 : decode code 743 = .ok (.invokevirtual 81, 3) := by decide +kernel
theorem d_Law_746 : decode code 746 = .ok (.if_icmp .eq 220, 3) := by decide +kernel
theorem d_Law_749 : decode code 749 = .ok (.iconst 0, 1) := by decide +kernel
theorem d_Law_750 : decode code 750 = .ok (.ireturn, 1) := by decide +kernel
theorem d_Law_751 : decode code 751 = .ok (.aload_n 1, 1) := by decide +kernel
theorem d_Law_752 : decode code 752 = .ok (.aload_n 0, 1) := by decide +kernel
theorem d_Law_753 : decode code 753 = .ok (.iload_n 3, 1) := by decide +kernel
theorem d_Law_754 : decode code 754 = .ok (.iconst 1, 1) := by decide +kernel
theorem d_Law_755 : decode code 755 = .ok (.iadd, 1) := by decide +kernel
theorem d_Law_756 : decode code 756 = .ok (.iaload, 1) := by decide +kernel
theorem d_Law_757 : decode code 757 = .ok (.invokevirtual 82, 3) := by decide +kernel
theorem d_Law_760 : decode code 760 = .ok (.aload_n 2, 1) := by decide +kernel
theorem d_Law_761 : decode code 761 = .ok (.aload_n 0, 1) := by decide +kernel
theorem d_Law_762 : decode code 762 = .ok (.iload_n 3, 1) := by decide +kernel
theorem d_Law_763 : decode code 763 = .ok (.iconst 1, 1) := by decide +kernel
theorem d_Law_764 : decode code 764 = .ok (.iadd, 1) := by decide +kernel
theorem d_Law_765 : decode code 765 = .ok (.iaload, 1) := by decide +kernel
theorem d_Law_766 : decode code 766 = .ok (.invokevirtual 85, 3) := by decide +kernel
theorem d_Law_769 : decode code 769 = .ok (.if_icmp .eq 197, 3) := by decide +kernel
theorem d_Law_772 : decode code 772 = .ok (.iconst 0, 1) := by decide +kernel
theorem d_Law_773 : decode code 773 = .ok (.ireturn, 1) := by decide +kernel
theorem d_Law_774 : decode code 774 = .ok (.aload_n 1, 1) := by decide +kernel
theorem d_Law_775 : decode code 775 = .ok (.invokevirtual 86, 3) := by decide +kernel
theorem d_Law_778 : decode code 778 = .ok (.aload_n 2, 1) := by decide +kernel
theorem d_Law_779 : decode code 779 = .ok (.invokevirtual 90, 3) := by decide +kernel
theorem d_Law_782 : decode code 782 = .ok (.if_icmp .eq 184, 3) := by decide +kernel
theorem d_Law_785 : decode code 785 = .ok (.iconst 0, 1) := by decide +kernel
theorem d_Law_786 : decode code 786 = .ok (.ireturn, 1) := by decide +kernel
theorem d_Law_787 : decode code 787 = .ok (.aload_n 1, 1) := by decide +kernel
theorem d_Law_788 : decode code 788 = .ok (.aload_n 0, 1) := by decide +kernel
theorem d_Law_789 : decode code 789 = .ok (.iload_n 3, 1) := by decide +kernel
theorem d_Law_790 : decode code 790 = .ok (.iconst 1, 1) := by decide +kernel
theorem d_Law_791 : decode code 791 = .ok (.iadd, 1) := by decide +kernel
theorem d_Law_792 : decode code 792 = .ok (.iaload, 1) := by decide +kernel
theorem d_Law_793 : decode code 793 = .ok (.aload_n 0, 1) := by decide +kernel
theorem d_Law_794 : decode code 794 = .ok (.iload_n 3, 1) := by decide +kernel
theorem d_Law_795 : decode code 795 = .ok (.iconst 2, 1) := by decide +kernel
theorem d_Law_796 : decode code 796 = .ok (.iadd, 1) := by decide +kernel
theorem d_Law_797 : decode code 797 = .ok (.iaload, 1) := by decide +kernel
theorem d_Law_798 : decode code 798 = .ok (.invokevirtual 91, 3) := by decide +kernel
theorem d_Law_801 : decode code 801 = .ok (.aload_n 2, 1) := by decide +kernel
theorem d_Law_802 : decode code 802 = .ok (.aload_n 0, 1) := by decide +kernel
theorem d_Law_803 : decode code 803 = .ok (.iload_n 3, 1) := by decide +kernel
theorem d_Law_804 : decode code 804 = .ok (.iconst 1, 1) := by decide +kernel
theorem d_Law_805 : decode code 805 = .ok (.iadd, 1) := by decide +kernel
theorem d_Law_806 : decode code 806 = .ok (.iaload, 1) := by decide +kernel
theorem d_Law_807 : decode code 807 = .ok (.aload_n 0, 1) := by decide +kernel
theorem d_Law_808 : decode code 808 = .ok (.iload_n 3, 1) := by decide +kernel
theorem d_Law_809 : decode code 809 = .ok (.iconst 2, 1) := by decide +kernel
theorem d_Law_810 : decode code 810 = .ok (.iadd, 1) := by decide +kernel
theorem d_Law_811 : decode code 811 = .ok (.iaload, 1) := by decide +kernel
theorem d_Law_812 : decode code 812 = .ok (.invokevirtual 95, 3) := by decide +kernel
theorem d_Law_815 : decode code 815 = .ok (.lcmp, 1) := by decide +kernel
theorem d_Law_816 : decode code 816 = .ok (.ifCond .eq 150, 3) := by decide +kernel
theorem d_Law_819 : decode code 819 = .ok (.iconst 0, 1) := by decide +kernel
theorem d_Law_820 : decode code 820 = .ok (.ireturn, 1) := by decide +kernel
theorem d_Law_821 : decode code 821 = .ok (.aload_n 1, 1) := by decide +kernel
theorem d_Law_822 : decode code 822 = .ok (.aload_n 0, 1) := by decide +kernel
theorem d_Law_823 : decode code 823 = .ok (.iload_n 3, 1) := by decide +kernel
theorem d_Law_824 : decode code 824 = .ok (.iconst 1, 1) := by decide +kernel
theorem d_Law_825 : decode code 825 = .ok (.iadd, 1) := by decide +kernel
theorem d_Law_826 : decode code 826 = .ok (.iaload, 1) := by decide +kernel
theorem d_Law_827 : decode code 827 = .ok (.invokevirtual 96, 3) := by decide +kernel
theorem d_Law_830 : decode code 830 = .ok (.aload_n 2, 1) := by decide +kernel
theorem d_Law_831 : decode code 831 = .ok (.aload_n 0, 1) := by decide +kernel
theorem d_Law_832 : decode code 832 = .ok (.iload_n 3, 1) := by decide +kernel
theorem d_Law_833 : decode code 833 = .ok (.iconst 1, 1) := by decide +kernel
theorem d_Law_834 : decode code 834 = .ok (.iadd, 1) := by decide +kernel
theorem d_Law_835 : decode code 835 = .ok (.iaload, 1) := by decide +kernel
theorem d_Law_836 : decode code 836 = .ok (.invokevirtual 99, 3) := by decide +kernel
theorem d_Law_839 : decode code 839 = .ok (.if_icmp .eq 127, 3) := by decide +kernel
theorem d_Law_842 : decode code 842 = .ok (.iconst 0, 1) := by decide +kernel
theorem d_Law_843 : decode code 843 = .ok (.ireturn, 1) := by decide +kernel
theorem d_Law_844 : decode code 844 = .ok (.aload_n 1, 1) := by decide +kernel
theorem d_Law_845 : decode code 845 = .ok (.aload_n 0, 1) := by decide +kernel
theorem d_Law_846 : decode code 846 = .ok (.iload_n 3, 1) := by decide +kernel
theorem d_Law_847 : decode code 847 = .ok (.iconst 1, 1) := by decide +kernel
theorem d_Law_848 : decode code 848 = .ok (.iadd, 1) := by decide +kernel
theorem d_Law_849 : decode code 849 = .ok (.iaload, 1) := by decide +kernel
theorem d_Law_850 : decode code 850 = .ok (.invokevirtual 100, 3) := by decide +kernel
theorem d_Law_853 : decode code 853 = .ok (.aload_n 2, 1) := by decide +kernel
theorem d_Law_854 : decode code 854 = .ok (.aload_n 0, 1) := by decide +kernel
theorem d_Law_855 : decode code 855 = .ok (.iload_n 3, 1) := by decide +kernel
theorem d_Law_856 : decode code 856 = .ok (.iconst 1, 1) := by decide +kernel
theorem d_Law_857 : decode code 857 = .ok (.iadd, 1) := by decide +kernel
theorem d_Law_858 : decode code 858 = .ok (.iaload, 1) := by decide +kernel
theorem d_Law_859 : decode code 859 = .ok (.invokevirtual 103, 3) := by decide +kernel
theorem d_Law_862 : decode code 862 = .ok (.if_icmp .eq 104, 3) := by decide +kernel
theorem d_Law_865 : decode code 865 = .ok (.iconst 0, 1) := by decide +kernel
theorem d_Law_866 : decode code 866 = .ok (.ireturn, 1) := by decide +kernel
theorem d_Law_867 : decode code 867 = .ok (.aload_n 1, 1) := by decide +kernel
theorem d_Law_868 : decode code 868 = .ok (.aload_n 0, 1) := by decide +kernel
theorem d_Law_869 : decode code 869 = .ok (.iload_n 3, 1) := by decide +kernel
theorem d_Law_870 : decode code 870 = .ok (.iconst 1, 1) := by decide +kernel
theorem d_Law_871 : decode code 871 = .ok (.iadd, 1) := by decide +kernel
theorem d_Law_872 : decode code 872 = .ok (.iaload, 1) := by decide +kernel
theorem d_Law_873 : decode code 873 = .ok (.invokevirtual 104, 3) := by decide +kernel
theorem d_Law_876 : decode code 876 = .ok (.aload_n 2, 1) := by decide +kernel
theorem d_Law_877 : decode code 877 = .ok (.aload_n 0, 1) := by decide +kernel
theorem d_Law_878 : decode code 878 = .ok (.iload_n 3, 1) := by decide +kernel
theorem d_Law_879 : decode code 879 = .ok (.iconst 1, 1) := by decide +kernel
theorem d_Law_880 : decode code 880 = .ok (.iadd, 1) := by decide +kernel
theorem d_Law_881 : decode code 881 = .ok (.iaload, 1) := by decide +kernel
theorem d_Law_882 : decode code 882 = .ok (.invokevirtual 108, 3) := by decide +kernel
theorem d_Law_885 : decode code 885 = .ok (.lcmp, 1) := by decide +kernel
theorem d_Law_886 : decode code 886 = .ok (.ifCond .eq 80, 3) := by decide +kernel
theorem d_Law_889 : decode code 889 = .ok (.iconst 0, 1) := by decide +kernel
theorem d_Law_890 : decode code 890 = .ok (.ireturn, 1) := by decide +kernel
theorem d_Law_891 : decode code 891 = .ok (.aload_n 1, 1) := by decide +kernel
theorem d_Law_892 : decode code 892 = .ok (.aload_n 0, 1) := by decide +kernel
theorem d_Law_893 : decode code 893 = .ok (.iload_n 3, 1) := by decide +kernel
theorem d_Law_894 : decode code 894 = .ok (.iconst 1, 1) := by decide +kernel
theorem d_Law_895 : decode code 895 = .ok (.iadd, 1) := by decide +kernel
theorem d_Law_896 : decode code 896 = .ok (.iaload, 1) := by decide +kernel
theorem d_Law_897 : decode code 897 = .ok (.invokevirtual 109, 3) := by decide +kernel
theorem d_Law_900 : decode code 900 = .ok (.aload_n 2, 1) := by decide +kernel
theorem d_Law_901 : decode code 901 = .ok (.aload_n 0, 1) := by decide +kernel
theorem d_Law_902 : decode code 902 = .ok (.iload_n 3, 1) := by decide +kernel
theorem d_Law_903 : decode code 903 = .ok (.iconst 1, 1) := by decide +kernel
theorem d_Law_904 : decode code 904 = .ok (.iadd, 1) := by decide +kernel
theorem d_Law_905 : decode code 905 = .ok (.iaload, 1) := by decide +kernel
theorem d_Law_906 : decode code 906 = .ok (.invokevirtual 112, 3) := by decide +kernel
theorem d_Law_909 : decode code 909 = .ok (.lcmp, 1) := by decide +kernel
theorem d_Law_910 : decode code 910 = .ok (.ifCond .eq 56, 3) := by decide +kernel
theorem d_Law_913 : decode code 913 = .ok (.iconst 0, 1) := by decide +kernel
theorem d_Law_914 : decode code 914 = .ok (.ireturn, 1) := by decide +kernel
theorem d_Law_915 : decode code 915 = .ok (.aload_n 1, 1) := by decide +kernel
theorem d_Law_916 : decode code 916 = .ok (.invokevirtual 113, 3) := by decide +kernel
theorem d_Law_919 : decode code 919 = .ok (.aload_n 2, 1) := by decide +kernel
theorem d_Law_920 : decode code 920 = .ok (.invokevirtual 117, 3) := by decide +kernel
theorem d_Law_923 : decode code 923 = .ok (.lcmp, 1) := by decide +kernel
theorem d_Law_924 : decode code 924 = .ok (.ifCond .eq 42, 3) := by decide +kernel
theorem d_Law_927 : decode code 927 = .ok (.iconst 0, 1) := by decide +kernel
theorem d_Law_928 : decode code 928 = .ok (.ireturn, 1) := by decide +kernel
theorem d_Law_929 : decode code 929 = .ok (.aload_n 1, 1) := by decide +kernel
theorem d_Law_930 : decode code 930 = .ok (.aload_n 0, 1) := by decide +kernel
theorem d_Law_931 : decode code 931 = .ok (.iload_n 3, 1) := by decide +kernel
theorem d_Law_932 : decode code 932 = .ok (.iconst 1, 1) := by decide +kernel
theorem d_Law_933 : decode code 933 = .ok (.iadd, 1) := by decide +kernel
theorem d_Law_934 : decode code 934 = .ok (.iaload, 1) := by decide +kernel
theorem d_Law_935 : decode code 935 = .ok (.invokevirtual 118, 3) := by decide +kernel
theorem d_Law_938 : decode code 938 = .ok (.aload_n 2, 1) := by decide +kernel
theorem d_Law_939 : decode code 939 = .ok (.aload_n 0, 1) := by decide +kernel
theorem d_Law_940 : decode code 940 = .ok (.iload_n 3, 1) := by decide +kernel
theorem d_Law_941 : decode code 941 = .ok (.iconst 1, 1) := by decide +kernel
theorem d_Law_942 : decode code 942 = .ok (.iadd, 1) := by decide +kernel
theorem d_Law_943 : decode code 943 = .ok (.iaload, 1) := by decide +kernel
theorem d_Law_944 : decode code 944 = .ok (.invokevirtual 121, 3) := by decide +kernel
theorem d_Law_947 : decode code 947 = .ok (.if_icmp .eq 19, 3) := by decide +kernel
theorem d_Law_950 : decode code 950 = .ok (.iconst 0, 1) := by decide +kernel
theorem d_Law_951 : decode code 951 = .ok (.ireturn, 1) := by decide +kernel
theorem d_Law_952 : decode code 952 = .ok (.aload_n 1, 1) := by decide +kernel
theorem d_Law_953 : decode code 953 = .ok (.invokevirtual 122, 3) := by decide +kernel
theorem d_Law_956 : decode code 956 = .ok (.aload_n 2, 1) := by decide +kernel
theorem d_Law_957 : decode code 957 = .ok (.invokevirtual 125, 3) := by decide +kernel
theorem d_Law_960 : decode code 960 = .ok (.lcmp, 1) := by decide +kernel
theorem d_Law_961 : decode code 961 = .ok (.ifCond .eq 5, 3) := by decide +kernel
theorem d_Law_964 : decode code 964 = .ok (.iconst 0, 1) := by decide +kernel
theorem d_Law_965 : decode code 965 = .ok (.ireturn, 1) := by decide +kernel
theorem d_Law_966 : decode code 966 = .ok (.iinc 3 6, 3) := by decide +kernel
theorem d_Law_969 : decode code 969 = .ok (.goto (-951), 3) := by decide +kernel
theorem d_Law_972 : decode code 972 = .ok (.iconst 1, 1) := by decide +kernel
theorem d_Law_973 : decode code 973 = .ok (.ireturn, 1) := by decide +kernel
theorem wd_185 : (Cond.methodLink "NetFormsLaw" (13 : Nat) y_Nf_net) ∈ gw := gw_t 185 (by decide +kernel) (by decide +kernel)
theorem wd_207 : (Cond.methodLink "NetFormsLaw" (18 : Nat) y_Nf_edge) ∈ gw := gw_t 207 (by decide +kernel) (by decide +kernel)
theorem wd_233 : (Cond.methodLink "NetFormsLaw" (23 : Nat) y_Nf_face) ∈ gw := gw_t 233 (by decide +kernel) (by decide +kernel)
theorem wd_245 : (Cond.methodLink "NetFormsLaw" (28 : Nat) y_Nf_corner) ∈ gw := gw_t 245 (by decide +kernel) (by decide +kernel)
theorem wd_253 : (Cond.methodLink "NetFormsLaw" (32 : Nat) y_Nf_form) ∈ gw := gw_t 253 (by decide +kernel) (by decide +kernel)
theorem wd_261 : (Cond.methodLink "NetFormsLaw" (36 : Nat) y_Nf_set) ∈ gw := gw_t 261 (by decide +kernel) (by decide +kernel)
theorem wd_270 : (Cond.methodLink "NetFormsLaw" (40 : Nat) y_Nf_get) ∈ gw := gw_t 270 (by decide +kernel) (by decide +kernel)
theorem wd_274 : (Cond.methodLink "NetFormsLaw" (44 : Nat) y_Nf_slope) ∈ gw := gw_t 274 (by decide +kernel) (by decide +kernel)
theorem wd_291 : (Cond.methodLink "NetFormsLaw" (48 : Nat) y_Nf_rim) ∈ gw := gw_t 291 (by decide +kernel) (by decide +kernel)
theorem wd_299 : (Cond.methodLink "NetFormsLaw" (52 : Nat) y_Nf_cup) ∈ gw := gw_t 299 (by decide +kernel) (by decide +kernel)
theorem wd_312 : (Cond.methodLink "NetFormsLaw" (56 : Nat) y_Nf_mix) ∈ gw := gw_t 312 (by decide +kernel) (by decide +kernel)
theorem wd_316 : (Cond.methodLink "NetFormsLaw" (61 : Nat) y_Nf_about) ∈ gw := gw_t 316 (by decide +kernel) (by decide +kernel)
theorem wd_337 : (Cond.methodLink "NetFormsLaw" (65 : Nat) y_Nf_holes) ∈ gw := gw_t 337 (by decide +kernel) (by decide +kernel)
theorem wd_374 : (Cond.methodLink "NetFormsLaw" (69 : Nat) y_Nf_potential) ∈ gw := gw_t 374 (by decide +kernel) (by decide +kernel)
theorem wd_391 : (Cond.methodLink "NetFormsLaw" (73 : Nat) y_Nf_split) ∈ gw := gw_t 391 (by decide +kernel) (by decide +kernel)
theorem wd_427 : (Cond.methodLink "NetFormsLaw" (78 : Nat) y_Nf_wall) ∈ gw := gw_t 427 (by decide +kernel) (by decide +kernel)
theorem wd_431 : (Cond.methodLink "NetFormsLaw" (82 : Nat) y_Nf_open) ∈ gw := gw_t 431 (by decide +kernel) (by decide +kernel)
theorem wd_436 : (Cond.methodLink "NetFormsLaw" (86 : Nat) y_Nf_field) ∈ gw := gw_t 436 (by decide +kernel) (by decide +kernel)
theorem wd_448 : (Cond.methodLink "NetFormsLaw" (91 : Nat) y_Nf_fieldAt) ∈ gw := gw_t 448 (by decide +kernel) (by decide +kernel)
theorem wd_460 : (Cond.methodLink "NetFormsLaw" (96 : Nat) y_Nf_wave) ∈ gw := gw_t 460 (by decide +kernel) (by decide +kernel)
theorem wd_472 : (Cond.methodLink "NetFormsLaw" (100 : Nat) y_Nf_raise) ∈ gw := gw_t 472 (by decide +kernel) (by decide +kernel)
theorem wd_476 : (Cond.methodLink "NetFormsLaw" (104 : Nat) y_Nf_height) ∈ gw := gw_t 476 (by decide +kernel) (by decide +kernel)
theorem wd_480 : (Cond.methodLink "NetFormsLaw" (109 : Nat) y_Nf_flow) ∈ gw := gw_t 480 (by decide +kernel) (by decide +kernel)
theorem wd_484 : (Cond.methodLink "NetFormsLaw" (113 : Nat) y_Nf_sum) ∈ gw := gw_t 484 (by decide +kernel) (by decide +kernel)
theorem wd_488 : (Cond.methodLink "NetFormsLaw" (118 : Nat) y_Nf_count) ∈ gw := gw_t 488 (by decide +kernel) (by decide +kernel)
theorem wd_496 : (Cond.methodLink "NetFormsLaw" (122 : Nat) y_Nf_digest) ∈ gw := gw_t 496 (by decide +kernel) (by decide +kernel)
theorem wd_600 : (Cond.methodLink "NetFormsLaw" (17 : Nat) y_Mo_net) ∈ gw := gw_t 600 (by decide +kernel) (by decide +kernel)
theorem wd_612 : (Cond.methodLink "NetFormsLaw" (22 : Nat) y_Mo_edge) ∈ gw := gw_t 612 (by decide +kernel) (by decide +kernel)
theorem wd_624 : (Cond.methodLink "NetFormsLaw" (27 : Nat) y_Mo_face) ∈ gw := gw_t 624 (by decide +kernel) (by decide +kernel)
theorem wd_628 : (Cond.methodLink "NetFormsLaw" (31 : Nat) y_Mo_corner) ∈ gw := gw_t 628 (by decide +kernel) (by decide +kernel)
theorem wd_632 : (Cond.methodLink "NetFormsLaw" (35 : Nat) y_Mo_form) ∈ gw := gw_t 632 (by decide +kernel) (by decide +kernel)
theorem wd_641 : (Cond.methodLink "NetFormsLaw" (39 : Nat) y_Mo_set) ∈ gw := gw_t 641 (by decide +kernel) (by decide +kernel)
theorem wd_656 : (Cond.methodLink "NetFormsLaw" (43 : Nat) y_Mo_get) ∈ gw := gw_t 656 (by decide +kernel) (by decide +kernel)
theorem wd_660 : (Cond.methodLink "NetFormsLaw" (47 : Nat) y_Mo_slope) ∈ gw := gw_t 660 (by decide +kernel) (by decide +kernel)
theorem wd_680 : (Cond.methodLink "NetFormsLaw" (51 : Nat) y_Mo_rim) ∈ gw := gw_t 680 (by decide +kernel) (by decide +kernel)
theorem wd_688 : (Cond.methodLink "NetFormsLaw" (55 : Nat) y_Mo_cup) ∈ gw := gw_t 688 (by decide +kernel) (by decide +kernel)
theorem wd_696 : (Cond.methodLink "NetFormsLaw" (60 : Nat) y_Mo_mix) ∈ gw := gw_t 696 (by decide +kernel) (by decide +kernel)
theorem wd_702 : (Cond.methodLink "NetFormsLaw" (64 : Nat) y_Mo_about) ∈ gw := gw_t 702 (by decide +kernel) (by decide +kernel)
theorem wd_711 : (Cond.methodLink "NetFormsLaw" (68 : Nat) y_Mo_holes) ∈ gw := gw_t 711 (by decide +kernel) (by decide +kernel)
theorem wd_744 : (Cond.methodLink "NetFormsLaw" (72 : Nat) y_Mo_potential) ∈ gw := gw_t 744 (by decide +kernel) (by decide +kernel)
theorem wd_748 : (Cond.methodLink "NetFormsLaw" (77 : Nat) y_Mo_split) ∈ gw := gw_t 748 (by decide +kernel) (by decide +kernel)
theorem wd_771 : (Cond.methodLink "NetFormsLaw" (81 : Nat) y_Mo_wall) ∈ gw := gw_t 771 (by decide +kernel) (by decide +kernel)
theorem wd_775 : (Cond.methodLink "NetFormsLaw" (85 : Nat) y_Mo_open) ∈ gw := gw_t 775 (by decide +kernel) (by decide +kernel)
theorem wd_780 : (Cond.methodLink "NetFormsLaw" (90 : Nat) y_Mo_field) ∈ gw := gw_t 780 (by decide +kernel) (by decide +kernel)
theorem wd_788 : (Cond.methodLink "NetFormsLaw" (95 : Nat) y_Mo_fieldAt) ∈ gw := gw_t 788 (by decide +kernel) (by decide +kernel)
theorem wd_792 : (Cond.methodLink "NetFormsLaw" (99 : Nat) y_Mo_wave) ∈ gw := gw_t 792 (by decide +kernel) (by decide +kernel)
theorem wd_806 : (Cond.methodLink "NetFormsLaw" (103 : Nat) y_Mo_raise) ∈ gw := gw_t 806 (by decide +kernel) (by decide +kernel)
theorem wd_810 : (Cond.methodLink "NetFormsLaw" (108 : Nat) y_Mo_height) ∈ gw := gw_t 810 (by decide +kernel) (by decide +kernel)
theorem wd_814 : (Cond.methodLink "NetFormsLaw" (112 : Nat) y_Mo_flow) ∈ gw := gw_t 814 (by decide +kernel) (by decide +kernel)
theorem wd_818 : (Cond.methodLink "NetFormsLaw" (117 : Nat) y_Mo_sum) ∈ gw := gw_t 818 (by decide +kernel) (by decide +kernel)
theorem wd_822 : (Cond.methodLink "NetFormsLaw" (121 : Nat) y_Mo_count) ∈ gw := gw_t 822 (by decide +kernel) (by decide +kernel)
theorem wd_826 : (Cond.methodLink "NetFormsLaw" (125 : Nat) y_Mo_digest) ∈ gw := gw_t 826 (by decide +kernel) (by decide +kernel)
def q_Law_L18 (L : Nat) (xs : Nat → Int32) : Nat → Int32 → Mem → Prop
  | 0, _, _ => False
  | n + 1, x3, M => (((nI L) - (6 : Int32)) < x3 → True) ∧ (¬ ((nI L) - (6 : Int32)) < x3 → vp_in x3 L ∧ ((((xs x3.toNatClampNeg) &&& (31 : Int32)) = nI 0 → vp_in (x3 + (1 : Int32)) L ∧ (q_Nf_net (xs (x3 + (1 : Int32)).toNatClampNeg) M (fun r2 M1 => vp_in (x3 + (1 : Int32)) L ∧ (q_Mo_net (xs (x3 + (1 : Int32)).toNatClampNeg) M1 (fun r4 M3 => (r2 = r4 → q_Law_L18 L xs n (x3 + 6) M3) ∧ (¬ r2 = r4 → False)))))) ∧ (((xs x3.toNatClampNeg) &&& (31 : Int32)) = nI 1 → vp_in (x3 + (1 : Int32)) L ∧ (vp_in (x3 + (2 : Int32)) L ∧ (q_Nf_edge (xs (x3 + (1 : Int32)).toNatClampNeg) (xs (x3 + (2 : Int32)).toNatClampNeg) M (fun r6 M5 => vp_in (x3 + (1 : Int32)) L ∧ (vp_in (x3 + (2 : Int32)) L ∧ (q_Mo_edge (xs (x3 + (1 : Int32)).toNatClampNeg) (xs (x3 + (2 : Int32)).toNatClampNeg) M5 (fun r8 M7 => (r6 = r8 → q_Law_L18 L xs n (x3 + 6) M7) ∧ (¬ r6 = r8 → False)))))))) ∧ (((xs x3.toNatClampNeg) &&& (31 : Int32)) = nI 2 → vp_in (x3 + (1 : Int32)) L ∧ (vp_in (x3 + (2 : Int32)) L ∧ (vp_in (x3 + (3 : Int32)) L ∧ (q_Nf_face (xs (x3 + (1 : Int32)).toNatClampNeg) (xs (x3 + (2 : Int32)).toNatClampNeg) (xs (x3 + (3 : Int32)).toNatClampNeg) M (fun r10 M9 => vp_in (x3 + (1 : Int32)) L ∧ (vp_in (x3 + (2 : Int32)) L ∧ (vp_in (x3 + (3 : Int32)) L ∧ (q_Mo_face (xs (x3 + (1 : Int32)).toNatClampNeg) (xs (x3 + (2 : Int32)).toNatClampNeg) (xs (x3 + (3 : Int32)).toNatClampNeg) M9 (fun r12 M11 => (r10 = r12 → q_Law_L18 L xs n (x3 + 6) M11) ∧ (¬ r10 = r12 → False)))))))))) ∧ (((xs x3.toNatClampNeg) &&& (31 : Int32)) = nI 3 → vp_in (x3 + (1 : Int32)) L ∧ (vp_in (x3 + (2 : Int32)) L ∧ (vp_in (x3 + (3 : Int32)) L ∧ (q_Nf_corner (xs (x3 + (1 : Int32)).toNatClampNeg) (xs (x3 + (2 : Int32)).toNatClampNeg) (xs (x3 + (3 : Int32)).toNatClampNeg) M (fun r14 M13 => vp_in (x3 + (1 : Int32)) L ∧ (vp_in (x3 + (2 : Int32)) L ∧ (vp_in (x3 + (3 : Int32)) L ∧ (q_Mo_corner (xs (x3 + (1 : Int32)).toNatClampNeg) (xs (x3 + (2 : Int32)).toNatClampNeg) (xs (x3 + (3 : Int32)).toNatClampNeg) M13 (fun r16 M15 => (r14 = r16 → q_Law_L18 L xs n (x3 + 6) M15) ∧ (¬ r14 = r16 → False)))))))))) ∧ (((xs x3.toNatClampNeg) &&& (31 : Int32)) = nI 4 → vp_in (x3 + (1 : Int32)) L ∧ (vp_in (x3 + (2 : Int32)) L ∧ (q_Nf_form (xs (x3 + (1 : Int32)).toNatClampNeg) (xs (x3 + (2 : Int32)).toNatClampNeg) M (fun r18 M17 => vp_in (x3 + (1 : Int32)) L ∧ (vp_in (x3 + (2 : Int32)) L ∧ (q_Mo_form (xs (x3 + (1 : Int32)).toNatClampNeg) (xs (x3 + (2 : Int32)).toNatClampNeg) M17 (fun r20 M19 => (r18 = r20 → q_Law_L18 L xs n (x3 + 6) M19) ∧ (¬ r18 = r20 → False)))))))) ∧ (((xs x3.toNatClampNeg) &&& (31 : Int32)) = nI 5 → vp_in (x3 + (1 : Int32)) L ∧ (vp_in (x3 + (2 : Int32)) L ∧ (vp_in (x3 + (3 : Int32)) L ∧ (q_Nf_set (xs (x3 + (1 : Int32)).toNatClampNeg) (xs (x3 + (2 : Int32)).toNatClampNeg) (xs (x3 + (3 : Int32)).toNatClampNeg) M (fun r22 M21 => vp_in (x3 + (1 : Int32)) L ∧ (vp_in (x3 + (2 : Int32)) L ∧ (vp_in (x3 + (3 : Int32)) L ∧ (q_Mo_set (xs (x3 + (1 : Int32)).toNatClampNeg) (xs (x3 + (2 : Int32)).toNatClampNeg) (xs (x3 + (3 : Int32)).toNatClampNeg) M21 (fun r24 M23 => (r22 = r24 → q_Law_L18 L xs n (x3 + 6) M23) ∧ (¬ r22 = r24 → False)))))))))) ∧ (((xs x3.toNatClampNeg) &&& (31 : Int32)) = nI 6 → vp_in (x3 + (1 : Int32)) L ∧ (vp_in (x3 + (2 : Int32)) L ∧ (q_Nf_get (xs (x3 + (1 : Int32)).toNatClampNeg) (xs (x3 + (2 : Int32)).toNatClampNeg) M (fun r26 M25 => vp_in (x3 + (1 : Int32)) L ∧ (vp_in (x3 + (2 : Int32)) L ∧ (q_Mo_get (xs (x3 + (1 : Int32)).toNatClampNeg) (xs (x3 + (2 : Int32)).toNatClampNeg) M25 (fun r28 M27 => (r26 = r28 → q_Law_L18 L xs n (x3 + 6) M27) ∧ (¬ r26 = r28 → False)))))))) ∧ (((xs x3.toNatClampNeg) &&& (31 : Int32)) = nI 7 → vp_in (x3 + (1 : Int32)) L ∧ (vp_in (x3 + (2 : Int32)) L ∧ (q_Nf_slope (xs (x3 + (1 : Int32)).toNatClampNeg) (xs (x3 + (2 : Int32)).toNatClampNeg) M (fun r30 M29 => vp_in (x3 + (1 : Int32)) L ∧ (vp_in (x3 + (2 : Int32)) L ∧ (q_Mo_slope (xs (x3 + (1 : Int32)).toNatClampNeg) (xs (x3 + (2 : Int32)).toNatClampNeg) M29 (fun r32 M31 => (r30 = r32 → q_Law_L18 L xs n (x3 + 6) M31) ∧ (¬ r30 = r32 → False)))))))) ∧ (((xs x3.toNatClampNeg) &&& (31 : Int32)) = nI 8 → vp_in (x3 + (1 : Int32)) L ∧ (vp_in (x3 + (2 : Int32)) L ∧ (q_Nf_rim (xs (x3 + (1 : Int32)).toNatClampNeg) (xs (x3 + (2 : Int32)).toNatClampNeg) M (fun r34 M33 => vp_in (x3 + (1 : Int32)) L ∧ (vp_in (x3 + (2 : Int32)) L ∧ (q_Mo_rim (xs (x3 + (1 : Int32)).toNatClampNeg) (xs (x3 + (2 : Int32)).toNatClampNeg) M33 (fun r36 M35 => (r34 = r36 → q_Law_L18 L xs n (x3 + 6) M35) ∧ (¬ r34 = r36 → False)))))))) ∧ (((xs x3.toNatClampNeg) &&& (31 : Int32)) = nI 9 → vp_in (x3 + (1 : Int32)) L ∧ (vp_in (x3 + (2 : Int32)) L ∧ (vp_in (x3 + (3 : Int32)) L ∧ (q_Nf_cup (xs (x3 + (1 : Int32)).toNatClampNeg) (xs (x3 + (2 : Int32)).toNatClampNeg) (xs (x3 + (3 : Int32)).toNatClampNeg) M (fun r38 M37 => vp_in (x3 + (1 : Int32)) L ∧ (vp_in (x3 + (2 : Int32)) L ∧ (vp_in (x3 + (3 : Int32)) L ∧ (q_Mo_cup (xs (x3 + (1 : Int32)).toNatClampNeg) (xs (x3 + (2 : Int32)).toNatClampNeg) (xs (x3 + (3 : Int32)).toNatClampNeg) M37 (fun r40 M39 => (r38 = r40 → q_Law_L18 L xs n (x3 + 6) M39) ∧ (¬ r38 = r40 → False)))))))))) ∧ (((xs x3.toNatClampNeg) &&& (31 : Int32)) = nI 10 → vp_in (x3 + (1 : Int32)) L ∧ (vp_in (x3 + (2 : Int32)) L ∧ (vp_in (x3 + (3 : Int32)) L ∧ (vp_in (x3 + (4 : Int32)) L ∧ (vp_in (x3 + (5 : Int32)) L ∧ (q_Nf_mix (xs (x3 + (1 : Int32)).toNatClampNeg) (xs (x3 + (2 : Int32)).toNatClampNeg) (xs (x3 + (3 : Int32)).toNatClampNeg) (xs (x3 + (4 : Int32)).toNatClampNeg) (xs (x3 + (5 : Int32)).toNatClampNeg) M (fun r42 M41 => vp_in (x3 + (1 : Int32)) L ∧ (vp_in (x3 + (2 : Int32)) L ∧ (vp_in (x3 + (3 : Int32)) L ∧ (vp_in (x3 + (4 : Int32)) L ∧ (vp_in (x3 + (5 : Int32)) L ∧ (q_Mo_mix (xs (x3 + (1 : Int32)).toNatClampNeg) (xs (x3 + (2 : Int32)).toNatClampNeg) (xs (x3 + (3 : Int32)).toNatClampNeg) (xs (x3 + (4 : Int32)).toNatClampNeg) (xs (x3 + (5 : Int32)).toNatClampNeg) M41 (fun r44 M43 => (r42 = r44 → q_Law_L18 L xs n (x3 + 6) M43) ∧ (¬ r42 = r44 → False)))))))))))))) ∧ (((xs x3.toNatClampNeg) &&& (31 : Int32)) = nI 11 → vp_in (x3 + (1 : Int32)) L ∧ (vp_in (x3 + (2 : Int32)) L ∧ (q_Nf_about (xs (x3 + (1 : Int32)).toNatClampNeg) (xs (x3 + (2 : Int32)).toNatClampNeg) M (fun r46 M45 => vp_in (x3 + (1 : Int32)) L ∧ (vp_in (x3 + (2 : Int32)) L ∧ (q_Mo_about (xs (x3 + (1 : Int32)).toNatClampNeg) (xs (x3 + (2 : Int32)).toNatClampNeg) M45 (fun r48 M47 => (r46 = r48 → q_Law_L18 L xs n (x3 + 6) M47) ∧ (¬ r46 = r48 → False)))))))) ∧ (((xs x3.toNatClampNeg) &&& (31 : Int32)) = nI 12 → vp_in (x3 + (1 : Int32)) L ∧ (q_Nf_holes (xs (x3 + (1 : Int32)).toNatClampNeg) M (fun r50 M49 => vp_in (x3 + (1 : Int32)) L ∧ (q_Mo_holes (xs (x3 + (1 : Int32)).toNatClampNeg) M49 (fun r52 M51 => (r50 = r52 → q_Law_L18 L xs n (x3 + 6) M51) ∧ (¬ r50 = r52 → False)))))) ∧ (((xs x3.toNatClampNeg) &&& (31 : Int32)) = nI 13 → vp_in (x3 + (1 : Int32)) L ∧ (vp_in (x3 + (2 : Int32)) L ∧ (q_Nf_potential (xs (x3 + (1 : Int32)).toNatClampNeg) (xs (x3 + (2 : Int32)).toNatClampNeg) M (fun r54 M53 => vp_in (x3 + (1 : Int32)) L ∧ (vp_in (x3 + (2 : Int32)) L ∧ (q_Mo_potential (xs (x3 + (1 : Int32)).toNatClampNeg) (xs (x3 + (2 : Int32)).toNatClampNeg) M53 (fun r56 M55 => (r54 = r56 → q_Law_L18 L xs n (x3 + 6) M55) ∧ (¬ r54 = r56 → False)))))))) ∧ (((xs x3.toNatClampNeg) &&& (31 : Int32)) = nI 14 → vp_in (x3 + (1 : Int32)) L ∧ (vp_in (x3 + (2 : Int32)) L ∧ (vp_in (x3 + (3 : Int32)) L ∧ (vp_in (x3 + (4 : Int32)) L ∧ (q_Nf_split (xs (x3 + (1 : Int32)).toNatClampNeg) (xs (x3 + (2 : Int32)).toNatClampNeg) (xs (x3 + (3 : Int32)).toNatClampNeg) (xs (x3 + (4 : Int32)).toNatClampNeg) M (fun r58 M57 => vp_in (x3 + (1 : Int32)) L ∧ (vp_in (x3 + (2 : Int32)) L ∧ (vp_in (x3 + (3 : Int32)) L ∧ (vp_in (x3 + (4 : Int32)) L ∧ (q_Mo_split (xs (x3 + (1 : Int32)).toNatClampNeg) (xs (x3 + (2 : Int32)).toNatClampNeg) (xs (x3 + (3 : Int32)).toNatClampNeg) (xs (x3 + (4 : Int32)).toNatClampNeg) M57 (fun r60 M59 => (r58 = r60 → q_Law_L18 L xs n (x3 + 6) M59) ∧ (¬ r58 = r60 → False)))))))))))) ∧ (((xs x3.toNatClampNeg) &&& (31 : Int32)) = nI 15 → vp_in (x3 + (1 : Int32)) L ∧ (vp_in (x3 + (2 : Int32)) L ∧ (q_Nf_wall (xs (x3 + (1 : Int32)).toNatClampNeg) (xs (x3 + (2 : Int32)).toNatClampNeg) M (fun r62 M61 => vp_in (x3 + (1 : Int32)) L ∧ (vp_in (x3 + (2 : Int32)) L ∧ (q_Mo_wall (xs (x3 + (1 : Int32)).toNatClampNeg) (xs (x3 + (2 : Int32)).toNatClampNeg) M61 (fun r64 M63 => (r62 = r64 → q_Law_L18 L xs n (x3 + 6) M63) ∧ (¬ r62 = r64 → False)))))))) ∧ (((xs x3.toNatClampNeg) &&& (31 : Int32)) = nI 16 → vp_in (x3 + (1 : Int32)) L ∧ (q_Nf_open (xs (x3 + (1 : Int32)).toNatClampNeg) M (fun r66 M65 => vp_in (x3 + (1 : Int32)) L ∧ (q_Mo_open (xs (x3 + (1 : Int32)).toNatClampNeg) M65 (fun r68 M67 => (r66 = r68 → q_Law_L18 L xs n (x3 + 6) M67) ∧ (¬ r66 = r68 → False)))))) ∧ (((xs x3.toNatClampNeg) &&& (31 : Int32)) = nI 17 → q_Nf_field M (fun r70 M69 => q_Mo_field M69 (fun r72 M71 => (r70 = r72 → q_Law_L18 L xs n (x3 + 6) M71) ∧ (¬ r70 = r72 → False)))) ∧ (((xs x3.toNatClampNeg) &&& (31 : Int32)) = nI 18 → vp_in (x3 + (1 : Int32)) L ∧ (vp_in (x3 + (2 : Int32)) L ∧ (q_Nf_fieldAt (xs (x3 + (1 : Int32)).toNatClampNeg) (xs (x3 + (2 : Int32)).toNatClampNeg) M (fun r74 M73 => vp_in (x3 + (1 : Int32)) L ∧ (vp_in (x3 + (2 : Int32)) L ∧ (q_Mo_fieldAt (xs (x3 + (1 : Int32)).toNatClampNeg) (xs (x3 + (2 : Int32)).toNatClampNeg) M73 (fun r76 M75 => (r74 = r76 → q_Law_L18 L xs n (x3 + 6) M75) ∧ (¬ r74 = r76 → False)))))))) ∧ (((xs x3.toNatClampNeg) &&& (31 : Int32)) = nI 19 → vp_in (x3 + (1 : Int32)) L ∧ (q_Nf_wave (xs (x3 + (1 : Int32)).toNatClampNeg) M (fun r78 M77 => vp_in (x3 + (1 : Int32)) L ∧ (q_Mo_wave (xs (x3 + (1 : Int32)).toNatClampNeg) M77 (fun r80 M79 => (r78 = r80 → q_Law_L18 L xs n (x3 + 6) M79) ∧ (¬ r78 = r80 → False)))))) ∧ (((xs x3.toNatClampNeg) &&& (31 : Int32)) = nI 20 → vp_in (x3 + (1 : Int32)) L ∧ (q_Nf_raise (xs (x3 + (1 : Int32)).toNatClampNeg) M (fun r82 M81 => vp_in (x3 + (1 : Int32)) L ∧ (q_Mo_raise (xs (x3 + (1 : Int32)).toNatClampNeg) M81 (fun r84 M83 => (r82 = r84 → q_Law_L18 L xs n (x3 + 6) M83) ∧ (¬ r82 = r84 → False)))))) ∧ (((xs x3.toNatClampNeg) &&& (31 : Int32)) = nI 21 → vp_in (x3 + (1 : Int32)) L ∧ (q_Nf_height (xs (x3 + (1 : Int32)).toNatClampNeg) M (fun r86 M85 => vp_in (x3 + (1 : Int32)) L ∧ (q_Mo_height (xs (x3 + (1 : Int32)).toNatClampNeg) M85 (fun r88 M87 => (r86 = r88 → q_Law_L18 L xs n (x3 + 6) M87) ∧ (¬ r86 = r88 → False)))))) ∧ (((xs x3.toNatClampNeg) &&& (31 : Int32)) = nI 22 → vp_in (x3 + (1 : Int32)) L ∧ (q_Nf_flow (xs (x3 + (1 : Int32)).toNatClampNeg) M (fun r90 M89 => vp_in (x3 + (1 : Int32)) L ∧ (q_Mo_flow (xs (x3 + (1 : Int32)).toNatClampNeg) M89 (fun r92 M91 => (r90 = r92 → q_Law_L18 L xs n (x3 + 6) M91) ∧ (¬ r90 = r92 → False)))))) ∧ (((xs x3.toNatClampNeg) &&& (31 : Int32)) = nI 23 → q_Nf_sum M (fun r94 M93 => q_Mo_sum M93 (fun r96 M95 => (r94 = r96 → q_Law_L18 L xs n (x3 + 6) M95) ∧ (¬ r94 = r96 → False)))) ∧ (((xs x3.toNatClampNeg) &&& (31 : Int32)) = nI 24 → vp_in (x3 + (1 : Int32)) L ∧ (q_Nf_count (xs (x3 + (1 : Int32)).toNatClampNeg) M (fun r98 M97 => vp_in (x3 + (1 : Int32)) L ∧ (q_Mo_count (xs (x3 + (1 : Int32)).toNatClampNeg) M97 (fun r100 M99 => (r98 = r100 → q_Law_L18 L xs n (x3 + 6) M99) ∧ (¬ r98 = r100 → False)))))) ∧ (((xs x3.toNatClampNeg) &&& (31 : Int32)) = nI 25 → q_Nf_digest M (fun r102 M101 => q_Mo_digest M101 (fun r104 M103 => (r102 = r104 → q_Law_L18 L xs n (x3 + 6) M103) ∧ (¬ r102 = r104 → False)))) ∧ (((((xs x3.toNatClampNeg) &&& (31 : Int32))).toInt < 0 ∨ 25 < (((xs x3.toNatClampNeg) &&& (31 : Int32))).toInt) → q_Law_L18 L xs n (x3 + 6) M)))
section GL
variable {γ : Gm} {κ : Kp} {own : String} {cc : ByteArray} {nL d : Nat} {z : Nat × Nat} {Q : State → Prop} {pc : Nat} {lv : List (Nat × Value)} {st : List Value} {M : Mem} {sb L : Nat} {xs : Nat → Int32}
theorem G_sld (C : Cx γ κ own cc nL d z) (hX : va_X sb L xs γ.2.2.2.2.1 γ.2.2.2.2.1.heap) (hbl : sb < γ.2.2.2.2.1.heap.size) (hbA : ¬ Ab κ sb) {i : Int32} (hin : vp_in i L) (hd : decode cc pc = .ok (.iaload, 1)) (k : G γ κ nL z Q (pc + 1) lv (.int (xs i.toNatClampNeg) :: st) M) : G γ κ nL z Q pc lv (.int i :: .ref sb :: st) M := fun H locs ls hP hS hl => va_sld C.1 C.2.1 hX hbl hbA hS hin hd (k H locs ls hP hS hl)
theorem G_slen (C : Cx γ κ own cc nL d z) (hX : va_X sb L xs γ.2.2.2.2.1 γ.2.2.2.2.1.heap) (hbl : sb < γ.2.2.2.2.1.heap.size) (hbA : ¬ Ab κ sb) (hd : decode cc pc = .ok (.arraylength, 1)) (k : G γ κ nL z Q (pc + 1) lv (.int (nI L) :: st) M) : G γ κ nL z Q pc lv (.ref sb :: st) M := fun H locs ls hP hS hl => va_slen C.1 C.2.1 hX hbl hbA hS hd (k H locs ls hP hS hl)
end GL
set_option maxHeartbeats 8000000 in
theorem s_Law_L18 {γ : Gm} {κ : Kp} {z : Nat × Nat} {Q : State → Prop} {sb L : Nat} {xs : Nat → Int32} (C : Cx γ κ "NetFormsLaw" code 4 7 z) (hX : va_X sb L xs γ.2.2.2.2.1 γ.2.2.2.2.1.heap) (hbl : sb < γ.2.2.2.2.1.heap.size) (hbA : ¬ Ab κ sb) (hx972 : ∀ M', True → G γ κ 4 z Q 972 [] [] M') : ∀ (n : Nat) (x3 : Int32) (M : Mem), q_Law_L18 L xs n x3 M → G γ κ 4 z Q 18 [(0, .ref sb), (1, .ref (κ.1 + 0)), (2, .ref (κ.1 + 56)), (3, .int x3)] [] M := by
  intro n
  induction n with
  | zero => intro x3 M hq; exact hq.elim
  | succ n ih =>
    intro x3 M hq
    unfold q_Law_L18 at hq
    refine G_iload_n C 3 d_Law_18 rfl rfl ?_
    refine G_aload_n C 0 d_Law_19 rfl rfl ?_
    refine G_slen C hX hbl hbA d_Law_20 ?_
    refine G_bipush C (v := 6) d_Law_21 (by decide) ?_
    refine G_isub C d_Law_23 ?_
    refine G_icmp_gt C (tgt := 972) d_Law_24 (by decide) (fun c => ?_) (fun c => ?_)
    · replace hq := hq.1 c
      exact G_sub [] (by rfl) (hx972 _ hq)
    · replace hq := hq.2 c
      refine G_aload_n C 0 d_Law_27 rfl rfl ?_
      refine G_iload_n C 3 d_Law_28 rfl rfl ?_
      refine G_sld C hX hbl hbA hq.1 d_Law_29 ?_
      replace hq := hq.2
      refine G_bipush C (v := 31) d_Law_30 (by decide) ?_
      refine G_iand C d_Law_32 ?_
      refine G_switch C (hi := 25) (tg := fun i => [152, 175, 208, 251, 294, 327, 370, 403, 436, 469, 512, 575, 608, 631, 664, 718, 751, 774, 787, 821, 844, 867, 891, 915, 929, 952].getD i 0) (dt := 966) d_Law_33 (by decide) (by decide) (fun i hi c => ?_) (fun c => ?_)
      · match i, hi, c with
        | 0, _, c =>
          replace hq := hq.1 c
          refine G_aload_n C 1 d_Law_152 rfl rfl ?_
          refine G_aload_n C 0 d_Law_153 rfl rfl ?_
          refine G_iload_n C 3 d_Law_154 rfl rfl ?_
          refine G_iconst C (v := 1) d_Law_155 (by decide) ?_
          refine G_iadd C d_Law_156 ?_
          refine G_sld C hX hbl hbA hq.1 d_Law_157 ?_
          replace hq := hq.2
          refine G_callV C (s_Nf_net hq) v_Nf_net i_Nf_net z_Nf_net wd_185 (by decide) rfl (k := 0) (ci := 6) (by decide) rfl rfl rfl (rest := []) (by rfl) (Nat.le_of_ble_eq_true rfl) d_Law_158 (ki_ (fun r2 M1 hq => ?_))
          refine G_aload_n C 2 d_Law_161 rfl rfl ?_
          refine G_aload_n C 0 d_Law_162 rfl rfl ?_
          refine G_iload_n C 3 d_Law_163 rfl rfl ?_
          refine G_iconst C (v := 1) d_Law_164 (by decide) ?_
          refine G_iadd C d_Law_165 ?_
          refine G_sld C hX hbl hbA hq.1 d_Law_166 ?_
          replace hq := hq.2
          refine G_callV C (s_Mo_net hq) v_Mo_net i_Mo_net z_Mo_net wd_600 (by decide) rfl (k := 56) (ci := 7) (by decide) rfl rfl rfl (rest := [_]) (by rfl) (Nat.le_of_ble_eq_true rfl) d_Law_167 (ki_ (fun r4 M3 hq => ?_))
          refine G_icmp_eq C (tgt := 966) d_Law_170 (by decide) (fun c => ?_) (fun c => ?_)
          · replace hq := hq.1 c
            refine G_iinc C (v := _ + 6) (lv' := [(3, _), (0, _), (1, _), (2, _)]) 3 d_Law_966 rfl rfl (by decide) rfl ?_
            refine G_goto C (tgt := 18) d_Law_969 (by decide) ?_
            exact G_sub [1, 2, 3, 0] (by rfl) (ih _ _ hq)
          · replace hq := hq.2 c
            refine G_iconst C (v := 0) d_Law_173 (by decide) ?_
            exact hq.elim
        | 1, _, c =>
          replace hq := hq.2.1 c
          refine G_aload_n C 1 d_Law_175 rfl rfl ?_
          refine G_aload_n C 0 d_Law_176 rfl rfl ?_
          refine G_iload_n C 3 d_Law_177 rfl rfl ?_
          refine G_iconst C (v := 1) d_Law_178 (by decide) ?_
          refine G_iadd C d_Law_179 ?_
          refine G_sld C hX hbl hbA hq.1 d_Law_180 ?_
          replace hq := hq.2
          refine G_aload_n C 0 d_Law_181 rfl rfl ?_
          refine G_iload_n C 3 d_Law_182 rfl rfl ?_
          refine G_iconst C (v := 2) d_Law_183 (by decide) ?_
          refine G_iadd C d_Law_184 ?_
          refine G_sld C hX hbl hbA hq.1 d_Law_185 ?_
          replace hq := hq.2
          refine G_callV C (s_Nf_edge hq) v_Nf_edge i_Nf_edge z_Nf_edge wd_207 (by decide) rfl (k := 0) (ci := 6) (by decide) rfl rfl rfl (rest := []) (by rfl) (Nat.le_of_ble_eq_true rfl) d_Law_186 (ki_ (fun r6 M5 hq => ?_))
          refine G_aload_n C 2 d_Law_189 rfl rfl ?_
          refine G_aload_n C 0 d_Law_190 rfl rfl ?_
          refine G_iload_n C 3 d_Law_191 rfl rfl ?_
          refine G_iconst C (v := 1) d_Law_192 (by decide) ?_
          refine G_iadd C d_Law_193 ?_
          refine G_sld C hX hbl hbA hq.1 d_Law_194 ?_
          replace hq := hq.2
          refine G_aload_n C 0 d_Law_195 rfl rfl ?_
          refine G_iload_n C 3 d_Law_196 rfl rfl ?_
          refine G_iconst C (v := 2) d_Law_197 (by decide) ?_
          refine G_iadd C d_Law_198 ?_
          refine G_sld C hX hbl hbA hq.1 d_Law_199 ?_
          replace hq := hq.2
          refine G_callV C (s_Mo_edge hq) v_Mo_edge i_Mo_edge z_Mo_edge wd_612 (by decide) rfl (k := 56) (ci := 7) (by decide) rfl rfl rfl (rest := [_]) (by rfl) (Nat.le_of_ble_eq_true rfl) d_Law_200 (ki_ (fun r8 M7 hq => ?_))
          refine G_icmp_eq C (tgt := 966) d_Law_203 (by decide) (fun c => ?_) (fun c => ?_)
          · replace hq := hq.1 c
            refine G_iinc C (v := _ + 6) (lv' := [(3, _), (0, _), (1, _), (2, _)]) 3 d_Law_966 rfl rfl (by decide) rfl ?_
            refine G_goto C (tgt := 18) d_Law_969 (by decide) ?_
            exact G_sub [1, 2, 3, 0] (by rfl) (ih _ _ hq)
          · replace hq := hq.2 c
            refine G_iconst C (v := 0) d_Law_206 (by decide) ?_
            exact hq.elim
        | 2, _, c =>
          replace hq := hq.2.2.1 c
          refine G_aload_n C 1 d_Law_208 rfl rfl ?_
          refine G_aload_n C 0 d_Law_209 rfl rfl ?_
          refine G_iload_n C 3 d_Law_210 rfl rfl ?_
          refine G_iconst C (v := 1) d_Law_211 (by decide) ?_
          refine G_iadd C d_Law_212 ?_
          refine G_sld C hX hbl hbA hq.1 d_Law_213 ?_
          replace hq := hq.2
          refine G_aload_n C 0 d_Law_214 rfl rfl ?_
          refine G_iload_n C 3 d_Law_215 rfl rfl ?_
          refine G_iconst C (v := 2) d_Law_216 (by decide) ?_
          refine G_iadd C d_Law_217 ?_
          refine G_sld C hX hbl hbA hq.1 d_Law_218 ?_
          replace hq := hq.2
          refine G_aload_n C 0 d_Law_219 rfl rfl ?_
          refine G_iload_n C 3 d_Law_220 rfl rfl ?_
          refine G_iconst C (v := 3) d_Law_221 (by decide) ?_
          refine G_iadd C d_Law_222 ?_
          refine G_sld C hX hbl hbA hq.1 d_Law_223 ?_
          replace hq := hq.2
          refine G_callV C (s_Nf_face hq) v_Nf_face i_Nf_face z_Nf_face wd_233 (by decide) rfl (k := 0) (ci := 6) (by decide) rfl rfl rfl (rest := []) (by rfl) (Nat.le_of_ble_eq_true rfl) d_Law_224 (ki_ (fun r10 M9 hq => ?_))
          refine G_aload_n C 2 d_Law_227 rfl rfl ?_
          refine G_aload_n C 0 d_Law_228 rfl rfl ?_
          refine G_iload_n C 3 d_Law_229 rfl rfl ?_
          refine G_iconst C (v := 1) d_Law_230 (by decide) ?_
          refine G_iadd C d_Law_231 ?_
          refine G_sld C hX hbl hbA hq.1 d_Law_232 ?_
          replace hq := hq.2
          refine G_aload_n C 0 d_Law_233 rfl rfl ?_
          refine G_iload_n C 3 d_Law_234 rfl rfl ?_
          refine G_iconst C (v := 2) d_Law_235 (by decide) ?_
          refine G_iadd C d_Law_236 ?_
          refine G_sld C hX hbl hbA hq.1 d_Law_237 ?_
          replace hq := hq.2
          refine G_aload_n C 0 d_Law_238 rfl rfl ?_
          refine G_iload_n C 3 d_Law_239 rfl rfl ?_
          refine G_iconst C (v := 3) d_Law_240 (by decide) ?_
          refine G_iadd C d_Law_241 ?_
          refine G_sld C hX hbl hbA hq.1 d_Law_242 ?_
          replace hq := hq.2
          refine G_callV C (s_Mo_face hq) v_Mo_face i_Mo_face z_Mo_face wd_624 (by decide) rfl (k := 56) (ci := 7) (by decide) rfl rfl rfl (rest := [_]) (by rfl) (Nat.le_of_ble_eq_true rfl) d_Law_243 (ki_ (fun r12 M11 hq => ?_))
          refine G_icmp_eq C (tgt := 966) d_Law_246 (by decide) (fun c => ?_) (fun c => ?_)
          · replace hq := hq.1 c
            refine G_iinc C (v := _ + 6) (lv' := [(3, _), (0, _), (1, _), (2, _)]) 3 d_Law_966 rfl rfl (by decide) rfl ?_
            refine G_goto C (tgt := 18) d_Law_969 (by decide) ?_
            exact G_sub [1, 2, 3, 0] (by rfl) (ih _ _ hq)
          · replace hq := hq.2 c
            refine G_iconst C (v := 0) d_Law_249 (by decide) ?_
            exact hq.elim
        | 3, _, c =>
          replace hq := hq.2.2.2.1 c
          refine G_aload_n C 1 d_Law_251 rfl rfl ?_
          refine G_aload_n C 0 d_Law_252 rfl rfl ?_
          refine G_iload_n C 3 d_Law_253 rfl rfl ?_
          refine G_iconst C (v := 1) d_Law_254 (by decide) ?_
          refine G_iadd C d_Law_255 ?_
          refine G_sld C hX hbl hbA hq.1 d_Law_256 ?_
          replace hq := hq.2
          refine G_aload_n C 0 d_Law_257 rfl rfl ?_
          refine G_iload_n C 3 d_Law_258 rfl rfl ?_
          refine G_iconst C (v := 2) d_Law_259 (by decide) ?_
          refine G_iadd C d_Law_260 ?_
          refine G_sld C hX hbl hbA hq.1 d_Law_261 ?_
          replace hq := hq.2
          refine G_aload_n C 0 d_Law_262 rfl rfl ?_
          refine G_iload_n C 3 d_Law_263 rfl rfl ?_
          refine G_iconst C (v := 3) d_Law_264 (by decide) ?_
          refine G_iadd C d_Law_265 ?_
          refine G_sld C hX hbl hbA hq.1 d_Law_266 ?_
          replace hq := hq.2
          refine G_callV C (s_Nf_corner hq) v_Nf_corner i_Nf_corner z_Nf_corner wd_245 (by decide) rfl (k := 0) (ci := 6) (by decide) rfl rfl rfl (rest := []) (by rfl) (Nat.le_of_ble_eq_true rfl) d_Law_267 (ki_ (fun r14 M13 hq => ?_))
          refine G_aload_n C 2 d_Law_270 rfl rfl ?_
          refine G_aload_n C 0 d_Law_271 rfl rfl ?_
          refine G_iload_n C 3 d_Law_272 rfl rfl ?_
          refine G_iconst C (v := 1) d_Law_273 (by decide) ?_
          refine G_iadd C d_Law_274 ?_
          refine G_sld C hX hbl hbA hq.1 d_Law_275 ?_
          replace hq := hq.2
          refine G_aload_n C 0 d_Law_276 rfl rfl ?_
          refine G_iload_n C 3 d_Law_277 rfl rfl ?_
          refine G_iconst C (v := 2) d_Law_278 (by decide) ?_
          refine G_iadd C d_Law_279 ?_
          refine G_sld C hX hbl hbA hq.1 d_Law_280 ?_
          replace hq := hq.2
          refine G_aload_n C 0 d_Law_281 rfl rfl ?_
          refine G_iload_n C 3 d_Law_282 rfl rfl ?_
          refine G_iconst C (v := 3) d_Law_283 (by decide) ?_
          refine G_iadd C d_Law_284 ?_
          refine G_sld C hX hbl hbA hq.1 d_Law_285 ?_
          replace hq := hq.2
          refine G_callV C (s_Mo_corner hq) v_Mo_corner i_Mo_corner z_Mo_corner wd_628 (by decide) rfl (k := 56) (ci := 7) (by decide) rfl rfl rfl (rest := [_]) (by rfl) (Nat.le_of_ble_eq_true rfl) d_Law_286 (ki_ (fun r16 M15 hq => ?_))
          refine G_icmp_eq C (tgt := 966) d_Law_289 (by decide) (fun c => ?_) (fun c => ?_)
          · replace hq := hq.1 c
            refine G_iinc C (v := _ + 6) (lv' := [(3, _), (0, _), (1, _), (2, _)]) 3 d_Law_966 rfl rfl (by decide) rfl ?_
            refine G_goto C (tgt := 18) d_Law_969 (by decide) ?_
            exact G_sub [1, 2, 3, 0] (by rfl) (ih _ _ hq)
          · replace hq := hq.2 c
            refine G_iconst C (v := 0) d_Law_292 (by decide) ?_
            exact hq.elim
        | 4, _, c =>
          replace hq := hq.2.2.2.2.1 c
          refine G_aload_n C 1 d_Law_294 rfl rfl ?_
          refine G_aload_n C 0 d_Law_295 rfl rfl ?_
          refine G_iload_n C 3 d_Law_296 rfl rfl ?_
          refine G_iconst C (v := 1) d_Law_297 (by decide) ?_
          refine G_iadd C d_Law_298 ?_
          refine G_sld C hX hbl hbA hq.1 d_Law_299 ?_
          replace hq := hq.2
          refine G_aload_n C 0 d_Law_300 rfl rfl ?_
          refine G_iload_n C 3 d_Law_301 rfl rfl ?_
          refine G_iconst C (v := 2) d_Law_302 (by decide) ?_
          refine G_iadd C d_Law_303 ?_
          refine G_sld C hX hbl hbA hq.1 d_Law_304 ?_
          replace hq := hq.2
          refine G_callV C (s_Nf_form hq) v_Nf_form i_Nf_form z_Nf_form wd_253 (by decide) rfl (k := 0) (ci := 6) (by decide) rfl rfl rfl (rest := []) (by rfl) (Nat.le_of_ble_eq_true rfl) d_Law_305 (ki_ (fun r18 M17 hq => ?_))
          refine G_aload_n C 2 d_Law_308 rfl rfl ?_
          refine G_aload_n C 0 d_Law_309 rfl rfl ?_
          refine G_iload_n C 3 d_Law_310 rfl rfl ?_
          refine G_iconst C (v := 1) d_Law_311 (by decide) ?_
          refine G_iadd C d_Law_312 ?_
          refine G_sld C hX hbl hbA hq.1 d_Law_313 ?_
          replace hq := hq.2
          refine G_aload_n C 0 d_Law_314 rfl rfl ?_
          refine G_iload_n C 3 d_Law_315 rfl rfl ?_
          refine G_iconst C (v := 2) d_Law_316 (by decide) ?_
          refine G_iadd C d_Law_317 ?_
          refine G_sld C hX hbl hbA hq.1 d_Law_318 ?_
          replace hq := hq.2
          refine G_callV C (s_Mo_form hq) v_Mo_form i_Mo_form z_Mo_form wd_632 (by decide) rfl (k := 56) (ci := 7) (by decide) rfl rfl rfl (rest := [_]) (by rfl) (Nat.le_of_ble_eq_true rfl) d_Law_319 (ki_ (fun r20 M19 hq => ?_))
          refine G_icmp_eq C (tgt := 966) d_Law_322 (by decide) (fun c => ?_) (fun c => ?_)
          · replace hq := hq.1 c
            refine G_iinc C (v := _ + 6) (lv' := [(3, _), (0, _), (1, _), (2, _)]) 3 d_Law_966 rfl rfl (by decide) rfl ?_
            refine G_goto C (tgt := 18) d_Law_969 (by decide) ?_
            exact G_sub [1, 2, 3, 0] (by rfl) (ih _ _ hq)
          · replace hq := hq.2 c
            refine G_iconst C (v := 0) d_Law_325 (by decide) ?_
            exact hq.elim
        | 5, _, c =>
          replace hq := hq.2.2.2.2.2.1 c
          refine G_aload_n C 1 d_Law_327 rfl rfl ?_
          refine G_aload_n C 0 d_Law_328 rfl rfl ?_
          refine G_iload_n C 3 d_Law_329 rfl rfl ?_
          refine G_iconst C (v := 1) d_Law_330 (by decide) ?_
          refine G_iadd C d_Law_331 ?_
          refine G_sld C hX hbl hbA hq.1 d_Law_332 ?_
          replace hq := hq.2
          refine G_aload_n C 0 d_Law_333 rfl rfl ?_
          refine G_iload_n C 3 d_Law_334 rfl rfl ?_
          refine G_iconst C (v := 2) d_Law_335 (by decide) ?_
          refine G_iadd C d_Law_336 ?_
          refine G_sld C hX hbl hbA hq.1 d_Law_337 ?_
          replace hq := hq.2
          refine G_aload_n C 0 d_Law_338 rfl rfl ?_
          refine G_iload_n C 3 d_Law_339 rfl rfl ?_
          refine G_iconst C (v := 3) d_Law_340 (by decide) ?_
          refine G_iadd C d_Law_341 ?_
          refine G_sld C hX hbl hbA hq.1 d_Law_342 ?_
          replace hq := hq.2
          refine G_callV C (s_Nf_set hq) v_Nf_set i_Nf_set z_Nf_set wd_261 (by decide) rfl (k := 0) (ci := 6) (by decide) rfl rfl rfl (rest := []) (by rfl) (Nat.le_of_ble_eq_true rfl) d_Law_343 (ki_ (fun r22 M21 hq => ?_))
          refine G_aload_n C 2 d_Law_346 rfl rfl ?_
          refine G_aload_n C 0 d_Law_347 rfl rfl ?_
          refine G_iload_n C 3 d_Law_348 rfl rfl ?_
          refine G_iconst C (v := 1) d_Law_349 (by decide) ?_
          refine G_iadd C d_Law_350 ?_
          refine G_sld C hX hbl hbA hq.1 d_Law_351 ?_
          replace hq := hq.2
          refine G_aload_n C 0 d_Law_352 rfl rfl ?_
          refine G_iload_n C 3 d_Law_353 rfl rfl ?_
          refine G_iconst C (v := 2) d_Law_354 (by decide) ?_
          refine G_iadd C d_Law_355 ?_
          refine G_sld C hX hbl hbA hq.1 d_Law_356 ?_
          replace hq := hq.2
          refine G_aload_n C 0 d_Law_357 rfl rfl ?_
          refine G_iload_n C 3 d_Law_358 rfl rfl ?_
          refine G_iconst C (v := 3) d_Law_359 (by decide) ?_
          refine G_iadd C d_Law_360 ?_
          refine G_sld C hX hbl hbA hq.1 d_Law_361 ?_
          replace hq := hq.2
          refine G_callV C (s_Mo_set hq) v_Mo_set i_Mo_set z_Mo_set wd_641 (by decide) rfl (k := 56) (ci := 7) (by decide) rfl rfl rfl (rest := [_]) (by rfl) (Nat.le_of_ble_eq_true rfl) d_Law_362 (ki_ (fun r24 M23 hq => ?_))
          refine G_icmp_eq C (tgt := 966) d_Law_365 (by decide) (fun c => ?_) (fun c => ?_)
          · replace hq := hq.1 c
            refine G_iinc C (v := _ + 6) (lv' := [(3, _), (0, _), (1, _), (2, _)]) 3 d_Law_966 rfl rfl (by decide) rfl ?_
            refine G_goto C (tgt := 18) d_Law_969 (by decide) ?_
            exact G_sub [1, 2, 3, 0] (by rfl) (ih _ _ hq)
          · replace hq := hq.2 c
            refine G_iconst C (v := 0) d_Law_368 (by decide) ?_
            exact hq.elim
        | 6, _, c =>
          replace hq := hq.2.2.2.2.2.2.1 c
          refine G_aload_n C 1 d_Law_370 rfl rfl ?_
          refine G_aload_n C 0 d_Law_371 rfl rfl ?_
          refine G_iload_n C 3 d_Law_372 rfl rfl ?_
          refine G_iconst C (v := 1) d_Law_373 (by decide) ?_
          refine G_iadd C d_Law_374 ?_
          refine G_sld C hX hbl hbA hq.1 d_Law_375 ?_
          replace hq := hq.2
          refine G_aload_n C 0 d_Law_376 rfl rfl ?_
          refine G_iload_n C 3 d_Law_377 rfl rfl ?_
          refine G_iconst C (v := 2) d_Law_378 (by decide) ?_
          refine G_iadd C d_Law_379 ?_
          refine G_sld C hX hbl hbA hq.1 d_Law_380 ?_
          replace hq := hq.2
          refine G_callV C (s_Nf_get hq) v_Nf_get i_Nf_get z_Nf_get wd_270 (by decide) rfl (k := 0) (ci := 6) (by decide) rfl rfl rfl (rest := []) (by rfl) (Nat.le_of_ble_eq_true rfl) d_Law_381 (ki_ (fun r26 M25 hq => ?_))
          refine G_aload_n C 2 d_Law_384 rfl rfl ?_
          refine G_aload_n C 0 d_Law_385 rfl rfl ?_
          refine G_iload_n C 3 d_Law_386 rfl rfl ?_
          refine G_iconst C (v := 1) d_Law_387 (by decide) ?_
          refine G_iadd C d_Law_388 ?_
          refine G_sld C hX hbl hbA hq.1 d_Law_389 ?_
          replace hq := hq.2
          refine G_aload_n C 0 d_Law_390 rfl rfl ?_
          refine G_iload_n C 3 d_Law_391 rfl rfl ?_
          refine G_iconst C (v := 2) d_Law_392 (by decide) ?_
          refine G_iadd C d_Law_393 ?_
          refine G_sld C hX hbl hbA hq.1 d_Law_394 ?_
          replace hq := hq.2
          refine G_callV C (s_Mo_get hq) v_Mo_get i_Mo_get z_Mo_get wd_656 (by decide) rfl (k := 56) (ci := 7) (by decide) rfl rfl rfl (rest := [_]) (by rfl) (Nat.le_of_ble_eq_true rfl) d_Law_395 (ki_ (fun r28 M27 hq => ?_))
          refine G_icmp_eq C (tgt := 966) d_Law_398 (by decide) (fun c => ?_) (fun c => ?_)
          · replace hq := hq.1 c
            refine G_iinc C (v := _ + 6) (lv' := [(3, _), (0, _), (1, _), (2, _)]) 3 d_Law_966 rfl rfl (by decide) rfl ?_
            refine G_goto C (tgt := 18) d_Law_969 (by decide) ?_
            exact G_sub [1, 2, 3, 0] (by rfl) (ih _ _ hq)
          · replace hq := hq.2 c
            refine G_iconst C (v := 0) d_Law_401 (by decide) ?_
            exact hq.elim
        | 7, _, c =>
          replace hq := hq.2.2.2.2.2.2.2.1 c
          refine G_aload_n C 1 d_Law_403 rfl rfl ?_
          refine G_aload_n C 0 d_Law_404 rfl rfl ?_
          refine G_iload_n C 3 d_Law_405 rfl rfl ?_
          refine G_iconst C (v := 1) d_Law_406 (by decide) ?_
          refine G_iadd C d_Law_407 ?_
          refine G_sld C hX hbl hbA hq.1 d_Law_408 ?_
          replace hq := hq.2
          refine G_aload_n C 0 d_Law_409 rfl rfl ?_
          refine G_iload_n C 3 d_Law_410 rfl rfl ?_
          refine G_iconst C (v := 2) d_Law_411 (by decide) ?_
          refine G_iadd C d_Law_412 ?_
          refine G_sld C hX hbl hbA hq.1 d_Law_413 ?_
          replace hq := hq.2
          refine G_callV C (s_Nf_slope hq) v_Nf_slope i_Nf_slope z_Nf_slope wd_274 (by decide) rfl (k := 0) (ci := 6) (by decide) rfl rfl rfl (rest := []) (by rfl) (Nat.le_of_ble_eq_true rfl) d_Law_414 (ki_ (fun r30 M29 hq => ?_))
          refine G_aload_n C 2 d_Law_417 rfl rfl ?_
          refine G_aload_n C 0 d_Law_418 rfl rfl ?_
          refine G_iload_n C 3 d_Law_419 rfl rfl ?_
          refine G_iconst C (v := 1) d_Law_420 (by decide) ?_
          refine G_iadd C d_Law_421 ?_
          refine G_sld C hX hbl hbA hq.1 d_Law_422 ?_
          replace hq := hq.2
          refine G_aload_n C 0 d_Law_423 rfl rfl ?_
          refine G_iload_n C 3 d_Law_424 rfl rfl ?_
          refine G_iconst C (v := 2) d_Law_425 (by decide) ?_
          refine G_iadd C d_Law_426 ?_
          refine G_sld C hX hbl hbA hq.1 d_Law_427 ?_
          replace hq := hq.2
          refine G_callV C (s_Mo_slope hq) v_Mo_slope i_Mo_slope z_Mo_slope wd_660 (by decide) rfl (k := 56) (ci := 7) (by decide) rfl rfl rfl (rest := [_]) (by rfl) (Nat.le_of_ble_eq_true rfl) d_Law_428 (ki_ (fun r32 M31 hq => ?_))
          refine G_icmp_eq C (tgt := 966) d_Law_431 (by decide) (fun c => ?_) (fun c => ?_)
          · replace hq := hq.1 c
            refine G_iinc C (v := _ + 6) (lv' := [(3, _), (0, _), (1, _), (2, _)]) 3 d_Law_966 rfl rfl (by decide) rfl ?_
            refine G_goto C (tgt := 18) d_Law_969 (by decide) ?_
            exact G_sub [1, 2, 3, 0] (by rfl) (ih _ _ hq)
          · replace hq := hq.2 c
            refine G_iconst C (v := 0) d_Law_434 (by decide) ?_
            exact hq.elim
        | 8, _, c =>
          replace hq := hq.2.2.2.2.2.2.2.2.1 c
          refine G_aload_n C 1 d_Law_436 rfl rfl ?_
          refine G_aload_n C 0 d_Law_437 rfl rfl ?_
          refine G_iload_n C 3 d_Law_438 rfl rfl ?_
          refine G_iconst C (v := 1) d_Law_439 (by decide) ?_
          refine G_iadd C d_Law_440 ?_
          refine G_sld C hX hbl hbA hq.1 d_Law_441 ?_
          replace hq := hq.2
          refine G_aload_n C 0 d_Law_442 rfl rfl ?_
          refine G_iload_n C 3 d_Law_443 rfl rfl ?_
          refine G_iconst C (v := 2) d_Law_444 (by decide) ?_
          refine G_iadd C d_Law_445 ?_
          refine G_sld C hX hbl hbA hq.1 d_Law_446 ?_
          replace hq := hq.2
          refine G_callV C (s_Nf_rim hq) v_Nf_rim i_Nf_rim z_Nf_rim wd_291 (by decide) rfl (k := 0) (ci := 6) (by decide) rfl rfl rfl (rest := []) (by rfl) (Nat.le_of_ble_eq_true rfl) d_Law_447 (ki_ (fun r34 M33 hq => ?_))
          refine G_aload_n C 2 d_Law_450 rfl rfl ?_
          refine G_aload_n C 0 d_Law_451 rfl rfl ?_
          refine G_iload_n C 3 d_Law_452 rfl rfl ?_
          refine G_iconst C (v := 1) d_Law_453 (by decide) ?_
          refine G_iadd C d_Law_454 ?_
          refine G_sld C hX hbl hbA hq.1 d_Law_455 ?_
          replace hq := hq.2
          refine G_aload_n C 0 d_Law_456 rfl rfl ?_
          refine G_iload_n C 3 d_Law_457 rfl rfl ?_
          refine G_iconst C (v := 2) d_Law_458 (by decide) ?_
          refine G_iadd C d_Law_459 ?_
          refine G_sld C hX hbl hbA hq.1 d_Law_460 ?_
          replace hq := hq.2
          refine G_callV C (s_Mo_rim hq) v_Mo_rim i_Mo_rim z_Mo_rim wd_680 (by decide) rfl (k := 56) (ci := 7) (by decide) rfl rfl rfl (rest := [_]) (by rfl) (Nat.le_of_ble_eq_true rfl) d_Law_461 (ki_ (fun r36 M35 hq => ?_))
          refine G_icmp_eq C (tgt := 966) d_Law_464 (by decide) (fun c => ?_) (fun c => ?_)
          · replace hq := hq.1 c
            refine G_iinc C (v := _ + 6) (lv' := [(3, _), (0, _), (1, _), (2, _)]) 3 d_Law_966 rfl rfl (by decide) rfl ?_
            refine G_goto C (tgt := 18) d_Law_969 (by decide) ?_
            exact G_sub [1, 2, 3, 0] (by rfl) (ih _ _ hq)
          · replace hq := hq.2 c
            refine G_iconst C (v := 0) d_Law_467 (by decide) ?_
            exact hq.elim
        | 9, _, c =>
          replace hq := hq.2.2.2.2.2.2.2.2.2.1 c
          refine G_aload_n C 1 d_Law_469 rfl rfl ?_
          refine G_aload_n C 0 d_Law_470 rfl rfl ?_
          refine G_iload_n C 3 d_Law_471 rfl rfl ?_
          refine G_iconst C (v := 1) d_Law_472 (by decide) ?_
          refine G_iadd C d_Law_473 ?_
          refine G_sld C hX hbl hbA hq.1 d_Law_474 ?_
          replace hq := hq.2
          refine G_aload_n C 0 d_Law_475 rfl rfl ?_
          refine G_iload_n C 3 d_Law_476 rfl rfl ?_
          refine G_iconst C (v := 2) d_Law_477 (by decide) ?_
          refine G_iadd C d_Law_478 ?_
          refine G_sld C hX hbl hbA hq.1 d_Law_479 ?_
          replace hq := hq.2
          refine G_aload_n C 0 d_Law_480 rfl rfl ?_
          refine G_iload_n C 3 d_Law_481 rfl rfl ?_
          refine G_iconst C (v := 3) d_Law_482 (by decide) ?_
          refine G_iadd C d_Law_483 ?_
          refine G_sld C hX hbl hbA hq.1 d_Law_484 ?_
          replace hq := hq.2
          refine G_callV C (s_Nf_cup hq) v_Nf_cup i_Nf_cup z_Nf_cup wd_299 (by decide) rfl (k := 0) (ci := 6) (by decide) rfl rfl rfl (rest := []) (by rfl) (Nat.le_of_ble_eq_true rfl) d_Law_485 (ki_ (fun r38 M37 hq => ?_))
          refine G_aload_n C 2 d_Law_488 rfl rfl ?_
          refine G_aload_n C 0 d_Law_489 rfl rfl ?_
          refine G_iload_n C 3 d_Law_490 rfl rfl ?_
          refine G_iconst C (v := 1) d_Law_491 (by decide) ?_
          refine G_iadd C d_Law_492 ?_
          refine G_sld C hX hbl hbA hq.1 d_Law_493 ?_
          replace hq := hq.2
          refine G_aload_n C 0 d_Law_494 rfl rfl ?_
          refine G_iload_n C 3 d_Law_495 rfl rfl ?_
          refine G_iconst C (v := 2) d_Law_496 (by decide) ?_
          refine G_iadd C d_Law_497 ?_
          refine G_sld C hX hbl hbA hq.1 d_Law_498 ?_
          replace hq := hq.2
          refine G_aload_n C 0 d_Law_499 rfl rfl ?_
          refine G_iload_n C 3 d_Law_500 rfl rfl ?_
          refine G_iconst C (v := 3) d_Law_501 (by decide) ?_
          refine G_iadd C d_Law_502 ?_
          refine G_sld C hX hbl hbA hq.1 d_Law_503 ?_
          replace hq := hq.2
          refine G_callV C (s_Mo_cup hq) v_Mo_cup i_Mo_cup z_Mo_cup wd_688 (by decide) rfl (k := 56) (ci := 7) (by decide) rfl rfl rfl (rest := [_]) (by rfl) (Nat.le_of_ble_eq_true rfl) d_Law_504 (ki_ (fun r40 M39 hq => ?_))
          refine G_icmp_eq C (tgt := 966) d_Law_507 (by decide) (fun c => ?_) (fun c => ?_)
          · replace hq := hq.1 c
            refine G_iinc C (v := _ + 6) (lv' := [(3, _), (0, _), (1, _), (2, _)]) 3 d_Law_966 rfl rfl (by decide) rfl ?_
            refine G_goto C (tgt := 18) d_Law_969 (by decide) ?_
            exact G_sub [1, 2, 3, 0] (by rfl) (ih _ _ hq)
          · replace hq := hq.2 c
            refine G_iconst C (v := 0) d_Law_510 (by decide) ?_
            exact hq.elim
        | 10, _, c =>
          replace hq := hq.2.2.2.2.2.2.2.2.2.2.1 c
          refine G_aload_n C 1 d_Law_512 rfl rfl ?_
          refine G_aload_n C 0 d_Law_513 rfl rfl ?_
          refine G_iload_n C 3 d_Law_514 rfl rfl ?_
          refine G_iconst C (v := 1) d_Law_515 (by decide) ?_
          refine G_iadd C d_Law_516 ?_
          refine G_sld C hX hbl hbA hq.1 d_Law_517 ?_
          replace hq := hq.2
          refine G_aload_n C 0 d_Law_518 rfl rfl ?_
          refine G_iload_n C 3 d_Law_519 rfl rfl ?_
          refine G_iconst C (v := 2) d_Law_520 (by decide) ?_
          refine G_iadd C d_Law_521 ?_
          refine G_sld C hX hbl hbA hq.1 d_Law_522 ?_
          replace hq := hq.2
          refine G_aload_n C 0 d_Law_523 rfl rfl ?_
          refine G_iload_n C 3 d_Law_524 rfl rfl ?_
          refine G_iconst C (v := 3) d_Law_525 (by decide) ?_
          refine G_iadd C d_Law_526 ?_
          refine G_sld C hX hbl hbA hq.1 d_Law_527 ?_
          replace hq := hq.2
          refine G_aload_n C 0 d_Law_528 rfl rfl ?_
          refine G_iload_n C 3 d_Law_529 rfl rfl ?_
          refine G_iconst C (v := 4) d_Law_530 (by decide) ?_
          refine G_iadd C d_Law_531 ?_
          refine G_sld C hX hbl hbA hq.1 d_Law_532 ?_
          replace hq := hq.2
          refine G_aload_n C 0 d_Law_533 rfl rfl ?_
          refine G_iload_n C 3 d_Law_534 rfl rfl ?_
          refine G_iconst C (v := 5) d_Law_535 (by decide) ?_
          refine G_iadd C d_Law_536 ?_
          refine G_sld C hX hbl hbA hq.1 d_Law_537 ?_
          replace hq := hq.2
          refine G_callV C (s_Nf_mix hq) v_Nf_mix i_Nf_mix z_Nf_mix wd_312 (by decide) rfl (k := 0) (ci := 6) (by decide) rfl rfl rfl (rest := []) (by rfl) (Nat.le_of_ble_eq_true rfl) d_Law_538 (ki_ (fun r42 M41 hq => ?_))
          refine G_aload_n C 2 d_Law_541 rfl rfl ?_
          refine G_aload_n C 0 d_Law_542 rfl rfl ?_
          refine G_iload_n C 3 d_Law_543 rfl rfl ?_
          refine G_iconst C (v := 1) d_Law_544 (by decide) ?_
          refine G_iadd C d_Law_545 ?_
          refine G_sld C hX hbl hbA hq.1 d_Law_546 ?_
          replace hq := hq.2
          refine G_aload_n C 0 d_Law_547 rfl rfl ?_
          refine G_iload_n C 3 d_Law_548 rfl rfl ?_
          refine G_iconst C (v := 2) d_Law_549 (by decide) ?_
          refine G_iadd C d_Law_550 ?_
          refine G_sld C hX hbl hbA hq.1 d_Law_551 ?_
          replace hq := hq.2
          refine G_aload_n C 0 d_Law_552 rfl rfl ?_
          refine G_iload_n C 3 d_Law_553 rfl rfl ?_
          refine G_iconst C (v := 3) d_Law_554 (by decide) ?_
          refine G_iadd C d_Law_555 ?_
          refine G_sld C hX hbl hbA hq.1 d_Law_556 ?_
          replace hq := hq.2
          refine G_aload_n C 0 d_Law_557 rfl rfl ?_
          refine G_iload_n C 3 d_Law_558 rfl rfl ?_
          refine G_iconst C (v := 4) d_Law_559 (by decide) ?_
          refine G_iadd C d_Law_560 ?_
          refine G_sld C hX hbl hbA hq.1 d_Law_561 ?_
          replace hq := hq.2
          refine G_aload_n C 0 d_Law_562 rfl rfl ?_
          refine G_iload_n C 3 d_Law_563 rfl rfl ?_
          refine G_iconst C (v := 5) d_Law_564 (by decide) ?_
          refine G_iadd C d_Law_565 ?_
          refine G_sld C hX hbl hbA hq.1 d_Law_566 ?_
          replace hq := hq.2
          refine G_callV C (s_Mo_mix hq) v_Mo_mix i_Mo_mix z_Mo_mix wd_696 (by decide) rfl (k := 56) (ci := 7) (by decide) rfl rfl rfl (rest := [_]) (by rfl) (Nat.le_of_ble_eq_true rfl) d_Law_567 (ki_ (fun r44 M43 hq => ?_))
          refine G_icmp_eq C (tgt := 966) d_Law_570 (by decide) (fun c => ?_) (fun c => ?_)
          · replace hq := hq.1 c
            refine G_iinc C (v := _ + 6) (lv' := [(3, _), (0, _), (1, _), (2, _)]) 3 d_Law_966 rfl rfl (by decide) rfl ?_
            refine G_goto C (tgt := 18) d_Law_969 (by decide) ?_
            exact G_sub [1, 2, 3, 0] (by rfl) (ih _ _ hq)
          · replace hq := hq.2 c
            refine G_iconst C (v := 0) d_Law_573 (by decide) ?_
            exact hq.elim
        | 11, _, c =>
          replace hq := hq.2.2.2.2.2.2.2.2.2.2.2.1 c
          refine G_aload_n C 1 d_Law_575 rfl rfl ?_
          refine G_aload_n C 0 d_Law_576 rfl rfl ?_
          refine G_iload_n C 3 d_Law_577 rfl rfl ?_
          refine G_iconst C (v := 1) d_Law_578 (by decide) ?_
          refine G_iadd C d_Law_579 ?_
          refine G_sld C hX hbl hbA hq.1 d_Law_580 ?_
          replace hq := hq.2
          refine G_aload_n C 0 d_Law_581 rfl rfl ?_
          refine G_iload_n C 3 d_Law_582 rfl rfl ?_
          refine G_iconst C (v := 2) d_Law_583 (by decide) ?_
          refine G_iadd C d_Law_584 ?_
          refine G_sld C hX hbl hbA hq.1 d_Law_585 ?_
          replace hq := hq.2
          refine G_callV C (s_Nf_about hq) v_Nf_about i_Nf_about z_Nf_about wd_316 (by decide) rfl (k := 0) (ci := 6) (by decide) rfl rfl rfl (rest := []) (by rfl) (Nat.le_of_ble_eq_true rfl) d_Law_586 (ki_ (fun r46 M45 hq => ?_))
          refine G_aload_n C 2 d_Law_589 rfl rfl ?_
          refine G_aload_n C 0 d_Law_590 rfl rfl ?_
          refine G_iload_n C 3 d_Law_591 rfl rfl ?_
          refine G_iconst C (v := 1) d_Law_592 (by decide) ?_
          refine G_iadd C d_Law_593 ?_
          refine G_sld C hX hbl hbA hq.1 d_Law_594 ?_
          replace hq := hq.2
          refine G_aload_n C 0 d_Law_595 rfl rfl ?_
          refine G_iload_n C 3 d_Law_596 rfl rfl ?_
          refine G_iconst C (v := 2) d_Law_597 (by decide) ?_
          refine G_iadd C d_Law_598 ?_
          refine G_sld C hX hbl hbA hq.1 d_Law_599 ?_
          replace hq := hq.2
          refine G_callV C (s_Mo_about hq) v_Mo_about i_Mo_about z_Mo_about wd_702 (by decide) rfl (k := 56) (ci := 7) (by decide) rfl rfl rfl (rest := [_]) (by rfl) (Nat.le_of_ble_eq_true rfl) d_Law_600 (ki_ (fun r48 M47 hq => ?_))
          refine G_icmp_eq C (tgt := 966) d_Law_603 (by decide) (fun c => ?_) (fun c => ?_)
          · replace hq := hq.1 c
            refine G_iinc C (v := _ + 6) (lv' := [(3, _), (0, _), (1, _), (2, _)]) 3 d_Law_966 rfl rfl (by decide) rfl ?_
            refine G_goto C (tgt := 18) d_Law_969 (by decide) ?_
            exact G_sub [1, 2, 3, 0] (by rfl) (ih _ _ hq)
          · replace hq := hq.2 c
            refine G_iconst C (v := 0) d_Law_606 (by decide) ?_
            exact hq.elim
        | 12, _, c =>
          replace hq := hq.2.2.2.2.2.2.2.2.2.2.2.2.1 c
          refine G_aload_n C 1 d_Law_608 rfl rfl ?_
          refine G_aload_n C 0 d_Law_609 rfl rfl ?_
          refine G_iload_n C 3 d_Law_610 rfl rfl ?_
          refine G_iconst C (v := 1) d_Law_611 (by decide) ?_
          refine G_iadd C d_Law_612 ?_
          refine G_sld C hX hbl hbA hq.1 d_Law_613 ?_
          replace hq := hq.2
          refine G_callV C (s_Nf_holes hq) v_Nf_holes i_Nf_holes z_Nf_holes wd_337 (by decide) rfl (k := 0) (ci := 6) (by decide) rfl rfl rfl (rest := []) (by rfl) (Nat.le_of_ble_eq_true rfl) d_Law_614 (ki_ (fun r50 M49 hq => ?_))
          refine G_aload_n C 2 d_Law_617 rfl rfl ?_
          refine G_aload_n C 0 d_Law_618 rfl rfl ?_
          refine G_iload_n C 3 d_Law_619 rfl rfl ?_
          refine G_iconst C (v := 1) d_Law_620 (by decide) ?_
          refine G_iadd C d_Law_621 ?_
          refine G_sld C hX hbl hbA hq.1 d_Law_622 ?_
          replace hq := hq.2
          refine G_callV C (s_Mo_holes hq) v_Mo_holes i_Mo_holes z_Mo_holes wd_711 (by decide) rfl (k := 56) (ci := 7) (by decide) rfl rfl rfl (rest := [_]) (by rfl) (Nat.le_of_ble_eq_true rfl) d_Law_623 (ki_ (fun r52 M51 hq => ?_))
          refine G_icmp_eq C (tgt := 966) d_Law_626 (by decide) (fun c => ?_) (fun c => ?_)
          · replace hq := hq.1 c
            refine G_iinc C (v := _ + 6) (lv' := [(3, _), (0, _), (1, _), (2, _)]) 3 d_Law_966 rfl rfl (by decide) rfl ?_
            refine G_goto C (tgt := 18) d_Law_969 (by decide) ?_
            exact G_sub [1, 2, 3, 0] (by rfl) (ih _ _ hq)
          · replace hq := hq.2 c
            refine G_iconst C (v := 0) d_Law_629 (by decide) ?_
            exact hq.elim
        | 13, _, c =>
          replace hq := hq.2.2.2.2.2.2.2.2.2.2.2.2.2.1 c
          refine G_aload_n C 1 d_Law_631 rfl rfl ?_
          refine G_aload_n C 0 d_Law_632 rfl rfl ?_
          refine G_iload_n C 3 d_Law_633 rfl rfl ?_
          refine G_iconst C (v := 1) d_Law_634 (by decide) ?_
          refine G_iadd C d_Law_635 ?_
          refine G_sld C hX hbl hbA hq.1 d_Law_636 ?_
          replace hq := hq.2
          refine G_aload_n C 0 d_Law_637 rfl rfl ?_
          refine G_iload_n C 3 d_Law_638 rfl rfl ?_
          refine G_iconst C (v := 2) d_Law_639 (by decide) ?_
          refine G_iadd C d_Law_640 ?_
          refine G_sld C hX hbl hbA hq.1 d_Law_641 ?_
          replace hq := hq.2
          refine G_callV C (s_Nf_potential hq) v_Nf_potential i_Nf_potential z_Nf_potential wd_374 (by decide) rfl (k := 0) (ci := 6) (by decide) rfl rfl rfl (rest := []) (by rfl) (Nat.le_of_ble_eq_true rfl) d_Law_642 (ki_ (fun r54 M53 hq => ?_))
          refine G_aload_n C 2 d_Law_645 rfl rfl ?_
          refine G_aload_n C 0 d_Law_646 rfl rfl ?_
          refine G_iload_n C 3 d_Law_647 rfl rfl ?_
          refine G_iconst C (v := 1) d_Law_648 (by decide) ?_
          refine G_iadd C d_Law_649 ?_
          refine G_sld C hX hbl hbA hq.1 d_Law_650 ?_
          replace hq := hq.2
          refine G_aload_n C 0 d_Law_651 rfl rfl ?_
          refine G_iload_n C 3 d_Law_652 rfl rfl ?_
          refine G_iconst C (v := 2) d_Law_653 (by decide) ?_
          refine G_iadd C d_Law_654 ?_
          refine G_sld C hX hbl hbA hq.1 d_Law_655 ?_
          replace hq := hq.2
          refine G_callV C (s_Mo_potential hq) v_Mo_potential i_Mo_potential z_Mo_potential wd_744 (by decide) rfl (k := 56) (ci := 7) (by decide) rfl rfl rfl (rest := [_]) (by rfl) (Nat.le_of_ble_eq_true rfl) d_Law_656 (ki_ (fun r56 M55 hq => ?_))
          refine G_icmp_eq C (tgt := 966) d_Law_659 (by decide) (fun c => ?_) (fun c => ?_)
          · replace hq := hq.1 c
            refine G_iinc C (v := _ + 6) (lv' := [(3, _), (0, _), (1, _), (2, _)]) 3 d_Law_966 rfl rfl (by decide) rfl ?_
            refine G_goto C (tgt := 18) d_Law_969 (by decide) ?_
            exact G_sub [1, 2, 3, 0] (by rfl) (ih _ _ hq)
          · replace hq := hq.2 c
            refine G_iconst C (v := 0) d_Law_662 (by decide) ?_
            exact hq.elim
        | 14, _, c =>
          replace hq := hq.2.2.2.2.2.2.2.2.2.2.2.2.2.2.1 c
          refine G_aload_n C 1 d_Law_664 rfl rfl ?_
          refine G_aload_n C 0 d_Law_665 rfl rfl ?_
          refine G_iload_n C 3 d_Law_666 rfl rfl ?_
          refine G_iconst C (v := 1) d_Law_667 (by decide) ?_
          refine G_iadd C d_Law_668 ?_
          refine G_sld C hX hbl hbA hq.1 d_Law_669 ?_
          replace hq := hq.2
          refine G_aload_n C 0 d_Law_670 rfl rfl ?_
          refine G_iload_n C 3 d_Law_671 rfl rfl ?_
          refine G_iconst C (v := 2) d_Law_672 (by decide) ?_
          refine G_iadd C d_Law_673 ?_
          refine G_sld C hX hbl hbA hq.1 d_Law_674 ?_
          replace hq := hq.2
          refine G_aload_n C 0 d_Law_675 rfl rfl ?_
          refine G_iload_n C 3 d_Law_676 rfl rfl ?_
          refine G_iconst C (v := 3) d_Law_677 (by decide) ?_
          refine G_iadd C d_Law_678 ?_
          refine G_sld C hX hbl hbA hq.1 d_Law_679 ?_
          replace hq := hq.2
          refine G_aload_n C 0 d_Law_680 rfl rfl ?_
          refine G_iload_n C 3 d_Law_681 rfl rfl ?_
          refine G_iconst C (v := 4) d_Law_682 (by decide) ?_
          refine G_iadd C d_Law_683 ?_
          refine G_sld C hX hbl hbA hq.1 d_Law_684 ?_
          replace hq := hq.2
          refine G_callV C (s_Nf_split hq) v_Nf_split i_Nf_split z_Nf_split wd_391 (by decide) rfl (k := 0) (ci := 6) (by decide) rfl rfl rfl (rest := []) (by rfl) (Nat.le_of_ble_eq_true rfl) d_Law_685 (kj_ (fun r58 M57 hq => ?_))
          refine G_aload_n C 2 d_Law_688 rfl rfl ?_
          refine G_aload_n C 0 d_Law_689 rfl rfl ?_
          refine G_iload_n C 3 d_Law_690 rfl rfl ?_
          refine G_iconst C (v := 1) d_Law_691 (by decide) ?_
          refine G_iadd C d_Law_692 ?_
          refine G_sld C hX hbl hbA hq.1 d_Law_693 ?_
          replace hq := hq.2
          refine G_aload_n C 0 d_Law_694 rfl rfl ?_
          refine G_iload_n C 3 d_Law_695 rfl rfl ?_
          refine G_iconst C (v := 2) d_Law_696 (by decide) ?_
          refine G_iadd C d_Law_697 ?_
          refine G_sld C hX hbl hbA hq.1 d_Law_698 ?_
          replace hq := hq.2
          refine G_aload_n C 0 d_Law_699 rfl rfl ?_
          refine G_iload_n C 3 d_Law_700 rfl rfl ?_
          refine G_iconst C (v := 3) d_Law_701 (by decide) ?_
          refine G_iadd C d_Law_702 ?_
          refine G_sld C hX hbl hbA hq.1 d_Law_703 ?_
          replace hq := hq.2
          refine G_aload_n C 0 d_Law_704 rfl rfl ?_
          refine G_iload_n C 3 d_Law_705 rfl rfl ?_
          refine G_iconst C (v := 4) d_Law_706 (by decide) ?_
          refine G_iadd C d_Law_707 ?_
          refine G_sld C hX hbl hbA hq.1 d_Law_708 ?_
          replace hq := hq.2
          refine G_callV C (s_Mo_split hq) v_Mo_split i_Mo_split z_Mo_split wd_748 (by decide) rfl (k := 56) (ci := 7) (by decide) rfl rfl rfl (rest := [_]) (by rfl) (Nat.le_of_ble_eq_true rfl) d_Law_709 (kj_ (fun r60 M59 hq => ?_))
          refine G_lcmp_eq C (tgt := 966) (pc1 := 713) d_Law_712 rfl d_Law_713 (by decide) (fun c => ?_) (fun c => ?_)
          · replace hq := hq.1 c
            refine G_iinc C (v := _ + 6) (lv' := [(3, _), (0, _), (1, _), (2, _)]) 3 d_Law_966 rfl rfl (by decide) rfl ?_
            refine G_goto C (tgt := 18) d_Law_969 (by decide) ?_
            exact G_sub [1, 2, 3, 0] (by rfl) (ih _ _ hq)
          · replace hq := hq.2 c
            refine G_iconst C (v := 0) d_Law_716 (by decide) ?_
            exact hq.elim
        | 15, _, c =>
          replace hq := hq.2.2.2.2.2.2.2.2.2.2.2.2.2.2.2.1 c
          refine G_aload_n C 1 d_Law_718 rfl rfl ?_
          refine G_aload_n C 0 d_Law_719 rfl rfl ?_
          refine G_iload_n C 3 d_Law_720 rfl rfl ?_
          refine G_iconst C (v := 1) d_Law_721 (by decide) ?_
          refine G_iadd C d_Law_722 ?_
          refine G_sld C hX hbl hbA hq.1 d_Law_723 ?_
          replace hq := hq.2
          refine G_aload_n C 0 d_Law_724 rfl rfl ?_
          refine G_iload_n C 3 d_Law_725 rfl rfl ?_
          refine G_iconst C (v := 2) d_Law_726 (by decide) ?_
          refine G_iadd C d_Law_727 ?_
          refine G_sld C hX hbl hbA hq.1 d_Law_728 ?_
          replace hq := hq.2
          refine G_callV C (s_Nf_wall hq) v_Nf_wall i_Nf_wall z_Nf_wall wd_427 (by decide) rfl (k := 0) (ci := 6) (by decide) rfl rfl rfl (rest := []) (by rfl) (Nat.le_of_ble_eq_true rfl) d_Law_729 (ki_ (fun r62 M61 hq => ?_))
          refine G_aload_n C 2 d_Law_732 rfl rfl ?_
          refine G_aload_n C 0 d_Law_733 rfl rfl ?_
          refine G_iload_n C 3 d_Law_734 rfl rfl ?_
          refine G_iconst C (v := 1) d_Law_735 (by decide) ?_
          refine G_iadd C d_Law_736 ?_
          refine G_sld C hX hbl hbA hq.1 d_Law_737 ?_
          replace hq := hq.2
          refine G_aload_n C 0 d_Law_738 rfl rfl ?_
          refine G_iload_n C 3 d_Law_739 rfl rfl ?_
          refine G_iconst C (v := 2) d_Law_740 (by decide) ?_
          refine G_iadd C d_Law_741 ?_
          refine G_sld C hX hbl hbA hq.1 d_Law_742 ?_
          replace hq := hq.2
          refine G_callV C (s_Mo_wall hq) v_Mo_wall i_Mo_wall z_Mo_wall wd_771 (by decide) rfl (k := 56) (ci := 7) (by decide) rfl rfl rfl (rest := [_]) (by rfl) (Nat.le_of_ble_eq_true rfl) d_Law_743 (ki_ (fun r64 M63 hq => ?_))
          refine G_icmp_eq C (tgt := 966) d_Law_746 (by decide) (fun c => ?_) (fun c => ?_)
          · replace hq := hq.1 c
            refine G_iinc C (v := _ + 6) (lv' := [(3, _), (0, _), (1, _), (2, _)]) 3 d_Law_966 rfl rfl (by decide) rfl ?_
            refine G_goto C (tgt := 18) d_Law_969 (by decide) ?_
            exact G_sub [1, 2, 3, 0] (by rfl) (ih _ _ hq)
          · replace hq := hq.2 c
            refine G_iconst C (v := 0) d_Law_749 (by decide) ?_
            exact hq.elim
        | 16, _, c =>
          replace hq := hq.2.2.2.2.2.2.2.2.2.2.2.2.2.2.2.2.1 c
          refine G_aload_n C 1 d_Law_751 rfl rfl ?_
          refine G_aload_n C 0 d_Law_752 rfl rfl ?_
          refine G_iload_n C 3 d_Law_753 rfl rfl ?_
          refine G_iconst C (v := 1) d_Law_754 (by decide) ?_
          refine G_iadd C d_Law_755 ?_
          refine G_sld C hX hbl hbA hq.1 d_Law_756 ?_
          replace hq := hq.2
          refine G_callV C (s_Nf_open hq) v_Nf_open i_Nf_open z_Nf_open wd_431 (by decide) rfl (k := 0) (ci := 6) (by decide) rfl rfl rfl (rest := []) (by rfl) (Nat.le_of_ble_eq_true rfl) d_Law_757 (ki_ (fun r66 M65 hq => ?_))
          refine G_aload_n C 2 d_Law_760 rfl rfl ?_
          refine G_aload_n C 0 d_Law_761 rfl rfl ?_
          refine G_iload_n C 3 d_Law_762 rfl rfl ?_
          refine G_iconst C (v := 1) d_Law_763 (by decide) ?_
          refine G_iadd C d_Law_764 ?_
          refine G_sld C hX hbl hbA hq.1 d_Law_765 ?_
          replace hq := hq.2
          refine G_callV C (s_Mo_open hq) v_Mo_open i_Mo_open z_Mo_open wd_775 (by decide) rfl (k := 56) (ci := 7) (by decide) rfl rfl rfl (rest := [_]) (by rfl) (Nat.le_of_ble_eq_true rfl) d_Law_766 (ki_ (fun r68 M67 hq => ?_))
          refine G_icmp_eq C (tgt := 966) d_Law_769 (by decide) (fun c => ?_) (fun c => ?_)
          · replace hq := hq.1 c
            refine G_iinc C (v := _ + 6) (lv' := [(3, _), (0, _), (1, _), (2, _)]) 3 d_Law_966 rfl rfl (by decide) rfl ?_
            refine G_goto C (tgt := 18) d_Law_969 (by decide) ?_
            exact G_sub [1, 2, 3, 0] (by rfl) (ih _ _ hq)
          · replace hq := hq.2 c
            refine G_iconst C (v := 0) d_Law_772 (by decide) ?_
            exact hq.elim
        | 17, _, c =>
          replace hq := hq.2.2.2.2.2.2.2.2.2.2.2.2.2.2.2.2.2.1 c
          refine G_aload_n C 1 d_Law_774 rfl rfl ?_
          refine G_callV C (s_Nf_field hq) v_Nf_field i_Nf_field z_Nf_field wd_436 (by decide) rfl (k := 0) (ci := 6) (by decide) rfl rfl rfl (rest := []) (by rfl) (Nat.le_of_ble_eq_true rfl) d_Law_775 (ki_ (fun r70 M69 hq => ?_))
          refine G_aload_n C 2 d_Law_778 rfl rfl ?_
          refine G_callV C (s_Mo_field hq) v_Mo_field i_Mo_field z_Mo_field wd_780 (by decide) rfl (k := 56) (ci := 7) (by decide) rfl rfl rfl (rest := [_]) (by rfl) (Nat.le_of_ble_eq_true rfl) d_Law_779 (ki_ (fun r72 M71 hq => ?_))
          refine G_icmp_eq C (tgt := 966) d_Law_782 (by decide) (fun c => ?_) (fun c => ?_)
          · replace hq := hq.1 c
            refine G_iinc C (v := _ + 6) (lv' := [(3, _), (0, _), (1, _), (2, _)]) 3 d_Law_966 rfl rfl (by decide) rfl ?_
            refine G_goto C (tgt := 18) d_Law_969 (by decide) ?_
            exact G_sub [1, 2, 3, 0] (by rfl) (ih _ _ hq)
          · replace hq := hq.2 c
            refine G_iconst C (v := 0) d_Law_785 (by decide) ?_
            exact hq.elim
        | 18, _, c =>
          replace hq := hq.2.2.2.2.2.2.2.2.2.2.2.2.2.2.2.2.2.2.1 c
          refine G_aload_n C 1 d_Law_787 rfl rfl ?_
          refine G_aload_n C 0 d_Law_788 rfl rfl ?_
          refine G_iload_n C 3 d_Law_789 rfl rfl ?_
          refine G_iconst C (v := 1) d_Law_790 (by decide) ?_
          refine G_iadd C d_Law_791 ?_
          refine G_sld C hX hbl hbA hq.1 d_Law_792 ?_
          replace hq := hq.2
          refine G_aload_n C 0 d_Law_793 rfl rfl ?_
          refine G_iload_n C 3 d_Law_794 rfl rfl ?_
          refine G_iconst C (v := 2) d_Law_795 (by decide) ?_
          refine G_iadd C d_Law_796 ?_
          refine G_sld C hX hbl hbA hq.1 d_Law_797 ?_
          replace hq := hq.2
          refine G_callV C (s_Nf_fieldAt hq) v_Nf_fieldAt i_Nf_fieldAt z_Nf_fieldAt wd_448 (by decide) rfl (k := 0) (ci := 6) (by decide) rfl rfl rfl (rest := []) (by rfl) (Nat.le_of_ble_eq_true rfl) d_Law_798 (kj_ (fun r74 M73 hq => ?_))
          refine G_aload_n C 2 d_Law_801 rfl rfl ?_
          refine G_aload_n C 0 d_Law_802 rfl rfl ?_
          refine G_iload_n C 3 d_Law_803 rfl rfl ?_
          refine G_iconst C (v := 1) d_Law_804 (by decide) ?_
          refine G_iadd C d_Law_805 ?_
          refine G_sld C hX hbl hbA hq.1 d_Law_806 ?_
          replace hq := hq.2
          refine G_aload_n C 0 d_Law_807 rfl rfl ?_
          refine G_iload_n C 3 d_Law_808 rfl rfl ?_
          refine G_iconst C (v := 2) d_Law_809 (by decide) ?_
          refine G_iadd C d_Law_810 ?_
          refine G_sld C hX hbl hbA hq.1 d_Law_811 ?_
          replace hq := hq.2
          refine G_callV C (s_Mo_fieldAt hq) v_Mo_fieldAt i_Mo_fieldAt z_Mo_fieldAt wd_788 (by decide) rfl (k := 56) (ci := 7) (by decide) rfl rfl rfl (rest := [_]) (by rfl) (Nat.le_of_ble_eq_true rfl) d_Law_812 (kj_ (fun r76 M75 hq => ?_))
          refine G_lcmp_eq C (tgt := 966) (pc1 := 816) d_Law_815 rfl d_Law_816 (by decide) (fun c => ?_) (fun c => ?_)
          · replace hq := hq.1 c
            refine G_iinc C (v := _ + 6) (lv' := [(3, _), (0, _), (1, _), (2, _)]) 3 d_Law_966 rfl rfl (by decide) rfl ?_
            refine G_goto C (tgt := 18) d_Law_969 (by decide) ?_
            exact G_sub [1, 2, 3, 0] (by rfl) (ih _ _ hq)
          · replace hq := hq.2 c
            refine G_iconst C (v := 0) d_Law_819 (by decide) ?_
            exact hq.elim
        | 19, _, c =>
          replace hq := hq.2.2.2.2.2.2.2.2.2.2.2.2.2.2.2.2.2.2.2.1 c
          refine G_aload_n C 1 d_Law_821 rfl rfl ?_
          refine G_aload_n C 0 d_Law_822 rfl rfl ?_
          refine G_iload_n C 3 d_Law_823 rfl rfl ?_
          refine G_iconst C (v := 1) d_Law_824 (by decide) ?_
          refine G_iadd C d_Law_825 ?_
          refine G_sld C hX hbl hbA hq.1 d_Law_826 ?_
          replace hq := hq.2
          refine G_callV C (s_Nf_wave hq) v_Nf_wave i_Nf_wave z_Nf_wave wd_460 (by decide) rfl (k := 0) (ci := 6) (by decide) rfl rfl rfl (rest := []) (by rfl) (Nat.le_of_ble_eq_true rfl) d_Law_827 (ki_ (fun r78 M77 hq => ?_))
          refine G_aload_n C 2 d_Law_830 rfl rfl ?_
          refine G_aload_n C 0 d_Law_831 rfl rfl ?_
          refine G_iload_n C 3 d_Law_832 rfl rfl ?_
          refine G_iconst C (v := 1) d_Law_833 (by decide) ?_
          refine G_iadd C d_Law_834 ?_
          refine G_sld C hX hbl hbA hq.1 d_Law_835 ?_
          replace hq := hq.2
          refine G_callV C (s_Mo_wave hq) v_Mo_wave i_Mo_wave z_Mo_wave wd_792 (by decide) rfl (k := 56) (ci := 7) (by decide) rfl rfl rfl (rest := [_]) (by rfl) (Nat.le_of_ble_eq_true rfl) d_Law_836 (ki_ (fun r80 M79 hq => ?_))
          refine G_icmp_eq C (tgt := 966) d_Law_839 (by decide) (fun c => ?_) (fun c => ?_)
          · replace hq := hq.1 c
            refine G_iinc C (v := _ + 6) (lv' := [(3, _), (0, _), (1, _), (2, _)]) 3 d_Law_966 rfl rfl (by decide) rfl ?_
            refine G_goto C (tgt := 18) d_Law_969 (by decide) ?_
            exact G_sub [1, 2, 3, 0] (by rfl) (ih _ _ hq)
          · replace hq := hq.2 c
            refine G_iconst C (v := 0) d_Law_842 (by decide) ?_
            exact hq.elim
        | 20, _, c =>
          replace hq := hq.2.2.2.2.2.2.2.2.2.2.2.2.2.2.2.2.2.2.2.2.1 c
          refine G_aload_n C 1 d_Law_844 rfl rfl ?_
          refine G_aload_n C 0 d_Law_845 rfl rfl ?_
          refine G_iload_n C 3 d_Law_846 rfl rfl ?_
          refine G_iconst C (v := 1) d_Law_847 (by decide) ?_
          refine G_iadd C d_Law_848 ?_
          refine G_sld C hX hbl hbA hq.1 d_Law_849 ?_
          replace hq := hq.2
          refine G_callV C (s_Nf_raise hq) v_Nf_raise i_Nf_raise z_Nf_raise wd_472 (by decide) rfl (k := 0) (ci := 6) (by decide) rfl rfl rfl (rest := []) (by rfl) (Nat.le_of_ble_eq_true rfl) d_Law_850 (ki_ (fun r82 M81 hq => ?_))
          refine G_aload_n C 2 d_Law_853 rfl rfl ?_
          refine G_aload_n C 0 d_Law_854 rfl rfl ?_
          refine G_iload_n C 3 d_Law_855 rfl rfl ?_
          refine G_iconst C (v := 1) d_Law_856 (by decide) ?_
          refine G_iadd C d_Law_857 ?_
          refine G_sld C hX hbl hbA hq.1 d_Law_858 ?_
          replace hq := hq.2
          refine G_callV C (s_Mo_raise hq) v_Mo_raise i_Mo_raise z_Mo_raise wd_806 (by decide) rfl (k := 56) (ci := 7) (by decide) rfl rfl rfl (rest := [_]) (by rfl) (Nat.le_of_ble_eq_true rfl) d_Law_859 (ki_ (fun r84 M83 hq => ?_))
          refine G_icmp_eq C (tgt := 966) d_Law_862 (by decide) (fun c => ?_) (fun c => ?_)
          · replace hq := hq.1 c
            refine G_iinc C (v := _ + 6) (lv' := [(3, _), (0, _), (1, _), (2, _)]) 3 d_Law_966 rfl rfl (by decide) rfl ?_
            refine G_goto C (tgt := 18) d_Law_969 (by decide) ?_
            exact G_sub [1, 2, 3, 0] (by rfl) (ih _ _ hq)
          · replace hq := hq.2 c
            refine G_iconst C (v := 0) d_Law_865 (by decide) ?_
            exact hq.elim
        | 21, _, c =>
          replace hq := hq.2.2.2.2.2.2.2.2.2.2.2.2.2.2.2.2.2.2.2.2.2.1 c
          refine G_aload_n C 1 d_Law_867 rfl rfl ?_
          refine G_aload_n C 0 d_Law_868 rfl rfl ?_
          refine G_iload_n C 3 d_Law_869 rfl rfl ?_
          refine G_iconst C (v := 1) d_Law_870 (by decide) ?_
          refine G_iadd C d_Law_871 ?_
          refine G_sld C hX hbl hbA hq.1 d_Law_872 ?_
          replace hq := hq.2
          refine G_callV C (s_Nf_height hq) v_Nf_height i_Nf_height z_Nf_height wd_476 (by decide) rfl (k := 0) (ci := 6) (by decide) rfl rfl rfl (rest := []) (by rfl) (Nat.le_of_ble_eq_true rfl) d_Law_873 (kj_ (fun r86 M85 hq => ?_))
          refine G_aload_n C 2 d_Law_876 rfl rfl ?_
          refine G_aload_n C 0 d_Law_877 rfl rfl ?_
          refine G_iload_n C 3 d_Law_878 rfl rfl ?_
          refine G_iconst C (v := 1) d_Law_879 (by decide) ?_
          refine G_iadd C d_Law_880 ?_
          refine G_sld C hX hbl hbA hq.1 d_Law_881 ?_
          replace hq := hq.2
          refine G_callV C (s_Mo_height hq) v_Mo_height i_Mo_height z_Mo_height wd_810 (by decide) rfl (k := 56) (ci := 7) (by decide) rfl rfl rfl (rest := [_]) (by rfl) (Nat.le_of_ble_eq_true rfl) d_Law_882 (kj_ (fun r88 M87 hq => ?_))
          refine G_lcmp_eq C (tgt := 966) (pc1 := 886) d_Law_885 rfl d_Law_886 (by decide) (fun c => ?_) (fun c => ?_)
          · replace hq := hq.1 c
            refine G_iinc C (v := _ + 6) (lv' := [(3, _), (0, _), (1, _), (2, _)]) 3 d_Law_966 rfl rfl (by decide) rfl ?_
            refine G_goto C (tgt := 18) d_Law_969 (by decide) ?_
            exact G_sub [1, 2, 3, 0] (by rfl) (ih _ _ hq)
          · replace hq := hq.2 c
            refine G_iconst C (v := 0) d_Law_889 (by decide) ?_
            exact hq.elim
        | 22, _, c =>
          replace hq := hq.2.2.2.2.2.2.2.2.2.2.2.2.2.2.2.2.2.2.2.2.2.2.1 c
          refine G_aload_n C 1 d_Law_891 rfl rfl ?_
          refine G_aload_n C 0 d_Law_892 rfl rfl ?_
          refine G_iload_n C 3 d_Law_893 rfl rfl ?_
          refine G_iconst C (v := 1) d_Law_894 (by decide) ?_
          refine G_iadd C d_Law_895 ?_
          refine G_sld C hX hbl hbA hq.1 d_Law_896 ?_
          replace hq := hq.2
          refine G_callV C (s_Nf_flow hq) v_Nf_flow i_Nf_flow z_Nf_flow wd_480 (by decide) rfl (k := 0) (ci := 6) (by decide) rfl rfl rfl (rest := []) (by rfl) (Nat.le_of_ble_eq_true rfl) d_Law_897 (kj_ (fun r90 M89 hq => ?_))
          refine G_aload_n C 2 d_Law_900 rfl rfl ?_
          refine G_aload_n C 0 d_Law_901 rfl rfl ?_
          refine G_iload_n C 3 d_Law_902 rfl rfl ?_
          refine G_iconst C (v := 1) d_Law_903 (by decide) ?_
          refine G_iadd C d_Law_904 ?_
          refine G_sld C hX hbl hbA hq.1 d_Law_905 ?_
          replace hq := hq.2
          refine G_callV C (s_Mo_flow hq) v_Mo_flow i_Mo_flow z_Mo_flow wd_814 (by decide) rfl (k := 56) (ci := 7) (by decide) rfl rfl rfl (rest := [_]) (by rfl) (Nat.le_of_ble_eq_true rfl) d_Law_906 (kj_ (fun r92 M91 hq => ?_))
          refine G_lcmp_eq C (tgt := 966) (pc1 := 910) d_Law_909 rfl d_Law_910 (by decide) (fun c => ?_) (fun c => ?_)
          · replace hq := hq.1 c
            refine G_iinc C (v := _ + 6) (lv' := [(3, _), (0, _), (1, _), (2, _)]) 3 d_Law_966 rfl rfl (by decide) rfl ?_
            refine G_goto C (tgt := 18) d_Law_969 (by decide) ?_
            exact G_sub [1, 2, 3, 0] (by rfl) (ih _ _ hq)
          · replace hq := hq.2 c
            refine G_iconst C (v := 0) d_Law_913 (by decide) ?_
            exact hq.elim
        | 23, _, c =>
          replace hq := hq.2.2.2.2.2.2.2.2.2.2.2.2.2.2.2.2.2.2.2.2.2.2.2.1 c
          refine G_aload_n C 1 d_Law_915 rfl rfl ?_
          refine G_callV C (s_Nf_sum hq) v_Nf_sum i_Nf_sum z_Nf_sum wd_484 (by decide) rfl (k := 0) (ci := 6) (by decide) rfl rfl rfl (rest := []) (by rfl) (Nat.le_of_ble_eq_true rfl) d_Law_916 (kj_ (fun r94 M93 hq => ?_))
          refine G_aload_n C 2 d_Law_919 rfl rfl ?_
          refine G_callV C (s_Mo_sum hq) v_Mo_sum i_Mo_sum z_Mo_sum wd_818 (by decide) rfl (k := 56) (ci := 7) (by decide) rfl rfl rfl (rest := [_]) (by rfl) (Nat.le_of_ble_eq_true rfl) d_Law_920 (kj_ (fun r96 M95 hq => ?_))
          refine G_lcmp_eq C (tgt := 966) (pc1 := 924) d_Law_923 rfl d_Law_924 (by decide) (fun c => ?_) (fun c => ?_)
          · replace hq := hq.1 c
            refine G_iinc C (v := _ + 6) (lv' := [(3, _), (0, _), (1, _), (2, _)]) 3 d_Law_966 rfl rfl (by decide) rfl ?_
            refine G_goto C (tgt := 18) d_Law_969 (by decide) ?_
            exact G_sub [1, 2, 3, 0] (by rfl) (ih _ _ hq)
          · replace hq := hq.2 c
            refine G_iconst C (v := 0) d_Law_927 (by decide) ?_
            exact hq.elim
        | 24, _, c =>
          replace hq := hq.2.2.2.2.2.2.2.2.2.2.2.2.2.2.2.2.2.2.2.2.2.2.2.2.1 c
          refine G_aload_n C 1 d_Law_929 rfl rfl ?_
          refine G_aload_n C 0 d_Law_930 rfl rfl ?_
          refine G_iload_n C 3 d_Law_931 rfl rfl ?_
          refine G_iconst C (v := 1) d_Law_932 (by decide) ?_
          refine G_iadd C d_Law_933 ?_
          refine G_sld C hX hbl hbA hq.1 d_Law_934 ?_
          replace hq := hq.2
          refine G_callV C (s_Nf_count hq) v_Nf_count i_Nf_count z_Nf_count wd_488 (by decide) rfl (k := 0) (ci := 6) (by decide) rfl rfl rfl (rest := []) (by rfl) (Nat.le_of_ble_eq_true rfl) d_Law_935 (ki_ (fun r98 M97 hq => ?_))
          refine G_aload_n C 2 d_Law_938 rfl rfl ?_
          refine G_aload_n C 0 d_Law_939 rfl rfl ?_
          refine G_iload_n C 3 d_Law_940 rfl rfl ?_
          refine G_iconst C (v := 1) d_Law_941 (by decide) ?_
          refine G_iadd C d_Law_942 ?_
          refine G_sld C hX hbl hbA hq.1 d_Law_943 ?_
          replace hq := hq.2
          refine G_callV C (s_Mo_count hq) v_Mo_count i_Mo_count z_Mo_count wd_822 (by decide) rfl (k := 56) (ci := 7) (by decide) rfl rfl rfl (rest := [_]) (by rfl) (Nat.le_of_ble_eq_true rfl) d_Law_944 (ki_ (fun r100 M99 hq => ?_))
          refine G_icmp_eq C (tgt := 966) d_Law_947 (by decide) (fun c => ?_) (fun c => ?_)
          · replace hq := hq.1 c
            refine G_iinc C (v := _ + 6) (lv' := [(3, _), (0, _), (1, _), (2, _)]) 3 d_Law_966 rfl rfl (by decide) rfl ?_
            refine G_goto C (tgt := 18) d_Law_969 (by decide) ?_
            exact G_sub [1, 2, 3, 0] (by rfl) (ih _ _ hq)
          · replace hq := hq.2 c
            refine G_iconst C (v := 0) d_Law_950 (by decide) ?_
            exact hq.elim
        | 25, _, c =>
          replace hq := hq.2.2.2.2.2.2.2.2.2.2.2.2.2.2.2.2.2.2.2.2.2.2.2.2.2.1 c
          refine G_aload_n C 1 d_Law_952 rfl rfl ?_
          refine G_callV C (s_Nf_digest hq) v_Nf_digest i_Nf_digest z_Nf_digest wd_496 (by decide) rfl (k := 0) (ci := 6) (by decide) rfl rfl rfl (rest := []) (by rfl) (Nat.le_of_ble_eq_true rfl) d_Law_953 (kj_ (fun r102 M101 hq => ?_))
          refine G_aload_n C 2 d_Law_956 rfl rfl ?_
          refine G_callV C (s_Mo_digest hq) v_Mo_digest i_Mo_digest z_Mo_digest wd_826 (by decide) rfl (k := 56) (ci := 7) (by decide) rfl rfl rfl (rest := [_]) (by rfl) (Nat.le_of_ble_eq_true rfl) d_Law_957 (kj_ (fun r104 M103 hq => ?_))
          refine G_lcmp_eq C (tgt := 966) (pc1 := 961) d_Law_960 rfl d_Law_961 (by decide) (fun c => ?_) (fun c => ?_)
          · replace hq := hq.1 c
            refine G_iinc C (v := _ + 6) (lv' := [(3, _), (0, _), (1, _), (2, _)]) 3 d_Law_966 rfl rfl (by decide) rfl ?_
            refine G_goto C (tgt := 18) d_Law_969 (by decide) ?_
            exact G_sub [1, 2, 3, 0] (by rfl) (ih _ _ hq)
          · replace hq := hq.2 c
            refine G_iconst C (v := 0) d_Law_964 (by decide) ?_
            exact hq.elim
        | i + 26, hi, _ => exact absurd hi (by omega)
      · replace hq := hq.2.2.2.2.2.2.2.2.2.2.2.2.2.2.2.2.2.2.2.2.2.2.2.2.2.2 c
        refine G_iinc C (v := _ + 6) (lv' := [(3, _), (0, _), (1, _), (2, _)]) 3 d_Law_966 rfl rfl (by decide) rfl ?_
        refine G_goto C (tgt := 18) d_Law_969 (by decide) ?_
        exact G_sub [1, 2, 3, 0] (by rfl) (ih _ _ hq)
