theorem dL_law_0 : decode code 0 = .ok (.new 8, 3) := by decide +kernel
theorem dL_law_3 : decode code 3 = .ok (.dup, 1) := by decide +kernel
theorem dL_law_4 : decode code 4 = .ok (.invokespecial 43, 3) := by decide +kernel
theorem dL_law_7 : decode code 7 = .ok (.astore_n 1, 1) := by decide +kernel
theorem dL_law_8 : decode code 8 = .ok (.new 44, 3) := by decide +kernel
theorem dL_law_11 : decode code 11 = .ok (.dup, 1) := by decide +kernel
theorem dL_law_12 : decode code 12 = .ok (.invokespecial 46, 3) := by decide +kernel
theorem dL_law_15 : decode code 15 = .ok (.astore_n 2, 1) := by decide +kernel
theorem dL_law_16 : decode code 16 = .ok (.iconst 1, 1) := by decide +kernel
theorem dL_law_17 : decode code 17 = .ok (.newarray .long, 2) := by decide +kernel
theorem dL_law_19 : decode code 19 = .ok (.astore_n 3, 1) := by decide +kernel
theorem dL_law_20 : decode code 20 = .ok (.iconst 0, 1) := by decide +kernel
theorem dL_law_21 : decode code 21 = .ok (.istore 4, 2) := by decide +kernel
theorem dL_law_23 : decode code 23 = .ok (.iload 4, 2) := by decide +kernel
theorem dL_law_25 : decode code 25 = .ok (.aload_n 0, 1) := by decide +kernel
theorem dL_law_26 : decode code 26 = .ok (.arraylength, 1) := by decide +kernel
theorem dL_law_27 : decode code 27 = .ok (.iconst 4, 1) := by decide +kernel
theorem dL_law_28 : decode code 28 = .ok (.isub, 1) := by decide +kernel
theorem dL_law_29 : decode code 29 = .ok (.if_icmp .gt 670, 3) := by decide +kernel
theorem dL_law_32 : decode code 32 = .ok (.aload_n 0, 1) := by decide +kernel
theorem dL_law_33 : decode code 33 = .ok (.iload 4, 2) := by decide +kernel
theorem dL_law_35 : decode code 35 = .ok (.iaload, 1) := by decide +kernel
theorem dL_law_36 : decode code 36 = .ok (.bipush 15, 2) := by decide +kernel
theorem dL_law_38 : decode code 38 = .ok (.iand, 1) := by decide +kernel
theorem dL_law_39 : decode code 39 = .ok (.tableswitch 654 0 9 #[53, 109, 134, 202, 282, 350, 406, 474, 530, 586], 53) := by decide +kernel
theorem dL_law_92 : decode code 92 = .ok (.aload_n 1, 1) := by decide +kernel
theorem dL_law_93 : decode code 93 = .ok (.aload_n 0, 1) := by decide +kernel
theorem dL_law_94 : decode code 94 = .ok (.iload 4, 2) := by decide +kernel
theorem dL_law_96 : decode code 96 = .ok (.iconst 1, 1) := by decide +kernel
theorem dL_law_97 : decode code 97 = .ok (.iadd, 1) := by decide +kernel
theorem dL_law_98 : decode code 98 = .ok (.iaload, 1) := by decide +kernel
theorem dL_law_99 : decode code 99 = .ok (.aload_n 3, 1) := by decide +kernel
theorem dL_law_100 : decode code 100 = .ok (.invokestatic 47, 3) := by decide +kernel
theorem dL_law_103 : decode code 103 = .ok (.istore 5, 2) := by decide +kernel
theorem dL_law_105 : decode code 105 = .ok (.aload_n 2, 1) := by decide +kernel
theorem dL_law_106 : decode code 106 = .ok (.aload_n 0, 1) := by decide +kernel
theorem dL_law_107 : decode code 107 = .ok (.iload 4, 2) := by decide +kernel
theorem dL_law_109 : decode code 109 = .ok (.iconst 1, 1) := by decide +kernel
theorem dL_law_110 : decode code 110 = .ok (.iadd, 1) := by decide +kernel
theorem dL_law_111 : decode code 111 = .ok (.iaload, 1) := by decide +kernel
theorem dL_law_112 : decode code 112 = .ok (.invokevirtual 52, 3) := by decide +kernel
theorem dL_law_115 : decode code 115 = .ok (.istore 6, 2) := by decide +kernel
theorem dL_law_117 : decode code 117 = .ok (.aload_n 2, 1) := by decide +kernel
theorem dL_law_118 : decode code 118 = .ok (.invokevirtual 53, 3) := by decide +kernel
theorem dL_law_121 : decode code 121 = .ok (.iload 5, 2) := by decide +kernel
theorem dL_law_123 : decode code 123 = .ok (.if_icmp .eq 5, 3) := by decide +kernel
theorem dL_law_126 : decode code 126 = .ok (.iconst 0, 1) := by decide +kernel
theorem dL_law_127 : decode code 127 = .ok (.ireturn, 1) := by decide +kernel
theorem dL_law_128 : decode code 128 = .ok (.iload 5, 2) := by decide +kernel
theorem dL_law_130 : decode code 130 = .ok (.ifCond .ne 15, 3) := by decide +kernel
theorem dL_law_133 : decode code 133 = .ok (.aload_n 3, 1) := by decide +kernel
theorem dL_law_134 : decode code 134 = .ok (.iconst 0, 1) := by decide +kernel
theorem dL_law_135 : decode code 135 = .ok (.laload, 1) := by decide +kernel
theorem dL_law_136 : decode code 136 = .ok (.iload 6, 2) := by decide +kernel
theorem dL_law_138 : decode code 138 = .ok (.i2l, 1) := by decide +kernel
theorem dL_law_139 : decode code 139 = .ok (.lcmp, 1) := by decide +kernel
theorem dL_law_140 : decode code 140 = .ok (.ifCond .eq 5, 3) := by decide +kernel
theorem dL_law_143 : decode code 143 = .ok (.iconst 0, 1) := by decide +kernel
theorem dL_law_144 : decode code 144 = .ok (.ireturn, 1) := by decide +kernel
theorem dL_law_145 : decode code 145 = .ok (.goto 548, 3) := by decide +kernel
theorem dL_law_148 : decode code 148 = .ok (.aload_n 1, 1) := by decide +kernel
theorem dL_law_149 : decode code 149 = .ok (.aload_n 0, 1) := by decide +kernel
theorem dL_law_150 : decode code 150 = .ok (.iload 4, 2) := by decide +kernel
theorem dL_law_152 : decode code 152 = .ok (.iconst 1, 1) := by decide +kernel
theorem dL_law_153 : decode code 153 = .ok (.iadd, 1) := by decide +kernel
theorem dL_law_154 : decode code 154 = .ok (.iaload, 1) := by decide +kernel
theorem dL_law_155 : decode code 155 = .ok (.invokevirtual 57, 3) := by decide +kernel
theorem dL_law_158 : decode code 158 = .ok (.aload_n 2, 1) := by decide +kernel
theorem dL_law_159 : decode code 159 = .ok (.aload_n 0, 1) := by decide +kernel
theorem dL_law_160 : decode code 160 = .ok (.iload 4, 2) := by decide +kernel
theorem dL_law_162 : decode code 162 = .ok (.iconst 1, 1) := by decide +kernel
theorem dL_law_163 : decode code 163 = .ok (.iadd, 1) := by decide +kernel
theorem dL_law_164 : decode code 164 = .ok (.iaload, 1) := by decide +kernel
theorem dL_law_165 : decode code 165 = .ok (.invokevirtual 60, 3) := by decide +kernel
theorem dL_law_168 : decode code 168 = .ok (.if_icmp .eq 525, 3) := by decide +kernel
theorem dL_law_171 : decode code 171 = .ok (.iconst 0, 1) := by decide +kernel
theorem dL_law_172 : decode code 172 = .ok (.ireturn, 1) := by decide +kernel
theorem dL_law_173 : decode code 173 = .ok (.aload_n 1, 1) := by decide +kernel
theorem dL_law_174 : decode code 174 = .ok (.aload_n 0, 1) := by decide +kernel
theorem dL_law_175 : decode code 175 = .ok (.iload 4, 2) := by decide +kernel
theorem dL_law_177 : decode code 177 = .ok (.iconst 1, 1) := by decide +kernel
theorem dL_law_178 : decode code 178 = .ok (.iadd, 1) := by decide +kernel
theorem dL_law_179 : decode code 179 = .ok (.iaload, 1) := by decide +kernel
theorem dL_law_180 : decode code 180 = .ok (.aload_n 0, 1) := by decide +kernel
theorem dL_law_181 : decode code 181 = .ok (.iload 4, 2) := by decide +kernel
theorem dL_law_183 : decode code 183 = .ok (.iconst 2, 1) := by decide +kernel
theorem dL_law_184 : decode code 184 = .ok (.iadd, 1) := by decide +kernel
theorem dL_law_185 : decode code 185 = .ok (.iaload, 1) := by decide +kernel
theorem dL_law_186 : decode code 186 = .ok (.aload_n 3, 1) := by decide +kernel
theorem dL_law_187 : decode code 187 = .ok (.invokestatic 61, 3) := by decide +kernel
theorem dL_law_190 : decode code 190 = .ok (.istore 5, 2) := by decide +kernel
theorem dL_law_192 : decode code 192 = .ok (.aload_n 2, 1) := by decide +kernel
theorem dL_law_193 : decode code 193 = .ok (.aload_n 0, 1) := by decide +kernel
theorem dL_law_194 : decode code 194 = .ok (.iload 4, 2) := by decide +kernel
theorem dL_law_196 : decode code 196 = .ok (.iconst 1, 1) := by decide +kernel
theorem dL_law_197 : decode code 197 = .ok (.iadd, 1) := by decide +kernel
theorem dL_law_198 : decode code 198 = .ok (.iaload, 1) := by decide +kernel
theorem dL_law_199 : decode code 199 = .ok (.aload_n 0, 1) := by decide +kernel
theorem dL_law_200 : decode code 200 = .ok (.iload 4, 2) := by decide +kernel
theorem dL_law_202 : decode code 202 = .ok (.iconst 2, 1) := by decide +kernel
theorem dL_law_203 : decode code 203 = .ok (.iadd, 1) := by decide +kernel
theorem dL_law_204 : decode code 204 = .ok (.iaload, 1) := by decide +kernel
theorem dL_law_205 : decode code 205 = .ok (.invokevirtual 64, 3) := by decide +kernel
theorem dL_law_208 : decode code 208 = .ok (.istore 6, 2) := by decide +kernel
theorem dL_law_210 : decode code 210 = .ok (.aload_n 2, 1) := by decide +kernel
theorem dL_law_211 : decode code 211 = .ok (.invokevirtual 53, 3) := by decide +kernel
theorem dL_law_214 : decode code 214 = .ok (.iload 5, 2) := by decide +kernel
theorem dL_law_216 : decode code 216 = .ok (.if_icmp .eq 5, 3) := by decide +kernel
theorem dL_law_219 : decode code 219 = .ok (.iconst 0, 1) := by decide +kernel
theorem dL_law_220 : decode code 220 = .ok (.ireturn, 1) := by decide +kernel
theorem dL_law_221 : decode code 221 = .ok (.iload 5, 2) := by decide +kernel
theorem dL_law_223 : decode code 223 = .ok (.ifCond .ne 15, 3) := by decide +kernel
theorem dL_law_226 : decode code 226 = .ok (.aload_n 3, 1) := by decide +kernel
theorem dL_law_227 : decode code 227 = .ok (.iconst 0, 1) := by decide +kernel
theorem dL_law_228 : decode code 228 = .ok (.laload, 1) := by decide +kernel
theorem dL_law_229 : decode code 229 = .ok (.iload 6, 2) := by decide +kernel
theorem dL_law_231 : decode code 231 = .ok (.i2l, 1) := by decide +kernel
theorem dL_law_232 : decode code 232 = .ok (.lcmp, 1) := by decide +kernel
theorem dL_law_233 : decode code 233 = .ok (.ifCond .eq 5, 3) := by decide +kernel
theorem dL_law_236 : decode code 236 = .ok (.iconst 0, 1) := by decide +kernel
theorem dL_law_237 : decode code 237 = .ok (.ireturn, 1) := by decide +kernel
theorem dL_law_238 : decode code 238 = .ok (.goto 455, 3) := by decide +kernel
theorem dL_law_241 : decode code 241 = .ok (.aload_n 1, 1) := by decide +kernel
theorem dL_law_242 : decode code 242 = .ok (.aload_n 0, 1) := by decide +kernel
theorem dL_law_243 : decode code 243 = .ok (.iload 4, 2) := by decide +kernel
theorem dL_law_245 : decode code 245 = .ok (.iconst 1, 1) := by decide +kernel
theorem dL_law_246 : decode code 246 = .ok (.iadd, 1) := by decide +kernel
theorem dL_law_247 : decode code 247 = .ok (.iaload, 1) := by decide +kernel
theorem dL_law_248 : decode code 248 = .ok (.aload_n 0, 1) := by decide +kernel
theorem dL_law_249 : decode code 249 = .ok (.iload 4, 2) := by decide +kernel
theorem dL_law_251 : decode code 251 = .ok (.iconst 2, 1) := by decide +kernel
theorem dL_law_252 : decode code 252 = .ok (.iadd, 1) := by decide +kernel
theorem dL_law_253 : decode code 253 = .ok (.iaload, 1) := by decide +kernel
theorem dL_law_254 : decode code 254 = .ok (.aload_n 0, 1) := by decide +kernel
theorem dL_law_255 : decode code 255 = .ok (.iload 4, 2) := by decide +kernel
theorem dL_law_257 : decode code 257 = .ok (.iconst 3, 1) := by decide +kernel
theorem dL_law_258 : decode code 258 = .ok (.iadd, 1) := by decide +kernel
theorem dL_law_259 : decode code 259 = .ok (.iaload, 1) := by decide +kernel
theorem dL_law_260 : decode code 260 = .ok (.aload_n 3, 1) := by decide +kernel
theorem dL_law_261 : decode code 261 = .ok (.invokestatic 65, 3) := by decide +kernel
theorem dL_law_264 : decode code 264 = .ok (.istore 5, 2) := by decide +kernel
theorem dL_law_266 : decode code 266 = .ok (.aload_n 2, 1) := by decide +kernel
theorem dL_law_267 : decode code 267 = .ok (.aload_n 0, 1) := by decide +kernel
theorem dL_law_268 : decode code 268 = .ok (.iload 4, 2) := by decide +kernel
theorem dL_law_270 : decode code 270 = .ok (.iconst 1, 1) := by decide +kernel
theorem dL_law_271 : decode code 271 = .ok (.iadd, 1) := by decide +kernel
theorem dL_law_272 : decode code 272 = .ok (.iaload, 1) := by decide +kernel
theorem dL_law_273 : decode code 273 = .ok (.aload_n 0, 1) := by decide +kernel
theorem dL_law_274 : decode code 274 = .ok (.iload 4, 2) := by decide +kernel
theorem dL_law_276 : decode code 276 = .ok (.iconst 2, 1) := by decide +kernel
theorem dL_law_277 : decode code 277 = .ok (.iadd, 1) := by decide +kernel
theorem dL_law_278 : decode code 278 = .ok (.iaload, 1) := by decide +kernel
theorem dL_law_279 : decode code 279 = .ok (.aload_n 0, 1) := by decide +kernel
theorem dL_law_280 : decode code 280 = .ok (.iload 4, 2) := by decide +kernel
theorem dL_law_282 : decode code 282 = .ok (.iconst 3, 1) := by decide +kernel
theorem dL_law_283 : decode code 283 = .ok (.iadd, 1) := by decide +kernel
theorem dL_law_284 : decode code 284 = .ok (.iaload, 1) := by decide +kernel
theorem dL_law_285 : decode code 285 = .ok (.invokevirtual 68, 3) := by decide +kernel
theorem dL_law_288 : decode code 288 = .ok (.istore 6, 2) := by decide +kernel
theorem dL_law_290 : decode code 290 = .ok (.aload_n 2, 1) := by decide +kernel
theorem dL_law_291 : decode code 291 = .ok (.invokevirtual 53, 3) := by decide +kernel
theorem dL_law_294 : decode code 294 = .ok (.iload 5, 2) := by decide +kernel
theorem dL_law_296 : decode code 296 = .ok (.if_icmp .eq 5, 3) := by decide +kernel
theorem dL_law_299 : decode code 299 = .ok (.iconst 0, 1) := by decide +kernel
theorem dL_law_300 : decode code 300 = .ok (.ireturn, 1) := by decide +kernel
theorem dL_law_301 : decode code 301 = .ok (.iload 5, 2) := by decide +kernel
theorem dL_law_303 : decode code 303 = .ok (.ifCond .ne 15, 3) := by decide +kernel
theorem dL_law_306 : decode code 306 = .ok (.aload_n 3, 1) := by decide +kernel
theorem dL_law_307 : decode code 307 = .ok (.iconst 0, 1) := by decide +kernel
theorem dL_law_308 : decode code 308 = .ok (.laload, 1) := by decide +kernel
theorem dL_law_309 : decode code 309 = .ok (.iload 6, 2) := by decide +kernel
theorem dL_law_311 : decode code 311 = .ok (.i2l, 1) := by decide +kernel
theorem dL_law_312 : decode code 312 = .ok (.lcmp, 1) := by decide +kernel
theorem dL_law_313 : decode code 313 = .ok (.ifCond .eq 5, 3) := by decide +kernel
theorem dL_law_316 : decode code 316 = .ok (.iconst 0, 1) := by decide +kernel
theorem dL_law_317 : decode code 317 = .ok (.ireturn, 1) := by decide +kernel
theorem dL_law_318 : decode code 318 = .ok (.goto 375, 3) := by decide +kernel
theorem dL_law_321 : decode code 321 = .ok (.aload_n 1, 1) := by decide +kernel
theorem dL_law_322 : decode code 322 = .ok (.aload_n 0, 1) := by decide +kernel
theorem dL_law_323 : decode code 323 = .ok (.iload 4, 2) := by decide +kernel
theorem dL_law_325 : decode code 325 = .ok (.iconst 1, 1) := by decide +kernel
theorem dL_law_326 : decode code 326 = .ok (.iadd, 1) := by decide +kernel
theorem dL_law_327 : decode code 327 = .ok (.iaload, 1) := by decide +kernel
theorem dL_law_328 : decode code 328 = .ok (.aload_n 0, 1) := by decide +kernel
theorem dL_law_329 : decode code 329 = .ok (.iload 4, 2) := by decide +kernel
theorem dL_law_331 : decode code 331 = .ok (.iconst 2, 1) := by decide +kernel
theorem dL_law_332 : decode code 332 = .ok (.iadd, 1) := by decide +kernel
theorem dL_law_333 : decode code 333 = .ok (.iaload, 1) := by decide +kernel
theorem dL_law_334 : decode code 334 = .ok (.aload_n 3, 1) := by decide +kernel
theorem dL_law_335 : decode code 335 = .ok (.invokestatic 69, 3) := by decide +kernel
theorem dL_law_338 : decode code 338 = .ok (.istore 5, 2) := by decide +kernel
theorem dL_law_340 : decode code 340 = .ok (.aload_n 2, 1) := by decide +kernel
theorem dL_law_341 : decode code 341 = .ok (.aload_n 0, 1) := by decide +kernel
theorem dL_law_342 : decode code 342 = .ok (.iload 4, 2) := by decide +kernel
theorem dL_law_344 : decode code 344 = .ok (.iconst 1, 1) := by decide +kernel
theorem dL_law_345 : decode code 345 = .ok (.iadd, 1) := by decide +kernel
theorem dL_law_346 : decode code 346 = .ok (.iaload, 1) := by decide +kernel
theorem dL_law_347 : decode code 347 = .ok (.aload_n 0, 1) := by decide +kernel
theorem dL_law_348 : decode code 348 = .ok (.iload 4, 2) := by decide +kernel
theorem dL_law_350 : decode code 350 = .ok (.iconst 2, 1) := by decide +kernel
theorem dL_law_351 : decode code 351 = .ok (.iadd, 1) := by decide +kernel
theorem dL_law_352 : decode code 352 = .ok (.iaload, 1) := by decide +kernel
theorem dL_law_353 : decode code 353 = .ok (.invokevirtual 71, 3) := by decide +kernel
theorem dL_law_356 : decode code 356 = .ok (.istore 6, 2) := by decide +kernel
theorem dL_law_358 : decode code 358 = .ok (.aload_n 2, 1) := by decide +kernel
theorem dL_law_359 : decode code 359 = .ok (.invokevirtual 53, 3) := by decide +kernel
theorem dL_law_362 : decode code 362 = .ok (.iload 5, 2) := by decide +kernel
theorem dL_law_364 : decode code 364 = .ok (.if_icmp .eq 5, 3) := by decide +kernel
theorem dL_law_367 : decode code 367 = .ok (.iconst 0, 1) := by decide +kernel
theorem dL_law_368 : decode code 368 = .ok (.ireturn, 1) := by decide +kernel
theorem dL_law_369 : decode code 369 = .ok (.iload 5, 2) := by decide +kernel
theorem dL_law_371 : decode code 371 = .ok (.ifCond .ne 15, 3) := by decide +kernel
theorem dL_law_374 : decode code 374 = .ok (.aload_n 3, 1) := by decide +kernel
theorem dL_law_375 : decode code 375 = .ok (.iconst 0, 1) := by decide +kernel
theorem dL_law_376 : decode code 376 = .ok (.laload, 1) := by decide +kernel
theorem dL_law_377 : decode code 377 = .ok (.iload 6, 2) := by decide +kernel
theorem dL_law_379 : decode code 379 = .ok (.i2l, 1) := by decide +kernel
theorem dL_law_380 : decode code 380 = .ok (.lcmp, 1) := by decide +kernel
theorem dL_law_381 : decode code 381 = .ok (.ifCond .eq 5, 3) := by decide +kernel
theorem dL_law_384 : decode code 384 = .ok (.iconst 0, 1) := by decide +kernel
theorem dL_law_385 : decode code 385 = .ok (.ireturn, 1) := by decide +kernel
theorem dL_law_386 : decode code 386 = .ok (.goto 307, 3) := by decide +kernel
theorem dL_law_389 : decode code 389 = .ok (.aload_n 1, 1) := by decide +kernel
theorem dL_law_390 : decode code 390 = .ok (.aload_n 0, 1) := by decide +kernel
theorem dL_law_391 : decode code 391 = .ok (.iload 4, 2) := by decide +kernel
theorem dL_law_393 : decode code 393 = .ok (.iconst 1, 1) := by decide +kernel
theorem dL_law_394 : decode code 394 = .ok (.iadd, 1) := by decide +kernel
theorem dL_law_395 : decode code 395 = .ok (.iaload, 1) := by decide +kernel
theorem dL_law_396 : decode code 396 = .ok (.aload_n 3, 1) := by decide +kernel
theorem dL_law_397 : decode code 397 = .ok (.invokestatic 72, 3) := by decide +kernel
theorem dL_law_400 : decode code 400 = .ok (.istore 5, 2) := by decide +kernel
theorem dL_law_402 : decode code 402 = .ok (.aload_n 2, 1) := by decide +kernel
theorem dL_law_403 : decode code 403 = .ok (.aload_n 0, 1) := by decide +kernel
theorem dL_law_404 : decode code 404 = .ok (.iload 4, 2) := by decide +kernel
theorem dL_law_406 : decode code 406 = .ok (.iconst 1, 1) := by decide +kernel
theorem dL_law_407 : decode code 407 = .ok (.iadd, 1) := by decide +kernel
theorem dL_law_408 : decode code 408 = .ok (.iaload, 1) := by decide +kernel
theorem dL_law_409 : decode code 409 = .ok (.invokevirtual 74, 3) := by decide +kernel
theorem dL_law_412 : decode code 412 = .ok (.istore 6, 2) := by decide +kernel
theorem dL_law_414 : decode code 414 = .ok (.aload_n 2, 1) := by decide +kernel
theorem dL_law_415 : decode code 415 = .ok (.invokevirtual 53, 3) := by decide +kernel
theorem dL_law_418 : decode code 418 = .ok (.iload 5, 2) := by decide +kernel
theorem dL_law_420 : decode code 420 = .ok (.if_icmp .eq 5, 3) := by decide +kernel
theorem dL_law_423 : decode code 423 = .ok (.iconst 0, 1) := by decide +kernel
theorem dL_law_424 : decode code 424 = .ok (.ireturn, 1) := by decide +kernel
theorem dL_law_425 : decode code 425 = .ok (.iload 5, 2) := by decide +kernel
theorem dL_law_427 : decode code 427 = .ok (.ifCond .ne 15, 3) := by decide +kernel
theorem dL_law_430 : decode code 430 = .ok (.aload_n 3, 1) := by decide +kernel
theorem dL_law_431 : decode code 431 = .ok (.iconst 0, 1) := by decide +kernel
theorem dL_law_432 : decode code 432 = .ok (.laload, 1) := by decide +kernel
theorem dL_law_433 : decode code 433 = .ok (.iload 6, 2) := by decide +kernel
theorem dL_law_435 : decode code 435 = .ok (.i2l, 1) := by decide +kernel
theorem dL_law_436 : decode code 436 = .ok (.lcmp, 1) := by decide +kernel
theorem dL_law_437 : decode code 437 = .ok (.ifCond .eq 5, 3) := by decide +kernel
theorem dL_law_440 : decode code 440 = .ok (.iconst 0, 1) := by decide +kernel
theorem dL_law_441 : decode code 441 = .ok (.ireturn, 1) := by decide +kernel
theorem dL_law_442 : decode code 442 = .ok (.goto 251, 3) := by decide +kernel
theorem dL_law_445 : decode code 445 = .ok (.aload_n 1, 1) := by decide +kernel
theorem dL_law_446 : decode code 446 = .ok (.aload_n 0, 1) := by decide +kernel
theorem dL_law_447 : decode code 447 = .ok (.iload 4, 2) := by decide +kernel
theorem dL_law_449 : decode code 449 = .ok (.iconst 1, 1) := by decide +kernel
theorem dL_law_450 : decode code 450 = .ok (.iadd, 1) := by decide +kernel
theorem dL_law_451 : decode code 451 = .ok (.iaload, 1) := by decide +kernel
theorem dL_law_452 : decode code 452 = .ok (.aload_n 0, 1) := by decide +kernel
theorem dL_law_453 : decode code 453 = .ok (.iload 4, 2) := by decide +kernel
theorem dL_law_455 : decode code 455 = .ok (.iconst 2, 1) := by decide +kernel
theorem dL_law_456 : decode code 456 = .ok (.iadd, 1) := by decide +kernel
theorem dL_law_457 : decode code 457 = .ok (.iaload, 1) := by decide +kernel
theorem dL_law_458 : decode code 458 = .ok (.aload_n 3, 1) := by decide +kernel
theorem dL_law_459 : decode code 459 = .ok (.invokestatic 75, 3) := by decide +kernel
theorem dL_law_462 : decode code 462 = .ok (.istore 5, 2) := by decide +kernel
theorem dL_law_464 : decode code 464 = .ok (.aload_n 2, 1) := by decide +kernel
theorem dL_law_465 : decode code 465 = .ok (.aload_n 0, 1) := by decide +kernel
theorem dL_law_466 : decode code 466 = .ok (.iload 4, 2) := by decide +kernel
theorem dL_law_468 : decode code 468 = .ok (.iconst 1, 1) := by decide +kernel
theorem dL_law_469 : decode code 469 = .ok (.iadd, 1) := by decide +kernel
theorem dL_law_470 : decode code 470 = .ok (.iaload, 1) := by decide +kernel
theorem dL_law_471 : decode code 471 = .ok (.aload_n 0, 1) := by decide +kernel
theorem dL_law_472 : decode code 472 = .ok (.iload 4, 2) := by decide +kernel
theorem dL_law_474 : decode code 474 = .ok (.iconst 2, 1) := by decide +kernel
theorem dL_law_475 : decode code 475 = .ok (.iadd, 1) := by decide +kernel
theorem dL_law_476 : decode code 476 = .ok (.iaload, 1) := by decide +kernel
theorem dL_law_477 : decode code 477 = .ok (.invokevirtual 77, 3) := by decide +kernel
theorem dL_law_480 : decode code 480 = .ok (.istore 6, 2) := by decide +kernel
theorem dL_law_482 : decode code 482 = .ok (.aload_n 2, 1) := by decide +kernel
theorem dL_law_483 : decode code 483 = .ok (.invokevirtual 53, 3) := by decide +kernel
theorem dL_law_486 : decode code 486 = .ok (.iload 5, 2) := by decide +kernel
theorem dL_law_488 : decode code 488 = .ok (.if_icmp .eq 5, 3) := by decide +kernel
theorem dL_law_491 : decode code 491 = .ok (.iconst 0, 1) := by decide +kernel
theorem dL_law_492 : decode code 492 = .ok (.ireturn, 1) := by decide +kernel
theorem dL_law_493 : decode code 493 = .ok (.iload 5, 2) := by decide +kernel
theorem dL_law_495 : decode code 495 = .ok (.ifCond .ne 15, 3) := by decide +kernel
theorem dL_law_498 : decode code 498 = .ok (.aload_n 3, 1) := by decide +kernel
theorem dL_law_499 : decode code 499 = .ok (.iconst 0, 1) := by decide +kernel
theorem dL_law_500 : decode code 500 = .ok (.laload, 1) := by decide +kernel
theorem dL_law_501 : decode code 501 = .ok (.iload 6, 2) := by decide +kernel
theorem dL_law_503 : decode code 503 = .ok (.i2l, 1) := by decide +kernel
theorem dL_law_504 : decode code 504 = .ok (.lcmp, 1) := by decide +kernel
theorem dL_law_505 : decode code 505 = .ok (.ifCond .eq 5, 3) := by decide +kernel
theorem dL_law_508 : decode code 508 = .ok (.iconst 0, 1) := by decide +kernel
theorem dL_law_509 : decode code 509 = .ok (.ireturn, 1) := by decide +kernel
theorem dL_law_510 : decode code 510 = .ok (.goto 183, 3) := by decide +kernel
theorem dL_law_513 : decode code 513 = .ok (.aload_n 1, 1) := by decide +kernel
theorem dL_law_514 : decode code 514 = .ok (.aload_n 0, 1) := by decide +kernel
theorem dL_law_515 : decode code 515 = .ok (.iload 4, 2) := by decide +kernel
theorem dL_law_517 : decode code 517 = .ok (.iconst 1, 1) := by decide +kernel
theorem dL_law_518 : decode code 518 = .ok (.iadd, 1) := by decide +kernel
theorem dL_law_519 : decode code 519 = .ok (.iaload, 1) := by decide +kernel
theorem dL_law_520 : decode code 520 = .ok (.aload_n 3, 1) := by decide +kernel
theorem dL_law_521 : decode code 521 = .ok (.invokestatic 78, 3) := by decide +kernel
theorem dL_law_524 : decode code 524 = .ok (.istore 5, 2) := by decide +kernel
theorem dL_law_526 : decode code 526 = .ok (.aload_n 2, 1) := by decide +kernel
theorem dL_law_527 : decode code 527 = .ok (.aload_n 0, 1) := by decide +kernel
theorem dL_law_528 : decode code 528 = .ok (.iload 4, 2) := by decide +kernel
theorem dL_law_530 : decode code 530 = .ok (.iconst 1, 1) := by decide +kernel
theorem dL_law_531 : decode code 531 = .ok (.iadd, 1) := by decide +kernel
theorem dL_law_532 : decode code 532 = .ok (.iaload, 1) := by decide +kernel
theorem dL_law_533 : decode code 533 = .ok (.invokevirtual 80, 3) := by decide +kernel
theorem dL_law_536 : decode code 536 = .ok (.istore 6, 2) := by decide +kernel
theorem dL_law_538 : decode code 538 = .ok (.aload_n 2, 1) := by decide +kernel
theorem dL_law_539 : decode code 539 = .ok (.invokevirtual 53, 3) := by decide +kernel
theorem dL_law_542 : decode code 542 = .ok (.iload 5, 2) := by decide +kernel
theorem dL_law_544 : decode code 544 = .ok (.if_icmp .eq 5, 3) := by decide +kernel
theorem dL_law_547 : decode code 547 = .ok (.iconst 0, 1) := by decide +kernel
theorem dL_law_548 : decode code 548 = .ok (.ireturn, 1) := by decide +kernel
theorem dL_law_549 : decode code 549 = .ok (.iload 5, 2) := by decide +kernel
theorem dL_law_551 : decode code 551 = .ok (.ifCond .ne 15, 3) := by decide +kernel
theorem dL_law_554 : decode code 554 = .ok (.aload_n 3, 1) := by decide +kernel
theorem dL_law_555 : decode code 555 = .ok (.iconst 0, 1) := by decide +kernel
theorem dL_law_556 : decode code 556 = .ok (.laload, 1) := by decide +kernel
theorem dL_law_557 : decode code 557 = .ok (.iload 6, 2) := by decide +kernel
theorem dL_law_559 : decode code 559 = .ok (.i2l, 1) := by decide +kernel
theorem dL_law_560 : decode code 560 = .ok (.lcmp, 1) := by decide +kernel
theorem dL_law_561 : decode code 561 = .ok (.ifCond .eq 5, 3) := by decide +kernel
theorem dL_law_564 : decode code 564 = .ok (.iconst 0, 1) := by decide +kernel
theorem dL_law_565 : decode code 565 = .ok (.ireturn, 1) := by decide +kernel
theorem dL_law_566 : decode code 566 = .ok (.goto 127, 3) := by decide +kernel
theorem dL_law_569 : decode code 569 = .ok (.aload_n 1, 1) := by decide +kernel
theorem dL_law_570 : decode code 570 = .ok (.aload_n 0, 1) := by decide +kernel
theorem dL_law_571 : decode code 571 = .ok (.iload 4, 2) := by decide +kernel
theorem dL_law_573 : decode code 573 = .ok (.iconst 1, 1) := by decide +kernel
theorem dL_law_574 : decode code 574 = .ok (.iadd, 1) := by decide +kernel
theorem dL_law_575 : decode code 575 = .ok (.iaload, 1) := by decide +kernel
theorem dL_law_576 : decode code 576 = .ok (.aload_n 3, 1) := by decide +kernel
theorem dL_law_577 : decode code 577 = .ok (.invokestatic 81, 3) := by decide +kernel
theorem dL_law_580 : decode code 580 = .ok (.istore 5, 2) := by decide +kernel
theorem dL_law_582 : decode code 582 = .ok (.aload_n 2, 1) := by decide +kernel
theorem dL_law_583 : decode code 583 = .ok (.aload_n 0, 1) := by decide +kernel
theorem dL_law_584 : decode code 584 = .ok (.iload 4, 2) := by decide +kernel
theorem dL_law_586 : decode code 586 = .ok (.iconst 1, 1) := by decide +kernel
theorem dL_law_587 : decode code 587 = .ok (.iadd, 1) := by decide +kernel
theorem dL_law_588 : decode code 588 = .ok (.iaload, 1) := by decide +kernel
theorem dL_law_589 : decode code 589 = .ok (.invokevirtual 83, 3) := by decide +kernel
theorem dL_law_592 : decode code 592 = .ok (.istore 6, 2) := by decide +kernel
theorem dL_law_594 : decode code 594 = .ok (.aload_n 2, 1) := by decide +kernel
theorem dL_law_595 : decode code 595 = .ok (.invokevirtual 53, 3) := by decide +kernel
theorem dL_law_598 : decode code 598 = .ok (.iload 5, 2) := by decide +kernel
theorem dL_law_600 : decode code 600 = .ok (.if_icmp .eq 5, 3) := by decide +kernel
theorem dL_law_603 : decode code 603 = .ok (.iconst 0, 1) := by decide +kernel
theorem dL_law_604 : decode code 604 = .ok (.ireturn, 1) := by decide +kernel
theorem dL_law_605 : decode code 605 = .ok (.iload 5, 2) := by decide +kernel
theorem dL_law_607 : decode code 607 = .ok (.ifCond .ne 15, 3) := by decide +kernel
theorem dL_law_610 : decode code 610 = .ok (.aload_n 3, 1) := by decide +kernel
theorem dL_law_611 : decode code 611 = .ok (.iconst 0, 1) := by decide +kernel
theorem dL_law_612 : decode code 612 = .ok (.laload, 1) := by decide +kernel
theorem dL_law_613 : decode code 613 = .ok (.iload 6, 2) := by decide +kernel
theorem dL_law_615 : decode code 615 = .ok (.i2l, 1) := by decide +kernel
theorem dL_law_616 : decode code 616 = .ok (.lcmp, 1) := by decide +kernel
theorem dL_law_617 : decode code 617 = .ok (.ifCond .eq 5, 3) := by decide +kernel
theorem dL_law_620 : decode code 620 = .ok (.iconst 0, 1) := by decide +kernel
theorem dL_law_621 : decode code 621 = .ok (.ireturn, 1) := by decide +kernel
theorem dL_law_622 : decode code 622 = .ok (.goto 71, 3) := by decide +kernel
theorem dL_law_625 : decode code 625 = .ok (.aload_n 1, 1) := by decide +kernel
theorem dL_law_626 : decode code 626 = .ok (.aload_n 0, 1) := by decide +kernel
theorem dL_law_627 : decode code 627 = .ok (.iload 4, 2) := by decide +kernel
theorem dL_law_629 : decode code 629 = .ok (.iconst 1, 1) := by decide +kernel
theorem dL_law_630 : decode code 630 = .ok (.iadd, 1) := by decide +kernel
theorem dL_law_631 : decode code 631 = .ok (.iaload, 1) := by decide +kernel
theorem dL_law_632 : decode code 632 = .ok (.aload_n 0, 1) := by decide +kernel
theorem dL_law_633 : decode code 633 = .ok (.iload 4, 2) := by decide +kernel
theorem dL_law_635 : decode code 635 = .ok (.iconst 2, 1) := by decide +kernel
theorem dL_law_636 : decode code 636 = .ok (.iadd, 1) := by decide +kernel
theorem dL_law_637 : decode code 637 = .ok (.iaload, 1) := by decide +kernel
theorem dL_law_638 : decode code 638 = .ok (.aload_n 3, 1) := by decide +kernel
theorem dL_law_639 : decode code 639 = .ok (.invokestatic 84, 3) := by decide +kernel
theorem dL_law_642 : decode code 642 = .ok (.istore 5, 2) := by decide +kernel
theorem dL_law_644 : decode code 644 = .ok (.aload_n 2, 1) := by decide +kernel
theorem dL_law_645 : decode code 645 = .ok (.aload_n 0, 1) := by decide +kernel
theorem dL_law_646 : decode code 646 = .ok (.iload 4, 2) := by decide +kernel
theorem dL_law_648 : decode code 648 = .ok (.iconst 1, 1) := by decide +kernel
theorem dL_law_649 : decode code 649 = .ok (.iadd, 1) := by decide +kernel
theorem dL_law_650 : decode code 650 = .ok (.iaload, 1) := by decide +kernel
theorem dL_law_651 : decode code 651 = .ok (.aload_n 0, 1) := by decide +kernel
theorem dL_law_652 : decode code 652 = .ok (.iload 4, 2) := by decide +kernel
theorem dL_law_654 : decode code 654 = .ok (.iconst 2, 1) := by decide +kernel
theorem dL_law_655 : decode code 655 = .ok (.iadd, 1) := by decide +kernel
theorem dL_law_656 : decode code 656 = .ok (.iaload, 1) := by decide +kernel
theorem dL_law_657 : decode code 657 = .ok (.invokevirtual 86, 3) := by decide +kernel
theorem dL_law_660 : decode code 660 = .ok (.istore 6, 2) := by decide +kernel
theorem dL_law_662 : decode code 662 = .ok (.aload_n 2, 1) := by decide +kernel
theorem dL_law_663 : decode code 663 = .ok (.invokevirtual 53, 3) := by decide +kernel
theorem dL_law_666 : decode code 666 = .ok (.iload 5, 2) := by decide +kernel
theorem dL_law_668 : decode code 668 = .ok (.if_icmp .eq 5, 3) := by decide +kernel
theorem dL_law_671 : decode code 671 = .ok (.iconst 0, 1) := by decide +kernel
theorem dL_law_672 : decode code 672 = .ok (.ireturn, 1) := by decide +kernel
theorem dL_law_673 : decode code 673 = .ok (.iload 5, 2) := by decide +kernel
theorem dL_law_675 : decode code 675 = .ok (.ifCond .ne 15, 3) := by decide +kernel
theorem dL_law_678 : decode code 678 = .ok (.aload_n 3, 1) := by decide +kernel
theorem dL_law_679 : decode code 679 = .ok (.iconst 0, 1) := by decide +kernel
theorem dL_law_680 : decode code 680 = .ok (.laload, 1) := by decide +kernel
theorem dL_law_681 : decode code 681 = .ok (.iload 6, 2) := by decide +kernel
theorem dL_law_683 : decode code 683 = .ok (.i2l, 1) := by decide +kernel
theorem dL_law_684 : decode code 684 = .ok (.lcmp, 1) := by decide +kernel
theorem dL_law_685 : decode code 685 = .ok (.ifCond .eq 5, 3) := by decide +kernel
theorem dL_law_688 : decode code 688 = .ok (.iconst 0, 1) := by decide +kernel
theorem dL_law_689 : decode code 689 = .ok (.ireturn, 1) := by decide +kernel
theorem dL_law_690 : decode code 690 = .ok (.goto 3, 3) := by decide +kernel
theorem dL_law_693 : decode code 693 = .ok (.iinc 4 4, 3) := by decide +kernel
theorem dL_law_696 : decode code 696 = .ok (.goto (-673), 3) := by decide +kernel
theorem dL_law_699 : decode code 699 = .ok (.iconst 1, 1) := by decide +kernel
theorem dL_law_700 : decode code 700 = .ok (.ireturn, 1) := by decide +kernel
