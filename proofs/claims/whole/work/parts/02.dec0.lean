theorem dJ7_fill_d0a16_0 : decode cJ7_fill_d0a16 0 = .ok (.iconst 0, 1) := by decide +kernel
theorem dJ7_fill_d0a16_1 : decode cJ7_fill_d0a16 1 = .ok (.istore_n 3, 1) := by decide +kernel
theorem dJ7_fill_d0a16_2 : decode cJ7_fill_d0a16 2 = .ok (.aload_n 0, 1) := by decide +kernel
theorem dJ7_fill_d0a16_3 : decode cJ7_fill_d0a16 3 = .ok (.arraylength, 1) := by decide +kernel
theorem dJ7_fill_d0a16_4 : decode cJ7_fill_d0a16 4 = .ok (.istore 4, 2) := by decide +kernel
theorem dJ7_fill_d0a16_6 : decode cJ7_fill_d0a16 6 = .ok (.iload_n 3, 1) := by decide +kernel
theorem dJ7_fill_d0a16_7 : decode cJ7_fill_d0a16 7 = .ok (.iload 4, 2) := by decide +kernel
theorem dJ7_fill_d0a16_9 : decode cJ7_fill_d0a16 9 = .ok (.if_icmp .ge 13, 3) := by decide +kernel
theorem dJ7_fill_d0a16_12 : decode cJ7_fill_d0a16 12 = .ok (.aload_n 0, 1) := by decide +kernel
theorem dJ7_fill_d0a16_13 : decode cJ7_fill_d0a16 13 = .ok (.iload_n 3, 1) := by decide +kernel
theorem dJ7_fill_d0a16_14 : decode cJ7_fill_d0a16 14 = .ok (.lload_n 1, 1) := by decide +kernel
theorem dJ7_fill_d0a16_15 : decode cJ7_fill_d0a16 15 = .ok (.lastore, 1) := by decide +kernel
theorem dJ7_fill_d0a16_16 : decode cJ7_fill_d0a16 16 = .ok (.iinc 3 1, 3) := by decide +kernel
theorem dJ7_fill_d0a16_19 : decode cJ7_fill_d0a16 19 = .ok (.goto (-13), 3) := by decide +kernel
theorem dJ7_fill_d0a16_22 : decode cJ7_fill_d0a16 22 = .ok (.return_, 1) := by decide +kernel
theorem dJ7_fill_53178_0 : decode cJ7_fill_53178 0 = .ok (.iconst 0, 1) := by decide +kernel
theorem dJ7_fill_53178_1 : decode cJ7_fill_53178 1 = .ok (.istore_n 2, 1) := by decide +kernel
theorem dJ7_fill_53178_2 : decode cJ7_fill_53178 2 = .ok (.aload_n 0, 1) := by decide +kernel
theorem dJ7_fill_53178_3 : decode cJ7_fill_53178 3 = .ok (.arraylength, 1) := by decide +kernel
theorem dJ7_fill_53178_4 : decode cJ7_fill_53178 4 = .ok (.istore_n 3, 1) := by decide +kernel
theorem dJ7_fill_53178_5 : decode cJ7_fill_53178 5 = .ok (.iload_n 2, 1) := by decide +kernel
theorem dJ7_fill_53178_6 : decode cJ7_fill_53178 6 = .ok (.iload_n 3, 1) := by decide +kernel
theorem dJ7_fill_53178_7 : decode cJ7_fill_53178 7 = .ok (.if_icmp .ge 13, 3) := by decide +kernel
theorem dJ7_fill_53178_10 : decode cJ7_fill_53178 10 = .ok (.aload_n 0, 1) := by decide +kernel
theorem dJ7_fill_53178_11 : decode cJ7_fill_53178 11 = .ok (.iload_n 2, 1) := by decide +kernel
theorem dJ7_fill_53178_12 : decode cJ7_fill_53178 12 = .ok (.iload_n 1, 1) := by decide +kernel
theorem dJ7_fill_53178_13 : decode cJ7_fill_53178 13 = .ok (.iastore, 1) := by decide +kernel
theorem dJ7_fill_53178_14 : decode cJ7_fill_53178 14 = .ok (.iinc 2 1, 3) := by decide +kernel
theorem dJ7_fill_53178_17 : decode cJ7_fill_53178 17 = .ok (.goto (-12), 3) := by decide +kernel
theorem dJ7_fill_53178_20 : decode cJ7_fill_53178 20 = .ok (.return_, 1) := by decide +kernel
theorem dJ9_abs_0f7a4_0 : decode cJ9_abs_0f7a4 0 = .ok (.iload_n 0, 1) := by decide +kernel
theorem dJ9_abs_0f7a4_1 : decode cJ9_abs_0f7a4 1 = .ok (.ifCond .ge 8, 3) := by decide +kernel
theorem dJ9_abs_0f7a4_4 : decode cJ9_abs_0f7a4 4 = .ok (.iload_n 0, 1) := by decide +kernel
theorem dJ9_abs_0f7a4_5 : decode cJ9_abs_0f7a4 5 = .ok (.ineg, 1) := by decide +kernel
theorem dJ9_abs_0f7a4_6 : decode cJ9_abs_0f7a4 6 = .ok (.goto 4, 3) := by decide +kernel
theorem dJ9_abs_0f7a4_9 : decode cJ9_abs_0f7a4 9 = .ok (.iload_n 0, 1) := by decide +kernel
theorem dJ9_abs_0f7a4_10 : decode cJ9_abs_0f7a4 10 = .ok (.ireturn, 1) := by decide +kernel
theorem dJ9_max_7cf53_0 : decode cJ9_max_7cf53 0 = .ok (.iload_n 0, 1) := by decide +kernel
theorem dJ9_max_7cf53_1 : decode cJ9_max_7cf53 1 = .ok (.iload_n 1, 1) := by decide +kernel
theorem dJ9_max_7cf53_2 : decode cJ9_max_7cf53 2 = .ok (.if_icmp .lt 7, 3) := by decide +kernel
theorem dJ9_max_7cf53_5 : decode cJ9_max_7cf53 5 = .ok (.iload_n 0, 1) := by decide +kernel
theorem dJ9_max_7cf53_6 : decode cJ9_max_7cf53 6 = .ok (.goto 4, 3) := by decide +kernel
theorem dJ9_max_7cf53_9 : decode cJ9_max_7cf53 9 = .ok (.iload_n 1, 1) := by decide +kernel
theorem dJ9_max_7cf53_10 : decode cJ9_max_7cf53 10 = .ok (.ireturn, 1) := by decide +kernel
theorem dL_law_0 : decode cL_law 0 = .ok (.new 7, 3) := by decide +kernel
theorem dL_law_3 : decode cL_law 3 = .ok (.dup, 1) := by decide +kernel
theorem dL_law_4 : decode cL_law 4 = .ok (.invokespecial 9, 3) := by decide +kernel
theorem dL_law_7 : decode cL_law 7 = .ok (.astore_n 1, 1) := by decide +kernel
theorem dL_law_8 : decode cL_law 8 = .ok (.new 10, 3) := by decide +kernel
theorem dL_law_11 : decode cL_law 11 = .ok (.dup, 1) := by decide +kernel
theorem dL_law_12 : decode cL_law 12 = .ok (.invokespecial 12, 3) := by decide +kernel
theorem dL_law_15 : decode cL_law 15 = .ok (.astore_n 2, 1) := by decide +kernel
theorem dL_law_16 : decode cL_law 16 = .ok (.iconst 0, 1) := by decide +kernel
theorem dL_law_17 : decode cL_law 17 = .ok (.istore_n 3, 1) := by decide +kernel
theorem dL_law_18 : decode cL_law 18 = .ok (.iload_n 3, 1) := by decide +kernel
theorem dL_law_19 : decode cL_law 19 = .ok (.aload_n 0, 1) := by decide +kernel
theorem dL_law_20 : decode cL_law 20 = .ok (.arraylength, 1) := by decide +kernel
theorem dL_law_21 : decode cL_law 21 = .ok (.iconst 5, 1) := by decide +kernel
theorem dL_law_22 : decode cL_law 22 = .ok (.isub, 1) := by decide +kernel
theorem dL_law_23 : decode cL_law 23 = .ok (.if_icmp .gt 954, 3) := by decide +kernel
theorem dL_law_26 : decode cL_law 26 = .ok (.aload_n 0, 1) := by decide +kernel
theorem dL_law_27 : decode cL_law 27 = .ok (.iload_n 3, 1) := by decide +kernel
theorem dL_law_28 : decode cL_law 28 = .ok (.iaload, 1) := by decide +kernel
theorem dL_law_29 : decode cL_law 29 = .ok (.bipush 63, 2) := by decide +kernel
theorem dL_law_31 : decode cL_law 31 = .ok (.iand, 1) := by decide +kernel
theorem dL_law_32 : decode cL_law 32 = .ok (.tableswitch 939 0 32 #[148, 173, 186, 199, 212, 235, 268, 301, 334, 367, 420, 443, 476, 499, 522, 545, 578, 611, 624, 647, 660, 673, 696, 709, 732, 755, 768, 821, 844, 867, 880, 893, 916], 148) := by decide +kernel
theorem dL_law_180 : decode cL_law 180 = .ok (.aload_n 1, 1) := by decide +kernel
theorem dL_law_181 : decode cL_law 181 = .ok (.aload_n 0, 1) := by decide +kernel
theorem dL_law_182 : decode cL_law 182 = .ok (.iload_n 3, 1) := by decide +kernel
theorem dL_law_183 : decode cL_law 183 = .ok (.iconst 1, 1) := by decide +kernel
theorem dL_law_184 : decode cL_law 184 = .ok (.iadd, 1) := by decide +kernel
theorem dL_law_185 : decode cL_law 185 = .ok (.iaload, 1) := by decide +kernel
theorem dL_law_186 : decode cL_law 186 = .ok (.i2c, 1) := by decide +kernel
theorem dL_law_187 : decode cL_law 187 = .ok (.invokevirtual 13, 3) := by decide +kernel
theorem dL_law_190 : decode cL_law 190 = .ok (.aload_n 2, 1) := by decide +kernel
theorem dL_law_191 : decode cL_law 191 = .ok (.aload_n 0, 1) := by decide +kernel
theorem dL_law_192 : decode cL_law 192 = .ok (.iload_n 3, 1) := by decide +kernel
theorem dL_law_193 : decode cL_law 193 = .ok (.iconst 1, 1) := by decide +kernel
theorem dL_law_194 : decode cL_law 194 = .ok (.iadd, 1) := by decide +kernel
theorem dL_law_195 : decode cL_law 195 = .ok (.iaload, 1) := by decide +kernel
theorem dL_law_196 : decode cL_law 196 = .ok (.i2c, 1) := by decide +kernel
theorem dL_law_197 : decode cL_law 197 = .ok (.invokevirtual 17, 3) := by decide +kernel
theorem dL_law_200 : decode cL_law 200 = .ok (.if_icmp .eq 771, 3) := by decide +kernel
theorem dL_law_203 : decode cL_law 203 = .ok (.iconst 0, 1) := by decide +kernel
theorem dL_law_204 : decode cL_law 204 = .ok (.ireturn, 1) := by decide +kernel
theorem dL_law_205 : decode cL_law 205 = .ok (.aload_n 1, 1) := by decide +kernel
theorem dL_law_206 : decode cL_law 206 = .ok (.invokevirtual 18, 3) := by decide +kernel
theorem dL_law_209 : decode cL_law 209 = .ok (.aload_n 2, 1) := by decide +kernel
theorem dL_law_210 : decode cL_law 210 = .ok (.invokevirtual 22, 3) := by decide +kernel
theorem dL_law_213 : decode cL_law 213 = .ok (.if_icmp .eq 758, 3) := by decide +kernel
theorem dL_law_216 : decode cL_law 216 = .ok (.iconst 0, 1) := by decide +kernel
theorem dL_law_217 : decode cL_law 217 = .ok (.ireturn, 1) := by decide +kernel
theorem dL_law_218 : decode cL_law 218 = .ok (.aload_n 1, 1) := by decide +kernel
theorem dL_law_219 : decode cL_law 219 = .ok (.invokevirtual 23, 3) := by decide +kernel
theorem dL_law_222 : decode cL_law 222 = .ok (.aload_n 2, 1) := by decide +kernel
theorem dL_law_223 : decode cL_law 223 = .ok (.invokevirtual 26, 3) := by decide +kernel
theorem dL_law_226 : decode cL_law 226 = .ok (.if_icmp .eq 745, 3) := by decide +kernel
theorem dL_law_229 : decode cL_law 229 = .ok (.iconst 0, 1) := by decide +kernel
theorem dL_law_230 : decode cL_law 230 = .ok (.ireturn, 1) := by decide +kernel
theorem dL_law_231 : decode cL_law 231 = .ok (.aload_n 1, 1) := by decide +kernel
theorem dL_law_232 : decode cL_law 232 = .ok (.invokevirtual 27, 3) := by decide +kernel
theorem dL_law_235 : decode cL_law 235 = .ok (.aload_n 2, 1) := by decide +kernel
theorem dL_law_236 : decode cL_law 236 = .ok (.invokevirtual 30, 3) := by decide +kernel
theorem dL_law_239 : decode cL_law 239 = .ok (.if_icmp .eq 732, 3) := by decide +kernel
theorem dL_law_242 : decode cL_law 242 = .ok (.iconst 0, 1) := by decide +kernel
theorem dL_law_243 : decode cL_law 243 = .ok (.ireturn, 1) := by decide +kernel
theorem dL_law_244 : decode cL_law 244 = .ok (.aload_n 1, 1) := by decide +kernel
theorem dL_law_245 : decode cL_law 245 = .ok (.aload_n 0, 1) := by decide +kernel
theorem dL_law_246 : decode cL_law 246 = .ok (.iload_n 3, 1) := by decide +kernel
theorem dL_law_247 : decode cL_law 247 = .ok (.iconst 1, 1) := by decide +kernel
theorem dL_law_248 : decode cL_law 248 = .ok (.iadd, 1) := by decide +kernel
theorem dL_law_249 : decode cL_law 249 = .ok (.iaload, 1) := by decide +kernel
theorem dL_law_250 : decode cL_law 250 = .ok (.invokevirtual 31, 3) := by decide +kernel
theorem dL_law_253 : decode cL_law 253 = .ok (.aload_n 2, 1) := by decide +kernel
theorem dL_law_254 : decode cL_law 254 = .ok (.aload_n 0, 1) := by decide +kernel
theorem dL_law_255 : decode cL_law 255 = .ok (.iload_n 3, 1) := by decide +kernel
theorem dL_law_256 : decode cL_law 256 = .ok (.iconst 1, 1) := by decide +kernel
theorem dL_law_257 : decode cL_law 257 = .ok (.iadd, 1) := by decide +kernel
theorem dL_law_258 : decode cL_law 258 = .ok (.iaload, 1) := by decide +kernel
theorem dL_law_259 : decode cL_law 259 = .ok (.invokevirtual 35, 3) := by decide +kernel
theorem dL_law_262 : decode cL_law 262 = .ok (.if_icmp .eq 709, 3) := by decide +kernel
theorem dL_law_265 : decode cL_law 265 = .ok (.iconst 0, 1) := by decide +kernel
theorem dL_law_266 : decode cL_law 266 = .ok (.ireturn, 1) := by decide +kernel
theorem dL_law_267 : decode cL_law 267 = .ok (.aload_n 1, 1) := by decide +kernel
theorem dL_law_268 : decode cL_law 268 = .ok (.aload_n 0, 1) := by decide +kernel
theorem dL_law_269 : decode cL_law 269 = .ok (.iload_n 3, 1) := by decide +kernel
theorem dL_law_270 : decode cL_law 270 = .ok (.iconst 1, 1) := by decide +kernel
theorem dL_law_271 : decode cL_law 271 = .ok (.iadd, 1) := by decide +kernel
theorem dL_law_272 : decode cL_law 272 = .ok (.iaload, 1) := by decide +kernel
theorem dL_law_273 : decode cL_law 273 = .ok (.aload_n 0, 1) := by decide +kernel
theorem dL_law_274 : decode cL_law 274 = .ok (.iload_n 3, 1) := by decide +kernel
theorem dL_law_275 : decode cL_law 275 = .ok (.iconst 2, 1) := by decide +kernel
theorem dL_law_276 : decode cL_law 276 = .ok (.iadd, 1) := by decide +kernel
theorem dL_law_277 : decode cL_law 277 = .ok (.iaload, 1) := by decide +kernel
theorem dL_law_278 : decode cL_law 278 = .ok (.invokevirtual 36, 3) := by decide +kernel
theorem dL_law_281 : decode cL_law 281 = .ok (.aload_n 2, 1) := by decide +kernel
theorem dL_law_282 : decode cL_law 282 = .ok (.aload_n 0, 1) := by decide +kernel
theorem dL_law_283 : decode cL_law 283 = .ok (.iload_n 3, 1) := by decide +kernel
theorem dL_law_284 : decode cL_law 284 = .ok (.iconst 1, 1) := by decide +kernel
theorem dL_law_285 : decode cL_law 285 = .ok (.iadd, 1) := by decide +kernel
theorem dL_law_286 : decode cL_law 286 = .ok (.iaload, 1) := by decide +kernel
theorem dL_law_287 : decode cL_law 287 = .ok (.aload_n 0, 1) := by decide +kernel
theorem dL_law_288 : decode cL_law 288 = .ok (.iload_n 3, 1) := by decide +kernel
theorem dL_law_289 : decode cL_law 289 = .ok (.iconst 2, 1) := by decide +kernel
theorem dL_law_290 : decode cL_law 290 = .ok (.iadd, 1) := by decide +kernel
theorem dL_law_291 : decode cL_law 291 = .ok (.iaload, 1) := by decide +kernel
theorem dL_law_292 : decode cL_law 292 = .ok (.invokevirtual 40, 3) := by decide +kernel
theorem dL_law_295 : decode cL_law 295 = .ok (.if_icmp .eq 676, 3) := by decide +kernel
theorem dL_law_298 : decode cL_law 298 = .ok (.iconst 0, 1) := by decide +kernel
theorem dL_law_299 : decode cL_law 299 = .ok (.ireturn, 1) := by decide +kernel
theorem dL_law_300 : decode cL_law 300 = .ok (.aload_n 1, 1) := by decide +kernel
theorem dL_law_301 : decode cL_law 301 = .ok (.aload_n 0, 1) := by decide +kernel
theorem dL_law_302 : decode cL_law 302 = .ok (.iload_n 3, 1) := by decide +kernel
theorem dL_law_303 : decode cL_law 303 = .ok (.iconst 1, 1) := by decide +kernel
theorem dL_law_304 : decode cL_law 304 = .ok (.iadd, 1) := by decide +kernel
theorem dL_law_305 : decode cL_law 305 = .ok (.iaload, 1) := by decide +kernel
theorem dL_law_306 : decode cL_law 306 = .ok (.aload_n 0, 1) := by decide +kernel
theorem dL_law_307 : decode cL_law 307 = .ok (.iload_n 3, 1) := by decide +kernel
theorem dL_law_308 : decode cL_law 308 = .ok (.iconst 2, 1) := by decide +kernel
theorem dL_law_309 : decode cL_law 309 = .ok (.iadd, 1) := by decide +kernel
theorem dL_law_310 : decode cL_law 310 = .ok (.iaload, 1) := by decide +kernel
theorem dL_law_311 : decode cL_law 311 = .ok (.invokevirtual 41, 3) := by decide +kernel
theorem dL_law_314 : decode cL_law 314 = .ok (.aload_n 2, 1) := by decide +kernel
theorem dL_law_315 : decode cL_law 315 = .ok (.aload_n 0, 1) := by decide +kernel
theorem dL_law_316 : decode cL_law 316 = .ok (.iload_n 3, 1) := by decide +kernel
theorem dL_law_317 : decode cL_law 317 = .ok (.iconst 1, 1) := by decide +kernel
theorem dL_law_318 : decode cL_law 318 = .ok (.iadd, 1) := by decide +kernel
theorem dL_law_319 : decode cL_law 319 = .ok (.iaload, 1) := by decide +kernel
theorem dL_law_320 : decode cL_law 320 = .ok (.aload_n 0, 1) := by decide +kernel
theorem dL_law_321 : decode cL_law 321 = .ok (.iload_n 3, 1) := by decide +kernel
theorem dL_law_322 : decode cL_law 322 = .ok (.iconst 2, 1) := by decide +kernel
theorem dL_law_323 : decode cL_law 323 = .ok (.iadd, 1) := by decide +kernel
theorem dL_law_324 : decode cL_law 324 = .ok (.iaload, 1) := by decide +kernel
theorem dL_law_325 : decode cL_law 325 = .ok (.invokevirtual 44, 3) := by decide +kernel
theorem dL_law_328 : decode cL_law 328 = .ok (.if_icmp .eq 643, 3) := by decide +kernel
theorem dL_law_331 : decode cL_law 331 = .ok (.iconst 0, 1) := by decide +kernel
theorem dL_law_332 : decode cL_law 332 = .ok (.ireturn, 1) := by decide +kernel
theorem dL_law_333 : decode cL_law 333 = .ok (.aload_n 1, 1) := by decide +kernel
theorem dL_law_334 : decode cL_law 334 = .ok (.aload_n 0, 1) := by decide +kernel
theorem dL_law_335 : decode cL_law 335 = .ok (.iload_n 3, 1) := by decide +kernel
theorem dL_law_336 : decode cL_law 336 = .ok (.iconst 1, 1) := by decide +kernel
theorem dL_law_337 : decode cL_law 337 = .ok (.iadd, 1) := by decide +kernel
theorem dL_law_338 : decode cL_law 338 = .ok (.iaload, 1) := by decide +kernel
theorem dL_law_339 : decode cL_law 339 = .ok (.aload_n 0, 1) := by decide +kernel
theorem dL_law_340 : decode cL_law 340 = .ok (.iload_n 3, 1) := by decide +kernel
theorem dL_law_341 : decode cL_law 341 = .ok (.iconst 2, 1) := by decide +kernel
theorem dL_law_342 : decode cL_law 342 = .ok (.iadd, 1) := by decide +kernel
theorem dL_law_343 : decode cL_law 343 = .ok (.iaload, 1) := by decide +kernel
theorem dL_law_344 : decode cL_law 344 = .ok (.invokevirtual 45, 3) := by decide +kernel
theorem dL_law_347 : decode cL_law 347 = .ok (.aload_n 2, 1) := by decide +kernel
theorem dL_law_348 : decode cL_law 348 = .ok (.aload_n 0, 1) := by decide +kernel
theorem dL_law_349 : decode cL_law 349 = .ok (.iload_n 3, 1) := by decide +kernel
theorem dL_law_350 : decode cL_law 350 = .ok (.iconst 1, 1) := by decide +kernel
theorem dL_law_351 : decode cL_law 351 = .ok (.iadd, 1) := by decide +kernel
theorem dL_law_352 : decode cL_law 352 = .ok (.iaload, 1) := by decide +kernel
theorem dL_law_353 : decode cL_law 353 = .ok (.aload_n 0, 1) := by decide +kernel
theorem dL_law_354 : decode cL_law 354 = .ok (.iload_n 3, 1) := by decide +kernel
theorem dL_law_355 : decode cL_law 355 = .ok (.iconst 2, 1) := by decide +kernel
theorem dL_law_356 : decode cL_law 356 = .ok (.iadd, 1) := by decide +kernel
theorem dL_law_357 : decode cL_law 357 = .ok (.iaload, 1) := by decide +kernel
theorem dL_law_358 : decode cL_law 358 = .ok (.invokevirtual 48, 3) := by decide +kernel
theorem dL_law_361 : decode cL_law 361 = .ok (.if_icmp .eq 610, 3) := by decide +kernel
theorem dL_law_364 : decode cL_law 364 = .ok (.iconst 0, 1) := by decide +kernel
theorem dL_law_365 : decode cL_law 365 = .ok (.ireturn, 1) := by decide +kernel
theorem dL_law_366 : decode cL_law 366 = .ok (.aload_n 1, 1) := by decide +kernel
theorem dL_law_367 : decode cL_law 367 = .ok (.aload_n 0, 1) := by decide +kernel
theorem dL_law_368 : decode cL_law 368 = .ok (.iload_n 3, 1) := by decide +kernel
theorem dL_law_369 : decode cL_law 369 = .ok (.iconst 1, 1) := by decide +kernel
theorem dL_law_370 : decode cL_law 370 = .ok (.iadd, 1) := by decide +kernel
theorem dL_law_371 : decode cL_law 371 = .ok (.iaload, 1) := by decide +kernel
theorem dL_law_372 : decode cL_law 372 = .ok (.aload_n 0, 1) := by decide +kernel
theorem dL_law_373 : decode cL_law 373 = .ok (.iload_n 3, 1) := by decide +kernel
theorem dL_law_374 : decode cL_law 374 = .ok (.iconst 2, 1) := by decide +kernel
theorem dL_law_375 : decode cL_law 375 = .ok (.iadd, 1) := by decide +kernel
theorem dL_law_376 : decode cL_law 376 = .ok (.iaload, 1) := by decide +kernel
theorem dL_law_377 : decode cL_law 377 = .ok (.invokevirtual 49, 3) := by decide +kernel
theorem dL_law_380 : decode cL_law 380 = .ok (.aload_n 2, 1) := by decide +kernel
theorem dL_law_381 : decode cL_law 381 = .ok (.aload_n 0, 1) := by decide +kernel
theorem dL_law_382 : decode cL_law 382 = .ok (.iload_n 3, 1) := by decide +kernel
theorem dL_law_383 : decode cL_law 383 = .ok (.iconst 1, 1) := by decide +kernel
theorem dL_law_384 : decode cL_law 384 = .ok (.iadd, 1) := by decide +kernel
theorem dL_law_385 : decode cL_law 385 = .ok (.iaload, 1) := by decide +kernel
theorem dL_law_386 : decode cL_law 386 = .ok (.aload_n 0, 1) := by decide +kernel
theorem dL_law_387 : decode cL_law 387 = .ok (.iload_n 3, 1) := by decide +kernel
theorem dL_law_388 : decode cL_law 388 = .ok (.iconst 2, 1) := by decide +kernel
theorem dL_law_389 : decode cL_law 389 = .ok (.iadd, 1) := by decide +kernel
theorem dL_law_390 : decode cL_law 390 = .ok (.iaload, 1) := by decide +kernel
theorem dL_law_391 : decode cL_law 391 = .ok (.invokevirtual 52, 3) := by decide +kernel
theorem dL_law_394 : decode cL_law 394 = .ok (.if_icmp .eq 577, 3) := by decide +kernel
theorem dL_law_397 : decode cL_law 397 = .ok (.iconst 0, 1) := by decide +kernel
theorem dL_law_398 : decode cL_law 398 = .ok (.ireturn, 1) := by decide +kernel
theorem dL_law_399 : decode cL_law 399 = .ok (.aload_n 1, 1) := by decide +kernel
theorem dL_law_400 : decode cL_law 400 = .ok (.aload_n 0, 1) := by decide +kernel
theorem dL_law_401 : decode cL_law 401 = .ok (.iload_n 3, 1) := by decide +kernel
theorem dL_law_402 : decode cL_law 402 = .ok (.iconst 1, 1) := by decide +kernel
theorem dL_law_403 : decode cL_law 403 = .ok (.iadd, 1) := by decide +kernel
theorem dL_law_404 : decode cL_law 404 = .ok (.iaload, 1) := by decide +kernel
theorem dL_law_405 : decode cL_law 405 = .ok (.aload_n 0, 1) := by decide +kernel
theorem dL_law_406 : decode cL_law 406 = .ok (.iload_n 3, 1) := by decide +kernel
theorem dL_law_407 : decode cL_law 407 = .ok (.iconst 2, 1) := by decide +kernel
theorem dL_law_408 : decode cL_law 408 = .ok (.iadd, 1) := by decide +kernel
theorem dL_law_409 : decode cL_law 409 = .ok (.iaload, 1) := by decide +kernel
theorem dL_law_410 : decode cL_law 410 = .ok (.aload_n 0, 1) := by decide +kernel
theorem dL_law_411 : decode cL_law 411 = .ok (.iload_n 3, 1) := by decide +kernel
theorem dL_law_412 : decode cL_law 412 = .ok (.iconst 3, 1) := by decide +kernel
theorem dL_law_413 : decode cL_law 413 = .ok (.iadd, 1) := by decide +kernel
theorem dL_law_414 : decode cL_law 414 = .ok (.iaload, 1) := by decide +kernel
theorem dL_law_415 : decode cL_law 415 = .ok (.aload_n 0, 1) := by decide +kernel
theorem dL_law_416 : decode cL_law 416 = .ok (.iload_n 3, 1) := by decide +kernel
theorem dL_law_417 : decode cL_law 417 = .ok (.iconst 4, 1) := by decide +kernel
theorem dL_law_418 : decode cL_law 418 = .ok (.iadd, 1) := by decide +kernel
theorem dL_law_419 : decode cL_law 419 = .ok (.iaload, 1) := by decide +kernel
theorem dL_law_420 : decode cL_law 420 = .ok (.invokevirtual 53, 3) := by decide +kernel
theorem dL_law_423 : decode cL_law 423 = .ok (.aload_n 2, 1) := by decide +kernel
theorem dL_law_424 : decode cL_law 424 = .ok (.aload_n 0, 1) := by decide +kernel
theorem dL_law_425 : decode cL_law 425 = .ok (.iload_n 3, 1) := by decide +kernel
theorem dL_law_426 : decode cL_law 426 = .ok (.iconst 1, 1) := by decide +kernel
theorem dL_law_427 : decode cL_law 427 = .ok (.iadd, 1) := by decide +kernel
theorem dL_law_428 : decode cL_law 428 = .ok (.iaload, 1) := by decide +kernel
theorem dL_law_429 : decode cL_law 429 = .ok (.aload_n 0, 1) := by decide +kernel
theorem dL_law_430 : decode cL_law 430 = .ok (.iload_n 3, 1) := by decide +kernel
theorem dL_law_431 : decode cL_law 431 = .ok (.iconst 2, 1) := by decide +kernel
theorem dL_law_432 : decode cL_law 432 = .ok (.iadd, 1) := by decide +kernel
theorem dL_law_433 : decode cL_law 433 = .ok (.iaload, 1) := by decide +kernel
theorem dL_law_434 : decode cL_law 434 = .ok (.aload_n 0, 1) := by decide +kernel
theorem dL_law_435 : decode cL_law 435 = .ok (.iload_n 3, 1) := by decide +kernel
theorem dL_law_436 : decode cL_law 436 = .ok (.iconst 3, 1) := by decide +kernel
theorem dL_law_437 : decode cL_law 437 = .ok (.iadd, 1) := by decide +kernel
theorem dL_law_438 : decode cL_law 438 = .ok (.iaload, 1) := by decide +kernel
theorem dL_law_439 : decode cL_law 439 = .ok (.aload_n 0, 1) := by decide +kernel
theorem dL_law_440 : decode cL_law 440 = .ok (.iload_n 3, 1) := by decide +kernel
theorem dL_law_441 : decode cL_law 441 = .ok (.iconst 4, 1) := by decide +kernel
theorem dL_law_442 : decode cL_law 442 = .ok (.iadd, 1) := by decide +kernel
theorem dL_law_443 : decode cL_law 443 = .ok (.iaload, 1) := by decide +kernel
theorem dL_law_444 : decode cL_law 444 = .ok (.invokevirtual 57, 3) := by decide +kernel
theorem dL_law_447 : decode cL_law 447 = .ok (.if_icmp .eq 524, 3) := by decide +kernel
theorem dL_law_450 : decode cL_law 450 = .ok (.iconst 0, 1) := by decide +kernel
theorem dL_law_451 : decode cL_law 451 = .ok (.ireturn, 1) := by decide +kernel
theorem dL_law_452 : decode cL_law 452 = .ok (.aload_n 1, 1) := by decide +kernel
theorem dL_law_453 : decode cL_law 453 = .ok (.aload_n 0, 1) := by decide +kernel
theorem dL_law_454 : decode cL_law 454 = .ok (.iload_n 3, 1) := by decide +kernel
theorem dL_law_455 : decode cL_law 455 = .ok (.iconst 1, 1) := by decide +kernel
theorem dL_law_456 : decode cL_law 456 = .ok (.iadd, 1) := by decide +kernel
theorem dL_law_457 : decode cL_law 457 = .ok (.iaload, 1) := by decide +kernel
theorem dL_law_458 : decode cL_law 458 = .ok (.invokevirtual 58, 3) := by decide +kernel
theorem dL_law_461 : decode cL_law 461 = .ok (.aload_n 2, 1) := by decide +kernel
theorem dL_law_462 : decode cL_law 462 = .ok (.aload_n 0, 1) := by decide +kernel
theorem dL_law_463 : decode cL_law 463 = .ok (.iload_n 3, 1) := by decide +kernel
theorem dL_law_464 : decode cL_law 464 = .ok (.iconst 1, 1) := by decide +kernel
theorem dL_law_465 : decode cL_law 465 = .ok (.iadd, 1) := by decide +kernel
theorem dL_law_466 : decode cL_law 466 = .ok (.iaload, 1) := by decide +kernel
theorem dL_law_467 : decode cL_law 467 = .ok (.invokevirtual 61, 3) := by decide +kernel
theorem dL_law_470 : decode cL_law 470 = .ok (.if_icmp .eq 501, 3) := by decide +kernel
theorem dL_law_473 : decode cL_law 473 = .ok (.iconst 0, 1) := by decide +kernel
theorem dL_law_474 : decode cL_law 474 = .ok (.ireturn, 1) := by decide +kernel
theorem dL_law_475 : decode cL_law 475 = .ok (.aload_n 1, 1) := by decide +kernel
theorem dL_law_476 : decode cL_law 476 = .ok (.aload_n 0, 1) := by decide +kernel
theorem dL_law_477 : decode cL_law 477 = .ok (.iload_n 3, 1) := by decide +kernel
theorem dL_law_478 : decode cL_law 478 = .ok (.iconst 1, 1) := by decide +kernel
theorem dL_law_479 : decode cL_law 479 = .ok (.iadd, 1) := by decide +kernel
theorem dL_law_480 : decode cL_law 480 = .ok (.iaload, 1) := by decide +kernel
theorem dL_law_481 : decode cL_law 481 = .ok (.aload_n 0, 1) := by decide +kernel
theorem dL_law_482 : decode cL_law 482 = .ok (.iload_n 3, 1) := by decide +kernel
theorem dL_law_483 : decode cL_law 483 = .ok (.iconst 2, 1) := by decide +kernel
theorem dL_law_484 : decode cL_law 484 = .ok (.iadd, 1) := by decide +kernel
theorem dL_law_485 : decode cL_law 485 = .ok (.iaload, 1) := by decide +kernel
theorem dL_law_486 : decode cL_law 486 = .ok (.invokevirtual 62, 3) := by decide +kernel
theorem dL_law_489 : decode cL_law 489 = .ok (.aload_n 2, 1) := by decide +kernel
theorem dL_law_490 : decode cL_law 490 = .ok (.aload_n 0, 1) := by decide +kernel
theorem dL_law_491 : decode cL_law 491 = .ok (.iload_n 3, 1) := by decide +kernel
theorem dL_law_492 : decode cL_law 492 = .ok (.iconst 1, 1) := by decide +kernel
theorem dL_law_493 : decode cL_law 493 = .ok (.iadd, 1) := by decide +kernel
theorem dL_law_494 : decode cL_law 494 = .ok (.iaload, 1) := by decide +kernel
theorem dL_law_495 : decode cL_law 495 = .ok (.aload_n 0, 1) := by decide +kernel
theorem dL_law_496 : decode cL_law 496 = .ok (.iload_n 3, 1) := by decide +kernel
theorem dL_law_497 : decode cL_law 497 = .ok (.iconst 2, 1) := by decide +kernel
theorem dL_law_498 : decode cL_law 498 = .ok (.iadd, 1) := by decide +kernel
theorem dL_law_499 : decode cL_law 499 = .ok (.iaload, 1) := by decide +kernel
theorem dL_law_500 : decode cL_law 500 = .ok (.invokevirtual 65, 3) := by decide +kernel
theorem dL_law_503 : decode cL_law 503 = .ok (.if_icmp .eq 468, 3) := by decide +kernel
theorem dL_law_506 : decode cL_law 506 = .ok (.iconst 0, 1) := by decide +kernel
theorem dL_law_507 : decode cL_law 507 = .ok (.ireturn, 1) := by decide +kernel
theorem dL_law_508 : decode cL_law 508 = .ok (.aload_n 1, 1) := by decide +kernel
theorem dL_law_509 : decode cL_law 509 = .ok (.aload_n 0, 1) := by decide +kernel
theorem dL_law_510 : decode cL_law 510 = .ok (.iload_n 3, 1) := by decide +kernel
theorem dL_law_511 : decode cL_law 511 = .ok (.iconst 1, 1) := by decide +kernel
theorem dL_law_512 : decode cL_law 512 = .ok (.iadd, 1) := by decide +kernel
theorem dL_law_513 : decode cL_law 513 = .ok (.iaload, 1) := by decide +kernel
theorem dL_law_514 : decode cL_law 514 = .ok (.invokevirtual 66, 3) := by decide +kernel
theorem dL_law_517 : decode cL_law 517 = .ok (.aload_n 2, 1) := by decide +kernel
theorem dL_law_518 : decode cL_law 518 = .ok (.aload_n 0, 1) := by decide +kernel
theorem dL_law_519 : decode cL_law 519 = .ok (.iload_n 3, 1) := by decide +kernel
theorem dL_law_520 : decode cL_law 520 = .ok (.iconst 1, 1) := by decide +kernel
theorem dL_law_521 : decode cL_law 521 = .ok (.iadd, 1) := by decide +kernel
theorem dL_law_522 : decode cL_law 522 = .ok (.iaload, 1) := by decide +kernel
theorem dL_law_523 : decode cL_law 523 = .ok (.invokevirtual 69, 3) := by decide +kernel
theorem dL_law_526 : decode cL_law 526 = .ok (.if_icmp .eq 445, 3) := by decide +kernel
theorem dL_law_529 : decode cL_law 529 = .ok (.iconst 0, 1) := by decide +kernel
theorem dL_law_530 : decode cL_law 530 = .ok (.ireturn, 1) := by decide +kernel
theorem dL_law_531 : decode cL_law 531 = .ok (.aload_n 1, 1) := by decide +kernel
theorem dL_law_532 : decode cL_law 532 = .ok (.aload_n 0, 1) := by decide +kernel
theorem dL_law_533 : decode cL_law 533 = .ok (.iload_n 3, 1) := by decide +kernel
theorem dL_law_534 : decode cL_law 534 = .ok (.iconst 1, 1) := by decide +kernel
theorem dL_law_535 : decode cL_law 535 = .ok (.iadd, 1) := by decide +kernel
theorem dL_law_536 : decode cL_law 536 = .ok (.iaload, 1) := by decide +kernel
theorem dL_law_537 : decode cL_law 537 = .ok (.invokevirtual 70, 3) := by decide +kernel
theorem dL_law_540 : decode cL_law 540 = .ok (.aload_n 2, 1) := by decide +kernel
theorem dL_law_541 : decode cL_law 541 = .ok (.aload_n 0, 1) := by decide +kernel
theorem dL_law_542 : decode cL_law 542 = .ok (.iload_n 3, 1) := by decide +kernel
theorem dL_law_543 : decode cL_law 543 = .ok (.iconst 1, 1) := by decide +kernel
theorem dL_law_544 : decode cL_law 544 = .ok (.iadd, 1) := by decide +kernel
theorem dL_law_545 : decode cL_law 545 = .ok (.iaload, 1) := by decide +kernel
theorem dL_law_546 : decode cL_law 546 = .ok (.invokevirtual 73, 3) := by decide +kernel
theorem dL_law_549 : decode cL_law 549 = .ok (.if_icmp .eq 422, 3) := by decide +kernel
theorem dL_law_552 : decode cL_law 552 = .ok (.iconst 0, 1) := by decide +kernel
theorem dL_law_553 : decode cL_law 553 = .ok (.ireturn, 1) := by decide +kernel
theorem dL_law_554 : decode cL_law 554 = .ok (.aload_n 1, 1) := by decide +kernel
theorem dL_law_555 : decode cL_law 555 = .ok (.aload_n 0, 1) := by decide +kernel
theorem dL_law_556 : decode cL_law 556 = .ok (.iload_n 3, 1) := by decide +kernel
theorem dL_law_557 : decode cL_law 557 = .ok (.iconst 1, 1) := by decide +kernel
theorem dL_law_558 : decode cL_law 558 = .ok (.iadd, 1) := by decide +kernel
theorem dL_law_559 : decode cL_law 559 = .ok (.iaload, 1) := by decide +kernel
theorem dL_law_560 : decode cL_law 560 = .ok (.invokevirtual 74, 3) := by decide +kernel
theorem dL_law_563 : decode cL_law 563 = .ok (.aload_n 2, 1) := by decide +kernel
theorem dL_law_564 : decode cL_law 564 = .ok (.aload_n 0, 1) := by decide +kernel
theorem dL_law_565 : decode cL_law 565 = .ok (.iload_n 3, 1) := by decide +kernel
theorem dL_law_566 : decode cL_law 566 = .ok (.iconst 1, 1) := by decide +kernel
theorem dL_law_567 : decode cL_law 567 = .ok (.iadd, 1) := by decide +kernel
theorem dL_law_568 : decode cL_law 568 = .ok (.iaload, 1) := by decide +kernel
theorem dL_law_569 : decode cL_law 569 = .ok (.invokevirtual 77, 3) := by decide +kernel
theorem dL_law_572 : decode cL_law 572 = .ok (.if_icmp .eq 399, 3) := by decide +kernel
theorem dL_law_575 : decode cL_law 575 = .ok (.iconst 0, 1) := by decide +kernel
theorem dL_law_576 : decode cL_law 576 = .ok (.ireturn, 1) := by decide +kernel
theorem dL_law_577 : decode cL_law 577 = .ok (.aload_n 1, 1) := by decide +kernel
theorem dL_law_578 : decode cL_law 578 = .ok (.aload_n 0, 1) := by decide +kernel
theorem dL_law_579 : decode cL_law 579 = .ok (.iload_n 3, 1) := by decide +kernel
theorem dL_law_580 : decode cL_law 580 = .ok (.iconst 1, 1) := by decide +kernel
theorem dL_law_581 : decode cL_law 581 = .ok (.iadd, 1) := by decide +kernel
theorem dL_law_582 : decode cL_law 582 = .ok (.iaload, 1) := by decide +kernel
theorem dL_law_583 : decode cL_law 583 = .ok (.aload_n 0, 1) := by decide +kernel
theorem dL_law_584 : decode cL_law 584 = .ok (.iload_n 3, 1) := by decide +kernel
theorem dL_law_585 : decode cL_law 585 = .ok (.iconst 2, 1) := by decide +kernel
theorem dL_law_586 : decode cL_law 586 = .ok (.iadd, 1) := by decide +kernel
theorem dL_law_587 : decode cL_law 587 = .ok (.iaload, 1) := by decide +kernel
theorem dL_law_588 : decode cL_law 588 = .ok (.invokevirtual 78, 3) := by decide +kernel
theorem dL_law_591 : decode cL_law 591 = .ok (.aload_n 2, 1) := by decide +kernel
theorem dL_law_592 : decode cL_law 592 = .ok (.aload_n 0, 1) := by decide +kernel
theorem dL_law_593 : decode cL_law 593 = .ok (.iload_n 3, 1) := by decide +kernel
theorem dL_law_594 : decode cL_law 594 = .ok (.iconst 1, 1) := by decide +kernel
theorem dL_law_595 : decode cL_law 595 = .ok (.iadd, 1) := by decide +kernel
theorem dL_law_596 : decode cL_law 596 = .ok (.iaload, 1) := by decide +kernel
theorem dL_law_597 : decode cL_law 597 = .ok (.aload_n 0, 1) := by decide +kernel
theorem dL_law_598 : decode cL_law 598 = .ok (.iload_n 3, 1) := by decide +kernel
theorem dL_law_599 : decode cL_law 599 = .ok (.iconst 2, 1) := by decide +kernel
theorem dL_law_600 : decode cL_law 600 = .ok (.iadd, 1) := by decide +kernel
theorem dL_law_601 : decode cL_law 601 = .ok (.iaload, 1) := by decide +kernel
theorem dL_law_602 : decode cL_law 602 = .ok (.invokevirtual 81, 3) := by decide +kernel
theorem dL_law_605 : decode cL_law 605 = .ok (.if_icmp .eq 366, 3) := by decide +kernel
theorem dL_law_608 : decode cL_law 608 = .ok (.iconst 0, 1) := by decide +kernel
theorem dL_law_609 : decode cL_law 609 = .ok (.ireturn, 1) := by decide +kernel
theorem dL_law_610 : decode cL_law 610 = .ok (.aload_n 1, 1) := by decide +kernel
theorem dL_law_611 : decode cL_law 611 = .ok (.aload_n 0, 1) := by decide +kernel
theorem dL_law_612 : decode cL_law 612 = .ok (.iload_n 3, 1) := by decide +kernel
theorem dL_law_613 : decode cL_law 613 = .ok (.iconst 1, 1) := by decide +kernel
theorem dL_law_614 : decode cL_law 614 = .ok (.iadd, 1) := by decide +kernel
theorem dL_law_615 : decode cL_law 615 = .ok (.iaload, 1) := by decide +kernel
theorem dL_law_616 : decode cL_law 616 = .ok (.aload_n 0, 1) := by decide +kernel
theorem dL_law_617 : decode cL_law 617 = .ok (.iload_n 3, 1) := by decide +kernel
theorem dL_law_618 : decode cL_law 618 = .ok (.iconst 2, 1) := by decide +kernel
theorem dL_law_619 : decode cL_law 619 = .ok (.iadd, 1) := by decide +kernel
theorem dL_law_620 : decode cL_law 620 = .ok (.iaload, 1) := by decide +kernel
theorem dL_law_621 : decode cL_law 621 = .ok (.invokevirtual 82, 3) := by decide +kernel
theorem dL_law_624 : decode cL_law 624 = .ok (.aload_n 2, 1) := by decide +kernel
theorem dL_law_625 : decode cL_law 625 = .ok (.aload_n 0, 1) := by decide +kernel
theorem dL_law_626 : decode cL_law 626 = .ok (.iload_n 3, 1) := by decide +kernel
theorem dL_law_627 : decode cL_law 627 = .ok (.iconst 1, 1) := by decide +kernel
theorem dL_law_628 : decode cL_law 628 = .ok (.iadd, 1) := by decide +kernel
theorem dL_law_629 : decode cL_law 629 = .ok (.iaload, 1) := by decide +kernel
theorem dL_law_630 : decode cL_law 630 = .ok (.aload_n 0, 1) := by decide +kernel
theorem dL_law_631 : decode cL_law 631 = .ok (.iload_n 3, 1) := by decide +kernel
theorem dL_law_632 : decode cL_law 632 = .ok (.iconst 2, 1) := by decide +kernel
theorem dL_law_633 : decode cL_law 633 = .ok (.iadd, 1) := by decide +kernel
theorem dL_law_634 : decode cL_law 634 = .ok (.iaload, 1) := by decide +kernel
theorem dL_law_635 : decode cL_law 635 = .ok (.invokevirtual 85, 3) := by decide +kernel
theorem dL_law_638 : decode cL_law 638 = .ok (.if_icmp .eq 333, 3) := by decide +kernel
theorem dL_law_641 : decode cL_law 641 = .ok (.iconst 0, 1) := by decide +kernel
theorem dL_law_642 : decode cL_law 642 = .ok (.ireturn, 1) := by decide +kernel
theorem dL_law_643 : decode cL_law 643 = .ok (.aload_n 1, 1) := by decide +kernel
theorem dL_law_644 : decode cL_law 644 = .ok (.invokevirtual 86, 3) := by decide +kernel
theorem dL_law_647 : decode cL_law 647 = .ok (.aload_n 2, 1) := by decide +kernel
theorem dL_law_648 : decode cL_law 648 = .ok (.invokevirtual 89, 3) := by decide +kernel
theorem dL_law_651 : decode cL_law 651 = .ok (.if_icmp .eq 320, 3) := by decide +kernel
theorem dL_law_654 : decode cL_law 654 = .ok (.iconst 0, 1) := by decide +kernel
theorem dL_law_655 : decode cL_law 655 = .ok (.ireturn, 1) := by decide +kernel
theorem dL_law_656 : decode cL_law 656 = .ok (.aload_n 1, 1) := by decide +kernel
theorem dL_law_657 : decode cL_law 657 = .ok (.aload_n 0, 1) := by decide +kernel
theorem dL_law_658 : decode cL_law 658 = .ok (.iload_n 3, 1) := by decide +kernel
theorem dL_law_659 : decode cL_law 659 = .ok (.iconst 1, 1) := by decide +kernel
theorem dL_law_660 : decode cL_law 660 = .ok (.iadd, 1) := by decide +kernel
theorem dL_law_661 : decode cL_law 661 = .ok (.iaload, 1) := by decide +kernel
theorem dL_law_662 : decode cL_law 662 = .ok (.invokevirtual 90, 3) := by decide +kernel
theorem dL_law_665 : decode cL_law 665 = .ok (.aload_n 2, 1) := by decide +kernel
theorem dL_law_666 : decode cL_law 666 = .ok (.aload_n 0, 1) := by decide +kernel
theorem dL_law_667 : decode cL_law 667 = .ok (.iload_n 3, 1) := by decide +kernel
theorem dL_law_668 : decode cL_law 668 = .ok (.iconst 1, 1) := by decide +kernel
theorem dL_law_669 : decode cL_law 669 = .ok (.iadd, 1) := by decide +kernel
theorem dL_law_670 : decode cL_law 670 = .ok (.iaload, 1) := by decide +kernel
theorem dL_law_671 : decode cL_law 671 = .ok (.invokevirtual 93, 3) := by decide +kernel
theorem dL_law_674 : decode cL_law 674 = .ok (.if_icmp .eq 297, 3) := by decide +kernel
theorem dL_law_677 : decode cL_law 677 = .ok (.iconst 0, 1) := by decide +kernel
theorem dL_law_678 : decode cL_law 678 = .ok (.ireturn, 1) := by decide +kernel
theorem dL_law_679 : decode cL_law 679 = .ok (.aload_n 1, 1) := by decide +kernel
theorem dL_law_680 : decode cL_law 680 = .ok (.invokevirtual 94, 3) := by decide +kernel
theorem dL_law_683 : decode cL_law 683 = .ok (.aload_n 2, 1) := by decide +kernel
theorem dL_law_684 : decode cL_law 684 = .ok (.invokevirtual 97, 3) := by decide +kernel
theorem dL_law_687 : decode cL_law 687 = .ok (.if_icmp .eq 284, 3) := by decide +kernel
theorem dL_law_690 : decode cL_law 690 = .ok (.iconst 0, 1) := by decide +kernel
theorem dL_law_691 : decode cL_law 691 = .ok (.ireturn, 1) := by decide +kernel
theorem dL_law_692 : decode cL_law 692 = .ok (.aload_n 1, 1) := by decide +kernel
theorem dL_law_693 : decode cL_law 693 = .ok (.invokevirtual 98, 3) := by decide +kernel
theorem dL_law_696 : decode cL_law 696 = .ok (.aload_n 2, 1) := by decide +kernel
theorem dL_law_697 : decode cL_law 697 = .ok (.invokevirtual 101, 3) := by decide +kernel
theorem dL_law_700 : decode cL_law 700 = .ok (.if_icmp .eq 271, 3) := by decide +kernel
theorem dL_law_703 : decode cL_law 703 = .ok (.iconst 0, 1) := by decide +kernel
theorem dL_law_704 : decode cL_law 704 = .ok (.ireturn, 1) := by decide +kernel
theorem dL_law_705 : decode cL_law 705 = .ok (.aload_n 1, 1) := by decide +kernel
theorem dL_law_706 : decode cL_law 706 = .ok (.aload_n 0, 1) := by decide +kernel
theorem dL_law_707 : decode cL_law 707 = .ok (.iload_n 3, 1) := by decide +kernel
theorem dL_law_708 : decode cL_law 708 = .ok (.iconst 1, 1) := by decide +kernel
theorem dL_law_709 : decode cL_law 709 = .ok (.iadd, 1) := by decide +kernel
theorem dL_law_710 : decode cL_law 710 = .ok (.iaload, 1) := by decide +kernel
theorem dL_law_711 : decode cL_law 711 = .ok (.invokevirtual 102, 3) := by decide +kernel
theorem dL_law_714 : decode cL_law 714 = .ok (.aload_n 2, 1) := by decide +kernel
theorem dL_law_715 : decode cL_law 715 = .ok (.aload_n 0, 1) := by decide +kernel
theorem dL_law_716 : decode cL_law 716 = .ok (.iload_n 3, 1) := by decide +kernel
theorem dL_law_717 : decode cL_law 717 = .ok (.iconst 1, 1) := by decide +kernel
theorem dL_law_718 : decode cL_law 718 = .ok (.iadd, 1) := by decide +kernel
theorem dL_law_719 : decode cL_law 719 = .ok (.iaload, 1) := by decide +kernel
theorem dL_law_720 : decode cL_law 720 = .ok (.invokevirtual 105, 3) := by decide +kernel
theorem dL_law_723 : decode cL_law 723 = .ok (.if_icmp .eq 248, 3) := by decide +kernel
theorem dL_law_726 : decode cL_law 726 = .ok (.iconst 0, 1) := by decide +kernel
theorem dL_law_727 : decode cL_law 727 = .ok (.ireturn, 1) := by decide +kernel
theorem dL_law_728 : decode cL_law 728 = .ok (.aload_n 1, 1) := by decide +kernel
theorem dL_law_729 : decode cL_law 729 = .ok (.invokevirtual 106, 3) := by decide +kernel
theorem dL_law_732 : decode cL_law 732 = .ok (.aload_n 2, 1) := by decide +kernel
theorem dL_law_733 : decode cL_law 733 = .ok (.invokevirtual 109, 3) := by decide +kernel
theorem dL_law_736 : decode cL_law 736 = .ok (.if_icmp .eq 235, 3) := by decide +kernel
theorem dL_law_739 : decode cL_law 739 = .ok (.iconst 0, 1) := by decide +kernel
theorem dL_law_740 : decode cL_law 740 = .ok (.ireturn, 1) := by decide +kernel
theorem dL_law_741 : decode cL_law 741 = .ok (.aload_n 1, 1) := by decide +kernel
theorem dL_law_742 : decode cL_law 742 = .ok (.aload_n 0, 1) := by decide +kernel
theorem dL_law_743 : decode cL_law 743 = .ok (.iload_n 3, 1) := by decide +kernel
theorem dL_law_744 : decode cL_law 744 = .ok (.iconst 1, 1) := by decide +kernel
theorem dL_law_745 : decode cL_law 745 = .ok (.iadd, 1) := by decide +kernel
theorem dL_law_746 : decode cL_law 746 = .ok (.iaload, 1) := by decide +kernel
theorem dL_law_747 : decode cL_law 747 = .ok (.invokevirtual 110, 3) := by decide +kernel
theorem dL_law_750 : decode cL_law 750 = .ok (.aload_n 2, 1) := by decide +kernel
theorem dL_law_751 : decode cL_law 751 = .ok (.aload_n 0, 1) := by decide +kernel
theorem dL_law_752 : decode cL_law 752 = .ok (.iload_n 3, 1) := by decide +kernel
theorem dL_law_753 : decode cL_law 753 = .ok (.iconst 1, 1) := by decide +kernel
theorem dL_law_754 : decode cL_law 754 = .ok (.iadd, 1) := by decide +kernel
theorem dL_law_755 : decode cL_law 755 = .ok (.iaload, 1) := by decide +kernel
theorem dL_law_756 : decode cL_law 756 = .ok (.invokevirtual 113, 3) := by decide +kernel
theorem dL_law_759 : decode cL_law 759 = .ok (.if_icmp .eq 212, 3) := by decide +kernel
theorem dL_law_762 : decode cL_law 762 = .ok (.iconst 0, 1) := by decide +kernel
theorem dL_law_763 : decode cL_law 763 = .ok (.ireturn, 1) := by decide +kernel
theorem dL_law_764 : decode cL_law 764 = .ok (.aload_n 1, 1) := by decide +kernel
theorem dL_law_765 : decode cL_law 765 = .ok (.aload_n 0, 1) := by decide +kernel
theorem dL_law_766 : decode cL_law 766 = .ok (.iload_n 3, 1) := by decide +kernel
theorem dL_law_767 : decode cL_law 767 = .ok (.iconst 1, 1) := by decide +kernel
theorem dL_law_768 : decode cL_law 768 = .ok (.iadd, 1) := by decide +kernel
theorem dL_law_769 : decode cL_law 769 = .ok (.iaload, 1) := by decide +kernel
theorem dL_law_770 : decode cL_law 770 = .ok (.invokevirtual 114, 3) := by decide +kernel
theorem dL_law_773 : decode cL_law 773 = .ok (.aload_n 2, 1) := by decide +kernel
theorem dL_law_774 : decode cL_law 774 = .ok (.aload_n 0, 1) := by decide +kernel
theorem dL_law_775 : decode cL_law 775 = .ok (.iload_n 3, 1) := by decide +kernel
theorem dL_law_776 : decode cL_law 776 = .ok (.iconst 1, 1) := by decide +kernel
theorem dL_law_777 : decode cL_law 777 = .ok (.iadd, 1) := by decide +kernel
theorem dL_law_778 : decode cL_law 778 = .ok (.iaload, 1) := by decide +kernel
theorem dL_law_779 : decode cL_law 779 = .ok (.invokevirtual 117, 3) := by decide +kernel
theorem dL_law_782 : decode cL_law 782 = .ok (.if_icmp .eq 189, 3) := by decide +kernel
theorem dL_law_785 : decode cL_law 785 = .ok (.iconst 0, 1) := by decide +kernel
theorem dL_law_786 : decode cL_law 786 = .ok (.ireturn, 1) := by decide +kernel
theorem dL_law_787 : decode cL_law 787 = .ok (.aload_n 1, 1) := by decide +kernel
theorem dL_law_788 : decode cL_law 788 = .ok (.invokevirtual 118, 3) := by decide +kernel
theorem dL_law_791 : decode cL_law 791 = .ok (.aload_n 2, 1) := by decide +kernel
theorem dL_law_792 : decode cL_law 792 = .ok (.invokevirtual 121, 3) := by decide +kernel
theorem dL_law_795 : decode cL_law 795 = .ok (.if_icmp .eq 176, 3) := by decide +kernel
theorem dL_law_798 : decode cL_law 798 = .ok (.iconst 0, 1) := by decide +kernel
theorem dL_law_799 : decode cL_law 799 = .ok (.ireturn, 1) := by decide +kernel
theorem dL_law_800 : decode cL_law 800 = .ok (.aload_n 1, 1) := by decide +kernel
theorem dL_law_801 : decode cL_law 801 = .ok (.aload_n 0, 1) := by decide +kernel
theorem dL_law_802 : decode cL_law 802 = .ok (.iload_n 3, 1) := by decide +kernel
theorem dL_law_803 : decode cL_law 803 = .ok (.iconst 1, 1) := by decide +kernel
theorem dL_law_804 : decode cL_law 804 = .ok (.iadd, 1) := by decide +kernel
theorem dL_law_805 : decode cL_law 805 = .ok (.iaload, 1) := by decide +kernel
theorem dL_law_806 : decode cL_law 806 = .ok (.aload_n 0, 1) := by decide +kernel
theorem dL_law_807 : decode cL_law 807 = .ok (.iload_n 3, 1) := by decide +kernel
theorem dL_law_808 : decode cL_law 808 = .ok (.iconst 2, 1) := by decide +kernel
theorem dL_law_809 : decode cL_law 809 = .ok (.iadd, 1) := by decide +kernel
theorem dL_law_810 : decode cL_law 810 = .ok (.iaload, 1) := by decide +kernel
theorem dL_law_811 : decode cL_law 811 = .ok (.aload_n 0, 1) := by decide +kernel
theorem dL_law_812 : decode cL_law 812 = .ok (.iload_n 3, 1) := by decide +kernel
theorem dL_law_813 : decode cL_law 813 = .ok (.iconst 3, 1) := by decide +kernel
theorem dL_law_814 : decode cL_law 814 = .ok (.iadd, 1) := by decide +kernel
theorem dL_law_815 : decode cL_law 815 = .ok (.iaload, 1) := by decide +kernel
theorem dL_law_816 : decode cL_law 816 = .ok (.aload_n 0, 1) := by decide +kernel
theorem dL_law_817 : decode cL_law 817 = .ok (.iload_n 3, 1) := by decide +kernel
theorem dL_law_818 : decode cL_law 818 = .ok (.iconst 4, 1) := by decide +kernel
theorem dL_law_819 : decode cL_law 819 = .ok (.iadd, 1) := by decide +kernel
theorem dL_law_820 : decode cL_law 820 = .ok (.iaload, 1) := by decide +kernel
theorem dL_law_821 : decode cL_law 821 = .ok (.invokevirtual 122, 3) := by decide +kernel
theorem dL_law_824 : decode cL_law 824 = .ok (.aload_n 2, 1) := by decide +kernel
theorem dL_law_825 : decode cL_law 825 = .ok (.aload_n 0, 1) := by decide +kernel
theorem dL_law_826 : decode cL_law 826 = .ok (.iload_n 3, 1) := by decide +kernel
theorem dL_law_827 : decode cL_law 827 = .ok (.iconst 1, 1) := by decide +kernel
theorem dL_law_828 : decode cL_law 828 = .ok (.iadd, 1) := by decide +kernel
theorem dL_law_829 : decode cL_law 829 = .ok (.iaload, 1) := by decide +kernel
theorem dL_law_830 : decode cL_law 830 = .ok (.aload_n 0, 1) := by decide +kernel
theorem dL_law_831 : decode cL_law 831 = .ok (.iload_n 3, 1) := by decide +kernel
theorem dL_law_832 : decode cL_law 832 = .ok (.iconst 2, 1) := by decide +kernel
theorem dL_law_833 : decode cL_law 833 = .ok (.iadd, 1) := by decide +kernel
theorem dL_law_834 : decode cL_law 834 = .ok (.iaload, 1) := by decide +kernel
theorem dL_law_835 : decode cL_law 835 = .ok (.aload_n 0, 1) := by decide +kernel
theorem dL_law_836 : decode cL_law 836 = .ok (.iload_n 3, 1) := by decide +kernel
theorem dL_law_837 : decode cL_law 837 = .ok (.iconst 3, 1) := by decide +kernel
theorem dL_law_838 : decode cL_law 838 = .ok (.iadd, 1) := by decide +kernel
theorem dL_law_839 : decode cL_law 839 = .ok (.iaload, 1) := by decide +kernel
theorem dL_law_840 : decode cL_law 840 = .ok (.aload_n 0, 1) := by decide +kernel
theorem dL_law_841 : decode cL_law 841 = .ok (.iload_n 3, 1) := by decide +kernel
theorem dL_law_842 : decode cL_law 842 = .ok (.iconst 4, 1) := by decide +kernel
theorem dL_law_843 : decode cL_law 843 = .ok (.iadd, 1) := by decide +kernel
theorem dL_law_844 : decode cL_law 844 = .ok (.iaload, 1) := by decide +kernel
theorem dL_law_845 : decode cL_law 845 = .ok (.invokevirtual 125, 3) := by decide +kernel
theorem dL_law_848 : decode cL_law 848 = .ok (.if_icmp .eq 123, 3) := by decide +kernel
theorem dL_law_851 : decode cL_law 851 = .ok (.iconst 0, 1) := by decide +kernel
theorem dL_law_852 : decode cL_law 852 = .ok (.ireturn, 1) := by decide +kernel
theorem dL_law_853 : decode cL_law 853 = .ok (.aload_n 1, 1) := by decide +kernel
theorem dL_law_854 : decode cL_law 854 = .ok (.aload_n 0, 1) := by decide +kernel
theorem dL_law_855 : decode cL_law 855 = .ok (.iload_n 3, 1) := by decide +kernel
theorem dL_law_856 : decode cL_law 856 = .ok (.iconst 1, 1) := by decide +kernel
theorem dL_law_857 : decode cL_law 857 = .ok (.iadd, 1) := by decide +kernel
theorem dL_law_858 : decode cL_law 858 = .ok (.iaload, 1) := by decide +kernel
theorem dL_law_859 : decode cL_law 859 = .ok (.invokevirtual 126, 3) := by decide +kernel
theorem dL_law_862 : decode cL_law 862 = .ok (.aload_n 2, 1) := by decide +kernel
theorem dL_law_863 : decode cL_law 863 = .ok (.aload_n 0, 1) := by decide +kernel
theorem dL_law_864 : decode cL_law 864 = .ok (.iload_n 3, 1) := by decide +kernel
theorem dL_law_865 : decode cL_law 865 = .ok (.iconst 1, 1) := by decide +kernel
theorem dL_law_866 : decode cL_law 866 = .ok (.iadd, 1) := by decide +kernel
theorem dL_law_867 : decode cL_law 867 = .ok (.iaload, 1) := by decide +kernel
theorem dL_law_868 : decode cL_law 868 = .ok (.invokevirtual 129, 3) := by decide +kernel
theorem dL_law_871 : decode cL_law 871 = .ok (.if_icmp .eq 100, 3) := by decide +kernel
theorem dL_law_874 : decode cL_law 874 = .ok (.iconst 0, 1) := by decide +kernel
theorem dL_law_875 : decode cL_law 875 = .ok (.ireturn, 1) := by decide +kernel
theorem dL_law_876 : decode cL_law 876 = .ok (.aload_n 1, 1) := by decide +kernel
theorem dL_law_877 : decode cL_law 877 = .ok (.aload_n 0, 1) := by decide +kernel
theorem dL_law_878 : decode cL_law 878 = .ok (.iload_n 3, 1) := by decide +kernel
theorem dL_law_879 : decode cL_law 879 = .ok (.iconst 1, 1) := by decide +kernel
theorem dL_law_880 : decode cL_law 880 = .ok (.iadd, 1) := by decide +kernel
theorem dL_law_881 : decode cL_law 881 = .ok (.iaload, 1) := by decide +kernel
theorem dL_law_882 : decode cL_law 882 = .ok (.invokevirtual 130, 3) := by decide +kernel
theorem dL_law_885 : decode cL_law 885 = .ok (.aload_n 2, 1) := by decide +kernel
theorem dL_law_886 : decode cL_law 886 = .ok (.aload_n 0, 1) := by decide +kernel
theorem dL_law_887 : decode cL_law 887 = .ok (.iload_n 3, 1) := by decide +kernel
theorem dL_law_888 : decode cL_law 888 = .ok (.iconst 1, 1) := by decide +kernel
theorem dL_law_889 : decode cL_law 889 = .ok (.iadd, 1) := by decide +kernel
theorem dL_law_890 : decode cL_law 890 = .ok (.iaload, 1) := by decide +kernel
theorem dL_law_891 : decode cL_law 891 = .ok (.invokevirtual 133, 3) := by decide +kernel
theorem dL_law_894 : decode cL_law 894 = .ok (.if_icmp .eq 77, 3) := by decide +kernel
theorem dL_law_897 : decode cL_law 897 = .ok (.iconst 0, 1) := by decide +kernel
theorem dL_law_898 : decode cL_law 898 = .ok (.ireturn, 1) := by decide +kernel
theorem dL_law_899 : decode cL_law 899 = .ok (.aload_n 1, 1) := by decide +kernel
theorem dL_law_900 : decode cL_law 900 = .ok (.invokevirtual 134, 3) := by decide +kernel
theorem dL_law_903 : decode cL_law 903 = .ok (.aload_n 2, 1) := by decide +kernel
theorem dL_law_904 : decode cL_law 904 = .ok (.invokevirtual 137, 3) := by decide +kernel
theorem dL_law_907 : decode cL_law 907 = .ok (.if_icmp .eq 64, 3) := by decide +kernel
theorem dL_law_910 : decode cL_law 910 = .ok (.iconst 0, 1) := by decide +kernel
theorem dL_law_911 : decode cL_law 911 = .ok (.ireturn, 1) := by decide +kernel
theorem dL_law_912 : decode cL_law 912 = .ok (.aload_n 1, 1) := by decide +kernel
theorem dL_law_913 : decode cL_law 913 = .ok (.invokevirtual 138, 3) := by decide +kernel
theorem dL_law_916 : decode cL_law 916 = .ok (.aload_n 2, 1) := by decide +kernel
theorem dL_law_917 : decode cL_law 917 = .ok (.invokevirtual 141, 3) := by decide +kernel
theorem dL_law_920 : decode cL_law 920 = .ok (.if_icmp .eq 51, 3) := by decide +kernel
theorem dL_law_923 : decode cL_law 923 = .ok (.iconst 0, 1) := by decide +kernel
theorem dL_law_924 : decode cL_law 924 = .ok (.ireturn, 1) := by decide +kernel
theorem dL_law_925 : decode cL_law 925 = .ok (.aload_n 1, 1) := by decide +kernel
theorem dL_law_926 : decode cL_law 926 = .ok (.aload_n 0, 1) := by decide +kernel
theorem dL_law_927 : decode cL_law 927 = .ok (.iload_n 3, 1) := by decide +kernel
theorem dL_law_928 : decode cL_law 928 = .ok (.iconst 1, 1) := by decide +kernel
theorem dL_law_929 : decode cL_law 929 = .ok (.iadd, 1) := by decide +kernel
theorem dL_law_930 : decode cL_law 930 = .ok (.iaload, 1) := by decide +kernel
theorem dL_law_931 : decode cL_law 931 = .ok (.invokevirtual 142, 3) := by decide +kernel
theorem dL_law_934 : decode cL_law 934 = .ok (.aload_n 2, 1) := by decide +kernel
theorem dL_law_935 : decode cL_law 935 = .ok (.aload_n 0, 1) := by decide +kernel
theorem dL_law_936 : decode cL_law 936 = .ok (.iload_n 3, 1) := by decide +kernel
theorem dL_law_937 : decode cL_law 937 = .ok (.iconst 1, 1) := by decide +kernel
theorem dL_law_938 : decode cL_law 938 = .ok (.iadd, 1) := by decide +kernel
theorem dL_law_939 : decode cL_law 939 = .ok (.iaload, 1) := by decide +kernel
theorem dL_law_940 : decode cL_law 940 = .ok (.invokevirtual 145, 3) := by decide +kernel
theorem dL_law_943 : decode cL_law 943 = .ok (.if_icmp .eq 28, 3) := by decide +kernel
theorem dL_law_946 : decode cL_law 946 = .ok (.iconst 0, 1) := by decide +kernel
theorem dL_law_947 : decode cL_law 947 = .ok (.ireturn, 1) := by decide +kernel
theorem dL_law_948 : decode cL_law 948 = .ok (.aload_n 1, 1) := by decide +kernel
theorem dL_law_949 : decode cL_law 949 = .ok (.aload_n 0, 1) := by decide +kernel
theorem dL_law_950 : decode cL_law 950 = .ok (.iload_n 3, 1) := by decide +kernel
theorem dL_law_951 : decode cL_law 951 = .ok (.iconst 1, 1) := by decide +kernel
theorem dL_law_952 : decode cL_law 952 = .ok (.iadd, 1) := by decide +kernel
theorem dL_law_953 : decode cL_law 953 = .ok (.iaload, 1) := by decide +kernel
theorem dL_law_954 : decode cL_law 954 = .ok (.invokevirtual 146, 3) := by decide +kernel
theorem dL_law_957 : decode cL_law 957 = .ok (.aload_n 2, 1) := by decide +kernel
theorem dL_law_958 : decode cL_law 958 = .ok (.aload_n 0, 1) := by decide +kernel
theorem dL_law_959 : decode cL_law 959 = .ok (.iload_n 3, 1) := by decide +kernel
theorem dL_law_960 : decode cL_law 960 = .ok (.iconst 1, 1) := by decide +kernel
theorem dL_law_961 : decode cL_law 961 = .ok (.iadd, 1) := by decide +kernel
theorem dL_law_962 : decode cL_law 962 = .ok (.iaload, 1) := by decide +kernel
theorem dL_law_963 : decode cL_law 963 = .ok (.invokevirtual 149, 3) := by decide +kernel
theorem dL_law_966 : decode cL_law 966 = .ok (.if_icmp .eq 5, 3) := by decide +kernel
theorem dL_law_969 : decode cL_law 969 = .ok (.iconst 0, 1) := by decide +kernel
theorem dL_law_970 : decode cL_law 970 = .ok (.ireturn, 1) := by decide +kernel
theorem dL_law_971 : decode cL_law 971 = .ok (.iinc 3 5, 3) := by decide +kernel
theorem dL_law_974 : decode cL_law 974 = .ok (.goto (-956), 3) := by decide +kernel
theorem dL_law_977 : decode cL_law 977 = .ok (.iconst 1, 1) := by decide +kernel
theorem dL_law_978 : decode cL_law 978 = .ok (.ireturn, 1) := by decide +kernel
theorem dX0_init_0 : decode cX0_init 0 = .ok (.aload_n 0, 1) := by decide +kernel
theorem dX0_init_1 : decode cX0_init 1 = .ok (.invokespecial 3, 3) := by decide +kernel
theorem dX0_init_4 : decode cX0_init 4 = .ok (.aload_n 0, 1) := by decide +kernel
theorem dX0_init_5 : decode cX0_init 5 = .ok (.bipush 20, 2) := by decide +kernel
theorem dX0_init_7 : decode cX0_init 7 = .ok (.newarray .int, 2) := by decide +kernel
theorem dX0_init_9 : decode cX0_init 9 = .ok (.putfield 9, 3) := by decide +kernel
theorem dX0_init_12 : decode cX0_init 12 = .ok (.aload_n 0, 1) := by decide +kernel
theorem dX0_init_13 : decode cX0_init 13 = .ok (.bipush 20, 2) := by decide +kernel
theorem dX0_init_15 : decode cX0_init 15 = .ok (.newarray .int, 2) := by decide +kernel
theorem dX0_init_17 : decode cX0_init 17 = .ok (.putfield 15, 3) := by decide +kernel
theorem dX0_init_20 : decode cX0_init 20 = .ok (.aload_n 0, 1) := by decide +kernel
theorem dX0_init_21 : decode cX0_init 21 = .ok (.sipush 256, 3) := by decide +kernel
theorem dX0_init_24 : decode cX0_init 24 = .ok (.newarray .long, 2) := by decide +kernel
theorem dX0_init_26 : decode cX0_init 26 = .ok (.putfield 18, 3) := by decide +kernel
theorem dX0_init_29 : decode cX0_init 29 = .ok (.aload_n 0, 1) := by decide +kernel
theorem dX0_init_30 : decode cX0_init 30 = .ok (.sipush 256, 3) := by decide +kernel
theorem dX0_init_33 : decode cX0_init 33 = .ok (.newarray .int, 2) := by decide +kernel
theorem dX0_init_35 : decode cX0_init 35 = .ok (.putfield 22, 3) := by decide +kernel
theorem dX0_init_38 : decode cX0_init 38 = .ok (.aload_n 0, 1) := by decide +kernel
theorem dX0_init_39 : decode cX0_init 39 = .ok (.iconst 0, 1) := by decide +kernel
theorem dX0_init_40 : decode cX0_init 40 = .ok (.putfield 25, 3) := by decide +kernel
theorem dX0_init_43 : decode cX0_init 43 = .ok (.aload_n 0, 1) := by decide +kernel
theorem dX0_init_44 : decode cX0_init 44 = .ok (.iconst 1, 1) := by decide +kernel
theorem dX0_init_45 : decode cX0_init 45 = .ok (.putfield 29, 3) := by decide +kernel
theorem dX0_init_48 : decode cX0_init 48 = .ok (.aload_n 0, 1) := by decide +kernel
theorem dX0_init_49 : decode cX0_init 49 = .ok (.iconst (-1), 1) := by decide +kernel
theorem dX0_init_50 : decode cX0_init 50 = .ok (.putfield 32, 3) := by decide +kernel
theorem dX0_init_53 : decode cX0_init 53 = .ok (.aload_n 0, 1) := by decide +kernel
theorem dX0_init_54 : decode cX0_init 54 = .ok (.iconst 4, 1) := by decide +kernel
theorem dX0_init_55 : decode cX0_init 55 = .ok (.putfield 35, 3) := by decide +kernel
theorem dX0_init_58 : decode cX0_init 58 = .ok (.return_, 1) := by decide +kernel
theorem dX0_clear_0 : decode cX0_clear 0 = .ok (.aload_n 0, 1) := by decide +kernel
theorem dX0_clear_1 : decode cX0_clear 1 = .ok (.iconst 0, 1) := by decide +kernel
theorem dX0_clear_2 : decode cX0_clear 2 = .ok (.putfield 25, 3) := by decide +kernel
theorem dX0_clear_5 : decode cX0_clear 5 = .ok (.aload_n 0, 1) := by decide +kernel
theorem dX0_clear_6 : decode cX0_clear 6 = .ok (.iconst 1, 1) := by decide +kernel
theorem dX0_clear_7 : decode cX0_clear 7 = .ok (.putfield 29, 3) := by decide +kernel
theorem dX0_clear_10 : decode cX0_clear 10 = .ok (.aload_n 0, 1) := by decide +kernel
theorem dX0_clear_11 : decode cX0_clear 11 = .ok (.invokevirtual 38, 3) := by decide +kernel
theorem dX0_clear_14 : decode cX0_clear 14 = .ok (.return_, 1) := by decide +kernel
theorem dX0_hasGoal_0 : decode cX0_hasGoal 0 = .ok (.aload_n 0, 1) := by decide +kernel
theorem dX0_hasGoal_1 : decode cX0_hasGoal 1 = .ok (.getfield 32, 3) := by decide +kernel
theorem dX0_hasGoal_4 : decode cX0_hasGoal 4 = .ok (.iconst (-1), 1) := by decide +kernel
theorem dX0_hasGoal_5 : decode cX0_hasGoal 5 = .ok (.if_icmp .eq 7, 3) := by decide +kernel
theorem dX0_hasGoal_8 : decode cX0_hasGoal 8 = .ok (.iconst 1, 1) := by decide +kernel
theorem dX0_hasGoal_9 : decode cX0_hasGoal 9 = .ok (.goto 4, 3) := by decide +kernel
theorem dX0_hasGoal_12 : decode cX0_hasGoal 12 = .ok (.iconst 0, 1) := by decide +kernel
theorem dX0_hasGoal_13 : decode cX0_hasGoal 13 = .ok (.ireturn, 1) := by decide +kernel
theorem dX0_aimAt_0 : decode cX0_aimAt 0 = .ok (.aload_n 0, 1) := by decide +kernel
theorem dX0_aimAt_1 : decode cX0_aimAt 1 = .ok (.iload_n 1, 1) := by decide +kernel
theorem dX0_aimAt_2 : decode cX0_aimAt 2 = .ok (.putfield 32, 3) := by decide +kernel
theorem dX0_aimAt_5 : decode cX0_aimAt 5 = .ok (.aload_n 0, 1) := by decide +kernel
theorem dX0_aimAt_6 : decode cX0_aimAt 6 = .ok (.iload_n 2, 1) := by decide +kernel
theorem dX0_aimAt_7 : decode cX0_aimAt 7 = .ok (.putfield 35, 3) := by decide +kernel
theorem dX0_aimAt_10 : decode cX0_aimAt 10 = .ok (.return_, 1) := by decide +kernel
theorem dX0_dropGoal_0 : decode cX0_dropGoal 0 = .ok (.aload_n 0, 1) := by decide +kernel
theorem dX0_dropGoal_1 : decode cX0_dropGoal 1 = .ok (.iconst (-1), 1) := by decide +kernel
theorem dX0_dropGoal_2 : decode cX0_dropGoal 2 = .ok (.putfield 32, 3) := by decide +kernel
theorem dX0_dropGoal_5 : decode cX0_dropGoal 5 = .ok (.aload_n 0, 1) := by decide +kernel
theorem dX0_dropGoal_6 : decode cX0_dropGoal 6 = .ok (.iconst 4, 1) := by decide +kernel
theorem dX0_dropGoal_7 : decode cX0_dropGoal 7 = .ok (.putfield 35, 3) := by decide +kernel
theorem dX0_dropGoal_10 : decode cX0_dropGoal 10 = .ok (.aload_n 0, 1) := by decide +kernel
theorem dX0_dropGoal_11 : decode cX0_dropGoal 11 = .ok (.getfield 22, 3) := by decide +kernel
theorem dX0_dropGoal_14 : decode cX0_dropGoal 14 = .ok (.iconst 0, 1) := by decide +kernel
theorem dX0_dropGoal_15 : decode cX0_dropGoal 15 = .ok (.invokestatic 41, 3) := by decide +kernel
theorem dX0_dropGoal_18 : decode cX0_dropGoal 18 = .ok (.return_, 1) := by decide +kernel
theorem dX0_goalProperty_0 : decode cX0_goalProperty 0 = .ok (.aload_n 0, 1) := by decide +kernel
theorem dX0_goalProperty_1 : decode cX0_goalProperty 1 = .ok (.invokevirtual 47, 3) := by decide +kernel
theorem dX0_goalProperty_4 : decode cX0_goalProperty 4 = .ok (.ifCond .ne 6, 3) := by decide +kernel
theorem dX0_goalProperty_7 : decode cX0_goalProperty 7 = .ok (.bipush (-7), 2) := by decide +kernel
theorem dX0_goalProperty_9 : decode cX0_goalProperty 9 = .ok (.ireturn, 1) := by decide +kernel
theorem dX0_goalProperty_10 : decode cX0_goalProperty 10 = .ok (.iload_n 1, 1) := by decide +kernel
theorem dX0_goalProperty_11 : decode cX0_goalProperty 11 = .ok (.iconst 2, 1) := by decide +kernel
theorem dX0_goalProperty_12 : decode cX0_goalProperty 12 = .ok (.if_icmp .ne 8, 3) := by decide +kernel
theorem dX0_goalProperty_15 : decode cX0_goalProperty 15 = .ok (.aload_n 0, 1) := by decide +kernel
theorem dX0_goalProperty_16 : decode cX0_goalProperty 16 = .ok (.getfield 35, 3) := by decide +kernel
theorem dX0_goalProperty_19 : decode cX0_goalProperty 19 = .ok (.ireturn, 1) := by decide +kernel
theorem dX0_goalProperty_20 : decode cX0_goalProperty 20 = .ok (.iload_n 1, 1) := by decide +kernel
theorem dX0_goalProperty_21 : decode cX0_goalProperty 21 = .ok (.ifCond .ne 13, 3) := by decide +kernel
theorem dX0_goalProperty_24 : decode cX0_goalProperty 24 = .ok (.aload_n 0, 1) := by decide +kernel
theorem dX0_goalProperty_25 : decode cX0_goalProperty 25 = .ok (.getfield 32, 3) := by decide +kernel
theorem dX0_goalProperty_28 : decode cX0_goalProperty 28 = .ok (.invokestatic 51, 3) := by decide +kernel
theorem dX0_goalProperty_31 : decode cX0_goalProperty 31 = .ok (.goto 10, 3) := by decide +kernel
theorem dX0_goalProperty_34 : decode cX0_goalProperty 34 = .ok (.aload_n 0, 1) := by decide +kernel
theorem dX0_goalProperty_35 : decode cX0_goalProperty 35 = .ok (.getfield 32, 3) := by decide +kernel
theorem dX0_goalProperty_38 : decode cX0_goalProperty 38 = .ok (.invokestatic 55, 3) := by decide +kernel
theorem dX0_goalProperty_41 : decode cX0_goalProperty 41 = .ok (.ireturn, 1) := by decide +kernel
theorem dX0_fits_0 : decode cX0_fits 0 = .ok (.aload_n 0, 1) := by decide +kernel
theorem dX0_fits_1 : decode cX0_fits 1 = .ok (.getfield 18, 3) := by decide +kernel
theorem dX0_fits_4 : decode cX0_fits 4 = .ok (.iload_n 1, 1) := by decide +kernel
theorem dX0_fits_5 : decode cX0_fits 5 = .ok (.laload, 1) := by decide +kernel
theorem dX0_fits_6 : decode cX0_fits 6 = .ok (.lconst 0, 1) := by decide +kernel
theorem dX0_fits_7 : decode cX0_fits 7 = .ok (.lcmp, 1) := by decide +kernel
theorem dX0_fits_8 : decode cX0_fits 8 = .ok (.ifCond .eq 7, 3) := by decide +kernel
theorem dX0_fits_11 : decode cX0_fits 11 = .ok (.iconst 1, 1) := by decide +kernel
theorem dX0_fits_12 : decode cX0_fits 12 = .ok (.goto 4, 3) := by decide +kernel
theorem dX0_fits_15 : decode cX0_fits 15 = .ok (.iconst 0, 1) := by decide +kernel
theorem dX0_fits_16 : decode cX0_fits 16 = .ok (.ireturn, 1) := by decide +kernel
theorem dX0_addCell_0 : decode cX0_addCell 0 = .ok (.aload_n 0, 1) := by decide +kernel
theorem dX0_addCell_1 : decode cX0_addCell 1 = .ok (.getfield 25, 3) := by decide +kernel
theorem dX0_addCell_4 : decode cX0_addCell 4 = .ok (.iconst 5, 1) := by decide +kernel
theorem dX0_addCell_5 : decode cX0_addCell 5 = .ok (.if_icmp .lt 4, 3) := by decide +kernel
theorem dX0_addCell_8 : decode cX0_addCell 8 = .ok (.return_, 1) := by decide +kernel
theorem dX0_addCell_9 : decode cX0_addCell 9 = .ok (.iload_n 1, 1) := by decide +kernel
theorem dX0_addCell_10 : decode cX0_addCell 10 = .ok (.istore_n 3, 1) := by decide +kernel
theorem dX0_addCell_11 : decode cX0_addCell 11 = .ok (.iload_n 2, 1) := by decide +kernel
theorem dX0_addCell_12 : decode cX0_addCell 12 = .ok (.istore 4, 2) := by decide +kernel
theorem dX0_addCell_14 : decode cX0_addCell 14 = .ok (.iconst 0, 1) := by decide +kernel
theorem dX0_addCell_15 : decode cX0_addCell 15 = .ok (.istore 5, 2) := by decide +kernel
theorem dX0_addCell_17 : decode cX0_addCell 17 = .ok (.iload 5, 2) := by decide +kernel
theorem dX0_addCell_19 : decode cX0_addCell 19 = .ok (.iconst 4, 1) := by decide +kernel
theorem dX0_addCell_20 : decode cX0_addCell 20 = .ok (.if_icmp .ge 51, 3) := by decide +kernel
theorem dX0_addCell_23 : decode cX0_addCell 23 = .ok (.aload_n 0, 1) := by decide +kernel
theorem dX0_addCell_24 : decode cX0_addCell 24 = .ok (.getfield 9, 3) := by decide +kernel
theorem dX0_addCell_27 : decode cX0_addCell 27 = .ok (.iconst 5, 1) := by decide +kernel
theorem dX0_addCell_28 : decode cX0_addCell 28 = .ok (.iload 5, 2) := by decide +kernel
theorem dX0_addCell_30 : decode cX0_addCell 30 = .ok (.imul, 1) := by decide +kernel
theorem dX0_addCell_31 : decode cX0_addCell 31 = .ok (.aload_n 0, 1) := by decide +kernel
theorem dX0_addCell_32 : decode cX0_addCell 32 = .ok (.getfield 25, 3) := by decide +kernel
theorem dX0_addCell_35 : decode cX0_addCell 35 = .ok (.iadd, 1) := by decide +kernel
theorem dX0_addCell_36 : decode cX0_addCell 36 = .ok (.iload_n 3, 1) := by decide +kernel
theorem dX0_addCell_37 : decode cX0_addCell 37 = .ok (.iastore, 1) := by decide +kernel
theorem dX0_addCell_38 : decode cX0_addCell 38 = .ok (.aload_n 0, 1) := by decide +kernel
theorem dX0_addCell_39 : decode cX0_addCell 39 = .ok (.getfield 15, 3) := by decide +kernel
theorem dX0_addCell_42 : decode cX0_addCell 42 = .ok (.iconst 5, 1) := by decide +kernel
theorem dX0_addCell_43 : decode cX0_addCell 43 = .ok (.iload 5, 2) := by decide +kernel
theorem dX0_addCell_45 : decode cX0_addCell 45 = .ok (.imul, 1) := by decide +kernel
theorem dX0_addCell_46 : decode cX0_addCell 46 = .ok (.aload_n 0, 1) := by decide +kernel
theorem dX0_addCell_47 : decode cX0_addCell 47 = .ok (.getfield 25, 3) := by decide +kernel
theorem dX0_addCell_50 : decode cX0_addCell 50 = .ok (.iadd, 1) := by decide +kernel
theorem dX0_addCell_51 : decode cX0_addCell 51 = .ok (.iload 4, 2) := by decide +kernel
theorem dX0_addCell_53 : decode cX0_addCell 53 = .ok (.iastore, 1) := by decide +kernel
theorem dX0_addCell_54 : decode cX0_addCell 54 = .ok (.iload 4, 2) := by decide +kernel
theorem dX0_addCell_56 : decode cX0_addCell 56 = .ok (.ineg, 1) := by decide +kernel
theorem dX0_addCell_57 : decode cX0_addCell 57 = .ok (.istore 6, 2) := by decide +kernel
theorem dX0_addCell_59 : decode cX0_addCell 59 = .ok (.iload_n 3, 1) := by decide +kernel
theorem dX0_addCell_60 : decode cX0_addCell 60 = .ok (.istore 4, 2) := by decide +kernel
theorem dX0_addCell_62 : decode cX0_addCell 62 = .ok (.iload 6, 2) := by decide +kernel
theorem dX0_addCell_64 : decode cX0_addCell 64 = .ok (.istore_n 3, 1) := by decide +kernel
theorem dX0_addCell_65 : decode cX0_addCell 65 = .ok (.iinc 5 1, 3) := by decide +kernel
theorem dX0_addCell_68 : decode cX0_addCell 68 = .ok (.goto (-51), 3) := by decide +kernel
theorem dX0_addCell_71 : decode cX0_addCell 71 = .ok (.aload_n 0, 1) := by decide +kernel
theorem dX0_addCell_72 : decode cX0_addCell 72 = .ok (.dup, 1) := by decide +kernel
theorem dX0_addCell_73 : decode cX0_addCell 73 = .ok (.getfield 25, 3) := by decide +kernel
theorem dX0_addCell_76 : decode cX0_addCell 76 = .ok (.iconst 1, 1) := by decide +kernel
theorem dX0_addCell_77 : decode cX0_addCell 77 = .ok (.iadd, 1) := by decide +kernel
theorem dX0_addCell_78 : decode cX0_addCell 78 = .ok (.putfield 25, 3) := by decide +kernel
theorem dX0_addCell_81 : decode cX0_addCell 81 = .ok (.return_, 1) := by decide +kernel
theorem dX0_findPlacements_0 : decode cX0_findPlacements 0 = .ok (.iconst 0, 1) := by decide +kernel
theorem dX0_findPlacements_1 : decode cX0_findPlacements 1 = .ok (.istore_n 2, 1) := by decide +kernel
theorem dX0_findPlacements_2 : decode cX0_findPlacements 2 = .ok (.iload_n 2, 1) := by decide +kernel
theorem dX0_findPlacements_3 : decode cX0_findPlacements 3 = .ok (.sipush 256, 3) := by decide +kernel
theorem dX0_findPlacements_6 : decode cX0_findPlacements 6 = .ok (.if_icmp .ge 21, 3) := by decide +kernel
theorem dX0_findPlacements_9 : decode cX0_findPlacements 9 = .ok (.aload_n 0, 1) := by decide +kernel
theorem dX0_findPlacements_10 : decode cX0_findPlacements 10 = .ok (.getfield 18, 3) := by decide +kernel
theorem dX0_findPlacements_13 : decode cX0_findPlacements 13 = .ok (.iload_n 2, 1) := by decide +kernel
theorem dX0_findPlacements_14 : decode cX0_findPlacements 14 = .ok (.aload_n 0, 1) := by decide +kernel
theorem dX0_findPlacements_15 : decode cX0_findPlacements 15 = .ok (.aload_n 1, 1) := by decide +kernel
theorem dX0_findPlacements_16 : decode cX0_findPlacements 16 = .ok (.iload_n 2, 1) := by decide +kernel
theorem dX0_findPlacements_17 : decode cX0_findPlacements 17 = .ok (.invokevirtual 58, 3) := by decide +kernel
theorem dX0_findPlacements_20 : decode cX0_findPlacements 20 = .ok (.lastore, 1) := by decide +kernel
theorem dX0_findPlacements_21 : decode cX0_findPlacements 21 = .ok (.iinc 2 1, 3) := by decide +kernel
theorem dX0_findPlacements_24 : decode cX0_findPlacements 24 = .ok (.goto (-22), 3) := by decide +kernel
theorem dX0_findPlacements_27 : decode cX0_findPlacements 27 = .ok (.return_, 1) := by decide +kernel
theorem dX0_cellsIn_0 : decode cX0_cellsIn 0 = .ok (.iconst 5, 1) := by decide +kernel
theorem dX0_cellsIn_1 : decode cX0_cellsIn 1 = .ok (.iload_n 2, 1) := by decide +kernel
theorem dX0_cellsIn_2 : decode cX0_cellsIn 2 = .ok (.invokestatic 62, 3) := by decide +kernel
theorem dX0_cellsIn_5 : decode cX0_cellsIn 5 = .ok (.imul, 1) := by decide +kernel
theorem dX0_cellsIn_6 : decode cX0_cellsIn 6 = .ok (.istore_n 3, 1) := by decide +kernel
theorem dX0_cellsIn_7 : decode cX0_cellsIn 7 = .ok (.lconst 0, 1) := by decide +kernel
theorem dX0_cellsIn_8 : decode cX0_cellsIn 8 = .ok (.lstore 4, 2) := by decide +kernel
theorem dX0_cellsIn_10 : decode cX0_cellsIn 10 = .ok (.iload_n 3, 1) := by decide +kernel
theorem dX0_cellsIn_11 : decode cX0_cellsIn 11 = .ok (.istore 6, 2) := by decide +kernel
theorem dX0_cellsIn_13 : decode cX0_cellsIn 13 = .ok (.iload 6, 2) := by decide +kernel
theorem dX0_cellsIn_15 : decode cX0_cellsIn 15 = .ok (.iload_n 3, 1) := by decide +kernel
theorem dX0_cellsIn_16 : decode cX0_cellsIn 16 = .ok (.aload_n 0, 1) := by decide +kernel
theorem dX0_cellsIn_17 : decode cX0_cellsIn 17 = .ok (.getfield 25, 3) := by decide +kernel
theorem dX0_cellsIn_20 : decode cX0_cellsIn 20 = .ok (.iadd, 1) := by decide +kernel
theorem dX0_cellsIn_21 : decode cX0_cellsIn 21 = .ok (.if_icmp .ge 67, 3) := by decide +kernel
theorem dX0_cellsIn_24 : decode cX0_cellsIn 24 = .ok (.aload_n 1, 1) := by decide +kernel
theorem dX0_cellsIn_25 : decode cX0_cellsIn 25 = .ok (.iload_n 2, 1) := by decide +kernel
theorem dX0_cellsIn_26 : decode cX0_cellsIn 26 = .ok (.invokestatic 51, 3) := by decide +kernel
theorem dX0_cellsIn_29 : decode cX0_cellsIn 29 = .ok (.aload_n 0, 1) := by decide +kernel
theorem dX0_cellsIn_30 : decode cX0_cellsIn 30 = .ok (.getfield 9, 3) := by decide +kernel
theorem dX0_cellsIn_33 : decode cX0_cellsIn 33 = .ok (.iload 6, 2) := by decide +kernel
theorem dX0_cellsIn_35 : decode cX0_cellsIn 35 = .ok (.iaload, 1) := by decide +kernel
theorem dX0_cellsIn_36 : decode cX0_cellsIn 36 = .ok (.iadd, 1) := by decide +kernel
theorem dX0_cellsIn_37 : decode cX0_cellsIn 37 = .ok (.iload_n 2, 1) := by decide +kernel
theorem dX0_cellsIn_38 : decode cX0_cellsIn 38 = .ok (.invokestatic 55, 3) := by decide +kernel
theorem dX0_cellsIn_41 : decode cX0_cellsIn 41 = .ok (.aload_n 0, 1) := by decide +kernel
theorem dX0_cellsIn_42 : decode cX0_cellsIn 42 = .ok (.getfield 15, 3) := by decide +kernel
theorem dX0_cellsIn_45 : decode cX0_cellsIn 45 = .ok (.iload 6, 2) := by decide +kernel
theorem dX0_cellsIn_47 : decode cX0_cellsIn 47 = .ok (.iaload, 1) := by decide +kernel
theorem dX0_cellsIn_48 : decode cX0_cellsIn 48 = .ok (.iadd, 1) := by decide +kernel
theorem dX0_cellsIn_49 : decode cX0_cellsIn 49 = .ok (.invokevirtual 65, 3) := by decide +kernel
theorem dX0_cellsIn_52 : decode cX0_cellsIn 52 = .ok (.istore 7, 2) := by decide +kernel
theorem dX0_cellsIn_54 : decode cX0_cellsIn 54 = .ok (.iload 7, 2) := by decide +kernel
theorem dX0_cellsIn_56 : decode cX0_cellsIn 56 = .ok (.ifCond .lt 15, 3) := by decide +kernel
theorem dX0_cellsIn_59 : decode cX0_cellsIn 59 = .ok (.aload_n 1, 1) := by decide +kernel
theorem dX0_cellsIn_60 : decode cX0_cellsIn 60 = .ok (.getfield 71, 3) := by decide +kernel
theorem dX0_cellsIn_63 : decode cX0_cellsIn 63 = .ok (.iload 7, 2) := by decide +kernel
theorem dX0_cellsIn_65 : decode cX0_cellsIn 65 = .ok (.invokestatic 75, 3) := by decide +kernel
theorem dX0_cellsIn_68 : decode cX0_cellsIn 68 = .ok (.ifCond .eq 5, 3) := by decide +kernel
theorem dX0_cellsIn_71 : decode cX0_cellsIn 71 = .ok (.lconst 0, 1) := by decide +kernel
theorem dX0_cellsIn_72 : decode cX0_cellsIn 72 = .ok (.lreturn, 1) := by decide +kernel
theorem dX0_cellsIn_73 : decode cX0_cellsIn 73 = .ok (.lload 4, 2) := by decide +kernel
theorem dX0_cellsIn_75 : decode cX0_cellsIn 75 = .ok (.lconst 1, 1) := by decide +kernel
theorem dX0_cellsIn_76 : decode cX0_cellsIn 76 = .ok (.iload 7, 2) := by decide +kernel
theorem dX0_cellsIn_78 : decode cX0_cellsIn 78 = .ok (.lshl, 1) := by decide +kernel
theorem dX0_cellsIn_79 : decode cX0_cellsIn 79 = .ok (.lor, 1) := by decide +kernel
theorem dX0_cellsIn_80 : decode cX0_cellsIn 80 = .ok (.lstore 4, 2) := by decide +kernel
theorem dX0_cellsIn_82 : decode cX0_cellsIn 82 = .ok (.iinc 6 1, 3) := by decide +kernel
theorem dX0_cellsIn_85 : decode cX0_cellsIn 85 = .ok (.goto (-72), 3) := by decide +kernel
theorem dX0_cellsIn_88 : decode cX0_cellsIn 88 = .ok (.lload 4, 2) := by decide +kernel
theorem dX0_cellsIn_90 : decode cX0_cellsIn 90 = .ok (.lreturn, 1) := by decide +kernel
theorem dX0_afterPush_0 : decode cX0_afterPush 0 = .ok (.aload_n 1, 1) := by decide +kernel
theorem dX0_afterPush_1 : decode cX0_afterPush 1 = .ok (.iload_n 2, 1) := by decide +kernel
theorem dX0_afterPush_2 : decode cX0_afterPush 2 = .ok (.iload_n 3, 1) := by decide +kernel
theorem dX0_afterPush_3 : decode cX0_afterPush 3 = .ok (.invokevirtual 79, 3) := by decide +kernel
theorem dX0_afterPush_6 : decode cX0_afterPush 6 = .ok (.istore 6, 2) := by decide +kernel
theorem dX0_afterPush_8 : decode cX0_afterPush 8 = .ok (.iload 6, 2) := by decide +kernel
theorem dX0_afterPush_10 : decode cX0_afterPush 10 = .ok (.ifCond .lt 12, 3) := by decide +kernel
theorem dX0_afterPush_13 : decode cX0_afterPush 13 = .ok (.aload_n 0, 1) := by decide +kernel
theorem dX0_afterPush_14 : decode cX0_afterPush 14 = .ok (.iload 6, 2) := by decide +kernel
theorem dX0_afterPush_16 : decode cX0_afterPush 16 = .ok (.invokevirtual 82, 3) := by decide +kernel
theorem dX0_afterPush_19 : decode cX0_afterPush 19 = .ok (.ifCond .ne 5, 3) := by decide +kernel
theorem dX0_afterPush_22 : decode cX0_afterPush 22 = .ok (.iconst (-1), 1) := by decide +kernel
theorem dX0_afterPush_23 : decode cX0_afterPush 23 = .ok (.ireturn, 1) := by decide +kernel
theorem dX0_afterPush_24 : decode cX0_afterPush 24 = .ok (.lload 4, 2) := by decide +kernel
theorem dX0_afterPush_26 : decode cX0_afterPush 26 = .ok (.aload_n 1, 1) := by decide +kernel
theorem dX0_afterPush_27 : decode cX0_afterPush 27 = .ok (.getfield 86, 3) := by decide +kernel
theorem dX0_afterPush_30 : decode cX0_afterPush 30 = .ok (.aload_n 1, 1) := by decide +kernel
theorem dX0_afterPush_31 : decode cX0_afterPush 31 = .ok (.getfield 89, 3) := by decide +kernel
theorem dX0_afterPush_34 : decode cX0_afterPush 34 = .ok (.iload_n 3, 1) := by decide +kernel
theorem dX0_afterPush_35 : decode cX0_afterPush 35 = .ok (.laload, 1) := by decide +kernel
theorem dX0_afterPush_36 : decode cX0_afterPush 36 = .ok (.ldc2_w 92, 3) := by decide +kernel
theorem dX0_afterPush_39 : decode cX0_afterPush 39 = .ok (.lxor, 1) := by decide +kernel
theorem dX0_afterPush_40 : decode cX0_afterPush 40 = .ok (.land, 1) := by decide +kernel
theorem dX0_afterPush_41 : decode cX0_afterPush 41 = .ok (.lor, 1) := by decide +kernel
theorem dX0_afterPush_42 : decode cX0_afterPush 42 = .ok (.lstore 7, 2) := by decide +kernel
theorem dX0_afterPush_44 : decode cX0_afterPush 44 = .ok (.aload_n 0, 1) := by decide +kernel
theorem dX0_afterPush_45 : decode cX0_afterPush 45 = .ok (.getfield 18, 3) := by decide +kernel
theorem dX0_afterPush_48 : decode cX0_afterPush 48 = .ok (.iload 6, 2) := by decide +kernel
theorem dX0_afterPush_50 : decode cX0_afterPush 50 = .ok (.laload, 1) := by decide +kernel
theorem dX0_afterPush_51 : decode cX0_afterPush 51 = .ok (.lload 7, 2) := by decide +kernel
theorem dX0_afterPush_53 : decode cX0_afterPush 53 = .ok (.land, 1) := by decide +kernel
theorem dX0_afterPush_54 : decode cX0_afterPush 54 = .ok (.lconst 0, 1) := by decide +kernel
theorem dX0_afterPush_55 : decode cX0_afterPush 55 = .ok (.lcmp, 1) := by decide +kernel
theorem dX0_afterPush_56 : decode cX0_afterPush 56 = .ok (.ifCond .ne 8, 3) := by decide +kernel
theorem dX0_afterPush_59 : decode cX0_afterPush 59 = .ok (.iload 6, 2) := by decide +kernel
theorem dX0_afterPush_61 : decode cX0_afterPush 61 = .ok (.goto 4, 3) := by decide +kernel
theorem dX0_afterPush_64 : decode cX0_afterPush 64 = .ok (.iconst (-1), 1) := by decide +kernel
theorem dX0_afterPush_65 : decode cX0_afterPush 65 = .ok (.ireturn, 1) := by decide +kernel
theorem dX0_afterTurn_0 : decode cX0_afterTurn 0 = .ok (.iconst 5, 1) := by decide +kernel
theorem dX0_afterTurn_1 : decode cX0_afterTurn 1 = .ok (.iload_n 2, 1) := by decide +kernel
theorem dX0_afterTurn_2 : decode cX0_afterTurn 2 = .ok (.invokestatic 62, 3) := by decide +kernel
theorem dX0_afterTurn_5 : decode cX0_afterTurn 5 = .ok (.imul, 1) := by decide +kernel
theorem dX0_afterTurn_6 : decode cX0_afterTurn 6 = .ok (.istore 6, 2) := by decide +kernel
theorem dX0_afterTurn_8 : decode cX0_afterTurn 8 = .ok (.lload 4, 2) := by decide +kernel
theorem dX0_afterTurn_10 : decode cX0_afterTurn 10 = .ok (.aload_n 1, 1) := by decide +kernel
theorem dX0_afterTurn_11 : decode cX0_afterTurn 11 = .ok (.getfield 71, 3) := by decide +kernel
theorem dX0_afterTurn_14 : decode cX0_afterTurn 14 = .ok (.lor, 1) := by decide +kernel
theorem dX0_afterTurn_15 : decode cX0_afterTurn 15 = .ok (.aload_n 1, 1) := by decide +kernel
theorem dX0_afterTurn_16 : decode cX0_afterTurn 16 = .ok (.getfield 86, 3) := by decide +kernel
theorem dX0_afterTurn_19 : decode cX0_afterTurn 19 = .ok (.lor, 1) := by decide +kernel
theorem dX0_afterTurn_20 : decode cX0_afterTurn 20 = .ok (.lstore 7, 2) := by decide +kernel
theorem dX0_afterTurn_22 : decode cX0_afterTurn 22 = .ok (.iload_n 3, 1) := by decide +kernel
theorem dX0_afterTurn_23 : decode cX0_afterTurn 23 = .ok (.iconst 4, 1) := by decide +kernel
theorem dX0_afterTurn_24 : decode cX0_afterTurn 24 = .ok (.if_icmp .ne 7, 3) := by decide +kernel
theorem dX0_afterTurn_27 : decode cX0_afterTurn 27 = .ok (.iconst 1, 1) := by decide +kernel
theorem dX0_afterTurn_28 : decode cX0_afterTurn 28 = .ok (.goto 4, 3) := by decide +kernel
theorem dX0_afterTurn_31 : decode cX0_afterTurn 31 = .ok (.iconst (-1), 1) := by decide +kernel
theorem dX0_afterTurn_32 : decode cX0_afterTurn 32 = .ok (.istore 9, 2) := by decide +kernel
theorem dX0_afterTurn_34 : decode cX0_afterTurn 34 = .ok (.iload 6, 2) := by decide +kernel
theorem dX0_afterTurn_36 : decode cX0_afterTurn 36 = .ok (.istore 10, 2) := by decide +kernel
theorem dX0_afterTurn_38 : decode cX0_afterTurn 38 = .ok (.iload 10, 2) := by decide +kernel
theorem dX0_afterTurn_40 : decode cX0_afterTurn 40 = .ok (.iload 6, 2) := by decide +kernel
theorem dX0_afterTurn_42 : decode cX0_afterTurn 42 = .ok (.aload_n 0, 1) := by decide +kernel
theorem dX0_afterTurn_43 : decode cX0_afterTurn 43 = .ok (.getfield 25, 3) := by decide +kernel
theorem dX0_afterTurn_46 : decode cX0_afterTurn 46 = .ok (.iadd, 1) := by decide +kernel
theorem dX0_afterTurn_47 : decode cX0_afterTurn 47 = .ok (.if_icmp .ge 40, 3) := by decide +kernel
theorem dX0_afterTurn_50 : decode cX0_afterTurn 50 = .ok (.aload_n 1, 1) := by decide +kernel
theorem dX0_afterTurn_51 : decode cX0_afterTurn 51 = .ok (.iload_n 2, 1) := by decide +kernel
theorem dX0_afterTurn_52 : decode cX0_afterTurn 52 = .ok (.aload_n 0, 1) := by decide +kernel
theorem dX0_afterTurn_53 : decode cX0_afterTurn 53 = .ok (.getfield 9, 3) := by decide +kernel
theorem dX0_afterTurn_56 : decode cX0_afterTurn 56 = .ok (.iload 10, 2) := by decide +kernel
theorem dX0_afterTurn_58 : decode cX0_afterTurn 58 = .ok (.iaload, 1) := by decide +kernel
theorem dX0_afterTurn_59 : decode cX0_afterTurn 59 = .ok (.iload 9, 2) := by decide +kernel
theorem dX0_afterTurn_61 : decode cX0_afterTurn 61 = .ok (.aload_n 0, 1) := by decide +kernel
theorem dX0_afterTurn_62 : decode cX0_afterTurn 62 = .ok (.getfield 15, 3) := by decide +kernel
theorem dX0_afterTurn_65 : decode cX0_afterTurn 65 = .ok (.iload 10, 2) := by decide +kernel
theorem dX0_afterTurn_67 : decode cX0_afterTurn 67 = .ok (.iaload, 1) := by decide +kernel
theorem dX0_afterTurn_68 : decode cX0_afterTurn 68 = .ok (.imul, 1) := by decide +kernel
theorem dX0_afterTurn_69 : decode cX0_afterTurn 69 = .ok (.iload 9, 2) := by decide +kernel
theorem dX0_afterTurn_71 : decode cX0_afterTurn 71 = .ok (.lload 7, 2) := by decide +kernel
theorem dX0_afterTurn_73 : decode cX0_afterTurn 73 = .ok (.invokestatic 94, 3) := by decide +kernel
theorem dX0_afterTurn_76 : decode cX0_afterTurn 76 = .ok (.ifCond .ne 5, 3) := by decide +kernel
theorem dX0_afterTurn_79 : decode cX0_afterTurn 79 = .ok (.iconst (-1), 1) := by decide +kernel
theorem dX0_afterTurn_80 : decode cX0_afterTurn 80 = .ok (.ireturn, 1) := by decide +kernel
theorem dX0_afterTurn_81 : decode cX0_afterTurn 81 = .ok (.iinc 10 1, 3) := by decide +kernel
theorem dX0_afterTurn_84 : decode cX0_afterTurn 84 = .ok (.goto (-46), 3) := by decide +kernel
theorem dX0_afterTurn_87 : decode cX0_afterTurn 87 = .ok (.aload_n 1, 1) := by decide +kernel
theorem dX0_afterTurn_88 : decode cX0_afterTurn 88 = .ok (.iload_n 2, 1) := by decide +kernel
theorem dX0_afterTurn_89 : decode cX0_afterTurn 89 = .ok (.iload_n 3, 1) := by decide +kernel
theorem dX0_afterTurn_90 : decode cX0_afterTurn 90 = .ok (.invokevirtual 79, 3) := by decide +kernel
theorem dX0_afterTurn_93 : decode cX0_afterTurn 93 = .ok (.ireturn, 1) := by decide +kernel
theorem dX0_sweepIsClear_0 : decode cX0_sweepIsClear 0 = .ok (.iload_n 2, 1) := by decide +kernel
theorem dX0_sweepIsClear_1 : decode cX0_sweepIsClear 1 = .ok (.invokestatic 98, 3) := by decide +kernel
theorem dX0_sweepIsClear_4 : decode cX0_sweepIsClear 4 = .ok (.iload_n 3, 1) := by decide +kernel
theorem dX0_sweepIsClear_5 : decode cX0_sweepIsClear 5 = .ok (.invokestatic 98, 3) := by decide +kernel
theorem dX0_sweepIsClear_8 : decode cX0_sweepIsClear 8 = .ok (.invokestatic 103, 3) := by decide +kernel
theorem dX0_sweepIsClear_11 : decode cX0_sweepIsClear 11 = .ok (.istore 7, 2) := by decide +kernel
theorem dX0_sweepIsClear_13 : decode cX0_sweepIsClear 13 = .ok (.iload_n 2, 1) := by decide +kernel
theorem dX0_sweepIsClear_14 : decode cX0_sweepIsClear 14 = .ok (.istore 8, 2) := by decide +kernel
theorem dX0_sweepIsClear_16 : decode cX0_sweepIsClear 16 = .ok (.iload_n 3, 1) := by decide +kernel
theorem dX0_sweepIsClear_17 : decode cX0_sweepIsClear 17 = .ok (.istore 9, 2) := by decide +kernel
theorem dX0_sweepIsClear_19 : decode cX0_sweepIsClear 19 = .ok (.iconst 0, 1) := by decide +kernel
theorem dX0_sweepIsClear_20 : decode cX0_sweepIsClear 20 = .ok (.istore 10, 2) := by decide +kernel
theorem dX0_sweepIsClear_22 : decode cX0_sweepIsClear 22 = .ok (.iload 10, 2) := by decide +kernel
theorem dX0_sweepIsClear_24 : decode cX0_sweepIsClear 24 = .ok (.iconst 2, 1) := by decide +kernel
theorem dX0_sweepIsClear_25 : decode cX0_sweepIsClear 25 = .ok (.iload 7, 2) := by decide +kernel
theorem dX0_sweepIsClear_27 : decode cX0_sweepIsClear 27 = .ok (.imul, 1) := by decide +kernel
theorem dX0_sweepIsClear_28 : decode cX0_sweepIsClear 28 = .ok (.if_icmp .ge 114, 3) := by decide +kernel
theorem dX0_sweepIsClear_31 : decode cX0_sweepIsClear 31 = .ok (.iload 9, 2) := by decide +kernel
theorem dX0_sweepIsClear_33 : decode cX0_sweepIsClear 33 = .ok (.iload 7, 2) := by decide +kernel
theorem dX0_sweepIsClear_35 : decode cX0_sweepIsClear 35 = .ok (.ineg, 1) := by decide +kernel
theorem dX0_sweepIsClear_36 : decode cX0_sweepIsClear 36 = .ok (.if_icmp .ne 16, 3) := by decide +kernel
theorem dX0_sweepIsClear_39 : decode cX0_sweepIsClear 39 = .ok (.iload 8, 2) := by decide +kernel
theorem dX0_sweepIsClear_41 : decode cX0_sweepIsClear 41 = .ok (.iload 7, 2) := by decide +kernel
theorem dX0_sweepIsClear_43 : decode cX0_sweepIsClear 43 = .ok (.if_icmp .ge 9, 3) := by decide +kernel
theorem dX0_sweepIsClear_46 : decode cX0_sweepIsClear 46 = .ok (.iinc 8 1, 3) := by decide +kernel
theorem dX0_sweepIsClear_49 : decode cX0_sweepIsClear 49 = .ok (.goto 47, 3) := by decide +kernel
theorem dX0_sweepIsClear_52 : decode cX0_sweepIsClear 52 = .ok (.iload 8, 2) := by decide +kernel
theorem dX0_sweepIsClear_54 : decode cX0_sweepIsClear 54 = .ok (.iload 7, 2) := by decide +kernel
theorem dX0_sweepIsClear_56 : decode cX0_sweepIsClear 56 = .ok (.if_icmp .ne 16, 3) := by decide +kernel
theorem dX0_sweepIsClear_59 : decode cX0_sweepIsClear 59 = .ok (.iload 9, 2) := by decide +kernel
theorem dX0_sweepIsClear_61 : decode cX0_sweepIsClear 61 = .ok (.iload 7, 2) := by decide +kernel
theorem dX0_sweepIsClear_63 : decode cX0_sweepIsClear 63 = .ok (.if_icmp .ge 9, 3) := by decide +kernel
theorem dX0_sweepIsClear_66 : decode cX0_sweepIsClear 66 = .ok (.iinc 9 1, 3) := by decide +kernel
theorem dX0_sweepIsClear_69 : decode cX0_sweepIsClear 69 = .ok (.goto 27, 3) := by decide +kernel
theorem dX0_sweepIsClear_72 : decode cX0_sweepIsClear 72 = .ok (.iload 9, 2) := by decide +kernel
theorem dX0_sweepIsClear_74 : decode cX0_sweepIsClear 74 = .ok (.iload 7, 2) := by decide +kernel
theorem dX0_sweepIsClear_76 : decode cX0_sweepIsClear 76 = .ok (.if_icmp .ne 17, 3) := by decide +kernel
theorem dX0_sweepIsClear_79 : decode cX0_sweepIsClear 79 = .ok (.iload 8, 2) := by decide +kernel
theorem dX0_sweepIsClear_81 : decode cX0_sweepIsClear 81 = .ok (.iload 7, 2) := by decide +kernel
theorem dX0_sweepIsClear_83 : decode cX0_sweepIsClear 83 = .ok (.ineg, 1) := by decide +kernel
theorem dX0_sweepIsClear_84 : decode cX0_sweepIsClear 84 = .ok (.if_icmp .le 9, 3) := by decide +kernel
theorem dX0_sweepIsClear_87 : decode cX0_sweepIsClear 87 = .ok (.iinc 8 (-1), 3) := by decide +kernel
theorem dX0_sweepIsClear_90 : decode cX0_sweepIsClear 90 = .ok (.goto 6, 3) := by decide +kernel
theorem dX0_sweepIsClear_93 : decode cX0_sweepIsClear 93 = .ok (.iinc 9 (-1), 3) := by decide +kernel
theorem dX0_sweepIsClear_96 : decode cX0_sweepIsClear 96 = .ok (.aload_n 0, 1) := by decide +kernel
theorem dX0_sweepIsClear_97 : decode cX0_sweepIsClear 97 = .ok (.iload_n 1, 1) := by decide +kernel
theorem dX0_sweepIsClear_98 : decode cX0_sweepIsClear 98 = .ok (.invokestatic 51, 3) := by decide +kernel
theorem dX0_sweepIsClear_101 : decode cX0_sweepIsClear 101 = .ok (.iload 8, 2) := by decide +kernel
theorem dX0_sweepIsClear_103 : decode cX0_sweepIsClear 103 = .ok (.iadd, 1) := by decide +kernel
theorem dX0_sweepIsClear_104 : decode cX0_sweepIsClear 104 = .ok (.iload_n 1, 1) := by decide +kernel
theorem dX0_sweepIsClear_105 : decode cX0_sweepIsClear 105 = .ok (.invokestatic 55, 3) := by decide +kernel
theorem dX0_sweepIsClear_108 : decode cX0_sweepIsClear 108 = .ok (.iload 4, 2) := by decide +kernel
theorem dX0_sweepIsClear_110 : decode cX0_sweepIsClear 110 = .ok (.iload 9, 2) := by decide +kernel
theorem dX0_sweepIsClear_112 : decode cX0_sweepIsClear 112 = .ok (.imul, 1) := by decide +kernel
theorem dX0_sweepIsClear_113 : decode cX0_sweepIsClear 113 = .ok (.iadd, 1) := by decide +kernel
theorem dX0_sweepIsClear_114 : decode cX0_sweepIsClear 114 = .ok (.invokevirtual 65, 3) := by decide +kernel
theorem dX0_sweepIsClear_117 : decode cX0_sweepIsClear 117 = .ok (.istore 11, 2) := by decide +kernel
theorem dX0_sweepIsClear_119 : decode cX0_sweepIsClear 119 = .ok (.iload 11, 2) := by decide +kernel
theorem dX0_sweepIsClear_121 : decode cX0_sweepIsClear 121 = .ok (.ifCond .lt 13, 3) := by decide +kernel
theorem dX0_sweepIsClear_124 : decode cX0_sweepIsClear 124 = .ok (.lload 5, 2) := by decide +kernel
theorem dX0_sweepIsClear_126 : decode cX0_sweepIsClear 126 = .ok (.iload 11, 2) := by decide +kernel
theorem dX0_sweepIsClear_128 : decode cX0_sweepIsClear 128 = .ok (.invokestatic 75, 3) := by decide +kernel
theorem dX0_sweepIsClear_131 : decode cX0_sweepIsClear 131 = .ok (.ifCond .eq 5, 3) := by decide +kernel
theorem dX0_sweepIsClear_134 : decode cX0_sweepIsClear 134 = .ok (.iconst 0, 1) := by decide +kernel
theorem dX0_sweepIsClear_135 : decode cX0_sweepIsClear 135 = .ok (.ireturn, 1) := by decide +kernel
theorem dX0_sweepIsClear_136 : decode cX0_sweepIsClear 136 = .ok (.iinc 10 1, 3) := by decide +kernel
theorem dX0_sweepIsClear_139 : decode cX0_sweepIsClear 139 = .ok (.goto (-117), 3) := by decide +kernel
theorem dX0_sweepIsClear_142 : decode cX0_sweepIsClear 142 = .ok (.iconst 1, 1) := by decide +kernel
theorem dX0_sweepIsClear_143 : decode cX0_sweepIsClear 143 = .ok (.ireturn, 1) := by decide +kernel
theorem dX0_measure_0 : decode cX0_measure 0 = .ok (.aload_n 0, 1) := by decide +kernel
theorem dX0_measure_1 : decode cX0_measure 1 = .ok (.getfield 22, 3) := by decide +kernel
theorem dX0_measure_4 : decode cX0_measure 4 = .ok (.iconst (-1), 1) := by decide +kernel
theorem dX0_measure_5 : decode cX0_measure 5 = .ok (.invokestatic 41, 3) := by decide +kernel
theorem dX0_measure_8 : decode cX0_measure 8 = .ok (.iconst 0, 1) := by decide +kernel
theorem dX0_measure_9 : decode cX0_measure 9 = .ok (.istore_n 3, 1) := by decide +kernel
theorem dX0_measure_10 : decode cX0_measure 10 = .ok (.iconst 0, 1) := by decide +kernel
theorem dX0_measure_11 : decode cX0_measure 11 = .ok (.istore 4, 2) := by decide +kernel
theorem dX0_measure_13 : decode cX0_measure 13 = .ok (.iload 4, 2) := by decide +kernel
theorem dX0_measure_15 : decode cX0_measure 15 = .ok (.iconst 4, 1) := by decide +kernel
theorem dX0_measure_16 : decode cX0_measure 16 = .ok (.if_icmp .ge 75, 3) := by decide +kernel
theorem dX0_measure_19 : decode cX0_measure 19 = .ok (.bipush 64, 2) := by decide +kernel
theorem dX0_measure_21 : decode cX0_measure 21 = .ok (.iload 4, 2) := by decide +kernel
theorem dX0_measure_23 : decode cX0_measure 23 = .ok (.imul, 1) := by decide +kernel
theorem dX0_measure_24 : decode cX0_measure 24 = .ok (.aload_n 0, 1) := by decide +kernel
theorem dX0_measure_25 : decode cX0_measure 25 = .ok (.getfield 32, 3) := by decide +kernel
theorem dX0_measure_28 : decode cX0_measure 28 = .ok (.iadd, 1) := by decide +kernel
theorem dX0_measure_29 : decode cX0_measure 29 = .ok (.istore 5, 2) := by decide +kernel
theorem dX0_measure_31 : decode cX0_measure 31 = .ok (.aload_n 0, 1) := by decide +kernel
theorem dX0_measure_32 : decode cX0_measure 32 = .ok (.getfield 35, 3) := by decide +kernel
theorem dX0_measure_35 : decode cX0_measure 35 = .ok (.iconst 4, 1) := by decide +kernel
theorem dX0_measure_36 : decode cX0_measure 36 = .ok (.if_icmp .eq 12, 3) := by decide +kernel
theorem dX0_measure_39 : decode cX0_measure 39 = .ok (.aload_n 0, 1) := by decide +kernel
theorem dX0_measure_40 : decode cX0_measure 40 = .ok (.getfield 35, 3) := by decide +kernel
theorem dX0_measure_43 : decode cX0_measure 43 = .ok (.iload 4, 2) := by decide +kernel
theorem dX0_measure_45 : decode cX0_measure 45 = .ok (.if_icmp .ne 7, 3) := by decide +kernel
theorem dX0_measure_48 : decode cX0_measure 48 = .ok (.iconst 1, 1) := by decide +kernel
theorem dX0_measure_49 : decode cX0_measure 49 = .ok (.goto 4, 3) := by decide +kernel
theorem dX0_measure_52 : decode cX0_measure 52 = .ok (.iconst 0, 1) := by decide +kernel
theorem dX0_measure_53 : decode cX0_measure 53 = .ok (.istore 6, 2) := by decide +kernel
theorem dX0_measure_55 : decode cX0_measure 55 = .ok (.iload 6, 2) := by decide +kernel
theorem dX0_measure_57 : decode cX0_measure 57 = .ok (.ifCond .eq 28, 3) := by decide +kernel
theorem dX0_measure_60 : decode cX0_measure 60 = .ok (.aload_n 0, 1) := by decide +kernel
theorem dX0_measure_61 : decode cX0_measure 61 = .ok (.iload 5, 2) := by decide +kernel
theorem dX0_measure_63 : decode cX0_measure 63 = .ok (.invokevirtual 82, 3) := by decide +kernel
theorem dX0_measure_66 : decode cX0_measure 66 = .ok (.ifCond .eq 19, 3) := by decide +kernel
theorem dX0_measure_69 : decode cX0_measure 69 = .ok (.aload_n 0, 1) := by decide +kernel
theorem dX0_measure_70 : decode cX0_measure 70 = .ok (.getfield 22, 3) := by decide +kernel
theorem dX0_measure_73 : decode cX0_measure 73 = .ok (.iload 5, 2) := by decide +kernel
theorem dX0_measure_75 : decode cX0_measure 75 = .ok (.iconst 0, 1) := by decide +kernel
theorem dX0_measure_76 : decode cX0_measure 76 = .ok (.iastore, 1) := by decide +kernel
theorem dX0_measure_77 : decode cX0_measure 77 = .ok (.aload_n 2, 1) := by decide +kernel
theorem dX0_measure_78 : decode cX0_measure 78 = .ok (.iload_n 3, 1) := by decide +kernel
theorem dX0_measure_79 : decode cX0_measure 79 = .ok (.iload 5, 2) := by decide +kernel
theorem dX0_measure_81 : decode cX0_measure 81 = .ok (.iastore, 1) := by decide +kernel
theorem dX0_measure_82 : decode cX0_measure 82 = .ok (.iinc 3 1, 3) := by decide +kernel
theorem dX0_measure_85 : decode cX0_measure 85 = .ok (.iinc 4 1, 3) := by decide +kernel
theorem dX0_measure_88 : decode cX0_measure 88 = .ok (.goto (-75), 3) := by decide +kernel
theorem dX0_measure_91 : decode cX0_measure 91 = .ok (.iconst 0, 1) := by decide +kernel
theorem dX0_measure_92 : decode cX0_measure 92 = .ok (.istore 4, 2) := by decide +kernel
theorem dX0_measure_94 : decode cX0_measure 94 = .ok (.iload 4, 2) := by decide +kernel
theorem dX0_measure_96 : decode cX0_measure 96 = .ok (.iload_n 3, 1) := by decide +kernel
theorem dX0_measure_97 : decode cX0_measure 97 = .ok (.if_icmp .ge 87, 3) := by decide +kernel
theorem dX0_measure_100 : decode cX0_measure 100 = .ok (.iload 4, 2) := by decide +kernel
theorem dX0_measure_102 : decode cX0_measure 102 = .ok (.sipush 256, 3) := by decide +kernel
theorem dX0_measure_105 : decode cX0_measure 105 = .ok (.if_icmp .ge 79, 3) := by decide +kernel
theorem dX0_measure_108 : decode cX0_measure 108 = .ok (.iconst 0, 1) := by decide +kernel
theorem dX0_measure_109 : decode cX0_measure 109 = .ok (.istore 5, 2) := by decide +kernel
theorem dX0_measure_111 : decode cX0_measure 111 = .ok (.iload 5, 2) := by decide +kernel
theorem dX0_measure_113 : decode cX0_measure 113 = .ok (.bipush 6, 2) := by decide +kernel
theorem dX0_measure_115 : decode cX0_measure 115 = .ok (.if_icmp .ge 63, 3) := by decide +kernel
theorem dX0_measure_118 : decode cX0_measure 118 = .ok (.aload_n 0, 1) := by decide +kernel
theorem dX0_measure_119 : decode cX0_measure 119 = .ok (.aload_n 1, 1) := by decide +kernel
theorem dX0_measure_120 : decode cX0_measure 120 = .ok (.aload_n 2, 1) := by decide +kernel
theorem dX0_measure_121 : decode cX0_measure 121 = .ok (.iload 4, 2) := by decide +kernel
theorem dX0_measure_123 : decode cX0_measure 123 = .ok (.iaload, 1) := by decide +kernel
theorem dX0_measure_124 : decode cX0_measure 124 = .ok (.iload 5, 2) := by decide +kernel
theorem dX0_measure_126 : decode cX0_measure 126 = .ok (.invokevirtual 106, 3) := by decide +kernel
theorem dX0_measure_129 : decode cX0_measure 129 = .ok (.istore 6, 2) := by decide +kernel
theorem dX0_measure_131 : decode cX0_measure 131 = .ok (.iload 6, 2) := by decide +kernel
theorem dX0_measure_133 : decode cX0_measure 133 = .ok (.ifCond .lt 39, 3) := by decide +kernel
theorem dX0_measure_136 : decode cX0_measure 136 = .ok (.aload_n 0, 1) := by decide +kernel
theorem dX0_measure_137 : decode cX0_measure 137 = .ok (.getfield 22, 3) := by decide +kernel
theorem dX0_measure_140 : decode cX0_measure 140 = .ok (.iload 6, 2) := by decide +kernel
theorem dX0_measure_142 : decode cX0_measure 142 = .ok (.iaload, 1) := by decide +kernel
theorem dX0_measure_143 : decode cX0_measure 143 = .ok (.ifCond .ge 29, 3) := by decide +kernel
theorem dX0_measure_146 : decode cX0_measure 146 = .ok (.aload_n 0, 1) := by decide +kernel
theorem dX0_measure_147 : decode cX0_measure 147 = .ok (.getfield 22, 3) := by decide +kernel
theorem dX0_measure_150 : decode cX0_measure 150 = .ok (.iload 6, 2) := by decide +kernel
theorem dX0_measure_152 : decode cX0_measure 152 = .ok (.aload_n 0, 1) := by decide +kernel
theorem dX0_measure_153 : decode cX0_measure 153 = .ok (.getfield 22, 3) := by decide +kernel
theorem dX0_measure_156 : decode cX0_measure 156 = .ok (.aload_n 2, 1) := by decide +kernel
theorem dX0_measure_157 : decode cX0_measure 157 = .ok (.iload 4, 2) := by decide +kernel
theorem dX0_measure_159 : decode cX0_measure 159 = .ok (.iaload, 1) := by decide +kernel
theorem dX0_measure_160 : decode cX0_measure 160 = .ok (.iaload, 1) := by decide +kernel
theorem dX0_measure_161 : decode cX0_measure 161 = .ok (.iconst 1, 1) := by decide +kernel
theorem dX0_measure_162 : decode cX0_measure 162 = .ok (.iadd, 1) := by decide +kernel
theorem dX0_measure_163 : decode cX0_measure 163 = .ok (.iastore, 1) := by decide +kernel
theorem dX0_measure_164 : decode cX0_measure 164 = .ok (.aload_n 2, 1) := by decide +kernel
theorem dX0_measure_165 : decode cX0_measure 165 = .ok (.iload_n 3, 1) := by decide +kernel
theorem dX0_measure_166 : decode cX0_measure 166 = .ok (.iload 6, 2) := by decide +kernel
theorem dX0_measure_168 : decode cX0_measure 168 = .ok (.iastore, 1) := by decide +kernel
theorem dX0_measure_169 : decode cX0_measure 169 = .ok (.iinc 3 1, 3) := by decide +kernel
theorem dX0_measure_172 : decode cX0_measure 172 = .ok (.iinc 5 1, 3) := by decide +kernel
theorem dX0_measure_175 : decode cX0_measure 175 = .ok (.goto (-64), 3) := by decide +kernel
theorem dX0_measure_178 : decode cX0_measure 178 = .ok (.iinc 4 1, 3) := by decide +kernel
theorem dX0_measure_181 : decode cX0_measure 181 = .ok (.goto (-87), 3) := by decide +kernel
theorem dX0_measure_184 : decode cX0_measure 184 = .ok (.return_, 1) := by decide +kernel
theorem dX0_placementBefore_0 : decode cX0_placementBefore 0 = .ok (.iload_n 3, 1) := by decide +kernel
theorem dX0_placementBefore_1 : decode cX0_placementBefore 1 = .ok (.iconst 4, 1) := by decide +kernel
theorem dX0_placementBefore_2 : decode cX0_placementBefore 2 = .ok (.if_icmp .ge 7, 3) := by decide +kernel
theorem dX0_placementBefore_5 : decode cX0_placementBefore 5 = .ok (.iconst 1, 1) := by decide +kernel
theorem dX0_placementBefore_6 : decode cX0_placementBefore 6 = .ok (.goto 4, 3) := by decide +kernel
theorem dX0_placementBefore_9 : decode cX0_placementBefore 9 = .ok (.iconst 0, 1) := by decide +kernel
theorem dX0_placementBefore_10 : decode cX0_placementBefore 10 = .ok (.istore 4, 2) := by decide +kernel
theorem dX0_placementBefore_12 : decode cX0_placementBefore 12 = .ok (.aload_n 1, 1) := by decide +kernel
theorem dX0_placementBefore_13 : decode cX0_placementBefore 13 = .ok (.iload_n 2, 1) := by decide +kernel
theorem dX0_placementBefore_14 : decode cX0_placementBefore 14 = .ok (.iload 4, 2) := by decide +kernel
theorem dX0_placementBefore_16 : decode cX0_placementBefore 16 = .ok (.ifCond .eq 9, 3) := by decide +kernel
theorem dX0_placementBefore_19 : decode cX0_placementBefore 19 = .ok (.iload_n 3, 1) := by decide +kernel
theorem dX0_placementBefore_20 : decode cX0_placementBefore 20 = .ok (.iconst 2, 1) := by decide +kernel
theorem dX0_placementBefore_21 : decode cX0_placementBefore 21 = .ok (.ixor, 1) := by decide +kernel
theorem dX0_placementBefore_22 : decode cX0_placementBefore 22 = .ok (.goto 6, 3) := by decide +kernel
theorem dX0_placementBefore_25 : decode cX0_placementBefore 25 = .ok (.iload_n 3, 1) := by decide +kernel
theorem dX0_placementBefore_26 : decode cX0_placementBefore 26 = .ok (.iconst 1, 1) := by decide +kernel
theorem dX0_placementBefore_27 : decode cX0_placementBefore 27 = .ok (.ixor, 1) := by decide +kernel
theorem dX0_placementBefore_28 : decode cX0_placementBefore 28 = .ok (.invokevirtual 79, 3) := by decide +kernel
theorem dX0_placementBefore_31 : decode cX0_placementBefore 31 = .ok (.istore 5, 2) := by decide +kernel
theorem dX0_placementBefore_33 : decode cX0_placementBefore 33 = .ok (.iload 5, 2) := by decide +kernel
theorem dX0_placementBefore_35 : decode cX0_placementBefore 35 = .ok (.ifCond .lt 12, 3) := by decide +kernel
theorem dX0_placementBefore_38 : decode cX0_placementBefore 38 = .ok (.aload_n 0, 1) := by decide +kernel
theorem dX0_placementBefore_39 : decode cX0_placementBefore 39 = .ok (.iload 5, 2) := by decide +kernel
theorem dX0_placementBefore_41 : decode cX0_placementBefore 41 = .ok (.invokevirtual 82, 3) := by decide +kernel
theorem dX0_placementBefore_44 : decode cX0_placementBefore 44 = .ok (.ifCond .ne 5, 3) := by decide +kernel
theorem dX0_placementBefore_47 : decode cX0_placementBefore 47 = .ok (.iconst (-1), 1) := by decide +kernel
theorem dX0_placementBefore_48 : decode cX0_placementBefore 48 = .ok (.ireturn, 1) := by decide +kernel
theorem dX0_placementBefore_49 : decode cX0_placementBefore 49 = .ok (.iload 4, 2) := by decide +kernel
theorem dX0_placementBefore_51 : decode cX0_placementBefore 51 = .ok (.ifCond .eq 15, 3) := by decide +kernel
theorem dX0_placementBefore_54 : decode cX0_placementBefore 54 = .ok (.aload_n 0, 1) := by decide +kernel
theorem dX0_placementBefore_55 : decode cX0_placementBefore 55 = .ok (.aload_n 1, 1) := by decide +kernel
theorem dX0_placementBefore_56 : decode cX0_placementBefore 56 = .ok (.iload 5, 2) := by decide +kernel
theorem dX0_placementBefore_58 : decode cX0_placementBefore 58 = .ok (.iload_n 3, 1) := by decide +kernel
theorem dX0_placementBefore_59 : decode cX0_placementBefore 59 = .ok (.lconst 0, 1) := by decide +kernel
theorem dX0_placementBefore_60 : decode cX0_placementBefore 60 = .ok (.invokevirtual 110, 3) := by decide +kernel
theorem dX0_placementBefore_63 : decode cX0_placementBefore 63 = .ok (.goto 12, 3) := by decide +kernel
theorem dX0_placementBefore_66 : decode cX0_placementBefore 66 = .ok (.aload_n 0, 1) := by decide +kernel
theorem dX0_placementBefore_67 : decode cX0_placementBefore 67 = .ok (.aload_n 1, 1) := by decide +kernel
theorem dX0_placementBefore_68 : decode cX0_placementBefore 68 = .ok (.iload 5, 2) := by decide +kernel
theorem dX0_placementBefore_70 : decode cX0_placementBefore 70 = .ok (.iload_n 3, 1) := by decide +kernel
theorem dX0_placementBefore_71 : decode cX0_placementBefore 71 = .ok (.lconst 0, 1) := by decide +kernel
theorem dX0_placementBefore_72 : decode cX0_placementBefore 72 = .ok (.invokevirtual 114, 3) := by decide +kernel
theorem dX0_placementBefore_75 : decode cX0_placementBefore 75 = .ok (.istore 6, 2) := by decide +kernel
theorem dX0_placementBefore_77 : decode cX0_placementBefore 77 = .ok (.iload 6, 2) := by decide +kernel
theorem dX0_placementBefore_79 : decode cX0_placementBefore 79 = .ok (.ifCond .ge 7, 3) := by decide +kernel
theorem dX0_placementBefore_82 : decode cX0_placementBefore 82 = .ok (.iconst (-1), 1) := by decide +kernel
theorem dX0_placementBefore_83 : decode cX0_placementBefore 83 = .ok (.goto 5, 3) := by decide +kernel
theorem dX0_placementBefore_86 : decode cX0_placementBefore 86 = .ok (.iload 5, 2) := by decide +kernel
theorem dX0_placementBefore_88 : decode cX0_placementBefore 88 = .ok (.ireturn, 1) := by decide +kernel
theorem dX1_init_0 : decode cX1_init 0 = .ok (.aload_n 0, 1) := by decide +kernel
theorem dX1_init_1 : decode cX1_init 1 = .ok (.invokespecial 3, 3) := by decide +kernel
theorem dX1_init_4 : decode cX1_init 4 = .ok (.aload_n 0, 1) := by decide +kernel
theorem dX1_init_5 : decode cX1_init 5 = .ok (.sipush 201, 3) := by decide +kernel
theorem dX1_init_8 : decode cX1_init 8 = .ok (.newarray .long, 2) := by decide +kernel
theorem dX1_init_10 : decode cX1_init 10 = .ok (.putfield 9, 3) := by decide +kernel
theorem dX1_init_13 : decode cX1_init 13 = .ok (.aload_n 0, 1) := by decide +kernel
theorem dX1_init_14 : decode cX1_init 14 = .ok (.sipush 200, 3) := by decide +kernel
theorem dX1_init_17 : decode cX1_init 17 = .ok (.newarray .int, 2) := by decide +kernel
theorem dX1_init_19 : decode cX1_init 19 = .ok (.putfield 15, 3) := by decide +kernel
theorem dX1_init_22 : decode cX1_init 22 = .ok (.aload_n 0, 1) := by decide +kernel
theorem dX1_init_23 : decode cX1_init 23 = .ok (.sipush 201, 3) := by decide +kernel
theorem dX1_init_26 : decode cX1_init 26 = .ok (.newarray .int, 2) := by decide +kernel
theorem dX1_init_28 : decode cX1_init 28 = .ok (.putfield 19, 3) := by decide +kernel
theorem dX1_init_31 : decode cX1_init 31 = .ok (.aload_n 0, 1) := by decide +kernel
theorem dX1_init_32 : decode cX1_init 32 = .ok (.iconst 0, 1) := by decide +kernel
theorem dX1_init_33 : decode cX1_init 33 = .ok (.putfield 22, 3) := by decide +kernel
theorem dX1_init_36 : decode cX1_init 36 = .ok (.aload_n 0, 1) := by decide +kernel
theorem dX1_init_37 : decode cX1_init 37 = .ok (.iconst 0, 1) := by decide +kernel
theorem dX1_init_38 : decode cX1_init 38 = .ok (.putfield 26, 3) := by decide +kernel
theorem dX1_init_41 : decode cX1_init 41 = .ok (.return_, 1) := by decide +kernel
theorem dX1_begin_0 : decode cX1_begin 0 = .ok (.aload_n 0, 1) := by decide +kernel
theorem dX1_begin_1 : decode cX1_begin 1 = .ok (.getfield 9, 3) := by decide +kernel
theorem dX1_begin_4 : decode cX1_begin 4 = .ok (.iconst 0, 1) := by decide +kernel
theorem dX1_begin_5 : decode cX1_begin 5 = .ok (.lload_n 1, 1) := by decide +kernel
theorem dX1_begin_6 : decode cX1_begin 6 = .ok (.lastore, 1) := by decide +kernel
theorem dX1_begin_7 : decode cX1_begin 7 = .ok (.aload_n 0, 1) := by decide +kernel
theorem dX1_begin_8 : decode cX1_begin 8 = .ok (.iconst 0, 1) := by decide +kernel
theorem dX1_begin_9 : decode cX1_begin 9 = .ok (.putfield 22, 3) := by decide +kernel
theorem dX1_begin_12 : decode cX1_begin 12 = .ok (.aload_n 0, 1) := by decide +kernel
theorem dX1_begin_13 : decode cX1_begin 13 = .ok (.iconst 0, 1) := by decide +kernel
theorem dX1_begin_14 : decode cX1_begin 14 = .ok (.putfield 26, 3) := by decide +kernel
theorem dX1_begin_17 : decode cX1_begin 17 = .ok (.return_, 1) := by decide +kernel
theorem dX1_present_0 : decode cX1_present 0 = .ok (.aload_n 0, 1) := by decide +kernel
theorem dX1_present_1 : decode cX1_present 1 = .ok (.getfield 9, 3) := by decide +kernel
theorem dX1_present_4 : decode cX1_present 4 = .ok (.aload_n 0, 1) := by decide +kernel
theorem dX1_present_5 : decode cX1_present 5 = .ok (.getfield 22, 3) := by decide +kernel
theorem dX1_present_8 : decode cX1_present 8 = .ok (.laload, 1) := by decide +kernel
theorem dX1_present_9 : decode cX1_present 9 = .ok (.lreturn, 1) := by decide +kernel
theorem dX1_add_0 : decode cX1_add 0 = .ok (.aload_n 0, 1) := by decide +kernel
theorem dX1_add_1 : decode cX1_add 1 = .ok (.getfield 22, 3) := by decide +kernel
theorem dX1_add_4 : decode cX1_add 4 = .ok (.sipush 200, 3) := by decide +kernel
theorem dX1_add_7 : decode cX1_add 7 = .ok (.if_icmp .lt 4, 3) := by decide +kernel
theorem dX1_add_10 : decode cX1_add 10 = .ok (.return_, 1) := by decide +kernel
theorem dX1_add_11 : decode cX1_add 11 = .ok (.aload_n 0, 1) := by decide +kernel
theorem dX1_add_12 : decode cX1_add 12 = .ok (.getfield 15, 3) := by decide +kernel
theorem dX1_add_15 : decode cX1_add 15 = .ok (.aload_n 0, 1) := by decide +kernel
theorem dX1_add_16 : decode cX1_add 16 = .ok (.getfield 22, 3) := by decide +kernel
theorem dX1_add_19 : decode cX1_add 19 = .ok (.iload_n 1, 1) := by decide +kernel
theorem dX1_add_20 : decode cX1_add 20 = .ok (.iastore, 1) := by decide +kernel
theorem dX1_add_21 : decode cX1_add 21 = .ok (.aload_n 0, 1) := by decide +kernel
theorem dX1_add_22 : decode cX1_add 22 = .ok (.getfield 19, 3) := by decide +kernel
theorem dX1_add_25 : decode cX1_add 25 = .ok (.aload_n 0, 1) := by decide +kernel
theorem dX1_add_26 : decode cX1_add 26 = .ok (.getfield 22, 3) := by decide +kernel
theorem dX1_add_29 : decode cX1_add 29 = .ok (.iconst 1, 1) := by decide +kernel
theorem dX1_add_30 : decode cX1_add 30 = .ok (.iadd, 1) := by decide +kernel
theorem dX1_add_31 : decode cX1_add 31 = .ok (.aload_n 0, 1) := by decide +kernel
theorem dX1_add_32 : decode cX1_add 32 = .ok (.getfield 19, 3) := by decide +kernel
theorem dX1_add_35 : decode cX1_add 35 = .ok (.aload_n 0, 1) := by decide +kernel
theorem dX1_add_36 : decode cX1_add 36 = .ok (.getfield 22, 3) := by decide +kernel
theorem dX1_add_39 : decode cX1_add 39 = .ok (.iaload, 1) := by decide +kernel
theorem dX1_add_40 : decode cX1_add 40 = .ok (.iload_n 2, 1) := by decide +kernel
theorem dX1_add_41 : decode cX1_add 41 = .ok (.iadd, 1) := by decide +kernel
theorem dX1_add_42 : decode cX1_add 42 = .ok (.iastore, 1) := by decide +kernel
theorem dX1_add_43 : decode cX1_add 43 = .ok (.aload_n 0, 1) := by decide +kernel
theorem dX1_add_44 : decode cX1_add 44 = .ok (.getfield 9, 3) := by decide +kernel
theorem dX1_add_47 : decode cX1_add 47 = .ok (.aload_n 0, 1) := by decide +kernel
theorem dX1_add_48 : decode cX1_add 48 = .ok (.getfield 22, 3) := by decide +kernel
theorem dX1_add_51 : decode cX1_add 51 = .ok (.iconst 1, 1) := by decide +kernel
theorem dX1_add_52 : decode cX1_add 52 = .ok (.iadd, 1) := by decide +kernel
theorem dX1_add_53 : decode cX1_add 53 = .ok (.lload_n 3, 1) := by decide +kernel
theorem dX1_add_54 : decode cX1_add 54 = .ok (.lastore, 1) := by decide +kernel
theorem dX1_add_55 : decode cX1_add 55 = .ok (.aload_n 0, 1) := by decide +kernel
theorem dX1_add_56 : decode cX1_add 56 = .ok (.dup, 1) := by decide +kernel
theorem dX1_add_57 : decode cX1_add 57 = .ok (.getfield 22, 3) := by decide +kernel
theorem dX1_add_60 : decode cX1_add 60 = .ok (.iconst 1, 1) := by decide +kernel
theorem dX1_add_61 : decode cX1_add 61 = .ok (.iadd, 1) := by decide +kernel
theorem dX1_add_62 : decode cX1_add 62 = .ok (.putfield 22, 3) := by decide +kernel
theorem dX1_add_65 : decode cX1_add 65 = .ok (.aload_n 0, 1) := by decide +kernel
theorem dX1_add_66 : decode cX1_add 66 = .ok (.aload_n 0, 1) := by decide +kernel
theorem dX1_add_67 : decode cX1_add 67 = .ok (.getfield 22, 3) := by decide +kernel
theorem dX1_add_70 : decode cX1_add 70 = .ok (.putfield 26, 3) := by decide +kernel
theorem dX1_add_73 : decode cX1_add 73 = .ok (.return_, 1) := by decide +kernel
theorem dX2_init_0 : decode cX2_init 0 = .ok (.aload_n 0, 1) := by decide +kernel
theorem dX2_init_1 : decode cX2_init 1 = .ok (.invokespecial 3, 3) := by decide +kernel
theorem dX2_init_4 : decode cX2_init 4 = .ok (.aload_n 0, 1) := by decide +kernel
theorem dX2_init_5 : decode cX2_init 5 = .ok (.new 9, 3) := by decide +kernel
theorem dX2_init_8 : decode cX2_init 8 = .ok (.dup, 1) := by decide +kernel
theorem dX2_init_9 : decode cX2_init 9 = .ok (.invokespecial 11, 3) := by decide +kernel
theorem dX2_init_12 : decode cX2_init 12 = .ok (.putfield 12, 3) := by decide +kernel
theorem dX2_init_15 : decode cX2_init 15 = .ok (.aload_n 0, 1) := by decide +kernel
theorem dX2_init_16 : decode cX2_init 16 = .ok (.iconst 5, 1) := by decide +kernel
theorem dX2_init_17 : decode cX2_init 17 = .ok (.anewarray 18, 3) := by decide +kernel
theorem dX2_init_20 : decode cX2_init 20 = .ok (.putfield 20, 3) := by decide +kernel
theorem dX2_init_23 : decode cX2_init 23 = .ok (.aload_n 0, 1) := by decide +kernel
theorem dX2_init_24 : decode cX2_init 24 = .ok (.iconst 4, 1) := by decide +kernel
theorem dX2_init_25 : decode cX2_init 25 = .ok (.newarray .int, 2) := by decide +kernel
theorem dX2_init_27 : decode cX2_init 27 = .ok (.putfield 24, 3) := by decide +kernel
theorem dX2_init_30 : decode cX2_init 30 = .ok (.aload_n 0, 1) := by decide +kernel
theorem dX2_init_31 : decode cX2_init 31 = .ok (.bipush 45, 2) := by decide +kernel
theorem dX2_init_33 : decode cX2_init 33 = .ok (.putfield 28, 3) := by decide +kernel
theorem dX2_init_36 : decode cX2_init 36 = .ok (.aload_n 0, 1) := by decide +kernel
theorem dX2_init_37 : decode cX2_init 37 = .ok (.sipush 256, 3) := by decide +kernel
theorem dX2_init_40 : decode cX2_init 40 = .ok (.newarray .int, 2) := by decide +kernel
theorem dX2_init_42 : decode cX2_init 42 = .ok (.putfield 32, 3) := by decide +kernel
theorem dX2_init_45 : decode cX2_init 45 = .ok (.iconst 0, 1) := by decide +kernel
theorem dX2_init_46 : decode cX2_init 46 = .ok (.istore_n 1, 1) := by decide +kernel
theorem dX2_init_47 : decode cX2_init 47 = .ok (.iload_n 1, 1) := by decide +kernel
theorem dX2_init_48 : decode cX2_init 48 = .ok (.iconst 5, 1) := by decide +kernel
theorem dX2_init_49 : decode cX2_init 49 = .ok (.if_icmp .ge 22, 3) := by decide +kernel
theorem dX2_init_52 : decode cX2_init 52 = .ok (.aload_n 0, 1) := by decide +kernel
theorem dX2_init_53 : decode cX2_init 53 = .ok (.getfield 20, 3) := by decide +kernel
theorem dX2_init_56 : decode cX2_init 56 = .ok (.iload_n 1, 1) := by decide +kernel
theorem dX2_init_57 : decode cX2_init 57 = .ok (.new 18, 3) := by decide +kernel
