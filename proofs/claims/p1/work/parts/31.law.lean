theorem dL_law_0 : decode cL_law 0 = .ok (.new 8, 3) := by decide +kernel
theorem dL_law_3 : decode cL_law 3 = .ok (.dup, 1) := by decide +kernel
theorem dL_law_4 : decode cL_law 4 = .ok (.invokespecial 15, 3) := by decide +kernel
theorem dL_law_7 : decode cL_law 7 = .ok (.astore_n 1, 1) := by decide +kernel
theorem dL_law_8 : decode cL_law 8 = .ok (.new 16, 3) := by decide +kernel
theorem dL_law_11 : decode cL_law 11 = .ok (.dup, 1) := by decide +kernel
theorem dL_law_12 : decode cL_law 12 = .ok (.invokespecial 18, 3) := by decide +kernel
theorem dL_law_15 : decode cL_law 15 = .ok (.astore_n 2, 1) := by decide +kernel
theorem dL_law_16 : decode cL_law 16 = .ok (.iconst 1, 1) := by decide +kernel
theorem dL_law_17 : decode cL_law 17 = .ok (.newarray .long, 2) := by decide +kernel
theorem dL_law_19 : decode cL_law 19 = .ok (.astore_n 3, 1) := by decide +kernel
theorem dL_law_20 : decode cL_law 20 = .ok (.iconst 0, 1) := by decide +kernel
theorem dL_law_21 : decode cL_law 21 = .ok (.istore 4, 2) := by decide +kernel
theorem dL_law_23 : decode cL_law 23 = .ok (.iload 4, 2) := by decide +kernel
theorem dL_law_25 : decode cL_law 25 = .ok (.aload_n 0, 1) := by decide +kernel
theorem dL_law_26 : decode cL_law 26 = .ok (.arraylength, 1) := by decide +kernel
theorem dL_law_27 : decode cL_law 27 = .ok (.bipush 6, 2) := by decide +kernel
theorem dL_law_29 : decode cL_law 29 = .ok (.isub, 1) := by decide +kernel
theorem dL_law_30 : decode cL_law 30 = .ok (.if_icmp .gt 1384, 3) := by decide +kernel
theorem dL_law_33 : decode cL_law 33 = .ok (.aload_n 0, 1) := by decide +kernel
theorem dL_law_34 : decode cL_law 34 = .ok (.iload 4, 2) := by decide +kernel
theorem dL_law_36 : decode cL_law 36 = .ok (.iaload, 1) := by decide +kernel
theorem dL_law_37 : decode cL_law 37 = .ok (.bipush 63, 2) := by decide +kernel
theorem dL_law_39 : decode cL_law 39 = .ok (.iand, 1) := by decide +kernel
theorem dL_law_40 : decode cL_law 40 = .ok (.tableswitch 1368 0 32 #[148, 221, 246, 259, 272, 309, 358, 407, 456, 493, 542, 591, 652, 713, 750, 799, 824, 849, 898, 911, 936, 961, 998, 1023, 1048, 1085, 1110, 1147, 1172, 1197, 1262, 1342, 1355], 148) := by decide +kernel
theorem dL_law_188 : decode cL_law 188 = .ok (.aload_n 1, 1) := by decide +kernel
theorem dL_law_189 : decode cL_law 189 = .ok (.aload_n 0, 1) := by decide +kernel
theorem dL_law_190 : decode cL_law 190 = .ok (.iload 4, 2) := by decide +kernel
theorem dL_law_192 : decode cL_law 192 = .ok (.iconst 1, 1) := by decide +kernel
theorem dL_law_193 : decode cL_law 193 = .ok (.iadd, 1) := by decide +kernel
theorem dL_law_194 : decode cL_law 194 = .ok (.iaload, 1) := by decide +kernel
theorem dL_law_195 : decode cL_law 195 = .ok (.aload_n 0, 1) := by decide +kernel
theorem dL_law_196 : decode cL_law 196 = .ok (.iload 4, 2) := by decide +kernel
theorem dL_law_198 : decode cL_law 198 = .ok (.iconst 2, 1) := by decide +kernel
theorem dL_law_199 : decode cL_law 199 = .ok (.iadd, 1) := by decide +kernel
theorem dL_law_200 : decode cL_law 200 = .ok (.iaload, 1) := by decide +kernel
theorem dL_law_201 : decode cL_law 201 = .ok (.aload_n 0, 1) := by decide +kernel
theorem dL_law_202 : decode cL_law 202 = .ok (.iload 4, 2) := by decide +kernel
theorem dL_law_204 : decode cL_law 204 = .ok (.iconst 3, 1) := by decide +kernel
theorem dL_law_205 : decode cL_law 205 = .ok (.iadd, 1) := by decide +kernel
theorem dL_law_206 : decode cL_law 206 = .ok (.iaload, 1) := by decide +kernel
theorem dL_law_207 : decode cL_law 207 = .ok (.aload_n 0, 1) := by decide +kernel
theorem dL_law_208 : decode cL_law 208 = .ok (.iload 4, 2) := by decide +kernel
theorem dL_law_210 : decode cL_law 210 = .ok (.iconst 4, 1) := by decide +kernel
theorem dL_law_211 : decode cL_law 211 = .ok (.iadd, 1) := by decide +kernel
theorem dL_law_212 : decode cL_law 212 = .ok (.iaload, 1) := by decide +kernel
theorem dL_law_213 : decode cL_law 213 = .ok (.aload_n 0, 1) := by decide +kernel
theorem dL_law_214 : decode cL_law 214 = .ok (.iload 4, 2) := by decide +kernel
theorem dL_law_216 : decode cL_law 216 = .ok (.iconst 5, 1) := by decide +kernel
theorem dL_law_217 : decode cL_law 217 = .ok (.iadd, 1) := by decide +kernel
theorem dL_law_218 : decode cL_law 218 = .ok (.iaload, 1) := by decide +kernel
theorem dL_law_219 : decode cL_law 219 = .ok (.invokevirtual 19, 3) := by decide +kernel
theorem dL_law_222 : decode cL_law 222 = .ok (.aload_n 2, 1) := by decide +kernel
theorem dL_law_223 : decode cL_law 223 = .ok (.aload_n 0, 1) := by decide +kernel
theorem dL_law_224 : decode cL_law 224 = .ok (.iload 4, 2) := by decide +kernel
theorem dL_law_226 : decode cL_law 226 = .ok (.iconst 1, 1) := by decide +kernel
theorem dL_law_227 : decode cL_law 227 = .ok (.iadd, 1) := by decide +kernel
theorem dL_law_228 : decode cL_law 228 = .ok (.iaload, 1) := by decide +kernel
theorem dL_law_229 : decode cL_law 229 = .ok (.aload_n 0, 1) := by decide +kernel
theorem dL_law_230 : decode cL_law 230 = .ok (.iload 4, 2) := by decide +kernel
theorem dL_law_232 : decode cL_law 232 = .ok (.iconst 2, 1) := by decide +kernel
theorem dL_law_233 : decode cL_law 233 = .ok (.iadd, 1) := by decide +kernel
theorem dL_law_234 : decode cL_law 234 = .ok (.iaload, 1) := by decide +kernel
theorem dL_law_235 : decode cL_law 235 = .ok (.aload_n 0, 1) := by decide +kernel
theorem dL_law_236 : decode cL_law 236 = .ok (.iload 4, 2) := by decide +kernel
theorem dL_law_238 : decode cL_law 238 = .ok (.iconst 3, 1) := by decide +kernel
theorem dL_law_239 : decode cL_law 239 = .ok (.iadd, 1) := by decide +kernel
theorem dL_law_240 : decode cL_law 240 = .ok (.iaload, 1) := by decide +kernel
theorem dL_law_241 : decode cL_law 241 = .ok (.aload_n 0, 1) := by decide +kernel
theorem dL_law_242 : decode cL_law 242 = .ok (.iload 4, 2) := by decide +kernel
theorem dL_law_244 : decode cL_law 244 = .ok (.iconst 4, 1) := by decide +kernel
theorem dL_law_245 : decode cL_law 245 = .ok (.iadd, 1) := by decide +kernel
theorem dL_law_246 : decode cL_law 246 = .ok (.iaload, 1) := by decide +kernel
theorem dL_law_247 : decode cL_law 247 = .ok (.aload_n 0, 1) := by decide +kernel
theorem dL_law_248 : decode cL_law 248 = .ok (.iload 4, 2) := by decide +kernel
theorem dL_law_250 : decode cL_law 250 = .ok (.iconst 5, 1) := by decide +kernel
theorem dL_law_251 : decode cL_law 251 = .ok (.iadd, 1) := by decide +kernel
theorem dL_law_252 : decode cL_law 252 = .ok (.iaload, 1) := by decide +kernel
theorem dL_law_253 : decode cL_law 253 = .ok (.invokevirtual 23, 3) := by decide +kernel
theorem dL_law_256 : decode cL_law 256 = .ok (.if_icmp .eq 1152, 3) := by decide +kernel
theorem dL_law_259 : decode cL_law 259 = .ok (.iconst 0, 1) := by decide +kernel
theorem dL_law_260 : decode cL_law 260 = .ok (.ireturn, 1) := by decide +kernel
theorem dL_law_261 : decode cL_law 261 = .ok (.aload_n 1, 1) := by decide +kernel
theorem dL_law_262 : decode cL_law 262 = .ok (.aload_n 0, 1) := by decide +kernel
theorem dL_law_263 : decode cL_law 263 = .ok (.iload 4, 2) := by decide +kernel
theorem dL_law_265 : decode cL_law 265 = .ok (.iconst 1, 1) := by decide +kernel
theorem dL_law_266 : decode cL_law 266 = .ok (.iadd, 1) := by decide +kernel
theorem dL_law_267 : decode cL_law 267 = .ok (.iaload, 1) := by decide +kernel
theorem dL_law_268 : decode cL_law 268 = .ok (.invokevirtual 24, 3) := by decide +kernel
theorem dL_law_271 : decode cL_law 271 = .ok (.aload_n 2, 1) := by decide +kernel
theorem dL_law_272 : decode cL_law 272 = .ok (.aload_n 0, 1) := by decide +kernel
theorem dL_law_273 : decode cL_law 273 = .ok (.iload 4, 2) := by decide +kernel
theorem dL_law_275 : decode cL_law 275 = .ok (.iconst 1, 1) := by decide +kernel
theorem dL_law_276 : decode cL_law 276 = .ok (.iadd, 1) := by decide +kernel
theorem dL_law_277 : decode cL_law 277 = .ok (.iaload, 1) := by decide +kernel
theorem dL_law_278 : decode cL_law 278 = .ok (.invokevirtual 28, 3) := by decide +kernel
theorem dL_law_281 : decode cL_law 281 = .ok (.if_icmp .eq 1127, 3) := by decide +kernel
theorem dL_law_284 : decode cL_law 284 = .ok (.iconst 0, 1) := by decide +kernel
theorem dL_law_285 : decode cL_law 285 = .ok (.ireturn, 1) := by decide +kernel
theorem dL_law_286 : decode cL_law 286 = .ok (.aload_n 1, 1) := by decide +kernel
theorem dL_law_287 : decode cL_law 287 = .ok (.invokevirtual 29, 3) := by decide +kernel
theorem dL_law_290 : decode cL_law 290 = .ok (.aload_n 2, 1) := by decide +kernel
theorem dL_law_291 : decode cL_law 291 = .ok (.invokevirtual 33, 3) := by decide +kernel
theorem dL_law_294 : decode cL_law 294 = .ok (.if_icmp .eq 1114, 3) := by decide +kernel
theorem dL_law_297 : decode cL_law 297 = .ok (.iconst 0, 1) := by decide +kernel
theorem dL_law_298 : decode cL_law 298 = .ok (.ireturn, 1) := by decide +kernel
theorem dL_law_299 : decode cL_law 299 = .ok (.aload_n 1, 1) := by decide +kernel
theorem dL_law_300 : decode cL_law 300 = .ok (.invokevirtual 34, 3) := by decide +kernel
theorem dL_law_303 : decode cL_law 303 = .ok (.aload_n 2, 1) := by decide +kernel
theorem dL_law_304 : decode cL_law 304 = .ok (.invokevirtual 37, 3) := by decide +kernel
theorem dL_law_307 : decode cL_law 307 = .ok (.if_icmp .eq 1101, 3) := by decide +kernel
theorem dL_law_310 : decode cL_law 310 = .ok (.iconst 0, 1) := by decide +kernel
theorem dL_law_311 : decode cL_law 311 = .ok (.ireturn, 1) := by decide +kernel
theorem dL_law_312 : decode cL_law 312 = .ok (.aload_n 1, 1) := by decide +kernel
theorem dL_law_313 : decode cL_law 313 = .ok (.aload_n 0, 1) := by decide +kernel
theorem dL_law_314 : decode cL_law 314 = .ok (.iload 4, 2) := by decide +kernel
theorem dL_law_316 : decode cL_law 316 = .ok (.iconst 1, 1) := by decide +kernel
theorem dL_law_317 : decode cL_law 317 = .ok (.iadd, 1) := by decide +kernel
theorem dL_law_318 : decode cL_law 318 = .ok (.iaload, 1) := by decide +kernel
theorem dL_law_319 : decode cL_law 319 = .ok (.aload_n 0, 1) := by decide +kernel
theorem dL_law_320 : decode cL_law 320 = .ok (.iload 4, 2) := by decide +kernel
theorem dL_law_322 : decode cL_law 322 = .ok (.iconst 2, 1) := by decide +kernel
theorem dL_law_323 : decode cL_law 323 = .ok (.iadd, 1) := by decide +kernel
theorem dL_law_324 : decode cL_law 324 = .ok (.iaload, 1) := by decide +kernel
theorem dL_law_325 : decode cL_law 325 = .ok (.invokevirtual 38, 3) := by decide +kernel
theorem dL_law_328 : decode cL_law 328 = .ok (.aload_n 2, 1) := by decide +kernel
theorem dL_law_329 : decode cL_law 329 = .ok (.aload_n 0, 1) := by decide +kernel
theorem dL_law_330 : decode cL_law 330 = .ok (.iload 4, 2) := by decide +kernel
theorem dL_law_332 : decode cL_law 332 = .ok (.iconst 1, 1) := by decide +kernel
theorem dL_law_333 : decode cL_law 333 = .ok (.iadd, 1) := by decide +kernel
theorem dL_law_334 : decode cL_law 334 = .ok (.iaload, 1) := by decide +kernel
theorem dL_law_335 : decode cL_law 335 = .ok (.aload_n 0, 1) := by decide +kernel
theorem dL_law_336 : decode cL_law 336 = .ok (.iload 4, 2) := by decide +kernel
theorem dL_law_338 : decode cL_law 338 = .ok (.iconst 2, 1) := by decide +kernel
theorem dL_law_339 : decode cL_law 339 = .ok (.iadd, 1) := by decide +kernel
theorem dL_law_340 : decode cL_law 340 = .ok (.iaload, 1) := by decide +kernel
theorem dL_law_341 : decode cL_law 341 = .ok (.invokevirtual 42, 3) := by decide +kernel
theorem dL_law_344 : decode cL_law 344 = .ok (.if_icmp .eq 1064, 3) := by decide +kernel
theorem dL_law_347 : decode cL_law 347 = .ok (.iconst 0, 1) := by decide +kernel
theorem dL_law_348 : decode cL_law 348 = .ok (.ireturn, 1) := by decide +kernel
theorem dL_law_349 : decode cL_law 349 = .ok (.aload_n 1, 1) := by decide +kernel
theorem dL_law_350 : decode cL_law 350 = .ok (.aload_n 0, 1) := by decide +kernel
theorem dL_law_351 : decode cL_law 351 = .ok (.iload 4, 2) := by decide +kernel
theorem dL_law_353 : decode cL_law 353 = .ok (.iconst 1, 1) := by decide +kernel
theorem dL_law_354 : decode cL_law 354 = .ok (.iadd, 1) := by decide +kernel
theorem dL_law_355 : decode cL_law 355 = .ok (.iaload, 1) := by decide +kernel
theorem dL_law_356 : decode cL_law 356 = .ok (.aload_n 0, 1) := by decide +kernel
theorem dL_law_357 : decode cL_law 357 = .ok (.iload 4, 2) := by decide +kernel
theorem dL_law_359 : decode cL_law 359 = .ok (.iconst 2, 1) := by decide +kernel
theorem dL_law_360 : decode cL_law 360 = .ok (.iadd, 1) := by decide +kernel
theorem dL_law_361 : decode cL_law 361 = .ok (.iaload, 1) := by decide +kernel
theorem dL_law_362 : decode cL_law 362 = .ok (.aload_n 0, 1) := by decide +kernel
theorem dL_law_363 : decode cL_law 363 = .ok (.iload 4, 2) := by decide +kernel
theorem dL_law_365 : decode cL_law 365 = .ok (.iconst 3, 1) := by decide +kernel
theorem dL_law_366 : decode cL_law 366 = .ok (.iadd, 1) := by decide +kernel
theorem dL_law_367 : decode cL_law 367 = .ok (.iaload, 1) := by decide +kernel
theorem dL_law_368 : decode cL_law 368 = .ok (.invokevirtual 43, 3) := by decide +kernel
theorem dL_law_371 : decode cL_law 371 = .ok (.aload_n 2, 1) := by decide +kernel
theorem dL_law_372 : decode cL_law 372 = .ok (.aload_n 0, 1) := by decide +kernel
theorem dL_law_373 : decode cL_law 373 = .ok (.iload 4, 2) := by decide +kernel
theorem dL_law_375 : decode cL_law 375 = .ok (.iconst 1, 1) := by decide +kernel
theorem dL_law_376 : decode cL_law 376 = .ok (.iadd, 1) := by decide +kernel
theorem dL_law_377 : decode cL_law 377 = .ok (.iaload, 1) := by decide +kernel
theorem dL_law_378 : decode cL_law 378 = .ok (.aload_n 0, 1) := by decide +kernel
theorem dL_law_379 : decode cL_law 379 = .ok (.iload 4, 2) := by decide +kernel
theorem dL_law_381 : decode cL_law 381 = .ok (.iconst 2, 1) := by decide +kernel
theorem dL_law_382 : decode cL_law 382 = .ok (.iadd, 1) := by decide +kernel
theorem dL_law_383 : decode cL_law 383 = .ok (.iaload, 1) := by decide +kernel
theorem dL_law_384 : decode cL_law 384 = .ok (.aload_n 0, 1) := by decide +kernel
theorem dL_law_385 : decode cL_law 385 = .ok (.iload 4, 2) := by decide +kernel
theorem dL_law_387 : decode cL_law 387 = .ok (.iconst 3, 1) := by decide +kernel
theorem dL_law_388 : decode cL_law 388 = .ok (.iadd, 1) := by decide +kernel
theorem dL_law_389 : decode cL_law 389 = .ok (.iaload, 1) := by decide +kernel
theorem dL_law_390 : decode cL_law 390 = .ok (.invokevirtual 46, 3) := by decide +kernel
theorem dL_law_393 : decode cL_law 393 = .ok (.if_icmp .eq 1015, 3) := by decide +kernel
theorem dL_law_396 : decode cL_law 396 = .ok (.iconst 0, 1) := by decide +kernel
theorem dL_law_397 : decode cL_law 397 = .ok (.ireturn, 1) := by decide +kernel
theorem dL_law_398 : decode cL_law 398 = .ok (.aload_n 1, 1) := by decide +kernel
theorem dL_law_399 : decode cL_law 399 = .ok (.aload_n 0, 1) := by decide +kernel
theorem dL_law_400 : decode cL_law 400 = .ok (.iload 4, 2) := by decide +kernel
theorem dL_law_402 : decode cL_law 402 = .ok (.iconst 1, 1) := by decide +kernel
theorem dL_law_403 : decode cL_law 403 = .ok (.iadd, 1) := by decide +kernel
theorem dL_law_404 : decode cL_law 404 = .ok (.iaload, 1) := by decide +kernel
theorem dL_law_405 : decode cL_law 405 = .ok (.aload_n 0, 1) := by decide +kernel
theorem dL_law_406 : decode cL_law 406 = .ok (.iload 4, 2) := by decide +kernel
theorem dL_law_408 : decode cL_law 408 = .ok (.iconst 2, 1) := by decide +kernel
theorem dL_law_409 : decode cL_law 409 = .ok (.iadd, 1) := by decide +kernel
theorem dL_law_410 : decode cL_law 410 = .ok (.iaload, 1) := by decide +kernel
theorem dL_law_411 : decode cL_law 411 = .ok (.aload_n 0, 1) := by decide +kernel
theorem dL_law_412 : decode cL_law 412 = .ok (.iload 4, 2) := by decide +kernel
theorem dL_law_414 : decode cL_law 414 = .ok (.iconst 3, 1) := by decide +kernel
theorem dL_law_415 : decode cL_law 415 = .ok (.iadd, 1) := by decide +kernel
theorem dL_law_416 : decode cL_law 416 = .ok (.iaload, 1) := by decide +kernel
theorem dL_law_417 : decode cL_law 417 = .ok (.invokevirtual 47, 3) := by decide +kernel
theorem dL_law_420 : decode cL_law 420 = .ok (.aload_n 2, 1) := by decide +kernel
theorem dL_law_421 : decode cL_law 421 = .ok (.aload_n 0, 1) := by decide +kernel
theorem dL_law_422 : decode cL_law 422 = .ok (.iload 4, 2) := by decide +kernel
theorem dL_law_424 : decode cL_law 424 = .ok (.iconst 1, 1) := by decide +kernel
theorem dL_law_425 : decode cL_law 425 = .ok (.iadd, 1) := by decide +kernel
theorem dL_law_426 : decode cL_law 426 = .ok (.iaload, 1) := by decide +kernel
theorem dL_law_427 : decode cL_law 427 = .ok (.aload_n 0, 1) := by decide +kernel
theorem dL_law_428 : decode cL_law 428 = .ok (.iload 4, 2) := by decide +kernel
theorem dL_law_430 : decode cL_law 430 = .ok (.iconst 2, 1) := by decide +kernel
theorem dL_law_431 : decode cL_law 431 = .ok (.iadd, 1) := by decide +kernel
theorem dL_law_432 : decode cL_law 432 = .ok (.iaload, 1) := by decide +kernel
theorem dL_law_433 : decode cL_law 433 = .ok (.aload_n 0, 1) := by decide +kernel
theorem dL_law_434 : decode cL_law 434 = .ok (.iload 4, 2) := by decide +kernel
theorem dL_law_436 : decode cL_law 436 = .ok (.iconst 3, 1) := by decide +kernel
theorem dL_law_437 : decode cL_law 437 = .ok (.iadd, 1) := by decide +kernel
theorem dL_law_438 : decode cL_law 438 = .ok (.iaload, 1) := by decide +kernel
theorem dL_law_439 : decode cL_law 439 = .ok (.invokevirtual 50, 3) := by decide +kernel
theorem dL_law_442 : decode cL_law 442 = .ok (.if_icmp .eq 966, 3) := by decide +kernel
theorem dL_law_445 : decode cL_law 445 = .ok (.iconst 0, 1) := by decide +kernel
theorem dL_law_446 : decode cL_law 446 = .ok (.ireturn, 1) := by decide +kernel
theorem dL_law_447 : decode cL_law 447 = .ok (.aload_n 1, 1) := by decide +kernel
theorem dL_law_448 : decode cL_law 448 = .ok (.aload_n 0, 1) := by decide +kernel
theorem dL_law_449 : decode cL_law 449 = .ok (.iload 4, 2) := by decide +kernel
theorem dL_law_451 : decode cL_law 451 = .ok (.iconst 1, 1) := by decide +kernel
theorem dL_law_452 : decode cL_law 452 = .ok (.iadd, 1) := by decide +kernel
theorem dL_law_453 : decode cL_law 453 = .ok (.iaload, 1) := by decide +kernel
theorem dL_law_454 : decode cL_law 454 = .ok (.aload_n 0, 1) := by decide +kernel
theorem dL_law_455 : decode cL_law 455 = .ok (.iload 4, 2) := by decide +kernel
theorem dL_law_457 : decode cL_law 457 = .ok (.iconst 2, 1) := by decide +kernel
theorem dL_law_458 : decode cL_law 458 = .ok (.iadd, 1) := by decide +kernel
theorem dL_law_459 : decode cL_law 459 = .ok (.iaload, 1) := by decide +kernel
theorem dL_law_460 : decode cL_law 460 = .ok (.aload_n 0, 1) := by decide +kernel
theorem dL_law_461 : decode cL_law 461 = .ok (.iload 4, 2) := by decide +kernel
theorem dL_law_463 : decode cL_law 463 = .ok (.iconst 3, 1) := by decide +kernel
theorem dL_law_464 : decode cL_law 464 = .ok (.iadd, 1) := by decide +kernel
theorem dL_law_465 : decode cL_law 465 = .ok (.iaload, 1) := by decide +kernel
theorem dL_law_466 : decode cL_law 466 = .ok (.invokevirtual 51, 3) := by decide +kernel
theorem dL_law_469 : decode cL_law 469 = .ok (.aload_n 2, 1) := by decide +kernel
theorem dL_law_470 : decode cL_law 470 = .ok (.aload_n 0, 1) := by decide +kernel
theorem dL_law_471 : decode cL_law 471 = .ok (.iload 4, 2) := by decide +kernel
theorem dL_law_473 : decode cL_law 473 = .ok (.iconst 1, 1) := by decide +kernel
theorem dL_law_474 : decode cL_law 474 = .ok (.iadd, 1) := by decide +kernel
theorem dL_law_475 : decode cL_law 475 = .ok (.iaload, 1) := by decide +kernel
theorem dL_law_476 : decode cL_law 476 = .ok (.aload_n 0, 1) := by decide +kernel
theorem dL_law_477 : decode cL_law 477 = .ok (.iload 4, 2) := by decide +kernel
theorem dL_law_479 : decode cL_law 479 = .ok (.iconst 2, 1) := by decide +kernel
theorem dL_law_480 : decode cL_law 480 = .ok (.iadd, 1) := by decide +kernel
theorem dL_law_481 : decode cL_law 481 = .ok (.iaload, 1) := by decide +kernel
theorem dL_law_482 : decode cL_law 482 = .ok (.aload_n 0, 1) := by decide +kernel
theorem dL_law_483 : decode cL_law 483 = .ok (.iload 4, 2) := by decide +kernel
theorem dL_law_485 : decode cL_law 485 = .ok (.iconst 3, 1) := by decide +kernel
theorem dL_law_486 : decode cL_law 486 = .ok (.iadd, 1) := by decide +kernel
theorem dL_law_487 : decode cL_law 487 = .ok (.iaload, 1) := by decide +kernel
theorem dL_law_488 : decode cL_law 488 = .ok (.invokevirtual 54, 3) := by decide +kernel
theorem dL_law_491 : decode cL_law 491 = .ok (.if_icmp .eq 917, 3) := by decide +kernel
theorem dL_law_494 : decode cL_law 494 = .ok (.iconst 0, 1) := by decide +kernel
theorem dL_law_495 : decode cL_law 495 = .ok (.ireturn, 1) := by decide +kernel
theorem dL_law_496 : decode cL_law 496 = .ok (.aload_n 1, 1) := by decide +kernel
theorem dL_law_497 : decode cL_law 497 = .ok (.aload_n 0, 1) := by decide +kernel
theorem dL_law_498 : decode cL_law 498 = .ok (.iload 4, 2) := by decide +kernel
theorem dL_law_500 : decode cL_law 500 = .ok (.iconst 1, 1) := by decide +kernel
theorem dL_law_501 : decode cL_law 501 = .ok (.iadd, 1) := by decide +kernel
theorem dL_law_502 : decode cL_law 502 = .ok (.iaload, 1) := by decide +kernel
theorem dL_law_503 : decode cL_law 503 = .ok (.aload_n 0, 1) := by decide +kernel
theorem dL_law_504 : decode cL_law 504 = .ok (.iload 4, 2) := by decide +kernel
theorem dL_law_506 : decode cL_law 506 = .ok (.iconst 2, 1) := by decide +kernel
theorem dL_law_507 : decode cL_law 507 = .ok (.iadd, 1) := by decide +kernel
theorem dL_law_508 : decode cL_law 508 = .ok (.iaload, 1) := by decide +kernel
theorem dL_law_509 : decode cL_law 509 = .ok (.invokevirtual 55, 3) := by decide +kernel
theorem dL_law_512 : decode cL_law 512 = .ok (.aload_n 2, 1) := by decide +kernel
theorem dL_law_513 : decode cL_law 513 = .ok (.aload_n 0, 1) := by decide +kernel
theorem dL_law_514 : decode cL_law 514 = .ok (.iload 4, 2) := by decide +kernel
theorem dL_law_516 : decode cL_law 516 = .ok (.iconst 1, 1) := by decide +kernel
theorem dL_law_517 : decode cL_law 517 = .ok (.iadd, 1) := by decide +kernel
theorem dL_law_518 : decode cL_law 518 = .ok (.iaload, 1) := by decide +kernel
theorem dL_law_519 : decode cL_law 519 = .ok (.aload_n 0, 1) := by decide +kernel
theorem dL_law_520 : decode cL_law 520 = .ok (.iload 4, 2) := by decide +kernel
theorem dL_law_522 : decode cL_law 522 = .ok (.iconst 2, 1) := by decide +kernel
theorem dL_law_523 : decode cL_law 523 = .ok (.iadd, 1) := by decide +kernel
theorem dL_law_524 : decode cL_law 524 = .ok (.iaload, 1) := by decide +kernel
theorem dL_law_525 : decode cL_law 525 = .ok (.invokevirtual 58, 3) := by decide +kernel
theorem dL_law_528 : decode cL_law 528 = .ok (.if_icmp .eq 880, 3) := by decide +kernel
theorem dL_law_531 : decode cL_law 531 = .ok (.iconst 0, 1) := by decide +kernel
theorem dL_law_532 : decode cL_law 532 = .ok (.ireturn, 1) := by decide +kernel
theorem dL_law_533 : decode cL_law 533 = .ok (.aload_n 1, 1) := by decide +kernel
theorem dL_law_534 : decode cL_law 534 = .ok (.aload_n 0, 1) := by decide +kernel
theorem dL_law_535 : decode cL_law 535 = .ok (.iload 4, 2) := by decide +kernel
theorem dL_law_537 : decode cL_law 537 = .ok (.iconst 1, 1) := by decide +kernel
theorem dL_law_538 : decode cL_law 538 = .ok (.iadd, 1) := by decide +kernel
theorem dL_law_539 : decode cL_law 539 = .ok (.iaload, 1) := by decide +kernel
theorem dL_law_540 : decode cL_law 540 = .ok (.aload_n 0, 1) := by decide +kernel
theorem dL_law_541 : decode cL_law 541 = .ok (.iload 4, 2) := by decide +kernel
theorem dL_law_543 : decode cL_law 543 = .ok (.iconst 2, 1) := by decide +kernel
theorem dL_law_544 : decode cL_law 544 = .ok (.iadd, 1) := by decide +kernel
theorem dL_law_545 : decode cL_law 545 = .ok (.iaload, 1) := by decide +kernel
theorem dL_law_546 : decode cL_law 546 = .ok (.aload_n 0, 1) := by decide +kernel
theorem dL_law_547 : decode cL_law 547 = .ok (.iload 4, 2) := by decide +kernel
theorem dL_law_549 : decode cL_law 549 = .ok (.iconst 3, 1) := by decide +kernel
theorem dL_law_550 : decode cL_law 550 = .ok (.iadd, 1) := by decide +kernel
theorem dL_law_551 : decode cL_law 551 = .ok (.iaload, 1) := by decide +kernel
theorem dL_law_552 : decode cL_law 552 = .ok (.invokevirtual 59, 3) := by decide +kernel
theorem dL_law_555 : decode cL_law 555 = .ok (.aload_n 2, 1) := by decide +kernel
theorem dL_law_556 : decode cL_law 556 = .ok (.aload_n 0, 1) := by decide +kernel
theorem dL_law_557 : decode cL_law 557 = .ok (.iload 4, 2) := by decide +kernel
theorem dL_law_559 : decode cL_law 559 = .ok (.iconst 1, 1) := by decide +kernel
theorem dL_law_560 : decode cL_law 560 = .ok (.iadd, 1) := by decide +kernel
theorem dL_law_561 : decode cL_law 561 = .ok (.iaload, 1) := by decide +kernel
theorem dL_law_562 : decode cL_law 562 = .ok (.aload_n 0, 1) := by decide +kernel
theorem dL_law_563 : decode cL_law 563 = .ok (.iload 4, 2) := by decide +kernel
theorem dL_law_565 : decode cL_law 565 = .ok (.iconst 2, 1) := by decide +kernel
theorem dL_law_566 : decode cL_law 566 = .ok (.iadd, 1) := by decide +kernel
theorem dL_law_567 : decode cL_law 567 = .ok (.iaload, 1) := by decide +kernel
theorem dL_law_568 : decode cL_law 568 = .ok (.aload_n 0, 1) := by decide +kernel
theorem dL_law_569 : decode cL_law 569 = .ok (.iload 4, 2) := by decide +kernel
theorem dL_law_571 : decode cL_law 571 = .ok (.iconst 3, 1) := by decide +kernel
theorem dL_law_572 : decode cL_law 572 = .ok (.iadd, 1) := by decide +kernel
theorem dL_law_573 : decode cL_law 573 = .ok (.iaload, 1) := by decide +kernel
theorem dL_law_574 : decode cL_law 574 = .ok (.invokevirtual 62, 3) := by decide +kernel
theorem dL_law_577 : decode cL_law 577 = .ok (.if_icmp .eq 831, 3) := by decide +kernel
theorem dL_law_580 : decode cL_law 580 = .ok (.iconst 0, 1) := by decide +kernel
theorem dL_law_581 : decode cL_law 581 = .ok (.ireturn, 1) := by decide +kernel
theorem dL_law_582 : decode cL_law 582 = .ok (.aload_n 1, 1) := by decide +kernel
theorem dL_law_583 : decode cL_law 583 = .ok (.aload_n 0, 1) := by decide +kernel
theorem dL_law_584 : decode cL_law 584 = .ok (.iload 4, 2) := by decide +kernel
theorem dL_law_586 : decode cL_law 586 = .ok (.iconst 1, 1) := by decide +kernel
theorem dL_law_587 : decode cL_law 587 = .ok (.iadd, 1) := by decide +kernel
theorem dL_law_588 : decode cL_law 588 = .ok (.iaload, 1) := by decide +kernel
theorem dL_law_589 : decode cL_law 589 = .ok (.aload_n 0, 1) := by decide +kernel
theorem dL_law_590 : decode cL_law 590 = .ok (.iload 4, 2) := by decide +kernel
theorem dL_law_592 : decode cL_law 592 = .ok (.iconst 2, 1) := by decide +kernel
theorem dL_law_593 : decode cL_law 593 = .ok (.iadd, 1) := by decide +kernel
theorem dL_law_594 : decode cL_law 594 = .ok (.iaload, 1) := by decide +kernel
theorem dL_law_595 : decode cL_law 595 = .ok (.aload_n 0, 1) := by decide +kernel
theorem dL_law_596 : decode cL_law 596 = .ok (.iload 4, 2) := by decide +kernel
theorem dL_law_598 : decode cL_law 598 = .ok (.iconst 3, 1) := by decide +kernel
theorem dL_law_599 : decode cL_law 599 = .ok (.iadd, 1) := by decide +kernel
theorem dL_law_600 : decode cL_law 600 = .ok (.iaload, 1) := by decide +kernel
theorem dL_law_601 : decode cL_law 601 = .ok (.invokevirtual 63, 3) := by decide +kernel
theorem dL_law_604 : decode cL_law 604 = .ok (.aload_n 2, 1) := by decide +kernel
theorem dL_law_605 : decode cL_law 605 = .ok (.aload_n 0, 1) := by decide +kernel
theorem dL_law_606 : decode cL_law 606 = .ok (.iload 4, 2) := by decide +kernel
theorem dL_law_608 : decode cL_law 608 = .ok (.iconst 1, 1) := by decide +kernel
theorem dL_law_609 : decode cL_law 609 = .ok (.iadd, 1) := by decide +kernel
theorem dL_law_610 : decode cL_law 610 = .ok (.iaload, 1) := by decide +kernel
theorem dL_law_611 : decode cL_law 611 = .ok (.aload_n 0, 1) := by decide +kernel
theorem dL_law_612 : decode cL_law 612 = .ok (.iload 4, 2) := by decide +kernel
theorem dL_law_614 : decode cL_law 614 = .ok (.iconst 2, 1) := by decide +kernel
theorem dL_law_615 : decode cL_law 615 = .ok (.iadd, 1) := by decide +kernel
theorem dL_law_616 : decode cL_law 616 = .ok (.iaload, 1) := by decide +kernel
theorem dL_law_617 : decode cL_law 617 = .ok (.aload_n 0, 1) := by decide +kernel
theorem dL_law_618 : decode cL_law 618 = .ok (.iload 4, 2) := by decide +kernel
theorem dL_law_620 : decode cL_law 620 = .ok (.iconst 3, 1) := by decide +kernel
theorem dL_law_621 : decode cL_law 621 = .ok (.iadd, 1) := by decide +kernel
theorem dL_law_622 : decode cL_law 622 = .ok (.iaload, 1) := by decide +kernel
theorem dL_law_623 : decode cL_law 623 = .ok (.invokevirtual 66, 3) := by decide +kernel
theorem dL_law_626 : decode cL_law 626 = .ok (.if_icmp .eq 782, 3) := by decide +kernel
theorem dL_law_629 : decode cL_law 629 = .ok (.iconst 0, 1) := by decide +kernel
theorem dL_law_630 : decode cL_law 630 = .ok (.ireturn, 1) := by decide +kernel
theorem dL_law_631 : decode cL_law 631 = .ok (.aload_n 1, 1) := by decide +kernel
theorem dL_law_632 : decode cL_law 632 = .ok (.aload_n 0, 1) := by decide +kernel
theorem dL_law_633 : decode cL_law 633 = .ok (.iload 4, 2) := by decide +kernel
theorem dL_law_635 : decode cL_law 635 = .ok (.iconst 1, 1) := by decide +kernel
theorem dL_law_636 : decode cL_law 636 = .ok (.iadd, 1) := by decide +kernel
theorem dL_law_637 : decode cL_law 637 = .ok (.iaload, 1) := by decide +kernel
theorem dL_law_638 : decode cL_law 638 = .ok (.aload_n 0, 1) := by decide +kernel
theorem dL_law_639 : decode cL_law 639 = .ok (.iload 4, 2) := by decide +kernel
theorem dL_law_641 : decode cL_law 641 = .ok (.iconst 2, 1) := by decide +kernel
theorem dL_law_642 : decode cL_law 642 = .ok (.iadd, 1) := by decide +kernel
theorem dL_law_643 : decode cL_law 643 = .ok (.iaload, 1) := by decide +kernel
theorem dL_law_644 : decode cL_law 644 = .ok (.aload_n 0, 1) := by decide +kernel
theorem dL_law_645 : decode cL_law 645 = .ok (.iload 4, 2) := by decide +kernel
theorem dL_law_647 : decode cL_law 647 = .ok (.iconst 3, 1) := by decide +kernel
theorem dL_law_648 : decode cL_law 648 = .ok (.iadd, 1) := by decide +kernel
theorem dL_law_649 : decode cL_law 649 = .ok (.iaload, 1) := by decide +kernel
theorem dL_law_650 : decode cL_law 650 = .ok (.aload_n 0, 1) := by decide +kernel
theorem dL_law_651 : decode cL_law 651 = .ok (.iload 4, 2) := by decide +kernel
theorem dL_law_653 : decode cL_law 653 = .ok (.iconst 4, 1) := by decide +kernel
theorem dL_law_654 : decode cL_law 654 = .ok (.iadd, 1) := by decide +kernel
theorem dL_law_655 : decode cL_law 655 = .ok (.iaload, 1) := by decide +kernel
theorem dL_law_656 : decode cL_law 656 = .ok (.invokevirtual 67, 3) := by decide +kernel
theorem dL_law_659 : decode cL_law 659 = .ok (.aload_n 2, 1) := by decide +kernel
theorem dL_law_660 : decode cL_law 660 = .ok (.aload_n 0, 1) := by decide +kernel
theorem dL_law_661 : decode cL_law 661 = .ok (.iload 4, 2) := by decide +kernel
theorem dL_law_663 : decode cL_law 663 = .ok (.iconst 1, 1) := by decide +kernel
theorem dL_law_664 : decode cL_law 664 = .ok (.iadd, 1) := by decide +kernel
theorem dL_law_665 : decode cL_law 665 = .ok (.iaload, 1) := by decide +kernel
theorem dL_law_666 : decode cL_law 666 = .ok (.aload_n 0, 1) := by decide +kernel
theorem dL_law_667 : decode cL_law 667 = .ok (.iload 4, 2) := by decide +kernel
theorem dL_law_669 : decode cL_law 669 = .ok (.iconst 2, 1) := by decide +kernel
theorem dL_law_670 : decode cL_law 670 = .ok (.iadd, 1) := by decide +kernel
theorem dL_law_671 : decode cL_law 671 = .ok (.iaload, 1) := by decide +kernel
theorem dL_law_672 : decode cL_law 672 = .ok (.aload_n 0, 1) := by decide +kernel
theorem dL_law_673 : decode cL_law 673 = .ok (.iload 4, 2) := by decide +kernel
theorem dL_law_675 : decode cL_law 675 = .ok (.iconst 3, 1) := by decide +kernel
theorem dL_law_676 : decode cL_law 676 = .ok (.iadd, 1) := by decide +kernel
theorem dL_law_677 : decode cL_law 677 = .ok (.iaload, 1) := by decide +kernel
theorem dL_law_678 : decode cL_law 678 = .ok (.aload_n 0, 1) := by decide +kernel
theorem dL_law_679 : decode cL_law 679 = .ok (.iload 4, 2) := by decide +kernel
theorem dL_law_681 : decode cL_law 681 = .ok (.iconst 4, 1) := by decide +kernel
theorem dL_law_682 : decode cL_law 682 = .ok (.iadd, 1) := by decide +kernel
theorem dL_law_683 : decode cL_law 683 = .ok (.iaload, 1) := by decide +kernel
theorem dL_law_684 : decode cL_law 684 = .ok (.invokevirtual 71, 3) := by decide +kernel
theorem dL_law_687 : decode cL_law 687 = .ok (.if_icmp .eq 721, 3) := by decide +kernel
theorem dL_law_690 : decode cL_law 690 = .ok (.iconst 0, 1) := by decide +kernel
theorem dL_law_691 : decode cL_law 691 = .ok (.ireturn, 1) := by decide +kernel
theorem dL_law_692 : decode cL_law 692 = .ok (.aload_n 1, 1) := by decide +kernel
theorem dL_law_693 : decode cL_law 693 = .ok (.aload_n 0, 1) := by decide +kernel
theorem dL_law_694 : decode cL_law 694 = .ok (.iload 4, 2) := by decide +kernel
theorem dL_law_696 : decode cL_law 696 = .ok (.iconst 1, 1) := by decide +kernel
theorem dL_law_697 : decode cL_law 697 = .ok (.iadd, 1) := by decide +kernel
theorem dL_law_698 : decode cL_law 698 = .ok (.iaload, 1) := by decide +kernel
theorem dL_law_699 : decode cL_law 699 = .ok (.aload_n 0, 1) := by decide +kernel
theorem dL_law_700 : decode cL_law 700 = .ok (.iload 4, 2) := by decide +kernel
theorem dL_law_702 : decode cL_law 702 = .ok (.iconst 2, 1) := by decide +kernel
theorem dL_law_703 : decode cL_law 703 = .ok (.iadd, 1) := by decide +kernel
theorem dL_law_704 : decode cL_law 704 = .ok (.iaload, 1) := by decide +kernel
theorem dL_law_705 : decode cL_law 705 = .ok (.aload_n 0, 1) := by decide +kernel
theorem dL_law_706 : decode cL_law 706 = .ok (.iload 4, 2) := by decide +kernel
theorem dL_law_708 : decode cL_law 708 = .ok (.iconst 3, 1) := by decide +kernel
theorem dL_law_709 : decode cL_law 709 = .ok (.iadd, 1) := by decide +kernel
theorem dL_law_710 : decode cL_law 710 = .ok (.iaload, 1) := by decide +kernel
theorem dL_law_711 : decode cL_law 711 = .ok (.aload_n 0, 1) := by decide +kernel
theorem dL_law_712 : decode cL_law 712 = .ok (.iload 4, 2) := by decide +kernel
theorem dL_law_714 : decode cL_law 714 = .ok (.iconst 4, 1) := by decide +kernel
theorem dL_law_715 : decode cL_law 715 = .ok (.iadd, 1) := by decide +kernel
theorem dL_law_716 : decode cL_law 716 = .ok (.iaload, 1) := by decide +kernel
theorem dL_law_717 : decode cL_law 717 = .ok (.invokevirtual 72, 3) := by decide +kernel
theorem dL_law_720 : decode cL_law 720 = .ok (.aload_n 2, 1) := by decide +kernel
theorem dL_law_721 : decode cL_law 721 = .ok (.aload_n 0, 1) := by decide +kernel
theorem dL_law_722 : decode cL_law 722 = .ok (.iload 4, 2) := by decide +kernel
theorem dL_law_724 : decode cL_law 724 = .ok (.iconst 1, 1) := by decide +kernel
theorem dL_law_725 : decode cL_law 725 = .ok (.iadd, 1) := by decide +kernel
theorem dL_law_726 : decode cL_law 726 = .ok (.iaload, 1) := by decide +kernel
theorem dL_law_727 : decode cL_law 727 = .ok (.aload_n 0, 1) := by decide +kernel
theorem dL_law_728 : decode cL_law 728 = .ok (.iload 4, 2) := by decide +kernel
theorem dL_law_730 : decode cL_law 730 = .ok (.iconst 2, 1) := by decide +kernel
theorem dL_law_731 : decode cL_law 731 = .ok (.iadd, 1) := by decide +kernel
theorem dL_law_732 : decode cL_law 732 = .ok (.iaload, 1) := by decide +kernel
theorem dL_law_733 : decode cL_law 733 = .ok (.aload_n 0, 1) := by decide +kernel
theorem dL_law_734 : decode cL_law 734 = .ok (.iload 4, 2) := by decide +kernel
theorem dL_law_736 : decode cL_law 736 = .ok (.iconst 3, 1) := by decide +kernel
theorem dL_law_737 : decode cL_law 737 = .ok (.iadd, 1) := by decide +kernel
theorem dL_law_738 : decode cL_law 738 = .ok (.iaload, 1) := by decide +kernel
theorem dL_law_739 : decode cL_law 739 = .ok (.aload_n 0, 1) := by decide +kernel
theorem dL_law_740 : decode cL_law 740 = .ok (.iload 4, 2) := by decide +kernel
theorem dL_law_742 : decode cL_law 742 = .ok (.iconst 4, 1) := by decide +kernel
theorem dL_law_743 : decode cL_law 743 = .ok (.iadd, 1) := by decide +kernel
theorem dL_law_744 : decode cL_law 744 = .ok (.iaload, 1) := by decide +kernel
theorem dL_law_745 : decode cL_law 745 = .ok (.invokevirtual 75, 3) := by decide +kernel
theorem dL_law_748 : decode cL_law 748 = .ok (.if_icmp .eq 660, 3) := by decide +kernel
theorem dL_law_751 : decode cL_law 751 = .ok (.iconst 0, 1) := by decide +kernel
theorem dL_law_752 : decode cL_law 752 = .ok (.ireturn, 1) := by decide +kernel
theorem dL_law_753 : decode cL_law 753 = .ok (.aload_n 1, 1) := by decide +kernel
theorem dL_law_754 : decode cL_law 754 = .ok (.aload_n 0, 1) := by decide +kernel
theorem dL_law_755 : decode cL_law 755 = .ok (.iload 4, 2) := by decide +kernel
theorem dL_law_757 : decode cL_law 757 = .ok (.iconst 1, 1) := by decide +kernel
theorem dL_law_758 : decode cL_law 758 = .ok (.iadd, 1) := by decide +kernel
theorem dL_law_759 : decode cL_law 759 = .ok (.iaload, 1) := by decide +kernel
theorem dL_law_760 : decode cL_law 760 = .ok (.aload_n 0, 1) := by decide +kernel
theorem dL_law_761 : decode cL_law 761 = .ok (.iload 4, 2) := by decide +kernel
theorem dL_law_763 : decode cL_law 763 = .ok (.iconst 2, 1) := by decide +kernel
theorem dL_law_764 : decode cL_law 764 = .ok (.iadd, 1) := by decide +kernel
theorem dL_law_765 : decode cL_law 765 = .ok (.iaload, 1) := by decide +kernel
theorem dL_law_766 : decode cL_law 766 = .ok (.invokevirtual 76, 3) := by decide +kernel
theorem dL_law_769 : decode cL_law 769 = .ok (.aload_n 2, 1) := by decide +kernel
theorem dL_law_770 : decode cL_law 770 = .ok (.aload_n 0, 1) := by decide +kernel
theorem dL_law_771 : decode cL_law 771 = .ok (.iload 4, 2) := by decide +kernel
theorem dL_law_773 : decode cL_law 773 = .ok (.iconst 1, 1) := by decide +kernel
theorem dL_law_774 : decode cL_law 774 = .ok (.iadd, 1) := by decide +kernel
theorem dL_law_775 : decode cL_law 775 = .ok (.iaload, 1) := by decide +kernel
theorem dL_law_776 : decode cL_law 776 = .ok (.aload_n 0, 1) := by decide +kernel
theorem dL_law_777 : decode cL_law 777 = .ok (.iload 4, 2) := by decide +kernel
theorem dL_law_779 : decode cL_law 779 = .ok (.iconst 2, 1) := by decide +kernel
theorem dL_law_780 : decode cL_law 780 = .ok (.iadd, 1) := by decide +kernel
theorem dL_law_781 : decode cL_law 781 = .ok (.iaload, 1) := by decide +kernel
theorem dL_law_782 : decode cL_law 782 = .ok (.invokevirtual 79, 3) := by decide +kernel
theorem dL_law_785 : decode cL_law 785 = .ok (.if_icmp .eq 623, 3) := by decide +kernel
theorem dL_law_788 : decode cL_law 788 = .ok (.iconst 0, 1) := by decide +kernel
theorem dL_law_789 : decode cL_law 789 = .ok (.ireturn, 1) := by decide +kernel
theorem dL_law_790 : decode cL_law 790 = .ok (.aload_n 1, 1) := by decide +kernel
theorem dL_law_791 : decode cL_law 791 = .ok (.aload_n 0, 1) := by decide +kernel
theorem dL_law_792 : decode cL_law 792 = .ok (.iload 4, 2) := by decide +kernel
theorem dL_law_794 : decode cL_law 794 = .ok (.iconst 1, 1) := by decide +kernel
theorem dL_law_795 : decode cL_law 795 = .ok (.iadd, 1) := by decide +kernel
theorem dL_law_796 : decode cL_law 796 = .ok (.iaload, 1) := by decide +kernel
theorem dL_law_797 : decode cL_law 797 = .ok (.aload_n 0, 1) := by decide +kernel
theorem dL_law_798 : decode cL_law 798 = .ok (.iload 4, 2) := by decide +kernel
theorem dL_law_800 : decode cL_law 800 = .ok (.iconst 2, 1) := by decide +kernel
theorem dL_law_801 : decode cL_law 801 = .ok (.iadd, 1) := by decide +kernel
theorem dL_law_802 : decode cL_law 802 = .ok (.iaload, 1) := by decide +kernel
theorem dL_law_803 : decode cL_law 803 = .ok (.aload_n 0, 1) := by decide +kernel
theorem dL_law_804 : decode cL_law 804 = .ok (.iload 4, 2) := by decide +kernel
theorem dL_law_806 : decode cL_law 806 = .ok (.iconst 3, 1) := by decide +kernel
theorem dL_law_807 : decode cL_law 807 = .ok (.iadd, 1) := by decide +kernel
theorem dL_law_808 : decode cL_law 808 = .ok (.iaload, 1) := by decide +kernel
theorem dL_law_809 : decode cL_law 809 = .ok (.invokevirtual 80, 3) := by decide +kernel
theorem dL_law_812 : decode cL_law 812 = .ok (.aload_n 2, 1) := by decide +kernel
theorem dL_law_813 : decode cL_law 813 = .ok (.aload_n 0, 1) := by decide +kernel
theorem dL_law_814 : decode cL_law 814 = .ok (.iload 4, 2) := by decide +kernel
theorem dL_law_816 : decode cL_law 816 = .ok (.iconst 1, 1) := by decide +kernel
theorem dL_law_817 : decode cL_law 817 = .ok (.iadd, 1) := by decide +kernel
theorem dL_law_818 : decode cL_law 818 = .ok (.iaload, 1) := by decide +kernel
theorem dL_law_819 : decode cL_law 819 = .ok (.aload_n 0, 1) := by decide +kernel
theorem dL_law_820 : decode cL_law 820 = .ok (.iload 4, 2) := by decide +kernel
theorem dL_law_822 : decode cL_law 822 = .ok (.iconst 2, 1) := by decide +kernel
theorem dL_law_823 : decode cL_law 823 = .ok (.iadd, 1) := by decide +kernel
theorem dL_law_824 : decode cL_law 824 = .ok (.iaload, 1) := by decide +kernel
theorem dL_law_825 : decode cL_law 825 = .ok (.aload_n 0, 1) := by decide +kernel
theorem dL_law_826 : decode cL_law 826 = .ok (.iload 4, 2) := by decide +kernel
theorem dL_law_828 : decode cL_law 828 = .ok (.iconst 3, 1) := by decide +kernel
theorem dL_law_829 : decode cL_law 829 = .ok (.iadd, 1) := by decide +kernel
theorem dL_law_830 : decode cL_law 830 = .ok (.iaload, 1) := by decide +kernel
theorem dL_law_831 : decode cL_law 831 = .ok (.invokevirtual 83, 3) := by decide +kernel
theorem dL_law_834 : decode cL_law 834 = .ok (.if_icmp .eq 574, 3) := by decide +kernel
theorem dL_law_837 : decode cL_law 837 = .ok (.iconst 0, 1) := by decide +kernel
theorem dL_law_838 : decode cL_law 838 = .ok (.ireturn, 1) := by decide +kernel
theorem dL_law_839 : decode cL_law 839 = .ok (.aload_n 1, 1) := by decide +kernel
theorem dL_law_840 : decode cL_law 840 = .ok (.aload_n 0, 1) := by decide +kernel
theorem dL_law_841 : decode cL_law 841 = .ok (.iload 4, 2) := by decide +kernel
theorem dL_law_843 : decode cL_law 843 = .ok (.iconst 1, 1) := by decide +kernel
theorem dL_law_844 : decode cL_law 844 = .ok (.iadd, 1) := by decide +kernel
theorem dL_law_845 : decode cL_law 845 = .ok (.iaload, 1) := by decide +kernel
theorem dL_law_846 : decode cL_law 846 = .ok (.invokevirtual 84, 3) := by decide +kernel
theorem dL_law_849 : decode cL_law 849 = .ok (.aload_n 2, 1) := by decide +kernel
theorem dL_law_850 : decode cL_law 850 = .ok (.aload_n 0, 1) := by decide +kernel
theorem dL_law_851 : decode cL_law 851 = .ok (.iload 4, 2) := by decide +kernel
theorem dL_law_853 : decode cL_law 853 = .ok (.iconst 1, 1) := by decide +kernel
theorem dL_law_854 : decode cL_law 854 = .ok (.iadd, 1) := by decide +kernel
theorem dL_law_855 : decode cL_law 855 = .ok (.iaload, 1) := by decide +kernel
theorem dL_law_856 : decode cL_law 856 = .ok (.invokevirtual 87, 3) := by decide +kernel
theorem dL_law_859 : decode cL_law 859 = .ok (.if_icmp .eq 549, 3) := by decide +kernel
theorem dL_law_862 : decode cL_law 862 = .ok (.iconst 0, 1) := by decide +kernel
theorem dL_law_863 : decode cL_law 863 = .ok (.ireturn, 1) := by decide +kernel
theorem dL_law_864 : decode cL_law 864 = .ok (.aload_n 1, 1) := by decide +kernel
theorem dL_law_865 : decode cL_law 865 = .ok (.aload_n 0, 1) := by decide +kernel
theorem dL_law_866 : decode cL_law 866 = .ok (.iload 4, 2) := by decide +kernel
theorem dL_law_868 : decode cL_law 868 = .ok (.iconst 1, 1) := by decide +kernel
theorem dL_law_869 : decode cL_law 869 = .ok (.iadd, 1) := by decide +kernel
theorem dL_law_870 : decode cL_law 870 = .ok (.iaload, 1) := by decide +kernel
theorem dL_law_871 : decode cL_law 871 = .ok (.invokevirtual 88, 3) := by decide +kernel
theorem dL_law_874 : decode cL_law 874 = .ok (.aload_n 2, 1) := by decide +kernel
theorem dL_law_875 : decode cL_law 875 = .ok (.aload_n 0, 1) := by decide +kernel
theorem dL_law_876 : decode cL_law 876 = .ok (.iload 4, 2) := by decide +kernel
theorem dL_law_878 : decode cL_law 878 = .ok (.iconst 1, 1) := by decide +kernel
theorem dL_law_879 : decode cL_law 879 = .ok (.iadd, 1) := by decide +kernel
theorem dL_law_880 : decode cL_law 880 = .ok (.iaload, 1) := by decide +kernel
theorem dL_law_881 : decode cL_law 881 = .ok (.invokevirtual 91, 3) := by decide +kernel
theorem dL_law_884 : decode cL_law 884 = .ok (.if_icmp .eq 524, 3) := by decide +kernel
theorem dL_law_887 : decode cL_law 887 = .ok (.iconst 0, 1) := by decide +kernel
theorem dL_law_888 : decode cL_law 888 = .ok (.ireturn, 1) := by decide +kernel
theorem dL_law_889 : decode cL_law 889 = .ok (.aload_n 1, 1) := by decide +kernel
theorem dL_law_890 : decode cL_law 890 = .ok (.aload_n 0, 1) := by decide +kernel
theorem dL_law_891 : decode cL_law 891 = .ok (.iload 4, 2) := by decide +kernel
theorem dL_law_893 : decode cL_law 893 = .ok (.iconst 1, 1) := by decide +kernel
theorem dL_law_894 : decode cL_law 894 = .ok (.iadd, 1) := by decide +kernel
theorem dL_law_895 : decode cL_law 895 = .ok (.iaload, 1) := by decide +kernel
theorem dL_law_896 : decode cL_law 896 = .ok (.aload_n 0, 1) := by decide +kernel
theorem dL_law_897 : decode cL_law 897 = .ok (.iload 4, 2) := by decide +kernel
theorem dL_law_899 : decode cL_law 899 = .ok (.iconst 2, 1) := by decide +kernel
theorem dL_law_900 : decode cL_law 900 = .ok (.iadd, 1) := by decide +kernel
theorem dL_law_901 : decode cL_law 901 = .ok (.iaload, 1) := by decide +kernel
theorem dL_law_902 : decode cL_law 902 = .ok (.aload_n 0, 1) := by decide +kernel
theorem dL_law_903 : decode cL_law 903 = .ok (.iload 4, 2) := by decide +kernel
theorem dL_law_905 : decode cL_law 905 = .ok (.iconst 3, 1) := by decide +kernel
theorem dL_law_906 : decode cL_law 906 = .ok (.iadd, 1) := by decide +kernel
theorem dL_law_907 : decode cL_law 907 = .ok (.iaload, 1) := by decide +kernel
theorem dL_law_908 : decode cL_law 908 = .ok (.invokevirtual 92, 3) := by decide +kernel
theorem dL_law_911 : decode cL_law 911 = .ok (.aload_n 2, 1) := by decide +kernel
theorem dL_law_912 : decode cL_law 912 = .ok (.aload_n 0, 1) := by decide +kernel
theorem dL_law_913 : decode cL_law 913 = .ok (.iload 4, 2) := by decide +kernel
theorem dL_law_915 : decode cL_law 915 = .ok (.iconst 1, 1) := by decide +kernel
theorem dL_law_916 : decode cL_law 916 = .ok (.iadd, 1) := by decide +kernel
theorem dL_law_917 : decode cL_law 917 = .ok (.iaload, 1) := by decide +kernel
theorem dL_law_918 : decode cL_law 918 = .ok (.aload_n 0, 1) := by decide +kernel
theorem dL_law_919 : decode cL_law 919 = .ok (.iload 4, 2) := by decide +kernel
theorem dL_law_921 : decode cL_law 921 = .ok (.iconst 2, 1) := by decide +kernel
theorem dL_law_922 : decode cL_law 922 = .ok (.iadd, 1) := by decide +kernel
theorem dL_law_923 : decode cL_law 923 = .ok (.iaload, 1) := by decide +kernel
theorem dL_law_924 : decode cL_law 924 = .ok (.aload_n 0, 1) := by decide +kernel
theorem dL_law_925 : decode cL_law 925 = .ok (.iload 4, 2) := by decide +kernel
theorem dL_law_927 : decode cL_law 927 = .ok (.iconst 3, 1) := by decide +kernel
theorem dL_law_928 : decode cL_law 928 = .ok (.iadd, 1) := by decide +kernel
theorem dL_law_929 : decode cL_law 929 = .ok (.iaload, 1) := by decide +kernel
theorem dL_law_930 : decode cL_law 930 = .ok (.invokevirtual 95, 3) := by decide +kernel
theorem dL_law_933 : decode cL_law 933 = .ok (.if_icmp .eq 475, 3) := by decide +kernel
theorem dL_law_936 : decode cL_law 936 = .ok (.iconst 0, 1) := by decide +kernel
theorem dL_law_937 : decode cL_law 937 = .ok (.ireturn, 1) := by decide +kernel
theorem dL_law_938 : decode cL_law 938 = .ok (.aload_n 1, 1) := by decide +kernel
theorem dL_law_939 : decode cL_law 939 = .ok (.invokevirtual 96, 3) := by decide +kernel
theorem dL_law_942 : decode cL_law 942 = .ok (.aload_n 2, 1) := by decide +kernel
theorem dL_law_943 : decode cL_law 943 = .ok (.invokevirtual 99, 3) := by decide +kernel
theorem dL_law_946 : decode cL_law 946 = .ok (.if_icmp .eq 462, 3) := by decide +kernel
theorem dL_law_949 : decode cL_law 949 = .ok (.iconst 0, 1) := by decide +kernel
theorem dL_law_950 : decode cL_law 950 = .ok (.ireturn, 1) := by decide +kernel
theorem dL_law_951 : decode cL_law 951 = .ok (.aload_n 1, 1) := by decide +kernel
theorem dL_law_952 : decode cL_law 952 = .ok (.aload_n 0, 1) := by decide +kernel
theorem dL_law_953 : decode cL_law 953 = .ok (.iload 4, 2) := by decide +kernel
theorem dL_law_955 : decode cL_law 955 = .ok (.iconst 1, 1) := by decide +kernel
theorem dL_law_956 : decode cL_law 956 = .ok (.iadd, 1) := by decide +kernel
theorem dL_law_957 : decode cL_law 957 = .ok (.iaload, 1) := by decide +kernel
theorem dL_law_958 : decode cL_law 958 = .ok (.invokevirtual 100, 3) := by decide +kernel
theorem dL_law_961 : decode cL_law 961 = .ok (.aload_n 2, 1) := by decide +kernel
theorem dL_law_962 : decode cL_law 962 = .ok (.aload_n 0, 1) := by decide +kernel
theorem dL_law_963 : decode cL_law 963 = .ok (.iload 4, 2) := by decide +kernel
theorem dL_law_965 : decode cL_law 965 = .ok (.iconst 1, 1) := by decide +kernel
theorem dL_law_966 : decode cL_law 966 = .ok (.iadd, 1) := by decide +kernel
theorem dL_law_967 : decode cL_law 967 = .ok (.iaload, 1) := by decide +kernel
theorem dL_law_968 : decode cL_law 968 = .ok (.invokevirtual 103, 3) := by decide +kernel
theorem dL_law_971 : decode cL_law 971 = .ok (.if_icmp .eq 437, 3) := by decide +kernel
theorem dL_law_974 : decode cL_law 974 = .ok (.iconst 0, 1) := by decide +kernel
theorem dL_law_975 : decode cL_law 975 = .ok (.ireturn, 1) := by decide +kernel
theorem dL_law_976 : decode cL_law 976 = .ok (.aload_n 1, 1) := by decide +kernel
theorem dL_law_977 : decode cL_law 977 = .ok (.aload_n 0, 1) := by decide +kernel
theorem dL_law_978 : decode cL_law 978 = .ok (.iload 4, 2) := by decide +kernel
theorem dL_law_980 : decode cL_law 980 = .ok (.iconst 1, 1) := by decide +kernel
theorem dL_law_981 : decode cL_law 981 = .ok (.iadd, 1) := by decide +kernel
theorem dL_law_982 : decode cL_law 982 = .ok (.iaload, 1) := by decide +kernel
theorem dL_law_983 : decode cL_law 983 = .ok (.invokevirtual 104, 3) := by decide +kernel
theorem dL_law_986 : decode cL_law 986 = .ok (.aload_n 2, 1) := by decide +kernel
theorem dL_law_987 : decode cL_law 987 = .ok (.aload_n 0, 1) := by decide +kernel
theorem dL_law_988 : decode cL_law 988 = .ok (.iload 4, 2) := by decide +kernel
theorem dL_law_990 : decode cL_law 990 = .ok (.iconst 1, 1) := by decide +kernel
theorem dL_law_991 : decode cL_law 991 = .ok (.iadd, 1) := by decide +kernel
theorem dL_law_992 : decode cL_law 992 = .ok (.iaload, 1) := by decide +kernel
theorem dL_law_993 : decode cL_law 993 = .ok (.invokevirtual 107, 3) := by decide +kernel
theorem dL_law_996 : decode cL_law 996 = .ok (.if_icmp .eq 412, 3) := by decide +kernel
theorem dL_law_999 : decode cL_law 999 = .ok (.iconst 0, 1) := by decide +kernel
theorem dL_law_1000 : decode cL_law 1000 = .ok (.ireturn, 1) := by decide +kernel
theorem dL_law_1001 : decode cL_law 1001 = .ok (.aload_n 1, 1) := by decide +kernel
theorem dL_law_1002 : decode cL_law 1002 = .ok (.aload_n 0, 1) := by decide +kernel
theorem dL_law_1003 : decode cL_law 1003 = .ok (.iload 4, 2) := by decide +kernel
theorem dL_law_1005 : decode cL_law 1005 = .ok (.iconst 1, 1) := by decide +kernel
theorem dL_law_1006 : decode cL_law 1006 = .ok (.iadd, 1) := by decide +kernel
theorem dL_law_1007 : decode cL_law 1007 = .ok (.iaload, 1) := by decide +kernel
theorem dL_law_1008 : decode cL_law 1008 = .ok (.aload_n 0, 1) := by decide +kernel
theorem dL_law_1009 : decode cL_law 1009 = .ok (.iload 4, 2) := by decide +kernel
theorem dL_law_1011 : decode cL_law 1011 = .ok (.iconst 2, 1) := by decide +kernel
theorem dL_law_1012 : decode cL_law 1012 = .ok (.iadd, 1) := by decide +kernel
theorem dL_law_1013 : decode cL_law 1013 = .ok (.iaload, 1) := by decide +kernel
theorem dL_law_1014 : decode cL_law 1014 = .ok (.invokevirtual 108, 3) := by decide +kernel
theorem dL_law_1017 : decode cL_law 1017 = .ok (.aload_n 2, 1) := by decide +kernel
theorem dL_law_1018 : decode cL_law 1018 = .ok (.aload_n 0, 1) := by decide +kernel
theorem dL_law_1019 : decode cL_law 1019 = .ok (.iload 4, 2) := by decide +kernel
theorem dL_law_1021 : decode cL_law 1021 = .ok (.iconst 1, 1) := by decide +kernel
theorem dL_law_1022 : decode cL_law 1022 = .ok (.iadd, 1) := by decide +kernel
theorem dL_law_1023 : decode cL_law 1023 = .ok (.iaload, 1) := by decide +kernel
theorem dL_law_1024 : decode cL_law 1024 = .ok (.aload_n 0, 1) := by decide +kernel
theorem dL_law_1025 : decode cL_law 1025 = .ok (.iload 4, 2) := by decide +kernel
theorem dL_law_1027 : decode cL_law 1027 = .ok (.iconst 2, 1) := by decide +kernel
theorem dL_law_1028 : decode cL_law 1028 = .ok (.iadd, 1) := by decide +kernel
theorem dL_law_1029 : decode cL_law 1029 = .ok (.iaload, 1) := by decide +kernel
theorem dL_law_1030 : decode cL_law 1030 = .ok (.invokevirtual 111, 3) := by decide +kernel
theorem dL_law_1033 : decode cL_law 1033 = .ok (.if_icmp .eq 375, 3) := by decide +kernel
theorem dL_law_1036 : decode cL_law 1036 = .ok (.iconst 0, 1) := by decide +kernel
theorem dL_law_1037 : decode cL_law 1037 = .ok (.ireturn, 1) := by decide +kernel
theorem dL_law_1038 : decode cL_law 1038 = .ok (.aload_n 1, 1) := by decide +kernel
theorem dL_law_1039 : decode cL_law 1039 = .ok (.aload_n 0, 1) := by decide +kernel
theorem dL_law_1040 : decode cL_law 1040 = .ok (.iload 4, 2) := by decide +kernel
theorem dL_law_1042 : decode cL_law 1042 = .ok (.iconst 1, 1) := by decide +kernel
theorem dL_law_1043 : decode cL_law 1043 = .ok (.iadd, 1) := by decide +kernel
theorem dL_law_1044 : decode cL_law 1044 = .ok (.iaload, 1) := by decide +kernel
theorem dL_law_1045 : decode cL_law 1045 = .ok (.invokevirtual 112, 3) := by decide +kernel
theorem dL_law_1048 : decode cL_law 1048 = .ok (.aload_n 2, 1) := by decide +kernel
theorem dL_law_1049 : decode cL_law 1049 = .ok (.aload_n 0, 1) := by decide +kernel
theorem dL_law_1050 : decode cL_law 1050 = .ok (.iload 4, 2) := by decide +kernel
theorem dL_law_1052 : decode cL_law 1052 = .ok (.iconst 1, 1) := by decide +kernel
theorem dL_law_1053 : decode cL_law 1053 = .ok (.iadd, 1) := by decide +kernel
theorem dL_law_1054 : decode cL_law 1054 = .ok (.iaload, 1) := by decide +kernel
theorem dL_law_1055 : decode cL_law 1055 = .ok (.invokevirtual 115, 3) := by decide +kernel
theorem dL_law_1058 : decode cL_law 1058 = .ok (.if_icmp .eq 350, 3) := by decide +kernel
theorem dL_law_1061 : decode cL_law 1061 = .ok (.iconst 0, 1) := by decide +kernel
theorem dL_law_1062 : decode cL_law 1062 = .ok (.ireturn, 1) := by decide +kernel
theorem dL_law_1063 : decode cL_law 1063 = .ok (.aload_n 1, 1) := by decide +kernel
theorem dL_law_1064 : decode cL_law 1064 = .ok (.aload_n 0, 1) := by decide +kernel
theorem dL_law_1065 : decode cL_law 1065 = .ok (.iload 4, 2) := by decide +kernel
theorem dL_law_1067 : decode cL_law 1067 = .ok (.iconst 1, 1) := by decide +kernel
theorem dL_law_1068 : decode cL_law 1068 = .ok (.iadd, 1) := by decide +kernel
theorem dL_law_1069 : decode cL_law 1069 = .ok (.iaload, 1) := by decide +kernel
theorem dL_law_1070 : decode cL_law 1070 = .ok (.invokevirtual 116, 3) := by decide +kernel
theorem dL_law_1073 : decode cL_law 1073 = .ok (.aload_n 2, 1) := by decide +kernel
theorem dL_law_1074 : decode cL_law 1074 = .ok (.aload_n 0, 1) := by decide +kernel
theorem dL_law_1075 : decode cL_law 1075 = .ok (.iload 4, 2) := by decide +kernel
theorem dL_law_1077 : decode cL_law 1077 = .ok (.iconst 1, 1) := by decide +kernel
theorem dL_law_1078 : decode cL_law 1078 = .ok (.iadd, 1) := by decide +kernel
theorem dL_law_1079 : decode cL_law 1079 = .ok (.iaload, 1) := by decide +kernel
theorem dL_law_1080 : decode cL_law 1080 = .ok (.invokevirtual 119, 3) := by decide +kernel
theorem dL_law_1083 : decode cL_law 1083 = .ok (.if_icmp .eq 325, 3) := by decide +kernel
theorem dL_law_1086 : decode cL_law 1086 = .ok (.iconst 0, 1) := by decide +kernel
theorem dL_law_1087 : decode cL_law 1087 = .ok (.ireturn, 1) := by decide +kernel
theorem dL_law_1088 : decode cL_law 1088 = .ok (.aload_n 1, 1) := by decide +kernel
theorem dL_law_1089 : decode cL_law 1089 = .ok (.aload_n 0, 1) := by decide +kernel
theorem dL_law_1090 : decode cL_law 1090 = .ok (.iload 4, 2) := by decide +kernel
theorem dL_law_1092 : decode cL_law 1092 = .ok (.iconst 1, 1) := by decide +kernel
theorem dL_law_1093 : decode cL_law 1093 = .ok (.iadd, 1) := by decide +kernel
theorem dL_law_1094 : decode cL_law 1094 = .ok (.iaload, 1) := by decide +kernel
theorem dL_law_1095 : decode cL_law 1095 = .ok (.aload_n 0, 1) := by decide +kernel
theorem dL_law_1096 : decode cL_law 1096 = .ok (.iload 4, 2) := by decide +kernel
theorem dL_law_1098 : decode cL_law 1098 = .ok (.iconst 2, 1) := by decide +kernel
theorem dL_law_1099 : decode cL_law 1099 = .ok (.iadd, 1) := by decide +kernel
theorem dL_law_1100 : decode cL_law 1100 = .ok (.iaload, 1) := by decide +kernel
theorem dL_law_1101 : decode cL_law 1101 = .ok (.invokevirtual 120, 3) := by decide +kernel
theorem dL_law_1104 : decode cL_law 1104 = .ok (.aload_n 2, 1) := by decide +kernel
theorem dL_law_1105 : decode cL_law 1105 = .ok (.aload_n 0, 1) := by decide +kernel
theorem dL_law_1106 : decode cL_law 1106 = .ok (.iload 4, 2) := by decide +kernel
theorem dL_law_1108 : decode cL_law 1108 = .ok (.iconst 1, 1) := by decide +kernel
theorem dL_law_1109 : decode cL_law 1109 = .ok (.iadd, 1) := by decide +kernel
theorem dL_law_1110 : decode cL_law 1110 = .ok (.iaload, 1) := by decide +kernel
theorem dL_law_1111 : decode cL_law 1111 = .ok (.aload_n 0, 1) := by decide +kernel
theorem dL_law_1112 : decode cL_law 1112 = .ok (.iload 4, 2) := by decide +kernel
theorem dL_law_1114 : decode cL_law 1114 = .ok (.iconst 2, 1) := by decide +kernel
theorem dL_law_1115 : decode cL_law 1115 = .ok (.iadd, 1) := by decide +kernel
theorem dL_law_1116 : decode cL_law 1116 = .ok (.iaload, 1) := by decide +kernel
theorem dL_law_1117 : decode cL_law 1117 = .ok (.invokevirtual 123, 3) := by decide +kernel
theorem dL_law_1120 : decode cL_law 1120 = .ok (.if_icmp .eq 288, 3) := by decide +kernel
theorem dL_law_1123 : decode cL_law 1123 = .ok (.iconst 0, 1) := by decide +kernel
theorem dL_law_1124 : decode cL_law 1124 = .ok (.ireturn, 1) := by decide +kernel
theorem dL_law_1125 : decode cL_law 1125 = .ok (.aload_n 1, 1) := by decide +kernel
theorem dL_law_1126 : decode cL_law 1126 = .ok (.aload_n 0, 1) := by decide +kernel
theorem dL_law_1127 : decode cL_law 1127 = .ok (.iload 4, 2) := by decide +kernel
theorem dL_law_1129 : decode cL_law 1129 = .ok (.iconst 1, 1) := by decide +kernel
theorem dL_law_1130 : decode cL_law 1130 = .ok (.iadd, 1) := by decide +kernel
theorem dL_law_1131 : decode cL_law 1131 = .ok (.iaload, 1) := by decide +kernel
theorem dL_law_1132 : decode cL_law 1132 = .ok (.invokevirtual 124, 3) := by decide +kernel
theorem dL_law_1135 : decode cL_law 1135 = .ok (.aload_n 2, 1) := by decide +kernel
theorem dL_law_1136 : decode cL_law 1136 = .ok (.aload_n 0, 1) := by decide +kernel
theorem dL_law_1137 : decode cL_law 1137 = .ok (.iload 4, 2) := by decide +kernel
theorem dL_law_1139 : decode cL_law 1139 = .ok (.iconst 1, 1) := by decide +kernel
theorem dL_law_1140 : decode cL_law 1140 = .ok (.iadd, 1) := by decide +kernel
theorem dL_law_1141 : decode cL_law 1141 = .ok (.iaload, 1) := by decide +kernel
theorem dL_law_1142 : decode cL_law 1142 = .ok (.invokevirtual 127, 3) := by decide +kernel
theorem dL_law_1145 : decode cL_law 1145 = .ok (.if_icmp .eq 263, 3) := by decide +kernel
theorem dL_law_1148 : decode cL_law 1148 = .ok (.iconst 0, 1) := by decide +kernel
theorem dL_law_1149 : decode cL_law 1149 = .ok (.ireturn, 1) := by decide +kernel
theorem dL_law_1150 : decode cL_law 1150 = .ok (.aload_n 1, 1) := by decide +kernel
theorem dL_law_1151 : decode cL_law 1151 = .ok (.aload_n 0, 1) := by decide +kernel
theorem dL_law_1152 : decode cL_law 1152 = .ok (.iload 4, 2) := by decide +kernel
theorem dL_law_1154 : decode cL_law 1154 = .ok (.iconst 1, 1) := by decide +kernel
theorem dL_law_1155 : decode cL_law 1155 = .ok (.iadd, 1) := by decide +kernel
theorem dL_law_1156 : decode cL_law 1156 = .ok (.iaload, 1) := by decide +kernel
theorem dL_law_1157 : decode cL_law 1157 = .ok (.aload_n 0, 1) := by decide +kernel
theorem dL_law_1158 : decode cL_law 1158 = .ok (.iload 4, 2) := by decide +kernel
theorem dL_law_1160 : decode cL_law 1160 = .ok (.iconst 2, 1) := by decide +kernel
theorem dL_law_1161 : decode cL_law 1161 = .ok (.iadd, 1) := by decide +kernel
theorem dL_law_1162 : decode cL_law 1162 = .ok (.iaload, 1) := by decide +kernel
theorem dL_law_1163 : decode cL_law 1163 = .ok (.invokevirtual 128, 3) := by decide +kernel
theorem dL_law_1166 : decode cL_law 1166 = .ok (.aload_n 2, 1) := by decide +kernel
theorem dL_law_1167 : decode cL_law 1167 = .ok (.aload_n 0, 1) := by decide +kernel
theorem dL_law_1168 : decode cL_law 1168 = .ok (.iload 4, 2) := by decide +kernel
theorem dL_law_1170 : decode cL_law 1170 = .ok (.iconst 1, 1) := by decide +kernel
theorem dL_law_1171 : decode cL_law 1171 = .ok (.iadd, 1) := by decide +kernel
theorem dL_law_1172 : decode cL_law 1172 = .ok (.iaload, 1) := by decide +kernel
theorem dL_law_1173 : decode cL_law 1173 = .ok (.aload_n 0, 1) := by decide +kernel
theorem dL_law_1174 : decode cL_law 1174 = .ok (.iload 4, 2) := by decide +kernel
theorem dL_law_1176 : decode cL_law 1176 = .ok (.iconst 2, 1) := by decide +kernel
theorem dL_law_1177 : decode cL_law 1177 = .ok (.iadd, 1) := by decide +kernel
theorem dL_law_1178 : decode cL_law 1178 = .ok (.iaload, 1) := by decide +kernel
theorem dL_law_1179 : decode cL_law 1179 = .ok (.invokevirtual 131, 3) := by decide +kernel
theorem dL_law_1182 : decode cL_law 1182 = .ok (.if_icmp .eq 226, 3) := by decide +kernel
theorem dL_law_1185 : decode cL_law 1185 = .ok (.iconst 0, 1) := by decide +kernel
theorem dL_law_1186 : decode cL_law 1186 = .ok (.ireturn, 1) := by decide +kernel
theorem dL_law_1187 : decode cL_law 1187 = .ok (.aload_n 1, 1) := by decide +kernel
theorem dL_law_1188 : decode cL_law 1188 = .ok (.aload_n 0, 1) := by decide +kernel
theorem dL_law_1189 : decode cL_law 1189 = .ok (.iload 4, 2) := by decide +kernel
theorem dL_law_1191 : decode cL_law 1191 = .ok (.iconst 1, 1) := by decide +kernel
theorem dL_law_1192 : decode cL_law 1192 = .ok (.iadd, 1) := by decide +kernel
theorem dL_law_1193 : decode cL_law 1193 = .ok (.iaload, 1) := by decide +kernel
theorem dL_law_1194 : decode cL_law 1194 = .ok (.invokevirtual 132, 3) := by decide +kernel
theorem dL_law_1197 : decode cL_law 1197 = .ok (.aload_n 2, 1) := by decide +kernel
theorem dL_law_1198 : decode cL_law 1198 = .ok (.aload_n 0, 1) := by decide +kernel
theorem dL_law_1199 : decode cL_law 1199 = .ok (.iload 4, 2) := by decide +kernel
theorem dL_law_1201 : decode cL_law 1201 = .ok (.iconst 1, 1) := by decide +kernel
theorem dL_law_1202 : decode cL_law 1202 = .ok (.iadd, 1) := by decide +kernel
theorem dL_law_1203 : decode cL_law 1203 = .ok (.iaload, 1) := by decide +kernel
theorem dL_law_1204 : decode cL_law 1204 = .ok (.invokevirtual 135, 3) := by decide +kernel
theorem dL_law_1207 : decode cL_law 1207 = .ok (.if_icmp .eq 201, 3) := by decide +kernel
theorem dL_law_1210 : decode cL_law 1210 = .ok (.iconst 0, 1) := by decide +kernel
theorem dL_law_1211 : decode cL_law 1211 = .ok (.ireturn, 1) := by decide +kernel
theorem dL_law_1212 : decode cL_law 1212 = .ok (.aload_n 1, 1) := by decide +kernel
theorem dL_law_1213 : decode cL_law 1213 = .ok (.aload_n 0, 1) := by decide +kernel
theorem dL_law_1214 : decode cL_law 1214 = .ok (.iload 4, 2) := by decide +kernel
theorem dL_law_1216 : decode cL_law 1216 = .ok (.iconst 1, 1) := by decide +kernel
theorem dL_law_1217 : decode cL_law 1217 = .ok (.iadd, 1) := by decide +kernel
theorem dL_law_1218 : decode cL_law 1218 = .ok (.iaload, 1) := by decide +kernel
theorem dL_law_1219 : decode cL_law 1219 = .ok (.invokevirtual 136, 3) := by decide +kernel
theorem dL_law_1222 : decode cL_law 1222 = .ok (.aload_n 2, 1) := by decide +kernel
theorem dL_law_1223 : decode cL_law 1223 = .ok (.aload_n 0, 1) := by decide +kernel
theorem dL_law_1224 : decode cL_law 1224 = .ok (.iload 4, 2) := by decide +kernel
theorem dL_law_1226 : decode cL_law 1226 = .ok (.iconst 1, 1) := by decide +kernel
theorem dL_law_1227 : decode cL_law 1227 = .ok (.iadd, 1) := by decide +kernel
theorem dL_law_1228 : decode cL_law 1228 = .ok (.iaload, 1) := by decide +kernel
theorem dL_law_1229 : decode cL_law 1229 = .ok (.invokevirtual 139, 3) := by decide +kernel
theorem dL_law_1232 : decode cL_law 1232 = .ok (.if_icmp .eq 176, 3) := by decide +kernel
theorem dL_law_1235 : decode cL_law 1235 = .ok (.iconst 0, 1) := by decide +kernel
theorem dL_law_1236 : decode cL_law 1236 = .ok (.ireturn, 1) := by decide +kernel
theorem dL_law_1237 : decode cL_law 1237 = .ok (.aload_n 1, 1) := by decide +kernel
theorem dL_law_1238 : decode cL_law 1238 = .ok (.aload_n 0, 1) := by decide +kernel
theorem dL_law_1239 : decode cL_law 1239 = .ok (.iload 4, 2) := by decide +kernel
theorem dL_law_1241 : decode cL_law 1241 = .ok (.iconst 1, 1) := by decide +kernel
theorem dL_law_1242 : decode cL_law 1242 = .ok (.iadd, 1) := by decide +kernel
theorem dL_law_1243 : decode cL_law 1243 = .ok (.iaload, 1) := by decide +kernel
theorem dL_law_1244 : decode cL_law 1244 = .ok (.aload_n 0, 1) := by decide +kernel
theorem dL_law_1245 : decode cL_law 1245 = .ok (.iload 4, 2) := by decide +kernel
theorem dL_law_1247 : decode cL_law 1247 = .ok (.iconst 2, 1) := by decide +kernel
theorem dL_law_1248 : decode cL_law 1248 = .ok (.iadd, 1) := by decide +kernel
theorem dL_law_1249 : decode cL_law 1249 = .ok (.iaload, 1) := by decide +kernel
theorem dL_law_1250 : decode cL_law 1250 = .ok (.aload_n 0, 1) := by decide +kernel
theorem dL_law_1251 : decode cL_law 1251 = .ok (.iload 4, 2) := by decide +kernel
theorem dL_law_1253 : decode cL_law 1253 = .ok (.iconst 3, 1) := by decide +kernel
theorem dL_law_1254 : decode cL_law 1254 = .ok (.iadd, 1) := by decide +kernel
theorem dL_law_1255 : decode cL_law 1255 = .ok (.iaload, 1) := by decide +kernel
theorem dL_law_1256 : decode cL_law 1256 = .ok (.ifCond .eq 7, 3) := by decide +kernel
theorem dL_law_1259 : decode cL_law 1259 = .ok (.iconst 1, 1) := by decide +kernel
theorem dL_law_1260 : decode cL_law 1260 = .ok (.goto 4, 3) := by decide +kernel
theorem dL_law_1263 : decode cL_law 1263 = .ok (.iconst 0, 1) := by decide +kernel
theorem dL_law_1264 : decode cL_law 1264 = .ok (.invokevirtual 140, 3) := by decide +kernel
theorem dL_law_1267 : decode cL_law 1267 = .ok (.aload_n 2, 1) := by decide +kernel
theorem dL_law_1268 : decode cL_law 1268 = .ok (.aload_n 0, 1) := by decide +kernel
theorem dL_law_1269 : decode cL_law 1269 = .ok (.iload 4, 2) := by decide +kernel
theorem dL_law_1271 : decode cL_law 1271 = .ok (.iconst 1, 1) := by decide +kernel
theorem dL_law_1272 : decode cL_law 1272 = .ok (.iadd, 1) := by decide +kernel
theorem dL_law_1273 : decode cL_law 1273 = .ok (.iaload, 1) := by decide +kernel
theorem dL_law_1274 : decode cL_law 1274 = .ok (.aload_n 0, 1) := by decide +kernel
theorem dL_law_1275 : decode cL_law 1275 = .ok (.iload 4, 2) := by decide +kernel
theorem dL_law_1277 : decode cL_law 1277 = .ok (.iconst 2, 1) := by decide +kernel
theorem dL_law_1278 : decode cL_law 1278 = .ok (.iadd, 1) := by decide +kernel
theorem dL_law_1279 : decode cL_law 1279 = .ok (.iaload, 1) := by decide +kernel
theorem dL_law_1280 : decode cL_law 1280 = .ok (.aload_n 0, 1) := by decide +kernel
theorem dL_law_1281 : decode cL_law 1281 = .ok (.iload 4, 2) := by decide +kernel
theorem dL_law_1283 : decode cL_law 1283 = .ok (.iconst 3, 1) := by decide +kernel
theorem dL_law_1284 : decode cL_law 1284 = .ok (.iadd, 1) := by decide +kernel
theorem dL_law_1285 : decode cL_law 1285 = .ok (.iaload, 1) := by decide +kernel
theorem dL_law_1286 : decode cL_law 1286 = .ok (.ifCond .eq 7, 3) := by decide +kernel
theorem dL_law_1289 : decode cL_law 1289 = .ok (.iconst 1, 1) := by decide +kernel
theorem dL_law_1290 : decode cL_law 1290 = .ok (.goto 4, 3) := by decide +kernel
theorem dL_law_1293 : decode cL_law 1293 = .ok (.iconst 0, 1) := by decide +kernel
theorem dL_law_1294 : decode cL_law 1294 = .ok (.invokevirtual 144, 3) := by decide +kernel
theorem dL_law_1297 : decode cL_law 1297 = .ok (.if_icmp .eq 111, 3) := by decide +kernel
theorem dL_law_1300 : decode cL_law 1300 = .ok (.iconst 0, 1) := by decide +kernel
theorem dL_law_1301 : decode cL_law 1301 = .ok (.ireturn, 1) := by decide +kernel
theorem dL_law_1302 : decode cL_law 1302 = .ok (.aload_n 1, 1) := by decide +kernel
theorem dL_law_1303 : decode cL_law 1303 = .ok (.aload_n 0, 1) := by decide +kernel
theorem dL_law_1304 : decode cL_law 1304 = .ok (.iload 4, 2) := by decide +kernel
theorem dL_law_1306 : decode cL_law 1306 = .ok (.iconst 1, 1) := by decide +kernel
theorem dL_law_1307 : decode cL_law 1307 = .ok (.iadd, 1) := by decide +kernel
theorem dL_law_1308 : decode cL_law 1308 = .ok (.iaload, 1) := by decide +kernel
theorem dL_law_1309 : decode cL_law 1309 = .ok (.aload_n 0, 1) := by decide +kernel
theorem dL_law_1310 : decode cL_law 1310 = .ok (.iload 4, 2) := by decide +kernel
theorem dL_law_1312 : decode cL_law 1312 = .ok (.iconst 2, 1) := by decide +kernel
theorem dL_law_1313 : decode cL_law 1313 = .ok (.iadd, 1) := by decide +kernel
theorem dL_law_1314 : decode cL_law 1314 = .ok (.iaload, 1) := by decide +kernel
theorem dL_law_1315 : decode cL_law 1315 = .ok (.aload_n 0, 1) := by decide +kernel
theorem dL_law_1316 : decode cL_law 1316 = .ok (.iload 4, 2) := by decide +kernel
theorem dL_law_1318 : decode cL_law 1318 = .ok (.iconst 3, 1) := by decide +kernel
theorem dL_law_1319 : decode cL_law 1319 = .ok (.iadd, 1) := by decide +kernel
theorem dL_law_1320 : decode cL_law 1320 = .ok (.iaload, 1) := by decide +kernel
theorem dL_law_1321 : decode cL_law 1321 = .ok (.aload_n 3, 1) := by decide +kernel
theorem dL_law_1322 : decode cL_law 1322 = .ok (.invokestatic 145, 3) := by decide +kernel
theorem dL_law_1325 : decode cL_law 1325 = .ok (.istore 5, 2) := by decide +kernel
theorem dL_law_1327 : decode cL_law 1327 = .ok (.aload_n 2, 1) := by decide +kernel
theorem dL_law_1328 : decode cL_law 1328 = .ok (.aload_n 0, 1) := by decide +kernel
theorem dL_law_1329 : decode cL_law 1329 = .ok (.iload 4, 2) := by decide +kernel
theorem dL_law_1331 : decode cL_law 1331 = .ok (.iconst 1, 1) := by decide +kernel
theorem dL_law_1332 : decode cL_law 1332 = .ok (.iadd, 1) := by decide +kernel
theorem dL_law_1333 : decode cL_law 1333 = .ok (.iaload, 1) := by decide +kernel
theorem dL_law_1334 : decode cL_law 1334 = .ok (.aload_n 0, 1) := by decide +kernel
theorem dL_law_1335 : decode cL_law 1335 = .ok (.iload 4, 2) := by decide +kernel
theorem dL_law_1337 : decode cL_law 1337 = .ok (.iconst 2, 1) := by decide +kernel
theorem dL_law_1338 : decode cL_law 1338 = .ok (.iadd, 1) := by decide +kernel
theorem dL_law_1339 : decode cL_law 1339 = .ok (.iaload, 1) := by decide +kernel
theorem dL_law_1340 : decode cL_law 1340 = .ok (.aload_n 0, 1) := by decide +kernel
theorem dL_law_1341 : decode cL_law 1341 = .ok (.iload 4, 2) := by decide +kernel
theorem dL_law_1343 : decode cL_law 1343 = .ok (.iconst 3, 1) := by decide +kernel
theorem dL_law_1344 : decode cL_law 1344 = .ok (.iadd, 1) := by decide +kernel
theorem dL_law_1345 : decode cL_law 1345 = .ok (.iaload, 1) := by decide +kernel
theorem dL_law_1346 : decode cL_law 1346 = .ok (.invokevirtual 150, 3) := by decide +kernel
theorem dL_law_1349 : decode cL_law 1349 = .ok (.istore 6, 2) := by decide +kernel
theorem dL_law_1351 : decode cL_law 1351 = .ok (.aload_n 2, 1) := by decide +kernel
theorem dL_law_1352 : decode cL_law 1352 = .ok (.invokevirtual 151, 3) := by decide +kernel
theorem dL_law_1355 : decode cL_law 1355 = .ok (.iload 5, 2) := by decide +kernel
theorem dL_law_1357 : decode cL_law 1357 = .ok (.if_icmp .eq 5, 3) := by decide +kernel
theorem dL_law_1360 : decode cL_law 1360 = .ok (.iconst 0, 1) := by decide +kernel
theorem dL_law_1361 : decode cL_law 1361 = .ok (.ireturn, 1) := by decide +kernel
theorem dL_law_1362 : decode cL_law 1362 = .ok (.iload 5, 2) := by decide +kernel
theorem dL_law_1364 : decode cL_law 1364 = .ok (.ifCond .ne 15, 3) := by decide +kernel
theorem dL_law_1367 : decode cL_law 1367 = .ok (.aload_n 3, 1) := by decide +kernel
theorem dL_law_1368 : decode cL_law 1368 = .ok (.iconst 0, 1) := by decide +kernel
theorem dL_law_1369 : decode cL_law 1369 = .ok (.laload, 1) := by decide +kernel
theorem dL_law_1370 : decode cL_law 1370 = .ok (.iload 6, 2) := by decide +kernel
theorem dL_law_1372 : decode cL_law 1372 = .ok (.i2l, 1) := by decide +kernel
theorem dL_law_1373 : decode cL_law 1373 = .ok (.lcmp, 1) := by decide +kernel
theorem dL_law_1374 : decode cL_law 1374 = .ok (.ifCond .eq 5, 3) := by decide +kernel
theorem dL_law_1377 : decode cL_law 1377 = .ok (.iconst 0, 1) := by decide +kernel
theorem dL_law_1378 : decode cL_law 1378 = .ok (.ireturn, 1) := by decide +kernel
theorem dL_law_1379 : decode cL_law 1379 = .ok (.goto 29, 3) := by decide +kernel
theorem dL_law_1382 : decode cL_law 1382 = .ok (.aload_n 1, 1) := by decide +kernel
theorem dL_law_1383 : decode cL_law 1383 = .ok (.invokevirtual 154, 3) := by decide +kernel
theorem dL_law_1386 : decode cL_law 1386 = .ok (.aload_n 2, 1) := by decide +kernel
theorem dL_law_1387 : decode cL_law 1387 = .ok (.invokevirtual 157, 3) := by decide +kernel
theorem dL_law_1390 : decode cL_law 1390 = .ok (.if_icmp .eq 18, 3) := by decide +kernel
theorem dL_law_1393 : decode cL_law 1393 = .ok (.iconst 0, 1) := by decide +kernel
theorem dL_law_1394 : decode cL_law 1394 = .ok (.ireturn, 1) := by decide +kernel
theorem dL_law_1395 : decode cL_law 1395 = .ok (.aload_n 1, 1) := by decide +kernel
theorem dL_law_1396 : decode cL_law 1396 = .ok (.invokevirtual 158, 3) := by decide +kernel
theorem dL_law_1399 : decode cL_law 1399 = .ok (.aload_n 2, 1) := by decide +kernel
theorem dL_law_1400 : decode cL_law 1400 = .ok (.invokevirtual 161, 3) := by decide +kernel
theorem dL_law_1403 : decode cL_law 1403 = .ok (.if_icmp .eq 5, 3) := by decide +kernel
theorem dL_law_1406 : decode cL_law 1406 = .ok (.iconst 0, 1) := by decide +kernel
theorem dL_law_1407 : decode cL_law 1407 = .ok (.ireturn, 1) := by decide +kernel
theorem dL_law_1408 : decode cL_law 1408 = .ok (.iinc 4 6, 3) := by decide +kernel
theorem dL_law_1411 : decode cL_law 1411 = .ok (.goto (-1388), 3) := by decide +kernel
theorem dL_law_1414 : decode cL_law 1414 = .ok (.iconst 1, 1) := by decide +kernel
theorem dL_law_1415 : decode cL_law 1415 = .ok (.ireturn, 1) := by decide +kernel
theorem okL_law_j1379 {E : Ev} {X : Cx} {S : Sh} {xs : Nat → Int32} {Ls bs : Nat} {Q : Int32 → Hp → Prop} {B23 : Nat → Nat → Hp → Int32 → Prop} {nc ns : Nat} {h : Hp} {a1 : Nat} {a2 : Nat} {a3 : Nat} {x4 : Int32} (O : Ok E X yL_law cL_law 7 (some .boolean) 2048 84000 600002 7302232 (qI S none Q)) (hX : LawX E X bs xs Ls) (hB23 : ∀ (nc ns : Nat) (h : Hp) (x4 : Int32), B23 nc ns h x4 → G E X nc ns S none h 23 [some (vr (bs + 1)), some (vr a1), some (vr a2), some (vr a3), some (vi x4), none, none] []) (hw : wL_law_j1379 S (fun i => E.2.2.2.2.1 i + 1) xs Ls B23 nc ns h a1 a2 a3 x4 Q) : G E X nc ns S none h 1379 [some (vr (bs + 1)), some (vr a1), some (vr a2), some (vr a3), some (vi x4), none, none] [] := by
  unfold wL_law_j1379 at hw
  refine g_goto (tgt := 1408) O dL_law_1379 rfl ?_
  refine g_iinc (lc' := [some (vr (bs + 1)), some (vr a1), some (vr a2), some (vr a3), some (vi (x4 + (6 : Int32))), none, none]) O dL_law_1408 rfl kv_6 rfl rfl ?_
  refine g_goto (tgt := 23) O dL_law_1411 rfl ?_
  exact hB23 _ _ _ _ hw
theorem okL_law_j1294 {E : Ev} {X : Cx} {S : Sh} {xs : Nat → Int32} {Ls bs : Nat} {Q : Int32 → Hp → Prop} {B23 : Nat → Nat → Hp → Int32 → Prop} {nc ns : Nat} {h : Hp} {a1 : Nat} {a2 : Nat} {a3 : Nat} {x4 : Int32} {s0 : Int32} {s1 : Nat} {s2 : Int32} {s3 : Int32} {s4 : Int32} (O : Ok E X yL_law cL_law 7 (some .boolean) 2048 84000 600002 7302232 (qI S none Q)) (hX : LawX E X bs xs Ls) (hB23 : ∀ (nc ns : Nat) (h : Hp) (x4 : Int32), B23 nc ns h x4 → G E X nc ns S none h 23 [some (vr (bs + 1)), some (vr a1), some (vr a2), some (vr a3), some (vi x4), none, none] []) (hw : wL_law_j1294 S (fun i => E.2.2.2.2.1 i + 1) xs Ls B23 nc ns h a1 a2 a3 x4 s0 s1 s2 s3 s4 Q) : G E X nc ns S none h 1294 [some (vr (bs + 1)), some (vr a1), some (vr a2), some (vr a3), some (vi x4), none, none] [vi s4, vi s3, vi s2, vr s1, vi s0] := by
  unfold wL_law_j1294 at hw
  obtain ⟨c1294m, hw⟩ := hw
  obtain ⟨c1294n, hw⟩ := hw
  obtain ⟨c1294, hw⟩ := hw
  refine g_callV (As := [vi s2, vi s3, vi s4]) (rest := [vi s0]) O ci_12 rfl dL_law_1294 ml_L_144 im_yX12_aside se_yX12_aside ini_X12 co_yX12_aside yo_yX12_aside c1294 rfl rfl (Nat.le_of_ble_eq_true rfl) ⟨by decide, by decide, c1294m, c1294n⟩ (okX12_aside hw) (k_I fun r1294 h1294 hw => ?_)
  refine g_icmp_eq (tgt := 1408) O dL_law_1297 rfl (fun q1297 => ?_) (fun q1297 => ?_)
  · have hw := hw.1 q1297
    refine g_iinc (lc' := [some (vr (bs + 1)), some (vr a1), some (vr a2), some (vr a3), some (vi (x4 + (6 : Int32))), none, none]) O dL_law_1408 rfl kv_6 rfl rfl ?_
    refine g_goto (tgt := 23) O dL_law_1411 rfl ?_
    exact hB23 _ _ _ _ hw
  · have hw := hw.2 q1297
    refine g_iconst O dL_law_1300 kv_0 ?_
    exact g_widen c1294m c1294n (g_zreturn O dL_law_1301 (by decide) ⟨rfl, rfl, _, rfl, hw⟩)
theorem okL_law_j1264 {E : Ev} {X : Cx} {S : Sh} {xs : Nat → Int32} {Ls bs : Nat} {Q : Int32 → Hp → Prop} {B23 : Nat → Nat → Hp → Int32 → Prop} {nc ns : Nat} {h : Hp} {a1 : Nat} {a2 : Nat} {a3 : Nat} {x4 : Int32} {s0 : Nat} {s1 : Int32} {s2 : Int32} {s3 : Int32} (O : Ok E X yL_law cL_law 7 (some .boolean) 2048 84000 600002 7302232 (qI S none Q)) (hX : LawX E X bs xs Ls) (hB23 : ∀ (nc ns : Nat) (h : Hp) (x4 : Int32), B23 nc ns h x4 → G E X nc ns S none h 23 [some (vr (bs + 1)), some (vr a1), some (vr a2), some (vr a3), some (vi x4), none, none] []) (hw : wL_law_j1264 S (fun i => E.2.2.2.2.1 i + 1) xs Ls B23 nc ns h a1 a2 a3 x4 s0 s1 s2 s3 Q) : G E X nc ns S none h 1264 [some (vr (bs + 1)), some (vr a1), some (vr a2), some (vr a3), some (vi x4), none, none] [vi s3, vi s2, vi s1, vr s0] := by
  unfold wL_law_j1264 at hw
  obtain ⟨c1264m, hw⟩ := hw
  obtain ⟨c1264n, hw⟩ := hw
  obtain ⟨c1264, hw⟩ := hw
  refine g_callV (As := [vi s1, vi s2, vi s3]) (rest := []) O ci_11 rfl dL_law_1264 ml_L_140 im_yX11_aside se_yX11_aside ini_X11 co_yX11_aside yo_yX11_aside c1264 rfl rfl (Nat.le_of_ble_eq_true rfl) ⟨by decide, by decide, c1264m, c1264n⟩ (okX11_aside hw) (k_I fun r1264 h1264 hw => ?_)
  refine g_aload_n O dL_law_1267 rfl ?_
  refine g_aload_n O dL_law_1268 rfl ?_
  refine g_iload O dL_law_1269 rfl ?_
  refine g_iconst O dL_law_1271 kv_1 ?_
  refine g_iadd O dL_law_1272 ?_
  obtain ⟨c1273, hw⟩ := hw
  refine g_sld hX O dL_law_1273 c1273 ?_
  refine g_aload_n O dL_law_1274 rfl ?_
  refine g_iload O dL_law_1275 rfl ?_
  refine g_iconst O dL_law_1277 kv_2 ?_
  refine g_iadd O dL_law_1278 ?_
  obtain ⟨c1279, hw⟩ := hw
  refine g_sld hX O dL_law_1279 c1279 ?_
  refine g_aload_n O dL_law_1280 rfl ?_
  refine g_iload O dL_law_1281 rfl ?_
  refine g_iconst O dL_law_1283 kv_3 ?_
  refine g_iadd O dL_law_1284 ?_
  obtain ⟨c1285, hw⟩ := hw
  refine g_sld hX O dL_law_1285 c1285 ?_
  refine g_if_eq (tgt := 1293) O dL_law_1286 rfl (fun q1286 => ?_) (fun q1286 => ?_)
  · have hw := hw.1 q1286
    refine g_iconst O dL_law_1293 kv_0 ?_
    exact okL_law_j1294 O hX hB23 hw
  · have hw := hw.2 q1286
    refine g_iconst O dL_law_1289 kv_1 ?_
    refine g_goto (tgt := 1294) O dL_law_1290 rfl ?_
    exact okL_law_j1294 O hX hB23 hw
theorem okL_law_23 {E : Ev} {X : Cx} {S : Sh} {xs : Nat → Int32} {Ls bs : Nat} {Q : Int32 → Hp → Prop} {a1 : Nat} {a2 : Nat} {a3 : Nat} (O : Ok E X yL_law cL_law 7 (some .boolean) 2048 84000 600002 7302232 (qI S none Q)) (hX : LawX E X bs xs Ls) : ∀ (n : Nat) (nc ns : Nat) (h : Hp) (x4 : Int32), wL_law_23 S (fun i => E.2.2.2.2.1 i + 1) xs Ls a1 a2 a3 Q n nc ns h x4 → G E X nc ns S none h 23 [some (vr (bs + 1)), some (vr a1), some (vr a2), some (vr a3), some (vi x4), none, none] [] := by
  intro n
  induction n with
  | zero => intro nc ns h x4 hw; exact hw.elim
  | succ n hB23 =>
    intro nc ns h x4 hw
    have hw : wL_law_23b S (fun i => E.2.2.2.2.1 i + 1) xs Ls a1 a2 a3 Q (wL_law_23 S (fun i => E.2.2.2.2.1 i + 1) xs Ls a1 a2 a3 Q n) nc ns h x4 := hw
    unfold wL_law_23b at hw
    refine g_iload O dL_law_23 rfl ?_
    refine g_aload_n O dL_law_25 rfl ?_
    refine g_sln hX O dL_law_26 ?_
    refine g_bipush O dL_law_27 kb_6 ?_
    refine g_isub O dL_law_29 ?_
    refine g_icmp_gt (tgt := 1414) O dL_law_30 rfl (fun q30 => ?_) (fun q30 => ?_)
    · have hw := hw.1 q30
      refine g_iconst O dL_law_1414 kv_1 ?_
      obtain ⟨c1415m, hw⟩ := hw
      obtain ⟨c1415n, hw⟩ := hw
      exact g_widen c1415m c1415n (g_zreturn O dL_law_1415 (by decide) ⟨rfl, rfl, _, rfl, hw⟩)
    · have hw := hw.2 q30
      refine g_aload_n O dL_law_33 rfl ?_
      refine g_iload O dL_law_34 rfl ?_
      obtain ⟨c36, hw⟩ := hw
      refine g_sld hX O dL_law_36 c36 ?_
      refine g_bipush O dL_law_37 kb_63 ?_
      refine g_iand O dL_law_39 ?_
      refine g_tsw O dL_law_40 (by decide) (by decide) (fun t40 ht => ?_)
      rcases ht with ⟨hx40, ht⟩ | ⟨hx40, ht⟩
      · obtain rfl : t40 = 188 := by have e : (40 : Int) + (148) = (t40 : Int) := ht; omega
        have hw := hw.1 (Int32.toInt_inj.mp hx40)
        refine g_aload_n O dL_law_188 rfl ?_
        refine g_aload_n O dL_law_189 rfl ?_
        refine g_iload O dL_law_190 rfl ?_
        refine g_iconst O dL_law_192 kv_1 ?_
        refine g_iadd O dL_law_193 ?_
        obtain ⟨c194, hw⟩ := hw
        refine g_sld hX O dL_law_194 c194 ?_
        refine g_aload_n O dL_law_195 rfl ?_
        refine g_iload O dL_law_196 rfl ?_
        refine g_iconst O dL_law_198 kv_2 ?_
        refine g_iadd O dL_law_199 ?_
        obtain ⟨c200, hw⟩ := hw
        refine g_sld hX O dL_law_200 c200 ?_
        refine g_aload_n O dL_law_201 rfl ?_
        refine g_iload O dL_law_202 rfl ?_
        refine g_iconst O dL_law_204 kv_3 ?_
        refine g_iadd O dL_law_205 ?_
        obtain ⟨c206, hw⟩ := hw
        refine g_sld hX O dL_law_206 c206 ?_
        refine g_aload_n O dL_law_207 rfl ?_
        refine g_iload O dL_law_208 rfl ?_
        refine g_iconst O dL_law_210 kv_4 ?_
        refine g_iadd O dL_law_211 ?_
        obtain ⟨c212, hw⟩ := hw
        refine g_sld hX O dL_law_212 c212 ?_
        refine g_aload_n O dL_law_213 rfl ?_
        refine g_iload O dL_law_214 rfl ?_
        refine g_iconst O dL_law_216 kv_5 ?_
        refine g_iadd O dL_law_217 ?_
        obtain ⟨c218, hw⟩ := hw
        refine g_sld hX O dL_law_218 c218 ?_
        obtain ⟨c219m, hw⟩ := hw
        obtain ⟨c219n, hw⟩ := hw
        obtain ⟨c219, hw⟩ := hw
        refine g_callV (As := [vi ((xs (ix ((x4 + (1 : Int32)))))), vi ((xs (ix ((x4 + (2 : Int32)))))), vi ((xs (ix ((x4 + (3 : Int32)))))), vi ((xs (ix ((x4 + (4 : Int32)))))), vi ((xs (ix ((x4 + (5 : Int32))))))]) (rest := []) O ci_11 rfl dL_law_219 ml_L_19 im_yX11_feed se_yX11_feed ini_X11 co_yX11_feed yo_yX11_feed c219 rfl rfl (Nat.le_of_ble_eq_true rfl) ⟨by decide, by decide, c219m, c219n⟩ (okX11_feed hw) (k_I fun r219 h219 hw => ?_)
        refine g_aload_n O dL_law_222 rfl ?_
        refine g_aload_n O dL_law_223 rfl ?_
        refine g_iload O dL_law_224 rfl ?_
        refine g_iconst O dL_law_226 kv_1 ?_
        refine g_iadd O dL_law_227 ?_
        refine g_sld hX O dL_law_228 c194 ?_
        refine g_aload_n O dL_law_229 rfl ?_
        refine g_iload O dL_law_230 rfl ?_
        refine g_iconst O dL_law_232 kv_2 ?_
        refine g_iadd O dL_law_233 ?_
        refine g_sld hX O dL_law_234 c200 ?_
        refine g_aload_n O dL_law_235 rfl ?_
        refine g_iload O dL_law_236 rfl ?_
        refine g_iconst O dL_law_238 kv_3 ?_
        refine g_iadd O dL_law_239 ?_
        refine g_sld hX O dL_law_240 c206 ?_
        refine g_aload_n O dL_law_241 rfl ?_
        refine g_iload O dL_law_242 rfl ?_
        refine g_iconst O dL_law_244 kv_4 ?_
        refine g_iadd O dL_law_245 ?_
        refine g_sld hX O dL_law_246 c212 ?_
        refine g_aload_n O dL_law_247 rfl ?_
        refine g_iload O dL_law_248 rfl ?_
        refine g_iconst O dL_law_250 kv_5 ?_
        refine g_iadd O dL_law_251 ?_
        refine g_sld hX O dL_law_252 c218 ?_
        obtain ⟨c253, hw⟩ := hw
        refine g_callV (As := [vi ((xs (ix ((x4 + (1 : Int32)))))), vi ((xs (ix ((x4 + (2 : Int32)))))), vi ((xs (ix ((x4 + (3 : Int32)))))), vi ((xs (ix ((x4 + (4 : Int32)))))), vi ((xs (ix ((x4 + (5 : Int32))))))]) (rest := [vi r219]) O ci_12 rfl dL_law_253 ml_L_23 im_yX12_feed se_yX12_feed ini_X12 co_yX12_feed yo_yX12_feed c253 rfl rfl (Nat.le_of_ble_eq_true rfl) ⟨by decide, by decide, c219m, c219n⟩ (okX12_feed hw) (k_I fun r253 h253 hw => ?_)
        refine g_icmp_eq (tgt := 1408) O dL_law_256 rfl (fun q256 => ?_) (fun q256 => ?_)
        · have hw := hw.1 q256
          refine g_iinc (lc' := [some (vr (bs + 1)), some (vr a1), some (vr a2), some (vr a3), some (vi (x4 + (6 : Int32))), none, none]) O dL_law_1408 rfl kv_6 rfl rfl ?_
          refine g_goto (tgt := 23) O dL_law_1411 rfl ?_
          exact hB23 _ _ _ _ hw
        · have hw := hw.2 q256
          refine g_iconst O dL_law_259 kv_0 ?_
          exact g_widen c219m c219n (g_zreturn O dL_law_260 (by decide) ⟨rfl, rfl, _, rfl, hw⟩)
      · have hw := hw.2 (fun q => hx40 (by rw [q]; rfl))
        rcases ht with ⟨hx40, ht⟩ | ⟨hx40, ht⟩
        · obtain rfl : t40 = 261 := by have e : (40 : Int) + (221) = (t40 : Int) := ht; omega
          have hw := hw.1 (Int32.toInt_inj.mp hx40)
          refine g_aload_n O dL_law_261 rfl ?_
          refine g_aload_n O dL_law_262 rfl ?_
          refine g_iload O dL_law_263 rfl ?_
          refine g_iconst O dL_law_265 kv_1 ?_
          refine g_iadd O dL_law_266 ?_
          obtain ⟨c267, hw⟩ := hw
          refine g_sld hX O dL_law_267 c267 ?_
          obtain ⟨c268m, hw⟩ := hw
          obtain ⟨c268n, hw⟩ := hw
          obtain ⟨c268, hw⟩ := hw
          refine g_callV (As := [vi ((xs (ix ((x4 + (1 : Int32))))))]) (rest := []) O ci_11 rfl dL_law_268 ml_L_24 im_yX11_machines se_yX11_machines ini_X11 co_yX11_machines yo_yX11_machines c268 rfl rfl (Nat.le_of_ble_eq_true rfl) ⟨by decide, by decide, c268m, c268n⟩ (okX11_machines hw) (k_I fun r268 h268 hw => ?_)
          refine g_aload_n O dL_law_271 rfl ?_
          refine g_aload_n O dL_law_272 rfl ?_
          refine g_iload O dL_law_273 rfl ?_
          refine g_iconst O dL_law_275 kv_1 ?_
          refine g_iadd O dL_law_276 ?_
          refine g_sld hX O dL_law_277 c267 ?_
          obtain ⟨c278, hw⟩ := hw
          refine g_callV (As := [vi ((xs (ix ((x4 + (1 : Int32))))))]) (rest := [vi r268]) O ci_12 rfl dL_law_278 ml_L_28 im_yX12_machines se_yX12_machines ini_X12 co_yX12_machines yo_yX12_machines c278 rfl rfl (Nat.le_of_ble_eq_true rfl) ⟨by decide, by decide, c268m, c268n⟩ (okX12_machines hw) (k_I fun r278 h278 hw => ?_)
          refine g_icmp_eq (tgt := 1408) O dL_law_281 rfl (fun q281 => ?_) (fun q281 => ?_)
          · have hw := hw.1 q281
            refine g_iinc (lc' := [some (vr (bs + 1)), some (vr a1), some (vr a2), some (vr a3), some (vi (x4 + (6 : Int32))), none, none]) O dL_law_1408 rfl kv_6 rfl rfl ?_
            refine g_goto (tgt := 23) O dL_law_1411 rfl ?_
            exact hB23 _ _ _ _ hw
          · have hw := hw.2 q281
            refine g_iconst O dL_law_284 kv_0 ?_
            exact g_widen c268m c268n (g_zreturn O dL_law_285 (by decide) ⟨rfl, rfl, _, rfl, hw⟩)
        · have hw := hw.2 (fun q => hx40 (by rw [q]; rfl))
          rcases ht with ⟨hx40, ht⟩ | ⟨hx40, ht⟩
          · obtain rfl : t40 = 286 := by have e : (40 : Int) + (246) = (t40 : Int) := ht; omega
            have hw := hw.1 (Int32.toInt_inj.mp hx40)
            refine g_aload_n O dL_law_286 rfl ?_
            obtain ⟨c287m, hw⟩ := hw
            obtain ⟨c287n, hw⟩ := hw
            obtain ⟨c287, hw⟩ := hw
            refine g_callV (As := []) (rest := []) O ci_11 rfl dL_law_287 ml_L_29 im_yX11_fault se_yX11_fault ini_X11 co_yX11_fault yo_yX11_fault c287 rfl rfl (Nat.le_of_ble_eq_true rfl) ⟨by decide, by decide, c287m, c287n⟩ (okX11_fault hw) (k_I fun r287 h287 hw => ?_)
            refine g_aload_n O dL_law_290 rfl ?_
            obtain ⟨c291, hw⟩ := hw
            refine g_callV (As := []) (rest := [vi r287]) O ci_12 rfl dL_law_291 ml_L_33 im_yX12_fault se_yX12_fault ini_X12 co_yX12_fault yo_yX12_fault c291 rfl rfl (Nat.le_of_ble_eq_true rfl) ⟨by decide, by decide, c287m, c287n⟩ (okX12_fault hw) (k_I fun r291 h291 hw => ?_)
            refine g_icmp_eq (tgt := 1408) O dL_law_294 rfl (fun q294 => ?_) (fun q294 => ?_)
            · have hw := hw.1 q294
              refine g_iinc (lc' := [some (vr (bs + 1)), some (vr a1), some (vr a2), some (vr a3), some (vi (x4 + (6 : Int32))), none, none]) O dL_law_1408 rfl kv_6 rfl rfl ?_
              refine g_goto (tgt := 23) O dL_law_1411 rfl ?_
              exact hB23 _ _ _ _ hw
            · have hw := hw.2 q294
              refine g_iconst O dL_law_297 kv_0 ?_
              exact g_widen c287m c287n (g_zreturn O dL_law_298 (by decide) ⟨rfl, rfl, _, rfl, hw⟩)
          · have hw := hw.2 (fun q => hx40 (by rw [q]; rfl))
            rcases ht with ⟨hx40, ht⟩ | ⟨hx40, ht⟩
            · obtain rfl : t40 = 299 := by have e : (40 : Int) + (259) = (t40 : Int) := ht; omega
              have hw := hw.1 (Int32.toInt_inj.mp hx40)
              refine g_aload_n O dL_law_299 rfl ?_
              obtain ⟨c300m, hw⟩ := hw
              obtain ⟨c300n, hw⟩ := hw
              obtain ⟨c300, hw⟩ := hw
              refine g_callV (As := []) (rest := []) O ci_11 rfl dL_law_300 ml_L_34 im_yX11_where se_yX11_where ini_X11 co_yX11_where yo_yX11_where c300 rfl rfl (Nat.le_of_ble_eq_true rfl) ⟨by decide, by decide, c300m, c300n⟩ (okX11_where hw) (k_I fun r300 h300 hw => ?_)
              refine g_aload_n O dL_law_303 rfl ?_
              obtain ⟨c304, hw⟩ := hw
              refine g_callV (As := []) (rest := [vi r300]) O ci_12 rfl dL_law_304 ml_L_37 im_yX12_where se_yX12_where ini_X12 co_yX12_where yo_yX12_where c304 rfl rfl (Nat.le_of_ble_eq_true rfl) ⟨by decide, by decide, c300m, c300n⟩ (okX12_where hw) (k_I fun r304 h304 hw => ?_)
              refine g_icmp_eq (tgt := 1408) O dL_law_307 rfl (fun q307 => ?_) (fun q307 => ?_)
              · have hw := hw.1 q307
                refine g_iinc (lc' := [some (vr (bs + 1)), some (vr a1), some (vr a2), some (vr a3), some (vi (x4 + (6 : Int32))), none, none]) O dL_law_1408 rfl kv_6 rfl rfl ?_
                refine g_goto (tgt := 23) O dL_law_1411 rfl ?_
                exact hB23 _ _ _ _ hw
              · have hw := hw.2 q307
                refine g_iconst O dL_law_310 kv_0 ?_
                exact g_widen c300m c300n (g_zreturn O dL_law_311 (by decide) ⟨rfl, rfl, _, rfl, hw⟩)
            · have hw := hw.2 (fun q => hx40 (by rw [q]; rfl))
              rcases ht with ⟨hx40, ht⟩ | ⟨hx40, ht⟩
              · obtain rfl : t40 = 312 := by have e : (40 : Int) + (272) = (t40 : Int) := ht; omega
                have hw := hw.1 (Int32.toInt_inj.mp hx40)
                refine g_aload_n O dL_law_312 rfl ?_
                refine g_aload_n O dL_law_313 rfl ?_
                refine g_iload O dL_law_314 rfl ?_
                refine g_iconst O dL_law_316 kv_1 ?_
                refine g_iadd O dL_law_317 ?_
                obtain ⟨c318, hw⟩ := hw
                refine g_sld hX O dL_law_318 c318 ?_
                refine g_aload_n O dL_law_319 rfl ?_
                refine g_iload O dL_law_320 rfl ?_
                refine g_iconst O dL_law_322 kv_2 ?_
                refine g_iadd O dL_law_323 ?_
                obtain ⟨c324, hw⟩ := hw
                refine g_sld hX O dL_law_324 c324 ?_
                obtain ⟨c325m, hw⟩ := hw
                obtain ⟨c325n, hw⟩ := hw
                obtain ⟨c325, hw⟩ := hw
                refine g_callV (As := [vi ((xs (ix ((x4 + (1 : Int32)))))), vi ((xs (ix ((x4 + (2 : Int32))))))]) (rest := []) O ci_11 rfl dL_law_325 ml_L_38 im_yX11_machine se_yX11_machine ini_X11 co_yX11_machine yo_yX11_machine c325 rfl rfl (Nat.le_of_ble_eq_true rfl) ⟨by decide, by decide, c325m, c325n⟩ (okX11_machine hw) (k_I fun r325 h325 hw => ?_)
                refine g_aload_n O dL_law_328 rfl ?_
                refine g_aload_n O dL_law_329 rfl ?_
                refine g_iload O dL_law_330 rfl ?_
                refine g_iconst O dL_law_332 kv_1 ?_
                refine g_iadd O dL_law_333 ?_
                refine g_sld hX O dL_law_334 c318 ?_
                refine g_aload_n O dL_law_335 rfl ?_
                refine g_iload O dL_law_336 rfl ?_
                refine g_iconst O dL_law_338 kv_2 ?_
                refine g_iadd O dL_law_339 ?_
                refine g_sld hX O dL_law_340 c324 ?_
                obtain ⟨c341, hw⟩ := hw
                refine g_callV (As := [vi ((xs (ix ((x4 + (1 : Int32)))))), vi ((xs (ix ((x4 + (2 : Int32))))))]) (rest := [vi r325]) O ci_12 rfl dL_law_341 ml_L_42 im_yX12_machine se_yX12_machine ini_X12 co_yX12_machine yo_yX12_machine c341 rfl rfl (Nat.le_of_ble_eq_true rfl) ⟨by decide, by decide, c325m, c325n⟩ (okX12_machine hw) (k_I fun r341 h341 hw => ?_)
                refine g_icmp_eq (tgt := 1408) O dL_law_344 rfl (fun q344 => ?_) (fun q344 => ?_)
                · have hw := hw.1 q344
                  refine g_iinc (lc' := [some (vr (bs + 1)), some (vr a1), some (vr a2), some (vr a3), some (vi (x4 + (6 : Int32))), none, none]) O dL_law_1408 rfl kv_6 rfl rfl ?_
                  refine g_goto (tgt := 23) O dL_law_1411 rfl ?_
                  exact hB23 _ _ _ _ hw
                · have hw := hw.2 q344
                  refine g_iconst O dL_law_347 kv_0 ?_
                  exact g_widen c325m c325n (g_zreturn O dL_law_348 (by decide) ⟨rfl, rfl, _, rfl, hw⟩)
              · have hw := hw.2 (fun q => hx40 (by rw [q]; rfl))
                rcases ht with ⟨hx40, ht⟩ | ⟨hx40, ht⟩
                · obtain rfl : t40 = 349 := by have e : (40 : Int) + (309) = (t40 : Int) := ht; omega
                  have hw := hw.1 (Int32.toInt_inj.mp hx40)
                  refine g_aload_n O dL_law_349 rfl ?_
                  refine g_aload_n O dL_law_350 rfl ?_
                  refine g_iload O dL_law_351 rfl ?_
                  refine g_iconst O dL_law_353 kv_1 ?_
                  refine g_iadd O dL_law_354 ?_
                  obtain ⟨c355, hw⟩ := hw
                  refine g_sld hX O dL_law_355 c355 ?_
                  refine g_aload_n O dL_law_356 rfl ?_
                  refine g_iload O dL_law_357 rfl ?_
                  refine g_iconst O dL_law_359 kv_2 ?_
                  refine g_iadd O dL_law_360 ?_
                  obtain ⟨c361, hw⟩ := hw
                  refine g_sld hX O dL_law_361 c361 ?_
                  refine g_aload_n O dL_law_362 rfl ?_
                  refine g_iload O dL_law_363 rfl ?_
                  refine g_iconst O dL_law_365 kv_3 ?_
                  refine g_iadd O dL_law_366 ?_
                  obtain ⟨c367, hw⟩ := hw
                  refine g_sld hX O dL_law_367 c367 ?_
                  obtain ⟨c368m, hw⟩ := hw
                  obtain ⟨c368n, hw⟩ := hw
                  obtain ⟨c368, hw⟩ := hw
                  refine g_callV (As := [vi ((xs (ix ((x4 + (1 : Int32)))))), vi ((xs (ix ((x4 + (2 : Int32)))))), vi ((xs (ix ((x4 + (3 : Int32))))))]) (rest := []) O ci_11 rfl dL_law_368 ml_L_43 im_yX11_variable se_yX11_variable ini_X11 co_yX11_variable yo_yX11_variable c368 rfl rfl (Nat.le_of_ble_eq_true rfl) ⟨by decide, by decide, c368m, c368n⟩ (okX11_variable hw) (k_I fun r368 h368 hw => ?_)
                  refine g_aload_n O dL_law_371 rfl ?_
                  refine g_aload_n O dL_law_372 rfl ?_
                  refine g_iload O dL_law_373 rfl ?_
                  refine g_iconst O dL_law_375 kv_1 ?_
                  refine g_iadd O dL_law_376 ?_
                  refine g_sld hX O dL_law_377 c355 ?_
                  refine g_aload_n O dL_law_378 rfl ?_
                  refine g_iload O dL_law_379 rfl ?_
                  refine g_iconst O dL_law_381 kv_2 ?_
                  refine g_iadd O dL_law_382 ?_
                  refine g_sld hX O dL_law_383 c361 ?_
                  refine g_aload_n O dL_law_384 rfl ?_
                  refine g_iload O dL_law_385 rfl ?_
                  refine g_iconst O dL_law_387 kv_3 ?_
                  refine g_iadd O dL_law_388 ?_
                  refine g_sld hX O dL_law_389 c367 ?_
                  obtain ⟨c390, hw⟩ := hw
                  refine g_callV (As := [vi ((xs (ix ((x4 + (1 : Int32)))))), vi ((xs (ix ((x4 + (2 : Int32)))))), vi ((xs (ix ((x4 + (3 : Int32))))))]) (rest := [vi r368]) O ci_12 rfl dL_law_390 ml_L_46 im_yX12_variable se_yX12_variable ini_X12 co_yX12_variable yo_yX12_variable c390 rfl rfl (Nat.le_of_ble_eq_true rfl) ⟨by decide, by decide, c368m, c368n⟩ (okX12_variable hw) (k_I fun r390 h390 hw => ?_)
                  refine g_icmp_eq (tgt := 1408) O dL_law_393 rfl (fun q393 => ?_) (fun q393 => ?_)
                  · have hw := hw.1 q393
                    refine g_iinc (lc' := [some (vr (bs + 1)), some (vr a1), some (vr a2), some (vr a3), some (vi (x4 + (6 : Int32))), none, none]) O dL_law_1408 rfl kv_6 rfl rfl ?_
                    refine g_goto (tgt := 23) O dL_law_1411 rfl ?_
                    exact hB23 _ _ _ _ hw
                  · have hw := hw.2 q393
                    refine g_iconst O dL_law_396 kv_0 ?_
                    exact g_widen c368m c368n (g_zreturn O dL_law_397 (by decide) ⟨rfl, rfl, _, rfl, hw⟩)
                · have hw := hw.2 (fun q => hx40 (by rw [q]; rfl))
                  rcases ht with ⟨hx40, ht⟩ | ⟨hx40, ht⟩
                  · obtain rfl : t40 = 398 := by have e : (40 : Int) + (358) = (t40 : Int) := ht; omega
                    have hw := hw.1 (Int32.toInt_inj.mp hx40)
                    refine g_aload_n O dL_law_398 rfl ?_
                    refine g_aload_n O dL_law_399 rfl ?_
                    refine g_iload O dL_law_400 rfl ?_
                    refine g_iconst O dL_law_402 kv_1 ?_
                    refine g_iadd O dL_law_403 ?_
                    obtain ⟨c404, hw⟩ := hw
                    refine g_sld hX O dL_law_404 c404 ?_
                    refine g_aload_n O dL_law_405 rfl ?_
                    refine g_iload O dL_law_406 rfl ?_
                    refine g_iconst O dL_law_408 kv_2 ?_
                    refine g_iadd O dL_law_409 ?_
                    obtain ⟨c410, hw⟩ := hw
                    refine g_sld hX O dL_law_410 c410 ?_
                    refine g_aload_n O dL_law_411 rfl ?_
                    refine g_iload O dL_law_412 rfl ?_
                    refine g_iconst O dL_law_414 kv_3 ?_
                    refine g_iadd O dL_law_415 ?_
                    obtain ⟨c416, hw⟩ := hw
                    refine g_sld hX O dL_law_416 c416 ?_
                    obtain ⟨c417m, hw⟩ := hw
                    obtain ⟨c417n, hw⟩ := hw
                    obtain ⟨c417, hw⟩ := hw
                    refine g_callV (As := [vi ((xs (ix ((x4 + (1 : Int32)))))), vi ((xs (ix ((x4 + (2 : Int32)))))), vi ((xs (ix ((x4 + (3 : Int32))))))]) (rest := []) O ci_11 rfl dL_law_417 ml_L_47 im_yX11_event se_yX11_event ini_X11 co_yX11_event yo_yX11_event c417 rfl rfl (Nat.le_of_ble_eq_true rfl) ⟨by decide, by decide, c417m, c417n⟩ (okX11_event hw) (k_I fun r417 h417 hw => ?_)
                    refine g_aload_n O dL_law_420 rfl ?_
                    refine g_aload_n O dL_law_421 rfl ?_
                    refine g_iload O dL_law_422 rfl ?_
                    refine g_iconst O dL_law_424 kv_1 ?_
                    refine g_iadd O dL_law_425 ?_
                    refine g_sld hX O dL_law_426 c404 ?_
                    refine g_aload_n O dL_law_427 rfl ?_
                    refine g_iload O dL_law_428 rfl ?_
                    refine g_iconst O dL_law_430 kv_2 ?_
                    refine g_iadd O dL_law_431 ?_
                    refine g_sld hX O dL_law_432 c410 ?_
                    refine g_aload_n O dL_law_433 rfl ?_
                    refine g_iload O dL_law_434 rfl ?_
                    refine g_iconst O dL_law_436 kv_3 ?_
                    refine g_iadd O dL_law_437 ?_
                    refine g_sld hX O dL_law_438 c416 ?_
                    obtain ⟨c439, hw⟩ := hw
                    refine g_callV (As := [vi ((xs (ix ((x4 + (1 : Int32)))))), vi ((xs (ix ((x4 + (2 : Int32)))))), vi ((xs (ix ((x4 + (3 : Int32))))))]) (rest := [vi r417]) O ci_12 rfl dL_law_439 ml_L_50 im_yX12_event se_yX12_event ini_X12 co_yX12_event yo_yX12_event c439 rfl rfl (Nat.le_of_ble_eq_true rfl) ⟨by decide, by decide, c417m, c417n⟩ (okX12_event hw) (k_I fun r439 h439 hw => ?_)
                    refine g_icmp_eq (tgt := 1408) O dL_law_442 rfl (fun q442 => ?_) (fun q442 => ?_)
                    · have hw := hw.1 q442
                      refine g_iinc (lc' := [some (vr (bs + 1)), some (vr a1), some (vr a2), some (vr a3), some (vi (x4 + (6 : Int32))), none, none]) O dL_law_1408 rfl kv_6 rfl rfl ?_
                      refine g_goto (tgt := 23) O dL_law_1411 rfl ?_
                      exact hB23 _ _ _ _ hw
                    · have hw := hw.2 q442
                      refine g_iconst O dL_law_445 kv_0 ?_
                      exact g_widen c417m c417n (g_zreturn O dL_law_446 (by decide) ⟨rfl, rfl, _, rfl, hw⟩)
                  · have hw := hw.2 (fun q => hx40 (by rw [q]; rfl))
                    rcases ht with ⟨hx40, ht⟩ | ⟨hx40, ht⟩
                    · obtain rfl : t40 = 447 := by have e : (40 : Int) + (407) = (t40 : Int) := ht; omega
                      have hw := hw.1 (Int32.toInt_inj.mp hx40)
                      refine g_aload_n O dL_law_447 rfl ?_
                      refine g_aload_n O dL_law_448 rfl ?_
                      refine g_iload O dL_law_449 rfl ?_
                      refine g_iconst O dL_law_451 kv_1 ?_
                      refine g_iadd O dL_law_452 ?_
                      obtain ⟨c453, hw⟩ := hw
                      refine g_sld hX O dL_law_453 c453 ?_
                      refine g_aload_n O dL_law_454 rfl ?_
                      refine g_iload O dL_law_455 rfl ?_
                      refine g_iconst O dL_law_457 kv_2 ?_
                      refine g_iadd O dL_law_458 ?_
                      obtain ⟨c459, hw⟩ := hw
                      refine g_sld hX O dL_law_459 c459 ?_
                      refine g_aload_n O dL_law_460 rfl ?_
                      refine g_iload O dL_law_461 rfl ?_
                      refine g_iconst O dL_law_463 kv_3 ?_
                      refine g_iadd O dL_law_464 ?_
                      obtain ⟨c465, hw⟩ := hw
                      refine g_sld hX O dL_law_465 c465 ?_
                      obtain ⟨c466m, hw⟩ := hw
                      obtain ⟨c466n, hw⟩ := hw
                      obtain ⟨c466, hw⟩ := hw
                      refine g_callV (As := [vi ((xs (ix ((x4 + (1 : Int32)))))), vi ((xs (ix ((x4 + (2 : Int32)))))), vi ((xs (ix ((x4 + (3 : Int32))))))]) (rest := []) O ci_11 rfl dL_law_466 ml_L_51 im_yX11_value se_yX11_value ini_X11 co_yX11_value yo_yX11_value c466 rfl rfl (Nat.le_of_ble_eq_true rfl) ⟨by decide, by decide, c466m, c466n⟩ (okX11_value hw) (k_I fun r466 h466 hw => ?_)
                      refine g_aload_n O dL_law_469 rfl ?_
                      refine g_aload_n O dL_law_470 rfl ?_
                      refine g_iload O dL_law_471 rfl ?_
                      refine g_iconst O dL_law_473 kv_1 ?_
                      refine g_iadd O dL_law_474 ?_
                      refine g_sld hX O dL_law_475 c453 ?_
                      refine g_aload_n O dL_law_476 rfl ?_
                      refine g_iload O dL_law_477 rfl ?_
                      refine g_iconst O dL_law_479 kv_2 ?_
                      refine g_iadd O dL_law_480 ?_
                      refine g_sld hX O dL_law_481 c459 ?_
                      refine g_aload_n O dL_law_482 rfl ?_
                      refine g_iload O dL_law_483 rfl ?_
                      refine g_iconst O dL_law_485 kv_3 ?_
                      refine g_iadd O dL_law_486 ?_
                      refine g_sld hX O dL_law_487 c465 ?_
                      obtain ⟨c488, hw⟩ := hw
                      refine g_callV (As := [vi ((xs (ix ((x4 + (1 : Int32)))))), vi ((xs (ix ((x4 + (2 : Int32)))))), vi ((xs (ix ((x4 + (3 : Int32))))))]) (rest := [vi r466]) O ci_12 rfl dL_law_488 ml_L_54 im_yX12_value se_yX12_value ini_X12 co_yX12_value yo_yX12_value c488 rfl rfl (Nat.le_of_ble_eq_true rfl) ⟨by decide, by decide, c466m, c466n⟩ (okX12_value hw) (k_I fun r488 h488 hw => ?_)
                      refine g_icmp_eq (tgt := 1408) O dL_law_491 rfl (fun q491 => ?_) (fun q491 => ?_)
                      · have hw := hw.1 q491
                        refine g_iinc (lc' := [some (vr (bs + 1)), some (vr a1), some (vr a2), some (vr a3), some (vi (x4 + (6 : Int32))), none, none]) O dL_law_1408 rfl kv_6 rfl rfl ?_
                        refine g_goto (tgt := 23) O dL_law_1411 rfl ?_
                        exact hB23 _ _ _ _ hw
                      · have hw := hw.2 q491
                        refine g_iconst O dL_law_494 kv_0 ?_
                        exact g_widen c466m c466n (g_zreturn O dL_law_495 (by decide) ⟨rfl, rfl, _, rfl, hw⟩)
                    · have hw := hw.2 (fun q => hx40 (by rw [q]; rfl))
                      rcases ht with ⟨hx40, ht⟩ | ⟨hx40, ht⟩
                      · obtain rfl : t40 = 496 := by have e : (40 : Int) + (456) = (t40 : Int) := ht; omega
                        have hw := hw.1 (Int32.toInt_inj.mp hx40)
                        refine g_aload_n O dL_law_496 rfl ?_
                        refine g_aload_n O dL_law_497 rfl ?_
                        refine g_iload O dL_law_498 rfl ?_
                        refine g_iconst O dL_law_500 kv_1 ?_
                        refine g_iadd O dL_law_501 ?_
                        obtain ⟨c502, hw⟩ := hw
                        refine g_sld hX O dL_law_502 c502 ?_
                        refine g_aload_n O dL_law_503 rfl ?_
                        refine g_iload O dL_law_504 rfl ?_
                        refine g_iconst O dL_law_506 kv_2 ?_
                        refine g_iadd O dL_law_507 ?_
                        obtain ⟨c508, hw⟩ := hw
                        refine g_sld hX O dL_law_508 c508 ?_
                        obtain ⟨c509m, hw⟩ := hw
                        obtain ⟨c509n, hw⟩ := hw
                        obtain ⟨c509, hw⟩ := hw
                        refine g_callV (As := [vi ((xs (ix ((x4 + (1 : Int32)))))), vi ((xs (ix ((x4 + (2 : Int32))))))]) (rest := []) O ci_11 rfl dL_law_509 ml_L_55 im_yX11_sound se_yX11_sound ini_X11 co_yX11_sound yo_yX11_sound c509 rfl rfl (Nat.le_of_ble_eq_true rfl) ⟨by decide, by decide, c509m, c509n⟩ (okX11_sound hw) (k_I fun r509 h509 hw => ?_)
                        refine g_aload_n O dL_law_512 rfl ?_
                        refine g_aload_n O dL_law_513 rfl ?_
                        refine g_iload O dL_law_514 rfl ?_
                        refine g_iconst O dL_law_516 kv_1 ?_
                        refine g_iadd O dL_law_517 ?_
                        refine g_sld hX O dL_law_518 c502 ?_
                        refine g_aload_n O dL_law_519 rfl ?_
                        refine g_iload O dL_law_520 rfl ?_
                        refine g_iconst O dL_law_522 kv_2 ?_
                        refine g_iadd O dL_law_523 ?_
                        refine g_sld hX O dL_law_524 c508 ?_
                        obtain ⟨c525, hw⟩ := hw
                        refine g_callV (As := [vi ((xs (ix ((x4 + (1 : Int32)))))), vi ((xs (ix ((x4 + (2 : Int32))))))]) (rest := [vi r509]) O ci_12 rfl dL_law_525 ml_L_58 im_yX12_sound se_yX12_sound ini_X12 co_yX12_sound yo_yX12_sound c525 rfl rfl (Nat.le_of_ble_eq_true rfl) ⟨by decide, by decide, c509m, c509n⟩ (okX12_sound hw) (k_I fun r525 h525 hw => ?_)
                        refine g_icmp_eq (tgt := 1408) O dL_law_528 rfl (fun q528 => ?_) (fun q528 => ?_)
                        · have hw := hw.1 q528
                          refine g_iinc (lc' := [some (vr (bs + 1)), some (vr a1), some (vr a2), some (vr a3), some (vi (x4 + (6 : Int32))), none, none]) O dL_law_1408 rfl kv_6 rfl rfl ?_
                          refine g_goto (tgt := 23) O dL_law_1411 rfl ?_
                          exact hB23 _ _ _ _ hw
                        · have hw := hw.2 q528
                          refine g_iconst O dL_law_531 kv_0 ?_
                          exact g_widen c509m c509n (g_zreturn O dL_law_532 (by decide) ⟨rfl, rfl, _, rfl, hw⟩)
                      · have hw := hw.2 (fun q => hx40 (by rw [q]; rfl))
                        rcases ht with ⟨hx40, ht⟩ | ⟨hx40, ht⟩
                        · obtain rfl : t40 = 533 := by have e : (40 : Int) + (493) = (t40 : Int) := ht; omega
                          have hw := hw.1 (Int32.toInt_inj.mp hx40)
                          refine g_aload_n O dL_law_533 rfl ?_
                          refine g_aload_n O dL_law_534 rfl ?_
                          refine g_iload O dL_law_535 rfl ?_
                          refine g_iconst O dL_law_537 kv_1 ?_
                          refine g_iadd O dL_law_538 ?_
                          obtain ⟨c539, hw⟩ := hw
                          refine g_sld hX O dL_law_539 c539 ?_
                          refine g_aload_n O dL_law_540 rfl ?_
                          refine g_iload O dL_law_541 rfl ?_
                          refine g_iconst O dL_law_543 kv_2 ?_
                          refine g_iadd O dL_law_544 ?_
                          obtain ⟨c545, hw⟩ := hw
                          refine g_sld hX O dL_law_545 c545 ?_
                          refine g_aload_n O dL_law_546 rfl ?_
                          refine g_iload O dL_law_547 rfl ?_
                          refine g_iconst O dL_law_549 kv_3 ?_
                          refine g_iadd O dL_law_550 ?_
                          obtain ⟨c551, hw⟩ := hw
                          refine g_sld hX O dL_law_551 c551 ?_
                          obtain ⟨c552m, hw⟩ := hw
                          obtain ⟨c552n, hw⟩ := hw
                          obtain ⟨c552, hw⟩ := hw
                          refine g_callV (As := [vi ((xs (ix ((x4 + (1 : Int32)))))), vi ((xs (ix ((x4 + (2 : Int32)))))), vi ((xs (ix ((x4 + (3 : Int32))))))]) (rest := []) O ci_11 rfl dL_law_552 ml_L_59 im_yX11_glued se_yX11_glued ini_X11 co_yX11_glued yo_yX11_glued c552 rfl rfl (Nat.le_of_ble_eq_true rfl) ⟨by decide, by decide, c552m, c552n⟩ (okX11_glued hw) (k_I fun r552 h552 hw => ?_)
                          refine g_aload_n O dL_law_555 rfl ?_
                          refine g_aload_n O dL_law_556 rfl ?_
                          refine g_iload O dL_law_557 rfl ?_
                          refine g_iconst O dL_law_559 kv_1 ?_
                          refine g_iadd O dL_law_560 ?_
                          refine g_sld hX O dL_law_561 c539 ?_
                          refine g_aload_n O dL_law_562 rfl ?_
                          refine g_iload O dL_law_563 rfl ?_
                          refine g_iconst O dL_law_565 kv_2 ?_
                          refine g_iadd O dL_law_566 ?_
                          refine g_sld hX O dL_law_567 c545 ?_
                          refine g_aload_n O dL_law_568 rfl ?_
                          refine g_iload O dL_law_569 rfl ?_
                          refine g_iconst O dL_law_571 kv_3 ?_
                          refine g_iadd O dL_law_572 ?_
                          refine g_sld hX O dL_law_573 c551 ?_
                          obtain ⟨c574, hw⟩ := hw
                          refine g_callV (As := [vi ((xs (ix ((x4 + (1 : Int32)))))), vi ((xs (ix ((x4 + (2 : Int32)))))), vi ((xs (ix ((x4 + (3 : Int32))))))]) (rest := [vi r552]) O ci_12 rfl dL_law_574 ml_L_62 im_yX12_glued se_yX12_glued ini_X12 co_yX12_glued yo_yX12_glued c574 rfl rfl (Nat.le_of_ble_eq_true rfl) ⟨by decide, by decide, c552m, c552n⟩ (okX12_glued hw) (k_I fun r574 h574 hw => ?_)
                          refine g_icmp_eq (tgt := 1408) O dL_law_577 rfl (fun q577 => ?_) (fun q577 => ?_)
                          · have hw := hw.1 q577
                            refine g_iinc (lc' := [some (vr (bs + 1)), some (vr a1), some (vr a2), some (vr a3), some (vi (x4 + (6 : Int32))), none, none]) O dL_law_1408 rfl kv_6 rfl rfl ?_
                            refine g_goto (tgt := 23) O dL_law_1411 rfl ?_
                            exact hB23 _ _ _ _ hw
                          · have hw := hw.2 q577
                            refine g_iconst O dL_law_580 kv_0 ?_
                            exact g_widen c552m c552n (g_zreturn O dL_law_581 (by decide) ⟨rfl, rfl, _, rfl, hw⟩)
                        · have hw := hw.2 (fun q => hx40 (by rw [q]; rfl))
                          rcases ht with ⟨hx40, ht⟩ | ⟨hx40, ht⟩
                          · obtain rfl : t40 = 582 := by have e : (40 : Int) + (542) = (t40 : Int) := ht; omega
                            have hw := hw.1 (Int32.toInt_inj.mp hx40)
                            refine g_aload_n O dL_law_582 rfl ?_
                            refine g_aload_n O dL_law_583 rfl ?_
                            refine g_iload O dL_law_584 rfl ?_
                            refine g_iconst O dL_law_586 kv_1 ?_
                            refine g_iadd O dL_law_587 ?_
                            obtain ⟨c588, hw⟩ := hw
                            refine g_sld hX O dL_law_588 c588 ?_
                            refine g_aload_n O dL_law_589 rfl ?_
                            refine g_iload O dL_law_590 rfl ?_
                            refine g_iconst O dL_law_592 kv_2 ?_
                            refine g_iadd O dL_law_593 ?_
                            obtain ⟨c594, hw⟩ := hw
                            refine g_sld hX O dL_law_594 c594 ?_
                            refine g_aload_n O dL_law_595 rfl ?_
                            refine g_iload O dL_law_596 rfl ?_
                            refine g_iconst O dL_law_598 kv_3 ?_
                            refine g_iadd O dL_law_599 ?_
                            obtain ⟨c600, hw⟩ := hw
                            refine g_sld hX O dL_law_600 c600 ?_
                            obtain ⟨c601m, hw⟩ := hw
                            obtain ⟨c601n, hw⟩ := hw
                            obtain ⟨c601, hw⟩ := hw
                            refine g_callV (As := [vi ((xs (ix ((x4 + (1 : Int32)))))), vi ((xs (ix ((x4 + (2 : Int32)))))), vi ((xs (ix ((x4 + (3 : Int32))))))]) (rest := []) O ci_11 rfl dL_law_601 ml_L_63 im_yX11_beneath se_yX11_beneath ini_X11 co_yX11_beneath yo_yX11_beneath c601 rfl rfl (Nat.le_of_ble_eq_true rfl) ⟨by decide, by decide, c601m, c601n⟩ (okX11_beneath hw) (k_I fun r601 h601 hw => ?_)
                            refine g_aload_n O dL_law_604 rfl ?_
                            refine g_aload_n O dL_law_605 rfl ?_
                            refine g_iload O dL_law_606 rfl ?_
                            refine g_iconst O dL_law_608 kv_1 ?_
                            refine g_iadd O dL_law_609 ?_
                            refine g_sld hX O dL_law_610 c588 ?_
                            refine g_aload_n O dL_law_611 rfl ?_
                            refine g_iload O dL_law_612 rfl ?_
                            refine g_iconst O dL_law_614 kv_2 ?_
                            refine g_iadd O dL_law_615 ?_
                            refine g_sld hX O dL_law_616 c594 ?_
                            refine g_aload_n O dL_law_617 rfl ?_
                            refine g_iload O dL_law_618 rfl ?_
                            refine g_iconst O dL_law_620 kv_3 ?_
                            refine g_iadd O dL_law_621 ?_
                            refine g_sld hX O dL_law_622 c600 ?_
                            obtain ⟨c623, hw⟩ := hw
                            refine g_callV (As := [vi ((xs (ix ((x4 + (1 : Int32)))))), vi ((xs (ix ((x4 + (2 : Int32)))))), vi ((xs (ix ((x4 + (3 : Int32))))))]) (rest := [vi r601]) O ci_12 rfl dL_law_623 ml_L_66 im_yX12_beneath se_yX12_beneath ini_X12 co_yX12_beneath yo_yX12_beneath c623 rfl rfl (Nat.le_of_ble_eq_true rfl) ⟨by decide, by decide, c601m, c601n⟩ (okX12_beneath hw) (k_I fun r623 h623 hw => ?_)
                            refine g_icmp_eq (tgt := 1408) O dL_law_626 rfl (fun q626 => ?_) (fun q626 => ?_)
                            · have hw := hw.1 q626
                              refine g_iinc (lc' := [some (vr (bs + 1)), some (vr a1), some (vr a2), some (vr a3), some (vi (x4 + (6 : Int32))), none, none]) O dL_law_1408 rfl kv_6 rfl rfl ?_
                              refine g_goto (tgt := 23) O dL_law_1411 rfl ?_
                              exact hB23 _ _ _ _ hw
                            · have hw := hw.2 q626
                              refine g_iconst O dL_law_629 kv_0 ?_
                              exact g_widen c601m c601n (g_zreturn O dL_law_630 (by decide) ⟨rfl, rfl, _, rfl, hw⟩)
                          · have hw := hw.2 (fun q => hx40 (by rw [q]; rfl))
                            rcases ht with ⟨hx40, ht⟩ | ⟨hx40, ht⟩
                            · obtain rfl : t40 = 631 := by have e : (40 : Int) + (591) = (t40 : Int) := ht; omega
                              have hw := hw.1 (Int32.toInt_inj.mp hx40)
                              refine g_aload_n O dL_law_631 rfl ?_
                              refine g_aload_n O dL_law_632 rfl ?_
                              refine g_iload O dL_law_633 rfl ?_
                              refine g_iconst O dL_law_635 kv_1 ?_
                              refine g_iadd O dL_law_636 ?_
                              obtain ⟨c637, hw⟩ := hw
                              refine g_sld hX O dL_law_637 c637 ?_
                              refine g_aload_n O dL_law_638 rfl ?_
                              refine g_iload O dL_law_639 rfl ?_
                              refine g_iconst O dL_law_641 kv_2 ?_
                              refine g_iadd O dL_law_642 ?_
                              obtain ⟨c643, hw⟩ := hw
                              refine g_sld hX O dL_law_643 c643 ?_
                              refine g_aload_n O dL_law_644 rfl ?_
                              refine g_iload O dL_law_645 rfl ?_
                              refine g_iconst O dL_law_647 kv_3 ?_
                              refine g_iadd O dL_law_648 ?_
                              obtain ⟨c649, hw⟩ := hw
                              refine g_sld hX O dL_law_649 c649 ?_
                              refine g_aload_n O dL_law_650 rfl ?_
                              refine g_iload O dL_law_651 rfl ?_
                              refine g_iconst O dL_law_653 kv_4 ?_
                              refine g_iadd O dL_law_654 ?_
                              obtain ⟨c655, hw⟩ := hw
                              refine g_sld hX O dL_law_655 c655 ?_
                              obtain ⟨c656m, hw⟩ := hw
                              obtain ⟨c656n, hw⟩ := hw
                              obtain ⟨c656, hw⟩ := hw
                              refine g_callV (As := [vi ((xs (ix ((x4 + (1 : Int32)))))), vi ((xs (ix ((x4 + (2 : Int32)))))), vi ((xs (ix ((x4 + (3 : Int32)))))), vi ((xs (ix ((x4 + (4 : Int32))))))]) (rest := []) O ci_11 rfl dL_law_656 ml_L_67 im_yX11_can se_yX11_can ini_X11 co_yX11_can yo_yX11_can c656 rfl rfl (Nat.le_of_ble_eq_true rfl) ⟨by decide, by decide, c656m, c656n⟩ (okX11_can hw) (k_I fun r656 h656 hw => ?_)
                              refine g_aload_n O dL_law_659 rfl ?_
                              refine g_aload_n O dL_law_660 rfl ?_
                              refine g_iload O dL_law_661 rfl ?_
                              refine g_iconst O dL_law_663 kv_1 ?_
                              refine g_iadd O dL_law_664 ?_
                              refine g_sld hX O dL_law_665 c637 ?_
                              refine g_aload_n O dL_law_666 rfl ?_
                              refine g_iload O dL_law_667 rfl ?_
                              refine g_iconst O dL_law_669 kv_2 ?_
                              refine g_iadd O dL_law_670 ?_
                              refine g_sld hX O dL_law_671 c643 ?_
                              refine g_aload_n O dL_law_672 rfl ?_
                              refine g_iload O dL_law_673 rfl ?_
                              refine g_iconst O dL_law_675 kv_3 ?_
                              refine g_iadd O dL_law_676 ?_
                              refine g_sld hX O dL_law_677 c649 ?_
                              refine g_aload_n O dL_law_678 rfl ?_
                              refine g_iload O dL_law_679 rfl ?_
                              refine g_iconst O dL_law_681 kv_4 ?_
                              refine g_iadd O dL_law_682 ?_
                              refine g_sld hX O dL_law_683 c655 ?_
                              obtain ⟨c684, hw⟩ := hw
                              refine g_callV (As := [vi ((xs (ix ((x4 + (1 : Int32)))))), vi ((xs (ix ((x4 + (2 : Int32)))))), vi ((xs (ix ((x4 + (3 : Int32)))))), vi ((xs (ix ((x4 + (4 : Int32))))))]) (rest := [vi r656]) O ci_12 rfl dL_law_684 ml_L_71 im_yX12_can se_yX12_can ini_X12 co_yX12_can yo_yX12_can c684 rfl rfl (Nat.le_of_ble_eq_true rfl) ⟨by decide, by decide, c656m, c656n⟩ (okX12_can hw) (k_I fun r684 h684 hw => ?_)
                              refine g_icmp_eq (tgt := 1408) O dL_law_687 rfl (fun q687 => ?_) (fun q687 => ?_)
                              · have hw := hw.1 q687
                                refine g_iinc (lc' := [some (vr (bs + 1)), some (vr a1), some (vr a2), some (vr a3), some (vi (x4 + (6 : Int32))), none, none]) O dL_law_1408 rfl kv_6 rfl rfl ?_
                                refine g_goto (tgt := 23) O dL_law_1411 rfl ?_
                                exact hB23 _ _ _ _ hw
                              · have hw := hw.2 q687
                                refine g_iconst O dL_law_690 kv_0 ?_
                                exact g_widen c656m c656n (g_zreturn O dL_law_691 (by decide) ⟨rfl, rfl, _, rfl, hw⟩)
                            · have hw := hw.2 (fun q => hx40 (by rw [q]; rfl))
                              rcases ht with ⟨hx40, ht⟩ | ⟨hx40, ht⟩
                              · obtain rfl : t40 = 692 := by have e : (40 : Int) + (652) = (t40 : Int) := ht; omega
                                have hw := hw.1 (Int32.toInt_inj.mp hx40)
                                refine g_aload_n O dL_law_692 rfl ?_
                                refine g_aload_n O dL_law_693 rfl ?_
                                refine g_iload O dL_law_694 rfl ?_
                                refine g_iconst O dL_law_696 kv_1 ?_
                                refine g_iadd O dL_law_697 ?_
                                obtain ⟨c698, hw⟩ := hw
                                refine g_sld hX O dL_law_698 c698 ?_
                                refine g_aload_n O dL_law_699 rfl ?_
                                refine g_iload O dL_law_700 rfl ?_
                                refine g_iconst O dL_law_702 kv_2 ?_
                                refine g_iadd O dL_law_703 ?_
                                obtain ⟨c704, hw⟩ := hw
                                refine g_sld hX O dL_law_704 c704 ?_
                                refine g_aload_n O dL_law_705 rfl ?_
                                refine g_iload O dL_law_706 rfl ?_
                                refine g_iconst O dL_law_708 kv_3 ?_
                                refine g_iadd O dL_law_709 ?_
                                obtain ⟨c710, hw⟩ := hw
                                refine g_sld hX O dL_law_710 c710 ?_
                                refine g_aload_n O dL_law_711 rfl ?_
                                refine g_iload O dL_law_712 rfl ?_
                                refine g_iconst O dL_law_714 kv_4 ?_
                                refine g_iadd O dL_law_715 ?_
                                obtain ⟨c716, hw⟩ := hw
                                refine g_sld hX O dL_law_716 c716 ?_
                                obtain ⟨c717m, hw⟩ := hw
                                obtain ⟨c717n, hw⟩ := hw
                                obtain ⟨c717, hw⟩ := hw
                                refine g_callV (As := [vi ((xs (ix ((x4 + (1 : Int32)))))), vi ((xs (ix ((x4 + (2 : Int32)))))), vi ((xs (ix ((x4 + (3 : Int32)))))), vi ((xs (ix ((x4 + (4 : Int32))))))]) (rest := []) O ci_11 rfl dL_law_717 ml_L_72 im_yX11_gives se_yX11_gives ini_X11 co_yX11_gives yo_yX11_gives c717 rfl rfl (Nat.le_of_ble_eq_true rfl) ⟨by decide, by decide, c717m, c717n⟩ (okX11_gives hw) (k_I fun r717 h717 hw => ?_)
                                refine g_aload_n O dL_law_720 rfl ?_
                                refine g_aload_n O dL_law_721 rfl ?_
                                refine g_iload O dL_law_722 rfl ?_
                                refine g_iconst O dL_law_724 kv_1 ?_
                                refine g_iadd O dL_law_725 ?_
                                refine g_sld hX O dL_law_726 c698 ?_
                                refine g_aload_n O dL_law_727 rfl ?_
                                refine g_iload O dL_law_728 rfl ?_
                                refine g_iconst O dL_law_730 kv_2 ?_
                                refine g_iadd O dL_law_731 ?_
                                refine g_sld hX O dL_law_732 c704 ?_
                                refine g_aload_n O dL_law_733 rfl ?_
                                refine g_iload O dL_law_734 rfl ?_
                                refine g_iconst O dL_law_736 kv_3 ?_
                                refine g_iadd O dL_law_737 ?_
                                refine g_sld hX O dL_law_738 c710 ?_
                                refine g_aload_n O dL_law_739 rfl ?_
                                refine g_iload O dL_law_740 rfl ?_
                                refine g_iconst O dL_law_742 kv_4 ?_
                                refine g_iadd O dL_law_743 ?_
                                refine g_sld hX O dL_law_744 c716 ?_
                                obtain ⟨c745, hw⟩ := hw
                                refine g_callV (As := [vi ((xs (ix ((x4 + (1 : Int32)))))), vi ((xs (ix ((x4 + (2 : Int32)))))), vi ((xs (ix ((x4 + (3 : Int32)))))), vi ((xs (ix ((x4 + (4 : Int32))))))]) (rest := [vi r717]) O ci_12 rfl dL_law_745 ml_L_75 im_yX12_gives se_yX12_gives ini_X12 co_yX12_gives yo_yX12_gives c745 rfl rfl (Nat.le_of_ble_eq_true rfl) ⟨by decide, by decide, c717m, c717n⟩ (okX12_gives hw) (k_I fun r745 h745 hw => ?_)
                                refine g_icmp_eq (tgt := 1408) O dL_law_748 rfl (fun q748 => ?_) (fun q748 => ?_)
                                · have hw := hw.1 q748
                                  refine g_iinc (lc' := [some (vr (bs + 1)), some (vr a1), some (vr a2), some (vr a3), some (vi (x4 + (6 : Int32))), none, none]) O dL_law_1408 rfl kv_6 rfl rfl ?_
                                  refine g_goto (tgt := 23) O dL_law_1411 rfl ?_
                                  exact hB23 _ _ _ _ hw
                                · have hw := hw.2 q748
                                  refine g_iconst O dL_law_751 kv_0 ?_
                                  exact g_widen c717m c717n (g_zreturn O dL_law_752 (by decide) ⟨rfl, rfl, _, rfl, hw⟩)
                              · have hw := hw.2 (fun q => hx40 (by rw [q]; rfl))
                                rcases ht with ⟨hx40, ht⟩ | ⟨hx40, ht⟩
                                · obtain rfl : t40 = 753 := by have e : (40 : Int) + (713) = (t40 : Int) := ht; omega
                                  have hw := hw.1 (Int32.toInt_inj.mp hx40)
                                  refine g_aload_n O dL_law_753 rfl ?_
                                  refine g_aload_n O dL_law_754 rfl ?_
                                  refine g_iload O dL_law_755 rfl ?_
                                  refine g_iconst O dL_law_757 kv_1 ?_
                                  refine g_iadd O dL_law_758 ?_
                                  obtain ⟨c759, hw⟩ := hw
                                  refine g_sld hX O dL_law_759 c759 ?_
                                  refine g_aload_n O dL_law_760 rfl ?_
                                  refine g_iload O dL_law_761 rfl ?_
                                  refine g_iconst O dL_law_763 kv_2 ?_
                                  refine g_iadd O dL_law_764 ?_
                                  obtain ⟨c765, hw⟩ := hw
                                  refine g_sld hX O dL_law_765 c765 ?_
                                  obtain ⟨c766m, hw⟩ := hw
                                  obtain ⟨c766n, hw⟩ := hw
                                  obtain ⟨c766, hw⟩ := hw
                                  refine g_callV (As := [vi ((xs (ix ((x4 + (1 : Int32)))))), vi ((xs (ix ((x4 + (2 : Int32))))))]) (rest := []) O ci_11 rfl dL_law_766 ml_L_76 im_yX11_variant se_yX11_variant ini_X11 co_yX11_variant yo_yX11_variant c766 rfl rfl (Nat.le_of_ble_eq_true rfl) ⟨by decide, by decide, c766m, c766n⟩ (okX11_variant hw) (k_I fun r766 h766 hw => ?_)
                                  refine g_aload_n O dL_law_769 rfl ?_
                                  refine g_aload_n O dL_law_770 rfl ?_
                                  refine g_iload O dL_law_771 rfl ?_
                                  refine g_iconst O dL_law_773 kv_1 ?_
                                  refine g_iadd O dL_law_774 ?_
                                  refine g_sld hX O dL_law_775 c759 ?_
                                  refine g_aload_n O dL_law_776 rfl ?_
                                  refine g_iload O dL_law_777 rfl ?_
                                  refine g_iconst O dL_law_779 kv_2 ?_
                                  refine g_iadd O dL_law_780 ?_
                                  refine g_sld hX O dL_law_781 c765 ?_
                                  obtain ⟨c782, hw⟩ := hw
                                  refine g_callV (As := [vi ((xs (ix ((x4 + (1 : Int32)))))), vi ((xs (ix ((x4 + (2 : Int32))))))]) (rest := [vi r766]) O ci_12 rfl dL_law_782 ml_L_79 im_yX12_variant se_yX12_variant ini_X12 co_yX12_variant yo_yX12_variant c782 rfl rfl (Nat.le_of_ble_eq_true rfl) ⟨by decide, by decide, c766m, c766n⟩ (okX12_variant hw) (k_I fun r782 h782 hw => ?_)
                                  refine g_icmp_eq (tgt := 1408) O dL_law_785 rfl (fun q785 => ?_) (fun q785 => ?_)
                                  · have hw := hw.1 q785
                                    refine g_iinc (lc' := [some (vr (bs + 1)), some (vr a1), some (vr a2), some (vr a3), some (vi (x4 + (6 : Int32))), none, none]) O dL_law_1408 rfl kv_6 rfl rfl ?_
                                    refine g_goto (tgt := 23) O dL_law_1411 rfl ?_
                                    exact hB23 _ _ _ _ hw
                                  · have hw := hw.2 q785
                                    refine g_iconst O dL_law_788 kv_0 ?_
                                    exact g_widen c766m c766n (g_zreturn O dL_law_789 (by decide) ⟨rfl, rfl, _, rfl, hw⟩)
                                · have hw := hw.2 (fun q => hx40 (by rw [q]; rfl))
                                  rcases ht with ⟨hx40, ht⟩ | ⟨hx40, ht⟩
                                  · obtain rfl : t40 = 790 := by have e : (40 : Int) + (750) = (t40 : Int) := ht; omega
                                    have hw := hw.1 (Int32.toInt_inj.mp hx40)
                                    refine g_aload_n O dL_law_790 rfl ?_
                                    refine g_aload_n O dL_law_791 rfl ?_
                                    refine g_iload O dL_law_792 rfl ?_
                                    refine g_iconst O dL_law_794 kv_1 ?_
                                    refine g_iadd O dL_law_795 ?_
                                    obtain ⟨c796, hw⟩ := hw
                                    refine g_sld hX O dL_law_796 c796 ?_
                                    refine g_aload_n O dL_law_797 rfl ?_
                                    refine g_iload O dL_law_798 rfl ?_
                                    refine g_iconst O dL_law_800 kv_2 ?_
                                    refine g_iadd O dL_law_801 ?_
                                    obtain ⟨c802, hw⟩ := hw
                                    refine g_sld hX O dL_law_802 c802 ?_
                                    refine g_aload_n O dL_law_803 rfl ?_
                                    refine g_iload O dL_law_804 rfl ?_
                                    refine g_iconst O dL_law_806 kv_3 ?_
                                    refine g_iadd O dL_law_807 ?_
                                    obtain ⟨c808, hw⟩ := hw
                                    refine g_sld hX O dL_law_808 c808 ?_
                                    obtain ⟨c809m, hw⟩ := hw
                                    obtain ⟨c809n, hw⟩ := hw
                                    obtain ⟨c809, hw⟩ := hw
                                    refine g_callV (As := [vi ((xs (ix ((x4 + (1 : Int32)))))), vi ((xs (ix ((x4 + (2 : Int32)))))), vi ((xs (ix ((x4 + (3 : Int32))))))]) (rest := []) O ci_11 rfl dL_law_809 ml_L_80 im_yX11_duty se_yX11_duty ini_X11 co_yX11_duty yo_yX11_duty c809 rfl rfl (Nat.le_of_ble_eq_true rfl) ⟨by decide, by decide, c809m, c809n⟩ (okX11_duty hw) (k_I fun r809 h809 hw => ?_)
                                    refine g_aload_n O dL_law_812 rfl ?_
                                    refine g_aload_n O dL_law_813 rfl ?_
                                    refine g_iload O dL_law_814 rfl ?_
                                    refine g_iconst O dL_law_816 kv_1 ?_
                                    refine g_iadd O dL_law_817 ?_
                                    refine g_sld hX O dL_law_818 c796 ?_
                                    refine g_aload_n O dL_law_819 rfl ?_
                                    refine g_iload O dL_law_820 rfl ?_
                                    refine g_iconst O dL_law_822 kv_2 ?_
                                    refine g_iadd O dL_law_823 ?_
                                    refine g_sld hX O dL_law_824 c802 ?_
                                    refine g_aload_n O dL_law_825 rfl ?_
                                    refine g_iload O dL_law_826 rfl ?_
                                    refine g_iconst O dL_law_828 kv_3 ?_
                                    refine g_iadd O dL_law_829 ?_
                                    refine g_sld hX O dL_law_830 c808 ?_
                                    obtain ⟨c831, hw⟩ := hw
                                    refine g_callV (As := [vi ((xs (ix ((x4 + (1 : Int32)))))), vi ((xs (ix ((x4 + (2 : Int32)))))), vi ((xs (ix ((x4 + (3 : Int32))))))]) (rest := [vi r809]) O ci_12 rfl dL_law_831 ml_L_83 im_yX12_duty se_yX12_duty ini_X12 co_yX12_duty yo_yX12_duty c831 rfl rfl (Nat.le_of_ble_eq_true rfl) ⟨by decide, by decide, c809m, c809n⟩ (okX12_duty hw) (k_I fun r831 h831 hw => ?_)
                                    refine g_icmp_eq (tgt := 1408) O dL_law_834 rfl (fun q834 => ?_) (fun q834 => ?_)
                                    · have hw := hw.1 q834
                                      refine g_iinc (lc' := [some (vr (bs + 1)), some (vr a1), some (vr a2), some (vr a3), some (vi (x4 + (6 : Int32))), none, none]) O dL_law_1408 rfl kv_6 rfl rfl ?_
                                      refine g_goto (tgt := 23) O dL_law_1411 rfl ?_
                                      exact hB23 _ _ _ _ hw
                                    · have hw := hw.2 q834
                                      refine g_iconst O dL_law_837 kv_0 ?_
                                      exact g_widen c809m c809n (g_zreturn O dL_law_838 (by decide) ⟨rfl, rfl, _, rfl, hw⟩)
                                  · have hw := hw.2 (fun q => hx40 (by rw [q]; rfl))
                                    rcases ht with ⟨hx40, ht⟩ | ⟨hx40, ht⟩
                                    · obtain rfl : t40 = 839 := by have e : (40 : Int) + (799) = (t40 : Int) := ht; omega
                                      have hw := hw.1 (Int32.toInt_inj.mp hx40)
                                      refine g_aload_n O dL_law_839 rfl ?_
                                      refine g_aload_n O dL_law_840 rfl ?_
                                      refine g_iload O dL_law_841 rfl ?_
                                      refine g_iconst O dL_law_843 kv_1 ?_
                                      refine g_iadd O dL_law_844 ?_
                                      obtain ⟨c845, hw⟩ := hw
                                      refine g_sld hX O dL_law_845 c845 ?_
                                      obtain ⟨c846m, hw⟩ := hw
                                      obtain ⟨c846n, hw⟩ := hw
                                      obtain ⟨c846, hw⟩ := hw
                                      refine g_callV (As := [vi ((xs (ix ((x4 + (1 : Int32))))))]) (rest := []) O ci_11 rfl dL_law_846 ml_L_84 im_yX11_shown se_yX11_shown ini_X11 co_yX11_shown yo_yX11_shown c846 rfl rfl (Nat.le_of_ble_eq_true rfl) ⟨by decide, by decide, c846m, c846n⟩ (okX11_shown hw) (k_I fun r846 h846 hw => ?_)
                                      refine g_aload_n O dL_law_849 rfl ?_
                                      refine g_aload_n O dL_law_850 rfl ?_
                                      refine g_iload O dL_law_851 rfl ?_
                                      refine g_iconst O dL_law_853 kv_1 ?_
                                      refine g_iadd O dL_law_854 ?_
                                      refine g_sld hX O dL_law_855 c845 ?_
                                      obtain ⟨c856, hw⟩ := hw
                                      refine g_callV (As := [vi ((xs (ix ((x4 + (1 : Int32))))))]) (rest := [vi r846]) O ci_12 rfl dL_law_856 ml_L_87 im_yX12_shown se_yX12_shown ini_X12 co_yX12_shown yo_yX12_shown c856 rfl rfl (Nat.le_of_ble_eq_true rfl) ⟨by decide, by decide, c846m, c846n⟩ (okX12_shown hw) (k_I fun r856 h856 hw => ?_)
                                      refine g_icmp_eq (tgt := 1408) O dL_law_859 rfl (fun q859 => ?_) (fun q859 => ?_)
                                      · have hw := hw.1 q859
                                        refine g_iinc (lc' := [some (vr (bs + 1)), some (vr a1), some (vr a2), some (vr a3), some (vi (x4 + (6 : Int32))), none, none]) O dL_law_1408 rfl kv_6 rfl rfl ?_
                                        refine g_goto (tgt := 23) O dL_law_1411 rfl ?_
                                        exact hB23 _ _ _ _ hw
                                      · have hw := hw.2 q859
                                        refine g_iconst O dL_law_862 kv_0 ?_
                                        exact g_widen c846m c846n (g_zreturn O dL_law_863 (by decide) ⟨rfl, rfl, _, rfl, hw⟩)
                                    · have hw := hw.2 (fun q => hx40 (by rw [q]; rfl))
                                      rcases ht with ⟨hx40, ht⟩ | ⟨hx40, ht⟩
                                      · obtain rfl : t40 = 864 := by have e : (40 : Int) + (824) = (t40 : Int) := ht; omega
                                        have hw := hw.1 (Int32.toInt_inj.mp hx40)
                                        refine g_aload_n O dL_law_864 rfl ?_
                                        refine g_aload_n O dL_law_865 rfl ?_
                                        refine g_iload O dL_law_866 rfl ?_
                                        refine g_iconst O dL_law_868 kv_1 ?_
                                        refine g_iadd O dL_law_869 ?_
                                        obtain ⟨c870, hw⟩ := hw
                                        refine g_sld hX O dL_law_870 c870 ?_
                                        obtain ⟨c871m, hw⟩ := hw
                                        obtain ⟨c871n, hw⟩ := hw
                                        obtain ⟨c871, hw⟩ := hw
                                        refine g_callV (As := [vi ((xs (ix ((x4 + (1 : Int32))))))]) (rest := []) O ci_11 rfl dL_law_871 ml_L_88 im_yX11_open se_yX11_open ini_X11 co_yX11_open yo_yX11_open c871 rfl rfl (Nat.le_of_ble_eq_true rfl) ⟨by decide, by decide, c871m, c871n⟩ (okX11_open hw) (k_I fun r871 h871 hw => ?_)
                                        refine g_aload_n O dL_law_874 rfl ?_
                                        refine g_aload_n O dL_law_875 rfl ?_
                                        refine g_iload O dL_law_876 rfl ?_
                                        refine g_iconst O dL_law_878 kv_1 ?_
                                        refine g_iadd O dL_law_879 ?_
                                        refine g_sld hX O dL_law_880 c870 ?_
                                        obtain ⟨c881, hw⟩ := hw
                                        refine g_callV (As := [vi ((xs (ix ((x4 + (1 : Int32))))))]) (rest := [vi r871]) O ci_12 rfl dL_law_881 ml_L_91 im_yX12_open se_yX12_open ini_X12 co_yX12_open yo_yX12_open c881 rfl rfl (Nat.le_of_ble_eq_true rfl) ⟨by decide, by decide, c871m, c871n⟩ (okX12_open hw) (k_I fun r881 h881 hw => ?_)
                                        refine g_icmp_eq (tgt := 1408) O dL_law_884 rfl (fun q884 => ?_) (fun q884 => ?_)
                                        · have hw := hw.1 q884
                                          refine g_iinc (lc' := [some (vr (bs + 1)), some (vr a1), some (vr a2), some (vr a3), some (vi (x4 + (6 : Int32))), none, none]) O dL_law_1408 rfl kv_6 rfl rfl ?_
                                          refine g_goto (tgt := 23) O dL_law_1411 rfl ?_
                                          exact hB23 _ _ _ _ hw
                                        · have hw := hw.2 q884
                                          refine g_iconst O dL_law_887 kv_0 ?_
                                          exact g_widen c871m c871n (g_zreturn O dL_law_888 (by decide) ⟨rfl, rfl, _, rfl, hw⟩)
                                      · have hw := hw.2 (fun q => hx40 (by rw [q]; rfl))
                                        rcases ht with ⟨hx40, ht⟩ | ⟨hx40, ht⟩
                                        · obtain rfl : t40 = 889 := by have e : (40 : Int) + (849) = (t40 : Int) := ht; omega
                                          have hw := hw.1 (Int32.toInt_inj.mp hx40)
                                          refine g_aload_n O dL_law_889 rfl ?_
                                          refine g_aload_n O dL_law_890 rfl ?_
                                          refine g_iload O dL_law_891 rfl ?_
                                          refine g_iconst O dL_law_893 kv_1 ?_
                                          refine g_iadd O dL_law_894 ?_
                                          obtain ⟨c895, hw⟩ := hw
                                          refine g_sld hX O dL_law_895 c895 ?_
                                          refine g_aload_n O dL_law_896 rfl ?_
                                          refine g_iload O dL_law_897 rfl ?_
                                          refine g_iconst O dL_law_899 kv_2 ?_
                                          refine g_iadd O dL_law_900 ?_
                                          obtain ⟨c901, hw⟩ := hw
                                          refine g_sld hX O dL_law_901 c901 ?_
                                          refine g_aload_n O dL_law_902 rfl ?_
                                          refine g_iload O dL_law_903 rfl ?_
                                          refine g_iconst O dL_law_905 kv_3 ?_
                                          refine g_iadd O dL_law_906 ?_
                                          obtain ⟨c907, hw⟩ := hw
                                          refine g_sld hX O dL_law_907 c907 ?_
                                          obtain ⟨c908m, hw⟩ := hw
                                          obtain ⟨c908n, hw⟩ := hw
                                          obtain ⟨c908, hw⟩ := hw
                                          refine g_callV (As := [vi ((xs (ix ((x4 + (1 : Int32)))))), vi ((xs (ix ((x4 + (2 : Int32)))))), vi ((xs (ix ((x4 + (3 : Int32))))))]) (rest := []) O ci_11 rfl dL_law_908 ml_L_92 im_yX11_cases se_yX11_cases ini_X11 co_yX11_cases yo_yX11_cases c908 rfl rfl (Nat.le_of_ble_eq_true rfl) ⟨by decide, by decide, c908m, c908n⟩ (okX11_cases hw) (k_I fun r908 h908 hw => ?_)
                                          refine g_aload_n O dL_law_911 rfl ?_
                                          refine g_aload_n O dL_law_912 rfl ?_
                                          refine g_iload O dL_law_913 rfl ?_
                                          refine g_iconst O dL_law_915 kv_1 ?_
                                          refine g_iadd O dL_law_916 ?_
                                          refine g_sld hX O dL_law_917 c895 ?_
                                          refine g_aload_n O dL_law_918 rfl ?_
                                          refine g_iload O dL_law_919 rfl ?_
                                          refine g_iconst O dL_law_921 kv_2 ?_
                                          refine g_iadd O dL_law_922 ?_
                                          refine g_sld hX O dL_law_923 c901 ?_
                                          refine g_aload_n O dL_law_924 rfl ?_
                                          refine g_iload O dL_law_925 rfl ?_
                                          refine g_iconst O dL_law_927 kv_3 ?_
                                          refine g_iadd O dL_law_928 ?_
                                          refine g_sld hX O dL_law_929 c907 ?_
                                          obtain ⟨c930, hw⟩ := hw
                                          refine g_callV (As := [vi ((xs (ix ((x4 + (1 : Int32)))))), vi ((xs (ix ((x4 + (2 : Int32)))))), vi ((xs (ix ((x4 + (3 : Int32))))))]) (rest := [vi r908]) O ci_12 rfl dL_law_930 ml_L_95 im_yX12_cases se_yX12_cases ini_X12 co_yX12_cases yo_yX12_cases c930 rfl rfl (Nat.le_of_ble_eq_true rfl) ⟨by decide, by decide, c908m, c908n⟩ (okX12_cases hw) (k_I fun r930 h930 hw => ?_)
                                          refine g_icmp_eq (tgt := 1408) O dL_law_933 rfl (fun q933 => ?_) (fun q933 => ?_)
                                          · have hw := hw.1 q933
                                            refine g_iinc (lc' := [some (vr (bs + 1)), some (vr a1), some (vr a2), some (vr a3), some (vi (x4 + (6 : Int32))), none, none]) O dL_law_1408 rfl kv_6 rfl rfl ?_
                                            refine g_goto (tgt := 23) O dL_law_1411 rfl ?_
                                            exact hB23 _ _ _ _ hw
                                          · have hw := hw.2 q933
                                            refine g_iconst O dL_law_936 kv_0 ?_
                                            exact g_widen c908m c908n (g_zreturn O dL_law_937 (by decide) ⟨rfl, rfl, _, rfl, hw⟩)
                                        · have hw := hw.2 (fun q => hx40 (by rw [q]; rfl))
                                          rcases ht with ⟨hx40, ht⟩ | ⟨hx40, ht⟩
                                          · obtain rfl : t40 = 938 := by have e : (40 : Int) + (898) = (t40 : Int) := ht; omega
                                            have hw := hw.1 (Int32.toInt_inj.mp hx40)
                                            refine g_aload_n O dL_law_938 rfl ?_
                                            obtain ⟨c939m, hw⟩ := hw
                                            obtain ⟨c939n, hw⟩ := hw
                                            obtain ⟨c939, hw⟩ := hw
                                            refine g_callV (As := []) (rest := []) O ci_11 rfl dL_law_939 ml_L_96 im_yX11_write se_yX11_write ini_X11 co_yX11_write yo_yX11_write c939 rfl rfl (Nat.le_of_ble_eq_true rfl) ⟨by decide, by decide, c939m, c939n⟩ (okX11_write hw) (k_I fun r939 h939 hw => ?_)
                                            refine g_aload_n O dL_law_942 rfl ?_
                                            obtain ⟨c943, hw⟩ := hw
                                            refine g_callV (As := []) (rest := [vi r939]) O ci_12 rfl dL_law_943 ml_L_99 im_yX12_write se_yX12_write ini_X12 co_yX12_write yo_yX12_write c943 rfl rfl (Nat.le_of_ble_eq_true rfl) ⟨by decide, by decide, c939m, c939n⟩ (okX12_write hw) (k_I fun r943 h943 hw => ?_)
                                            refine g_icmp_eq (tgt := 1408) O dL_law_946 rfl (fun q946 => ?_) (fun q946 => ?_)
                                            · have hw := hw.1 q946
                                              refine g_iinc (lc' := [some (vr (bs + 1)), some (vr a1), some (vr a2), some (vr a3), some (vi (x4 + (6 : Int32))), none, none]) O dL_law_1408 rfl kv_6 rfl rfl ?_
                                              refine g_goto (tgt := 23) O dL_law_1411 rfl ?_
                                              exact hB23 _ _ _ _ hw
                                            · have hw := hw.2 q946
                                              refine g_iconst O dL_law_949 kv_0 ?_
                                              exact g_widen c939m c939n (g_zreturn O dL_law_950 (by decide) ⟨rfl, rfl, _, rfl, hw⟩)
                                          · have hw := hw.2 (fun q => hx40 (by rw [q]; rfl))
                                            rcases ht with ⟨hx40, ht⟩ | ⟨hx40, ht⟩
                                            · obtain rfl : t40 = 951 := by have e : (40 : Int) + (911) = (t40 : Int) := ht; omega
                                              have hw := hw.1 (Int32.toInt_inj.mp hx40)
                                              refine g_aload_n O dL_law_951 rfl ?_
                                              refine g_aload_n O dL_law_952 rfl ?_
                                              refine g_iload O dL_law_953 rfl ?_
                                              refine g_iconst O dL_law_955 kv_1 ?_
                                              refine g_iadd O dL_law_956 ?_
                                              obtain ⟨c957, hw⟩ := hw
                                              refine g_sld hX O dL_law_957 c957 ?_
                                              obtain ⟨c958m, hw⟩ := hw
                                              obtain ⟨c958n, hw⟩ := hw
                                              obtain ⟨c958, hw⟩ := hw
                                              refine g_callV (As := [vi ((xs (ix ((x4 + (1 : Int32))))))]) (rest := []) O ci_11 rfl dL_law_958 ml_L_100 im_yX11_octet se_yX11_octet ini_X11 co_yX11_octet yo_yX11_octet c958 rfl rfl (Nat.le_of_ble_eq_true rfl) ⟨by decide, by decide, c958m, c958n⟩ (okX11_octet hw) (k_I fun r958 h958 hw => ?_)
                                              refine g_aload_n O dL_law_961 rfl ?_
                                              refine g_aload_n O dL_law_962 rfl ?_
                                              refine g_iload O dL_law_963 rfl ?_
                                              refine g_iconst O dL_law_965 kv_1 ?_
                                              refine g_iadd O dL_law_966 ?_
                                              refine g_sld hX O dL_law_967 c957 ?_
                                              obtain ⟨c968, hw⟩ := hw
                                              refine g_callV (As := [vi ((xs (ix ((x4 + (1 : Int32))))))]) (rest := [vi r958]) O ci_12 rfl dL_law_968 ml_L_103 im_yX12_octet se_yX12_octet ini_X12 co_yX12_octet yo_yX12_octet c968 rfl rfl (Nat.le_of_ble_eq_true rfl) ⟨by decide, by decide, c958m, c958n⟩ (okX12_octet hw) (k_I fun r968 h968 hw => ?_)
                                              refine g_icmp_eq (tgt := 1408) O dL_law_971 rfl (fun q971 => ?_) (fun q971 => ?_)
                                              · have hw := hw.1 q971
                                                refine g_iinc (lc' := [some (vr (bs + 1)), some (vr a1), some (vr a2), some (vr a3), some (vi (x4 + (6 : Int32))), none, none]) O dL_law_1408 rfl kv_6 rfl rfl ?_
                                                refine g_goto (tgt := 23) O dL_law_1411 rfl ?_
                                                exact hB23 _ _ _ _ hw
                                              · have hw := hw.2 q971
                                                refine g_iconst O dL_law_974 kv_0 ?_
                                                exact g_widen c958m c958n (g_zreturn O dL_law_975 (by decide) ⟨rfl, rfl, _, rfl, hw⟩)
                                            · have hw := hw.2 (fun q => hx40 (by rw [q]; rfl))
                                              rcases ht with ⟨hx40, ht⟩ | ⟨hx40, ht⟩
                                              · obtain rfl : t40 = 976 := by have e : (40 : Int) + (936) = (t40 : Int) := ht; omega
                                                have hw := hw.1 (Int32.toInt_inj.mp hx40)
                                                refine g_aload_n O dL_law_976 rfl ?_
                                                refine g_aload_n O dL_law_977 rfl ?_
                                                refine g_iload O dL_law_978 rfl ?_
                                                refine g_iconst O dL_law_980 kv_1 ?_
                                                refine g_iadd O dL_law_981 ?_
                                                obtain ⟨c982, hw⟩ := hw
                                                refine g_sld hX O dL_law_982 c982 ?_
                                                obtain ⟨c983m, hw⟩ := hw
                                                obtain ⟨c983n, hw⟩ := hw
                                                obtain ⟨c983, hw⟩ := hw
                                                refine g_callV (As := [vi ((xs (ix ((x4 + (1 : Int32))))))]) (rest := []) O ci_11 rfl dL_law_983 ml_L_104 im_yX11_run se_yX11_run ini_X11 co_yX11_run yo_yX11_run c983 rfl rfl (Nat.le_of_ble_eq_true rfl) ⟨by decide, by decide, c983m, c983n⟩ (okX11_run hw) (k_I fun r983 h983 hw => ?_)
                                                refine g_aload_n O dL_law_986 rfl ?_
                                                refine g_aload_n O dL_law_987 rfl ?_
                                                refine g_iload O dL_law_988 rfl ?_
                                                refine g_iconst O dL_law_990 kv_1 ?_
                                                refine g_iadd O dL_law_991 ?_
                                                refine g_sld hX O dL_law_992 c982 ?_
                                                obtain ⟨c993, hw⟩ := hw
                                                refine g_callV (As := [vi ((xs (ix ((x4 + (1 : Int32))))))]) (rest := [vi r983]) O ci_12 rfl dL_law_993 ml_L_107 im_yX12_run se_yX12_run ini_X12 co_yX12_run yo_yX12_run c993 rfl rfl (Nat.le_of_ble_eq_true rfl) ⟨by decide, by decide, c983m, c983n⟩ (okX12_run hw) (k_I fun r993 h993 hw => ?_)
                                                refine g_icmp_eq (tgt := 1408) O dL_law_996 rfl (fun q996 => ?_) (fun q996 => ?_)
                                                · have hw := hw.1 q996
                                                  refine g_iinc (lc' := [some (vr (bs + 1)), some (vr a1), some (vr a2), some (vr a3), some (vi (x4 + (6 : Int32))), none, none]) O dL_law_1408 rfl kv_6 rfl rfl ?_
                                                  refine g_goto (tgt := 23) O dL_law_1411 rfl ?_
                                                  exact hB23 _ _ _ _ hw
                                                · have hw := hw.2 q996
                                                  refine g_iconst O dL_law_999 kv_0 ?_
                                                  exact g_widen c983m c983n (g_zreturn O dL_law_1000 (by decide) ⟨rfl, rfl, _, rfl, hw⟩)
                                              · have hw := hw.2 (fun q => hx40 (by rw [q]; rfl))
                                                rcases ht with ⟨hx40, ht⟩ | ⟨hx40, ht⟩
                                                · obtain rfl : t40 = 1001 := by have e : (40 : Int) + (961) = (t40 : Int) := ht; omega
                                                  have hw := hw.1 (Int32.toInt_inj.mp hx40)
                                                  refine g_aload_n O dL_law_1001 rfl ?_
                                                  refine g_aload_n O dL_law_1002 rfl ?_
                                                  refine g_iload O dL_law_1003 rfl ?_
                                                  refine g_iconst O dL_law_1005 kv_1 ?_
                                                  refine g_iadd O dL_law_1006 ?_
                                                  obtain ⟨c1007, hw⟩ := hw
                                                  refine g_sld hX O dL_law_1007 c1007 ?_
                                                  refine g_aload_n O dL_law_1008 rfl ?_
                                                  refine g_iload O dL_law_1009 rfl ?_
                                                  refine g_iconst O dL_law_1011 kv_2 ?_
                                                  refine g_iadd O dL_law_1012 ?_
                                                  obtain ⟨c1013, hw⟩ := hw
                                                  refine g_sld hX O dL_law_1013 c1013 ?_
                                                  obtain ⟨c1014m, hw⟩ := hw
                                                  obtain ⟨c1014n, hw⟩ := hw
                                                  obtain ⟨c1014, hw⟩ := hw
                                                  refine g_callV (As := [vi ((xs (ix ((x4 + (1 : Int32)))))), vi ((xs (ix ((x4 + (2 : Int32))))))]) (rest := []) O ci_11 rfl dL_law_1014 ml_L_108 im_yX11_step se_yX11_step ini_X11 co_yX11_step yo_yX11_step c1014 rfl rfl (Nat.le_of_ble_eq_true rfl) ⟨by decide, by decide, c1014m, c1014n⟩ (okX11_step hw) (k_I fun r1014 h1014 hw => ?_)
                                                  refine g_aload_n O dL_law_1017 rfl ?_
                                                  refine g_aload_n O dL_law_1018 rfl ?_
                                                  refine g_iload O dL_law_1019 rfl ?_
                                                  refine g_iconst O dL_law_1021 kv_1 ?_
                                                  refine g_iadd O dL_law_1022 ?_
                                                  refine g_sld hX O dL_law_1023 c1007 ?_
                                                  refine g_aload_n O dL_law_1024 rfl ?_
                                                  refine g_iload O dL_law_1025 rfl ?_
                                                  refine g_iconst O dL_law_1027 kv_2 ?_
                                                  refine g_iadd O dL_law_1028 ?_
                                                  refine g_sld hX O dL_law_1029 c1013 ?_
                                                  obtain ⟨c1030, hw⟩ := hw
                                                  refine g_callV (As := [vi ((xs (ix ((x4 + (1 : Int32)))))), vi ((xs (ix ((x4 + (2 : Int32))))))]) (rest := [vi r1014]) O ci_12 rfl dL_law_1030 ml_L_111 im_yX12_step se_yX12_step ini_X12 co_yX12_step yo_yX12_step c1030 rfl rfl (Nat.le_of_ble_eq_true rfl) ⟨by decide, by decide, c1014m, c1014n⟩ (okX12_step hw) (k_I fun r1030 h1030 hw => ?_)
                                                  refine g_icmp_eq (tgt := 1408) O dL_law_1033 rfl (fun q1033 => ?_) (fun q1033 => ?_)
                                                  · have hw := hw.1 q1033
                                                    refine g_iinc (lc' := [some (vr (bs + 1)), some (vr a1), some (vr a2), some (vr a3), some (vi (x4 + (6 : Int32))), none, none]) O dL_law_1408 rfl kv_6 rfl rfl ?_
                                                    refine g_goto (tgt := 23) O dL_law_1411 rfl ?_
                                                    exact hB23 _ _ _ _ hw
                                                  · have hw := hw.2 q1033
                                                    refine g_iconst O dL_law_1036 kv_0 ?_
                                                    exact g_widen c1014m c1014n (g_zreturn O dL_law_1037 (by decide) ⟨rfl, rfl, _, rfl, hw⟩)
                                                · have hw := hw.2 (fun q => hx40 (by rw [q]; rfl))
                                                  rcases ht with ⟨hx40, ht⟩ | ⟨hx40, ht⟩
                                                  · obtain rfl : t40 = 1038 := by have e : (40 : Int) + (998) = (t40 : Int) := ht; omega
                                                    have hw := hw.1 (Int32.toInt_inj.mp hx40)
                                                    refine g_aload_n O dL_law_1038 rfl ?_
                                                    refine g_aload_n O dL_law_1039 rfl ?_
                                                    refine g_iload O dL_law_1040 rfl ?_
                                                    refine g_iconst O dL_law_1042 kv_1 ?_
                                                    refine g_iadd O dL_law_1043 ?_
                                                    obtain ⟨c1044, hw⟩ := hw
                                                    refine g_sld hX O dL_law_1044 c1044 ?_
                                                    obtain ⟨c1045m, hw⟩ := hw
                                                    obtain ⟨c1045n, hw⟩ := hw
                                                    obtain ⟨c1045, hw⟩ := hw
                                                    refine g_callV (As := [vi ((xs (ix ((x4 + (1 : Int32))))))]) (rest := []) O ci_11 rfl dL_law_1045 ml_L_112 im_yX11_now se_yX11_now ini_X11 co_yX11_now yo_yX11_now c1045 rfl rfl (Nat.le_of_ble_eq_true rfl) ⟨by decide, by decide, c1045m, c1045n⟩ (okX11_now hw) (k_I fun r1045 h1045 hw => ?_)
                                                    refine g_aload_n O dL_law_1048 rfl ?_
                                                    refine g_aload_n O dL_law_1049 rfl ?_
                                                    refine g_iload O dL_law_1050 rfl ?_
                                                    refine g_iconst O dL_law_1052 kv_1 ?_
                                                    refine g_iadd O dL_law_1053 ?_
                                                    refine g_sld hX O dL_law_1054 c1044 ?_
                                                    obtain ⟨c1055, hw⟩ := hw
                                                    refine g_callV (As := [vi ((xs (ix ((x4 + (1 : Int32))))))]) (rest := [vi r1045]) O ci_12 rfl dL_law_1055 ml_L_115 im_yX12_now se_yX12_now ini_X12 co_yX12_now yo_yX12_now c1055 rfl rfl (Nat.le_of_ble_eq_true rfl) ⟨by decide, by decide, c1045m, c1045n⟩ (okX12_now hw) (k_I fun r1055 h1055 hw => ?_)
                                                    refine g_icmp_eq (tgt := 1408) O dL_law_1058 rfl (fun q1058 => ?_) (fun q1058 => ?_)
                                                    · have hw := hw.1 q1058
                                                      refine g_iinc (lc' := [some (vr (bs + 1)), some (vr a1), some (vr a2), some (vr a3), some (vi (x4 + (6 : Int32))), none, none]) O dL_law_1408 rfl kv_6 rfl rfl ?_
                                                      refine g_goto (tgt := 23) O dL_law_1411 rfl ?_
                                                      exact hB23 _ _ _ _ hw
                                                    · have hw := hw.2 q1058
                                                      refine g_iconst O dL_law_1061 kv_0 ?_
                                                      exact g_widen c1045m c1045n (g_zreturn O dL_law_1062 (by decide) ⟨rfl, rfl, _, rfl, hw⟩)
                                                  · have hw := hw.2 (fun q => hx40 (by rw [q]; rfl))
                                                    rcases ht with ⟨hx40, ht⟩ | ⟨hx40, ht⟩
                                                    · obtain rfl : t40 = 1063 := by have e : (40 : Int) + (1023) = (t40 : Int) := ht; omega
                                                      have hw := hw.1 (Int32.toInt_inj.mp hx40)
                                                      refine g_aload_n O dL_law_1063 rfl ?_
                                                      refine g_aload_n O dL_law_1064 rfl ?_
                                                      refine g_iload O dL_law_1065 rfl ?_
                                                      refine g_iconst O dL_law_1067 kv_1 ?_
                                                      refine g_iadd O dL_law_1068 ?_
                                                      obtain ⟨c1069, hw⟩ := hw
                                                      refine g_sld hX O dL_law_1069 c1069 ?_
                                                      obtain ⟨c1070m, hw⟩ := hw
                                                      obtain ⟨c1070n, hw⟩ := hw
                                                      obtain ⟨c1070, hw⟩ := hw
                                                      refine g_callV (As := [vi ((xs (ix ((x4 + (1 : Int32))))))]) (rest := []) O ci_11 rfl dL_law_1070 ml_L_116 im_yX11_beside se_yX11_beside ini_X11 co_yX11_beside yo_yX11_beside c1070 rfl rfl (Nat.le_of_ble_eq_true rfl) ⟨by decide, by decide, c1070m, c1070n⟩ (okX11_beside hw) (k_I fun r1070 h1070 hw => ?_)
                                                      refine g_aload_n O dL_law_1073 rfl ?_
                                                      refine g_aload_n O dL_law_1074 rfl ?_
                                                      refine g_iload O dL_law_1075 rfl ?_
                                                      refine g_iconst O dL_law_1077 kv_1 ?_
                                                      refine g_iadd O dL_law_1078 ?_
                                                      refine g_sld hX O dL_law_1079 c1069 ?_
                                                      obtain ⟨c1080, hw⟩ := hw
                                                      refine g_callV (As := [vi ((xs (ix ((x4 + (1 : Int32))))))]) (rest := [vi r1070]) O ci_12 rfl dL_law_1080 ml_L_119 im_yX12_beside se_yX12_beside ini_X12 co_yX12_beside yo_yX12_beside c1080 rfl rfl (Nat.le_of_ble_eq_true rfl) ⟨by decide, by decide, c1070m, c1070n⟩ (okX12_beside hw) (k_I fun r1080 h1080 hw => ?_)
                                                      refine g_icmp_eq (tgt := 1408) O dL_law_1083 rfl (fun q1083 => ?_) (fun q1083 => ?_)
                                                      · have hw := hw.1 q1083
                                                        refine g_iinc (lc' := [some (vr (bs + 1)), some (vr a1), some (vr a2), some (vr a3), some (vi (x4 + (6 : Int32))), none, none]) O dL_law_1408 rfl kv_6 rfl rfl ?_
                                                        refine g_goto (tgt := 23) O dL_law_1411 rfl ?_
                                                        exact hB23 _ _ _ _ hw
                                                      · have hw := hw.2 q1083
                                                        refine g_iconst O dL_law_1086 kv_0 ?_
                                                        exact g_widen c1070m c1070n (g_zreturn O dL_law_1087 (by decide) ⟨rfl, rfl, _, rfl, hw⟩)
                                                    · have hw := hw.2 (fun q => hx40 (by rw [q]; rfl))
                                                      rcases ht with ⟨hx40, ht⟩ | ⟨hx40, ht⟩
                                                      · obtain rfl : t40 = 1088 := by have e : (40 : Int) + (1048) = (t40 : Int) := ht; omega
                                                        have hw := hw.1 (Int32.toInt_inj.mp hx40)
                                                        refine g_aload_n O dL_law_1088 rfl ?_
                                                        refine g_aload_n O dL_law_1089 rfl ?_
                                                        refine g_iload O dL_law_1090 rfl ?_
                                                        refine g_iconst O dL_law_1092 kv_1 ?_
                                                        refine g_iadd O dL_law_1093 ?_
                                                        obtain ⟨c1094, hw⟩ := hw
                                                        refine g_sld hX O dL_law_1094 c1094 ?_
                                                        refine g_aload_n O dL_law_1095 rfl ?_
                                                        refine g_iload O dL_law_1096 rfl ?_
                                                        refine g_iconst O dL_law_1098 kv_2 ?_
                                                        refine g_iadd O dL_law_1099 ?_
                                                        obtain ⟨c1100, hw⟩ := hw
                                                        refine g_sld hX O dL_law_1100 c1100 ?_
                                                        obtain ⟨c1101m, hw⟩ := hw
                                                        obtain ⟨c1101n, hw⟩ := hw
                                                        obtain ⟨c1101, hw⟩ := hw
                                                        refine g_callV (As := [vi ((xs (ix ((x4 + (1 : Int32)))))), vi ((xs (ix ((x4 + (2 : Int32))))))]) (rest := []) O ci_11 rfl dL_law_1101 ml_L_120 im_yX11_draws se_yX11_draws ini_X11 co_yX11_draws yo_yX11_draws c1101 rfl rfl (Nat.le_of_ble_eq_true rfl) ⟨by decide, by decide, c1101m, c1101n⟩ (okX11_draws hw) (k_I fun r1101 h1101 hw => ?_)
                                                        refine g_aload_n O dL_law_1104 rfl ?_
                                                        refine g_aload_n O dL_law_1105 rfl ?_
                                                        refine g_iload O dL_law_1106 rfl ?_
                                                        refine g_iconst O dL_law_1108 kv_1 ?_
                                                        refine g_iadd O dL_law_1109 ?_
                                                        refine g_sld hX O dL_law_1110 c1094 ?_
                                                        refine g_aload_n O dL_law_1111 rfl ?_
                                                        refine g_iload O dL_law_1112 rfl ?_
                                                        refine g_iconst O dL_law_1114 kv_2 ?_
                                                        refine g_iadd O dL_law_1115 ?_
                                                        refine g_sld hX O dL_law_1116 c1100 ?_
                                                        obtain ⟨c1117, hw⟩ := hw
                                                        refine g_callV (As := [vi ((xs (ix ((x4 + (1 : Int32)))))), vi ((xs (ix ((x4 + (2 : Int32))))))]) (rest := [vi r1101]) O ci_12 rfl dL_law_1117 ml_L_123 im_yX12_draws se_yX12_draws ini_X12 co_yX12_draws yo_yX12_draws c1117 rfl rfl (Nat.le_of_ble_eq_true rfl) ⟨by decide, by decide, c1101m, c1101n⟩ (okX12_draws hw) (k_I fun r1117 h1117 hw => ?_)
                                                        refine g_icmp_eq (tgt := 1408) O dL_law_1120 rfl (fun q1120 => ?_) (fun q1120 => ?_)
                                                        · have hw := hw.1 q1120
                                                          refine g_iinc (lc' := [some (vr (bs + 1)), some (vr a1), some (vr a2), some (vr a3), some (vi (x4 + (6 : Int32))), none, none]) O dL_law_1408 rfl kv_6 rfl rfl ?_
                                                          refine g_goto (tgt := 23) O dL_law_1411 rfl ?_
                                                          exact hB23 _ _ _ _ hw
                                                        · have hw := hw.2 q1120
                                                          refine g_iconst O dL_law_1123 kv_0 ?_
                                                          exact g_widen c1101m c1101n (g_zreturn O dL_law_1124 (by decide) ⟨rfl, rfl, _, rfl, hw⟩)
                                                      · have hw := hw.2 (fun q => hx40 (by rw [q]; rfl))
                                                        rcases ht with ⟨hx40, ht⟩ | ⟨hx40, ht⟩
                                                        · obtain rfl : t40 = 1125 := by have e : (40 : Int) + (1085) = (t40 : Int) := ht; omega
                                                          have hw := hw.1 (Int32.toInt_inj.mp hx40)
                                                          refine g_aload_n O dL_law_1125 rfl ?_
                                                          refine g_aload_n O dL_law_1126 rfl ?_
                                                          refine g_iload O dL_law_1127 rfl ?_
                                                          refine g_iconst O dL_law_1129 kv_1 ?_
                                                          refine g_iadd O dL_law_1130 ?_
                                                          obtain ⟨c1131, hw⟩ := hw
                                                          refine g_sld hX O dL_law_1131 c1131 ?_
                                                          obtain ⟨c1132m, hw⟩ := hw
                                                          obtain ⟨c1132n, hw⟩ := hw
                                                          obtain ⟨c1132, hw⟩ := hw
                                                          refine g_callV (As := [vi ((xs (ix ((x4 + (1 : Int32))))))]) (rest := []) O ci_11 rfl dL_law_1132 ml_L_124 im_yX11_reach se_yX11_reach ini_X11 co_yX11_reach yo_yX11_reach c1132 rfl rfl (Nat.le_of_ble_eq_true rfl) ⟨by decide, by decide, c1132m, c1132n⟩ (okX11_reach hw) (k_I fun r1132 h1132 hw => ?_)
                                                          refine g_aload_n O dL_law_1135 rfl ?_
                                                          refine g_aload_n O dL_law_1136 rfl ?_
                                                          refine g_iload O dL_law_1137 rfl ?_
                                                          refine g_iconst O dL_law_1139 kv_1 ?_
                                                          refine g_iadd O dL_law_1140 ?_
                                                          refine g_sld hX O dL_law_1141 c1131 ?_
                                                          obtain ⟨c1142, hw⟩ := hw
                                                          refine g_callV (As := [vi ((xs (ix ((x4 + (1 : Int32))))))]) (rest := [vi r1132]) O ci_12 rfl dL_law_1142 ml_L_127 im_yX12_reach se_yX12_reach ini_X12 co_yX12_reach yo_yX12_reach c1142 rfl rfl (Nat.le_of_ble_eq_true rfl) ⟨by decide, by decide, c1132m, c1132n⟩ (okX12_reach hw) (k_I fun r1142 h1142 hw => ?_)
                                                          refine g_icmp_eq (tgt := 1408) O dL_law_1145 rfl (fun q1145 => ?_) (fun q1145 => ?_)
                                                          · have hw := hw.1 q1145
                                                            refine g_iinc (lc' := [some (vr (bs + 1)), some (vr a1), some (vr a2), some (vr a3), some (vi (x4 + (6 : Int32))), none, none]) O dL_law_1408 rfl kv_6 rfl rfl ?_
                                                            refine g_goto (tgt := 23) O dL_law_1411 rfl ?_
                                                            exact hB23 _ _ _ _ hw
                                                          · have hw := hw.2 q1145
                                                            refine g_iconst O dL_law_1148 kv_0 ?_
                                                            exact g_widen c1132m c1132n (g_zreturn O dL_law_1149 (by decide) ⟨rfl, rfl, _, rfl, hw⟩)
                                                        · have hw := hw.2 (fun q => hx40 (by rw [q]; rfl))
                                                          rcases ht with ⟨hx40, ht⟩ | ⟨hx40, ht⟩
                                                          · obtain rfl : t40 = 1150 := by have e : (40 : Int) + (1110) = (t40 : Int) := ht; omega
                                                            have hw := hw.1 (Int32.toInt_inj.mp hx40)
                                                            refine g_aload_n O dL_law_1150 rfl ?_
                                                            refine g_aload_n O dL_law_1151 rfl ?_
                                                            refine g_iload O dL_law_1152 rfl ?_
                                                            refine g_iconst O dL_law_1154 kv_1 ?_
                                                            refine g_iadd O dL_law_1155 ?_
                                                            obtain ⟨c1156, hw⟩ := hw
                                                            refine g_sld hX O dL_law_1156 c1156 ?_
                                                            refine g_aload_n O dL_law_1157 rfl ?_
                                                            refine g_iload O dL_law_1158 rfl ?_
                                                            refine g_iconst O dL_law_1160 kv_2 ?_
                                                            refine g_iadd O dL_law_1161 ?_
                                                            obtain ⟨c1162, hw⟩ := hw
                                                            refine g_sld hX O dL_law_1162 c1162 ?_
                                                            obtain ⟨c1163m, hw⟩ := hw
                                                            obtain ⟨c1163n, hw⟩ := hw
                                                            obtain ⟨c1163, hw⟩ := hw
                                                            refine g_callV (As := [vi ((xs (ix ((x4 + (1 : Int32)))))), vi ((xs (ix ((x4 + (2 : Int32))))))]) (rest := []) O ci_11 rfl dL_law_1163 ml_L_128 im_yX11_steps se_yX11_steps ini_X11 co_yX11_steps yo_yX11_steps c1163 rfl rfl (Nat.le_of_ble_eq_true rfl) ⟨by decide, by decide, c1163m, c1163n⟩ (okX11_steps hw) (k_I fun r1163 h1163 hw => ?_)
                                                            refine g_aload_n O dL_law_1166 rfl ?_
                                                            refine g_aload_n O dL_law_1167 rfl ?_
                                                            refine g_iload O dL_law_1168 rfl ?_
                                                            refine g_iconst O dL_law_1170 kv_1 ?_
                                                            refine g_iadd O dL_law_1171 ?_
                                                            refine g_sld hX O dL_law_1172 c1156 ?_
                                                            refine g_aload_n O dL_law_1173 rfl ?_
                                                            refine g_iload O dL_law_1174 rfl ?_
                                                            refine g_iconst O dL_law_1176 kv_2 ?_
                                                            refine g_iadd O dL_law_1177 ?_
                                                            refine g_sld hX O dL_law_1178 c1162 ?_
                                                            obtain ⟨c1179, hw⟩ := hw
                                                            refine g_callV (As := [vi ((xs (ix ((x4 + (1 : Int32)))))), vi ((xs (ix ((x4 + (2 : Int32))))))]) (rest := [vi r1163]) O ci_12 rfl dL_law_1179 ml_L_131 im_yX12_steps se_yX12_steps ini_X12 co_yX12_steps yo_yX12_steps c1179 rfl rfl (Nat.le_of_ble_eq_true rfl) ⟨by decide, by decide, c1163m, c1163n⟩ (okX12_steps hw) (k_I fun r1179 h1179 hw => ?_)
                                                            refine g_icmp_eq (tgt := 1408) O dL_law_1182 rfl (fun q1182 => ?_) (fun q1182 => ?_)
                                                            · have hw := hw.1 q1182
                                                              refine g_iinc (lc' := [some (vr (bs + 1)), some (vr a1), some (vr a2), some (vr a3), some (vi (x4 + (6 : Int32))), none, none]) O dL_law_1408 rfl kv_6 rfl rfl ?_
                                                              refine g_goto (tgt := 23) O dL_law_1411 rfl ?_
                                                              exact hB23 _ _ _ _ hw
                                                            · have hw := hw.2 q1182
                                                              refine g_iconst O dL_law_1185 kv_0 ?_
                                                              exact g_widen c1163m c1163n (g_zreturn O dL_law_1186 (by decide) ⟨rfl, rfl, _, rfl, hw⟩)
                                                          · have hw := hw.2 (fun q => hx40 (by rw [q]; rfl))
                                                            rcases ht with ⟨hx40, ht⟩ | ⟨hx40, ht⟩
                                                            · obtain rfl : t40 = 1187 := by have e : (40 : Int) + (1147) = (t40 : Int) := ht; omega
                                                              have hw := hw.1 (Int32.toInt_inj.mp hx40)
                                                              refine g_aload_n O dL_law_1187 rfl ?_
                                                              refine g_aload_n O dL_law_1188 rfl ?_
                                                              refine g_iload O dL_law_1189 rfl ?_
                                                              refine g_iconst O dL_law_1191 kv_1 ?_
                                                              refine g_iadd O dL_law_1192 ?_
                                                              obtain ⟨c1193, hw⟩ := hw
                                                              refine g_sld hX O dL_law_1193 c1193 ?_
                                                              obtain ⟨c1194m, hw⟩ := hw
                                                              obtain ⟨c1194n, hw⟩ := hw
                                                              obtain ⟨c1194, hw⟩ := hw
                                                              refine g_callV (As := [vi ((xs (ix ((x4 + (1 : Int32))))))]) (rest := []) O ci_11 rfl dL_law_1194 ml_L_132 im_yX11_stuck se_yX11_stuck ini_X11 co_yX11_stuck yo_yX11_stuck c1194 rfl rfl (Nat.le_of_ble_eq_true rfl) ⟨by decide, by decide, c1194m, c1194n⟩ (okX11_stuck hw) (k_I fun r1194 h1194 hw => ?_)
                                                              refine g_aload_n O dL_law_1197 rfl ?_
                                                              refine g_aload_n O dL_law_1198 rfl ?_
                                                              refine g_iload O dL_law_1199 rfl ?_
                                                              refine g_iconst O dL_law_1201 kv_1 ?_
                                                              refine g_iadd O dL_law_1202 ?_
                                                              refine g_sld hX O dL_law_1203 c1193 ?_
                                                              obtain ⟨c1204, hw⟩ := hw
                                                              refine g_callV (As := [vi ((xs (ix ((x4 + (1 : Int32))))))]) (rest := [vi r1194]) O ci_12 rfl dL_law_1204 ml_L_135 im_yX12_stuck se_yX12_stuck ini_X12 co_yX12_stuck yo_yX12_stuck c1204 rfl rfl (Nat.le_of_ble_eq_true rfl) ⟨by decide, by decide, c1194m, c1194n⟩ (okX12_stuck hw) (k_I fun r1204 h1204 hw => ?_)
                                                              refine g_icmp_eq (tgt := 1408) O dL_law_1207 rfl (fun q1207 => ?_) (fun q1207 => ?_)
                                                              · have hw := hw.1 q1207
                                                                refine g_iinc (lc' := [some (vr (bs + 1)), some (vr a1), some (vr a2), some (vr a3), some (vi (x4 + (6 : Int32))), none, none]) O dL_law_1408 rfl kv_6 rfl rfl ?_
                                                                refine g_goto (tgt := 23) O dL_law_1411 rfl ?_
                                                                exact hB23 _ _ _ _ hw
                                                              · have hw := hw.2 q1207
                                                                refine g_iconst O dL_law_1210 kv_0 ?_
                                                                exact g_widen c1194m c1194n (g_zreturn O dL_law_1211 (by decide) ⟨rfl, rfl, _, rfl, hw⟩)
                                                            · have hw := hw.2 (fun q => hx40 (by rw [q]; rfl))
                                                              rcases ht with ⟨hx40, ht⟩ | ⟨hx40, ht⟩
                                                              · obtain rfl : t40 = 1212 := by have e : (40 : Int) + (1172) = (t40 : Int) := ht; omega
                                                                have hw := hw.1 (Int32.toInt_inj.mp hx40)
                                                                refine g_aload_n O dL_law_1212 rfl ?_
                                                                refine g_aload_n O dL_law_1213 rfl ?_
                                                                refine g_iload O dL_law_1214 rfl ?_
                                                                refine g_iconst O dL_law_1216 kv_1 ?_
                                                                refine g_iadd O dL_law_1217 ?_
                                                                obtain ⟨c1218, hw⟩ := hw
                                                                refine g_sld hX O dL_law_1218 c1218 ?_
                                                                obtain ⟨c1219m, hw⟩ := hw
                                                                obtain ⟨c1219n, hw⟩ := hw
                                                                obtain ⟨c1219, hw⟩ := hw
                                                                refine g_callV (As := [vi ((xs (ix ((x4 + (1 : Int32))))))]) (rest := []) O ci_11 rfl dL_law_1219 ml_L_136 im_yX11_unsound se_yX11_unsound ini_X11 co_yX11_unsound yo_yX11_unsound c1219 rfl rfl (Nat.le_of_ble_eq_true rfl) ⟨by decide, by decide, c1219m, c1219n⟩ (okX11_unsound hw) (k_I fun r1219 h1219 hw => ?_)
                                                                refine g_aload_n O dL_law_1222 rfl ?_
                                                                refine g_aload_n O dL_law_1223 rfl ?_
                                                                refine g_iload O dL_law_1224 rfl ?_
                                                                refine g_iconst O dL_law_1226 kv_1 ?_
                                                                refine g_iadd O dL_law_1227 ?_
                                                                refine g_sld hX O dL_law_1228 c1218 ?_
                                                                obtain ⟨c1229, hw⟩ := hw
                                                                refine g_callV (As := [vi ((xs (ix ((x4 + (1 : Int32))))))]) (rest := [vi r1219]) O ci_12 rfl dL_law_1229 ml_L_139 im_yX12_unsound se_yX12_unsound ini_X12 co_yX12_unsound yo_yX12_unsound c1229 rfl rfl (Nat.le_of_ble_eq_true rfl) ⟨by decide, by decide, c1219m, c1219n⟩ (okX12_unsound hw) (k_I fun r1229 h1229 hw => ?_)
                                                                refine g_icmp_eq (tgt := 1408) O dL_law_1232 rfl (fun q1232 => ?_) (fun q1232 => ?_)
                                                                · have hw := hw.1 q1232
                                                                  refine g_iinc (lc' := [some (vr (bs + 1)), some (vr a1), some (vr a2), some (vr a3), some (vi (x4 + (6 : Int32))), none, none]) O dL_law_1408 rfl kv_6 rfl rfl ?_
                                                                  refine g_goto (tgt := 23) O dL_law_1411 rfl ?_
                                                                  exact hB23 _ _ _ _ hw
                                                                · have hw := hw.2 q1232
                                                                  refine g_iconst O dL_law_1235 kv_0 ?_
                                                                  exact g_widen c1219m c1219n (g_zreturn O dL_law_1236 (by decide) ⟨rfl, rfl, _, rfl, hw⟩)
                                                              · have hw := hw.2 (fun q => hx40 (by rw [q]; rfl))
                                                                rcases ht with ⟨hx40, ht⟩ | ⟨hx40, ht⟩
                                                                · obtain rfl : t40 = 1237 := by have e : (40 : Int) + (1197) = (t40 : Int) := ht; omega
                                                                  have hw := hw.1 (Int32.toInt_inj.mp hx40)
                                                                  refine g_aload_n O dL_law_1237 rfl ?_
                                                                  refine g_aload_n O dL_law_1238 rfl ?_
                                                                  refine g_iload O dL_law_1239 rfl ?_
                                                                  refine g_iconst O dL_law_1241 kv_1 ?_
                                                                  refine g_iadd O dL_law_1242 ?_
                                                                  obtain ⟨c1243, hw⟩ := hw
                                                                  refine g_sld hX O dL_law_1243 c1243 ?_
                                                                  refine g_aload_n O dL_law_1244 rfl ?_
                                                                  refine g_iload O dL_law_1245 rfl ?_
                                                                  refine g_iconst O dL_law_1247 kv_2 ?_
                                                                  refine g_iadd O dL_law_1248 ?_
                                                                  obtain ⟨c1249, hw⟩ := hw
                                                                  refine g_sld hX O dL_law_1249 c1249 ?_
                                                                  refine g_aload_n O dL_law_1250 rfl ?_
                                                                  refine g_iload O dL_law_1251 rfl ?_
                                                                  refine g_iconst O dL_law_1253 kv_3 ?_
                                                                  refine g_iadd O dL_law_1254 ?_
                                                                  obtain ⟨c1255, hw⟩ := hw
                                                                  refine g_sld hX O dL_law_1255 c1255 ?_
                                                                  refine g_if_eq (tgt := 1263) O dL_law_1256 rfl (fun q1256 => ?_) (fun q1256 => ?_)
                                                                  · have hw := hw.1 q1256
                                                                    refine g_iconst O dL_law_1263 kv_0 ?_
                                                                    exact okL_law_j1264 O hX hB23 hw
                                                                  · have hw := hw.2 q1256
                                                                    refine g_iconst O dL_law_1259 kv_1 ?_
                                                                    refine g_goto (tgt := 1264) O dL_law_1260 rfl ?_
                                                                    exact okL_law_j1264 O hX hB23 hw
                                                                · have hw := hw.2 (fun q => hx40 (by rw [q]; rfl))
                                                                  rcases ht with ⟨hx40, ht⟩ | ⟨hx40, ht⟩
                                                                  · obtain rfl : t40 = 1302 := by have e : (40 : Int) + (1262) = (t40 : Int) := ht; omega
                                                                    have hw := hw.1 (Int32.toInt_inj.mp hx40)
                                                                    refine g_aload_n O dL_law_1302 rfl ?_
                                                                    refine g_aload_n O dL_law_1303 rfl ?_
                                                                    refine g_iload O dL_law_1304 rfl ?_
                                                                    refine g_iconst O dL_law_1306 kv_1 ?_
                                                                    refine g_iadd O dL_law_1307 ?_
                                                                    obtain ⟨c1308, hw⟩ := hw
                                                                    refine g_sld hX O dL_law_1308 c1308 ?_
                                                                    refine g_aload_n O dL_law_1309 rfl ?_
                                                                    refine g_iload O dL_law_1310 rfl ?_
                                                                    refine g_iconst O dL_law_1312 kv_2 ?_
                                                                    refine g_iadd O dL_law_1313 ?_
                                                                    obtain ⟨c1314, hw⟩ := hw
                                                                    refine g_sld hX O dL_law_1314 c1314 ?_
                                                                    refine g_aload_n O dL_law_1315 rfl ?_
                                                                    refine g_iload O dL_law_1316 rfl ?_
                                                                    refine g_iconst O dL_law_1318 kv_3 ?_
                                                                    refine g_iadd O dL_law_1319 ?_
                                                                    obtain ⟨c1320, hw⟩ := hw
                                                                    refine g_sld hX O dL_law_1320 c1320 ?_
                                                                    refine g_aload_n O dL_law_1321 rfl ?_
                                                                    obtain ⟨c1322b, c1322c, hw⟩ := hw
                                                                    refine g_callLetter (rest := []) O dL_law_1322 rfl rfl (Nat.le_of_ble_eq_true rfl) c1322b c1322c hw (fun r1322 h1322 hw => ?_)
                                                                    refine g_istore (lc' := [some (vr (bs + 1)), some (vr a1), some (vr a2), some (vr a3), some (vi x4), some (vi r1322), none]) O dL_law_1325 rfl (Nat.le_of_ble_eq_true rfl) rfl ?_
                                                                    refine g_aload_n O dL_law_1327 rfl ?_
                                                                    refine g_aload_n O dL_law_1328 rfl ?_
                                                                    refine g_iload O dL_law_1329 rfl ?_
                                                                    refine g_iconst O dL_law_1331 kv_1 ?_
                                                                    refine g_iadd O dL_law_1332 ?_
                                                                    refine g_sld hX O dL_law_1333 c1308 ?_
                                                                    refine g_aload_n O dL_law_1334 rfl ?_
                                                                    refine g_iload O dL_law_1335 rfl ?_
                                                                    refine g_iconst O dL_law_1337 kv_2 ?_
                                                                    refine g_iadd O dL_law_1338 ?_
                                                                    refine g_sld hX O dL_law_1339 c1314 ?_
                                                                    refine g_aload_n O dL_law_1340 rfl ?_
                                                                    refine g_iload O dL_law_1341 rfl ?_
                                                                    refine g_iconst O dL_law_1343 kv_3 ?_
                                                                    refine g_iadd O dL_law_1344 ?_
                                                                    refine g_sld hX O dL_law_1345 c1320 ?_
                                                                    obtain ⟨c1346m, hw⟩ := hw
                                                                    obtain ⟨c1346n, hw⟩ := hw
                                                                    obtain ⟨c1346, hw⟩ := hw
                                                                    refine g_callV (As := [vi ((xs (ix ((x4 + (1 : Int32)))))), vi ((xs (ix ((x4 + (2 : Int32)))))), vi ((xs (ix ((x4 + (3 : Int32))))))]) (rest := []) O ci_12 rfl dL_law_1346 ml_L_150 im_yX12_letter se_yX12_letter ini_X12 co_yX12_letter yo_yX12_letter c1346 rfl rfl (Nat.le_of_ble_eq_true rfl) ⟨by decide, by decide, c1346m, c1346n⟩ (okX12_letter hw) (k_I fun r1346 h1346 hw => ?_)
                                                                    refine g_istore (lc' := [some (vr (bs + 1)), some (vr a1), some (vr a2), some (vr a3), some (vi x4), some (vi r1322), some (vi r1346)]) O dL_law_1349 rfl (Nat.le_of_ble_eq_true rfl) rfl ?_
                                                                    refine g_aload_n O dL_law_1351 rfl ?_
                                                                    refine g_callV (As := []) (rest := []) O ci_12 rfl dL_law_1352 ml_L_151 im_yX12_thrown se_yX12_thrown ini_X12 co_yX12_thrown yo_yX12_thrown c1346 rfl rfl (Nat.le_of_ble_eq_true rfl) ⟨by decide, by decide, c1346m, c1346n⟩ (okX12_thrown hw) (k_I fun r1352 h1352 hw => ?_)
                                                                    refine g_iload O dL_law_1355 rfl ?_
                                                                    refine g_icmp_eq (tgt := 1362) O dL_law_1357 rfl (fun q1357 => ?_) (fun q1357 => ?_)
                                                                    · have hw := hw.1 q1357
                                                                      refine g_iload O dL_law_1362 rfl ?_
                                                                      refine g_if_ne (tgt := 1379) O dL_law_1364 rfl (fun q1364 => ?_) (fun q1364 => ?_)
                                                                      · have hw := hw.1 q1364
                                                                        refine g_mask [true, true, true, true, true, false, false] rfl rfl ?_
                                                                        exact okL_law_j1379 O hX hB23 hw
                                                                      · have hw := hw.2 q1364
                                                                        refine g_aload_n O dL_law_1367 rfl ?_
                                                                        refine g_iconst O dL_law_1368 kv_0 ?_
                                                                        obtain ⟨c1369, hw⟩ := hw
                                                                        refine g_laload O dL_law_1369 c1369.1 c1369.2 ?_
                                                                        refine g_iload O dL_law_1370 rfl ?_
                                                                        refine g_i2l O dL_law_1372 ?_
                                                                        refine g_lcmp O dL_law_1373 ?_
                                                                        refine g_if_eq (tgt := 1379) O dL_law_1374 rfl (fun q1374 => ?_) (fun q1374 => ?_)
                                                                        · have hw := hw.1 q1374
                                                                          refine g_mask [true, true, true, true, true, false, false] rfl rfl ?_
                                                                          exact okL_law_j1379 O hX hB23 hw
                                                                        · have hw := hw.2 q1374
                                                                          refine g_iconst O dL_law_1377 kv_0 ?_
                                                                          exact g_widen c1346m c1346n (g_zreturn O dL_law_1378 (by decide) ⟨rfl, rfl, _, rfl, hw⟩)
                                                                    · have hw := hw.2 q1357
                                                                      refine g_iconst O dL_law_1360 kv_0 ?_
                                                                      exact g_widen c1346m c1346n (g_zreturn O dL_law_1361 (by decide) ⟨rfl, rfl, _, rfl, hw⟩)
                                                                  · have hw := hw.2 (fun q => hx40 (by rw [q]; rfl))
                                                                    rcases ht with ⟨hx40, ht⟩ | ⟨hx40, ht⟩
                                                                    · obtain rfl : t40 = 1382 := by have e : (40 : Int) + (1342) = (t40 : Int) := ht; omega
                                                                      have hw := hw.1 (Int32.toInt_inj.mp hx40)
                                                                      refine g_aload_n O dL_law_1382 rfl ?_
                                                                      obtain ⟨c1383m, hw⟩ := hw
                                                                      obtain ⟨c1383n, hw⟩ := hw
                                                                      obtain ⟨c1383, hw⟩ := hw
                                                                      refine g_callV (As := []) (rest := []) O ci_11 rfl dL_law_1383 ml_L_154 im_yX11_size se_yX11_size ini_X11 co_yX11_size yo_yX11_size c1383 rfl rfl (Nat.le_of_ble_eq_true rfl) ⟨by decide, by decide, c1383m, c1383n⟩ (okX11_size hw) (k_I fun r1383 h1383 hw => ?_)
                                                                      refine g_aload_n O dL_law_1386 rfl ?_
                                                                      obtain ⟨c1387, hw⟩ := hw
                                                                      refine g_callV (As := []) (rest := [vi r1383]) O ci_12 rfl dL_law_1387 ml_L_157 im_yX12_size se_yX12_size ini_X12 co_yX12_size yo_yX12_size c1387 rfl rfl (Nat.le_of_ble_eq_true rfl) ⟨by decide, by decide, c1383m, c1383n⟩ (okX12_size hw) (k_I fun r1387 h1387 hw => ?_)
                                                                      refine g_icmp_eq (tgt := 1408) O dL_law_1390 rfl (fun q1390 => ?_) (fun q1390 => ?_)
                                                                      · have hw := hw.1 q1390
                                                                        refine g_iinc (lc' := [some (vr (bs + 1)), some (vr a1), some (vr a2), some (vr a3), some (vi (x4 + (6 : Int32))), none, none]) O dL_law_1408 rfl kv_6 rfl rfl ?_
                                                                        refine g_goto (tgt := 23) O dL_law_1411 rfl ?_
                                                                        exact hB23 _ _ _ _ hw
                                                                      · have hw := hw.2 q1390
                                                                        refine g_iconst O dL_law_1393 kv_0 ?_
                                                                        exact g_widen c1383m c1383n (g_zreturn O dL_law_1394 (by decide) ⟨rfl, rfl, _, rfl, hw⟩)
                                                                    · have hw := hw.2 (fun q => hx40 (by rw [q]; rfl))
                                                                      rcases ht with ⟨hx40, ht⟩ | ⟨hx40, ht⟩
                                                                      · obtain rfl : t40 = 1395 := by have e : (40 : Int) + (1355) = (t40 : Int) := ht; omega
                                                                        have hw := hw.1 (Int32.toInt_inj.mp hx40)
                                                                        refine g_aload_n O dL_law_1395 rfl ?_
                                                                        obtain ⟨c1396m, hw⟩ := hw
                                                                        obtain ⟨c1396n, hw⟩ := hw
                                                                        obtain ⟨c1396, hw⟩ := hw
                                                                        refine g_callV (As := []) (rest := []) O ci_11 rfl dL_law_1396 ml_L_158 im_yX11_trouble se_yX11_trouble ini_X11 co_yX11_trouble yo_yX11_trouble c1396 rfl rfl (Nat.le_of_ble_eq_true rfl) ⟨by decide, by decide, c1396m, c1396n⟩ (okX11_trouble hw) (k_I fun r1396 h1396 hw => ?_)
                                                                        refine g_aload_n O dL_law_1399 rfl ?_
                                                                        obtain ⟨c1400, hw⟩ := hw
                                                                        refine g_callV (As := []) (rest := [vi r1396]) O ci_12 rfl dL_law_1400 ml_L_161 im_yX12_trouble se_yX12_trouble ini_X12 co_yX12_trouble yo_yX12_trouble c1400 rfl rfl (Nat.le_of_ble_eq_true rfl) ⟨by decide, by decide, c1396m, c1396n⟩ (okX12_trouble hw) (k_I fun r1400 h1400 hw => ?_)
                                                                        refine g_icmp_eq (tgt := 1408) O dL_law_1403 rfl (fun q1403 => ?_) (fun q1403 => ?_)
                                                                        · have hw := hw.1 q1403
                                                                          refine g_iinc (lc' := [some (vr (bs + 1)), some (vr a1), some (vr a2), some (vr a3), some (vi (x4 + (6 : Int32))), none, none]) O dL_law_1408 rfl kv_6 rfl rfl ?_
                                                                          refine g_goto (tgt := 23) O dL_law_1411 rfl ?_
                                                                          exact hB23 _ _ _ _ hw
                                                                        · have hw := hw.2 q1403
                                                                          refine g_iconst O dL_law_1406 kv_0 ?_
                                                                          exact g_widen c1396m c1396n (g_zreturn O dL_law_1407 (by decide) ⟨rfl, rfl, _, rfl, hw⟩)
                                                                      · have hw := hw.2 (fun q => hx40 (by rw [q]; rfl))
                                                                        obtain rfl : t40 = 1408 := by have e : (40 : Int) + (1368) = (t40 : Int) := ht; omega
                                                                        refine g_iinc (lc' := [some (vr (bs + 1)), some (vr a1), some (vr a2), some (vr a3), some (vi (x4 + (6 : Int32))), none, none]) O dL_law_1408 rfl kv_6 rfl rfl ?_
                                                                        refine g_goto (tgt := 23) O dL_law_1411 rfl ?_
                                                                        exact hB23 _ _ _ _ hw
