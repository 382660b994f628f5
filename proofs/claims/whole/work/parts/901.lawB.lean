theorem dL_law_0 : decode cL_law 0 = .ok (.new 7, 3) := by decide +kernel
theorem dL_law_3 : decode cL_law 3 = .ok (.dup, 1) := by decide +kernel
theorem dL_law_4 : decode cL_law 4 = .ok (.invokespecial 9, 3) := by decide +kernel
theorem dL_law_7 : decode cL_law 7 = .ok (.astore_n 1, 1) := by decide +kernel
theorem dL_law_8 : decode cL_law 8 = .ok (.new 10, 3) := by decide +kernel
theorem dL_law_11 : decode cL_law 11 = .ok (.dup, 1) := by decide +kernel
theorem dL_law_12 : decode cL_law 12 = .ok (.invokespecial 12, 3) := by decide +kernel
theorem dL_law_15 : decode cL_law 15 = .ok (.astore_n 2, 1) := by decide +kernel
theorem dL_law_16 : decode cL_law 16 = .ok (.iconst 0, 1) := by decide +kernel
theorem dL_law_17 : decode cL_law 17 = .ok (.istore_n 3, 1) := by decide +kernel
theorem dL_law_18 : decode cL_law 18 = .ok (.iload_n 3, 1) := by decide +kernel
theorem dL_law_19 : decode cL_law 19 = .ok (.aload_n 0, 1) := by decide +kernel
theorem dL_law_20 : decode cL_law 20 = .ok (.arraylength, 1) := by decide +kernel
theorem dL_law_21 : decode cL_law 21 = .ok (.bipush 6, 2) := by decide +kernel
theorem dL_law_23 : decode cL_law 23 = .ok (.isub, 1) := by decide +kernel
theorem dL_law_24 : decode cL_law 24 = .ok (.if_icmp .gt 1299, 3) := by decide +kernel
theorem dL_law_27 : decode cL_law 27 = .ok (.aload_n 0, 1) := by decide +kernel
theorem dL_law_28 : decode cL_law 28 = .ok (.iload_n 3, 1) := by decide +kernel
theorem dL_law_29 : decode cL_law 29 = .ok (.iaload, 1) := by decide +kernel
theorem dL_law_30 : decode cL_law 30 = .ok (.bipush 63, 2) := by decide +kernel
theorem dL_law_32 : decode cL_law 32 = .ok (.iand, 1) := by decide +kernel
theorem dL_law_33 : decode cL_law 33 = .ok (.tableswitch 1284 0 40 #[179, 242, 265, 278, 291, 324, 357, 406, 429, 462, 485, 508, 521, 554, 587, 600, 633, 656, 669, 692, 715, 748, 771, 804, 817, 840, 863, 876, 899, 922, 945, 968, 991, 1034, 1077, 1136, 1149, 1182, 1215, 1238, 1261], 179) := by decide +kernel
theorem dL_law_212 : decode cL_law 212 = .ok (.aload_n 1, 1) := by decide +kernel
theorem dL_law_213 : decode cL_law 213 = .ok (.aload_n 0, 1) := by decide +kernel
theorem dL_law_214 : decode cL_law 214 = .ok (.iload_n 3, 1) := by decide +kernel
theorem dL_law_215 : decode cL_law 215 = .ok (.iconst 1, 1) := by decide +kernel
theorem dL_law_216 : decode cL_law 216 = .ok (.iadd, 1) := by decide +kernel
theorem dL_law_217 : decode cL_law 217 = .ok (.iaload, 1) := by decide +kernel
theorem dL_law_218 : decode cL_law 218 = .ok (.aload_n 0, 1) := by decide +kernel
theorem dL_law_219 : decode cL_law 219 = .ok (.iload_n 3, 1) := by decide +kernel
theorem dL_law_220 : decode cL_law 220 = .ok (.iconst 2, 1) := by decide +kernel
theorem dL_law_221 : decode cL_law 221 = .ok (.iadd, 1) := by decide +kernel
theorem dL_law_222 : decode cL_law 222 = .ok (.iaload, 1) := by decide +kernel
theorem dL_law_223 : decode cL_law 223 = .ok (.aload_n 0, 1) := by decide +kernel
theorem dL_law_224 : decode cL_law 224 = .ok (.iload_n 3, 1) := by decide +kernel
theorem dL_law_225 : decode cL_law 225 = .ok (.iconst 3, 1) := by decide +kernel
theorem dL_law_226 : decode cL_law 226 = .ok (.iadd, 1) := by decide +kernel
theorem dL_law_227 : decode cL_law 227 = .ok (.iaload, 1) := by decide +kernel
theorem dL_law_228 : decode cL_law 228 = .ok (.aload_n 0, 1) := by decide +kernel
theorem dL_law_229 : decode cL_law 229 = .ok (.iload_n 3, 1) := by decide +kernel
theorem dL_law_230 : decode cL_law 230 = .ok (.iconst 4, 1) := by decide +kernel
theorem dL_law_231 : decode cL_law 231 = .ok (.iadd, 1) := by decide +kernel
theorem dL_law_232 : decode cL_law 232 = .ok (.iaload, 1) := by decide +kernel
theorem dL_law_233 : decode cL_law 233 = .ok (.aload_n 0, 1) := by decide +kernel
theorem dL_law_234 : decode cL_law 234 = .ok (.iload_n 3, 1) := by decide +kernel
theorem dL_law_235 : decode cL_law 235 = .ok (.iconst 5, 1) := by decide +kernel
theorem dL_law_236 : decode cL_law 236 = .ok (.iadd, 1) := by decide +kernel
theorem dL_law_237 : decode cL_law 237 = .ok (.iaload, 1) := by decide +kernel
theorem dL_law_238 : decode cL_law 238 = .ok (.invokevirtual 13, 3) := by decide +kernel
theorem dL_law_241 : decode cL_law 241 = .ok (.aload_n 2, 1) := by decide +kernel
theorem dL_law_242 : decode cL_law 242 = .ok (.aload_n 0, 1) := by decide +kernel
theorem dL_law_243 : decode cL_law 243 = .ok (.iload_n 3, 1) := by decide +kernel
theorem dL_law_244 : decode cL_law 244 = .ok (.iconst 1, 1) := by decide +kernel
theorem dL_law_245 : decode cL_law 245 = .ok (.iadd, 1) := by decide +kernel
theorem dL_law_246 : decode cL_law 246 = .ok (.iaload, 1) := by decide +kernel
theorem dL_law_247 : decode cL_law 247 = .ok (.aload_n 0, 1) := by decide +kernel
theorem dL_law_248 : decode cL_law 248 = .ok (.iload_n 3, 1) := by decide +kernel
theorem dL_law_249 : decode cL_law 249 = .ok (.iconst 2, 1) := by decide +kernel
theorem dL_law_250 : decode cL_law 250 = .ok (.iadd, 1) := by decide +kernel
theorem dL_law_251 : decode cL_law 251 = .ok (.iaload, 1) := by decide +kernel
theorem dL_law_252 : decode cL_law 252 = .ok (.aload_n 0, 1) := by decide +kernel
theorem dL_law_253 : decode cL_law 253 = .ok (.iload_n 3, 1) := by decide +kernel
theorem dL_law_254 : decode cL_law 254 = .ok (.iconst 3, 1) := by decide +kernel
theorem dL_law_255 : decode cL_law 255 = .ok (.iadd, 1) := by decide +kernel
theorem dL_law_256 : decode cL_law 256 = .ok (.iaload, 1) := by decide +kernel
theorem dL_law_257 : decode cL_law 257 = .ok (.aload_n 0, 1) := by decide +kernel
theorem dL_law_258 : decode cL_law 258 = .ok (.iload_n 3, 1) := by decide +kernel
theorem dL_law_259 : decode cL_law 259 = .ok (.iconst 4, 1) := by decide +kernel
theorem dL_law_260 : decode cL_law 260 = .ok (.iadd, 1) := by decide +kernel
theorem dL_law_261 : decode cL_law 261 = .ok (.iaload, 1) := by decide +kernel
theorem dL_law_262 : decode cL_law 262 = .ok (.aload_n 0, 1) := by decide +kernel
theorem dL_law_263 : decode cL_law 263 = .ok (.iload_n 3, 1) := by decide +kernel
theorem dL_law_264 : decode cL_law 264 = .ok (.iconst 5, 1) := by decide +kernel
theorem dL_law_265 : decode cL_law 265 = .ok (.iadd, 1) := by decide +kernel
theorem dL_law_266 : decode cL_law 266 = .ok (.iaload, 1) := by decide +kernel
theorem dL_law_267 : decode cL_law 267 = .ok (.invokevirtual 17, 3) := by decide +kernel
theorem dL_law_270 : decode cL_law 270 = .ok (.if_icmp .eq 1047, 3) := by decide +kernel
theorem dL_law_273 : decode cL_law 273 = .ok (.iconst 0, 1) := by decide +kernel
theorem dL_law_274 : decode cL_law 274 = .ok (.ireturn, 1) := by decide +kernel
theorem dL_law_275 : decode cL_law 275 = .ok (.aload_n 1, 1) := by decide +kernel
theorem dL_law_276 : decode cL_law 276 = .ok (.aload_n 0, 1) := by decide +kernel
theorem dL_law_277 : decode cL_law 277 = .ok (.iload_n 3, 1) := by decide +kernel
theorem dL_law_278 : decode cL_law 278 = .ok (.iconst 1, 1) := by decide +kernel
theorem dL_law_279 : decode cL_law 279 = .ok (.iadd, 1) := by decide +kernel
theorem dL_law_280 : decode cL_law 280 = .ok (.iaload, 1) := by decide +kernel
theorem dL_law_281 : decode cL_law 281 = .ok (.invokevirtual 18, 3) := by decide +kernel
theorem dL_law_284 : decode cL_law 284 = .ok (.aload_n 2, 1) := by decide +kernel
theorem dL_law_285 : decode cL_law 285 = .ok (.aload_n 0, 1) := by decide +kernel
theorem dL_law_286 : decode cL_law 286 = .ok (.iload_n 3, 1) := by decide +kernel
theorem dL_law_287 : decode cL_law 287 = .ok (.iconst 1, 1) := by decide +kernel
theorem dL_law_288 : decode cL_law 288 = .ok (.iadd, 1) := by decide +kernel
theorem dL_law_289 : decode cL_law 289 = .ok (.iaload, 1) := by decide +kernel
theorem dL_law_290 : decode cL_law 290 = .ok (.invokevirtual 22, 3) := by decide +kernel
theorem dL_law_293 : decode cL_law 293 = .ok (.if_icmp .eq 1024, 3) := by decide +kernel
theorem dL_law_296 : decode cL_law 296 = .ok (.iconst 0, 1) := by decide +kernel
theorem dL_law_297 : decode cL_law 297 = .ok (.ireturn, 1) := by decide +kernel
theorem dL_law_298 : decode cL_law 298 = .ok (.aload_n 1, 1) := by decide +kernel
theorem dL_law_299 : decode cL_law 299 = .ok (.invokevirtual 23, 3) := by decide +kernel
theorem dL_law_302 : decode cL_law 302 = .ok (.aload_n 2, 1) := by decide +kernel
theorem dL_law_303 : decode cL_law 303 = .ok (.invokevirtual 27, 3) := by decide +kernel
theorem dL_law_306 : decode cL_law 306 = .ok (.if_icmp .eq 1011, 3) := by decide +kernel
theorem dL_law_309 : decode cL_law 309 = .ok (.iconst 0, 1) := by decide +kernel
theorem dL_law_310 : decode cL_law 310 = .ok (.ireturn, 1) := by decide +kernel
theorem dL_law_311 : decode cL_law 311 = .ok (.aload_n 1, 1) := by decide +kernel
theorem dL_law_312 : decode cL_law 312 = .ok (.invokevirtual 28, 3) := by decide +kernel
theorem dL_law_315 : decode cL_law 315 = .ok (.aload_n 2, 1) := by decide +kernel
theorem dL_law_316 : decode cL_law 316 = .ok (.invokevirtual 31, 3) := by decide +kernel
theorem dL_law_319 : decode cL_law 319 = .ok (.if_icmp .eq 998, 3) := by decide +kernel
theorem dL_law_322 : decode cL_law 322 = .ok (.iconst 0, 1) := by decide +kernel
theorem dL_law_323 : decode cL_law 323 = .ok (.ireturn, 1) := by decide +kernel
theorem dL_law_324 : decode cL_law 324 = .ok (.aload_n 1, 1) := by decide +kernel
theorem dL_law_325 : decode cL_law 325 = .ok (.aload_n 0, 1) := by decide +kernel
theorem dL_law_326 : decode cL_law 326 = .ok (.iload_n 3, 1) := by decide +kernel
theorem dL_law_327 : decode cL_law 327 = .ok (.iconst 1, 1) := by decide +kernel
theorem dL_law_328 : decode cL_law 328 = .ok (.iadd, 1) := by decide +kernel
theorem dL_law_329 : decode cL_law 329 = .ok (.iaload, 1) := by decide +kernel
theorem dL_law_330 : decode cL_law 330 = .ok (.aload_n 0, 1) := by decide +kernel
theorem dL_law_331 : decode cL_law 331 = .ok (.iload_n 3, 1) := by decide +kernel
theorem dL_law_332 : decode cL_law 332 = .ok (.iconst 2, 1) := by decide +kernel
theorem dL_law_333 : decode cL_law 333 = .ok (.iadd, 1) := by decide +kernel
theorem dL_law_334 : decode cL_law 334 = .ok (.iaload, 1) := by decide +kernel
theorem dL_law_335 : decode cL_law 335 = .ok (.invokevirtual 32, 3) := by decide +kernel
theorem dL_law_338 : decode cL_law 338 = .ok (.aload_n 2, 1) := by decide +kernel
theorem dL_law_339 : decode cL_law 339 = .ok (.aload_n 0, 1) := by decide +kernel
theorem dL_law_340 : decode cL_law 340 = .ok (.iload_n 3, 1) := by decide +kernel
theorem dL_law_341 : decode cL_law 341 = .ok (.iconst 1, 1) := by decide +kernel
theorem dL_law_342 : decode cL_law 342 = .ok (.iadd, 1) := by decide +kernel
theorem dL_law_343 : decode cL_law 343 = .ok (.iaload, 1) := by decide +kernel
theorem dL_law_344 : decode cL_law 344 = .ok (.aload_n 0, 1) := by decide +kernel
theorem dL_law_345 : decode cL_law 345 = .ok (.iload_n 3, 1) := by decide +kernel
theorem dL_law_346 : decode cL_law 346 = .ok (.iconst 2, 1) := by decide +kernel
theorem dL_law_347 : decode cL_law 347 = .ok (.iadd, 1) := by decide +kernel
theorem dL_law_348 : decode cL_law 348 = .ok (.iaload, 1) := by decide +kernel
theorem dL_law_349 : decode cL_law 349 = .ok (.invokevirtual 36, 3) := by decide +kernel
theorem dL_law_352 : decode cL_law 352 = .ok (.if_icmp .eq 965, 3) := by decide +kernel
theorem dL_law_355 : decode cL_law 355 = .ok (.iconst 0, 1) := by decide +kernel
theorem dL_law_356 : decode cL_law 356 = .ok (.ireturn, 1) := by decide +kernel
theorem dL_law_357 : decode cL_law 357 = .ok (.aload_n 1, 1) := by decide +kernel
theorem dL_law_358 : decode cL_law 358 = .ok (.aload_n 0, 1) := by decide +kernel
theorem dL_law_359 : decode cL_law 359 = .ok (.iload_n 3, 1) := by decide +kernel
theorem dL_law_360 : decode cL_law 360 = .ok (.iconst 1, 1) := by decide +kernel
theorem dL_law_361 : decode cL_law 361 = .ok (.iadd, 1) := by decide +kernel
theorem dL_law_362 : decode cL_law 362 = .ok (.iaload, 1) := by decide +kernel
theorem dL_law_363 : decode cL_law 363 = .ok (.aload_n 0, 1) := by decide +kernel
theorem dL_law_364 : decode cL_law 364 = .ok (.iload_n 3, 1) := by decide +kernel
theorem dL_law_365 : decode cL_law 365 = .ok (.iconst 2, 1) := by decide +kernel
theorem dL_law_366 : decode cL_law 366 = .ok (.iadd, 1) := by decide +kernel
theorem dL_law_367 : decode cL_law 367 = .ok (.iaload, 1) := by decide +kernel
theorem dL_law_368 : decode cL_law 368 = .ok (.invokevirtual 37, 3) := by decide +kernel
theorem dL_law_371 : decode cL_law 371 = .ok (.aload_n 2, 1) := by decide +kernel
theorem dL_law_372 : decode cL_law 372 = .ok (.aload_n 0, 1) := by decide +kernel
theorem dL_law_373 : decode cL_law 373 = .ok (.iload_n 3, 1) := by decide +kernel
theorem dL_law_374 : decode cL_law 374 = .ok (.iconst 1, 1) := by decide +kernel
theorem dL_law_375 : decode cL_law 375 = .ok (.iadd, 1) := by decide +kernel
theorem dL_law_376 : decode cL_law 376 = .ok (.iaload, 1) := by decide +kernel
theorem dL_law_377 : decode cL_law 377 = .ok (.aload_n 0, 1) := by decide +kernel
theorem dL_law_378 : decode cL_law 378 = .ok (.iload_n 3, 1) := by decide +kernel
theorem dL_law_379 : decode cL_law 379 = .ok (.iconst 2, 1) := by decide +kernel
theorem dL_law_380 : decode cL_law 380 = .ok (.iadd, 1) := by decide +kernel
theorem dL_law_381 : decode cL_law 381 = .ok (.iaload, 1) := by decide +kernel
theorem dL_law_382 : decode cL_law 382 = .ok (.invokevirtual 40, 3) := by decide +kernel
theorem dL_law_385 : decode cL_law 385 = .ok (.if_icmp .eq 932, 3) := by decide +kernel
theorem dL_law_388 : decode cL_law 388 = .ok (.iconst 0, 1) := by decide +kernel
theorem dL_law_389 : decode cL_law 389 = .ok (.ireturn, 1) := by decide +kernel
theorem dL_law_390 : decode cL_law 390 = .ok (.aload_n 1, 1) := by decide +kernel
theorem dL_law_391 : decode cL_law 391 = .ok (.aload_n 0, 1) := by decide +kernel
theorem dL_law_392 : decode cL_law 392 = .ok (.iload_n 3, 1) := by decide +kernel
theorem dL_law_393 : decode cL_law 393 = .ok (.iconst 1, 1) := by decide +kernel
theorem dL_law_394 : decode cL_law 394 = .ok (.iadd, 1) := by decide +kernel
theorem dL_law_395 : decode cL_law 395 = .ok (.iaload, 1) := by decide +kernel
theorem dL_law_396 : decode cL_law 396 = .ok (.aload_n 0, 1) := by decide +kernel
theorem dL_law_397 : decode cL_law 397 = .ok (.iload_n 3, 1) := by decide +kernel
theorem dL_law_398 : decode cL_law 398 = .ok (.iconst 2, 1) := by decide +kernel
theorem dL_law_399 : decode cL_law 399 = .ok (.iadd, 1) := by decide +kernel
theorem dL_law_400 : decode cL_law 400 = .ok (.iaload, 1) := by decide +kernel
theorem dL_law_401 : decode cL_law 401 = .ok (.ifCond .eq 7, 3) := by decide +kernel
theorem dL_law_404 : decode cL_law 404 = .ok (.iconst 1, 1) := by decide +kernel
theorem dL_law_405 : decode cL_law 405 = .ok (.goto 4, 3) := by decide +kernel
theorem dL_law_408 : decode cL_law 408 = .ok (.iconst 0, 1) := by decide +kernel
theorem dL_law_409 : decode cL_law 409 = .ok (.invokevirtual 41, 3) := by decide +kernel
theorem dL_law_412 : decode cL_law 412 = .ok (.aload_n 2, 1) := by decide +kernel
theorem dL_law_413 : decode cL_law 413 = .ok (.aload_n 0, 1) := by decide +kernel
theorem dL_law_414 : decode cL_law 414 = .ok (.iload_n 3, 1) := by decide +kernel
theorem dL_law_415 : decode cL_law 415 = .ok (.iconst 1, 1) := by decide +kernel
theorem dL_law_416 : decode cL_law 416 = .ok (.iadd, 1) := by decide +kernel
theorem dL_law_417 : decode cL_law 417 = .ok (.iaload, 1) := by decide +kernel
theorem dL_law_418 : decode cL_law 418 = .ok (.aload_n 0, 1) := by decide +kernel
theorem dL_law_419 : decode cL_law 419 = .ok (.iload_n 3, 1) := by decide +kernel
theorem dL_law_420 : decode cL_law 420 = .ok (.iconst 2, 1) := by decide +kernel
theorem dL_law_421 : decode cL_law 421 = .ok (.iadd, 1) := by decide +kernel
theorem dL_law_422 : decode cL_law 422 = .ok (.iaload, 1) := by decide +kernel
theorem dL_law_423 : decode cL_law 423 = .ok (.ifCond .eq 7, 3) := by decide +kernel
theorem dL_law_426 : decode cL_law 426 = .ok (.iconst 1, 1) := by decide +kernel
theorem dL_law_427 : decode cL_law 427 = .ok (.goto 4, 3) := by decide +kernel
theorem dL_law_430 : decode cL_law 430 = .ok (.iconst 0, 1) := by decide +kernel
theorem dL_law_431 : decode cL_law 431 = .ok (.invokevirtual 45, 3) := by decide +kernel
theorem dL_law_434 : decode cL_law 434 = .ok (.if_icmp .eq 883, 3) := by decide +kernel
theorem dL_law_437 : decode cL_law 437 = .ok (.iconst 0, 1) := by decide +kernel
theorem dL_law_438 : decode cL_law 438 = .ok (.ireturn, 1) := by decide +kernel
theorem dL_law_439 : decode cL_law 439 = .ok (.aload_n 1, 1) := by decide +kernel
theorem dL_law_440 : decode cL_law 440 = .ok (.aload_n 0, 1) := by decide +kernel
theorem dL_law_441 : decode cL_law 441 = .ok (.iload_n 3, 1) := by decide +kernel
theorem dL_law_442 : decode cL_law 442 = .ok (.iconst 1, 1) := by decide +kernel
theorem dL_law_443 : decode cL_law 443 = .ok (.iadd, 1) := by decide +kernel
theorem dL_law_444 : decode cL_law 444 = .ok (.iaload, 1) := by decide +kernel
theorem dL_law_445 : decode cL_law 445 = .ok (.invokevirtual 46, 3) := by decide +kernel
theorem dL_law_448 : decode cL_law 448 = .ok (.aload_n 2, 1) := by decide +kernel
theorem dL_law_449 : decode cL_law 449 = .ok (.aload_n 0, 1) := by decide +kernel
theorem dL_law_450 : decode cL_law 450 = .ok (.iload_n 3, 1) := by decide +kernel
theorem dL_law_451 : decode cL_law 451 = .ok (.iconst 1, 1) := by decide +kernel
theorem dL_law_452 : decode cL_law 452 = .ok (.iadd, 1) := by decide +kernel
theorem dL_law_453 : decode cL_law 453 = .ok (.iaload, 1) := by decide +kernel
theorem dL_law_454 : decode cL_law 454 = .ok (.invokevirtual 49, 3) := by decide +kernel
theorem dL_law_457 : decode cL_law 457 = .ok (.if_icmp .eq 860, 3) := by decide +kernel
theorem dL_law_460 : decode cL_law 460 = .ok (.iconst 0, 1) := by decide +kernel
theorem dL_law_461 : decode cL_law 461 = .ok (.ireturn, 1) := by decide +kernel
theorem dL_law_462 : decode cL_law 462 = .ok (.aload_n 1, 1) := by decide +kernel
theorem dL_law_463 : decode cL_law 463 = .ok (.aload_n 0, 1) := by decide +kernel
theorem dL_law_464 : decode cL_law 464 = .ok (.iload_n 3, 1) := by decide +kernel
theorem dL_law_465 : decode cL_law 465 = .ok (.iconst 1, 1) := by decide +kernel
theorem dL_law_466 : decode cL_law 466 = .ok (.iadd, 1) := by decide +kernel
theorem dL_law_467 : decode cL_law 467 = .ok (.iaload, 1) := by decide +kernel
theorem dL_law_468 : decode cL_law 468 = .ok (.aload_n 0, 1) := by decide +kernel
theorem dL_law_469 : decode cL_law 469 = .ok (.iload_n 3, 1) := by decide +kernel
theorem dL_law_470 : decode cL_law 470 = .ok (.iconst 2, 1) := by decide +kernel
theorem dL_law_471 : decode cL_law 471 = .ok (.iadd, 1) := by decide +kernel
theorem dL_law_472 : decode cL_law 472 = .ok (.iaload, 1) := by decide +kernel
theorem dL_law_473 : decode cL_law 473 = .ok (.invokevirtual 50, 3) := by decide +kernel
theorem dL_law_476 : decode cL_law 476 = .ok (.aload_n 2, 1) := by decide +kernel
theorem dL_law_477 : decode cL_law 477 = .ok (.aload_n 0, 1) := by decide +kernel
theorem dL_law_478 : decode cL_law 478 = .ok (.iload_n 3, 1) := by decide +kernel
theorem dL_law_479 : decode cL_law 479 = .ok (.iconst 1, 1) := by decide +kernel
theorem dL_law_480 : decode cL_law 480 = .ok (.iadd, 1) := by decide +kernel
theorem dL_law_481 : decode cL_law 481 = .ok (.iaload, 1) := by decide +kernel
theorem dL_law_482 : decode cL_law 482 = .ok (.aload_n 0, 1) := by decide +kernel
theorem dL_law_483 : decode cL_law 483 = .ok (.iload_n 3, 1) := by decide +kernel
theorem dL_law_484 : decode cL_law 484 = .ok (.iconst 2, 1) := by decide +kernel
theorem dL_law_485 : decode cL_law 485 = .ok (.iadd, 1) := by decide +kernel
theorem dL_law_486 : decode cL_law 486 = .ok (.iaload, 1) := by decide +kernel
theorem dL_law_487 : decode cL_law 487 = .ok (.invokevirtual 53, 3) := by decide +kernel
theorem dL_law_490 : decode cL_law 490 = .ok (.if_icmp .eq 827, 3) := by decide +kernel
theorem dL_law_493 : decode cL_law 493 = .ok (.iconst 0, 1) := by decide +kernel
theorem dL_law_494 : decode cL_law 494 = .ok (.ireturn, 1) := by decide +kernel
theorem dL_law_495 : decode cL_law 495 = .ok (.aload_n 1, 1) := by decide +kernel
theorem dL_law_496 : decode cL_law 496 = .ok (.aload_n 0, 1) := by decide +kernel
theorem dL_law_497 : decode cL_law 497 = .ok (.iload_n 3, 1) := by decide +kernel
theorem dL_law_498 : decode cL_law 498 = .ok (.iconst 1, 1) := by decide +kernel
theorem dL_law_499 : decode cL_law 499 = .ok (.iadd, 1) := by decide +kernel
theorem dL_law_500 : decode cL_law 500 = .ok (.iaload, 1) := by decide +kernel
theorem dL_law_501 : decode cL_law 501 = .ok (.invokevirtual 54, 3) := by decide +kernel
theorem dL_law_504 : decode cL_law 504 = .ok (.aload_n 2, 1) := by decide +kernel
theorem dL_law_505 : decode cL_law 505 = .ok (.aload_n 0, 1) := by decide +kernel
theorem dL_law_506 : decode cL_law 506 = .ok (.iload_n 3, 1) := by decide +kernel
theorem dL_law_507 : decode cL_law 507 = .ok (.iconst 1, 1) := by decide +kernel
theorem dL_law_508 : decode cL_law 508 = .ok (.iadd, 1) := by decide +kernel
theorem dL_law_509 : decode cL_law 509 = .ok (.iaload, 1) := by decide +kernel
theorem dL_law_510 : decode cL_law 510 = .ok (.invokevirtual 57, 3) := by decide +kernel
theorem dL_law_513 : decode cL_law 513 = .ok (.if_icmp .eq 804, 3) := by decide +kernel
theorem dL_law_516 : decode cL_law 516 = .ok (.iconst 0, 1) := by decide +kernel
theorem dL_law_517 : decode cL_law 517 = .ok (.ireturn, 1) := by decide +kernel
theorem dL_law_518 : decode cL_law 518 = .ok (.aload_n 1, 1) := by decide +kernel
theorem dL_law_519 : decode cL_law 519 = .ok (.aload_n 0, 1) := by decide +kernel
theorem dL_law_520 : decode cL_law 520 = .ok (.iload_n 3, 1) := by decide +kernel
theorem dL_law_521 : decode cL_law 521 = .ok (.iconst 1, 1) := by decide +kernel
theorem dL_law_522 : decode cL_law 522 = .ok (.iadd, 1) := by decide +kernel
theorem dL_law_523 : decode cL_law 523 = .ok (.iaload, 1) := by decide +kernel
theorem dL_law_524 : decode cL_law 524 = .ok (.invokevirtual 58, 3) := by decide +kernel
theorem dL_law_527 : decode cL_law 527 = .ok (.aload_n 2, 1) := by decide +kernel
theorem dL_law_528 : decode cL_law 528 = .ok (.aload_n 0, 1) := by decide +kernel
theorem dL_law_529 : decode cL_law 529 = .ok (.iload_n 3, 1) := by decide +kernel
theorem dL_law_530 : decode cL_law 530 = .ok (.iconst 1, 1) := by decide +kernel
theorem dL_law_531 : decode cL_law 531 = .ok (.iadd, 1) := by decide +kernel
theorem dL_law_532 : decode cL_law 532 = .ok (.iaload, 1) := by decide +kernel
theorem dL_law_533 : decode cL_law 533 = .ok (.invokevirtual 61, 3) := by decide +kernel
theorem dL_law_536 : decode cL_law 536 = .ok (.if_icmp .eq 781, 3) := by decide +kernel
theorem dL_law_539 : decode cL_law 539 = .ok (.iconst 0, 1) := by decide +kernel
theorem dL_law_540 : decode cL_law 540 = .ok (.ireturn, 1) := by decide +kernel
theorem dL_law_541 : decode cL_law 541 = .ok (.aload_n 1, 1) := by decide +kernel
theorem dL_law_542 : decode cL_law 542 = .ok (.invokevirtual 62, 3) := by decide +kernel
theorem dL_law_545 : decode cL_law 545 = .ok (.aload_n 2, 1) := by decide +kernel
theorem dL_law_546 : decode cL_law 546 = .ok (.invokevirtual 66, 3) := by decide +kernel
theorem dL_law_549 : decode cL_law 549 = .ok (.if_icmp .eq 768, 3) := by decide +kernel
theorem dL_law_552 : decode cL_law 552 = .ok (.iconst 0, 1) := by decide +kernel
theorem dL_law_553 : decode cL_law 553 = .ok (.ireturn, 1) := by decide +kernel
theorem dL_law_554 : decode cL_law 554 = .ok (.aload_n 1, 1) := by decide +kernel
theorem dL_law_555 : decode cL_law 555 = .ok (.aload_n 0, 1) := by decide +kernel
theorem dL_law_556 : decode cL_law 556 = .ok (.iload_n 3, 1) := by decide +kernel
theorem dL_law_557 : decode cL_law 557 = .ok (.iconst 1, 1) := by decide +kernel
theorem dL_law_558 : decode cL_law 558 = .ok (.iadd, 1) := by decide +kernel
theorem dL_law_559 : decode cL_law 559 = .ok (.iaload, 1) := by decide +kernel
theorem dL_law_560 : decode cL_law 560 = .ok (.aload_n 0, 1) := by decide +kernel
theorem dL_law_561 : decode cL_law 561 = .ok (.iload_n 3, 1) := by decide +kernel
theorem dL_law_562 : decode cL_law 562 = .ok (.iconst 2, 1) := by decide +kernel
theorem dL_law_563 : decode cL_law 563 = .ok (.iadd, 1) := by decide +kernel
theorem dL_law_564 : decode cL_law 564 = .ok (.iaload, 1) := by decide +kernel
theorem dL_law_565 : decode cL_law 565 = .ok (.invokevirtual 67, 3) := by decide +kernel
theorem dL_law_568 : decode cL_law 568 = .ok (.aload_n 2, 1) := by decide +kernel
theorem dL_law_569 : decode cL_law 569 = .ok (.aload_n 0, 1) := by decide +kernel
theorem dL_law_570 : decode cL_law 570 = .ok (.iload_n 3, 1) := by decide +kernel
theorem dL_law_571 : decode cL_law 571 = .ok (.iconst 1, 1) := by decide +kernel
theorem dL_law_572 : decode cL_law 572 = .ok (.iadd, 1) := by decide +kernel
theorem dL_law_573 : decode cL_law 573 = .ok (.iaload, 1) := by decide +kernel
theorem dL_law_574 : decode cL_law 574 = .ok (.aload_n 0, 1) := by decide +kernel
theorem dL_law_575 : decode cL_law 575 = .ok (.iload_n 3, 1) := by decide +kernel
theorem dL_law_576 : decode cL_law 576 = .ok (.iconst 2, 1) := by decide +kernel
theorem dL_law_577 : decode cL_law 577 = .ok (.iadd, 1) := by decide +kernel
theorem dL_law_578 : decode cL_law 578 = .ok (.iaload, 1) := by decide +kernel
theorem dL_law_579 : decode cL_law 579 = .ok (.invokevirtual 70, 3) := by decide +kernel
theorem dL_law_582 : decode cL_law 582 = .ok (.if_icmp .eq 735, 3) := by decide +kernel
theorem dL_law_585 : decode cL_law 585 = .ok (.iconst 0, 1) := by decide +kernel
theorem dL_law_586 : decode cL_law 586 = .ok (.ireturn, 1) := by decide +kernel
theorem dL_law_587 : decode cL_law 587 = .ok (.aload_n 1, 1) := by decide +kernel
theorem dL_law_588 : decode cL_law 588 = .ok (.aload_n 0, 1) := by decide +kernel
theorem dL_law_589 : decode cL_law 589 = .ok (.iload_n 3, 1) := by decide +kernel
theorem dL_law_590 : decode cL_law 590 = .ok (.iconst 1, 1) := by decide +kernel
theorem dL_law_591 : decode cL_law 591 = .ok (.iadd, 1) := by decide +kernel
theorem dL_law_592 : decode cL_law 592 = .ok (.iaload, 1) := by decide +kernel
theorem dL_law_593 : decode cL_law 593 = .ok (.aload_n 0, 1) := by decide +kernel
theorem dL_law_594 : decode cL_law 594 = .ok (.iload_n 3, 1) := by decide +kernel
theorem dL_law_595 : decode cL_law 595 = .ok (.iconst 2, 1) := by decide +kernel
theorem dL_law_596 : decode cL_law 596 = .ok (.iadd, 1) := by decide +kernel
theorem dL_law_597 : decode cL_law 597 = .ok (.iaload, 1) := by decide +kernel
theorem dL_law_598 : decode cL_law 598 = .ok (.invokevirtual 71, 3) := by decide +kernel
theorem dL_law_601 : decode cL_law 601 = .ok (.aload_n 2, 1) := by decide +kernel
theorem dL_law_602 : decode cL_law 602 = .ok (.aload_n 0, 1) := by decide +kernel
theorem dL_law_603 : decode cL_law 603 = .ok (.iload_n 3, 1) := by decide +kernel
theorem dL_law_604 : decode cL_law 604 = .ok (.iconst 1, 1) := by decide +kernel
theorem dL_law_605 : decode cL_law 605 = .ok (.iadd, 1) := by decide +kernel
theorem dL_law_606 : decode cL_law 606 = .ok (.iaload, 1) := by decide +kernel
theorem dL_law_607 : decode cL_law 607 = .ok (.aload_n 0, 1) := by decide +kernel
theorem dL_law_608 : decode cL_law 608 = .ok (.iload_n 3, 1) := by decide +kernel
theorem dL_law_609 : decode cL_law 609 = .ok (.iconst 2, 1) := by decide +kernel
theorem dL_law_610 : decode cL_law 610 = .ok (.iadd, 1) := by decide +kernel
theorem dL_law_611 : decode cL_law 611 = .ok (.iaload, 1) := by decide +kernel
theorem dL_law_612 : decode cL_law 612 = .ok (.invokevirtual 74, 3) := by decide +kernel
theorem dL_law_615 : decode cL_law 615 = .ok (.if_icmp .eq 702, 3) := by decide +kernel
theorem dL_law_618 : decode cL_law 618 = .ok (.iconst 0, 1) := by decide +kernel
theorem dL_law_619 : decode cL_law 619 = .ok (.ireturn, 1) := by decide +kernel
theorem dL_law_620 : decode cL_law 620 = .ok (.aload_n 1, 1) := by decide +kernel
theorem dL_law_621 : decode cL_law 621 = .ok (.invokevirtual 75, 3) := by decide +kernel
theorem dL_law_624 : decode cL_law 624 = .ok (.aload_n 2, 1) := by decide +kernel
theorem dL_law_625 : decode cL_law 625 = .ok (.invokevirtual 78, 3) := by decide +kernel
theorem dL_law_628 : decode cL_law 628 = .ok (.if_icmp .eq 689, 3) := by decide +kernel
theorem dL_law_631 : decode cL_law 631 = .ok (.iconst 0, 1) := by decide +kernel
theorem dL_law_632 : decode cL_law 632 = .ok (.ireturn, 1) := by decide +kernel
theorem dL_law_633 : decode cL_law 633 = .ok (.aload_n 1, 1) := by decide +kernel
theorem dL_law_634 : decode cL_law 634 = .ok (.aload_n 0, 1) := by decide +kernel
theorem dL_law_635 : decode cL_law 635 = .ok (.iload_n 3, 1) := by decide +kernel
theorem dL_law_636 : decode cL_law 636 = .ok (.iconst 1, 1) := by decide +kernel
theorem dL_law_637 : decode cL_law 637 = .ok (.iadd, 1) := by decide +kernel
theorem dL_law_638 : decode cL_law 638 = .ok (.iaload, 1) := by decide +kernel
theorem dL_law_639 : decode cL_law 639 = .ok (.aload_n 0, 1) := by decide +kernel
theorem dL_law_640 : decode cL_law 640 = .ok (.iload_n 3, 1) := by decide +kernel
theorem dL_law_641 : decode cL_law 641 = .ok (.iconst 2, 1) := by decide +kernel
theorem dL_law_642 : decode cL_law 642 = .ok (.iadd, 1) := by decide +kernel
theorem dL_law_643 : decode cL_law 643 = .ok (.iaload, 1) := by decide +kernel
theorem dL_law_644 : decode cL_law 644 = .ok (.invokevirtual 79, 3) := by decide +kernel
theorem dL_law_647 : decode cL_law 647 = .ok (.aload_n 2, 1) := by decide +kernel
theorem dL_law_648 : decode cL_law 648 = .ok (.aload_n 0, 1) := by decide +kernel
theorem dL_law_649 : decode cL_law 649 = .ok (.iload_n 3, 1) := by decide +kernel
theorem dL_law_650 : decode cL_law 650 = .ok (.iconst 1, 1) := by decide +kernel
theorem dL_law_651 : decode cL_law 651 = .ok (.iadd, 1) := by decide +kernel
theorem dL_law_652 : decode cL_law 652 = .ok (.iaload, 1) := by decide +kernel
theorem dL_law_653 : decode cL_law 653 = .ok (.aload_n 0, 1) := by decide +kernel
theorem dL_law_654 : decode cL_law 654 = .ok (.iload_n 3, 1) := by decide +kernel
theorem dL_law_655 : decode cL_law 655 = .ok (.iconst 2, 1) := by decide +kernel
theorem dL_law_656 : decode cL_law 656 = .ok (.iadd, 1) := by decide +kernel
theorem dL_law_657 : decode cL_law 657 = .ok (.iaload, 1) := by decide +kernel
theorem dL_law_658 : decode cL_law 658 = .ok (.invokevirtual 82, 3) := by decide +kernel
theorem dL_law_661 : decode cL_law 661 = .ok (.if_icmp .eq 656, 3) := by decide +kernel
theorem dL_law_664 : decode cL_law 664 = .ok (.iconst 0, 1) := by decide +kernel
theorem dL_law_665 : decode cL_law 665 = .ok (.ireturn, 1) := by decide +kernel
theorem dL_law_666 : decode cL_law 666 = .ok (.aload_n 1, 1) := by decide +kernel
theorem dL_law_667 : decode cL_law 667 = .ok (.aload_n 0, 1) := by decide +kernel
theorem dL_law_668 : decode cL_law 668 = .ok (.iload_n 3, 1) := by decide +kernel
theorem dL_law_669 : decode cL_law 669 = .ok (.iconst 1, 1) := by decide +kernel
theorem dL_law_670 : decode cL_law 670 = .ok (.iadd, 1) := by decide +kernel
theorem dL_law_671 : decode cL_law 671 = .ok (.iaload, 1) := by decide +kernel
theorem dL_law_672 : decode cL_law 672 = .ok (.invokevirtual 83, 3) := by decide +kernel
theorem dL_law_675 : decode cL_law 675 = .ok (.aload_n 2, 1) := by decide +kernel
theorem dL_law_676 : decode cL_law 676 = .ok (.aload_n 0, 1) := by decide +kernel
theorem dL_law_677 : decode cL_law 677 = .ok (.iload_n 3, 1) := by decide +kernel
theorem dL_law_678 : decode cL_law 678 = .ok (.iconst 1, 1) := by decide +kernel
theorem dL_law_679 : decode cL_law 679 = .ok (.iadd, 1) := by decide +kernel
theorem dL_law_680 : decode cL_law 680 = .ok (.iaload, 1) := by decide +kernel
theorem dL_law_681 : decode cL_law 681 = .ok (.invokevirtual 86, 3) := by decide +kernel
theorem dL_law_684 : decode cL_law 684 = .ok (.if_icmp .eq 633, 3) := by decide +kernel
theorem dL_law_687 : decode cL_law 687 = .ok (.iconst 0, 1) := by decide +kernel
theorem dL_law_688 : decode cL_law 688 = .ok (.ireturn, 1) := by decide +kernel
theorem dL_law_689 : decode cL_law 689 = .ok (.aload_n 1, 1) := by decide +kernel
theorem dL_law_690 : decode cL_law 690 = .ok (.invokevirtual 87, 3) := by decide +kernel
theorem dL_law_693 : decode cL_law 693 = .ok (.aload_n 2, 1) := by decide +kernel
theorem dL_law_694 : decode cL_law 694 = .ok (.invokevirtual 90, 3) := by decide +kernel
theorem dL_law_697 : decode cL_law 697 = .ok (.if_icmp .eq 620, 3) := by decide +kernel
theorem dL_law_700 : decode cL_law 700 = .ok (.iconst 0, 1) := by decide +kernel
theorem dL_law_701 : decode cL_law 701 = .ok (.ireturn, 1) := by decide +kernel
theorem dL_law_702 : decode cL_law 702 = .ok (.aload_n 1, 1) := by decide +kernel
theorem dL_law_703 : decode cL_law 703 = .ok (.aload_n 0, 1) := by decide +kernel
theorem dL_law_704 : decode cL_law 704 = .ok (.iload_n 3, 1) := by decide +kernel
theorem dL_law_705 : decode cL_law 705 = .ok (.iconst 1, 1) := by decide +kernel
theorem dL_law_706 : decode cL_law 706 = .ok (.iadd, 1) := by decide +kernel
theorem dL_law_707 : decode cL_law 707 = .ok (.iaload, 1) := by decide +kernel
theorem dL_law_708 : decode cL_law 708 = .ok (.invokevirtual 91, 3) := by decide +kernel
theorem dL_law_711 : decode cL_law 711 = .ok (.aload_n 2, 1) := by decide +kernel
theorem dL_law_712 : decode cL_law 712 = .ok (.aload_n 0, 1) := by decide +kernel
theorem dL_law_713 : decode cL_law 713 = .ok (.iload_n 3, 1) := by decide +kernel
theorem dL_law_714 : decode cL_law 714 = .ok (.iconst 1, 1) := by decide +kernel
theorem dL_law_715 : decode cL_law 715 = .ok (.iadd, 1) := by decide +kernel
theorem dL_law_716 : decode cL_law 716 = .ok (.iaload, 1) := by decide +kernel
theorem dL_law_717 : decode cL_law 717 = .ok (.invokevirtual 94, 3) := by decide +kernel
theorem dL_law_720 : decode cL_law 720 = .ok (.if_icmp .eq 597, 3) := by decide +kernel
theorem dL_law_723 : decode cL_law 723 = .ok (.iconst 0, 1) := by decide +kernel
theorem dL_law_724 : decode cL_law 724 = .ok (.ireturn, 1) := by decide +kernel
theorem dL_law_725 : decode cL_law 725 = .ok (.aload_n 1, 1) := by decide +kernel
theorem dL_law_726 : decode cL_law 726 = .ok (.aload_n 0, 1) := by decide +kernel
theorem dL_law_727 : decode cL_law 727 = .ok (.iload_n 3, 1) := by decide +kernel
theorem dL_law_728 : decode cL_law 728 = .ok (.iconst 1, 1) := by decide +kernel
theorem dL_law_729 : decode cL_law 729 = .ok (.iadd, 1) := by decide +kernel
theorem dL_law_730 : decode cL_law 730 = .ok (.iaload, 1) := by decide +kernel
theorem dL_law_731 : decode cL_law 731 = .ok (.invokevirtual 95, 3) := by decide +kernel
theorem dL_law_734 : decode cL_law 734 = .ok (.aload_n 2, 1) := by decide +kernel
theorem dL_law_735 : decode cL_law 735 = .ok (.aload_n 0, 1) := by decide +kernel
theorem dL_law_736 : decode cL_law 736 = .ok (.iload_n 3, 1) := by decide +kernel
theorem dL_law_737 : decode cL_law 737 = .ok (.iconst 1, 1) := by decide +kernel
theorem dL_law_738 : decode cL_law 738 = .ok (.iadd, 1) := by decide +kernel
theorem dL_law_739 : decode cL_law 739 = .ok (.iaload, 1) := by decide +kernel
theorem dL_law_740 : decode cL_law 740 = .ok (.invokevirtual 98, 3) := by decide +kernel
theorem dL_law_743 : decode cL_law 743 = .ok (.if_icmp .eq 574, 3) := by decide +kernel
theorem dL_law_746 : decode cL_law 746 = .ok (.iconst 0, 1) := by decide +kernel
theorem dL_law_747 : decode cL_law 747 = .ok (.ireturn, 1) := by decide +kernel
theorem dL_law_748 : decode cL_law 748 = .ok (.aload_n 1, 1) := by decide +kernel
theorem dL_law_749 : decode cL_law 749 = .ok (.aload_n 0, 1) := by decide +kernel
theorem dL_law_750 : decode cL_law 750 = .ok (.iload_n 3, 1) := by decide +kernel
theorem dL_law_751 : decode cL_law 751 = .ok (.iconst 1, 1) := by decide +kernel
theorem dL_law_752 : decode cL_law 752 = .ok (.iadd, 1) := by decide +kernel
theorem dL_law_753 : decode cL_law 753 = .ok (.iaload, 1) := by decide +kernel
theorem dL_law_754 : decode cL_law 754 = .ok (.aload_n 0, 1) := by decide +kernel
theorem dL_law_755 : decode cL_law 755 = .ok (.iload_n 3, 1) := by decide +kernel
theorem dL_law_756 : decode cL_law 756 = .ok (.iconst 2, 1) := by decide +kernel
theorem dL_law_757 : decode cL_law 757 = .ok (.iadd, 1) := by decide +kernel
theorem dL_law_758 : decode cL_law 758 = .ok (.iaload, 1) := by decide +kernel
theorem dL_law_759 : decode cL_law 759 = .ok (.invokevirtual 99, 3) := by decide +kernel
theorem dL_law_762 : decode cL_law 762 = .ok (.aload_n 2, 1) := by decide +kernel
theorem dL_law_763 : decode cL_law 763 = .ok (.aload_n 0, 1) := by decide +kernel
theorem dL_law_764 : decode cL_law 764 = .ok (.iload_n 3, 1) := by decide +kernel
theorem dL_law_765 : decode cL_law 765 = .ok (.iconst 1, 1) := by decide +kernel
theorem dL_law_766 : decode cL_law 766 = .ok (.iadd, 1) := by decide +kernel
theorem dL_law_767 : decode cL_law 767 = .ok (.iaload, 1) := by decide +kernel
theorem dL_law_768 : decode cL_law 768 = .ok (.aload_n 0, 1) := by decide +kernel
theorem dL_law_769 : decode cL_law 769 = .ok (.iload_n 3, 1) := by decide +kernel
theorem dL_law_770 : decode cL_law 770 = .ok (.iconst 2, 1) := by decide +kernel
theorem dL_law_771 : decode cL_law 771 = .ok (.iadd, 1) := by decide +kernel
theorem dL_law_772 : decode cL_law 772 = .ok (.iaload, 1) := by decide +kernel
theorem dL_law_773 : decode cL_law 773 = .ok (.invokevirtual 102, 3) := by decide +kernel
theorem dL_law_776 : decode cL_law 776 = .ok (.if_icmp .eq 541, 3) := by decide +kernel
theorem dL_law_779 : decode cL_law 779 = .ok (.iconst 0, 1) := by decide +kernel
theorem dL_law_780 : decode cL_law 780 = .ok (.ireturn, 1) := by decide +kernel
theorem dL_law_781 : decode cL_law 781 = .ok (.aload_n 1, 1) := by decide +kernel
theorem dL_law_782 : decode cL_law 782 = .ok (.aload_n 0, 1) := by decide +kernel
theorem dL_law_783 : decode cL_law 783 = .ok (.iload_n 3, 1) := by decide +kernel
theorem dL_law_784 : decode cL_law 784 = .ok (.iconst 1, 1) := by decide +kernel
theorem dL_law_785 : decode cL_law 785 = .ok (.iadd, 1) := by decide +kernel
theorem dL_law_786 : decode cL_law 786 = .ok (.iaload, 1) := by decide +kernel
theorem dL_law_787 : decode cL_law 787 = .ok (.invokevirtual 103, 3) := by decide +kernel
theorem dL_law_790 : decode cL_law 790 = .ok (.aload_n 2, 1) := by decide +kernel
theorem dL_law_791 : decode cL_law 791 = .ok (.aload_n 0, 1) := by decide +kernel
theorem dL_law_792 : decode cL_law 792 = .ok (.iload_n 3, 1) := by decide +kernel
theorem dL_law_793 : decode cL_law 793 = .ok (.iconst 1, 1) := by decide +kernel
theorem dL_law_794 : decode cL_law 794 = .ok (.iadd, 1) := by decide +kernel
theorem dL_law_795 : decode cL_law 795 = .ok (.iaload, 1) := by decide +kernel
theorem dL_law_796 : decode cL_law 796 = .ok (.invokevirtual 106, 3) := by decide +kernel
theorem dL_law_799 : decode cL_law 799 = .ok (.if_icmp .eq 518, 3) := by decide +kernel
theorem dL_law_802 : decode cL_law 802 = .ok (.iconst 0, 1) := by decide +kernel
theorem dL_law_803 : decode cL_law 803 = .ok (.ireturn, 1) := by decide +kernel
theorem dL_law_804 : decode cL_law 804 = .ok (.aload_n 1, 1) := by decide +kernel
theorem dL_law_805 : decode cL_law 805 = .ok (.aload_n 0, 1) := by decide +kernel
theorem dL_law_806 : decode cL_law 806 = .ok (.iload_n 3, 1) := by decide +kernel
theorem dL_law_807 : decode cL_law 807 = .ok (.iconst 1, 1) := by decide +kernel
theorem dL_law_808 : decode cL_law 808 = .ok (.iadd, 1) := by decide +kernel
theorem dL_law_809 : decode cL_law 809 = .ok (.iaload, 1) := by decide +kernel
theorem dL_law_810 : decode cL_law 810 = .ok (.aload_n 0, 1) := by decide +kernel
theorem dL_law_811 : decode cL_law 811 = .ok (.iload_n 3, 1) := by decide +kernel
theorem dL_law_812 : decode cL_law 812 = .ok (.iconst 2, 1) := by decide +kernel
theorem dL_law_813 : decode cL_law 813 = .ok (.iadd, 1) := by decide +kernel
theorem dL_law_814 : decode cL_law 814 = .ok (.iaload, 1) := by decide +kernel
theorem dL_law_815 : decode cL_law 815 = .ok (.invokevirtual 107, 3) := by decide +kernel
theorem dL_law_818 : decode cL_law 818 = .ok (.aload_n 2, 1) := by decide +kernel
theorem dL_law_819 : decode cL_law 819 = .ok (.aload_n 0, 1) := by decide +kernel
theorem dL_law_820 : decode cL_law 820 = .ok (.iload_n 3, 1) := by decide +kernel
theorem dL_law_821 : decode cL_law 821 = .ok (.iconst 1, 1) := by decide +kernel
theorem dL_law_822 : decode cL_law 822 = .ok (.iadd, 1) := by decide +kernel
theorem dL_law_823 : decode cL_law 823 = .ok (.iaload, 1) := by decide +kernel
theorem dL_law_824 : decode cL_law 824 = .ok (.aload_n 0, 1) := by decide +kernel
theorem dL_law_825 : decode cL_law 825 = .ok (.iload_n 3, 1) := by decide +kernel
theorem dL_law_826 : decode cL_law 826 = .ok (.iconst 2, 1) := by decide +kernel
theorem dL_law_827 : decode cL_law 827 = .ok (.iadd, 1) := by decide +kernel
theorem dL_law_828 : decode cL_law 828 = .ok (.iaload, 1) := by decide +kernel
theorem dL_law_829 : decode cL_law 829 = .ok (.invokevirtual 110, 3) := by decide +kernel
theorem dL_law_832 : decode cL_law 832 = .ok (.if_icmp .eq 485, 3) := by decide +kernel
theorem dL_law_835 : decode cL_law 835 = .ok (.iconst 0, 1) := by decide +kernel
theorem dL_law_836 : decode cL_law 836 = .ok (.ireturn, 1) := by decide +kernel
theorem dL_law_837 : decode cL_law 837 = .ok (.aload_n 1, 1) := by decide +kernel
theorem dL_law_838 : decode cL_law 838 = .ok (.invokevirtual 111, 3) := by decide +kernel
theorem dL_law_841 : decode cL_law 841 = .ok (.aload_n 2, 1) := by decide +kernel
theorem dL_law_842 : decode cL_law 842 = .ok (.invokevirtual 114, 3) := by decide +kernel
theorem dL_law_845 : decode cL_law 845 = .ok (.if_icmp .eq 472, 3) := by decide +kernel
theorem dL_law_848 : decode cL_law 848 = .ok (.iconst 0, 1) := by decide +kernel
theorem dL_law_849 : decode cL_law 849 = .ok (.ireturn, 1) := by decide +kernel
theorem dL_law_850 : decode cL_law 850 = .ok (.aload_n 1, 1) := by decide +kernel
theorem dL_law_851 : decode cL_law 851 = .ok (.aload_n 0, 1) := by decide +kernel
theorem dL_law_852 : decode cL_law 852 = .ok (.iload_n 3, 1) := by decide +kernel
theorem dL_law_853 : decode cL_law 853 = .ok (.iconst 1, 1) := by decide +kernel
theorem dL_law_854 : decode cL_law 854 = .ok (.iadd, 1) := by decide +kernel
theorem dL_law_855 : decode cL_law 855 = .ok (.iaload, 1) := by decide +kernel
theorem dL_law_856 : decode cL_law 856 = .ok (.invokevirtual 115, 3) := by decide +kernel
theorem dL_law_859 : decode cL_law 859 = .ok (.aload_n 2, 1) := by decide +kernel
theorem dL_law_860 : decode cL_law 860 = .ok (.aload_n 0, 1) := by decide +kernel
theorem dL_law_861 : decode cL_law 861 = .ok (.iload_n 3, 1) := by decide +kernel
theorem dL_law_862 : decode cL_law 862 = .ok (.iconst 1, 1) := by decide +kernel
theorem dL_law_863 : decode cL_law 863 = .ok (.iadd, 1) := by decide +kernel
theorem dL_law_864 : decode cL_law 864 = .ok (.iaload, 1) := by decide +kernel
theorem dL_law_865 : decode cL_law 865 = .ok (.invokevirtual 118, 3) := by decide +kernel
theorem dL_law_868 : decode cL_law 868 = .ok (.if_icmp .eq 449, 3) := by decide +kernel
theorem dL_law_871 : decode cL_law 871 = .ok (.iconst 0, 1) := by decide +kernel
theorem dL_law_872 : decode cL_law 872 = .ok (.ireturn, 1) := by decide +kernel
theorem dL_law_873 : decode cL_law 873 = .ok (.aload_n 1, 1) := by decide +kernel
theorem dL_law_874 : decode cL_law 874 = .ok (.aload_n 0, 1) := by decide +kernel
theorem dL_law_875 : decode cL_law 875 = .ok (.iload_n 3, 1) := by decide +kernel
theorem dL_law_876 : decode cL_law 876 = .ok (.iconst 1, 1) := by decide +kernel
theorem dL_law_877 : decode cL_law 877 = .ok (.iadd, 1) := by decide +kernel
theorem dL_law_878 : decode cL_law 878 = .ok (.iaload, 1) := by decide +kernel
theorem dL_law_879 : decode cL_law 879 = .ok (.invokevirtual 119, 3) := by decide +kernel
theorem dL_law_882 : decode cL_law 882 = .ok (.aload_n 2, 1) := by decide +kernel
theorem dL_law_883 : decode cL_law 883 = .ok (.aload_n 0, 1) := by decide +kernel
theorem dL_law_884 : decode cL_law 884 = .ok (.iload_n 3, 1) := by decide +kernel
theorem dL_law_885 : decode cL_law 885 = .ok (.iconst 1, 1) := by decide +kernel
theorem dL_law_886 : decode cL_law 886 = .ok (.iadd, 1) := by decide +kernel
theorem dL_law_887 : decode cL_law 887 = .ok (.iaload, 1) := by decide +kernel
theorem dL_law_888 : decode cL_law 888 = .ok (.invokevirtual 122, 3) := by decide +kernel
theorem dL_law_891 : decode cL_law 891 = .ok (.if_icmp .eq 426, 3) := by decide +kernel
theorem dL_law_894 : decode cL_law 894 = .ok (.iconst 0, 1) := by decide +kernel
theorem dL_law_895 : decode cL_law 895 = .ok (.ireturn, 1) := by decide +kernel
theorem dL_law_896 : decode cL_law 896 = .ok (.aload_n 1, 1) := by decide +kernel
theorem dL_law_897 : decode cL_law 897 = .ok (.invokevirtual 123, 3) := by decide +kernel
theorem dL_law_900 : decode cL_law 900 = .ok (.aload_n 2, 1) := by decide +kernel
theorem dL_law_901 : decode cL_law 901 = .ok (.invokevirtual 126, 3) := by decide +kernel
theorem dL_law_904 : decode cL_law 904 = .ok (.if_icmp .eq 413, 3) := by decide +kernel
theorem dL_law_907 : decode cL_law 907 = .ok (.iconst 0, 1) := by decide +kernel
theorem dL_law_908 : decode cL_law 908 = .ok (.ireturn, 1) := by decide +kernel
theorem dL_law_909 : decode cL_law 909 = .ok (.aload_n 1, 1) := by decide +kernel
theorem dL_law_910 : decode cL_law 910 = .ok (.aload_n 0, 1) := by decide +kernel
theorem dL_law_911 : decode cL_law 911 = .ok (.iload_n 3, 1) := by decide +kernel
theorem dL_law_912 : decode cL_law 912 = .ok (.iconst 1, 1) := by decide +kernel
theorem dL_law_913 : decode cL_law 913 = .ok (.iadd, 1) := by decide +kernel
theorem dL_law_914 : decode cL_law 914 = .ok (.iaload, 1) := by decide +kernel
theorem dL_law_915 : decode cL_law 915 = .ok (.invokevirtual 127, 3) := by decide +kernel
theorem dL_law_918 : decode cL_law 918 = .ok (.aload_n 2, 1) := by decide +kernel
theorem dL_law_919 : decode cL_law 919 = .ok (.aload_n 0, 1) := by decide +kernel
theorem dL_law_920 : decode cL_law 920 = .ok (.iload_n 3, 1) := by decide +kernel
theorem dL_law_921 : decode cL_law 921 = .ok (.iconst 1, 1) := by decide +kernel
theorem dL_law_922 : decode cL_law 922 = .ok (.iadd, 1) := by decide +kernel
theorem dL_law_923 : decode cL_law 923 = .ok (.iaload, 1) := by decide +kernel
theorem dL_law_924 : decode cL_law 924 = .ok (.invokevirtual 130, 3) := by decide +kernel
theorem dL_law_927 : decode cL_law 927 = .ok (.if_icmp .eq 390, 3) := by decide +kernel
theorem dL_law_930 : decode cL_law 930 = .ok (.iconst 0, 1) := by decide +kernel
theorem dL_law_931 : decode cL_law 931 = .ok (.ireturn, 1) := by decide +kernel
theorem dL_law_932 : decode cL_law 932 = .ok (.aload_n 1, 1) := by decide +kernel
theorem dL_law_933 : decode cL_law 933 = .ok (.aload_n 0, 1) := by decide +kernel
theorem dL_law_934 : decode cL_law 934 = .ok (.iload_n 3, 1) := by decide +kernel
theorem dL_law_935 : decode cL_law 935 = .ok (.iconst 1, 1) := by decide +kernel
theorem dL_law_936 : decode cL_law 936 = .ok (.iadd, 1) := by decide +kernel
theorem dL_law_937 : decode cL_law 937 = .ok (.iaload, 1) := by decide +kernel
theorem dL_law_938 : decode cL_law 938 = .ok (.invokevirtual 131, 3) := by decide +kernel
theorem dL_law_941 : decode cL_law 941 = .ok (.aload_n 2, 1) := by decide +kernel
theorem dL_law_942 : decode cL_law 942 = .ok (.aload_n 0, 1) := by decide +kernel
theorem dL_law_943 : decode cL_law 943 = .ok (.iload_n 3, 1) := by decide +kernel
theorem dL_law_944 : decode cL_law 944 = .ok (.iconst 1, 1) := by decide +kernel
theorem dL_law_945 : decode cL_law 945 = .ok (.iadd, 1) := by decide +kernel
theorem dL_law_946 : decode cL_law 946 = .ok (.iaload, 1) := by decide +kernel
theorem dL_law_947 : decode cL_law 947 = .ok (.invokevirtual 134, 3) := by decide +kernel
theorem dL_law_950 : decode cL_law 950 = .ok (.if_icmp .eq 367, 3) := by decide +kernel
theorem dL_law_953 : decode cL_law 953 = .ok (.iconst 0, 1) := by decide +kernel
theorem dL_law_954 : decode cL_law 954 = .ok (.ireturn, 1) := by decide +kernel
theorem dL_law_955 : decode cL_law 955 = .ok (.aload_n 1, 1) := by decide +kernel
theorem dL_law_956 : decode cL_law 956 = .ok (.aload_n 0, 1) := by decide +kernel
theorem dL_law_957 : decode cL_law 957 = .ok (.iload_n 3, 1) := by decide +kernel
theorem dL_law_958 : decode cL_law 958 = .ok (.iconst 1, 1) := by decide +kernel
theorem dL_law_959 : decode cL_law 959 = .ok (.iadd, 1) := by decide +kernel
theorem dL_law_960 : decode cL_law 960 = .ok (.iaload, 1) := by decide +kernel
theorem dL_law_961 : decode cL_law 961 = .ok (.invokevirtual 135, 3) := by decide +kernel
theorem dL_law_964 : decode cL_law 964 = .ok (.aload_n 2, 1) := by decide +kernel
theorem dL_law_965 : decode cL_law 965 = .ok (.aload_n 0, 1) := by decide +kernel
theorem dL_law_966 : decode cL_law 966 = .ok (.iload_n 3, 1) := by decide +kernel
theorem dL_law_967 : decode cL_law 967 = .ok (.iconst 1, 1) := by decide +kernel
theorem dL_law_968 : decode cL_law 968 = .ok (.iadd, 1) := by decide +kernel
theorem dL_law_969 : decode cL_law 969 = .ok (.iaload, 1) := by decide +kernel
theorem dL_law_970 : decode cL_law 970 = .ok (.invokevirtual 138, 3) := by decide +kernel
theorem dL_law_973 : decode cL_law 973 = .ok (.if_icmp .eq 344, 3) := by decide +kernel
theorem dL_law_976 : decode cL_law 976 = .ok (.iconst 0, 1) := by decide +kernel
theorem dL_law_977 : decode cL_law 977 = .ok (.ireturn, 1) := by decide +kernel
theorem dL_law_978 : decode cL_law 978 = .ok (.aload_n 1, 1) := by decide +kernel
theorem dL_law_979 : decode cL_law 979 = .ok (.aload_n 0, 1) := by decide +kernel
theorem dL_law_980 : decode cL_law 980 = .ok (.iload_n 3, 1) := by decide +kernel
theorem dL_law_981 : decode cL_law 981 = .ok (.iconst 1, 1) := by decide +kernel
theorem dL_law_982 : decode cL_law 982 = .ok (.iadd, 1) := by decide +kernel
theorem dL_law_983 : decode cL_law 983 = .ok (.iaload, 1) := by decide +kernel
theorem dL_law_984 : decode cL_law 984 = .ok (.invokevirtual 139, 3) := by decide +kernel
theorem dL_law_987 : decode cL_law 987 = .ok (.aload_n 2, 1) := by decide +kernel
theorem dL_law_988 : decode cL_law 988 = .ok (.aload_n 0, 1) := by decide +kernel
theorem dL_law_989 : decode cL_law 989 = .ok (.iload_n 3, 1) := by decide +kernel
theorem dL_law_990 : decode cL_law 990 = .ok (.iconst 1, 1) := by decide +kernel
theorem dL_law_991 : decode cL_law 991 = .ok (.iadd, 1) := by decide +kernel
theorem dL_law_992 : decode cL_law 992 = .ok (.iaload, 1) := by decide +kernel
theorem dL_law_993 : decode cL_law 993 = .ok (.invokevirtual 142, 3) := by decide +kernel
theorem dL_law_996 : decode cL_law 996 = .ok (.if_icmp .eq 321, 3) := by decide +kernel
theorem dL_law_999 : decode cL_law 999 = .ok (.iconst 0, 1) := by decide +kernel
theorem dL_law_1000 : decode cL_law 1000 = .ok (.ireturn, 1) := by decide +kernel
theorem dL_law_1001 : decode cL_law 1001 = .ok (.aload_n 1, 1) := by decide +kernel
theorem dL_law_1002 : decode cL_law 1002 = .ok (.aload_n 0, 1) := by decide +kernel
theorem dL_law_1003 : decode cL_law 1003 = .ok (.iload_n 3, 1) := by decide +kernel
theorem dL_law_1004 : decode cL_law 1004 = .ok (.iconst 1, 1) := by decide +kernel
theorem dL_law_1005 : decode cL_law 1005 = .ok (.iadd, 1) := by decide +kernel
theorem dL_law_1006 : decode cL_law 1006 = .ok (.iaload, 1) := by decide +kernel
theorem dL_law_1007 : decode cL_law 1007 = .ok (.invokevirtual 143, 3) := by decide +kernel
theorem dL_law_1010 : decode cL_law 1010 = .ok (.aload_n 2, 1) := by decide +kernel
theorem dL_law_1011 : decode cL_law 1011 = .ok (.aload_n 0, 1) := by decide +kernel
theorem dL_law_1012 : decode cL_law 1012 = .ok (.iload_n 3, 1) := by decide +kernel
theorem dL_law_1013 : decode cL_law 1013 = .ok (.iconst 1, 1) := by decide +kernel
theorem dL_law_1014 : decode cL_law 1014 = .ok (.iadd, 1) := by decide +kernel
theorem dL_law_1015 : decode cL_law 1015 = .ok (.iaload, 1) := by decide +kernel
theorem dL_law_1016 : decode cL_law 1016 = .ok (.invokevirtual 146, 3) := by decide +kernel
theorem dL_law_1019 : decode cL_law 1019 = .ok (.if_icmp .eq 298, 3) := by decide +kernel
theorem dL_law_1022 : decode cL_law 1022 = .ok (.iconst 0, 1) := by decide +kernel
theorem dL_law_1023 : decode cL_law 1023 = .ok (.ireturn, 1) := by decide +kernel
theorem dL_law_1024 : decode cL_law 1024 = .ok (.aload_n 1, 1) := by decide +kernel
theorem dL_law_1025 : decode cL_law 1025 = .ok (.aload_n 0, 1) := by decide +kernel
theorem dL_law_1026 : decode cL_law 1026 = .ok (.iload_n 3, 1) := by decide +kernel
theorem dL_law_1027 : decode cL_law 1027 = .ok (.iconst 1, 1) := by decide +kernel
theorem dL_law_1028 : decode cL_law 1028 = .ok (.iadd, 1) := by decide +kernel
theorem dL_law_1029 : decode cL_law 1029 = .ok (.iaload, 1) := by decide +kernel
theorem dL_law_1030 : decode cL_law 1030 = .ok (.aload_n 0, 1) := by decide +kernel
theorem dL_law_1031 : decode cL_law 1031 = .ok (.iload_n 3, 1) := by decide +kernel
theorem dL_law_1032 : decode cL_law 1032 = .ok (.iconst 2, 1) := by decide +kernel
theorem dL_law_1033 : decode cL_law 1033 = .ok (.iadd, 1) := by decide +kernel
theorem dL_law_1034 : decode cL_law 1034 = .ok (.iaload, 1) := by decide +kernel
theorem dL_law_1035 : decode cL_law 1035 = .ok (.aload_n 0, 1) := by decide +kernel
theorem dL_law_1036 : decode cL_law 1036 = .ok (.iload_n 3, 1) := by decide +kernel
theorem dL_law_1037 : decode cL_law 1037 = .ok (.iconst 3, 1) := by decide +kernel
theorem dL_law_1038 : decode cL_law 1038 = .ok (.iadd, 1) := by decide +kernel
theorem dL_law_1039 : decode cL_law 1039 = .ok (.iaload, 1) := by decide +kernel
theorem dL_law_1040 : decode cL_law 1040 = .ok (.invokevirtual 147, 3) := by decide +kernel
theorem dL_law_1043 : decode cL_law 1043 = .ok (.aload_n 2, 1) := by decide +kernel
theorem dL_law_1044 : decode cL_law 1044 = .ok (.aload_n 0, 1) := by decide +kernel
theorem dL_law_1045 : decode cL_law 1045 = .ok (.iload_n 3, 1) := by decide +kernel
theorem dL_law_1046 : decode cL_law 1046 = .ok (.iconst 1, 1) := by decide +kernel
theorem dL_law_1047 : decode cL_law 1047 = .ok (.iadd, 1) := by decide +kernel
theorem dL_law_1048 : decode cL_law 1048 = .ok (.iaload, 1) := by decide +kernel
theorem dL_law_1049 : decode cL_law 1049 = .ok (.aload_n 0, 1) := by decide +kernel
theorem dL_law_1050 : decode cL_law 1050 = .ok (.iload_n 3, 1) := by decide +kernel
theorem dL_law_1051 : decode cL_law 1051 = .ok (.iconst 2, 1) := by decide +kernel
theorem dL_law_1052 : decode cL_law 1052 = .ok (.iadd, 1) := by decide +kernel
theorem dL_law_1053 : decode cL_law 1053 = .ok (.iaload, 1) := by decide +kernel
theorem dL_law_1054 : decode cL_law 1054 = .ok (.aload_n 0, 1) := by decide +kernel
theorem dL_law_1055 : decode cL_law 1055 = .ok (.iload_n 3, 1) := by decide +kernel
theorem dL_law_1056 : decode cL_law 1056 = .ok (.iconst 3, 1) := by decide +kernel
theorem dL_law_1057 : decode cL_law 1057 = .ok (.iadd, 1) := by decide +kernel
theorem dL_law_1058 : decode cL_law 1058 = .ok (.iaload, 1) := by decide +kernel
theorem dL_law_1059 : decode cL_law 1059 = .ok (.invokevirtual 151, 3) := by decide +kernel
theorem dL_law_1062 : decode cL_law 1062 = .ok (.if_icmp .eq 255, 3) := by decide +kernel
theorem dL_law_1065 : decode cL_law 1065 = .ok (.iconst 0, 1) := by decide +kernel
theorem dL_law_1066 : decode cL_law 1066 = .ok (.ireturn, 1) := by decide +kernel
theorem dL_law_1067 : decode cL_law 1067 = .ok (.aload_n 1, 1) := by decide +kernel
theorem dL_law_1068 : decode cL_law 1068 = .ok (.aload_n 0, 1) := by decide +kernel
theorem dL_law_1069 : decode cL_law 1069 = .ok (.iload_n 3, 1) := by decide +kernel
theorem dL_law_1070 : decode cL_law 1070 = .ok (.iconst 1, 1) := by decide +kernel
theorem dL_law_1071 : decode cL_law 1071 = .ok (.iadd, 1) := by decide +kernel
theorem dL_law_1072 : decode cL_law 1072 = .ok (.iaload, 1) := by decide +kernel
theorem dL_law_1073 : decode cL_law 1073 = .ok (.aload_n 0, 1) := by decide +kernel
theorem dL_law_1074 : decode cL_law 1074 = .ok (.iload_n 3, 1) := by decide +kernel
theorem dL_law_1075 : decode cL_law 1075 = .ok (.iconst 2, 1) := by decide +kernel
theorem dL_law_1076 : decode cL_law 1076 = .ok (.iadd, 1) := by decide +kernel
theorem dL_law_1077 : decode cL_law 1077 = .ok (.iaload, 1) := by decide +kernel
theorem dL_law_1078 : decode cL_law 1078 = .ok (.aload_n 0, 1) := by decide +kernel
theorem dL_law_1079 : decode cL_law 1079 = .ok (.iload_n 3, 1) := by decide +kernel
theorem dL_law_1080 : decode cL_law 1080 = .ok (.iconst 3, 1) := by decide +kernel
theorem dL_law_1081 : decode cL_law 1081 = .ok (.iadd, 1) := by decide +kernel
theorem dL_law_1082 : decode cL_law 1082 = .ok (.iaload, 1) := by decide +kernel
theorem dL_law_1083 : decode cL_law 1083 = .ok (.invokevirtual 152, 3) := by decide +kernel
theorem dL_law_1086 : decode cL_law 1086 = .ok (.aload_n 2, 1) := by decide +kernel
theorem dL_law_1087 : decode cL_law 1087 = .ok (.aload_n 0, 1) := by decide +kernel
theorem dL_law_1088 : decode cL_law 1088 = .ok (.iload_n 3, 1) := by decide +kernel
theorem dL_law_1089 : decode cL_law 1089 = .ok (.iconst 1, 1) := by decide +kernel
theorem dL_law_1090 : decode cL_law 1090 = .ok (.iadd, 1) := by decide +kernel
theorem dL_law_1091 : decode cL_law 1091 = .ok (.iaload, 1) := by decide +kernel
theorem dL_law_1092 : decode cL_law 1092 = .ok (.aload_n 0, 1) := by decide +kernel
theorem dL_law_1093 : decode cL_law 1093 = .ok (.iload_n 3, 1) := by decide +kernel
theorem dL_law_1094 : decode cL_law 1094 = .ok (.iconst 2, 1) := by decide +kernel
theorem dL_law_1095 : decode cL_law 1095 = .ok (.iadd, 1) := by decide +kernel
theorem dL_law_1096 : decode cL_law 1096 = .ok (.iaload, 1) := by decide +kernel
theorem dL_law_1097 : decode cL_law 1097 = .ok (.aload_n 0, 1) := by decide +kernel
theorem dL_law_1098 : decode cL_law 1098 = .ok (.iload_n 3, 1) := by decide +kernel
theorem dL_law_1099 : decode cL_law 1099 = .ok (.iconst 3, 1) := by decide +kernel
theorem dL_law_1100 : decode cL_law 1100 = .ok (.iadd, 1) := by decide +kernel
theorem dL_law_1101 : decode cL_law 1101 = .ok (.iaload, 1) := by decide +kernel
theorem dL_law_1102 : decode cL_law 1102 = .ok (.invokevirtual 155, 3) := by decide +kernel
theorem dL_law_1105 : decode cL_law 1105 = .ok (.if_icmp .eq 212, 3) := by decide +kernel
theorem dL_law_1108 : decode cL_law 1108 = .ok (.iconst 0, 1) := by decide +kernel
theorem dL_law_1109 : decode cL_law 1109 = .ok (.ireturn, 1) := by decide +kernel
theorem dL_law_1110 : decode cL_law 1110 = .ok (.aload_n 1, 1) := by decide +kernel
theorem dL_law_1111 : decode cL_law 1111 = .ok (.aload_n 0, 1) := by decide +kernel
theorem dL_law_1112 : decode cL_law 1112 = .ok (.iload_n 3, 1) := by decide +kernel
theorem dL_law_1113 : decode cL_law 1113 = .ok (.iconst 1, 1) := by decide +kernel
theorem dL_law_1114 : decode cL_law 1114 = .ok (.iadd, 1) := by decide +kernel
theorem dL_law_1115 : decode cL_law 1115 = .ok (.iaload, 1) := by decide +kernel
theorem dL_law_1116 : decode cL_law 1116 = .ok (.aload_n 0, 1) := by decide +kernel
theorem dL_law_1117 : decode cL_law 1117 = .ok (.iload_n 3, 1) := by decide +kernel
theorem dL_law_1118 : decode cL_law 1118 = .ok (.iconst 2, 1) := by decide +kernel
theorem dL_law_1119 : decode cL_law 1119 = .ok (.iadd, 1) := by decide +kernel
theorem dL_law_1120 : decode cL_law 1120 = .ok (.iaload, 1) := by decide +kernel
theorem dL_law_1121 : decode cL_law 1121 = .ok (.aload_n 0, 1) := by decide +kernel
theorem dL_law_1122 : decode cL_law 1122 = .ok (.iload_n 3, 1) := by decide +kernel
theorem dL_law_1123 : decode cL_law 1123 = .ok (.iconst 3, 1) := by decide +kernel
theorem dL_law_1124 : decode cL_law 1124 = .ok (.iadd, 1) := by decide +kernel
theorem dL_law_1125 : decode cL_law 1125 = .ok (.iaload, 1) := by decide +kernel
theorem dL_law_1126 : decode cL_law 1126 = .ok (.ifCond .eq 7, 3) := by decide +kernel
theorem dL_law_1129 : decode cL_law 1129 = .ok (.iconst 1, 1) := by decide +kernel
theorem dL_law_1130 : decode cL_law 1130 = .ok (.goto 4, 3) := by decide +kernel
theorem dL_law_1133 : decode cL_law 1133 = .ok (.iconst 0, 1) := by decide +kernel
theorem dL_law_1134 : decode cL_law 1134 = .ok (.invokevirtual 156, 3) := by decide +kernel
theorem dL_law_1137 : decode cL_law 1137 = .ok (.aload_n 2, 1) := by decide +kernel
theorem dL_law_1138 : decode cL_law 1138 = .ok (.aload_n 0, 1) := by decide +kernel
theorem dL_law_1139 : decode cL_law 1139 = .ok (.iload_n 3, 1) := by decide +kernel
theorem dL_law_1140 : decode cL_law 1140 = .ok (.iconst 1, 1) := by decide +kernel
theorem dL_law_1141 : decode cL_law 1141 = .ok (.iadd, 1) := by decide +kernel
theorem dL_law_1142 : decode cL_law 1142 = .ok (.iaload, 1) := by decide +kernel
theorem dL_law_1143 : decode cL_law 1143 = .ok (.aload_n 0, 1) := by decide +kernel
theorem dL_law_1144 : decode cL_law 1144 = .ok (.iload_n 3, 1) := by decide +kernel
theorem dL_law_1145 : decode cL_law 1145 = .ok (.iconst 2, 1) := by decide +kernel
theorem dL_law_1146 : decode cL_law 1146 = .ok (.iadd, 1) := by decide +kernel
theorem dL_law_1147 : decode cL_law 1147 = .ok (.iaload, 1) := by decide +kernel
theorem dL_law_1148 : decode cL_law 1148 = .ok (.aload_n 0, 1) := by decide +kernel
theorem dL_law_1149 : decode cL_law 1149 = .ok (.iload_n 3, 1) := by decide +kernel
theorem dL_law_1150 : decode cL_law 1150 = .ok (.iconst 3, 1) := by decide +kernel
theorem dL_law_1151 : decode cL_law 1151 = .ok (.iadd, 1) := by decide +kernel
theorem dL_law_1152 : decode cL_law 1152 = .ok (.iaload, 1) := by decide +kernel
theorem dL_law_1153 : decode cL_law 1153 = .ok (.ifCond .eq 7, 3) := by decide +kernel
theorem dL_law_1156 : decode cL_law 1156 = .ok (.iconst 1, 1) := by decide +kernel
theorem dL_law_1157 : decode cL_law 1157 = .ok (.goto 4, 3) := by decide +kernel
theorem dL_law_1160 : decode cL_law 1160 = .ok (.iconst 0, 1) := by decide +kernel
theorem dL_law_1161 : decode cL_law 1161 = .ok (.invokevirtual 160, 3) := by decide +kernel
theorem dL_law_1164 : decode cL_law 1164 = .ok (.if_icmp .eq 153, 3) := by decide +kernel
theorem dL_law_1167 : decode cL_law 1167 = .ok (.iconst 0, 1) := by decide +kernel
theorem dL_law_1168 : decode cL_law 1168 = .ok (.ireturn, 1) := by decide +kernel
theorem dL_law_1169 : decode cL_law 1169 = .ok (.aload_n 1, 1) := by decide +kernel
theorem dL_law_1170 : decode cL_law 1170 = .ok (.invokevirtual 161, 3) := by decide +kernel
theorem dL_law_1173 : decode cL_law 1173 = .ok (.aload_n 2, 1) := by decide +kernel
theorem dL_law_1174 : decode cL_law 1174 = .ok (.invokevirtual 164, 3) := by decide +kernel
theorem dL_law_1177 : decode cL_law 1177 = .ok (.if_icmp .eq 140, 3) := by decide +kernel
theorem dL_law_1180 : decode cL_law 1180 = .ok (.iconst 0, 1) := by decide +kernel
theorem dL_law_1181 : decode cL_law 1181 = .ok (.ireturn, 1) := by decide +kernel
theorem dL_law_1182 : decode cL_law 1182 = .ok (.aload_n 1, 1) := by decide +kernel
theorem dL_law_1183 : decode cL_law 1183 = .ok (.aload_n 0, 1) := by decide +kernel
theorem dL_law_1184 : decode cL_law 1184 = .ok (.iload_n 3, 1) := by decide +kernel
theorem dL_law_1185 : decode cL_law 1185 = .ok (.iconst 1, 1) := by decide +kernel
theorem dL_law_1186 : decode cL_law 1186 = .ok (.iadd, 1) := by decide +kernel
theorem dL_law_1187 : decode cL_law 1187 = .ok (.iaload, 1) := by decide +kernel
theorem dL_law_1188 : decode cL_law 1188 = .ok (.aload_n 0, 1) := by decide +kernel
theorem dL_law_1189 : decode cL_law 1189 = .ok (.iload_n 3, 1) := by decide +kernel
theorem dL_law_1190 : decode cL_law 1190 = .ok (.iconst 2, 1) := by decide +kernel
theorem dL_law_1191 : decode cL_law 1191 = .ok (.iadd, 1) := by decide +kernel
theorem dL_law_1192 : decode cL_law 1192 = .ok (.iaload, 1) := by decide +kernel
theorem dL_law_1193 : decode cL_law 1193 = .ok (.invokevirtual 165, 3) := by decide +kernel
theorem dL_law_1196 : decode cL_law 1196 = .ok (.aload_n 2, 1) := by decide +kernel
theorem dL_law_1197 : decode cL_law 1197 = .ok (.aload_n 0, 1) := by decide +kernel
theorem dL_law_1198 : decode cL_law 1198 = .ok (.iload_n 3, 1) := by decide +kernel
theorem dL_law_1199 : decode cL_law 1199 = .ok (.iconst 1, 1) := by decide +kernel
theorem dL_law_1200 : decode cL_law 1200 = .ok (.iadd, 1) := by decide +kernel
theorem dL_law_1201 : decode cL_law 1201 = .ok (.iaload, 1) := by decide +kernel
theorem dL_law_1202 : decode cL_law 1202 = .ok (.aload_n 0, 1) := by decide +kernel
theorem dL_law_1203 : decode cL_law 1203 = .ok (.iload_n 3, 1) := by decide +kernel
theorem dL_law_1204 : decode cL_law 1204 = .ok (.iconst 2, 1) := by decide +kernel
theorem dL_law_1205 : decode cL_law 1205 = .ok (.iadd, 1) := by decide +kernel
theorem dL_law_1206 : decode cL_law 1206 = .ok (.iaload, 1) := by decide +kernel
theorem dL_law_1207 : decode cL_law 1207 = .ok (.invokevirtual 168, 3) := by decide +kernel
theorem dL_law_1210 : decode cL_law 1210 = .ok (.if_icmp .eq 107, 3) := by decide +kernel
theorem dL_law_1213 : decode cL_law 1213 = .ok (.iconst 0, 1) := by decide +kernel
theorem dL_law_1214 : decode cL_law 1214 = .ok (.ireturn, 1) := by decide +kernel
theorem dL_law_1215 : decode cL_law 1215 = .ok (.aload_n 1, 1) := by decide +kernel
theorem dL_law_1216 : decode cL_law 1216 = .ok (.aload_n 0, 1) := by decide +kernel
theorem dL_law_1217 : decode cL_law 1217 = .ok (.iload_n 3, 1) := by decide +kernel
theorem dL_law_1218 : decode cL_law 1218 = .ok (.iconst 1, 1) := by decide +kernel
theorem dL_law_1219 : decode cL_law 1219 = .ok (.iadd, 1) := by decide +kernel
theorem dL_law_1220 : decode cL_law 1220 = .ok (.iaload, 1) := by decide +kernel
theorem dL_law_1221 : decode cL_law 1221 = .ok (.aload_n 0, 1) := by decide +kernel
theorem dL_law_1222 : decode cL_law 1222 = .ok (.iload_n 3, 1) := by decide +kernel
theorem dL_law_1223 : decode cL_law 1223 = .ok (.iconst 2, 1) := by decide +kernel
theorem dL_law_1224 : decode cL_law 1224 = .ok (.iadd, 1) := by decide +kernel
theorem dL_law_1225 : decode cL_law 1225 = .ok (.iaload, 1) := by decide +kernel
theorem dL_law_1226 : decode cL_law 1226 = .ok (.invokevirtual 169, 3) := by decide +kernel
theorem dL_law_1229 : decode cL_law 1229 = .ok (.aload_n 2, 1) := by decide +kernel
theorem dL_law_1230 : decode cL_law 1230 = .ok (.aload_n 0, 1) := by decide +kernel
theorem dL_law_1231 : decode cL_law 1231 = .ok (.iload_n 3, 1) := by decide +kernel
theorem dL_law_1232 : decode cL_law 1232 = .ok (.iconst 1, 1) := by decide +kernel
theorem dL_law_1233 : decode cL_law 1233 = .ok (.iadd, 1) := by decide +kernel
theorem dL_law_1234 : decode cL_law 1234 = .ok (.iaload, 1) := by decide +kernel
theorem dL_law_1235 : decode cL_law 1235 = .ok (.aload_n 0, 1) := by decide +kernel
theorem dL_law_1236 : decode cL_law 1236 = .ok (.iload_n 3, 1) := by decide +kernel
theorem dL_law_1237 : decode cL_law 1237 = .ok (.iconst 2, 1) := by decide +kernel
theorem dL_law_1238 : decode cL_law 1238 = .ok (.iadd, 1) := by decide +kernel
theorem dL_law_1239 : decode cL_law 1239 = .ok (.iaload, 1) := by decide +kernel
theorem dL_law_1240 : decode cL_law 1240 = .ok (.invokevirtual 172, 3) := by decide +kernel
theorem dL_law_1243 : decode cL_law 1243 = .ok (.if_icmp .eq 74, 3) := by decide +kernel
theorem dL_law_1246 : decode cL_law 1246 = .ok (.iconst 0, 1) := by decide +kernel
theorem dL_law_1247 : decode cL_law 1247 = .ok (.ireturn, 1) := by decide +kernel
theorem dL_law_1248 : decode cL_law 1248 = .ok (.aload_n 1, 1) := by decide +kernel
theorem dL_law_1249 : decode cL_law 1249 = .ok (.aload_n 0, 1) := by decide +kernel
theorem dL_law_1250 : decode cL_law 1250 = .ok (.iload_n 3, 1) := by decide +kernel
theorem dL_law_1251 : decode cL_law 1251 = .ok (.iconst 1, 1) := by decide +kernel
theorem dL_law_1252 : decode cL_law 1252 = .ok (.iadd, 1) := by decide +kernel
theorem dL_law_1253 : decode cL_law 1253 = .ok (.iaload, 1) := by decide +kernel
theorem dL_law_1254 : decode cL_law 1254 = .ok (.invokevirtual 173, 3) := by decide +kernel
theorem dL_law_1257 : decode cL_law 1257 = .ok (.aload_n 2, 1) := by decide +kernel
theorem dL_law_1258 : decode cL_law 1258 = .ok (.aload_n 0, 1) := by decide +kernel
theorem dL_law_1259 : decode cL_law 1259 = .ok (.iload_n 3, 1) := by decide +kernel
theorem dL_law_1260 : decode cL_law 1260 = .ok (.iconst 1, 1) := by decide +kernel
theorem dL_law_1261 : decode cL_law 1261 = .ok (.iadd, 1) := by decide +kernel
theorem dL_law_1262 : decode cL_law 1262 = .ok (.iaload, 1) := by decide +kernel
theorem dL_law_1263 : decode cL_law 1263 = .ok (.invokevirtual 177, 3) := by decide +kernel
theorem dL_law_1266 : decode cL_law 1266 = .ok (.if_icmp .eq 51, 3) := by decide +kernel
theorem dL_law_1269 : decode cL_law 1269 = .ok (.iconst 0, 1) := by decide +kernel
theorem dL_law_1270 : decode cL_law 1270 = .ok (.ireturn, 1) := by decide +kernel
theorem dL_law_1271 : decode cL_law 1271 = .ok (.aload_n 1, 1) := by decide +kernel
theorem dL_law_1272 : decode cL_law 1272 = .ok (.aload_n 0, 1) := by decide +kernel
theorem dL_law_1273 : decode cL_law 1273 = .ok (.iload_n 3, 1) := by decide +kernel
theorem dL_law_1274 : decode cL_law 1274 = .ok (.iconst 1, 1) := by decide +kernel
theorem dL_law_1275 : decode cL_law 1275 = .ok (.iadd, 1) := by decide +kernel
theorem dL_law_1276 : decode cL_law 1276 = .ok (.iaload, 1) := by decide +kernel
theorem dL_law_1277 : decode cL_law 1277 = .ok (.invokevirtual 178, 3) := by decide +kernel
theorem dL_law_1280 : decode cL_law 1280 = .ok (.aload_n 2, 1) := by decide +kernel
theorem dL_law_1281 : decode cL_law 1281 = .ok (.aload_n 0, 1) := by decide +kernel
theorem dL_law_1282 : decode cL_law 1282 = .ok (.iload_n 3, 1) := by decide +kernel
theorem dL_law_1283 : decode cL_law 1283 = .ok (.iconst 1, 1) := by decide +kernel
theorem dL_law_1284 : decode cL_law 1284 = .ok (.iadd, 1) := by decide +kernel
theorem dL_law_1285 : decode cL_law 1285 = .ok (.iaload, 1) := by decide +kernel
theorem dL_law_1286 : decode cL_law 1286 = .ok (.invokevirtual 181, 3) := by decide +kernel
theorem dL_law_1289 : decode cL_law 1289 = .ok (.if_icmp .eq 28, 3) := by decide +kernel
theorem dL_law_1292 : decode cL_law 1292 = .ok (.iconst 0, 1) := by decide +kernel
theorem dL_law_1293 : decode cL_law 1293 = .ok (.ireturn, 1) := by decide +kernel
theorem dL_law_1294 : decode cL_law 1294 = .ok (.aload_n 1, 1) := by decide +kernel
theorem dL_law_1295 : decode cL_law 1295 = .ok (.aload_n 0, 1) := by decide +kernel
theorem dL_law_1296 : decode cL_law 1296 = .ok (.iload_n 3, 1) := by decide +kernel
theorem dL_law_1297 : decode cL_law 1297 = .ok (.iconst 1, 1) := by decide +kernel
theorem dL_law_1298 : decode cL_law 1298 = .ok (.iadd, 1) := by decide +kernel
theorem dL_law_1299 : decode cL_law 1299 = .ok (.iaload, 1) := by decide +kernel
theorem dL_law_1300 : decode cL_law 1300 = .ok (.invokevirtual 182, 3) := by decide +kernel
theorem dL_law_1303 : decode cL_law 1303 = .ok (.aload_n 2, 1) := by decide +kernel
theorem dL_law_1304 : decode cL_law 1304 = .ok (.aload_n 0, 1) := by decide +kernel
theorem dL_law_1305 : decode cL_law 1305 = .ok (.iload_n 3, 1) := by decide +kernel
theorem dL_law_1306 : decode cL_law 1306 = .ok (.iconst 1, 1) := by decide +kernel
theorem dL_law_1307 : decode cL_law 1307 = .ok (.iadd, 1) := by decide +kernel
theorem dL_law_1308 : decode cL_law 1308 = .ok (.iaload, 1) := by decide +kernel
theorem dL_law_1309 : decode cL_law 1309 = .ok (.invokevirtual 185, 3) := by decide +kernel
theorem dL_law_1312 : decode cL_law 1312 = .ok (.if_icmp .eq 5, 3) := by decide +kernel
theorem dL_law_1315 : decode cL_law 1315 = .ok (.iconst 0, 1) := by decide +kernel
theorem dL_law_1316 : decode cL_law 1316 = .ok (.ireturn, 1) := by decide +kernel
theorem dL_law_1317 : decode cL_law 1317 = .ok (.iinc 3 6, 3) := by decide +kernel
theorem dL_law_1320 : decode cL_law 1320 = .ok (.goto (-1302), 3) := by decide +kernel
theorem dL_law_1323 : decode cL_law 1323 = .ok (.iconst 1, 1) := by decide +kernel
theorem dL_law_1324 : decode cL_law 1324 = .ok (.ireturn, 1) := by decide +kernel
def bz (x : Int32) : Int32 := if x = 0 then 0 else 1
theorem bz_01 (x : Int32) : bz x = 0 ∨ bz x = 1 := by unfold bz; split <;> simp
theorem bz_road {p : Program} {l : Launch} {e : Env} {R : Room} {s : State} {m : MethodId} {args : Array Value} {below : List Frame} {meth : Method} {c : Code} {H : Heap} {locs : List Loc} {cells slots pc : Nat} {Q : State → Prop} {cc : ByteArray} {ls : Array Slot} {rest : List Value} {x : Int32} {tgt : Nat} {off : Int} (hx : p.tables.exec = Jvm.exec) (hb : c.code = cc) (d1 : decode cc pc = .ok (.ifCond .eq off, 3)) (ht : (pc : Int) + off = (tgt : Int)) (d2 : decode cc (pc + 3) = .ok (.iconst 1, 1)) {off2 : Int} (d3 : decode cc (pc + 3 + 1) = .ok (.goto off2, 3)) (ht2 : ((pc + 3 + 1 : Nat) : Int) + off2 = ((tgt + 1 : Nat) : Int)) (d4 : decode cc tgt = .ok (.iconst 0, 1))
    (kk : W p l e R s m args below meth c H locs cells slots Q (F0 m (tgt + 1) ls (.int (bz x) :: rest))) : W p l e R s m args below meth c H locs cells slots Q (F0 m pc ls (.int x :: rest)) := by
  refine lv_if_eq (tgt := tgt) hx hb d1 ht (fun hc => ?_) (fun hc => ?_)
  · refine lv_iconst (v := 0) hx hb d4 (by decide) ?_
    rw [show bz x = 0 from if_pos hc] at kk
    exact kk
  · refine lv_iconst (v := 1) hx hb d2 (by decide) ?_
    refine lv_goto (tgt := tgt + 1) hx hb d3 ht2 ?_
    rw [show bz x = 1 from if_neg hc] at kk
    exact kk
def oC (G : GG) (B : Nat) (E : State → Prop) : WW := (G, DSC, B, fun j => 1 ≤ j ∧ j < 191, fun q => B + 1 ≤ q ∧ q < B + 191, E, B + 191 + 49, fun _ _ => false)
def oM (G : GG) (B : Nat) (E : State → Prop) : WW := (G, DSM, B + 191, fun j => 0 ≤ j ∧ j < 49, fun q => B + 191 ≤ q, E, B + 191 + 49, fun _ _ => false)
theorem wok_C {G : GG} {B : Nat} {E : State → Prop} (h : Eok (B + 1) E) : wok (oC G B E) := by
  refine ⟨fun j t n hv _ => ?_, fun u U h1 h2 h3 => h u U h1 h2 (fun q hq hB => h3 q hq (fun z => by have z : B + 1 ≤ q ∧ q < B + 191 := z; omega))⟩
  have hv : 1 ≤ j ∧ j < 191 := hv
  show B + 1 ≤ B + j ∧ B + j < B + 191
  omega
theorem wok_M {G : GG} {B : Nat} {E : State → Prop} (h : Eok (B + 1) E) : wok (oM G B E) := by
  refine ⟨fun j t n hv _ => ?_, fun u U h1 h2 h3 => h u U h1 h2 (fun q hq hB => h3 q hq (fun z => by have z : B + 191 ≤ q := z; omega))⟩
  show B + 191 ≤ B + 191 + j
  omega
theorem FW_C {G : GG} {B : Nat} {E : State → Prop} {X : Nat → Nat} (hEX : ∀ U, E U → EF X (fun q => B + 1 ≤ q) U) : FWC (oC G B E) := ⟨rfl, ⟨fun j t n h1 h => ⟨h1, (List.getElem?_eq_some_iff.mp h).1⟩, fun _ _ => rfl⟩, X, fun U hU => (hEX U hU).nar (fun q hq => hq.1)⟩
theorem FW_M {G : GG} {B : Nat} {E : State → Prop} : FWM (oM G B E) := ⟨rfl, fun j t n h => ⟨Nat.zero_le _, (List.getElem?_eq_some_iff.mp h).1⟩, fun _ _ => rfl⟩
/-- how the law stands between two calls -/
def LI (G : GG) (B : Nat) (E : State → Prop) (s : State) (μ ν : Mem) (H : Heap) : Prop := Hd (oC G B E) μ H ∧ Hd (oM G B E) ν H ∧ H.size = B + 191 + 49 ∧ ∀ q, q < B + 1 → H[q]? = s.heap[q]?
section LW
variable {p : Program} {l : Launch} {e : Env} {s : State} {m : MethodId} {args : Array Value} {below : List Frame} {meth : Method} {c : Code} {H : Heap} {cells slots : Nat} {Q : State → Prop}
variable {pc : Nat} {ls : Array Slot} {rest : List Value} {G : GG} {B : Nat} {E : State → Prop} {μ ν : Mem}
/-- the law's own surroundings -/
def LX (G : GG) (B : Nat) (E : State → Prop) (p : Program) (s : State) (m : MethodId) (args : Array Value) (c : Code) : Prop := p.tables.exec = Jvm.exec ∧ c.code = code ∧ c.maxLocals = 4 ∧ s.vm.findClass RL = some m.cls ∧ (∀ w ∈ tblG, w.before args s = true) ∧ KK G s ∧ E s ∧ Eok (B + 1) E ∧ s.heap.size = B + 1
theorem LX.toC (h : LX G B E p s m args c) : Cx (oC G B E) p s m args c code 4 RL := ⟨h.1, h.2.1, h.2.2.1, h.2.2.2.1, h.2.2.2.2.1, h.2.2.2.2.2.1, h.2.2.2.2.2.2.1, wok_C h.2.2.2.2.2.2.2.1⟩
theorem LX.toM (h : LX G B E p s m args c) : Cx (oM G B E) p s m args c code 4 RL := ⟨h.1, h.2.1, h.2.2.1, h.2.2.2.1, h.2.2.2.2.1, h.2.2.2.2.2.1, h.2.2.2.2.2.2.1, wok_M h.2.2.2.2.2.2.2.1⟩
theorem LI.S (hL : LI G B E s μ ν H) (hB : s.heap.size = B + 1) : va_S (fun q => B + 1 ≤ q) s.heap H [] := ⟨by rw [hL.2.2.1, hB]; omega, fun q h1 _ => hL.2.2.2 q (by omega), fun _ h => by cases h⟩
/-- a call of the class -/
theorem l_C {y : MethodName} {cy : ByteArray} {ny np d index : Nat} {ry : Option FieldType} {as st : List Value} {rr : Int32} {μ1 : Mem} (hM : Con l y cy ny ry d (oC G B E) (.ref (B + 1) :: as) μ (some (.int rr)) μ1) (X : LX G B E p s m args c) (hl : ls.size = 4) (hL : LI G B E s μ ν H) (hst : st = as.reverse ++ .ref (B + 1) :: rest) (hy : Mw y cy ny ry np) (hw : Cond.methodLink RL index y ∈ lw_tbl) (hwi : Cond.instanceMethod y ∈ lw_tbl) (hws : Cond.selects RX11 y y ∈ lw_tbl) (hn : as.length = np) (hR : d + 1 ≤ 2048 ∧ 8 + (ny + 11) + 64 * d ≤ 84000) (hrest : (rest.map fun v => v.category).sum ≤ 8) (hcs : cells ≤ 600000 ∧ slots ≤ 7302250) (hdg : decode code pc = .ok (.invokevirtual index, 3))
    (kk : ∀ H1 : Heap, LI G B E s μ1 ν H1 → W p l e room_1 s m args below meth c H1 [] cells slots Q (F0 m (pc + 3) ls (.int rr :: rest))) : W p l e room_1 s m args below meth c H [] cells slots Q (F0 m pc ls st) := by
  subst hst
  obtain ⟨hC, hMd, hz, hlow⟩ := hL
  have C := X.toC
  obtain ⟨r', h1, cell, q1, q2, q3, q4⟩ := (hC 1 11 17 ⟨Nat.le_refl _, by decide⟩ rfl).1 (by decide)
  have hrr : r' = (RX11, TX11, 17) := Option.some.inj (h1.symm.trans rfl)
  subst hrr
  have hrun := va_runV (As := as) (rest := rest) (b := B + 1) (C := RX11) (n := np) (g := F0 m pc ls (as.reverse ++ .ref (B + 1) :: rest)) (e := e) (below := below) (H := H) (locs := []) (cells := cells) (slots := slots) (R := room_1) (meth := meth) (p := p) ⟨C.1, C.2.1, C.2.2.1, C.2.2.2.1, C.2.2.2.2.1⟩ hM ⟨callB_of np C.2.2.2.2.1 (good_wy hy.1) rfl rfl rfl (C.2.2.2.2.1 _ (tg hy.2.1 rfl)) (C.2.2.2.2.1 _ (tg hw rfl)) ⟨hy.2.2.1, hy.2.2.2.1, hy.2.2.2.2⟩ hR, C.2.2.2.2.1 _ (tg hwi rfl), C.2.2.2.2.1 _ (tg hws rfl)⟩ ⟨PP.blind, ⟨cell, q1, by rw [q3]; rfl, by rw [q2]; exact (C.2.2.2.2.2.1.1 11 (RX11, TX11, 17) rfl).2.1⟩, fun U hU hW => ⟨rfl, by rw [hU]; exact hC, C.2.2.2.2.2.1.moved hW.alike, X.2.2.2.2.2.2.2.1 s U X.2.2.2.2.2.2.1 (Or.inl hW) (fun q _ h2 => by rw [hU]; exact hlow q h2), wok_C X.2.2.2.2.2.2.2.1, by rw [hU]; exact hz⟩⟩ rfl hn hl rfl (lv_room hrest) hdg hcs
  intro T hT Xs
  obtain ⟨v', st₀, t, T', L, h0, X', hLl, e1, e2, ⟨hv, hH1, ⟨hz1, hk1⟩, hsz⟩, stp⟩ := hrun T hT Xs
  cases hv
  rw [h0] at hz1 hk1
  have hsz : t.heap.size = B + 191 + 49 := hsz
  have hsame : ∀ q : Nat, q < H.size → ¬ (B + 1 ≤ q ∧ q < B + 191) → t.heap[q]? = H[q]? := fun q g1 g2 => hk1 q g1 g2
  obtain ⟨t2, a1, b1⟩ := kk t.heap ⟨hH1, hMd.kept (fun j t' n' hv hd => hsame _ (by have hv : 0 ≤ j ∧ j < 49 := hv; show B + 191 + j < _; omega) (by show ¬ (B + 1 ≤ B + 191 + j ∧ B + 191 + j < B + 191); omega)), hsz, fun q hq => (hsame q (by omega) (by omega)).trans (hlow q hq)⟩ T' e1 (Stand.forget X' (fun q hq => by
    have hq2 : q ∈ L := by simpa using hq
    have h9 : B + 1 ≤ q.base ∧ q.base < B + 191 := hLl q hq2
    rw [X.2.2.2.2.2.2.2.2]; exact h9.1))
  exact ⟨t2, stp t2 a1, b1⟩
/-- a call of the model -/
theorem l_M {y : MethodName} {cy : ByteArray} {ny np d index : Nat} {ry : Option FieldType} {as st : List Value} {rr : Int32} {ν1 : Mem} (hM : Con l y cy ny ry d (oM G B E) (.ref (B + 191 + 0) :: as) ν (some (.int rr)) ν1) (X : LX G B E p s m args c) (hl : ls.size = 4) (hL : LI G B E s μ ν H) (hst : st = as.reverse ++ .ref (B + 191 + 0) :: rest) (hy : Mw y cy ny ry np) (hw : Cond.methodLink RL index y ∈ lw_tbl) (hwi : Cond.instanceMethod y ∈ lw_tbl) (hws : Cond.selects RX12 y y ∈ lw_tbl) (hn : as.length = np) (hR : d + 1 ≤ 2048 ∧ 8 + (ny + 11) + 64 * d ≤ 84000) (hrest : (rest.map fun v => v.category).sum ≤ 8) (hcs : cells ≤ 600000 ∧ slots ≤ 7302250) (hdg : decode code pc = .ok (.invokevirtual index, 3))
    (kk : ∀ H1 : Heap, LI G B E s μ ν1 H1 → W p l e room_1 s m args below meth c H1 [] cells slots Q (F0 m (pc + 3) ls (.int rr :: rest))) : W p l e room_1 s m args below meth c H [] cells slots Q (F0 m pc ls st) := by
  subst hst
  obtain ⟨hC, hMd, hz, hlow⟩ := hL
  have C := X.toM
  obtain ⟨r', h1, cell, q1, q2, q3, q4⟩ := (hMd 0 12 69 ⟨Nat.le_refl _, by decide⟩ rfl).1 (by decide)
  have hrr : r' = (RX12, TX12, 69) := Option.some.inj (h1.symm.trans rfl)
  subst hrr
  have hrun := va_runV (As := as) (rest := rest) (b := B + 191 + 0) (C := RX12) (n := np) (g := F0 m pc ls (as.reverse ++ .ref (B + 191 + 0) :: rest)) (e := e) (below := below) (H := H) (locs := []) (cells := cells) (slots := slots) (R := room_1) (meth := meth) (p := p) ⟨C.1, C.2.1, C.2.2.1, C.2.2.2.1, C.2.2.2.2.1⟩ hM ⟨callB_of np C.2.2.2.2.1 (good_wy hy.1) rfl rfl rfl (C.2.2.2.2.1 _ (tg hy.2.1 rfl)) (C.2.2.2.2.1 _ (tg hw rfl)) ⟨hy.2.2.1, hy.2.2.2.1, hy.2.2.2.2⟩ hR, C.2.2.2.2.1 _ (tg hwi rfl), C.2.2.2.2.1 _ (tg hws rfl)⟩ ⟨PP.blind, ⟨cell, q1, by rw [q3]; rfl, by rw [q2]; exact (C.2.2.2.2.2.1.1 12 (RX12, TX12, 69) rfl).2.1⟩, fun U hU hW => ⟨rfl, by rw [hU]; exact hMd, C.2.2.2.2.2.1.moved hW.alike, X.2.2.2.2.2.2.2.1 s U X.2.2.2.2.2.2.1 (Or.inl hW) (fun q _ h2 => by rw [hU]; exact hlow q h2), wok_M X.2.2.2.2.2.2.2.1, by rw [hU]; exact hz⟩⟩ rfl hn hl rfl (lv_room hrest) hdg hcs
  intro T hT Xs
  obtain ⟨v', st₀, t, T', L, h0, X', hLl, e1, e2, ⟨hv, hH1, ⟨hz1, hk1⟩, hsz⟩, stp⟩ := hrun T hT Xs
  cases hv
  rw [h0] at hz1 hk1
  have hsz : t.heap.size = B + 191 + 49 := hsz
  have hsame : ∀ q : Nat, q < H.size → ¬ (B + 191 ≤ q) → t.heap[q]? = H[q]? := fun q g1 g2 => hk1 q g1 g2
  obtain ⟨t2, a1, b1⟩ := kk t.heap ⟨hC.kept (fun j t' n' hv hd => hsame _ (by have hv : 1 ≤ j ∧ j < 191 := hv; show B + j < _; omega) (by have hv : 1 ≤ j ∧ j < 191 := hv; show ¬ (B + 191 ≤ B + j); omega)), hH1, hsz, fun q hq => (hsame q (by omega) (by omega)).trans (hlow q hq)⟩ T' e1 (Stand.forget X' (fun q hq => by
    have hq2 : q ∈ L := by simpa using hq
    have h9 : B + 191 ≤ q.base := hLl q hq2
    rw [X.2.2.2.2.2.2.2.2]; omega))
  exact ⟨t2, stp t2 a1, b1⟩
/-- the script's i-th int -/
theorem l_ld {b L : Nat} {xs : Nat → Int32} (X : LX G B E p s m args c) (hX : va_X b L xs s s.heap) (hbl : b < s.heap.size) (hL : LI G B E s μ ν H) {x : Int32} {j : Nat} (hj : j < L) (hL2 : L ≤ 3072) (hx : x = nI j) (hdg : decode code pc = .ok (.iaload, 1))
    (kk : W p l e room_1 s m args below meth c H [] cells slots Q (F0 m (pc + 1) ls (.int (xs j) :: rest))) : W p l e room_1 s m args below meth c H [] cells slots Q (F0 m pc ls (.int x :: .ref b :: rest)) := by
  subst hx
  have hB := X.2.2.2.2.2.2.2.2
  refine va_sld X.1 X.2.1 (A := fun q => B + 1 ≤ q) hX hbl (fun h => by omega) (hL.S hB) (vp_in_nI hj (by omega)) hdg ?_
  rw [nI_clamp (by omega)]
  exact kk
end LW
section LC
variable {p : Program} {l : Launch} {e : Env} {s : State} {m : MethodId} {args : Array Value} {below : List Frame} {meth : Method} {c : Code} {H : Heap} {cells slots : Nat} {Q : State → Prop}
variable {ls : Array Slot} {G : GG} {B : Nat} {E : State → Prop} {μ ν : Mem}
theorem case_0 (X : LX G B E p s m args c) {Xx : Nat → Nat} (hEX : ∀ U, E U → EF Xx (fun q => B + 1 ≤ q) U) {b L : Nat} {xs : Nat → Int32} (hX : va_X b L xs s s.heap) (hbl : b < s.heap.size) (hL2 : L ≤ 3072) (hcs : cells ≤ 600000 ∧ slots ≤ 7302250) {i : Nat} (hi : i + 6 ≤ L) (hl : lv_has ls 4 [(3, .int (nI i)), (2, .ref (B + 191 + 0)), (1, .ref (B + 1)), (0, .ref b)]) (hL : LI G B E s μ ν H) (hR : REL μ ν) (kk : ∀ (H : Heap) (μ ν : Mem), LI G B E s μ ν H → REL μ ν → W p l e room_1 s m args below meth c H [] cells slots Q (F0 m 1317 ls [])) : W p l e room_1 s m args below meth c H [] cells slots Q (F0 m 212 ls []) := by
  have hx := X.1
  have hb := X.2.1
  obtain ⟨r, μ1, ν1, e1, e2, hR2⟩ := r_feed hR (xs (i + 1)) (xs (i + 2)) (xs (i + 3)) (xs (i + 4)) (xs (i + 5))
  refine lv_aload_n hx hb dL_law_212 rfl (lv_at hl 2 rfl) ?_
  refine lv_aload_n hx hb dL_law_213 rfl (lv_at hl 3 rfl) ?_
  refine lv_iload_n hx hb dL_law_214 rfl (lv_at hl 0 rfl) ?_
  refine lv_iconst (v := 1) hx hb dL_law_215 (by decide) ?_
  refine lv_iadd hx hb dL_law_216 ?_
  refine l_ld (j := i + 1) X hX hbl hL (by omega) hL2 (nI_add i 1) dL_law_217 ?_
  refine lv_aload_n hx hb dL_law_218 rfl (lv_at hl 3 rfl) ?_
  refine lv_iload_n hx hb dL_law_219 rfl (lv_at hl 0 rfl) ?_
  refine lv_iconst (v := 2) hx hb dL_law_220 (by decide) ?_
  refine lv_iadd hx hb dL_law_221 ?_
  refine l_ld (j := i + 2) X hX hbl hL (by omega) hL2 (nI_add i 2) dL_law_222 ?_
  refine lv_aload_n hx hb dL_law_223 rfl (lv_at hl 3 rfl) ?_
  refine lv_iload_n hx hb dL_law_224 rfl (lv_at hl 0 rfl) ?_
  refine lv_iconst (v := 3) hx hb dL_law_225 (by decide) ?_
  refine lv_iadd hx hb dL_law_226 ?_
  refine l_ld (j := i + 3) X hX hbl hL (by omega) hL2 (nI_add i 3) dL_law_227 ?_
  refine lv_aload_n hx hb dL_law_228 rfl (lv_at hl 3 rfl) ?_
  refine lv_iload_n hx hb dL_law_229 rfl (lv_at hl 0 rfl) ?_
  refine lv_iconst (v := 4) hx hb dL_law_230 (by decide) ?_
  refine lv_iadd hx hb dL_law_231 ?_
  refine l_ld (j := i + 4) X hX hbl hL (by omega) hL2 (nI_add i 4) dL_law_232 ?_
  refine lv_aload_n hx hb dL_law_233 rfl (lv_at hl 3 rfl) ?_
  refine lv_iload_n hx hb dL_law_234 rfl (lv_at hl 0 rfl) ?_
  refine lv_iconst (v := 5) hx hb dL_law_235 (by decide) ?_
  refine lv_iadd hx hb dL_law_236 ?_
  refine l_ld (j := i + 5) X hX hbl hL (by omega) hL2 (nI_add i 5) dL_law_237 ?_
  refine l_C (as := [.int (xs (i + 1)), .int (xs (i + 2)), .int (xs (i + 3)), .int (xs (i + 4)), .int (xs (i + 5))]) (rest := []) (c_X11_feed (FW_C hEX) e1) X hl.1 hL rfl mw_X11_feed wd_526 wd_527 wd_528 rfl ⟨by decide, by decide⟩ (Nat.le_of_ble_eq_true rfl) hcs dL_law_238 (fun H hL => ?_)
  refine lv_aload_n hx hb dL_law_241 rfl (lv_at hl 1 rfl) ?_
  refine lv_aload_n hx hb dL_law_242 rfl (lv_at hl 3 rfl) ?_
  refine lv_iload_n hx hb dL_law_243 rfl (lv_at hl 0 rfl) ?_
  refine lv_iconst (v := 1) hx hb dL_law_244 (by decide) ?_
  refine lv_iadd hx hb dL_law_245 ?_
  refine l_ld (j := i + 1) X hX hbl hL (by omega) hL2 (nI_add i 1) dL_law_246 ?_
  refine lv_aload_n hx hb dL_law_247 rfl (lv_at hl 3 rfl) ?_
  refine lv_iload_n hx hb dL_law_248 rfl (lv_at hl 0 rfl) ?_
  refine lv_iconst (v := 2) hx hb dL_law_249 (by decide) ?_
  refine lv_iadd hx hb dL_law_250 ?_
  refine l_ld (j := i + 2) X hX hbl hL (by omega) hL2 (nI_add i 2) dL_law_251 ?_
  refine lv_aload_n hx hb dL_law_252 rfl (lv_at hl 3 rfl) ?_
  refine lv_iload_n hx hb dL_law_253 rfl (lv_at hl 0 rfl) ?_
  refine lv_iconst (v := 3) hx hb dL_law_254 (by decide) ?_
  refine lv_iadd hx hb dL_law_255 ?_
  refine l_ld (j := i + 3) X hX hbl hL (by omega) hL2 (nI_add i 3) dL_law_256 ?_
  refine lv_aload_n hx hb dL_law_257 rfl (lv_at hl 3 rfl) ?_
  refine lv_iload_n hx hb dL_law_258 rfl (lv_at hl 0 rfl) ?_
  refine lv_iconst (v := 4) hx hb dL_law_259 (by decide) ?_
  refine lv_iadd hx hb dL_law_260 ?_
  refine l_ld (j := i + 4) X hX hbl hL (by omega) hL2 (nI_add i 4) dL_law_261 ?_
  refine lv_aload_n hx hb dL_law_262 rfl (lv_at hl 3 rfl) ?_
  refine lv_iload_n hx hb dL_law_263 rfl (lv_at hl 0 rfl) ?_
  refine lv_iconst (v := 5) hx hb dL_law_264 (by decide) ?_
  refine lv_iadd hx hb dL_law_265 ?_
  refine l_ld (j := i + 5) X hX hbl hL (by omega) hL2 (nI_add i 5) dL_law_266 ?_
  refine l_M (as := [.int (xs (i + 1)), .int (xs (i + 2)), .int (xs (i + 3)), .int (xs (i + 4)), .int (xs (i + 5))]) (rest := [.int r]) (c_X12_feed FW_M e2) X hl.1 hL rfl mw_X12_feed wd_1395 wd_1396 wd_1397 rfl ⟨by decide, by decide⟩ (Nat.le_of_ble_eq_true rfl) hcs dL_law_267 (fun H hL => ?_)
  refine lv_icmp_eq (tgt := 1317) hx hb dL_law_270 (by decide) (fun _ => ?_) (fun hc => absurd rfl hc)
  exact kk H μ1 ν1 hL hR2
theorem case_1 (X : LX G B E p s m args c) {Xx : Nat → Nat} (hEX : ∀ U, E U → EF Xx (fun q => B + 1 ≤ q) U) {b L : Nat} {xs : Nat → Int32} (hX : va_X b L xs s s.heap) (hbl : b < s.heap.size) (hL2 : L ≤ 3072) (hcs : cells ≤ 600000 ∧ slots ≤ 7302250) {i : Nat} (hi : i + 6 ≤ L) (hl : lv_has ls 4 [(3, .int (nI i)), (2, .ref (B + 191 + 0)), (1, .ref (B + 1)), (0, .ref b)]) (hL : LI G B E s μ ν H) (hR : REL μ ν) (kk : ∀ (H : Heap) (μ ν : Mem), LI G B E s μ ν H → REL μ ν → W p l e room_1 s m args below meth c H [] cells slots Q (F0 m 1317 ls [])) : W p l e room_1 s m args below meth c H [] cells slots Q (F0 m 275 ls []) := by
  have hx := X.1
  have hb := X.2.1
  obtain ⟨r, μ1, ν1, e1, e2, hR2⟩ := r_back hR (xs (i + 1))
  refine lv_aload_n hx hb dL_law_275 rfl (lv_at hl 2 rfl) ?_
  refine lv_aload_n hx hb dL_law_276 rfl (lv_at hl 3 rfl) ?_
  refine lv_iload_n hx hb dL_law_277 rfl (lv_at hl 0 rfl) ?_
  refine lv_iconst (v := 1) hx hb dL_law_278 (by decide) ?_
  refine lv_iadd hx hb dL_law_279 ?_
  refine l_ld (j := i + 1) X hX hbl hL (by omega) hL2 (nI_add i 1) dL_law_280 ?_
  refine l_C (as := [.int (xs (i + 1))]) (rest := []) (c_X11_back (FW_C hEX) e1) X hl.1 hL rfl mw_X11_back wd_534 wd_535 wd_536 rfl ⟨by decide, by decide⟩ (Nat.le_of_ble_eq_true rfl) hcs dL_law_281 (fun H hL => ?_)
  refine lv_aload_n hx hb dL_law_284 rfl (lv_at hl 1 rfl) ?_
  refine lv_aload_n hx hb dL_law_285 rfl (lv_at hl 3 rfl) ?_
  refine lv_iload_n hx hb dL_law_286 rfl (lv_at hl 0 rfl) ?_
  refine lv_iconst (v := 1) hx hb dL_law_287 (by decide) ?_
  refine lv_iadd hx hb dL_law_288 ?_
  refine l_ld (j := i + 1) X hX hbl hL (by omega) hL2 (nI_add i 1) dL_law_289 ?_
  refine l_M (as := [.int (xs (i + 1))]) (rest := [.int r]) (c_X12_back FW_M e2) X hl.1 hL rfl mw_X12_back wd_1403 wd_1404 wd_1405 rfl ⟨by decide, by decide⟩ (Nat.le_of_ble_eq_true rfl) hcs dL_law_290 (fun H hL => ?_)
  refine lv_icmp_eq (tgt := 1317) hx hb dL_law_293 (by decide) (fun _ => ?_) (fun hc => absurd rfl hc)
  exact kk H μ1 ν1 hL hR2
theorem case_2 (X : LX G B E p s m args c) {Xx : Nat → Nat} (hEX : ∀ U, E U → EF Xx (fun q => B + 1 ≤ q) U) {b L : Nat} {xs : Nat → Int32} (hX : va_X b L xs s s.heap) (hbl : b < s.heap.size) (hL2 : L ≤ 3072) (hcs : cells ≤ 600000 ∧ slots ≤ 7302250) {i : Nat} (hi : i + 6 ≤ L) (hl : lv_has ls 4 [(3, .int (nI i)), (2, .ref (B + 191 + 0)), (1, .ref (B + 1)), (0, .ref b)]) (hL : LI G B E s μ ν H) (hR : REL μ ν) (kk : ∀ (H : Heap) (μ ν : Mem), LI G B E s μ ν H → REL μ ν → W p l e room_1 s m args below meth c H [] cells slots Q (F0 m 1317 ls [])) : W p l e room_1 s m args below meth c H [] cells slots Q (F0 m 298 ls []) := by
  have hx := X.1
  have hb := X.2.1
  obtain ⟨r, μ1, ν1, e1, e2, hR2⟩ := r_read hR
  refine lv_aload_n hx hb dL_law_298 rfl (lv_at hl 2 rfl) ?_
  refine l_C (as := []) (rest := []) (c_X11_read (FW_C hEX) e1) X hl.1 hL rfl mw_X11_read wd_538 wd_539 wd_540 rfl ⟨by decide, by decide⟩ (Nat.le_of_ble_eq_true rfl) hcs dL_law_299 (fun H hL => ?_)
  refine lv_aload_n hx hb dL_law_302 rfl (lv_at hl 1 rfl) ?_
  refine l_M (as := []) (rest := [.int r]) (c_X12_read FW_M e2) X hl.1 hL rfl mw_X12_read wd_1407 wd_1408 wd_1409 rfl ⟨by decide, by decide⟩ (Nat.le_of_ble_eq_true rfl) hcs dL_law_303 (fun H hL => ?_)
  refine lv_icmp_eq (tgt := 1317) hx hb dL_law_306 (by decide) (fun _ => ?_) (fun hc => absurd rfl hc)
  exact kk H μ1 ν1 hL hR2
theorem case_3 (X : LX G B E p s m args c) {Xx : Nat → Nat} (hEX : ∀ U, E U → EF Xx (fun q => B + 1 ≤ q) U) {b L : Nat} {xs : Nat → Int32} (hX : va_X b L xs s s.heap) (hbl : b < s.heap.size) (hL2 : L ≤ 3072) (hcs : cells ≤ 600000 ∧ slots ≤ 7302250) {i : Nat} (hi : i + 6 ≤ L) (hl : lv_has ls 4 [(3, .int (nI i)), (2, .ref (B + 191 + 0)), (1, .ref (B + 1)), (0, .ref b)]) (hL : LI G B E s μ ν H) (hR : REL μ ν) (kk : ∀ (H : Heap) (μ ν : Mem), LI G B E s μ ν H → REL μ ν → W p l e room_1 s m args below meth c H [] cells slots Q (F0 m 1317 ls [])) : W p l e room_1 s m args below meth c H [] cells slots Q (F0 m 311 ls []) := by
  have hx := X.1
  have hb := X.2.1
  obtain ⟨r, e1, e2, hR2⟩ := r_place hR
  refine lv_aload_n hx hb dL_law_311 rfl (lv_at hl 2 rfl) ?_
  refine l_C (as := []) (rest := []) (c_X11_place (FW_C hEX) e1) X hl.1 hL rfl mw_X11_place wd_731 wd_732 wd_733 rfl ⟨by decide, by decide⟩ (Nat.le_of_ble_eq_true rfl) hcs dL_law_312 (fun H hL => ?_)
  refine lv_aload_n hx hb dL_law_315 rfl (lv_at hl 1 rfl) ?_
  refine l_M (as := []) (rest := [.int r]) (c_X12_place FW_M e2) X hl.1 hL rfl mw_X12_place wd_1493 wd_1494 wd_1495 rfl ⟨by decide, by decide⟩ (Nat.le_of_ble_eq_true rfl) hcs dL_law_316 (fun H hL => ?_)
  refine lv_icmp_eq (tgt := 1317) hx hb dL_law_319 (by decide) (fun _ => ?_) (fun hc => absurd rfl hc)
  exact kk H μ ν hL hR2
theorem case_4 (X : LX G B E p s m args c) {Xx : Nat → Nat} (hEX : ∀ U, E U → EF Xx (fun q => B + 1 ≤ q) U) {b L : Nat} {xs : Nat → Int32} (hX : va_X b L xs s s.heap) (hbl : b < s.heap.size) (hL2 : L ≤ 3072) (hcs : cells ≤ 600000 ∧ slots ≤ 7302250) {i : Nat} (hi : i + 6 ≤ L) (hl : lv_has ls 4 [(3, .int (nI i)), (2, .ref (B + 191 + 0)), (1, .ref (B + 1)), (0, .ref b)]) (hL : LI G B E s μ ν H) (hR : REL μ ν) (kk : ∀ (H : Heap) (μ ν : Mem), LI G B E s μ ν H → REL μ ν → W p l e room_1 s m args below meth c H [] cells slots Q (F0 m 1317 ls [])) : W p l e room_1 s m args below meth c H [] cells slots Q (F0 m 324 ls []) := by
  have hx := X.1
  have hb := X.2.1
  obtain ⟨r, μ1, ν1, e1, e2, hR2⟩ := r_house hR (xs (i + 1)) (xs (i + 2))
  refine lv_aload_n hx hb dL_law_324 rfl (lv_at hl 2 rfl) ?_
  refine lv_aload_n hx hb dL_law_325 rfl (lv_at hl 3 rfl) ?_
  refine lv_iload_n hx hb dL_law_326 rfl (lv_at hl 0 rfl) ?_
  refine lv_iconst (v := 1) hx hb dL_law_327 (by decide) ?_
  refine lv_iadd hx hb dL_law_328 ?_
  refine l_ld (j := i + 1) X hX hbl hL (by omega) hL2 (nI_add i 1) dL_law_329 ?_
  refine lv_aload_n hx hb dL_law_330 rfl (lv_at hl 3 rfl) ?_
  refine lv_iload_n hx hb dL_law_331 rfl (lv_at hl 0 rfl) ?_
  refine lv_iconst (v := 2) hx hb dL_law_332 (by decide) ?_
  refine lv_iadd hx hb dL_law_333 ?_
  refine l_ld (j := i + 2) X hX hbl hL (by omega) hL2 (nI_add i 2) dL_law_334 ?_
  refine l_C (as := [.int (xs (i + 1)), .int (xs (i + 2))]) (rest := []) (c_X11_house (FW_C hEX) e1) X hl.1 hL rfl mw_X11_house wd_735 wd_736 wd_737 rfl ⟨by decide, by decide⟩ (Nat.le_of_ble_eq_true rfl) hcs dL_law_335 (fun H hL => ?_)
  refine lv_aload_n hx hb dL_law_338 rfl (lv_at hl 1 rfl) ?_
  refine lv_aload_n hx hb dL_law_339 rfl (lv_at hl 3 rfl) ?_
  refine lv_iload_n hx hb dL_law_340 rfl (lv_at hl 0 rfl) ?_
  refine lv_iconst (v := 1) hx hb dL_law_341 (by decide) ?_
  refine lv_iadd hx hb dL_law_342 ?_
  refine l_ld (j := i + 1) X hX hbl hL (by omega) hL2 (nI_add i 1) dL_law_343 ?_
  refine lv_aload_n hx hb dL_law_344 rfl (lv_at hl 3 rfl) ?_
  refine lv_iload_n hx hb dL_law_345 rfl (lv_at hl 0 rfl) ?_
  refine lv_iconst (v := 2) hx hb dL_law_346 (by decide) ?_
  refine lv_iadd hx hb dL_law_347 ?_
  refine l_ld (j := i + 2) X hX hbl hL (by omega) hL2 (nI_add i 2) dL_law_348 ?_
  refine l_M (as := [.int (xs (i + 1)), .int (xs (i + 2))]) (rest := [.int r]) (c_X12_house FW_M e2) X hl.1 hL rfl mw_X12_house wd_1497 wd_1498 wd_1499 rfl ⟨by decide, by decide⟩ (Nat.le_of_ble_eq_true rfl) hcs dL_law_349 (fun H hL => ?_)
  refine lv_icmp_eq (tgt := 1317) hx hb dL_law_352 (by decide) (fun _ => ?_) (fun hc => absurd rfl hc)
  exact kk H μ1 ν1 hL hR2
theorem case_5 (X : LX G B E p s m args c) {Xx : Nat → Nat} (hEX : ∀ U, E U → EF Xx (fun q => B + 1 ≤ q) U) {b L : Nat} {xs : Nat → Int32} (hX : va_X b L xs s s.heap) (hbl : b < s.heap.size) (hL2 : L ≤ 3072) (hcs : cells ≤ 600000 ∧ slots ≤ 7302250) {i : Nat} (hi : i + 6 ≤ L) (hl : lv_has ls 4 [(3, .int (nI i)), (2, .ref (B + 191 + 0)), (1, .ref (B + 1)), (0, .ref b)]) (hL : LI G B E s μ ν H) (hR : REL μ ν) (kk : ∀ (H : Heap) (μ ν : Mem), LI G B E s μ ν H → REL μ ν → W p l e room_1 s m args below meth c H [] cells slots Q (F0 m 1317 ls [])) : W p l e room_1 s m args below meth c H [] cells slots Q (F0 m 357 ls []) := by
  have hx := X.1
  have hb := X.2.1
  obtain ⟨r, μ1, ν1, e1, e2, hR2⟩ := r_burn hR (xs (i + 1)) (xs (i + 2))
  refine lv_aload_n hx hb dL_law_357 rfl (lv_at hl 2 rfl) ?_
  refine lv_aload_n hx hb dL_law_358 rfl (lv_at hl 3 rfl) ?_
  refine lv_iload_n hx hb dL_law_359 rfl (lv_at hl 0 rfl) ?_
  refine lv_iconst (v := 1) hx hb dL_law_360 (by decide) ?_
  refine lv_iadd hx hb dL_law_361 ?_
  refine l_ld (j := i + 1) X hX hbl hL (by omega) hL2 (nI_add i 1) dL_law_362 ?_
  refine lv_aload_n hx hb dL_law_363 rfl (lv_at hl 3 rfl) ?_
  refine lv_iload_n hx hb dL_law_364 rfl (lv_at hl 0 rfl) ?_
  refine lv_iconst (v := 2) hx hb dL_law_365 (by decide) ?_
  refine lv_iadd hx hb dL_law_366 ?_
  refine l_ld (j := i + 2) X hX hbl hL (by omega) hL2 (nI_add i 2) dL_law_367 ?_
  refine l_C (as := [.int (xs (i + 1)), .int (xs (i + 2))]) (rest := []) (c_X11_burn (FW_C hEX) e1) X hl.1 hL rfl mw_X11_burn wd_819 wd_820 wd_821 rfl ⟨by decide, by decide⟩ (Nat.le_of_ble_eq_true rfl) hcs dL_law_368 (fun H hL => ?_)
  refine lv_aload_n hx hb dL_law_371 rfl (lv_at hl 1 rfl) ?_
  refine lv_aload_n hx hb dL_law_372 rfl (lv_at hl 3 rfl) ?_
  refine lv_iload_n hx hb dL_law_373 rfl (lv_at hl 0 rfl) ?_
  refine lv_iconst (v := 1) hx hb dL_law_374 (by decide) ?_
  refine lv_iadd hx hb dL_law_375 ?_
  refine l_ld (j := i + 1) X hX hbl hL (by omega) hL2 (nI_add i 1) dL_law_376 ?_
  refine lv_aload_n hx hb dL_law_377 rfl (lv_at hl 3 rfl) ?_
  refine lv_iload_n hx hb dL_law_378 rfl (lv_at hl 0 rfl) ?_
  refine lv_iconst (v := 2) hx hb dL_law_379 (by decide) ?_
  refine lv_iadd hx hb dL_law_380 ?_
  refine l_ld (j := i + 2) X hX hbl hL (by omega) hL2 (nI_add i 2) dL_law_381 ?_
  refine l_M (as := [.int (xs (i + 1)), .int (xs (i + 2))]) (rest := [.int r]) (c_X12_burn FW_M e2) X hl.1 hL rfl mw_X12_burn wd_1547 wd_1548 wd_1549 rfl ⟨by decide, by decide⟩ (Nat.le_of_ble_eq_true rfl) hcs dL_law_382 (fun H hL => ?_)
  refine lv_icmp_eq (tgt := 1317) hx hb dL_law_385 (by decide) (fun _ => ?_) (fun hc => absurd rfl hc)
  exact kk H μ1 ν1 hL hR2
theorem case_6 (X : LX G B E p s m args c) {Xx : Nat → Nat} (hEX : ∀ U, E U → EF Xx (fun q => B + 1 ≤ q) U) {b L : Nat} {xs : Nat → Int32} (hX : va_X b L xs s s.heap) (hbl : b < s.heap.size) (hL2 : L ≤ 3072) (hcs : cells ≤ 600000 ∧ slots ≤ 7302250) {i : Nat} (hi : i + 6 ≤ L) (hl : lv_has ls 4 [(3, .int (nI i)), (2, .ref (B + 191 + 0)), (1, .ref (B + 1)), (0, .ref b)]) (hL : LI G B E s μ ν H) (hR : REL μ ν) (kk : ∀ (H : Heap) (μ ν : Mem), LI G B E s μ ν H → REL μ ν → W p l e room_1 s m args below meth c H [] cells slots Q (F0 m 1317 ls [])) : W p l e room_1 s m args below meth c H [] cells slots Q (F0 m 390 ls []) := by
  have hx := X.1
  have hb := X.2.1
  obtain ⟨r, μ1, ν1, e1, e2, hR2⟩ := r_door hR (xs (i + 1)) (bz (xs (i + 2))) (bz_01 _)
  refine lv_aload_n hx hb dL_law_390 rfl (lv_at hl 2 rfl) ?_
  refine lv_aload_n hx hb dL_law_391 rfl (lv_at hl 3 rfl) ?_
  refine lv_iload_n hx hb dL_law_392 rfl (lv_at hl 0 rfl) ?_
  refine lv_iconst (v := 1) hx hb dL_law_393 (by decide) ?_
  refine lv_iadd hx hb dL_law_394 ?_
  refine l_ld (j := i + 1) X hX hbl hL (by omega) hL2 (nI_add i 1) dL_law_395 ?_
  refine lv_aload_n hx hb dL_law_396 rfl (lv_at hl 3 rfl) ?_
  refine lv_iload_n hx hb dL_law_397 rfl (lv_at hl 0 rfl) ?_
  refine lv_iconst (v := 2) hx hb dL_law_398 (by decide) ?_
  refine lv_iadd hx hb dL_law_399 ?_
  refine l_ld (j := i + 2) X hX hbl hL (by omega) hL2 (nI_add i 2) dL_law_400 ?_
  refine bz_road (x := (xs (i + 2))) (tgt := 408) hx hb dL_law_401 (by decide) dL_law_404 dL_law_405 (by decide) dL_law_408 ?_
  refine l_C (as := [.int (xs (i + 1)), .int (bz (xs (i + 2)))]) (rest := []) (c_X11_door (FW_C hEX) e1) X hl.1 hL rfl mw_X11_door wd_838 wd_839 wd_840 rfl ⟨by decide, by decide⟩ (Nat.le_of_ble_eq_true rfl) hcs dL_law_409 (fun H hL => ?_)
  refine lv_aload_n hx hb dL_law_412 rfl (lv_at hl 1 rfl) ?_
  refine lv_aload_n hx hb dL_law_413 rfl (lv_at hl 3 rfl) ?_
  refine lv_iload_n hx hb dL_law_414 rfl (lv_at hl 0 rfl) ?_
  refine lv_iconst (v := 1) hx hb dL_law_415 (by decide) ?_
  refine lv_iadd hx hb dL_law_416 ?_
  refine l_ld (j := i + 1) X hX hbl hL (by omega) hL2 (nI_add i 1) dL_law_417 ?_
  refine lv_aload_n hx hb dL_law_418 rfl (lv_at hl 3 rfl) ?_
  refine lv_iload_n hx hb dL_law_419 rfl (lv_at hl 0 rfl) ?_
  refine lv_iconst (v := 2) hx hb dL_law_420 (by decide) ?_
  refine lv_iadd hx hb dL_law_421 ?_
  refine l_ld (j := i + 2) X hX hbl hL (by omega) hL2 (nI_add i 2) dL_law_422 ?_
  refine bz_road (x := (xs (i + 2))) (tgt := 430) hx hb dL_law_423 (by decide) dL_law_426 dL_law_427 (by decide) dL_law_430 ?_
  refine l_M (as := [.int (xs (i + 1)), .int (bz (xs (i + 2)))]) (rest := [.int r]) (c_X12_door FW_M e2) X hl.1 hL rfl mw_X12_door wd_1563 wd_1564 wd_1565 rfl ⟨by decide, by decide⟩ (Nat.le_of_ble_eq_true rfl) hcs dL_law_431 (fun H hL => ?_)
  refine lv_icmp_eq (tgt := 1317) hx hb dL_law_434 (by decide) (fun _ => ?_) (fun hc => absurd rfl hc)
  exact kk H μ1 ν1 hL hR2
theorem case_7 (X : LX G B E p s m args c) {Xx : Nat → Nat} (hEX : ∀ U, E U → EF Xx (fun q => B + 1 ≤ q) U) {b L : Nat} {xs : Nat → Int32} (hX : va_X b L xs s s.heap) (hbl : b < s.heap.size) (hL2 : L ≤ 3072) (hcs : cells ≤ 600000 ∧ slots ≤ 7302250) {i : Nat} (hi : i + 6 ≤ L) (hl : lv_has ls 4 [(3, .int (nI i)), (2, .ref (B + 191 + 0)), (1, .ref (B + 1)), (0, .ref b)]) (hL : LI G B E s μ ν H) (hR : REL μ ν) (kk : ∀ (H : Heap) (μ ν : Mem), LI G B E s μ ν H → REL μ ν → W p l e room_1 s m args below meth c H [] cells slots Q (F0 m 1317 ls [])) : W p l e room_1 s m args below meth c H [] cells slots Q (F0 m 439 ls []) := by
  have hx := X.1
  have hb := X.2.1
  obtain ⟨r, μ1, ν1, e1, e2, hR2⟩ := r_mend hR (xs (i + 1))
  refine lv_aload_n hx hb dL_law_439 rfl (lv_at hl 2 rfl) ?_
  refine lv_aload_n hx hb dL_law_440 rfl (lv_at hl 3 rfl) ?_
  refine lv_iload_n hx hb dL_law_441 rfl (lv_at hl 0 rfl) ?_
  refine lv_iconst (v := 1) hx hb dL_law_442 (by decide) ?_
  refine lv_iadd hx hb dL_law_443 ?_
  refine l_ld (j := i + 1) X hX hbl hL (by omega) hL2 (nI_add i 1) dL_law_444 ?_
  refine l_C (as := [.int (xs (i + 1))]) (rest := []) (c_X11_mend (FW_C hEX) e1) X hl.1 hL rfl mw_X11_mend wd_843 wd_844 wd_845 rfl ⟨by decide, by decide⟩ (Nat.le_of_ble_eq_true rfl) hcs dL_law_445 (fun H hL => ?_)
  refine lv_aload_n hx hb dL_law_448 rfl (lv_at hl 1 rfl) ?_
  refine lv_aload_n hx hb dL_law_449 rfl (lv_at hl 3 rfl) ?_
  refine lv_iload_n hx hb dL_law_450 rfl (lv_at hl 0 rfl) ?_
  refine lv_iconst (v := 1) hx hb dL_law_451 (by decide) ?_
  refine lv_iadd hx hb dL_law_452 ?_
  refine l_ld (j := i + 1) X hX hbl hL (by omega) hL2 (nI_add i 1) dL_law_453 ?_
  refine l_M (as := [.int (xs (i + 1))]) (rest := [.int r]) (c_X12_mend FW_M e2) X hl.1 hL rfl mw_X12_mend wd_1567 wd_1568 wd_1569 rfl ⟨by decide, by decide⟩ (Nat.le_of_ble_eq_true rfl) hcs dL_law_454 (fun H hL => ?_)
  refine lv_icmp_eq (tgt := 1317) hx hb dL_law_457 (by decide) (fun _ => ?_) (fun hc => absurd rfl hc)
  exact kk H μ1 ν1 hL hR2
theorem case_8 (X : LX G B E p s m args c) {Xx : Nat → Nat} (hEX : ∀ U, E U → EF Xx (fun q => B + 1 ≤ q) U) {b L : Nat} {xs : Nat → Int32} (hX : va_X b L xs s s.heap) (hbl : b < s.heap.size) (hL2 : L ≤ 3072) (hcs : cells ≤ 600000 ∧ slots ≤ 7302250) {i : Nat} (hi : i + 6 ≤ L) (hl : lv_has ls 4 [(3, .int (nI i)), (2, .ref (B + 191 + 0)), (1, .ref (B + 1)), (0, .ref b)]) (hL : LI G B E s μ ν H) (hR : REL μ ν) (kk : ∀ (H : Heap) (μ ν : Mem), LI G B E s μ ν H → REL μ ν → W p l e room_1 s m args below meth c H [] cells slots Q (F0 m 1317 ls [])) : W p l e room_1 s m args below meth c H [] cells slots Q (F0 m 462 ls []) := by
  have hx := X.1
  have hb := X.2.1
  obtain ⟨r, μ1, ν1, e1, e2, hR2⟩ := r_cut hR (xs (i + 1)) (xs (i + 2))
  refine lv_aload_n hx hb dL_law_462 rfl (lv_at hl 2 rfl) ?_
  refine lv_aload_n hx hb dL_law_463 rfl (lv_at hl 3 rfl) ?_
  refine lv_iload_n hx hb dL_law_464 rfl (lv_at hl 0 rfl) ?_
  refine lv_iconst (v := 1) hx hb dL_law_465 (by decide) ?_
  refine lv_iadd hx hb dL_law_466 ?_
  refine l_ld (j := i + 1) X hX hbl hL (by omega) hL2 (nI_add i 1) dL_law_467 ?_
  refine lv_aload_n hx hb dL_law_468 rfl (lv_at hl 3 rfl) ?_
  refine lv_iload_n hx hb dL_law_469 rfl (lv_at hl 0 rfl) ?_
  refine lv_iconst (v := 2) hx hb dL_law_470 (by decide) ?_
  refine lv_iadd hx hb dL_law_471 ?_
  refine l_ld (j := i + 2) X hX hbl hL (by omega) hL2 (nI_add i 2) dL_law_472 ?_
  refine l_C (as := [.int (xs (i + 1)), .int (xs (i + 2))]) (rest := []) (c_X11_cut (FW_C hEX) e1) X hl.1 hL rfl mw_X11_cut wd_847 wd_848 wd_849 rfl ⟨by decide, by decide⟩ (Nat.le_of_ble_eq_true rfl) hcs dL_law_473 (fun H hL => ?_)
  refine lv_aload_n hx hb dL_law_476 rfl (lv_at hl 1 rfl) ?_
  refine lv_aload_n hx hb dL_law_477 rfl (lv_at hl 3 rfl) ?_
  refine lv_iload_n hx hb dL_law_478 rfl (lv_at hl 0 rfl) ?_
  refine lv_iconst (v := 1) hx hb dL_law_479 (by decide) ?_
  refine lv_iadd hx hb dL_law_480 ?_
  refine l_ld (j := i + 1) X hX hbl hL (by omega) hL2 (nI_add i 1) dL_law_481 ?_
  refine lv_aload_n hx hb dL_law_482 rfl (lv_at hl 3 rfl) ?_
  refine lv_iload_n hx hb dL_law_483 rfl (lv_at hl 0 rfl) ?_
  refine lv_iconst (v := 2) hx hb dL_law_484 (by decide) ?_
  refine lv_iadd hx hb dL_law_485 ?_
  refine l_ld (j := i + 2) X hX hbl hL (by omega) hL2 (nI_add i 2) dL_law_486 ?_
  refine l_M (as := [.int (xs (i + 1)), .int (xs (i + 2))]) (rest := [.int r]) (c_X12_cut FW_M e2) X hl.1 hL rfl mw_X12_cut wd_1571 wd_1572 wd_1573 rfl ⟨by decide, by decide⟩ (Nat.le_of_ble_eq_true rfl) hcs dL_law_487 (fun H hL => ?_)
  refine lv_icmp_eq (tgt := 1317) hx hb dL_law_490 (by decide) (fun _ => ?_) (fun hc => absurd rfl hc)
  exact kk H μ1 ν1 hL hR2
theorem case_9 (X : LX G B E p s m args c) {Xx : Nat → Nat} (hEX : ∀ U, E U → EF Xx (fun q => B + 1 ≤ q) U) {b L : Nat} {xs : Nat → Int32} (hX : va_X b L xs s s.heap) (hbl : b < s.heap.size) (hL2 : L ≤ 3072) (hcs : cells ≤ 600000 ∧ slots ≤ 7302250) {i : Nat} (hi : i + 6 ≤ L) (hl : lv_has ls 4 [(3, .int (nI i)), (2, .ref (B + 191 + 0)), (1, .ref (B + 1)), (0, .ref b)]) (hL : LI G B E s μ ν H) (hR : REL μ ν) (kk : ∀ (H : Heap) (μ ν : Mem), LI G B E s μ ν H → REL μ ν → W p l e room_1 s m args below meth c H [] cells slots Q (F0 m 1317 ls [])) : W p l e room_1 s m args below meth c H [] cells slots Q (F0 m 495 ls []) := by
  have hx := X.1
  have hb := X.2.1
  obtain ⟨r, μ1, ν1, e1, e2, hR2⟩ := r_bring hR (xs (i + 1))
  refine lv_aload_n hx hb dL_law_495 rfl (lv_at hl 2 rfl) ?_
  refine lv_aload_n hx hb dL_law_496 rfl (lv_at hl 3 rfl) ?_
  refine lv_iload_n hx hb dL_law_497 rfl (lv_at hl 0 rfl) ?_
  refine lv_iconst (v := 1) hx hb dL_law_498 (by decide) ?_
  refine lv_iadd hx hb dL_law_499 ?_
  refine l_ld (j := i + 1) X hX hbl hL (by omega) hL2 (nI_add i 1) dL_law_500 ?_
  refine l_C (as := [.int (xs (i + 1))]) (rest := []) (c_X11_bring (FW_C hEX) e1) X hl.1 hL rfl mw_X11_bring wd_852 wd_853 wd_854 rfl ⟨by decide, by decide⟩ (Nat.le_of_ble_eq_true rfl) hcs dL_law_501 (fun H hL => ?_)
  refine lv_aload_n hx hb dL_law_504 rfl (lv_at hl 1 rfl) ?_
  refine lv_aload_n hx hb dL_law_505 rfl (lv_at hl 3 rfl) ?_
  refine lv_iload_n hx hb dL_law_506 rfl (lv_at hl 0 rfl) ?_
  refine lv_iconst (v := 1) hx hb dL_law_507 (by decide) ?_
  refine lv_iadd hx hb dL_law_508 ?_
  refine l_ld (j := i + 1) X hX hbl hL (by omega) hL2 (nI_add i 1) dL_law_509 ?_
  refine l_M (as := [.int (xs (i + 1))]) (rest := [.int r]) (c_X12_bring FW_M e2) X hl.1 hL rfl mw_X12_bring wd_1575 wd_1576 wd_1577 rfl ⟨by decide, by decide⟩ (Nat.le_of_ble_eq_true rfl) hcs dL_law_510 (fun H hL => ?_)
  refine lv_icmp_eq (tgt := 1317) hx hb dL_law_513 (by decide) (fun _ => ?_) (fun hc => absurd rfl hc)
  exact kk H μ1 ν1 hL hR2
theorem case_10 (X : LX G B E p s m args c) {Xx : Nat → Nat} (hEX : ∀ U, E U → EF Xx (fun q => B + 1 ≤ q) U) {b L : Nat} {xs : Nat → Int32} (hX : va_X b L xs s s.heap) (hbl : b < s.heap.size) (hL2 : L ≤ 3072) (hcs : cells ≤ 600000 ∧ slots ≤ 7302250) {i : Nat} (hi : i + 6 ≤ L) (hl : lv_has ls 4 [(3, .int (nI i)), (2, .ref (B + 191 + 0)), (1, .ref (B + 1)), (0, .ref b)]) (hL : LI G B E s μ ν H) (hR : REL μ ν) (kk : ∀ (H : Heap) (μ ν : Mem), LI G B E s μ ν H → REL μ ν → W p l e room_1 s m args below meth c H [] cells slots Q (F0 m 1317 ls [])) : W p l e room_1 s m args below meth c H [] cells slots Q (F0 m 518 ls []) := by
  have hx := X.1
  have hb := X.2.1
  obtain ⟨r, μ1, ν1, e1, e2, hR2⟩ := r_days hR (xs (i + 1))
  refine lv_aload_n hx hb dL_law_518 rfl (lv_at hl 2 rfl) ?_
  refine lv_aload_n hx hb dL_law_519 rfl (lv_at hl 3 rfl) ?_
  refine lv_iload_n hx hb dL_law_520 rfl (lv_at hl 0 rfl) ?_
  refine lv_iconst (v := 1) hx hb dL_law_521 (by decide) ?_
  refine lv_iadd hx hb dL_law_522 ?_
  refine l_ld (j := i + 1) X hX hbl hL (by omega) hL2 (nI_add i 1) dL_law_523 ?_
  refine l_C (as := [.int (xs (i + 1))]) (rest := []) (c_X11_days (FW_C hEX) e1) X hl.1 hL rfl mw_X11_days wd_856 wd_857 wd_858 rfl ⟨by decide, by decide⟩ (Nat.le_of_ble_eq_true rfl) hcs dL_law_524 (fun H hL => ?_)
  refine lv_aload_n hx hb dL_law_527 rfl (lv_at hl 1 rfl) ?_
  refine lv_aload_n hx hb dL_law_528 rfl (lv_at hl 3 rfl) ?_
  refine lv_iload_n hx hb dL_law_529 rfl (lv_at hl 0 rfl) ?_
  refine lv_iconst (v := 1) hx hb dL_law_530 (by decide) ?_
  refine lv_iadd hx hb dL_law_531 ?_
  refine l_ld (j := i + 1) X hX hbl hL (by omega) hL2 (nI_add i 1) dL_law_532 ?_
  refine l_M (as := [.int (xs (i + 1))]) (rest := [.int r]) (c_X12_days FW_M e2) X hl.1 hL rfl mw_X12_days wd_1579 wd_1580 wd_1581 rfl ⟨by decide, by decide⟩ (Nat.le_of_ble_eq_true rfl) hcs dL_law_533 (fun H hL => ?_)
  refine lv_icmp_eq (tgt := 1317) hx hb dL_law_536 (by decide) (fun _ => ?_) (fun hc => absurd rfl hc)
  exact kk H μ1 ν1 hL hR2
theorem case_11 (X : LX G B E p s m args c) {Xx : Nat → Nat} (hEX : ∀ U, E U → EF Xx (fun q => B + 1 ≤ q) U) {b L : Nat} {xs : Nat → Int32} (hX : va_X b L xs s s.heap) (hbl : b < s.heap.size) (hL2 : L ≤ 3072) (hcs : cells ≤ 600000 ∧ slots ≤ 7302250) {i : Nat} (hi : i + 6 ≤ L) (hl : lv_has ls 4 [(3, .int (nI i)), (2, .ref (B + 191 + 0)), (1, .ref (B + 1)), (0, .ref b)]) (hL : LI G B E s μ ν H) (hR : REL μ ν) (kk : ∀ (H : Heap) (μ ν : Mem), LI G B E s μ ν H → REL μ ν → W p l e room_1 s m args below meth c H [] cells slots Q (F0 m 1317 ls [])) : W p l e room_1 s m args below meth c H [] cells slots Q (F0 m 541 ls []) := by
  have hx := X.1
  have hb := X.2.1
  obtain ⟨r, μ1, ν1, e1, e2, hR2⟩ := r_undo hR
  refine lv_aload_n hx hb dL_law_541 rfl (lv_at hl 2 rfl) ?_
  refine l_C (as := []) (rest := []) (c_X11_undo (FW_C hEX) e1) X hl.1 hL rfl mw_X11_undo wd_887 wd_888 wd_889 rfl ⟨by decide, by decide⟩ (Nat.le_of_ble_eq_true rfl) hcs dL_law_542 (fun H hL => ?_)
  refine lv_aload_n hx hb dL_law_545 rfl (lv_at hl 1 rfl) ?_
  refine l_M (as := []) (rest := [.int r]) (c_X12_undo FW_M e2) X hl.1 hL rfl mw_X12_undo wd_1610 wd_1611 wd_1612 rfl ⟨by decide, by decide⟩ (Nat.le_of_ble_eq_true rfl) hcs dL_law_546 (fun H hL => ?_)
  refine lv_icmp_eq (tgt := 1317) hx hb dL_law_549 (by decide) (fun _ => ?_) (fun hc => absurd rfl hc)
  exact kk H μ1 ν1 hL hR2
theorem case_12 (X : LX G B E p s m args c) {Xx : Nat → Nat} (hEX : ∀ U, E U → EF Xx (fun q => B + 1 ≤ q) U) {b L : Nat} {xs : Nat → Int32} (hX : va_X b L xs s s.heap) (hbl : b < s.heap.size) (hL2 : L ≤ 3072) (hcs : cells ≤ 600000 ∧ slots ≤ 7302250) {i : Nat} (hi : i + 6 ≤ L) (hl : lv_has ls 4 [(3, .int (nI i)), (2, .ref (B + 191 + 0)), (1, .ref (B + 1)), (0, .ref b)]) (hL : LI G B E s μ ν H) (hR : REL μ ν) (kk : ∀ (H : Heap) (μ ν : Mem), LI G B E s μ ν H → REL μ ν → W p l e room_1 s m args below meth c H [] cells slots Q (F0 m 1317 ls [])) : W p l e room_1 s m args below meth c H [] cells slots Q (F0 m 554 ls []) := by
  have hx := X.1
  have hb := X.2.1
  obtain ⟨r, μ1, ν1, e1, e2, hR2⟩ := r_loss hR (xs (i + 1)) (xs (i + 2))
  refine lv_aload_n hx hb dL_law_554 rfl (lv_at hl 2 rfl) ?_
  refine lv_aload_n hx hb dL_law_555 rfl (lv_at hl 3 rfl) ?_
  refine lv_iload_n hx hb dL_law_556 rfl (lv_at hl 0 rfl) ?_
  refine lv_iconst (v := 1) hx hb dL_law_557 (by decide) ?_
  refine lv_iadd hx hb dL_law_558 ?_
  refine l_ld (j := i + 1) X hX hbl hL (by omega) hL2 (nI_add i 1) dL_law_559 ?_
  refine lv_aload_n hx hb dL_law_560 rfl (lv_at hl 3 rfl) ?_
  refine lv_iload_n hx hb dL_law_561 rfl (lv_at hl 0 rfl) ?_
  refine lv_iconst (v := 2) hx hb dL_law_562 (by decide) ?_
  refine lv_iadd hx hb dL_law_563 ?_
  refine l_ld (j := i + 2) X hX hbl hL (by omega) hL2 (nI_add i 2) dL_law_564 ?_
  refine l_C (as := [.int (xs (i + 1)), .int (xs (i + 2))]) (rest := []) (c_X11_loss (FW_C hEX) e1) X hl.1 hL rfl mw_X11_loss wd_911 wd_912 wd_913 rfl ⟨by decide, by decide⟩ (Nat.le_of_ble_eq_true rfl) hcs dL_law_565 (fun H hL => ?_)
  refine lv_aload_n hx hb dL_law_568 rfl (lv_at hl 1 rfl) ?_
  refine lv_aload_n hx hb dL_law_569 rfl (lv_at hl 3 rfl) ?_
  refine lv_iload_n hx hb dL_law_570 rfl (lv_at hl 0 rfl) ?_
  refine lv_iconst (v := 1) hx hb dL_law_571 (by decide) ?_
  refine lv_iadd hx hb dL_law_572 ?_
  refine l_ld (j := i + 1) X hX hbl hL (by omega) hL2 (nI_add i 1) dL_law_573 ?_
  refine lv_aload_n hx hb dL_law_574 rfl (lv_at hl 3 rfl) ?_
  refine lv_iload_n hx hb dL_law_575 rfl (lv_at hl 0 rfl) ?_
  refine lv_iconst (v := 2) hx hb dL_law_576 (by decide) ?_
  refine lv_iadd hx hb dL_law_577 ?_
  refine l_ld (j := i + 2) X hX hbl hL (by omega) hL2 (nI_add i 2) dL_law_578 ?_
  refine l_M (as := [.int (xs (i + 1)), .int (xs (i + 2))]) (rest := [.int r]) (c_X12_loss FW_M e2) X hl.1 hL rfl mw_X12_loss wd_1614 wd_1615 wd_1616 rfl ⟨by decide, by decide⟩ (Nat.le_of_ble_eq_true rfl) hcs dL_law_579 (fun H hL => ?_)
  refine lv_icmp_eq (tgt := 1317) hx hb dL_law_582 (by decide) (fun _ => ?_) (fun hc => absurd rfl hc)
  exact kk H μ1 ν1 hL hR2
theorem case_13 (X : LX G B E p s m args c) {Xx : Nat → Nat} (hEX : ∀ U, E U → EF Xx (fun q => B + 1 ≤ q) U) {b L : Nat} {xs : Nat → Int32} (hX : va_X b L xs s s.heap) (hbl : b < s.heap.size) (hL2 : L ≤ 3072) (hcs : cells ≤ 600000 ∧ slots ≤ 7302250) {i : Nat} (hi : i + 6 ≤ L) (hl : lv_has ls 4 [(3, .int (nI i)), (2, .ref (B + 191 + 0)), (1, .ref (B + 1)), (0, .ref b)]) (hL : LI G B E s μ ν H) (hR : REL μ ν) (kk : ∀ (H : Heap) (μ ν : Mem), LI G B E s μ ν H → REL μ ν → W p l e room_1 s m args below meth c H [] cells slots Q (F0 m 1317 ls [])) : W p l e room_1 s m args below meth c H [] cells slots Q (F0 m 587 ls []) := by
  have hx := X.1
  have hb := X.2.1
  obtain ⟨r, μ1, ν1, e1, e2, hR2⟩ := r_share hR (xs (i + 1)) (xs (i + 2))
  refine lv_aload_n hx hb dL_law_587 rfl (lv_at hl 2 rfl) ?_
  refine lv_aload_n hx hb dL_law_588 rfl (lv_at hl 3 rfl) ?_
  refine lv_iload_n hx hb dL_law_589 rfl (lv_at hl 0 rfl) ?_
  refine lv_iconst (v := 1) hx hb dL_law_590 (by decide) ?_
  refine lv_iadd hx hb dL_law_591 ?_
  refine l_ld (j := i + 1) X hX hbl hL (by omega) hL2 (nI_add i 1) dL_law_592 ?_
  refine lv_aload_n hx hb dL_law_593 rfl (lv_at hl 3 rfl) ?_
  refine lv_iload_n hx hb dL_law_594 rfl (lv_at hl 0 rfl) ?_
  refine lv_iconst (v := 2) hx hb dL_law_595 (by decide) ?_
  refine lv_iadd hx hb dL_law_596 ?_
  refine l_ld (j := i + 2) X hX hbl hL (by omega) hL2 (nI_add i 2) dL_law_597 ?_
  refine l_C (as := [.int (xs (i + 1)), .int (xs (i + 2))]) (rest := []) (c_X11_share (FW_C hEX) e1) X hl.1 hL rfl mw_X11_share wd_920 wd_921 wd_922 rfl ⟨by decide, by decide⟩ (Nat.le_of_ble_eq_true rfl) hcs dL_law_598 (fun H hL => ?_)
  refine lv_aload_n hx hb dL_law_601 rfl (lv_at hl 1 rfl) ?_
  refine lv_aload_n hx hb dL_law_602 rfl (lv_at hl 3 rfl) ?_
  refine lv_iload_n hx hb dL_law_603 rfl (lv_at hl 0 rfl) ?_
  refine lv_iconst (v := 1) hx hb dL_law_604 (by decide) ?_
  refine lv_iadd hx hb dL_law_605 ?_
  refine l_ld (j := i + 1) X hX hbl hL (by omega) hL2 (nI_add i 1) dL_law_606 ?_
  refine lv_aload_n hx hb dL_law_607 rfl (lv_at hl 3 rfl) ?_
  refine lv_iload_n hx hb dL_law_608 rfl (lv_at hl 0 rfl) ?_
  refine lv_iconst (v := 2) hx hb dL_law_609 (by decide) ?_
  refine lv_iadd hx hb dL_law_610 ?_
  refine l_ld (j := i + 2) X hX hbl hL (by omega) hL2 (nI_add i 2) dL_law_611 ?_
  refine l_M (as := [.int (xs (i + 1)), .int (xs (i + 2))]) (rest := [.int r]) (c_X12_share FW_M e2) X hl.1 hL rfl mw_X12_share wd_1621 wd_1622 wd_1623 rfl ⟨by decide, by decide⟩ (Nat.le_of_ble_eq_true rfl) hcs dL_law_612 (fun H hL => ?_)
  refine lv_icmp_eq (tgt := 1317) hx hb dL_law_615 (by decide) (fun _ => ?_) (fun hc => absurd rfl hc)
  exact kk H μ1 ν1 hL hR2
theorem case_14 (X : LX G B E p s m args c) {Xx : Nat → Nat} (hEX : ∀ U, E U → EF Xx (fun q => B + 1 ≤ q) U) {b L : Nat} {xs : Nat → Int32} (hX : va_X b L xs s s.heap) (hbl : b < s.heap.size) (hL2 : L ≤ 3072) (hcs : cells ≤ 600000 ∧ slots ≤ 7302250) {i : Nat} (hi : i + 6 ≤ L) (hl : lv_has ls 4 [(3, .int (nI i)), (2, .ref (B + 191 + 0)), (1, .ref (B + 1)), (0, .ref b)]) (hL : LI G B E s μ ν H) (hR : REL μ ν) (kk : ∀ (H : Heap) (μ ν : Mem), LI G B E s μ ν H → REL μ ν → W p l e room_1 s m args below meth c H [] cells slots Q (F0 m 1317 ls [])) : W p l e room_1 s m args below meth c H [] cells slots Q (F0 m 620 ls []) := by
  have hx := X.1
  have hb := X.2.1
  obtain ⟨r, μ1, ν1, e1, e2, hR2⟩ := r_enough hR
  refine lv_aload_n hx hb dL_law_620 rfl (lv_at hl 2 rfl) ?_
  refine l_C (as := []) (rest := []) (c_X11_enough (FW_C hEX) e1) X hl.1 hL rfl mw_X11_enough wd_948 wd_949 wd_950 rfl ⟨by decide, by decide⟩ (Nat.le_of_ble_eq_true rfl) hcs dL_law_621 (fun H hL => ?_)
  refine lv_aload_n hx hb dL_law_624 rfl (lv_at hl 1 rfl) ?_
  refine l_M (as := []) (rest := [.int r]) (c_X12_enough FW_M e2) X hl.1 hL rfl mw_X12_enough wd_1641 wd_1642 wd_1643 rfl ⟨by decide, by decide⟩ (Nat.le_of_ble_eq_true rfl) hcs dL_law_625 (fun H hL => ?_)
  refine lv_icmp_eq (tgt := 1317) hx hb dL_law_628 (by decide) (fun _ => ?_) (fun hc => absurd rfl hc)
  exact kk H μ1 ν1 hL hR2
theorem case_15 (X : LX G B E p s m args c) {Xx : Nat → Nat} (hEX : ∀ U, E U → EF Xx (fun q => B + 1 ≤ q) U) {b L : Nat} {xs : Nat → Int32} (hX : va_X b L xs s s.heap) (hbl : b < s.heap.size) (hL2 : L ≤ 3072) (hcs : cells ≤ 600000 ∧ slots ≤ 7302250) {i : Nat} (hi : i + 6 ≤ L) (hl : lv_has ls 4 [(3, .int (nI i)), (2, .ref (B + 191 + 0)), (1, .ref (B + 1)), (0, .ref b)]) (hL : LI G B E s μ ν H) (hR : REL μ ν) (kk : ∀ (H : Heap) (μ ν : Mem), LI G B E s μ ν H → REL μ ν → W p l e room_1 s m args below meth c H [] cells slots Q (F0 m 1317 ls [])) : W p l e room_1 s m args below meth c H [] cells slots Q (F0 m 633 ls []) := by
  have hx := X.1
  have hb := X.2.1
  obtain ⟨r, μ1, ν1, e1, e2, hR2⟩ := r_plan hR (xs (i + 1)) (xs (i + 2))
  refine lv_aload_n hx hb dL_law_633 rfl (lv_at hl 2 rfl) ?_
  refine lv_aload_n hx hb dL_law_634 rfl (lv_at hl 3 rfl) ?_
  refine lv_iload_n hx hb dL_law_635 rfl (lv_at hl 0 rfl) ?_
  refine lv_iconst (v := 1) hx hb dL_law_636 (by decide) ?_
  refine lv_iadd hx hb dL_law_637 ?_
  refine l_ld (j := i + 1) X hX hbl hL (by omega) hL2 (nI_add i 1) dL_law_638 ?_
  refine lv_aload_n hx hb dL_law_639 rfl (lv_at hl 3 rfl) ?_
  refine lv_iload_n hx hb dL_law_640 rfl (lv_at hl 0 rfl) ?_
  refine lv_iconst (v := 2) hx hb dL_law_641 (by decide) ?_
  refine lv_iadd hx hb dL_law_642 ?_
  refine l_ld (j := i + 2) X hX hbl hL (by omega) hL2 (nI_add i 2) dL_law_643 ?_
  refine l_C (as := [.int (xs (i + 1)), .int (xs (i + 2))]) (rest := []) (c_X11_plan (FW_C hEX) e1) X hl.1 hL rfl mw_X11_plan wd_956 wd_957 wd_958 rfl ⟨by decide, by decide⟩ (Nat.le_of_ble_eq_true rfl) hcs dL_law_644 (fun H hL => ?_)
  refine lv_aload_n hx hb dL_law_647 rfl (lv_at hl 1 rfl) ?_
  refine lv_aload_n hx hb dL_law_648 rfl (lv_at hl 3 rfl) ?_
  refine lv_iload_n hx hb dL_law_649 rfl (lv_at hl 0 rfl) ?_
  refine lv_iconst (v := 1) hx hb dL_law_650 (by decide) ?_
  refine lv_iadd hx hb dL_law_651 ?_
  refine l_ld (j := i + 1) X hX hbl hL (by omega) hL2 (nI_add i 1) dL_law_652 ?_
  refine lv_aload_n hx hb dL_law_653 rfl (lv_at hl 3 rfl) ?_
  refine lv_iload_n hx hb dL_law_654 rfl (lv_at hl 0 rfl) ?_
  refine lv_iconst (v := 2) hx hb dL_law_655 (by decide) ?_
  refine lv_iadd hx hb dL_law_656 ?_
  refine l_ld (j := i + 2) X hX hbl hL (by omega) hL2 (nI_add i 2) dL_law_657 ?_
  refine l_M (as := [.int (xs (i + 1)), .int (xs (i + 2))]) (rest := [.int r]) (c_X12_plan FW_M e2) X hl.1 hL rfl mw_X12_plan wd_1649 wd_1650 wd_1651 rfl ⟨by decide, by decide⟩ (Nat.le_of_ble_eq_true rfl) hcs dL_law_658 (fun H hL => ?_)
  refine lv_icmp_eq (tgt := 1317) hx hb dL_law_661 (by decide) (fun _ => ?_) (fun hc => absurd rfl hc)
  exact kk H μ1 ν1 hL hR2
theorem case_16 (X : LX G B E p s m args c) {Xx : Nat → Nat} (hEX : ∀ U, E U → EF Xx (fun q => B + 1 ≤ q) U) {b L : Nat} {xs : Nat → Int32} (hX : va_X b L xs s s.heap) (hbl : b < s.heap.size) (hL2 : L ≤ 3072) (hcs : cells ≤ 600000 ∧ slots ≤ 7302250) {i : Nat} (hi : i + 6 ≤ L) (hl : lv_has ls 4 [(3, .int (nI i)), (2, .ref (B + 191 + 0)), (1, .ref (B + 1)), (0, .ref b)]) (hL : LI G B E s μ ν H) (hR : REL μ ν) (kk : ∀ (H : Heap) (μ ν : Mem), LI G B E s μ ν H → REL μ ν → W p l e room_1 s m args below meth c H [] cells slots Q (F0 m 1317 ls [])) : W p l e room_1 s m args below meth c H [] cells slots Q (F0 m 666 ls []) := by
  have hx := X.1
  have hb := X.2.1
  obtain ⟨r, μ1, ν1, e1, e2, hR2⟩ := r_worst hR (xs (i + 1))
  refine lv_aload_n hx hb dL_law_666 rfl (lv_at hl 2 rfl) ?_
  refine lv_aload_n hx hb dL_law_667 rfl (lv_at hl 3 rfl) ?_
  refine lv_iload_n hx hb dL_law_668 rfl (lv_at hl 0 rfl) ?_
  refine lv_iconst (v := 1) hx hb dL_law_669 (by decide) ?_
  refine lv_iadd hx hb dL_law_670 ?_
  refine l_ld (j := i + 1) X hX hbl hL (by omega) hL2 (nI_add i 1) dL_law_671 ?_
  refine l_C (as := [.int (xs (i + 1))]) (rest := []) (c_X11_worst (FW_C hEX) e1) X hl.1 hL rfl mw_X11_worst wd_969 wd_970 wd_971 rfl ⟨by decide, by decide⟩ (Nat.le_of_ble_eq_true rfl) hcs dL_law_672 (fun H hL => ?_)
  refine lv_aload_n hx hb dL_law_675 rfl (lv_at hl 1 rfl) ?_
  refine lv_aload_n hx hb dL_law_676 rfl (lv_at hl 3 rfl) ?_
  refine lv_iload_n hx hb dL_law_677 rfl (lv_at hl 0 rfl) ?_
  refine lv_iconst (v := 1) hx hb dL_law_678 (by decide) ?_
  refine lv_iadd hx hb dL_law_679 ?_
  refine l_ld (j := i + 1) X hX hbl hL (by omega) hL2 (nI_add i 1) dL_law_680 ?_
  refine l_M (as := [.int (xs (i + 1))]) (rest := [.int r]) (c_X12_worst FW_M e2) X hl.1 hL rfl mw_X12_worst wd_1665 wd_1666 wd_1667 rfl ⟨by decide, by decide⟩ (Nat.le_of_ble_eq_true rfl) hcs dL_law_681 (fun H hL => ?_)
  refine lv_icmp_eq (tgt := 1317) hx hb dL_law_684 (by decide) (fun _ => ?_) (fun hc => absurd rfl hc)
  exact kk H μ1 ν1 hL hR2
theorem case_17 (X : LX G B E p s m args c) {Xx : Nat → Nat} (hEX : ∀ U, E U → EF Xx (fun q => B + 1 ≤ q) U) {b L : Nat} {xs : Nat → Int32} (hX : va_X b L xs s s.heap) (hbl : b < s.heap.size) (hL2 : L ≤ 3072) (hcs : cells ≤ 600000 ∧ slots ≤ 7302250) {i : Nat} (hi : i + 6 ≤ L) (hl : lv_has ls 4 [(3, .int (nI i)), (2, .ref (B + 191 + 0)), (1, .ref (B + 1)), (0, .ref b)]) (hL : LI G B E s μ ν H) (hR : REL μ ν) (kk : ∀ (H : Heap) (μ ν : Mem), LI G B E s μ ν H → REL μ ν → W p l e room_1 s m args below meth c H [] cells slots Q (F0 m 1317 ls [])) : W p l e room_1 s m args below meth c H [] cells slots Q (F0 m 689 ls []) := by
  have hx := X.1
  have hb := X.2.1
  obtain ⟨r, μ1, ν1, e1, e2, hR2⟩ := r_lasts hR
  refine lv_aload_n hx hb dL_law_689 rfl (lv_at hl 2 rfl) ?_
  refine l_C (as := []) (rest := []) (c_X11_lasts (FW_C hEX) e1) X hl.1 hL rfl mw_X11_lasts wd_973 wd_974 wd_975 rfl ⟨by decide, by decide⟩ (Nat.le_of_ble_eq_true rfl) hcs dL_law_690 (fun H hL => ?_)
  refine lv_aload_n hx hb dL_law_693 rfl (lv_at hl 1 rfl) ?_
  refine l_M (as := []) (rest := [.int r]) (c_X12_lasts FW_M e2) X hl.1 hL rfl mw_X12_lasts wd_1669 wd_1670 wd_1671 rfl ⟨by decide, by decide⟩ (Nat.le_of_ble_eq_true rfl) hcs dL_law_694 (fun H hL => ?_)
  refine lv_icmp_eq (tgt := 1317) hx hb dL_law_697 (by decide) (fun _ => ?_) (fun hc => absurd rfl hc)
  exact kk H μ1 ν1 hL hR2
theorem case_18 (X : LX G B E p s m args c) {Xx : Nat → Nat} (hEX : ∀ U, E U → EF Xx (fun q => B + 1 ≤ q) U) {b L : Nat} {xs : Nat → Int32} (hX : va_X b L xs s s.heap) (hbl : b < s.heap.size) (hL2 : L ≤ 3072) (hcs : cells ≤ 600000 ∧ slots ≤ 7302250) {i : Nat} (hi : i + 6 ≤ L) (hl : lv_has ls 4 [(3, .int (nI i)), (2, .ref (B + 191 + 0)), (1, .ref (B + 1)), (0, .ref b)]) (hL : LI G B E s μ ν H) (hR : REL μ ν) (kk : ∀ (H : Heap) (μ ν : Mem), LI G B E s μ ν H → REL μ ν → W p l e room_1 s m args below meth c H [] cells slots Q (F0 m 1317 ls [])) : W p l e room_1 s m args below meth c H [] cells slots Q (F0 m 702 ls []) := by
  have hx := X.1
  have hb := X.2.1
  obtain ⟨r, μ1, ν1, e1, e2, hR2⟩ := r_gone hR (xs (i + 1))
  refine lv_aload_n hx hb dL_law_702 rfl (lv_at hl 2 rfl) ?_
  refine lv_aload_n hx hb dL_law_703 rfl (lv_at hl 3 rfl) ?_
  refine lv_iload_n hx hb dL_law_704 rfl (lv_at hl 0 rfl) ?_
  refine lv_iconst (v := 1) hx hb dL_law_705 (by decide) ?_
  refine lv_iadd hx hb dL_law_706 ?_
  refine l_ld (j := i + 1) X hX hbl hL (by omega) hL2 (nI_add i 1) dL_law_707 ?_
  refine l_C (as := [.int (xs (i + 1))]) (rest := []) (c_X11_gone (FW_C hEX) e1) X hl.1 hL rfl mw_X11_gone wd_978 wd_979 wd_980 rfl ⟨by decide, by decide⟩ (Nat.le_of_ble_eq_true rfl) hcs dL_law_708 (fun H hL => ?_)
  refine lv_aload_n hx hb dL_law_711 rfl (lv_at hl 1 rfl) ?_
  refine lv_aload_n hx hb dL_law_712 rfl (lv_at hl 3 rfl) ?_
  refine lv_iload_n hx hb dL_law_713 rfl (lv_at hl 0 rfl) ?_
  refine lv_iconst (v := 1) hx hb dL_law_714 (by decide) ?_
  refine lv_iadd hx hb dL_law_715 ?_
  refine l_ld (j := i + 1) X hX hbl hL (by omega) hL2 (nI_add i 1) dL_law_716 ?_
  refine l_M (as := [.int (xs (i + 1))]) (rest := [.int r]) (c_X12_gone FW_M e2) X hl.1 hL rfl mw_X12_gone wd_1681 wd_1682 wd_1683 rfl ⟨by decide, by decide⟩ (Nat.le_of_ble_eq_true rfl) hcs dL_law_717 (fun H hL => ?_)
  refine lv_icmp_eq (tgt := 1317) hx hb dL_law_720 (by decide) (fun _ => ?_) (fun hc => absurd rfl hc)
  exact kk H μ1 ν1 hL hR2
theorem case_19 (X : LX G B E p s m args c) {Xx : Nat → Nat} (hEX : ∀ U, E U → EF Xx (fun q => B + 1 ≤ q) U) {b L : Nat} {xs : Nat → Int32} (hX : va_X b L xs s s.heap) (hbl : b < s.heap.size) (hL2 : L ≤ 3072) (hcs : cells ≤ 600000 ∧ slots ≤ 7302250) {i : Nat} (hi : i + 6 ≤ L) (hl : lv_has ls 4 [(3, .int (nI i)), (2, .ref (B + 191 + 0)), (1, .ref (B + 1)), (0, .ref b)]) (hL : LI G B E s μ ν H) (hR : REL μ ν) (kk : ∀ (H : Heap) (μ ν : Mem), LI G B E s μ ν H → REL μ ν → W p l e room_1 s m args below meth c H [] cells slots Q (F0 m 1317 ls [])) : W p l e room_1 s m args below meth c H [] cells slots Q (F0 m 725 ls []) := by
  have hx := X.1
  have hb := X.2.1
  obtain ⟨r, μ1, ν1, e1, e2, hR2⟩ := r_cold hR (xs (i + 1))
  refine lv_aload_n hx hb dL_law_725 rfl (lv_at hl 2 rfl) ?_
  refine lv_aload_n hx hb dL_law_726 rfl (lv_at hl 3 rfl) ?_
  refine lv_iload_n hx hb dL_law_727 rfl (lv_at hl 0 rfl) ?_
  refine lv_iconst (v := 1) hx hb dL_law_728 (by decide) ?_
  refine lv_iadd hx hb dL_law_729 ?_
  refine l_ld (j := i + 1) X hX hbl hL (by omega) hL2 (nI_add i 1) dL_law_730 ?_
  refine l_C (as := [.int (xs (i + 1))]) (rest := []) (c_X11_cold (FW_C hEX) e1) X hl.1 hL rfl mw_X11_cold wd_987 wd_988 wd_989 rfl ⟨by decide, by decide⟩ (Nat.le_of_ble_eq_true rfl) hcs dL_law_731 (fun H hL => ?_)
  refine lv_aload_n hx hb dL_law_734 rfl (lv_at hl 1 rfl) ?_
  refine lv_aload_n hx hb dL_law_735 rfl (lv_at hl 3 rfl) ?_
  refine lv_iload_n hx hb dL_law_736 rfl (lv_at hl 0 rfl) ?_
  refine lv_iconst (v := 1) hx hb dL_law_737 (by decide) ?_
  refine lv_iadd hx hb dL_law_738 ?_
  refine l_ld (j := i + 1) X hX hbl hL (by omega) hL2 (nI_add i 1) dL_law_739 ?_
  refine l_M (as := [.int (xs (i + 1))]) (rest := [.int r]) (c_X12_cold FW_M e2) X hl.1 hL rfl mw_X12_cold wd_1689 wd_1690 wd_1691 rfl ⟨by decide, by decide⟩ (Nat.le_of_ble_eq_true rfl) hcs dL_law_740 (fun H hL => ?_)
  refine lv_icmp_eq (tgt := 1317) hx hb dL_law_743 (by decide) (fun _ => ?_) (fun hc => absurd rfl hc)
  exact kk H μ1 ν1 hL hR2
theorem case_20 (X : LX G B E p s m args c) {Xx : Nat → Nat} (hEX : ∀ U, E U → EF Xx (fun q => B + 1 ≤ q) U) {b L : Nat} {xs : Nat → Int32} (hX : va_X b L xs s s.heap) (hbl : b < s.heap.size) (hL2 : L ≤ 3072) (hcs : cells ≤ 600000 ∧ slots ≤ 7302250) {i : Nat} (hi : i + 6 ≤ L) (hl : lv_has ls 4 [(3, .int (nI i)), (2, .ref (B + 191 + 0)), (1, .ref (B + 1)), (0, .ref b)]) (hL : LI G B E s μ ν H) (hR : REL μ ν) (kk : ∀ (H : Heap) (μ ν : Mem), LI G B E s μ ν H → REL μ ν → W p l e room_1 s m args below meth c H [] cells slots Q (F0 m 1317 ls [])) : W p l e room_1 s m args below meth c H [] cells slots Q (F0 m 748 ls []) := by
  have hx := X.1
  have hb := X.2.1
  obtain ⟨r, e1, e2, hR2⟩ := r_far hR (xs (i + 1)) (xs (i + 2))
  refine lv_aload_n hx hb dL_law_748 rfl (lv_at hl 2 rfl) ?_
  refine lv_aload_n hx hb dL_law_749 rfl (lv_at hl 3 rfl) ?_
  refine lv_iload_n hx hb dL_law_750 rfl (lv_at hl 0 rfl) ?_
  refine lv_iconst (v := 1) hx hb dL_law_751 (by decide) ?_
  refine lv_iadd hx hb dL_law_752 ?_
  refine l_ld (j := i + 1) X hX hbl hL (by omega) hL2 (nI_add i 1) dL_law_753 ?_
  refine lv_aload_n hx hb dL_law_754 rfl (lv_at hl 3 rfl) ?_
  refine lv_iload_n hx hb dL_law_755 rfl (lv_at hl 0 rfl) ?_
  refine lv_iconst (v := 2) hx hb dL_law_756 (by decide) ?_
  refine lv_iadd hx hb dL_law_757 ?_
  refine l_ld (j := i + 2) X hX hbl hL (by omega) hL2 (nI_add i 2) dL_law_758 ?_
  refine l_C (as := [.int (xs (i + 1)), .int (xs (i + 2))]) (rest := []) (c_X11_far (FW_C hEX) e1) X hl.1 hL rfl mw_X11_far wd_1023 wd_1024 wd_1025 rfl ⟨by decide, by decide⟩ (Nat.le_of_ble_eq_true rfl) hcs dL_law_759 (fun H hL => ?_)
  refine lv_aload_n hx hb dL_law_762 rfl (lv_at hl 1 rfl) ?_
  refine lv_aload_n hx hb dL_law_763 rfl (lv_at hl 3 rfl) ?_
  refine lv_iload_n hx hb dL_law_764 rfl (lv_at hl 0 rfl) ?_
  refine lv_iconst (v := 1) hx hb dL_law_765 (by decide) ?_
  refine lv_iadd hx hb dL_law_766 ?_
  refine l_ld (j := i + 1) X hX hbl hL (by omega) hL2 (nI_add i 1) dL_law_767 ?_
  refine lv_aload_n hx hb dL_law_768 rfl (lv_at hl 3 rfl) ?_
  refine lv_iload_n hx hb dL_law_769 rfl (lv_at hl 0 rfl) ?_
  refine lv_iconst (v := 2) hx hb dL_law_770 (by decide) ?_
  refine lv_iadd hx hb dL_law_771 ?_
  refine l_ld (j := i + 2) X hX hbl hL (by omega) hL2 (nI_add i 2) dL_law_772 ?_
  refine l_M (as := [.int (xs (i + 1)), .int (xs (i + 2))]) (rest := [.int r]) (c_X12_far FW_M e2) X hl.1 hL rfl mw_X12_far wd_1710 wd_1711 wd_1712 rfl ⟨by decide, by decide⟩ (Nat.le_of_ble_eq_true rfl) hcs dL_law_773 (fun H hL => ?_)
  refine lv_icmp_eq (tgt := 1317) hx hb dL_law_776 (by decide) (fun _ => ?_) (fun hc => absurd rfl hc)
  exact kk H μ ν hL hR2
theorem case_21 (X : LX G B E p s m args c) {Xx : Nat → Nat} (hEX : ∀ U, E U → EF Xx (fun q => B + 1 ≤ q) U) {b L : Nat} {xs : Nat → Int32} (hX : va_X b L xs s s.heap) (hbl : b < s.heap.size) (hL2 : L ≤ 3072) (hcs : cells ≤ 600000 ∧ slots ≤ 7302250) {i : Nat} (hi : i + 6 ≤ L) (hl : lv_has ls 4 [(3, .int (nI i)), (2, .ref (B + 191 + 0)), (1, .ref (B + 1)), (0, .ref b)]) (hL : LI G B E s μ ν H) (hR : REL μ ν) (kk : ∀ (H : Heap) (μ ν : Mem), LI G B E s μ ν H → REL μ ν → W p l e room_1 s m args below meth c H [] cells slots Q (F0 m 1317 ls [])) : W p l e room_1 s m args below meth c H [] cells slots Q (F0 m 781 ls []) := by
  have hx := X.1
  have hb := X.2.1
  obtain ⟨r, μ1, ν1, e1, e2, hR2⟩ := r_round hR (xs (i + 1))
  refine lv_aload_n hx hb dL_law_781 rfl (lv_at hl 2 rfl) ?_
  refine lv_aload_n hx hb dL_law_782 rfl (lv_at hl 3 rfl) ?_
  refine lv_iload_n hx hb dL_law_783 rfl (lv_at hl 0 rfl) ?_
  refine lv_iconst (v := 1) hx hb dL_law_784 (by decide) ?_
  refine lv_iadd hx hb dL_law_785 ?_
  refine l_ld (j := i + 1) X hX hbl hL (by omega) hL2 (nI_add i 1) dL_law_786 ?_
  refine l_C (as := [.int (xs (i + 1))]) (rest := []) (c_X11_round (FW_C hEX) e1) X hl.1 hL rfl mw_X11_round wd_1036 wd_1037 wd_1038 rfl ⟨by decide, by decide⟩ (Nat.le_of_ble_eq_true rfl) hcs dL_law_787 (fun H hL => ?_)
  refine lv_aload_n hx hb dL_law_790 rfl (lv_at hl 1 rfl) ?_
  refine lv_aload_n hx hb dL_law_791 rfl (lv_at hl 3 rfl) ?_
  refine lv_iload_n hx hb dL_law_792 rfl (lv_at hl 0 rfl) ?_
  refine lv_iconst (v := 1) hx hb dL_law_793 (by decide) ?_
  refine lv_iadd hx hb dL_law_794 ?_
  refine l_ld (j := i + 1) X hX hbl hL (by omega) hL2 (nI_add i 1) dL_law_795 ?_
  refine l_M (as := [.int (xs (i + 1))]) (rest := [.int r]) (c_X12_round FW_M e2) X hl.1 hL rfl mw_X12_round wd_1721 wd_1722 wd_1723 rfl ⟨by decide, by decide⟩ (Nat.le_of_ble_eq_true rfl) hcs dL_law_796 (fun H hL => ?_)
  refine lv_icmp_eq (tgt := 1317) hx hb dL_law_799 (by decide) (fun _ => ?_) (fun hc => absurd rfl hc)
  exact kk H μ1 ν1 hL hR2
theorem case_22 (X : LX G B E p s m args c) {Xx : Nat → Nat} (hEX : ∀ U, E U → EF Xx (fun q => B + 1 ≤ q) U) {b L : Nat} {xs : Nat → Int32} (hX : va_X b L xs s s.heap) (hbl : b < s.heap.size) (hL2 : L ≤ 3072) (hcs : cells ≤ 600000 ∧ slots ≤ 7302250) {i : Nat} (hi : i + 6 ≤ L) (hl : lv_has ls 4 [(3, .int (nI i)), (2, .ref (B + 191 + 0)), (1, .ref (B + 1)), (0, .ref b)]) (hL : LI G B E s μ ν H) (hR : REL μ ν) (kk : ∀ (H : Heap) (μ ν : Mem), LI G B E s μ ν H → REL μ ν → W p l e room_1 s m args below meth c H [] cells slots Q (F0 m 1317 ls [])) : W p l e room_1 s m args below meth c H [] cells slots Q (F0 m 804 ls []) := by
  have hx := X.1
  have hb := X.2.1
  obtain ⟨r, μ1, ν1, e1, e2, hR2⟩ := r_next hR (xs (i + 1)) (xs (i + 2))
  refine lv_aload_n hx hb dL_law_804 rfl (lv_at hl 2 rfl) ?_
  refine lv_aload_n hx hb dL_law_805 rfl (lv_at hl 3 rfl) ?_
  refine lv_iload_n hx hb dL_law_806 rfl (lv_at hl 0 rfl) ?_
  refine lv_iconst (v := 1) hx hb dL_law_807 (by decide) ?_
  refine lv_iadd hx hb dL_law_808 ?_
  refine l_ld (j := i + 1) X hX hbl hL (by omega) hL2 (nI_add i 1) dL_law_809 ?_
  refine lv_aload_n hx hb dL_law_810 rfl (lv_at hl 3 rfl) ?_
  refine lv_iload_n hx hb dL_law_811 rfl (lv_at hl 0 rfl) ?_
  refine lv_iconst (v := 2) hx hb dL_law_812 (by decide) ?_
  refine lv_iadd hx hb dL_law_813 ?_
  refine l_ld (j := i + 2) X hX hbl hL (by omega) hL2 (nI_add i 2) dL_law_814 ?_
  refine l_C (as := [.int (xs (i + 1)), .int (xs (i + 2))]) (rest := []) (c_X11_next (FW_C hEX) e1) X hl.1 hL rfl mw_X11_next wd_1051 wd_1052 wd_1053 rfl ⟨by decide, by decide⟩ (Nat.le_of_ble_eq_true rfl) hcs dL_law_815 (fun H hL => ?_)
  refine lv_aload_n hx hb dL_law_818 rfl (lv_at hl 1 rfl) ?_
  refine lv_aload_n hx hb dL_law_819 rfl (lv_at hl 3 rfl) ?_
  refine lv_iload_n hx hb dL_law_820 rfl (lv_at hl 0 rfl) ?_
  refine lv_iconst (v := 1) hx hb dL_law_821 (by decide) ?_
  refine lv_iadd hx hb dL_law_822 ?_
  refine l_ld (j := i + 1) X hX hbl hL (by omega) hL2 (nI_add i 1) dL_law_823 ?_
  refine lv_aload_n hx hb dL_law_824 rfl (lv_at hl 3 rfl) ?_
  refine lv_iload_n hx hb dL_law_825 rfl (lv_at hl 0 rfl) ?_
  refine lv_iconst (v := 2) hx hb dL_law_826 (by decide) ?_
  refine lv_iadd hx hb dL_law_827 ?_
  refine l_ld (j := i + 2) X hX hbl hL (by omega) hL2 (nI_add i 2) dL_law_828 ?_
  refine l_M (as := [.int (xs (i + 1)), .int (xs (i + 2))]) (rest := [.int r]) (c_X12_next FW_M e2) X hl.1 hL rfl mw_X12_next wd_1733 wd_1734 wd_1735 rfl ⟨by decide, by decide⟩ (Nat.le_of_ble_eq_true rfl) hcs dL_law_829 (fun H hL => ?_)
  refine lv_icmp_eq (tgt := 1317) hx hb dL_law_832 (by decide) (fun _ => ?_) (fun hc => absurd rfl hc)
  exact kk H μ1 ν1 hL hR2
theorem case_23 (X : LX G B E p s m args c) {Xx : Nat → Nat} (hEX : ∀ U, E U → EF Xx (fun q => B + 1 ≤ q) U) {b L : Nat} {xs : Nat → Int32} (hX : va_X b L xs s s.heap) (hbl : b < s.heap.size) (hL2 : L ≤ 3072) (hcs : cells ≤ 600000 ∧ slots ≤ 7302250) {i : Nat} (hi : i + 6 ≤ L) (hl : lv_has ls 4 [(3, .int (nI i)), (2, .ref (B + 191 + 0)), (1, .ref (B + 1)), (0, .ref b)]) (hL : LI G B E s μ ν H) (hR : REL μ ν) (kk : ∀ (H : Heap) (μ ν : Mem), LI G B E s μ ν H → REL μ ν → W p l e room_1 s m args below meth c H [] cells slots Q (F0 m 1317 ls [])) : W p l e room_1 s m args below meth c H [] cells slots Q (F0 m 837 ls []) := by
  have hx := X.1
  have hb := X.2.1
  obtain ⟨r, e1, e2, hR2⟩ := r_pipes hR
  refine lv_aload_n hx hb dL_law_837 rfl (lv_at hl 2 rfl) ?_
  refine l_C (as := []) (rest := []) (c_X11_pipes (FW_C hEX) e1) X hl.1 hL rfl mw_X11_pipes wd_1055 wd_1056 wd_1057 rfl ⟨by decide, by decide⟩ (Nat.le_of_ble_eq_true rfl) hcs dL_law_838 (fun H hL => ?_)
  refine lv_aload_n hx hb dL_law_841 rfl (lv_at hl 1 rfl) ?_
  refine l_M (as := []) (rest := [.int r]) (c_X12_pipes FW_M e2) X hl.1 hL rfl mw_X12_pipes wd_1737 wd_1738 wd_1739 rfl ⟨by decide, by decide⟩ (Nat.le_of_ble_eq_true rfl) hcs dL_law_842 (fun H hL => ?_)
  refine lv_icmp_eq (tgt := 1317) hx hb dL_law_845 (by decide) (fun _ => ?_) (fun hc => absurd rfl hc)
  exact kk H μ ν hL hR2
theorem case_24 (X : LX G B E p s m args c) {Xx : Nat → Nat} (hEX : ∀ U, E U → EF Xx (fun q => B + 1 ≤ q) U) {b L : Nat} {xs : Nat → Int32} (hX : va_X b L xs s s.heap) (hbl : b < s.heap.size) (hL2 : L ≤ 3072) (hcs : cells ≤ 600000 ∧ slots ≤ 7302250) {i : Nat} (hi : i + 6 ≤ L) (hl : lv_has ls 4 [(3, .int (nI i)), (2, .ref (B + 191 + 0)), (1, .ref (B + 1)), (0, .ref b)]) (hL : LI G B E s μ ν H) (hR : REL μ ν) (kk : ∀ (H : Heap) (μ ν : Mem), LI G B E s μ ν H → REL μ ν → W p l e room_1 s m args below meth c H [] cells slots Q (F0 m 1317 ls [])) : W p l e room_1 s m args below meth c H [] cells slots Q (F0 m 850 ls []) := by
  have hx := X.1
  have hb := X.2.1
  obtain ⟨r, e1, e2, hR2⟩ := r_nearest hR (xs (i + 1))
  refine lv_aload_n hx hb dL_law_850 rfl (lv_at hl 2 rfl) ?_
  refine lv_aload_n hx hb dL_law_851 rfl (lv_at hl 3 rfl) ?_
  refine lv_iload_n hx hb dL_law_852 rfl (lv_at hl 0 rfl) ?_
  refine lv_iconst (v := 1) hx hb dL_law_853 (by decide) ?_
  refine lv_iadd hx hb dL_law_854 ?_
  refine l_ld (j := i + 1) X hX hbl hL (by omega) hL2 (nI_add i 1) dL_law_855 ?_
  refine l_C (as := [.int (xs (i + 1))]) (rest := []) (c_X11_nearest (FW_C hEX) e1) X hl.1 hL rfl mw_X11_nearest wd_1068 wd_1069 wd_1070 rfl ⟨by decide, by decide⟩ (Nat.le_of_ble_eq_true rfl) hcs dL_law_856 (fun H hL => ?_)
  refine lv_aload_n hx hb dL_law_859 rfl (lv_at hl 1 rfl) ?_
  refine lv_aload_n hx hb dL_law_860 rfl (lv_at hl 3 rfl) ?_
  refine lv_iload_n hx hb dL_law_861 rfl (lv_at hl 0 rfl) ?_
  refine lv_iconst (v := 1) hx hb dL_law_862 (by decide) ?_
  refine lv_iadd hx hb dL_law_863 ?_
  refine l_ld (j := i + 1) X hX hbl hL (by omega) hL2 (nI_add i 1) dL_law_864 ?_
  refine l_M (as := [.int (xs (i + 1))]) (rest := [.int r]) (c_X12_nearest FW_M e2) X hl.1 hL rfl mw_X12_nearest wd_1745 wd_1746 wd_1747 rfl ⟨by decide, by decide⟩ (Nat.le_of_ble_eq_true rfl) hcs dL_law_865 (fun H hL => ?_)
  refine lv_icmp_eq (tgt := 1317) hx hb dL_law_868 (by decide) (fun _ => ?_) (fun hc => absurd rfl hc)
  exact kk H μ ν hL hR2
theorem case_25 (X : LX G B E p s m args c) {Xx : Nat → Nat} (hEX : ∀ U, E U → EF Xx (fun q => B + 1 ≤ q) U) {b L : Nat} {xs : Nat → Int32} (hX : va_X b L xs s s.heap) (hbl : b < s.heap.size) (hL2 : L ≤ 3072) (hcs : cells ≤ 600000 ∧ slots ≤ 7302250) {i : Nat} (hi : i + 6 ≤ L) (hl : lv_has ls 4 [(3, .int (nI i)), (2, .ref (B + 191 + 0)), (1, .ref (B + 1)), (0, .ref b)]) (hL : LI G B E s μ ν H) (hR : REL μ ν) (kk : ∀ (H : Heap) (μ ν : Mem), LI G B E s μ ν H → REL μ ν → W p l e room_1 s m args below meth c H [] cells slots Q (F0 m 1317 ls [])) : W p l e room_1 s m args below meth c H [] cells slots Q (F0 m 873 ls []) := by
  have hx := X.1
  have hb := X.2.1
  obtain ⟨r, μ1, ν1, e1, e2, hR2⟩ := r_saves hR (xs (i + 1))
  refine lv_aload_n hx hb dL_law_873 rfl (lv_at hl 2 rfl) ?_
  refine lv_aload_n hx hb dL_law_874 rfl (lv_at hl 3 rfl) ?_
  refine lv_iload_n hx hb dL_law_875 rfl (lv_at hl 0 rfl) ?_
  refine lv_iconst (v := 1) hx hb dL_law_876 (by decide) ?_
  refine lv_iadd hx hb dL_law_877 ?_
  refine l_ld (j := i + 1) X hX hbl hL (by omega) hL2 (nI_add i 1) dL_law_878 ?_
  refine l_C (as := [.int (xs (i + 1))]) (rest := []) (c_X11_saves (FW_C hEX) e1) X hl.1 hL rfl mw_X11_saves wd_991 wd_992 wd_993 rfl ⟨by decide, by decide⟩ (Nat.le_of_ble_eq_true rfl) hcs dL_law_879 (fun H hL => ?_)
  refine lv_aload_n hx hb dL_law_882 rfl (lv_at hl 1 rfl) ?_
  refine lv_aload_n hx hb dL_law_883 rfl (lv_at hl 3 rfl) ?_
  refine lv_iload_n hx hb dL_law_884 rfl (lv_at hl 0 rfl) ?_
  refine lv_iconst (v := 1) hx hb dL_law_885 (by decide) ?_
  refine lv_iadd hx hb dL_law_886 ?_
  refine l_ld (j := i + 1) X hX hbl hL (by omega) hL2 (nI_add i 1) dL_law_887 ?_
  refine l_M (as := [.int (xs (i + 1))]) (rest := [.int r]) (c_X12_saves FW_M e2) X hl.1 hL rfl mw_X12_saves wd_1693 wd_1694 wd_1695 rfl ⟨by decide, by decide⟩ (Nat.le_of_ble_eq_true rfl) hcs dL_law_888 (fun H hL => ?_)
  refine lv_icmp_eq (tgt := 1317) hx hb dL_law_891 (by decide) (fun _ => ?_) (fun hc => absurd rfl hc)
  exact kk H μ1 ν1 hL hR2
theorem case_26 (X : LX G B E p s m args c) {Xx : Nat → Nat} (hEX : ∀ U, E U → EF Xx (fun q => B + 1 ≤ q) U) {b L : Nat} {xs : Nat → Int32} (hX : va_X b L xs s s.heap) (hbl : b < s.heap.size) (hL2 : L ≤ 3072) (hcs : cells ≤ 600000 ∧ slots ≤ 7302250) {i : Nat} (hi : i + 6 ≤ L) (hl : lv_has ls 4 [(3, .int (nI i)), (2, .ref (B + 191 + 0)), (1, .ref (B + 1)), (0, .ref b)]) (hL : LI G B E s μ ν H) (hR : REL μ ν) (kk : ∀ (H : Heap) (μ ν : Mem), LI G B E s μ ν H → REL μ ν → W p l e room_1 s m args below meth c H [] cells slots Q (F0 m 1317 ls [])) : W p l e room_1 s m args below meth c H [] cells slots Q (F0 m 896 ls []) := by
  have hx := X.1
  have hb := X.2.1
  obtain ⟨r, μ1, ν1, e1, e2, hR2⟩ := r_first hR
  refine lv_aload_n hx hb dL_law_896 rfl (lv_at hl 2 rfl) ?_
  refine l_C (as := []) (rest := []) (c_X11_first (FW_C hEX) e1) X hl.1 hL rfl mw_X11_first wd_1000 wd_1001 wd_1002 rfl ⟨by decide, by decide⟩ (Nat.le_of_ble_eq_true rfl) hcs dL_law_897 (fun H hL => ?_)
  refine lv_aload_n hx hb dL_law_900 rfl (lv_at hl 1 rfl) ?_
  refine l_M (as := []) (rest := [.int r]) (c_X12_first FW_M e2) X hl.1 hL rfl mw_X12_first wd_1706 wd_1707 wd_1708 rfl ⟨by decide, by decide⟩ (Nat.le_of_ble_eq_true rfl) hcs dL_law_901 (fun H hL => ?_)
  refine lv_icmp_eq (tgt := 1317) hx hb dL_law_904 (by decide) (fun _ => ?_) (fun hc => absurd rfl hc)
  exact kk H μ1 ν1 hL hR2
theorem case_27 (X : LX G B E p s m args c) {Xx : Nat → Nat} (hEX : ∀ U, E U → EF Xx (fun q => B + 1 ≤ q) U) {b L : Nat} {xs : Nat → Int32} (hX : va_X b L xs s s.heap) (hbl : b < s.heap.size) (hL2 : L ≤ 3072) (hcs : cells ≤ 600000 ∧ slots ≤ 7302250) {i : Nat} (hi : i + 6 ≤ L) (hl : lv_has ls 4 [(3, .int (nI i)), (2, .ref (B + 191 + 0)), (1, .ref (B + 1)), (0, .ref b)]) (hL : LI G B E s μ ν H) (hR : REL μ ν) (kk : ∀ (H : Heap) (μ ν : Mem), LI G B E s μ ν H → REL μ ν → W p l e room_1 s m args below meth c H [] cells slots Q (F0 m 1317 ls [])) : W p l e room_1 s m args below meth c H [] cells slots Q (F0 m 909 ls []) := by
  have hx := X.1
  have hb := X.2.1
  obtain ⟨r, e1, e2, hR2⟩ := r_twins hR (xs (i + 1))
  refine lv_aload_n hx hb dL_law_909 rfl (lv_at hl 2 rfl) ?_
  refine lv_aload_n hx hb dL_law_910 rfl (lv_at hl 3 rfl) ?_
  refine lv_iload_n hx hb dL_law_911 rfl (lv_at hl 0 rfl) ?_
  refine lv_iconst (v := 1) hx hb dL_law_912 (by decide) ?_
  refine lv_iadd hx hb dL_law_913 ?_
  refine l_ld (j := i + 1) X hX hbl hL (by omega) hL2 (nI_add i 1) dL_law_914 ?_
  refine l_C (as := [.int (xs (i + 1))]) (rest := []) (c_X11_twins (FW_C hEX) e1) X hl.1 hL rfl mw_X11_twins wd_1072 wd_1073 wd_1074 rfl ⟨by decide, by decide⟩ (Nat.le_of_ble_eq_true rfl) hcs dL_law_915 (fun H hL => ?_)
  refine lv_aload_n hx hb dL_law_918 rfl (lv_at hl 1 rfl) ?_
  refine lv_aload_n hx hb dL_law_919 rfl (lv_at hl 3 rfl) ?_
  refine lv_iload_n hx hb dL_law_920 rfl (lv_at hl 0 rfl) ?_
  refine lv_iconst (v := 1) hx hb dL_law_921 (by decide) ?_
  refine lv_iadd hx hb dL_law_922 ?_
  refine l_ld (j := i + 1) X hX hbl hL (by omega) hL2 (nI_add i 1) dL_law_923 ?_
  refine l_M (as := [.int (xs (i + 1))]) (rest := [.int r]) (c_X12_twins FW_M e2) X hl.1 hL rfl mw_X12_twins wd_1749 wd_1750 wd_1751 rfl ⟨by decide, by decide⟩ (Nat.le_of_ble_eq_true rfl) hcs dL_law_924 (fun H hL => ?_)
  refine lv_icmp_eq (tgt := 1317) hx hb dL_law_927 (by decide) (fun _ => ?_) (fun hc => absurd rfl hc)
  exact kk H μ ν hL hR2
theorem case_28 (X : LX G B E p s m args c) {Xx : Nat → Nat} (hEX : ∀ U, E U → EF Xx (fun q => B + 1 ≤ q) U) {b L : Nat} {xs : Nat → Int32} (hX : va_X b L xs s s.heap) (hbl : b < s.heap.size) (hL2 : L ≤ 3072) (hcs : cells ≤ 600000 ∧ slots ≤ 7302250) {i : Nat} (hi : i + 6 ≤ L) (hl : lv_has ls 4 [(3, .int (nI i)), (2, .ref (B + 191 + 0)), (1, .ref (B + 1)), (0, .ref b)]) (hL : LI G B E s μ ν H) (hR : REL μ ν) (kk : ∀ (H : Heap) (μ ν : Mem), LI G B E s μ ν H → REL μ ν → W p l e room_1 s m args below meth c H [] cells slots Q (F0 m 1317 ls [])) : W p l e room_1 s m args below meth c H [] cells slots Q (F0 m 932 ls []) := by
  have hx := X.1
  have hb := X.2.1
  obtain ⟨r, μ1, ν1, e1, e2, hR2⟩ := r_draughty hR (xs (i + 1))
  refine lv_aload_n hx hb dL_law_932 rfl (lv_at hl 2 rfl) ?_
  refine lv_aload_n hx hb dL_law_933 rfl (lv_at hl 3 rfl) ?_
  refine lv_iload_n hx hb dL_law_934 rfl (lv_at hl 0 rfl) ?_
  refine lv_iconst (v := 1) hx hb dL_law_935 (by decide) ?_
  refine lv_iadd hx hb dL_law_936 ?_
  refine l_ld (j := i + 1) X hX hbl hL (by omega) hL2 (nI_add i 1) dL_law_937 ?_
  refine l_C (as := [.int (xs (i + 1))]) (rest := []) (c_X11_draughty (FW_C hEX) e1) X hl.1 hL rfl mw_X11_draughty wd_1004 wd_1005 wd_1006 rfl ⟨by decide, by decide⟩ (Nat.le_of_ble_eq_true rfl) hcs dL_law_938 (fun H hL => ?_)
  refine lv_aload_n hx hb dL_law_941 rfl (lv_at hl 1 rfl) ?_
  refine lv_aload_n hx hb dL_law_942 rfl (lv_at hl 3 rfl) ?_
  refine lv_iload_n hx hb dL_law_943 rfl (lv_at hl 0 rfl) ?_
  refine lv_iconst (v := 1) hx hb dL_law_944 (by decide) ?_
  refine lv_iadd hx hb dL_law_945 ?_
  refine l_ld (j := i + 1) X hX hbl hL (by omega) hL2 (nI_add i 1) dL_law_946 ?_
  refine l_M (as := [.int (xs (i + 1))]) (rest := [.int r]) (c_X12_draughty FW_M e2) X hl.1 hL rfl mw_X12_draughty wd_1757 wd_1758 wd_1759 rfl ⟨by decide, by decide⟩ (Nat.le_of_ble_eq_true rfl) hcs dL_law_947 (fun H hL => ?_)
  refine lv_icmp_eq (tgt := 1317) hx hb dL_law_950 (by decide) (fun _ => ?_) (fun hc => absurd rfl hc)
  exact kk H μ1 ν1 hL hR2
theorem case_29 (X : LX G B E p s m args c) {Xx : Nat → Nat} (hEX : ∀ U, E U → EF Xx (fun q => B + 1 ≤ q) U) {b L : Nat} {xs : Nat → Int32} (hX : va_X b L xs s s.heap) (hbl : b < s.heap.size) (hL2 : L ≤ 3072) (hcs : cells ≤ 600000 ∧ slots ≤ 7302250) {i : Nat} (hi : i + 6 ≤ L) (hl : lv_has ls 4 [(3, .int (nI i)), (2, .ref (B + 191 + 0)), (1, .ref (B + 1)), (0, .ref b)]) (hL : LI G B E s μ ν H) (hR : REL μ ν) (kk : ∀ (H : Heap) (μ ν : Mem), LI G B E s μ ν H → REL μ ν → W p l e room_1 s m args below meth c H [] cells slots Q (F0 m 1317 ls [])) : W p l e room_1 s m args below meth c H [] cells slots Q (F0 m 955 ls []) := by
  have hx := X.1
  have hb := X.2.1
  obtain ⟨r, μ1, ν1, e1, e2, hR2⟩ := r_roofs hR (xs (i + 1))
  refine lv_aload_n hx hb dL_law_955 rfl (lv_at hl 2 rfl) ?_
  refine lv_aload_n hx hb dL_law_956 rfl (lv_at hl 3 rfl) ?_
  refine lv_iload_n hx hb dL_law_957 rfl (lv_at hl 0 rfl) ?_
  refine lv_iconst (v := 1) hx hb dL_law_958 (by decide) ?_
  refine lv_iadd hx hb dL_law_959 ?_
  refine l_ld (j := i + 1) X hX hbl hL (by omega) hL2 (nI_add i 1) dL_law_960 ?_
  refine l_C (as := [.int (xs (i + 1))]) (rest := []) (c_X11_roofs (FW_C hEX) e1) X hl.1 hL rfl mw_X11_roofs wd_1081 wd_1082 wd_1083 rfl ⟨by decide, by decide⟩ (Nat.le_of_ble_eq_true rfl) hcs dL_law_961 (fun H hL => ?_)
  refine lv_aload_n hx hb dL_law_964 rfl (lv_at hl 1 rfl) ?_
  refine lv_aload_n hx hb dL_law_965 rfl (lv_at hl 3 rfl) ?_
  refine lv_iload_n hx hb dL_law_966 rfl (lv_at hl 0 rfl) ?_
  refine lv_iconst (v := 1) hx hb dL_law_967 (by decide) ?_
  refine lv_iadd hx hb dL_law_968 ?_
  refine l_ld (j := i + 1) X hX hbl hL (by omega) hL2 (nI_add i 1) dL_law_969 ?_
  refine l_M (as := [.int (xs (i + 1))]) (rest := [.int r]) (c_X12_roofs FW_M e2) X hl.1 hL rfl mw_X12_roofs wd_1761 wd_1762 wd_1763 rfl ⟨by decide, by decide⟩ (Nat.le_of_ble_eq_true rfl) hcs dL_law_970 (fun H hL => ?_)
  refine lv_icmp_eq (tgt := 1317) hx hb dL_law_973 (by decide) (fun _ => ?_) (fun hc => absurd rfl hc)
  exact kk H μ1 ν1 hL hR2
theorem case_30 (X : LX G B E p s m args c) {Xx : Nat → Nat} (hEX : ∀ U, E U → EF Xx (fun q => B + 1 ≤ q) U) {b L : Nat} {xs : Nat → Int32} (hX : va_X b L xs s s.heap) (hbl : b < s.heap.size) (hL2 : L ≤ 3072) (hcs : cells ≤ 600000 ∧ slots ≤ 7302250) {i : Nat} (hi : i + 6 ≤ L) (hl : lv_has ls 4 [(3, .int (nI i)), (2, .ref (B + 191 + 0)), (1, .ref (B + 1)), (0, .ref b)]) (hL : LI G B E s μ ν H) (hR : REL μ ν) (kk : ∀ (H : Heap) (μ ν : Mem), LI G B E s μ ν H → REL μ ν → W p l e room_1 s m args below meth c H [] cells slots Q (F0 m 1317 ls [])) : W p l e room_1 s m args below meth c H [] cells slots Q (F0 m 978 ls []) := by
  have hx := X.1
  have hb := X.2.1
  obtain ⟨r, μ1, ν1, e1, e2, hR2⟩ := r_paired hR (xs (i + 1))
  refine lv_aload_n hx hb dL_law_978 rfl (lv_at hl 2 rfl) ?_
  refine lv_aload_n hx hb dL_law_979 rfl (lv_at hl 3 rfl) ?_
  refine lv_iload_n hx hb dL_law_980 rfl (lv_at hl 0 rfl) ?_
  refine lv_iconst (v := 1) hx hb dL_law_981 (by decide) ?_
  refine lv_iadd hx hb dL_law_982 ?_
  refine l_ld (j := i + 1) X hX hbl hL (by omega) hL2 (nI_add i 1) dL_law_983 ?_
  refine l_C (as := [.int (xs (i + 1))]) (rest := []) (c_X11_paired (FW_C hEX) e1) X hl.1 hL rfl mw_X11_paired wd_1095 wd_1096 wd_1097 rfl ⟨by decide, by decide⟩ (Nat.le_of_ble_eq_true rfl) hcs dL_law_984 (fun H hL => ?_)
  refine lv_aload_n hx hb dL_law_987 rfl (lv_at hl 1 rfl) ?_
  refine lv_aload_n hx hb dL_law_988 rfl (lv_at hl 3 rfl) ?_
  refine lv_iload_n hx hb dL_law_989 rfl (lv_at hl 0 rfl) ?_
  refine lv_iconst (v := 1) hx hb dL_law_990 (by decide) ?_
  refine lv_iadd hx hb dL_law_991 ?_
  refine l_ld (j := i + 1) X hX hbl hL (by omega) hL2 (nI_add i 1) dL_law_992 ?_
  refine l_M (as := [.int (xs (i + 1))]) (rest := [.int r]) (c_X12_paired FW_M e2) X hl.1 hL rfl mw_X12_paired wd_1769 wd_1770 wd_1771 rfl ⟨by decide, by decide⟩ (Nat.le_of_ble_eq_true rfl) hcs dL_law_993 (fun H hL => ?_)
  refine lv_icmp_eq (tgt := 1317) hx hb dL_law_996 (by decide) (fun _ => ?_) (fun hc => absurd rfl hc)
  exact kk H μ1 ν1 hL hR2
theorem case_31 (X : LX G B E p s m args c) {Xx : Nat → Nat} (hEX : ∀ U, E U → EF Xx (fun q => B + 1 ≤ q) U) {b L : Nat} {xs : Nat → Int32} (hX : va_X b L xs s s.heap) (hbl : b < s.heap.size) (hL2 : L ≤ 3072) (hcs : cells ≤ 600000 ∧ slots ≤ 7302250) {i : Nat} (hi : i + 6 ≤ L) (hl : lv_has ls 4 [(3, .int (nI i)), (2, .ref (B + 191 + 0)), (1, .ref (B + 1)), (0, .ref b)]) (hL : LI G B E s μ ν H) (hR : REL μ ν) (kk : ∀ (H : Heap) (μ ν : Mem), LI G B E s μ ν H → REL μ ν → W p l e room_1 s m args below meth c H [] cells slots Q (F0 m 1317 ls [])) : W p l e room_1 s m args below meth c H [] cells slots Q (F0 m 1001 ls []) := by
  have hx := X.1
  have hb := X.2.1
  obtain ⟨r, e1, e2, hR2⟩ := r_summers hR (xs (i + 1))
  refine lv_aload_n hx hb dL_law_1001 rfl (lv_at hl 2 rfl) ?_
  refine lv_aload_n hx hb dL_law_1002 rfl (lv_at hl 3 rfl) ?_
  refine lv_iload_n hx hb dL_law_1003 rfl (lv_at hl 0 rfl) ?_
  refine lv_iconst (v := 1) hx hb dL_law_1004 (by decide) ?_
  refine lv_iadd hx hb dL_law_1005 ?_
  refine l_ld (j := i + 1) X hX hbl hL (by omega) hL2 (nI_add i 1) dL_law_1006 ?_
  refine l_C (as := [.int (xs (i + 1))]) (rest := []) (c_X11_summers (FW_C hEX) e1) X hl.1 hL rfl mw_X11_summers wd_815 wd_816 wd_817 rfl ⟨by decide, by decide⟩ (Nat.le_of_ble_eq_true rfl) hcs dL_law_1007 (fun H hL => ?_)
  refine lv_aload_n hx hb dL_law_1010 rfl (lv_at hl 1 rfl) ?_
  refine lv_aload_n hx hb dL_law_1011 rfl (lv_at hl 3 rfl) ?_
  refine lv_iload_n hx hb dL_law_1012 rfl (lv_at hl 0 rfl) ?_
  refine lv_iconst (v := 1) hx hb dL_law_1013 (by decide) ?_
  refine lv_iadd hx hb dL_law_1014 ?_
  refine l_ld (j := i + 1) X hX hbl hL (by omega) hL2 (nI_add i 1) dL_law_1015 ?_
  refine l_M (as := [.int (xs (i + 1))]) (rest := [.int r]) (c_X12_summers FW_M e2) X hl.1 hL rfl mw_X12_summers wd_1788 wd_1789 wd_1790 rfl ⟨by decide, by decide⟩ (Nat.le_of_ble_eq_true rfl) hcs dL_law_1016 (fun H hL => ?_)
  refine lv_icmp_eq (tgt := 1317) hx hb dL_law_1019 (by decide) (fun _ => ?_) (fun hc => absurd rfl hc)
  exact kk H μ ν hL hR2
theorem case_32 (X : LX G B E p s m args c) {Xx : Nat → Nat} (hEX : ∀ U, E U → EF Xx (fun q => B + 1 ≤ q) U) {b L : Nat} {xs : Nat → Int32} (hX : va_X b L xs s s.heap) (hbl : b < s.heap.size) (hL2 : L ≤ 3072) (hcs : cells ≤ 600000 ∧ slots ≤ 7302250) {i : Nat} (hi : i + 6 ≤ L) (hl : lv_has ls 4 [(3, .int (nI i)), (2, .ref (B + 191 + 0)), (1, .ref (B + 1)), (0, .ref b)]) (hL : LI G B E s μ ν H) (hR : REL μ ν) (kk : ∀ (H : Heap) (μ ν : Mem), LI G B E s μ ν H → REL μ ν → W p l e room_1 s m args below meth c H [] cells slots Q (F0 m 1317 ls [])) : W p l e room_1 s m args below meth c H [] cells slots Q (F0 m 1024 ls []) := by
  have hx := X.1
  have hb := X.2.1
  obtain ⟨r, μ1, ν1, e1, e2, hR2⟩ := r_then hR (xs (i + 1)) (xs (i + 2)) (xs (i + 3))
  refine lv_aload_n hx hb dL_law_1024 rfl (lv_at hl 2 rfl) ?_
  refine lv_aload_n hx hb dL_law_1025 rfl (lv_at hl 3 rfl) ?_
  refine lv_iload_n hx hb dL_law_1026 rfl (lv_at hl 0 rfl) ?_
  refine lv_iconst (v := 1) hx hb dL_law_1027 (by decide) ?_
  refine lv_iadd hx hb dL_law_1028 ?_
  refine l_ld (j := i + 1) X hX hbl hL (by omega) hL2 (nI_add i 1) dL_law_1029 ?_
  refine lv_aload_n hx hb dL_law_1030 rfl (lv_at hl 3 rfl) ?_
  refine lv_iload_n hx hb dL_law_1031 rfl (lv_at hl 0 rfl) ?_
  refine lv_iconst (v := 2) hx hb dL_law_1032 (by decide) ?_
  refine lv_iadd hx hb dL_law_1033 ?_
  refine l_ld (j := i + 2) X hX hbl hL (by omega) hL2 (nI_add i 2) dL_law_1034 ?_
  refine lv_aload_n hx hb dL_law_1035 rfl (lv_at hl 3 rfl) ?_
  refine lv_iload_n hx hb dL_law_1036 rfl (lv_at hl 0 rfl) ?_
  refine lv_iconst (v := 3) hx hb dL_law_1037 (by decide) ?_
  refine lv_iadd hx hb dL_law_1038 ?_
  refine l_ld (j := i + 3) X hX hbl hL (by omega) hL2 (nI_add i 3) dL_law_1039 ?_
  refine l_C (as := [.int (xs (i + 1)), .int (xs (i + 2)), .int (xs (i + 3))]) (rest := []) (c_X11_then (FW_C hEX) e1) X hl.1 hL rfl mw_X11_then wd_1009 wd_1010 wd_1011 rfl ⟨by decide, by decide⟩ (Nat.le_of_ble_eq_true rfl) hcs dL_law_1040 (fun H hL => ?_)
  refine lv_aload_n hx hb dL_law_1043 rfl (lv_at hl 1 rfl) ?_
  refine lv_aload_n hx hb dL_law_1044 rfl (lv_at hl 3 rfl) ?_
  refine lv_iload_n hx hb dL_law_1045 rfl (lv_at hl 0 rfl) ?_
  refine lv_iconst (v := 1) hx hb dL_law_1046 (by decide) ?_
  refine lv_iadd hx hb dL_law_1047 ?_
  refine l_ld (j := i + 1) X hX hbl hL (by omega) hL2 (nI_add i 1) dL_law_1048 ?_
  refine lv_aload_n hx hb dL_law_1049 rfl (lv_at hl 3 rfl) ?_
  refine lv_iload_n hx hb dL_law_1050 rfl (lv_at hl 0 rfl) ?_
  refine lv_iconst (v := 2) hx hb dL_law_1051 (by decide) ?_
  refine lv_iadd hx hb dL_law_1052 ?_
  refine l_ld (j := i + 2) X hX hbl hL (by omega) hL2 (nI_add i 2) dL_law_1053 ?_
  refine lv_aload_n hx hb dL_law_1054 rfl (lv_at hl 3 rfl) ?_
  refine lv_iload_n hx hb dL_law_1055 rfl (lv_at hl 0 rfl) ?_
  refine lv_iconst (v := 3) hx hb dL_law_1056 (by decide) ?_
  refine lv_iadd hx hb dL_law_1057 ?_
  refine l_ld (j := i + 3) X hX hbl hL (by omega) hL2 (nI_add i 3) dL_law_1058 ?_
  refine l_M (as := [.int (xs (i + 1)), .int (xs (i + 2)), .int (xs (i + 3))]) (rest := [.int r]) (c_X12_then FW_M e2) X hl.1 hL rfl mw_X12_then wd_1792 wd_1793 wd_1794 rfl ⟨by decide, by decide⟩ (Nat.le_of_ble_eq_true rfl) hcs dL_law_1059 (fun H hL => ?_)
  refine lv_icmp_eq (tgt := 1317) hx hb dL_law_1062 (by decide) (fun _ => ?_) (fun hc => absurd rfl hc)
  exact kk H μ1 ν1 hL hR2
theorem case_33 (X : LX G B E p s m args c) {Xx : Nat → Nat} (hEX : ∀ U, E U → EF Xx (fun q => B + 1 ≤ q) U) {b L : Nat} {xs : Nat → Int32} (hX : va_X b L xs s s.heap) (hbl : b < s.heap.size) (hL2 : L ≤ 3072) (hcs : cells ≤ 600000 ∧ slots ≤ 7302250) {i : Nat} (hi : i + 6 ≤ L) (hl : lv_has ls 4 [(3, .int (nI i)), (2, .ref (B + 191 + 0)), (1, .ref (B + 1)), (0, .ref b)]) (hL : LI G B E s μ ν H) (hR : REL μ ν) (kk : ∀ (H : Heap) (μ ν : Mem), LI G B E s μ ν H → REL μ ν → W p l e room_1 s m args below meth c H [] cells slots Q (F0 m 1317 ls [])) : W p l e room_1 s m args below meth c H [] cells slots Q (F0 m 1067 ls []) := by
  have hx := X.1
  have hb := X.2.1
  obtain ⟨r, μ1, ν1, e1, e2, hR2⟩ := r_year hR (xs (i + 1)) (xs (i + 2)) (xs (i + 3))
  refine lv_aload_n hx hb dL_law_1067 rfl (lv_at hl 2 rfl) ?_
  refine lv_aload_n hx hb dL_law_1068 rfl (lv_at hl 3 rfl) ?_
  refine lv_iload_n hx hb dL_law_1069 rfl (lv_at hl 0 rfl) ?_
  refine lv_iconst (v := 1) hx hb dL_law_1070 (by decide) ?_
  refine lv_iadd hx hb dL_law_1071 ?_
  refine l_ld (j := i + 1) X hX hbl hL (by omega) hL2 (nI_add i 1) dL_law_1072 ?_
  refine lv_aload_n hx hb dL_law_1073 rfl (lv_at hl 3 rfl) ?_
  refine lv_iload_n hx hb dL_law_1074 rfl (lv_at hl 0 rfl) ?_
  refine lv_iconst (v := 2) hx hb dL_law_1075 (by decide) ?_
  refine lv_iadd hx hb dL_law_1076 ?_
  refine l_ld (j := i + 2) X hX hbl hL (by omega) hL2 (nI_add i 2) dL_law_1077 ?_
  refine lv_aload_n hx hb dL_law_1078 rfl (lv_at hl 3 rfl) ?_
  refine lv_iload_n hx hb dL_law_1079 rfl (lv_at hl 0 rfl) ?_
  refine lv_iconst (v := 3) hx hb dL_law_1080 (by decide) ?_
  refine lv_iadd hx hb dL_law_1081 ?_
  refine l_ld (j := i + 3) X hX hbl hL (by omega) hL2 (nI_add i 3) dL_law_1082 ?_
  refine l_C (as := [.int (xs (i + 1)), .int (xs (i + 2)), .int (xs (i + 3))]) (rest := []) (c_X11_year (FW_C hEX) e1) X hl.1 hL rfl mw_X11_year wd_1019 wd_1020 wd_1021 rfl ⟨by decide, by decide⟩ (Nat.le_of_ble_eq_true rfl) hcs dL_law_1083 (fun H hL => ?_)
  refine lv_aload_n hx hb dL_law_1086 rfl (lv_at hl 1 rfl) ?_
  refine lv_aload_n hx hb dL_law_1087 rfl (lv_at hl 3 rfl) ?_
  refine lv_iload_n hx hb dL_law_1088 rfl (lv_at hl 0 rfl) ?_
  refine lv_iconst (v := 1) hx hb dL_law_1089 (by decide) ?_
  refine lv_iadd hx hb dL_law_1090 ?_
  refine l_ld (j := i + 1) X hX hbl hL (by omega) hL2 (nI_add i 1) dL_law_1091 ?_
  refine lv_aload_n hx hb dL_law_1092 rfl (lv_at hl 3 rfl) ?_
  refine lv_iload_n hx hb dL_law_1093 rfl (lv_at hl 0 rfl) ?_
  refine lv_iconst (v := 2) hx hb dL_law_1094 (by decide) ?_
  refine lv_iadd hx hb dL_law_1095 ?_
  refine l_ld (j := i + 2) X hX hbl hL (by omega) hL2 (nI_add i 2) dL_law_1096 ?_
  refine lv_aload_n hx hb dL_law_1097 rfl (lv_at hl 3 rfl) ?_
  refine lv_iload_n hx hb dL_law_1098 rfl (lv_at hl 0 rfl) ?_
  refine lv_iconst (v := 3) hx hb dL_law_1099 (by decide) ?_
  refine lv_iadd hx hb dL_law_1100 ?_
  refine l_ld (j := i + 3) X hX hbl hL (by omega) hL2 (nI_add i 3) dL_law_1101 ?_
  refine l_M (as := [.int (xs (i + 1)), .int (xs (i + 2)), .int (xs (i + 3))]) (rest := [.int r]) (c_X12_year FW_M e2) X hl.1 hL rfl mw_X12_year wd_1796 wd_1797 wd_1798 rfl ⟨by decide, by decide⟩ (Nat.le_of_ble_eq_true rfl) hcs dL_law_1102 (fun H hL => ?_)
  refine lv_icmp_eq (tgt := 1317) hx hb dL_law_1105 (by decide) (fun _ => ?_) (fun hc => absurd rfl hc)
  exact kk H μ1 ν1 hL hR2
theorem case_34 (X : LX G B E p s m args c) {Xx : Nat → Nat} (hEX : ∀ U, E U → EF Xx (fun q => B + 1 ≤ q) U) {b L : Nat} {xs : Nat → Int32} (hX : va_X b L xs s s.heap) (hbl : b < s.heap.size) (hL2 : L ≤ 3072) (hcs : cells ≤ 600000 ∧ slots ≤ 7302250) {i : Nat} (hi : i + 6 ≤ L) (hl : lv_has ls 4 [(3, .int (nI i)), (2, .ref (B + 191 + 0)), (1, .ref (B + 1)), (0, .ref b)]) (hL : LI G B E s μ ν H) (hR : REL μ ν) (kk : ∀ (H : Heap) (μ ν : Mem), LI G B E s μ ν H → REL μ ν → W p l e room_1 s m args below meth c H [] cells slots Q (F0 m 1317 ls [])) : W p l e room_1 s m args below meth c H [] cells slots Q (F0 m 1110 ls []) := by
  have hx := X.1
  have hb := X.2.1
  obtain ⟨r, μ1, ν1, e1, e2, hR2⟩ := r_tell hR (xs (i + 1)) (xs (i + 2)) (bz (xs (i + 3))) (bz_01 _)
  refine lv_aload_n hx hb dL_law_1110 rfl (lv_at hl 2 rfl) ?_
  refine lv_aload_n hx hb dL_law_1111 rfl (lv_at hl 3 rfl) ?_
  refine lv_iload_n hx hb dL_law_1112 rfl (lv_at hl 0 rfl) ?_
  refine lv_iconst (v := 1) hx hb dL_law_1113 (by decide) ?_
  refine lv_iadd hx hb dL_law_1114 ?_
  refine l_ld (j := i + 1) X hX hbl hL (by omega) hL2 (nI_add i 1) dL_law_1115 ?_
  refine lv_aload_n hx hb dL_law_1116 rfl (lv_at hl 3 rfl) ?_
  refine lv_iload_n hx hb dL_law_1117 rfl (lv_at hl 0 rfl) ?_
  refine lv_iconst (v := 2) hx hb dL_law_1118 (by decide) ?_
  refine lv_iadd hx hb dL_law_1119 ?_
  refine l_ld (j := i + 2) X hX hbl hL (by omega) hL2 (nI_add i 2) dL_law_1120 ?_
  refine lv_aload_n hx hb dL_law_1121 rfl (lv_at hl 3 rfl) ?_
  refine lv_iload_n hx hb dL_law_1122 rfl (lv_at hl 0 rfl) ?_
  refine lv_iconst (v := 3) hx hb dL_law_1123 (by decide) ?_
  refine lv_iadd hx hb dL_law_1124 ?_
  refine l_ld (j := i + 3) X hX hbl hL (by omega) hL2 (nI_add i 3) dL_law_1125 ?_
  refine bz_road (x := (xs (i + 3))) (tgt := 1133) hx hb dL_law_1126 (by decide) dL_law_1129 dL_law_1130 (by decide) dL_law_1133 ?_
  refine l_C (as := [.int (xs (i + 1)), .int (xs (i + 2)), .int (bz (xs (i + 3)))]) (rest := []) (c_X11_tell (FW_C hEX) e1) X hl.1 hL rfl mw_X11_tell wd_1113 wd_1114 wd_1115 rfl ⟨by decide, by decide⟩ (Nat.le_of_ble_eq_true rfl) hcs dL_law_1134 (fun H hL => ?_)
  refine lv_aload_n hx hb dL_law_1137 rfl (lv_at hl 1 rfl) ?_
  refine lv_aload_n hx hb dL_law_1138 rfl (lv_at hl 3 rfl) ?_
  refine lv_iload_n hx hb dL_law_1139 rfl (lv_at hl 0 rfl) ?_
  refine lv_iconst (v := 1) hx hb dL_law_1140 (by decide) ?_
  refine lv_iadd hx hb dL_law_1141 ?_
  refine l_ld (j := i + 1) X hX hbl hL (by omega) hL2 (nI_add i 1) dL_law_1142 ?_
  refine lv_aload_n hx hb dL_law_1143 rfl (lv_at hl 3 rfl) ?_
  refine lv_iload_n hx hb dL_law_1144 rfl (lv_at hl 0 rfl) ?_
  refine lv_iconst (v := 2) hx hb dL_law_1145 (by decide) ?_
  refine lv_iadd hx hb dL_law_1146 ?_
  refine l_ld (j := i + 2) X hX hbl hL (by omega) hL2 (nI_add i 2) dL_law_1147 ?_
  refine lv_aload_n hx hb dL_law_1148 rfl (lv_at hl 3 rfl) ?_
  refine lv_iload_n hx hb dL_law_1149 rfl (lv_at hl 0 rfl) ?_
  refine lv_iconst (v := 3) hx hb dL_law_1150 (by decide) ?_
  refine lv_iadd hx hb dL_law_1151 ?_
  refine l_ld (j := i + 3) X hX hbl hL (by omega) hL2 (nI_add i 3) dL_law_1152 ?_
  refine bz_road (x := (xs (i + 3))) (tgt := 1160) hx hb dL_law_1153 (by decide) dL_law_1156 dL_law_1157 (by decide) dL_law_1160 ?_
  refine l_M (as := [.int (xs (i + 1)), .int (xs (i + 2)), .int (bz (xs (i + 3)))]) (rest := [.int r]) (c_X12_tell FW_M e2) X hl.1 hL rfl mw_X12_tell wd_1800 wd_1801 wd_1802 rfl ⟨by decide, by decide⟩ (Nat.le_of_ble_eq_true rfl) hcs dL_law_1161 (fun H hL => ?_)
  refine lv_icmp_eq (tgt := 1317) hx hb dL_law_1164 (by decide) (fun _ => ?_) (fun hc => absurd rfl hc)
  exact kk H μ1 ν1 hL hR2
theorem case_35 (X : LX G B E p s m args c) {Xx : Nat → Nat} (hEX : ∀ U, E U → EF Xx (fun q => B + 1 ≤ q) U) {b L : Nat} {xs : Nat → Int32} (hX : va_X b L xs s s.heap) (hbl : b < s.heap.size) (hL2 : L ≤ 3072) (hcs : cells ≤ 600000 ∧ slots ≤ 7302250) {i : Nat} (hi : i + 6 ≤ L) (hl : lv_has ls 4 [(3, .int (nI i)), (2, .ref (B + 191 + 0)), (1, .ref (B + 1)), (0, .ref b)]) (hL : LI G B E s μ ν H) (hR : REL μ ν) (kk : ∀ (H : Heap) (μ ν : Mem), LI G B E s μ ν H → REL μ ν → W p l e room_1 s m args below meth c H [] cells slots Q (F0 m 1317 ls [])) : W p l e room_1 s m args below meth c H [] cells slots Q (F0 m 1169 ls []) := by
  have hx := X.1
  have hb := X.2.1
  obtain ⟨r, μ1, ν1, e1, e2, hR2⟩ := r_forget hR
  refine lv_aload_n hx hb dL_law_1169 rfl (lv_at hl 2 rfl) ?_
  refine l_C (as := []) (rest := []) (c_X11_forget (FW_C hEX) e1) X hl.1 hL rfl mw_X11_forget wd_1121 wd_1122 wd_1123 rfl ⟨by decide, by decide⟩ (Nat.le_of_ble_eq_true rfl) hcs dL_law_1170 (fun H hL => ?_)
  refine lv_aload_n hx hb dL_law_1173 rfl (lv_at hl 1 rfl) ?_
  refine l_M (as := []) (rest := [.int r]) (c_X12_forget FW_M e2) X hl.1 hL rfl mw_X12_forget wd_1804 wd_1805 wd_1806 rfl ⟨by decide, by decide⟩ (Nat.le_of_ble_eq_true rfl) hcs dL_law_1174 (fun H hL => ?_)
  refine lv_icmp_eq (tgt := 1317) hx hb dL_law_1177 (by decide) (fun _ => ?_) (fun hc => absurd rfl hc)
  exact kk H μ1 ν1 hL hR2
theorem case_36 (X : LX G B E p s m args c) {Xx : Nat → Nat} (hEX : ∀ U, E U → EF Xx (fun q => B + 1 ≤ q) U) {b L : Nat} {xs : Nat → Int32} (hX : va_X b L xs s s.heap) (hbl : b < s.heap.size) (hL2 : L ≤ 3072) (hcs : cells ≤ 600000 ∧ slots ≤ 7302250) {i : Nat} (hi : i + 6 ≤ L) (hl : lv_has ls 4 [(3, .int (nI i)), (2, .ref (B + 191 + 0)), (1, .ref (B + 1)), (0, .ref b)]) (hL : LI G B E s μ ν H) (hR : REL μ ν) (kk : ∀ (H : Heap) (μ ν : Mem), LI G B E s μ ν H → REL μ ν → W p l e room_1 s m args below meth c H [] cells slots Q (F0 m 1317 ls [])) : W p l e room_1 s m args below meth c H [] cells slots Q (F0 m 1182 ls []) := by
  have hx := X.1
  have hb := X.2.1
  obtain ⟨r, e1, e2, hR2⟩ := r_whose hR (xs (i + 1)) (xs (i + 2))
  refine lv_aload_n hx hb dL_law_1182 rfl (lv_at hl 2 rfl) ?_
  refine lv_aload_n hx hb dL_law_1183 rfl (lv_at hl 3 rfl) ?_
  refine lv_iload_n hx hb dL_law_1184 rfl (lv_at hl 0 rfl) ?_
  refine lv_iconst (v := 1) hx hb dL_law_1185 (by decide) ?_
  refine lv_iadd hx hb dL_law_1186 ?_
  refine l_ld (j := i + 1) X hX hbl hL (by omega) hL2 (nI_add i 1) dL_law_1187 ?_
  refine lv_aload_n hx hb dL_law_1188 rfl (lv_at hl 3 rfl) ?_
  refine lv_iload_n hx hb dL_law_1189 rfl (lv_at hl 0 rfl) ?_
  refine lv_iconst (v := 2) hx hb dL_law_1190 (by decide) ?_
  refine lv_iadd hx hb dL_law_1191 ?_
  refine l_ld (j := i + 2) X hX hbl hL (by omega) hL2 (nI_add i 2) dL_law_1192 ?_
  refine l_C (as := [.int (xs (i + 1)), .int (xs (i + 2))]) (rest := []) (c_X11_whose (FW_C hEX) e1) X hl.1 hL rfl mw_X11_whose wd_1125 wd_1126 wd_1127 rfl ⟨by decide, by decide⟩ (Nat.le_of_ble_eq_true rfl) hcs dL_law_1193 (fun H hL => ?_)
  refine lv_aload_n hx hb dL_law_1196 rfl (lv_at hl 1 rfl) ?_
  refine lv_aload_n hx hb dL_law_1197 rfl (lv_at hl 3 rfl) ?_
  refine lv_iload_n hx hb dL_law_1198 rfl (lv_at hl 0 rfl) ?_
  refine lv_iconst (v := 1) hx hb dL_law_1199 (by decide) ?_
  refine lv_iadd hx hb dL_law_1200 ?_
  refine l_ld (j := i + 1) X hX hbl hL (by omega) hL2 (nI_add i 1) dL_law_1201 ?_
  refine lv_aload_n hx hb dL_law_1202 rfl (lv_at hl 3 rfl) ?_
  refine lv_iload_n hx hb dL_law_1203 rfl (lv_at hl 0 rfl) ?_
  refine lv_iconst (v := 2) hx hb dL_law_1204 (by decide) ?_
  refine lv_iadd hx hb dL_law_1205 ?_
  refine l_ld (j := i + 2) X hX hbl hL (by omega) hL2 (nI_add i 2) dL_law_1206 ?_
  refine l_M (as := [.int (xs (i + 1)), .int (xs (i + 2))]) (rest := [.int r]) (c_X12_whose FW_M e2) X hl.1 hL rfl mw_X12_whose wd_1808 wd_1809 wd_1810 rfl ⟨by decide, by decide⟩ (Nat.le_of_ble_eq_true rfl) hcs dL_law_1207 (fun H hL => ?_)
  refine lv_icmp_eq (tgt := 1317) hx hb dL_law_1210 (by decide) (fun _ => ?_) (fun hc => absurd rfl hc)
  exact kk H μ ν hL hR2
theorem case_37 (X : LX G B E p s m args c) {Xx : Nat → Nat} (hEX : ∀ U, E U → EF Xx (fun q => B + 1 ≤ q) U) {b L : Nat} {xs : Nat → Int32} (hX : va_X b L xs s s.heap) (hbl : b < s.heap.size) (hL2 : L ≤ 3072) (hcs : cells ≤ 600000 ∧ slots ≤ 7302250) {i : Nat} (hi : i + 6 ≤ L) (hl : lv_has ls 4 [(3, .int (nI i)), (2, .ref (B + 191 + 0)), (1, .ref (B + 1)), (0, .ref b)]) (hL : LI G B E s μ ν H) (hR : REL μ ν) (kk : ∀ (H : Heap) (μ ν : Mem), LI G B E s μ ν H → REL μ ν → W p l e room_1 s m args below meth c H [] cells slots Q (F0 m 1317 ls [])) : W p l e room_1 s m args below meth c H [] cells slots Q (F0 m 1215 ls []) := by
  have hx := X.1
  have hb := X.2.1
  obtain ⟨r, e1, e2, hR2⟩ := r_look hR (xs (i + 1)) (xs (i + 2))
  refine lv_aload_n hx hb dL_law_1215 rfl (lv_at hl 2 rfl) ?_
  refine lv_aload_n hx hb dL_law_1216 rfl (lv_at hl 3 rfl) ?_
  refine lv_iload_n hx hb dL_law_1217 rfl (lv_at hl 0 rfl) ?_
  refine lv_iconst (v := 1) hx hb dL_law_1218 (by decide) ?_
  refine lv_iadd hx hb dL_law_1219 ?_
  refine l_ld (j := i + 1) X hX hbl hL (by omega) hL2 (nI_add i 1) dL_law_1220 ?_
  refine lv_aload_n hx hb dL_law_1221 rfl (lv_at hl 3 rfl) ?_
  refine lv_iload_n hx hb dL_law_1222 rfl (lv_at hl 0 rfl) ?_
  refine lv_iconst (v := 2) hx hb dL_law_1223 (by decide) ?_
  refine lv_iadd hx hb dL_law_1224 ?_
  refine l_ld (j := i + 2) X hX hbl hL (by omega) hL2 (nI_add i 2) dL_law_1225 ?_
  refine l_C (as := [.int (xs (i + 1)), .int (xs (i + 2))]) (rest := []) (c_X11_look (FW_C hEX) e1) X hl.1 hL rfl mw_X11_look wd_1145 wd_1146 wd_1147 rfl ⟨by decide, by decide⟩ (Nat.le_of_ble_eq_true rfl) hcs dL_law_1226 (fun H hL => ?_)
  refine lv_aload_n hx hb dL_law_1229 rfl (lv_at hl 1 rfl) ?_
  refine lv_aload_n hx hb dL_law_1230 rfl (lv_at hl 3 rfl) ?_
  refine lv_iload_n hx hb dL_law_1231 rfl (lv_at hl 0 rfl) ?_
  refine lv_iconst (v := 1) hx hb dL_law_1232 (by decide) ?_
  refine lv_iadd hx hb dL_law_1233 ?_
  refine l_ld (j := i + 1) X hX hbl hL (by omega) hL2 (nI_add i 1) dL_law_1234 ?_
  refine lv_aload_n hx hb dL_law_1235 rfl (lv_at hl 3 rfl) ?_
  refine lv_iload_n hx hb dL_law_1236 rfl (lv_at hl 0 rfl) ?_
  refine lv_iconst (v := 2) hx hb dL_law_1237 (by decide) ?_
  refine lv_iadd hx hb dL_law_1238 ?_
  refine l_ld (j := i + 2) X hX hbl hL (by omega) hL2 (nI_add i 2) dL_law_1239 ?_
  refine l_M (as := [.int (xs (i + 1)), .int (xs (i + 2))]) (rest := [.int r]) (c_X12_look FW_M e2) X hl.1 hL rfl mw_X12_look wd_1823 wd_1824 wd_1825 rfl ⟨by decide, by decide⟩ (Nat.le_of_ble_eq_true rfl) hcs dL_law_1240 (fun H hL => ?_)
  refine lv_icmp_eq (tgt := 1317) hx hb dL_law_1243 (by decide) (fun _ => ?_) (fun hc => absurd rfl hc)
  exact kk H μ ν hL hR2
theorem case_38 (X : LX G B E p s m args c) {Xx : Nat → Nat} (hEX : ∀ U, E U → EF Xx (fun q => B + 1 ≤ q) U) {b L : Nat} {xs : Nat → Int32} (hX : va_X b L xs s s.heap) (hbl : b < s.heap.size) (hL2 : L ≤ 3072) (hcs : cells ≤ 600000 ∧ slots ≤ 7302250) {i : Nat} (hi : i + 6 ≤ L) (hl : lv_has ls 4 [(3, .int (nI i)), (2, .ref (B + 191 + 0)), (1, .ref (B + 1)), (0, .ref b)]) (hL : LI G B E s μ ν H) (hR : REL μ ν) (kk : ∀ (H : Heap) (μ ν : Mem), LI G B E s μ ν H → REL μ ν → W p l e room_1 s m args below meth c H [] cells slots Q (F0 m 1317 ls [])) : W p l e room_1 s m args below meth c H [] cells slots Q (F0 m 1248 ls []) := by
  have hx := X.1
  have hb := X.2.1
  obtain ⟨r, μ1, ν1, e1, e2, hR2⟩ := r_hold hR (xs (i + 1))
  refine lv_aload_n hx hb dL_law_1248 rfl (lv_at hl 2 rfl) ?_
  refine lv_aload_n hx hb dL_law_1249 rfl (lv_at hl 3 rfl) ?_
  refine lv_iload_n hx hb dL_law_1250 rfl (lv_at hl 0 rfl) ?_
  refine lv_iconst (v := 1) hx hb dL_law_1251 (by decide) ?_
  refine lv_iadd hx hb dL_law_1252 ?_
  refine l_ld (j := i + 1) X hX hbl hL (by omega) hL2 (nI_add i 1) dL_law_1253 ?_
  refine l_C (as := [.int (xs (i + 1))]) (rest := []) (c_X11_hold (FW_C hEX) e1) X hl.1 hL rfl mw_X11_hold wd_895 wd_896 wd_897 rfl ⟨by decide, by decide⟩ (Nat.le_of_ble_eq_true rfl) hcs dL_law_1254 (fun H hL => ?_)
  refine lv_aload_n hx hb dL_law_1257 rfl (lv_at hl 1 rfl) ?_
  refine lv_aload_n hx hb dL_law_1258 rfl (lv_at hl 3 rfl) ?_
  refine lv_iload_n hx hb dL_law_1259 rfl (lv_at hl 0 rfl) ?_
  refine lv_iconst (v := 1) hx hb dL_law_1260 (by decide) ?_
  refine lv_iadd hx hb dL_law_1261 ?_
  refine l_ld (j := i + 1) X hX hbl hL (by omega) hL2 (nI_add i 1) dL_law_1262 ?_
  refine l_M (as := [.int (xs (i + 1))]) (rest := [.int r]) (c_X12_hold FW_M e2) X hl.1 hL rfl mw_X12_hold wd_1827 wd_1828 wd_1829 rfl ⟨by decide, by decide⟩ (Nat.le_of_ble_eq_true rfl) hcs dL_law_1263 (fun H hL => ?_)
  refine lv_icmp_eq (tgt := 1317) hx hb dL_law_1266 (by decide) (fun _ => ?_) (fun hc => absurd rfl hc)
  exact kk H μ1 ν1 hL hR2
theorem case_39 (X : LX G B E p s m args c) {Xx : Nat → Nat} (hEX : ∀ U, E U → EF Xx (fun q => B + 1 ≤ q) U) {b L : Nat} {xs : Nat → Int32} (hX : va_X b L xs s s.heap) (hbl : b < s.heap.size) (hL2 : L ≤ 3072) (hcs : cells ≤ 600000 ∧ slots ≤ 7302250) {i : Nat} (hi : i + 6 ≤ L) (hl : lv_has ls 4 [(3, .int (nI i)), (2, .ref (B + 191 + 0)), (1, .ref (B + 1)), (0, .ref b)]) (hL : LI G B E s μ ν H) (hR : REL μ ν) (kk : ∀ (H : Heap) (μ ν : Mem), LI G B E s μ ν H → REL μ ν → W p l e room_1 s m args below meth c H [] cells slots Q (F0 m 1317 ls [])) : W p l e room_1 s m args below meth c H [] cells slots Q (F0 m 1271 ls []) := by
  have hx := X.1
  have hb := X.2.1
  obtain ⟨r, μ1, ν1, e1, e2, hR2⟩ := r_restore hR (xs (i + 1))
  refine lv_aload_n hx hb dL_law_1271 rfl (lv_at hl 2 rfl) ?_
  refine lv_aload_n hx hb dL_law_1272 rfl (lv_at hl 3 rfl) ?_
  refine lv_iload_n hx hb dL_law_1273 rfl (lv_at hl 0 rfl) ?_
  refine lv_iconst (v := 1) hx hb dL_law_1274 (by decide) ?_
  refine lv_iadd hx hb dL_law_1275 ?_
  refine l_ld (j := i + 1) X hX hbl hL (by omega) hL2 (nI_add i 1) dL_law_1276 ?_
  refine l_C (as := [.int (xs (i + 1))]) (rest := []) (c_X11_restore (FW_C hEX) e1) X hl.1 hL rfl mw_X11_restore wd_903 wd_904 wd_905 rfl ⟨by decide, by decide⟩ (Nat.le_of_ble_eq_true rfl) hcs dL_law_1277 (fun H hL => ?_)
  refine lv_aload_n hx hb dL_law_1280 rfl (lv_at hl 1 rfl) ?_
  refine lv_aload_n hx hb dL_law_1281 rfl (lv_at hl 3 rfl) ?_
  refine lv_iload_n hx hb dL_law_1282 rfl (lv_at hl 0 rfl) ?_
  refine lv_iconst (v := 1) hx hb dL_law_1283 (by decide) ?_
  refine lv_iadd hx hb dL_law_1284 ?_
  refine l_ld (j := i + 1) X hX hbl hL (by omega) hL2 (nI_add i 1) dL_law_1285 ?_
  refine l_M (as := [.int (xs (i + 1))]) (rest := [.int r]) (c_X12_restore FW_M e2) X hl.1 hL rfl mw_X12_restore wd_1831 wd_1832 wd_1833 rfl ⟨by decide, by decide⟩ (Nat.le_of_ble_eq_true rfl) hcs dL_law_1286 (fun H hL => ?_)
  refine lv_icmp_eq (tgt := 1317) hx hb dL_law_1289 (by decide) (fun _ => ?_) (fun hc => absurd rfl hc)
  exact kk H μ1 ν1 hL hR2
theorem case_40 (X : LX G B E p s m args c) {Xx : Nat → Nat} (hEX : ∀ U, E U → EF Xx (fun q => B + 1 ≤ q) U) {b L : Nat} {xs : Nat → Int32} (hX : va_X b L xs s s.heap) (hbl : b < s.heap.size) (hL2 : L ≤ 3072) (hcs : cells ≤ 600000 ∧ slots ≤ 7302250) {i : Nat} (hi : i + 6 ≤ L) (hl : lv_has ls 4 [(3, .int (nI i)), (2, .ref (B + 191 + 0)), (1, .ref (B + 1)), (0, .ref b)]) (hL : LI G B E s μ ν H) (hR : REL μ ν) (kk : ∀ (H : Heap) (μ ν : Mem), LI G B E s μ ν H → REL μ ν → W p l e room_1 s m args below meth c H [] cells slots Q (F0 m 1317 ls [])) : W p l e room_1 s m args below meth c H [] cells slots Q (F0 m 1294 ls []) := by
  have hx := X.1
  have hb := X.2.1
  obtain ⟨r, μ1, ν1, e1, e2, hR2⟩ := r_count hR (xs (i + 1))
  refine lv_aload_n hx hb dL_law_1294 rfl (lv_at hl 2 rfl) ?_
  refine lv_aload_n hx hb dL_law_1295 rfl (lv_at hl 3 rfl) ?_
  refine lv_iload_n hx hb dL_law_1296 rfl (lv_at hl 0 rfl) ?_
  refine lv_iconst (v := 1) hx hb dL_law_1297 (by decide) ?_
  refine lv_iadd hx hb dL_law_1298 ?_
  refine l_ld (j := i + 1) X hX hbl hL (by omega) hL2 (nI_add i 1) dL_law_1299 ?_
  refine l_C (as := [.int (xs (i + 1))]) (rest := []) (c_X11_count (FW_C hEX) e1) X hl.1 hL rfl mw_X11_count wd_783 wd_784 wd_785 rfl ⟨by decide, by decide⟩ (Nat.le_of_ble_eq_true rfl) hcs dL_law_1300 (fun H hL => ?_)
  refine lv_aload_n hx hb dL_law_1303 rfl (lv_at hl 1 rfl) ?_
  refine lv_aload_n hx hb dL_law_1304 rfl (lv_at hl 3 rfl) ?_
  refine lv_iload_n hx hb dL_law_1305 rfl (lv_at hl 0 rfl) ?_
  refine lv_iconst (v := 1) hx hb dL_law_1306 (by decide) ?_
  refine lv_iadd hx hb dL_law_1307 ?_
  refine l_ld (j := i + 1) X hX hbl hL (by omega) hL2 (nI_add i 1) dL_law_1308 ?_
  refine l_M (as := [.int (xs (i + 1))]) (rest := [.int r]) (c_X12_count FW_M e2) X hl.1 hL rfl mw_X12_count wd_1835 wd_1836 wd_1837 rfl ⟨by decide, by decide⟩ (Nat.le_of_ble_eq_true rfl) hcs dL_law_1309 (fun H hL => ?_)
  refine lv_icmp_eq (tgt := 1317) hx hb dL_law_1312 (by decide) (fun _ => ?_) (fun hc => absurd rfl hc)
  exact kk H μ1 ν1 hL hR2
end LC
