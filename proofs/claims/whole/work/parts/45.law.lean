theorem dL_law_0 : decode cL_law 0 = .ok (.new 7, 3) := by decide +kernel
theorem dL_law_3 : decode cL_law 3 = .ok (.dup, 1) := by decide +kernel
theorem dL_law_4 : decode cL_law 4 = .ok (.invokespecial 9, 3) := by decide +kernel
theorem dL_law_7 : decode cL_law 7 = .ok (.astore_n 1, 1) := by decide +kernel
theorem dL_law_8 : decode cL_law 8 = .ok (.new 10, 3) := by decide +kernel
theorem dL_law_11 : decode cL_law 11 = .ok (.dup, 1) := by decide +kernel
theorem dL_law_12 : decode cL_law 12 = .ok (.invokespecial 12, 3) := by decide +kernel
theorem dL_law_15 : decode cL_law 15 = .ok (.astore_n 2, 1) := by decide +kernel
theorem dL_law_16 : decode cL_law 16 = .ok (.iconst 0, 1) := by decide +kernel
theorem dL_law_17 : decode cL_law 17 = .ok (.istore_n 3, 1) := by decide +kernel
theorem dL_law_18 : decode cL_law 18 = .ok (.iload_n 3, 1) := by decide +kernel
theorem dL_law_19 : decode cL_law 19 = .ok (.aload_n 0, 1) := by decide +kernel
theorem dL_law_20 : decode cL_law 20 = .ok (.arraylength, 1) := by decide +kernel
theorem dL_law_21 : decode cL_law 21 = .ok (.bipush 6, 2) := by decide +kernel
theorem dL_law_23 : decode cL_law 23 = .ok (.isub, 1) := by decide +kernel
theorem dL_law_24 : decode cL_law 24 = .ok (.if_icmp .gt 1422, 3) := by decide +kernel
theorem dL_law_27 : decode cL_law 27 = .ok (.aload_n 0, 1) := by decide +kernel
theorem dL_law_28 : decode cL_law 28 = .ok (.iload_n 3, 1) := by decide +kernel
theorem dL_law_29 : decode cL_law 29 = .ok (.iaload, 1) := by decide +kernel
theorem dL_law_30 : decode cL_law 30 = .ok (.bipush 63, 2) := by decide +kernel
theorem dL_law_32 : decode cL_law 32 = .ok (.iand, 1) := by decide +kernel
theorem dL_law_33 : decode cL_law 33 = .ok (.tableswitch 1407 0 41 #[183, 246, 269, 282, 295, 328, 361, 384, 427, 460, 493, 532, 571, 594, 607, 630, 663, 696, 719, 752, 765, 798, 831, 864, 897, 930, 963, 986, 1009, 1052, 1065, 1088, 1111, 1144, 1167, 1210, 1269, 1282, 1315, 1338, 1361, 1384], 183) := by decide +kernel
theorem dL_law_216 : decode cL_law 216 = .ok (.aload_n 1, 1) := by decide +kernel
theorem dL_law_217 : decode cL_law 217 = .ok (.aload_n 0, 1) := by decide +kernel
theorem dL_law_218 : decode cL_law 218 = .ok (.iload_n 3, 1) := by decide +kernel
theorem dL_law_219 : decode cL_law 219 = .ok (.iconst 1, 1) := by decide +kernel
theorem dL_law_220 : decode cL_law 220 = .ok (.iadd, 1) := by decide +kernel
theorem dL_law_221 : decode cL_law 221 = .ok (.iaload, 1) := by decide +kernel
theorem dL_law_222 : decode cL_law 222 = .ok (.aload_n 0, 1) := by decide +kernel
theorem dL_law_223 : decode cL_law 223 = .ok (.iload_n 3, 1) := by decide +kernel
theorem dL_law_224 : decode cL_law 224 = .ok (.iconst 2, 1) := by decide +kernel
theorem dL_law_225 : decode cL_law 225 = .ok (.iadd, 1) := by decide +kernel
theorem dL_law_226 : decode cL_law 226 = .ok (.iaload, 1) := by decide +kernel
theorem dL_law_227 : decode cL_law 227 = .ok (.aload_n 0, 1) := by decide +kernel
theorem dL_law_228 : decode cL_law 228 = .ok (.iload_n 3, 1) := by decide +kernel
theorem dL_law_229 : decode cL_law 229 = .ok (.iconst 3, 1) := by decide +kernel
theorem dL_law_230 : decode cL_law 230 = .ok (.iadd, 1) := by decide +kernel
theorem dL_law_231 : decode cL_law 231 = .ok (.iaload, 1) := by decide +kernel
theorem dL_law_232 : decode cL_law 232 = .ok (.aload_n 0, 1) := by decide +kernel
theorem dL_law_233 : decode cL_law 233 = .ok (.iload_n 3, 1) := by decide +kernel
theorem dL_law_234 : decode cL_law 234 = .ok (.iconst 4, 1) := by decide +kernel
theorem dL_law_235 : decode cL_law 235 = .ok (.iadd, 1) := by decide +kernel
theorem dL_law_236 : decode cL_law 236 = .ok (.iaload, 1) := by decide +kernel
theorem dL_law_237 : decode cL_law 237 = .ok (.aload_n 0, 1) := by decide +kernel
theorem dL_law_238 : decode cL_law 238 = .ok (.iload_n 3, 1) := by decide +kernel
theorem dL_law_239 : decode cL_law 239 = .ok (.iconst 5, 1) := by decide +kernel
theorem dL_law_240 : decode cL_law 240 = .ok (.iadd, 1) := by decide +kernel
theorem dL_law_241 : decode cL_law 241 = .ok (.iaload, 1) := by decide +kernel
theorem dL_law_242 : decode cL_law 242 = .ok (.invokevirtual 13, 3) := by decide +kernel
theorem dL_law_245 : decode cL_law 245 = .ok (.aload_n 2, 1) := by decide +kernel
theorem dL_law_246 : decode cL_law 246 = .ok (.aload_n 0, 1) := by decide +kernel
theorem dL_law_247 : decode cL_law 247 = .ok (.iload_n 3, 1) := by decide +kernel
theorem dL_law_248 : decode cL_law 248 = .ok (.iconst 1, 1) := by decide +kernel
theorem dL_law_249 : decode cL_law 249 = .ok (.iadd, 1) := by decide +kernel
theorem dL_law_250 : decode cL_law 250 = .ok (.iaload, 1) := by decide +kernel
theorem dL_law_251 : decode cL_law 251 = .ok (.aload_n 0, 1) := by decide +kernel
theorem dL_law_252 : decode cL_law 252 = .ok (.iload_n 3, 1) := by decide +kernel
theorem dL_law_253 : decode cL_law 253 = .ok (.iconst 2, 1) := by decide +kernel
theorem dL_law_254 : decode cL_law 254 = .ok (.iadd, 1) := by decide +kernel
theorem dL_law_255 : decode cL_law 255 = .ok (.iaload, 1) := by decide +kernel
theorem dL_law_256 : decode cL_law 256 = .ok (.aload_n 0, 1) := by decide +kernel
theorem dL_law_257 : decode cL_law 257 = .ok (.iload_n 3, 1) := by decide +kernel
theorem dL_law_258 : decode cL_law 258 = .ok (.iconst 3, 1) := by decide +kernel
theorem dL_law_259 : decode cL_law 259 = .ok (.iadd, 1) := by decide +kernel
theorem dL_law_260 : decode cL_law 260 = .ok (.iaload, 1) := by decide +kernel
theorem dL_law_261 : decode cL_law 261 = .ok (.aload_n 0, 1) := by decide +kernel
theorem dL_law_262 : decode cL_law 262 = .ok (.iload_n 3, 1) := by decide +kernel
theorem dL_law_263 : decode cL_law 263 = .ok (.iconst 4, 1) := by decide +kernel
theorem dL_law_264 : decode cL_law 264 = .ok (.iadd, 1) := by decide +kernel
theorem dL_law_265 : decode cL_law 265 = .ok (.iaload, 1) := by decide +kernel
theorem dL_law_266 : decode cL_law 266 = .ok (.aload_n 0, 1) := by decide +kernel
theorem dL_law_267 : decode cL_law 267 = .ok (.iload_n 3, 1) := by decide +kernel
theorem dL_law_268 : decode cL_law 268 = .ok (.iconst 5, 1) := by decide +kernel
theorem dL_law_269 : decode cL_law 269 = .ok (.iadd, 1) := by decide +kernel
theorem dL_law_270 : decode cL_law 270 = .ok (.iaload, 1) := by decide +kernel
theorem dL_law_271 : decode cL_law 271 = .ok (.invokevirtual 17, 3) := by decide +kernel
theorem dL_law_274 : decode cL_law 274 = .ok (.if_icmp .eq 1166, 3) := by decide +kernel
theorem dL_law_277 : decode cL_law 277 = .ok (.iconst 0, 1) := by decide +kernel
theorem dL_law_278 : decode cL_law 278 = .ok (.ireturn, 1) := by decide +kernel
theorem dL_law_279 : decode cL_law 279 = .ok (.aload_n 1, 1) := by decide +kernel
theorem dL_law_280 : decode cL_law 280 = .ok (.aload_n 0, 1) := by decide +kernel
theorem dL_law_281 : decode cL_law 281 = .ok (.iload_n 3, 1) := by decide +kernel
theorem dL_law_282 : decode cL_law 282 = .ok (.iconst 1, 1) := by decide +kernel
theorem dL_law_283 : decode cL_law 283 = .ok (.iadd, 1) := by decide +kernel
theorem dL_law_284 : decode cL_law 284 = .ok (.iaload, 1) := by decide +kernel
theorem dL_law_285 : decode cL_law 285 = .ok (.invokevirtual 18, 3) := by decide +kernel
theorem dL_law_288 : decode cL_law 288 = .ok (.aload_n 2, 1) := by decide +kernel
theorem dL_law_289 : decode cL_law 289 = .ok (.aload_n 0, 1) := by decide +kernel
theorem dL_law_290 : decode cL_law 290 = .ok (.iload_n 3, 1) := by decide +kernel
theorem dL_law_291 : decode cL_law 291 = .ok (.iconst 1, 1) := by decide +kernel
theorem dL_law_292 : decode cL_law 292 = .ok (.iadd, 1) := by decide +kernel
theorem dL_law_293 : decode cL_law 293 = .ok (.iaload, 1) := by decide +kernel
theorem dL_law_294 : decode cL_law 294 = .ok (.invokevirtual 22, 3) := by decide +kernel
theorem dL_law_297 : decode cL_law 297 = .ok (.if_icmp .eq 1143, 3) := by decide +kernel
theorem dL_law_300 : decode cL_law 300 = .ok (.iconst 0, 1) := by decide +kernel
theorem dL_law_301 : decode cL_law 301 = .ok (.ireturn, 1) := by decide +kernel
theorem dL_law_302 : decode cL_law 302 = .ok (.aload_n 1, 1) := by decide +kernel
theorem dL_law_303 : decode cL_law 303 = .ok (.invokevirtual 23, 3) := by decide +kernel
theorem dL_law_306 : decode cL_law 306 = .ok (.aload_n 2, 1) := by decide +kernel
theorem dL_law_307 : decode cL_law 307 = .ok (.invokevirtual 27, 3) := by decide +kernel
theorem dL_law_310 : decode cL_law 310 = .ok (.if_icmp .eq 1130, 3) := by decide +kernel
theorem dL_law_313 : decode cL_law 313 = .ok (.iconst 0, 1) := by decide +kernel
theorem dL_law_314 : decode cL_law 314 = .ok (.ireturn, 1) := by decide +kernel
theorem dL_law_315 : decode cL_law 315 = .ok (.aload_n 1, 1) := by decide +kernel
theorem dL_law_316 : decode cL_law 316 = .ok (.invokevirtual 28, 3) := by decide +kernel
theorem dL_law_319 : decode cL_law 319 = .ok (.aload_n 2, 1) := by decide +kernel
theorem dL_law_320 : decode cL_law 320 = .ok (.invokevirtual 31, 3) := by decide +kernel
theorem dL_law_323 : decode cL_law 323 = .ok (.if_icmp .eq 1117, 3) := by decide +kernel
theorem dL_law_326 : decode cL_law 326 = .ok (.iconst 0, 1) := by decide +kernel
theorem dL_law_327 : decode cL_law 327 = .ok (.ireturn, 1) := by decide +kernel
theorem dL_law_328 : decode cL_law 328 = .ok (.aload_n 1, 1) := by decide +kernel
theorem dL_law_329 : decode cL_law 329 = .ok (.aload_n 0, 1) := by decide +kernel
theorem dL_law_330 : decode cL_law 330 = .ok (.iload_n 3, 1) := by decide +kernel
theorem dL_law_331 : decode cL_law 331 = .ok (.iconst 1, 1) := by decide +kernel
theorem dL_law_332 : decode cL_law 332 = .ok (.iadd, 1) := by decide +kernel
theorem dL_law_333 : decode cL_law 333 = .ok (.iaload, 1) := by decide +kernel
theorem dL_law_334 : decode cL_law 334 = .ok (.aload_n 0, 1) := by decide +kernel
theorem dL_law_335 : decode cL_law 335 = .ok (.iload_n 3, 1) := by decide +kernel
theorem dL_law_336 : decode cL_law 336 = .ok (.iconst 2, 1) := by decide +kernel
theorem dL_law_337 : decode cL_law 337 = .ok (.iadd, 1) := by decide +kernel
theorem dL_law_338 : decode cL_law 338 = .ok (.iaload, 1) := by decide +kernel
theorem dL_law_339 : decode cL_law 339 = .ok (.invokevirtual 32, 3) := by decide +kernel
theorem dL_law_342 : decode cL_law 342 = .ok (.aload_n 2, 1) := by decide +kernel
theorem dL_law_343 : decode cL_law 343 = .ok (.aload_n 0, 1) := by decide +kernel
theorem dL_law_344 : decode cL_law 344 = .ok (.iload_n 3, 1) := by decide +kernel
theorem dL_law_345 : decode cL_law 345 = .ok (.iconst 1, 1) := by decide +kernel
theorem dL_law_346 : decode cL_law 346 = .ok (.iadd, 1) := by decide +kernel
theorem dL_law_347 : decode cL_law 347 = .ok (.iaload, 1) := by decide +kernel
theorem dL_law_348 : decode cL_law 348 = .ok (.aload_n 0, 1) := by decide +kernel
theorem dL_law_349 : decode cL_law 349 = .ok (.iload_n 3, 1) := by decide +kernel
theorem dL_law_350 : decode cL_law 350 = .ok (.iconst 2, 1) := by decide +kernel
theorem dL_law_351 : decode cL_law 351 = .ok (.iadd, 1) := by decide +kernel
theorem dL_law_352 : decode cL_law 352 = .ok (.iaload, 1) := by decide +kernel
theorem dL_law_353 : decode cL_law 353 = .ok (.invokevirtual 36, 3) := by decide +kernel
theorem dL_law_356 : decode cL_law 356 = .ok (.if_icmp .eq 1084, 3) := by decide +kernel
theorem dL_law_359 : decode cL_law 359 = .ok (.iconst 0, 1) := by decide +kernel
theorem dL_law_360 : decode cL_law 360 = .ok (.ireturn, 1) := by decide +kernel
theorem dL_law_361 : decode cL_law 361 = .ok (.aload_n 1, 1) := by decide +kernel
theorem dL_law_362 : decode cL_law 362 = .ok (.aload_n 0, 1) := by decide +kernel
theorem dL_law_363 : decode cL_law 363 = .ok (.iload_n 3, 1) := by decide +kernel
theorem dL_law_364 : decode cL_law 364 = .ok (.iconst 1, 1) := by decide +kernel
theorem dL_law_365 : decode cL_law 365 = .ok (.iadd, 1) := by decide +kernel
theorem dL_law_366 : decode cL_law 366 = .ok (.iaload, 1) := by decide +kernel
theorem dL_law_367 : decode cL_law 367 = .ok (.aload_n 0, 1) := by decide +kernel
theorem dL_law_368 : decode cL_law 368 = .ok (.iload_n 3, 1) := by decide +kernel
theorem dL_law_369 : decode cL_law 369 = .ok (.iconst 2, 1) := by decide +kernel
theorem dL_law_370 : decode cL_law 370 = .ok (.iadd, 1) := by decide +kernel
theorem dL_law_371 : decode cL_law 371 = .ok (.iaload, 1) := by decide +kernel
theorem dL_law_372 : decode cL_law 372 = .ok (.invokevirtual 37, 3) := by decide +kernel
theorem dL_law_375 : decode cL_law 375 = .ok (.aload_n 2, 1) := by decide +kernel
theorem dL_law_376 : decode cL_law 376 = .ok (.aload_n 0, 1) := by decide +kernel
theorem dL_law_377 : decode cL_law 377 = .ok (.iload_n 3, 1) := by decide +kernel
theorem dL_law_378 : decode cL_law 378 = .ok (.iconst 1, 1) := by decide +kernel
theorem dL_law_379 : decode cL_law 379 = .ok (.iadd, 1) := by decide +kernel
theorem dL_law_380 : decode cL_law 380 = .ok (.iaload, 1) := by decide +kernel
theorem dL_law_381 : decode cL_law 381 = .ok (.aload_n 0, 1) := by decide +kernel
theorem dL_law_382 : decode cL_law 382 = .ok (.iload_n 3, 1) := by decide +kernel
theorem dL_law_383 : decode cL_law 383 = .ok (.iconst 2, 1) := by decide +kernel
theorem dL_law_384 : decode cL_law 384 = .ok (.iadd, 1) := by decide +kernel
theorem dL_law_385 : decode cL_law 385 = .ok (.iaload, 1) := by decide +kernel
theorem dL_law_386 : decode cL_law 386 = .ok (.invokevirtual 40, 3) := by decide +kernel
theorem dL_law_389 : decode cL_law 389 = .ok (.if_icmp .eq 1051, 3) := by decide +kernel
theorem dL_law_392 : decode cL_law 392 = .ok (.iconst 0, 1) := by decide +kernel
theorem dL_law_393 : decode cL_law 393 = .ok (.ireturn, 1) := by decide +kernel
theorem dL_law_394 : decode cL_law 394 = .ok (.aload_n 1, 1) := by decide +kernel
theorem dL_law_395 : decode cL_law 395 = .ok (.aload_n 0, 1) := by decide +kernel
theorem dL_law_396 : decode cL_law 396 = .ok (.iload_n 3, 1) := by decide +kernel
theorem dL_law_397 : decode cL_law 397 = .ok (.iconst 1, 1) := by decide +kernel
theorem dL_law_398 : decode cL_law 398 = .ok (.iadd, 1) := by decide +kernel
theorem dL_law_399 : decode cL_law 399 = .ok (.iaload, 1) := by decide +kernel
theorem dL_law_400 : decode cL_law 400 = .ok (.invokevirtual 41, 3) := by decide +kernel
theorem dL_law_403 : decode cL_law 403 = .ok (.aload_n 2, 1) := by decide +kernel
theorem dL_law_404 : decode cL_law 404 = .ok (.aload_n 0, 1) := by decide +kernel
theorem dL_law_405 : decode cL_law 405 = .ok (.iload_n 3, 1) := by decide +kernel
theorem dL_law_406 : decode cL_law 406 = .ok (.iconst 1, 1) := by decide +kernel
theorem dL_law_407 : decode cL_law 407 = .ok (.iadd, 1) := by decide +kernel
theorem dL_law_408 : decode cL_law 408 = .ok (.iaload, 1) := by decide +kernel
theorem dL_law_409 : decode cL_law 409 = .ok (.invokevirtual 44, 3) := by decide +kernel
theorem dL_law_412 : decode cL_law 412 = .ok (.if_icmp .eq 1028, 3) := by decide +kernel
theorem dL_law_415 : decode cL_law 415 = .ok (.iconst 0, 1) := by decide +kernel
theorem dL_law_416 : decode cL_law 416 = .ok (.ireturn, 1) := by decide +kernel
theorem dL_law_417 : decode cL_law 417 = .ok (.aload_n 1, 1) := by decide +kernel
theorem dL_law_418 : decode cL_law 418 = .ok (.aload_n 0, 1) := by decide +kernel
theorem dL_law_419 : decode cL_law 419 = .ok (.iload_n 3, 1) := by decide +kernel
theorem dL_law_420 : decode cL_law 420 = .ok (.iconst 1, 1) := by decide +kernel
theorem dL_law_421 : decode cL_law 421 = .ok (.iadd, 1) := by decide +kernel
theorem dL_law_422 : decode cL_law 422 = .ok (.iaload, 1) := by decide +kernel
theorem dL_law_423 : decode cL_law 423 = .ok (.aload_n 0, 1) := by decide +kernel
theorem dL_law_424 : decode cL_law 424 = .ok (.iload_n 3, 1) := by decide +kernel
theorem dL_law_425 : decode cL_law 425 = .ok (.iconst 2, 1) := by decide +kernel
theorem dL_law_426 : decode cL_law 426 = .ok (.iadd, 1) := by decide +kernel
theorem dL_law_427 : decode cL_law 427 = .ok (.iaload, 1) := by decide +kernel
theorem dL_law_428 : decode cL_law 428 = .ok (.aload_n 0, 1) := by decide +kernel
theorem dL_law_429 : decode cL_law 429 = .ok (.iload_n 3, 1) := by decide +kernel
theorem dL_law_430 : decode cL_law 430 = .ok (.iconst 3, 1) := by decide +kernel
theorem dL_law_431 : decode cL_law 431 = .ok (.iadd, 1) := by decide +kernel
theorem dL_law_432 : decode cL_law 432 = .ok (.iaload, 1) := by decide +kernel
theorem dL_law_433 : decode cL_law 433 = .ok (.invokevirtual 45, 3) := by decide +kernel
theorem dL_law_436 : decode cL_law 436 = .ok (.aload_n 2, 1) := by decide +kernel
theorem dL_law_437 : decode cL_law 437 = .ok (.aload_n 0, 1) := by decide +kernel
theorem dL_law_438 : decode cL_law 438 = .ok (.iload_n 3, 1) := by decide +kernel
theorem dL_law_439 : decode cL_law 439 = .ok (.iconst 1, 1) := by decide +kernel
theorem dL_law_440 : decode cL_law 440 = .ok (.iadd, 1) := by decide +kernel
theorem dL_law_441 : decode cL_law 441 = .ok (.iaload, 1) := by decide +kernel
theorem dL_law_442 : decode cL_law 442 = .ok (.aload_n 0, 1) := by decide +kernel
theorem dL_law_443 : decode cL_law 443 = .ok (.iload_n 3, 1) := by decide +kernel
theorem dL_law_444 : decode cL_law 444 = .ok (.iconst 2, 1) := by decide +kernel
theorem dL_law_445 : decode cL_law 445 = .ok (.iadd, 1) := by decide +kernel
theorem dL_law_446 : decode cL_law 446 = .ok (.iaload, 1) := by decide +kernel
theorem dL_law_447 : decode cL_law 447 = .ok (.aload_n 0, 1) := by decide +kernel
theorem dL_law_448 : decode cL_law 448 = .ok (.iload_n 3, 1) := by decide +kernel
theorem dL_law_449 : decode cL_law 449 = .ok (.iconst 3, 1) := by decide +kernel
theorem dL_law_450 : decode cL_law 450 = .ok (.iadd, 1) := by decide +kernel
theorem dL_law_451 : decode cL_law 451 = .ok (.iaload, 1) := by decide +kernel
theorem dL_law_452 : decode cL_law 452 = .ok (.invokevirtual 49, 3) := by decide +kernel
theorem dL_law_455 : decode cL_law 455 = .ok (.if_icmp .eq 985, 3) := by decide +kernel
theorem dL_law_458 : decode cL_law 458 = .ok (.iconst 0, 1) := by decide +kernel
theorem dL_law_459 : decode cL_law 459 = .ok (.ireturn, 1) := by decide +kernel
theorem dL_law_460 : decode cL_law 460 = .ok (.aload_n 1, 1) := by decide +kernel
theorem dL_law_461 : decode cL_law 461 = .ok (.aload_n 0, 1) := by decide +kernel
theorem dL_law_462 : decode cL_law 462 = .ok (.iload_n 3, 1) := by decide +kernel
theorem dL_law_463 : decode cL_law 463 = .ok (.iconst 1, 1) := by decide +kernel
theorem dL_law_464 : decode cL_law 464 = .ok (.iadd, 1) := by decide +kernel
theorem dL_law_465 : decode cL_law 465 = .ok (.iaload, 1) := by decide +kernel
theorem dL_law_466 : decode cL_law 466 = .ok (.aload_n 0, 1) := by decide +kernel
theorem dL_law_467 : decode cL_law 467 = .ok (.iload_n 3, 1) := by decide +kernel
theorem dL_law_468 : decode cL_law 468 = .ok (.iconst 2, 1) := by decide +kernel
theorem dL_law_469 : decode cL_law 469 = .ok (.iadd, 1) := by decide +kernel
theorem dL_law_470 : decode cL_law 470 = .ok (.iaload, 1) := by decide +kernel
theorem dL_law_471 : decode cL_law 471 = .ok (.invokevirtual 50, 3) := by decide +kernel
theorem dL_law_474 : decode cL_law 474 = .ok (.aload_n 2, 1) := by decide +kernel
theorem dL_law_475 : decode cL_law 475 = .ok (.aload_n 0, 1) := by decide +kernel
theorem dL_law_476 : decode cL_law 476 = .ok (.iload_n 3, 1) := by decide +kernel
theorem dL_law_477 : decode cL_law 477 = .ok (.iconst 1, 1) := by decide +kernel
theorem dL_law_478 : decode cL_law 478 = .ok (.iadd, 1) := by decide +kernel
theorem dL_law_479 : decode cL_law 479 = .ok (.iaload, 1) := by decide +kernel
theorem dL_law_480 : decode cL_law 480 = .ok (.aload_n 0, 1) := by decide +kernel
theorem dL_law_481 : decode cL_law 481 = .ok (.iload_n 3, 1) := by decide +kernel
theorem dL_law_482 : decode cL_law 482 = .ok (.iconst 2, 1) := by decide +kernel
theorem dL_law_483 : decode cL_law 483 = .ok (.iadd, 1) := by decide +kernel
theorem dL_law_484 : decode cL_law 484 = .ok (.iaload, 1) := by decide +kernel
theorem dL_law_485 : decode cL_law 485 = .ok (.invokevirtual 54, 3) := by decide +kernel
theorem dL_law_488 : decode cL_law 488 = .ok (.if_icmp .eq 952, 3) := by decide +kernel
theorem dL_law_491 : decode cL_law 491 = .ok (.iconst 0, 1) := by decide +kernel
theorem dL_law_492 : decode cL_law 492 = .ok (.ireturn, 1) := by decide +kernel
theorem dL_law_493 : decode cL_law 493 = .ok (.aload_n 1, 1) := by decide +kernel
theorem dL_law_494 : decode cL_law 494 = .ok (.aload_n 0, 1) := by decide +kernel
theorem dL_law_495 : decode cL_law 495 = .ok (.iload_n 3, 1) := by decide +kernel
theorem dL_law_496 : decode cL_law 496 = .ok (.iconst 1, 1) := by decide +kernel
theorem dL_law_497 : decode cL_law 497 = .ok (.iadd, 1) := by decide +kernel
theorem dL_law_498 : decode cL_law 498 = .ok (.iaload, 1) := by decide +kernel
theorem dL_law_499 : decode cL_law 499 = .ok (.aload_n 0, 1) := by decide +kernel
theorem dL_law_500 : decode cL_law 500 = .ok (.iload_n 3, 1) := by decide +kernel
theorem dL_law_501 : decode cL_law 501 = .ok (.iconst 2, 1) := by decide +kernel
theorem dL_law_502 : decode cL_law 502 = .ok (.iadd, 1) := by decide +kernel
theorem dL_law_503 : decode cL_law 503 = .ok (.iaload, 1) := by decide +kernel
theorem dL_law_504 : decode cL_law 504 = .ok (.invokevirtual 55, 3) := by decide +kernel
theorem dL_law_507 : decode cL_law 507 = .ok (.aload_n 2, 1) := by decide +kernel
theorem dL_law_508 : decode cL_law 508 = .ok (.aload_n 0, 1) := by decide +kernel
theorem dL_law_509 : decode cL_law 509 = .ok (.iload_n 3, 1) := by decide +kernel
theorem dL_law_510 : decode cL_law 510 = .ok (.iconst 1, 1) := by decide +kernel
theorem dL_law_511 : decode cL_law 511 = .ok (.iadd, 1) := by decide +kernel
theorem dL_law_512 : decode cL_law 512 = .ok (.iaload, 1) := by decide +kernel
theorem dL_law_513 : decode cL_law 513 = .ok (.aload_n 0, 1) := by decide +kernel
theorem dL_law_514 : decode cL_law 514 = .ok (.iload_n 3, 1) := by decide +kernel
theorem dL_law_515 : decode cL_law 515 = .ok (.iconst 2, 1) := by decide +kernel
theorem dL_law_516 : decode cL_law 516 = .ok (.iadd, 1) := by decide +kernel
theorem dL_law_517 : decode cL_law 517 = .ok (.iaload, 1) := by decide +kernel
theorem dL_law_518 : decode cL_law 518 = .ok (.invokevirtual 58, 3) := by decide +kernel
theorem dL_law_521 : decode cL_law 521 = .ok (.if_icmp .eq 919, 3) := by decide +kernel
theorem dL_law_524 : decode cL_law 524 = .ok (.iconst 0, 1) := by decide +kernel
theorem dL_law_525 : decode cL_law 525 = .ok (.ireturn, 1) := by decide +kernel
theorem dL_law_526 : decode cL_law 526 = .ok (.aload_n 1, 1) := by decide +kernel
theorem dL_law_527 : decode cL_law 527 = .ok (.aload_n 0, 1) := by decide +kernel
theorem dL_law_528 : decode cL_law 528 = .ok (.iload_n 3, 1) := by decide +kernel
theorem dL_law_529 : decode cL_law 529 = .ok (.iconst 1, 1) := by decide +kernel
theorem dL_law_530 : decode cL_law 530 = .ok (.iadd, 1) := by decide +kernel
theorem dL_law_531 : decode cL_law 531 = .ok (.iaload, 1) := by decide +kernel
theorem dL_law_532 : decode cL_law 532 = .ok (.ifCond .eq 7, 3) := by decide +kernel
theorem dL_law_535 : decode cL_law 535 = .ok (.iconst 1, 1) := by decide +kernel
theorem dL_law_536 : decode cL_law 536 = .ok (.goto 4, 3) := by decide +kernel
theorem dL_law_539 : decode cL_law 539 = .ok (.iconst 0, 1) := by decide +kernel
theorem dL_law_540 : decode cL_law 540 = .ok (.invokevirtual 59, 3) := by decide +kernel
theorem dL_law_543 : decode cL_law 543 = .ok (.aload_n 2, 1) := by decide +kernel
theorem dL_law_544 : decode cL_law 544 = .ok (.aload_n 0, 1) := by decide +kernel
theorem dL_law_545 : decode cL_law 545 = .ok (.iload_n 3, 1) := by decide +kernel
theorem dL_law_546 : decode cL_law 546 = .ok (.iconst 1, 1) := by decide +kernel
theorem dL_law_547 : decode cL_law 547 = .ok (.iadd, 1) := by decide +kernel
theorem dL_law_548 : decode cL_law 548 = .ok (.iaload, 1) := by decide +kernel
theorem dL_law_549 : decode cL_law 549 = .ok (.ifCond .eq 7, 3) := by decide +kernel
theorem dL_law_552 : decode cL_law 552 = .ok (.iconst 1, 1) := by decide +kernel
theorem dL_law_553 : decode cL_law 553 = .ok (.goto 4, 3) := by decide +kernel
theorem dL_law_556 : decode cL_law 556 = .ok (.iconst 0, 1) := by decide +kernel
theorem dL_law_557 : decode cL_law 557 = .ok (.invokevirtual 63, 3) := by decide +kernel
theorem dL_law_560 : decode cL_law 560 = .ok (.if_icmp .eq 880, 3) := by decide +kernel
theorem dL_law_563 : decode cL_law 563 = .ok (.iconst 0, 1) := by decide +kernel
theorem dL_law_564 : decode cL_law 564 = .ok (.ireturn, 1) := by decide +kernel
theorem dL_law_565 : decode cL_law 565 = .ok (.aload_n 1, 1) := by decide +kernel
theorem dL_law_566 : decode cL_law 566 = .ok (.aload_n 0, 1) := by decide +kernel
theorem dL_law_567 : decode cL_law 567 = .ok (.iload_n 3, 1) := by decide +kernel
theorem dL_law_568 : decode cL_law 568 = .ok (.iconst 1, 1) := by decide +kernel
theorem dL_law_569 : decode cL_law 569 = .ok (.iadd, 1) := by decide +kernel
theorem dL_law_570 : decode cL_law 570 = .ok (.iaload, 1) := by decide +kernel
theorem dL_law_571 : decode cL_law 571 = .ok (.ifCond .eq 7, 3) := by decide +kernel
theorem dL_law_574 : decode cL_law 574 = .ok (.iconst 1, 1) := by decide +kernel
theorem dL_law_575 : decode cL_law 575 = .ok (.goto 4, 3) := by decide +kernel
theorem dL_law_578 : decode cL_law 578 = .ok (.iconst 0, 1) := by decide +kernel
theorem dL_law_579 : decode cL_law 579 = .ok (.invokevirtual 64, 3) := by decide +kernel
theorem dL_law_582 : decode cL_law 582 = .ok (.aload_n 2, 1) := by decide +kernel
theorem dL_law_583 : decode cL_law 583 = .ok (.aload_n 0, 1) := by decide +kernel
theorem dL_law_584 : decode cL_law 584 = .ok (.iload_n 3, 1) := by decide +kernel
theorem dL_law_585 : decode cL_law 585 = .ok (.iconst 1, 1) := by decide +kernel
theorem dL_law_586 : decode cL_law 586 = .ok (.iadd, 1) := by decide +kernel
theorem dL_law_587 : decode cL_law 587 = .ok (.iaload, 1) := by decide +kernel
theorem dL_law_588 : decode cL_law 588 = .ok (.ifCond .eq 7, 3) := by decide +kernel
theorem dL_law_591 : decode cL_law 591 = .ok (.iconst 1, 1) := by decide +kernel
theorem dL_law_592 : decode cL_law 592 = .ok (.goto 4, 3) := by decide +kernel
theorem dL_law_595 : decode cL_law 595 = .ok (.iconst 0, 1) := by decide +kernel
theorem dL_law_596 : decode cL_law 596 = .ok (.invokevirtual 67, 3) := by decide +kernel
theorem dL_law_599 : decode cL_law 599 = .ok (.if_icmp .eq 841, 3) := by decide +kernel
theorem dL_law_602 : decode cL_law 602 = .ok (.iconst 0, 1) := by decide +kernel
theorem dL_law_603 : decode cL_law 603 = .ok (.ireturn, 1) := by decide +kernel
theorem dL_law_604 : decode cL_law 604 = .ok (.aload_n 1, 1) := by decide +kernel
theorem dL_law_605 : decode cL_law 605 = .ok (.aload_n 0, 1) := by decide +kernel
theorem dL_law_606 : decode cL_law 606 = .ok (.iload_n 3, 1) := by decide +kernel
theorem dL_law_607 : decode cL_law 607 = .ok (.iconst 1, 1) := by decide +kernel
theorem dL_law_608 : decode cL_law 608 = .ok (.iadd, 1) := by decide +kernel
theorem dL_law_609 : decode cL_law 609 = .ok (.iaload, 1) := by decide +kernel
theorem dL_law_610 : decode cL_law 610 = .ok (.invokevirtual 68, 3) := by decide +kernel
theorem dL_law_613 : decode cL_law 613 = .ok (.aload_n 2, 1) := by decide +kernel
theorem dL_law_614 : decode cL_law 614 = .ok (.aload_n 0, 1) := by decide +kernel
theorem dL_law_615 : decode cL_law 615 = .ok (.iload_n 3, 1) := by decide +kernel
theorem dL_law_616 : decode cL_law 616 = .ok (.iconst 1, 1) := by decide +kernel
theorem dL_law_617 : decode cL_law 617 = .ok (.iadd, 1) := by decide +kernel
theorem dL_law_618 : decode cL_law 618 = .ok (.iaload, 1) := by decide +kernel
theorem dL_law_619 : decode cL_law 619 = .ok (.invokevirtual 71, 3) := by decide +kernel
theorem dL_law_622 : decode cL_law 622 = .ok (.if_icmp .eq 818, 3) := by decide +kernel
theorem dL_law_625 : decode cL_law 625 = .ok (.iconst 0, 1) := by decide +kernel
theorem dL_law_626 : decode cL_law 626 = .ok (.ireturn, 1) := by decide +kernel
theorem dL_law_627 : decode cL_law 627 = .ok (.aload_n 1, 1) := by decide +kernel
theorem dL_law_628 : decode cL_law 628 = .ok (.invokevirtual 72, 3) := by decide +kernel
theorem dL_law_631 : decode cL_law 631 = .ok (.aload_n 2, 1) := by decide +kernel
theorem dL_law_632 : decode cL_law 632 = .ok (.invokevirtual 76, 3) := by decide +kernel
theorem dL_law_635 : decode cL_law 635 = .ok (.if_icmp .eq 805, 3) := by decide +kernel
theorem dL_law_638 : decode cL_law 638 = .ok (.iconst 0, 1) := by decide +kernel
theorem dL_law_639 : decode cL_law 639 = .ok (.ireturn, 1) := by decide +kernel
theorem dL_law_640 : decode cL_law 640 = .ok (.aload_n 1, 1) := by decide +kernel
theorem dL_law_641 : decode cL_law 641 = .ok (.aload_n 0, 1) := by decide +kernel
theorem dL_law_642 : decode cL_law 642 = .ok (.iload_n 3, 1) := by decide +kernel
theorem dL_law_643 : decode cL_law 643 = .ok (.iconst 1, 1) := by decide +kernel
theorem dL_law_644 : decode cL_law 644 = .ok (.iadd, 1) := by decide +kernel
theorem dL_law_645 : decode cL_law 645 = .ok (.iaload, 1) := by decide +kernel
theorem dL_law_646 : decode cL_law 646 = .ok (.invokevirtual 77, 3) := by decide +kernel
theorem dL_law_649 : decode cL_law 649 = .ok (.aload_n 2, 1) := by decide +kernel
theorem dL_law_650 : decode cL_law 650 = .ok (.aload_n 0, 1) := by decide +kernel
theorem dL_law_651 : decode cL_law 651 = .ok (.iload_n 3, 1) := by decide +kernel
theorem dL_law_652 : decode cL_law 652 = .ok (.iconst 1, 1) := by decide +kernel
theorem dL_law_653 : decode cL_law 653 = .ok (.iadd, 1) := by decide +kernel
theorem dL_law_654 : decode cL_law 654 = .ok (.iaload, 1) := by decide +kernel
theorem dL_law_655 : decode cL_law 655 = .ok (.invokevirtual 80, 3) := by decide +kernel
theorem dL_law_658 : decode cL_law 658 = .ok (.if_icmp .eq 782, 3) := by decide +kernel
theorem dL_law_661 : decode cL_law 661 = .ok (.iconst 0, 1) := by decide +kernel
theorem dL_law_662 : decode cL_law 662 = .ok (.ireturn, 1) := by decide +kernel
theorem dL_law_663 : decode cL_law 663 = .ok (.aload_n 1, 1) := by decide +kernel
theorem dL_law_664 : decode cL_law 664 = .ok (.aload_n 0, 1) := by decide +kernel
theorem dL_law_665 : decode cL_law 665 = .ok (.iload_n 3, 1) := by decide +kernel
theorem dL_law_666 : decode cL_law 666 = .ok (.iconst 1, 1) := by decide +kernel
theorem dL_law_667 : decode cL_law 667 = .ok (.iadd, 1) := by decide +kernel
theorem dL_law_668 : decode cL_law 668 = .ok (.iaload, 1) := by decide +kernel
theorem dL_law_669 : decode cL_law 669 = .ok (.aload_n 0, 1) := by decide +kernel
theorem dL_law_670 : decode cL_law 670 = .ok (.iload_n 3, 1) := by decide +kernel
theorem dL_law_671 : decode cL_law 671 = .ok (.iconst 2, 1) := by decide +kernel
theorem dL_law_672 : decode cL_law 672 = .ok (.iadd, 1) := by decide +kernel
theorem dL_law_673 : decode cL_law 673 = .ok (.iaload, 1) := by decide +kernel
theorem dL_law_674 : decode cL_law 674 = .ok (.invokevirtual 81, 3) := by decide +kernel
theorem dL_law_677 : decode cL_law 677 = .ok (.aload_n 2, 1) := by decide +kernel
theorem dL_law_678 : decode cL_law 678 = .ok (.aload_n 0, 1) := by decide +kernel
theorem dL_law_679 : decode cL_law 679 = .ok (.iload_n 3, 1) := by decide +kernel
theorem dL_law_680 : decode cL_law 680 = .ok (.iconst 1, 1) := by decide +kernel
theorem dL_law_681 : decode cL_law 681 = .ok (.iadd, 1) := by decide +kernel
theorem dL_law_682 : decode cL_law 682 = .ok (.iaload, 1) := by decide +kernel
theorem dL_law_683 : decode cL_law 683 = .ok (.aload_n 0, 1) := by decide +kernel
theorem dL_law_684 : decode cL_law 684 = .ok (.iload_n 3, 1) := by decide +kernel
theorem dL_law_685 : decode cL_law 685 = .ok (.iconst 2, 1) := by decide +kernel
theorem dL_law_686 : decode cL_law 686 = .ok (.iadd, 1) := by decide +kernel
theorem dL_law_687 : decode cL_law 687 = .ok (.iaload, 1) := by decide +kernel
theorem dL_law_688 : decode cL_law 688 = .ok (.invokevirtual 84, 3) := by decide +kernel
theorem dL_law_691 : decode cL_law 691 = .ok (.if_icmp .eq 749, 3) := by decide +kernel
theorem dL_law_694 : decode cL_law 694 = .ok (.iconst 0, 1) := by decide +kernel
theorem dL_law_695 : decode cL_law 695 = .ok (.ireturn, 1) := by decide +kernel
theorem dL_law_696 : decode cL_law 696 = .ok (.aload_n 1, 1) := by decide +kernel
theorem dL_law_697 : decode cL_law 697 = .ok (.aload_n 0, 1) := by decide +kernel
theorem dL_law_698 : decode cL_law 698 = .ok (.iload_n 3, 1) := by decide +kernel
theorem dL_law_699 : decode cL_law 699 = .ok (.iconst 1, 1) := by decide +kernel
theorem dL_law_700 : decode cL_law 700 = .ok (.iadd, 1) := by decide +kernel
theorem dL_law_701 : decode cL_law 701 = .ok (.iaload, 1) := by decide +kernel
theorem dL_law_702 : decode cL_law 702 = .ok (.aload_n 0, 1) := by decide +kernel
theorem dL_law_703 : decode cL_law 703 = .ok (.iload_n 3, 1) := by decide +kernel
theorem dL_law_704 : decode cL_law 704 = .ok (.iconst 2, 1) := by decide +kernel
theorem dL_law_705 : decode cL_law 705 = .ok (.iadd, 1) := by decide +kernel
theorem dL_law_706 : decode cL_law 706 = .ok (.iaload, 1) := by decide +kernel
theorem dL_law_707 : decode cL_law 707 = .ok (.invokevirtual 85, 3) := by decide +kernel
theorem dL_law_710 : decode cL_law 710 = .ok (.aload_n 2, 1) := by decide +kernel
theorem dL_law_711 : decode cL_law 711 = .ok (.aload_n 0, 1) := by decide +kernel
theorem dL_law_712 : decode cL_law 712 = .ok (.iload_n 3, 1) := by decide +kernel
theorem dL_law_713 : decode cL_law 713 = .ok (.iconst 1, 1) := by decide +kernel
theorem dL_law_714 : decode cL_law 714 = .ok (.iadd, 1) := by decide +kernel
theorem dL_law_715 : decode cL_law 715 = .ok (.iaload, 1) := by decide +kernel
theorem dL_law_716 : decode cL_law 716 = .ok (.aload_n 0, 1) := by decide +kernel
theorem dL_law_717 : decode cL_law 717 = .ok (.iload_n 3, 1) := by decide +kernel
theorem dL_law_718 : decode cL_law 718 = .ok (.iconst 2, 1) := by decide +kernel
theorem dL_law_719 : decode cL_law 719 = .ok (.iadd, 1) := by decide +kernel
theorem dL_law_720 : decode cL_law 720 = .ok (.iaload, 1) := by decide +kernel
theorem dL_law_721 : decode cL_law 721 = .ok (.invokevirtual 88, 3) := by decide +kernel
theorem dL_law_724 : decode cL_law 724 = .ok (.if_icmp .eq 716, 3) := by decide +kernel
theorem dL_law_727 : decode cL_law 727 = .ok (.iconst 0, 1) := by decide +kernel
theorem dL_law_728 : decode cL_law 728 = .ok (.ireturn, 1) := by decide +kernel
theorem dL_law_729 : decode cL_law 729 = .ok (.aload_n 1, 1) := by decide +kernel
theorem dL_law_730 : decode cL_law 730 = .ok (.aload_n 0, 1) := by decide +kernel
theorem dL_law_731 : decode cL_law 731 = .ok (.iload_n 3, 1) := by decide +kernel
theorem dL_law_732 : decode cL_law 732 = .ok (.iconst 1, 1) := by decide +kernel
theorem dL_law_733 : decode cL_law 733 = .ok (.iadd, 1) := by decide +kernel
theorem dL_law_734 : decode cL_law 734 = .ok (.iaload, 1) := by decide +kernel
theorem dL_law_735 : decode cL_law 735 = .ok (.invokevirtual 89, 3) := by decide +kernel
theorem dL_law_738 : decode cL_law 738 = .ok (.aload_n 2, 1) := by decide +kernel
theorem dL_law_739 : decode cL_law 739 = .ok (.aload_n 0, 1) := by decide +kernel
theorem dL_law_740 : decode cL_law 740 = .ok (.iload_n 3, 1) := by decide +kernel
theorem dL_law_741 : decode cL_law 741 = .ok (.iconst 1, 1) := by decide +kernel
theorem dL_law_742 : decode cL_law 742 = .ok (.iadd, 1) := by decide +kernel
theorem dL_law_743 : decode cL_law 743 = .ok (.iaload, 1) := by decide +kernel
theorem dL_law_744 : decode cL_law 744 = .ok (.invokevirtual 92, 3) := by decide +kernel
theorem dL_law_747 : decode cL_law 747 = .ok (.if_icmp .eq 693, 3) := by decide +kernel
theorem dL_law_750 : decode cL_law 750 = .ok (.iconst 0, 1) := by decide +kernel
theorem dL_law_751 : decode cL_law 751 = .ok (.ireturn, 1) := by decide +kernel
theorem dL_law_752 : decode cL_law 752 = .ok (.aload_n 1, 1) := by decide +kernel
theorem dL_law_753 : decode cL_law 753 = .ok (.aload_n 0, 1) := by decide +kernel
theorem dL_law_754 : decode cL_law 754 = .ok (.iload_n 3, 1) := by decide +kernel
theorem dL_law_755 : decode cL_law 755 = .ok (.iconst 1, 1) := by decide +kernel
theorem dL_law_756 : decode cL_law 756 = .ok (.iadd, 1) := by decide +kernel
theorem dL_law_757 : decode cL_law 757 = .ok (.iaload, 1) := by decide +kernel
theorem dL_law_758 : decode cL_law 758 = .ok (.aload_n 0, 1) := by decide +kernel
theorem dL_law_759 : decode cL_law 759 = .ok (.iload_n 3, 1) := by decide +kernel
theorem dL_law_760 : decode cL_law 760 = .ok (.iconst 2, 1) := by decide +kernel
theorem dL_law_761 : decode cL_law 761 = .ok (.iadd, 1) := by decide +kernel
theorem dL_law_762 : decode cL_law 762 = .ok (.iaload, 1) := by decide +kernel
theorem dL_law_763 : decode cL_law 763 = .ok (.invokevirtual 93, 3) := by decide +kernel
theorem dL_law_766 : decode cL_law 766 = .ok (.aload_n 2, 1) := by decide +kernel
theorem dL_law_767 : decode cL_law 767 = .ok (.aload_n 0, 1) := by decide +kernel
theorem dL_law_768 : decode cL_law 768 = .ok (.iload_n 3, 1) := by decide +kernel
theorem dL_law_769 : decode cL_law 769 = .ok (.iconst 1, 1) := by decide +kernel
theorem dL_law_770 : decode cL_law 770 = .ok (.iadd, 1) := by decide +kernel
theorem dL_law_771 : decode cL_law 771 = .ok (.iaload, 1) := by decide +kernel
theorem dL_law_772 : decode cL_law 772 = .ok (.aload_n 0, 1) := by decide +kernel
theorem dL_law_773 : decode cL_law 773 = .ok (.iload_n 3, 1) := by decide +kernel
theorem dL_law_774 : decode cL_law 774 = .ok (.iconst 2, 1) := by decide +kernel
theorem dL_law_775 : decode cL_law 775 = .ok (.iadd, 1) := by decide +kernel
theorem dL_law_776 : decode cL_law 776 = .ok (.iaload, 1) := by decide +kernel
theorem dL_law_777 : decode cL_law 777 = .ok (.invokevirtual 96, 3) := by decide +kernel
theorem dL_law_780 : decode cL_law 780 = .ok (.if_icmp .eq 660, 3) := by decide +kernel
theorem dL_law_783 : decode cL_law 783 = .ok (.iconst 0, 1) := by decide +kernel
theorem dL_law_784 : decode cL_law 784 = .ok (.ireturn, 1) := by decide +kernel
theorem dL_law_785 : decode cL_law 785 = .ok (.aload_n 1, 1) := by decide +kernel
theorem dL_law_786 : decode cL_law 786 = .ok (.invokevirtual 97, 3) := by decide +kernel
theorem dL_law_789 : decode cL_law 789 = .ok (.aload_n 2, 1) := by decide +kernel
theorem dL_law_790 : decode cL_law 790 = .ok (.invokevirtual 100, 3) := by decide +kernel
theorem dL_law_793 : decode cL_law 793 = .ok (.if_icmp .eq 647, 3) := by decide +kernel
theorem dL_law_796 : decode cL_law 796 = .ok (.iconst 0, 1) := by decide +kernel
theorem dL_law_797 : decode cL_law 797 = .ok (.ireturn, 1) := by decide +kernel
theorem dL_law_798 : decode cL_law 798 = .ok (.aload_n 1, 1) := by decide +kernel
theorem dL_law_799 : decode cL_law 799 = .ok (.aload_n 0, 1) := by decide +kernel
theorem dL_law_800 : decode cL_law 800 = .ok (.iload_n 3, 1) := by decide +kernel
theorem dL_law_801 : decode cL_law 801 = .ok (.iconst 1, 1) := by decide +kernel
theorem dL_law_802 : decode cL_law 802 = .ok (.iadd, 1) := by decide +kernel
theorem dL_law_803 : decode cL_law 803 = .ok (.iaload, 1) := by decide +kernel
theorem dL_law_804 : decode cL_law 804 = .ok (.aload_n 0, 1) := by decide +kernel
theorem dL_law_805 : decode cL_law 805 = .ok (.iload_n 3, 1) := by decide +kernel
theorem dL_law_806 : decode cL_law 806 = .ok (.iconst 2, 1) := by decide +kernel
theorem dL_law_807 : decode cL_law 807 = .ok (.iadd, 1) := by decide +kernel
theorem dL_law_808 : decode cL_law 808 = .ok (.iaload, 1) := by decide +kernel
theorem dL_law_809 : decode cL_law 809 = .ok (.invokevirtual 101, 3) := by decide +kernel
theorem dL_law_812 : decode cL_law 812 = .ok (.aload_n 2, 1) := by decide +kernel
theorem dL_law_813 : decode cL_law 813 = .ok (.aload_n 0, 1) := by decide +kernel
theorem dL_law_814 : decode cL_law 814 = .ok (.iload_n 3, 1) := by decide +kernel
theorem dL_law_815 : decode cL_law 815 = .ok (.iconst 1, 1) := by decide +kernel
theorem dL_law_816 : decode cL_law 816 = .ok (.iadd, 1) := by decide +kernel
theorem dL_law_817 : decode cL_law 817 = .ok (.iaload, 1) := by decide +kernel
theorem dL_law_818 : decode cL_law 818 = .ok (.aload_n 0, 1) := by decide +kernel
theorem dL_law_819 : decode cL_law 819 = .ok (.iload_n 3, 1) := by decide +kernel
theorem dL_law_820 : decode cL_law 820 = .ok (.iconst 2, 1) := by decide +kernel
theorem dL_law_821 : decode cL_law 821 = .ok (.iadd, 1) := by decide +kernel
theorem dL_law_822 : decode cL_law 822 = .ok (.iaload, 1) := by decide +kernel
theorem dL_law_823 : decode cL_law 823 = .ok (.invokevirtual 104, 3) := by decide +kernel
theorem dL_law_826 : decode cL_law 826 = .ok (.if_icmp .eq 614, 3) := by decide +kernel
theorem dL_law_829 : decode cL_law 829 = .ok (.iconst 0, 1) := by decide +kernel
theorem dL_law_830 : decode cL_law 830 = .ok (.ireturn, 1) := by decide +kernel
theorem dL_law_831 : decode cL_law 831 = .ok (.aload_n 1, 1) := by decide +kernel
theorem dL_law_832 : decode cL_law 832 = .ok (.aload_n 0, 1) := by decide +kernel
theorem dL_law_833 : decode cL_law 833 = .ok (.iload_n 3, 1) := by decide +kernel
theorem dL_law_834 : decode cL_law 834 = .ok (.iconst 1, 1) := by decide +kernel
theorem dL_law_835 : decode cL_law 835 = .ok (.iadd, 1) := by decide +kernel
theorem dL_law_836 : decode cL_law 836 = .ok (.iaload, 1) := by decide +kernel
theorem dL_law_837 : decode cL_law 837 = .ok (.aload_n 0, 1) := by decide +kernel
theorem dL_law_838 : decode cL_law 838 = .ok (.iload_n 3, 1) := by decide +kernel
theorem dL_law_839 : decode cL_law 839 = .ok (.iconst 2, 1) := by decide +kernel
theorem dL_law_840 : decode cL_law 840 = .ok (.iadd, 1) := by decide +kernel
theorem dL_law_841 : decode cL_law 841 = .ok (.iaload, 1) := by decide +kernel
theorem dL_law_842 : decode cL_law 842 = .ok (.invokevirtual 105, 3) := by decide +kernel
theorem dL_law_845 : decode cL_law 845 = .ok (.aload_n 2, 1) := by decide +kernel
theorem dL_law_846 : decode cL_law 846 = .ok (.aload_n 0, 1) := by decide +kernel
theorem dL_law_847 : decode cL_law 847 = .ok (.iload_n 3, 1) := by decide +kernel
theorem dL_law_848 : decode cL_law 848 = .ok (.iconst 1, 1) := by decide +kernel
theorem dL_law_849 : decode cL_law 849 = .ok (.iadd, 1) := by decide +kernel
theorem dL_law_850 : decode cL_law 850 = .ok (.iaload, 1) := by decide +kernel
theorem dL_law_851 : decode cL_law 851 = .ok (.aload_n 0, 1) := by decide +kernel
theorem dL_law_852 : decode cL_law 852 = .ok (.iload_n 3, 1) := by decide +kernel
theorem dL_law_853 : decode cL_law 853 = .ok (.iconst 2, 1) := by decide +kernel
theorem dL_law_854 : decode cL_law 854 = .ok (.iadd, 1) := by decide +kernel
theorem dL_law_855 : decode cL_law 855 = .ok (.iaload, 1) := by decide +kernel
theorem dL_law_856 : decode cL_law 856 = .ok (.invokevirtual 108, 3) := by decide +kernel
theorem dL_law_859 : decode cL_law 859 = .ok (.if_icmp .eq 581, 3) := by decide +kernel
theorem dL_law_862 : decode cL_law 862 = .ok (.iconst 0, 1) := by decide +kernel
theorem dL_law_863 : decode cL_law 863 = .ok (.ireturn, 1) := by decide +kernel
theorem dL_law_864 : decode cL_law 864 = .ok (.aload_n 1, 1) := by decide +kernel
theorem dL_law_865 : decode cL_law 865 = .ok (.aload_n 0, 1) := by decide +kernel
theorem dL_law_866 : decode cL_law 866 = .ok (.iload_n 3, 1) := by decide +kernel
theorem dL_law_867 : decode cL_law 867 = .ok (.iconst 1, 1) := by decide +kernel
theorem dL_law_868 : decode cL_law 868 = .ok (.iadd, 1) := by decide +kernel
theorem dL_law_869 : decode cL_law 869 = .ok (.iaload, 1) := by decide +kernel
theorem dL_law_870 : decode cL_law 870 = .ok (.aload_n 0, 1) := by decide +kernel
theorem dL_law_871 : decode cL_law 871 = .ok (.iload_n 3, 1) := by decide +kernel
theorem dL_law_872 : decode cL_law 872 = .ok (.iconst 2, 1) := by decide +kernel
theorem dL_law_873 : decode cL_law 873 = .ok (.iadd, 1) := by decide +kernel
theorem dL_law_874 : decode cL_law 874 = .ok (.iaload, 1) := by decide +kernel
theorem dL_law_875 : decode cL_law 875 = .ok (.invokevirtual 109, 3) := by decide +kernel
theorem dL_law_878 : decode cL_law 878 = .ok (.aload_n 2, 1) := by decide +kernel
theorem dL_law_879 : decode cL_law 879 = .ok (.aload_n 0, 1) := by decide +kernel
theorem dL_law_880 : decode cL_law 880 = .ok (.iload_n 3, 1) := by decide +kernel
theorem dL_law_881 : decode cL_law 881 = .ok (.iconst 1, 1) := by decide +kernel
theorem dL_law_882 : decode cL_law 882 = .ok (.iadd, 1) := by decide +kernel
theorem dL_law_883 : decode cL_law 883 = .ok (.iaload, 1) := by decide +kernel
theorem dL_law_884 : decode cL_law 884 = .ok (.aload_n 0, 1) := by decide +kernel
theorem dL_law_885 : decode cL_law 885 = .ok (.iload_n 3, 1) := by decide +kernel
theorem dL_law_886 : decode cL_law 886 = .ok (.iconst 2, 1) := by decide +kernel
theorem dL_law_887 : decode cL_law 887 = .ok (.iadd, 1) := by decide +kernel
theorem dL_law_888 : decode cL_law 888 = .ok (.iaload, 1) := by decide +kernel
theorem dL_law_889 : decode cL_law 889 = .ok (.invokevirtual 112, 3) := by decide +kernel
theorem dL_law_892 : decode cL_law 892 = .ok (.if_icmp .eq 548, 3) := by decide +kernel
theorem dL_law_895 : decode cL_law 895 = .ok (.iconst 0, 1) := by decide +kernel
theorem dL_law_896 : decode cL_law 896 = .ok (.ireturn, 1) := by decide +kernel
theorem dL_law_897 : decode cL_law 897 = .ok (.aload_n 1, 1) := by decide +kernel
theorem dL_law_898 : decode cL_law 898 = .ok (.aload_n 0, 1) := by decide +kernel
theorem dL_law_899 : decode cL_law 899 = .ok (.iload_n 3, 1) := by decide +kernel
theorem dL_law_900 : decode cL_law 900 = .ok (.iconst 1, 1) := by decide +kernel
theorem dL_law_901 : decode cL_law 901 = .ok (.iadd, 1) := by decide +kernel
theorem dL_law_902 : decode cL_law 902 = .ok (.iaload, 1) := by decide +kernel
theorem dL_law_903 : decode cL_law 903 = .ok (.aload_n 0, 1) := by decide +kernel
theorem dL_law_904 : decode cL_law 904 = .ok (.iload_n 3, 1) := by decide +kernel
theorem dL_law_905 : decode cL_law 905 = .ok (.iconst 2, 1) := by decide +kernel
theorem dL_law_906 : decode cL_law 906 = .ok (.iadd, 1) := by decide +kernel
theorem dL_law_907 : decode cL_law 907 = .ok (.iaload, 1) := by decide +kernel
theorem dL_law_908 : decode cL_law 908 = .ok (.invokevirtual 113, 3) := by decide +kernel
theorem dL_law_911 : decode cL_law 911 = .ok (.aload_n 2, 1) := by decide +kernel
theorem dL_law_912 : decode cL_law 912 = .ok (.aload_n 0, 1) := by decide +kernel
theorem dL_law_913 : decode cL_law 913 = .ok (.iload_n 3, 1) := by decide +kernel
theorem dL_law_914 : decode cL_law 914 = .ok (.iconst 1, 1) := by decide +kernel
theorem dL_law_915 : decode cL_law 915 = .ok (.iadd, 1) := by decide +kernel
theorem dL_law_916 : decode cL_law 916 = .ok (.iaload, 1) := by decide +kernel
theorem dL_law_917 : decode cL_law 917 = .ok (.aload_n 0, 1) := by decide +kernel
theorem dL_law_918 : decode cL_law 918 = .ok (.iload_n 3, 1) := by decide +kernel
theorem dL_law_919 : decode cL_law 919 = .ok (.iconst 2, 1) := by decide +kernel
theorem dL_law_920 : decode cL_law 920 = .ok (.iadd, 1) := by decide +kernel
theorem dL_law_921 : decode cL_law 921 = .ok (.iaload, 1) := by decide +kernel
theorem dL_law_922 : decode cL_law 922 = .ok (.invokevirtual 116, 3) := by decide +kernel
theorem dL_law_925 : decode cL_law 925 = .ok (.if_icmp .eq 515, 3) := by decide +kernel
theorem dL_law_928 : decode cL_law 928 = .ok (.iconst 0, 1) := by decide +kernel
theorem dL_law_929 : decode cL_law 929 = .ok (.ireturn, 1) := by decide +kernel
theorem dL_law_930 : decode cL_law 930 = .ok (.aload_n 1, 1) := by decide +kernel
theorem dL_law_931 : decode cL_law 931 = .ok (.aload_n 0, 1) := by decide +kernel
theorem dL_law_932 : decode cL_law 932 = .ok (.iload_n 3, 1) := by decide +kernel
theorem dL_law_933 : decode cL_law 933 = .ok (.iconst 1, 1) := by decide +kernel
theorem dL_law_934 : decode cL_law 934 = .ok (.iadd, 1) := by decide +kernel
theorem dL_law_935 : decode cL_law 935 = .ok (.iaload, 1) := by decide +kernel
theorem dL_law_936 : decode cL_law 936 = .ok (.aload_n 0, 1) := by decide +kernel
theorem dL_law_937 : decode cL_law 937 = .ok (.iload_n 3, 1) := by decide +kernel
theorem dL_law_938 : decode cL_law 938 = .ok (.iconst 2, 1) := by decide +kernel
theorem dL_law_939 : decode cL_law 939 = .ok (.iadd, 1) := by decide +kernel
theorem dL_law_940 : decode cL_law 940 = .ok (.iaload, 1) := by decide +kernel
theorem dL_law_941 : decode cL_law 941 = .ok (.invokevirtual 117, 3) := by decide +kernel
theorem dL_law_944 : decode cL_law 944 = .ok (.aload_n 2, 1) := by decide +kernel
theorem dL_law_945 : decode cL_law 945 = .ok (.aload_n 0, 1) := by decide +kernel
theorem dL_law_946 : decode cL_law 946 = .ok (.iload_n 3, 1) := by decide +kernel
theorem dL_law_947 : decode cL_law 947 = .ok (.iconst 1, 1) := by decide +kernel
theorem dL_law_948 : decode cL_law 948 = .ok (.iadd, 1) := by decide +kernel
theorem dL_law_949 : decode cL_law 949 = .ok (.iaload, 1) := by decide +kernel
theorem dL_law_950 : decode cL_law 950 = .ok (.aload_n 0, 1) := by decide +kernel
theorem dL_law_951 : decode cL_law 951 = .ok (.iload_n 3, 1) := by decide +kernel
theorem dL_law_952 : decode cL_law 952 = .ok (.iconst 2, 1) := by decide +kernel
theorem dL_law_953 : decode cL_law 953 = .ok (.iadd, 1) := by decide +kernel
theorem dL_law_954 : decode cL_law 954 = .ok (.iaload, 1) := by decide +kernel
theorem dL_law_955 : decode cL_law 955 = .ok (.invokevirtual 120, 3) := by decide +kernel
theorem dL_law_958 : decode cL_law 958 = .ok (.if_icmp .eq 482, 3) := by decide +kernel
theorem dL_law_961 : decode cL_law 961 = .ok (.iconst 0, 1) := by decide +kernel
theorem dL_law_962 : decode cL_law 962 = .ok (.ireturn, 1) := by decide +kernel
theorem dL_law_963 : decode cL_law 963 = .ok (.aload_n 1, 1) := by decide +kernel
theorem dL_law_964 : decode cL_law 964 = .ok (.aload_n 0, 1) := by decide +kernel
theorem dL_law_965 : decode cL_law 965 = .ok (.iload_n 3, 1) := by decide +kernel
theorem dL_law_966 : decode cL_law 966 = .ok (.iconst 1, 1) := by decide +kernel
theorem dL_law_967 : decode cL_law 967 = .ok (.iadd, 1) := by decide +kernel
theorem dL_law_968 : decode cL_law 968 = .ok (.iaload, 1) := by decide +kernel
theorem dL_law_969 : decode cL_law 969 = .ok (.aload_n 0, 1) := by decide +kernel
theorem dL_law_970 : decode cL_law 970 = .ok (.iload_n 3, 1) := by decide +kernel
theorem dL_law_971 : decode cL_law 971 = .ok (.iconst 2, 1) := by decide +kernel
theorem dL_law_972 : decode cL_law 972 = .ok (.iadd, 1) := by decide +kernel
theorem dL_law_973 : decode cL_law 973 = .ok (.iaload, 1) := by decide +kernel
theorem dL_law_974 : decode cL_law 974 = .ok (.invokevirtual 121, 3) := by decide +kernel
theorem dL_law_977 : decode cL_law 977 = .ok (.aload_n 2, 1) := by decide +kernel
theorem dL_law_978 : decode cL_law 978 = .ok (.aload_n 0, 1) := by decide +kernel
theorem dL_law_979 : decode cL_law 979 = .ok (.iload_n 3, 1) := by decide +kernel
theorem dL_law_980 : decode cL_law 980 = .ok (.iconst 1, 1) := by decide +kernel
theorem dL_law_981 : decode cL_law 981 = .ok (.iadd, 1) := by decide +kernel
theorem dL_law_982 : decode cL_law 982 = .ok (.iaload, 1) := by decide +kernel
theorem dL_law_983 : decode cL_law 983 = .ok (.aload_n 0, 1) := by decide +kernel
theorem dL_law_984 : decode cL_law 984 = .ok (.iload_n 3, 1) := by decide +kernel
theorem dL_law_985 : decode cL_law 985 = .ok (.iconst 2, 1) := by decide +kernel
theorem dL_law_986 : decode cL_law 986 = .ok (.iadd, 1) := by decide +kernel
theorem dL_law_987 : decode cL_law 987 = .ok (.iaload, 1) := by decide +kernel
theorem dL_law_988 : decode cL_law 988 = .ok (.invokevirtual 124, 3) := by decide +kernel
theorem dL_law_991 : decode cL_law 991 = .ok (.if_icmp .eq 449, 3) := by decide +kernel
theorem dL_law_994 : decode cL_law 994 = .ok (.iconst 0, 1) := by decide +kernel
theorem dL_law_995 : decode cL_law 995 = .ok (.ireturn, 1) := by decide +kernel
theorem dL_law_996 : decode cL_law 996 = .ok (.aload_n 1, 1) := by decide +kernel
theorem dL_law_997 : decode cL_law 997 = .ok (.aload_n 0, 1) := by decide +kernel
theorem dL_law_998 : decode cL_law 998 = .ok (.iload_n 3, 1) := by decide +kernel
theorem dL_law_999 : decode cL_law 999 = .ok (.iconst 1, 1) := by decide +kernel
theorem dL_law_1000 : decode cL_law 1000 = .ok (.iadd, 1) := by decide +kernel
theorem dL_law_1001 : decode cL_law 1001 = .ok (.iaload, 1) := by decide +kernel
theorem dL_law_1002 : decode cL_law 1002 = .ok (.invokevirtual 125, 3) := by decide +kernel
theorem dL_law_1005 : decode cL_law 1005 = .ok (.aload_n 2, 1) := by decide +kernel
theorem dL_law_1006 : decode cL_law 1006 = .ok (.aload_n 0, 1) := by decide +kernel
theorem dL_law_1007 : decode cL_law 1007 = .ok (.iload_n 3, 1) := by decide +kernel
theorem dL_law_1008 : decode cL_law 1008 = .ok (.iconst 1, 1) := by decide +kernel
theorem dL_law_1009 : decode cL_law 1009 = .ok (.iadd, 1) := by decide +kernel
theorem dL_law_1010 : decode cL_law 1010 = .ok (.iaload, 1) := by decide +kernel
theorem dL_law_1011 : decode cL_law 1011 = .ok (.invokevirtual 128, 3) := by decide +kernel
theorem dL_law_1014 : decode cL_law 1014 = .ok (.if_icmp .eq 426, 3) := by decide +kernel
theorem dL_law_1017 : decode cL_law 1017 = .ok (.iconst 0, 1) := by decide +kernel
theorem dL_law_1018 : decode cL_law 1018 = .ok (.ireturn, 1) := by decide +kernel
theorem dL_law_1019 : decode cL_law 1019 = .ok (.aload_n 1, 1) := by decide +kernel
theorem dL_law_1020 : decode cL_law 1020 = .ok (.aload_n 0, 1) := by decide +kernel
theorem dL_law_1021 : decode cL_law 1021 = .ok (.iload_n 3, 1) := by decide +kernel
theorem dL_law_1022 : decode cL_law 1022 = .ok (.iconst 1, 1) := by decide +kernel
theorem dL_law_1023 : decode cL_law 1023 = .ok (.iadd, 1) := by decide +kernel
theorem dL_law_1024 : decode cL_law 1024 = .ok (.iaload, 1) := by decide +kernel
theorem dL_law_1025 : decode cL_law 1025 = .ok (.invokevirtual 129, 3) := by decide +kernel
theorem dL_law_1028 : decode cL_law 1028 = .ok (.aload_n 2, 1) := by decide +kernel
theorem dL_law_1029 : decode cL_law 1029 = .ok (.aload_n 0, 1) := by decide +kernel
theorem dL_law_1030 : decode cL_law 1030 = .ok (.iload_n 3, 1) := by decide +kernel
theorem dL_law_1031 : decode cL_law 1031 = .ok (.iconst 1, 1) := by decide +kernel
theorem dL_law_1032 : decode cL_law 1032 = .ok (.iadd, 1) := by decide +kernel
theorem dL_law_1033 : decode cL_law 1033 = .ok (.iaload, 1) := by decide +kernel
theorem dL_law_1034 : decode cL_law 1034 = .ok (.invokevirtual 132, 3) := by decide +kernel
theorem dL_law_1037 : decode cL_law 1037 = .ok (.if_icmp .eq 403, 3) := by decide +kernel
theorem dL_law_1040 : decode cL_law 1040 = .ok (.iconst 0, 1) := by decide +kernel
theorem dL_law_1041 : decode cL_law 1041 = .ok (.ireturn, 1) := by decide +kernel
theorem dL_law_1042 : decode cL_law 1042 = .ok (.aload_n 1, 1) := by decide +kernel
theorem dL_law_1043 : decode cL_law 1043 = .ok (.aload_n 0, 1) := by decide +kernel
theorem dL_law_1044 : decode cL_law 1044 = .ok (.iload_n 3, 1) := by decide +kernel
theorem dL_law_1045 : decode cL_law 1045 = .ok (.iconst 1, 1) := by decide +kernel
theorem dL_law_1046 : decode cL_law 1046 = .ok (.iadd, 1) := by decide +kernel
theorem dL_law_1047 : decode cL_law 1047 = .ok (.iaload, 1) := by decide +kernel
theorem dL_law_1048 : decode cL_law 1048 = .ok (.aload_n 0, 1) := by decide +kernel
theorem dL_law_1049 : decode cL_law 1049 = .ok (.iload_n 3, 1) := by decide +kernel
theorem dL_law_1050 : decode cL_law 1050 = .ok (.iconst 2, 1) := by decide +kernel
theorem dL_law_1051 : decode cL_law 1051 = .ok (.iadd, 1) := by decide +kernel
theorem dL_law_1052 : decode cL_law 1052 = .ok (.iaload, 1) := by decide +kernel
theorem dL_law_1053 : decode cL_law 1053 = .ok (.aload_n 0, 1) := by decide +kernel
theorem dL_law_1054 : decode cL_law 1054 = .ok (.iload_n 3, 1) := by decide +kernel
theorem dL_law_1055 : decode cL_law 1055 = .ok (.iconst 3, 1) := by decide +kernel
theorem dL_law_1056 : decode cL_law 1056 = .ok (.iadd, 1) := by decide +kernel
theorem dL_law_1057 : decode cL_law 1057 = .ok (.iaload, 1) := by decide +kernel
theorem dL_law_1058 : decode cL_law 1058 = .ok (.invokevirtual 133, 3) := by decide +kernel
theorem dL_law_1061 : decode cL_law 1061 = .ok (.aload_n 2, 1) := by decide +kernel
theorem dL_law_1062 : decode cL_law 1062 = .ok (.aload_n 0, 1) := by decide +kernel
theorem dL_law_1063 : decode cL_law 1063 = .ok (.iload_n 3, 1) := by decide +kernel
theorem dL_law_1064 : decode cL_law 1064 = .ok (.iconst 1, 1) := by decide +kernel
theorem dL_law_1065 : decode cL_law 1065 = .ok (.iadd, 1) := by decide +kernel
theorem dL_law_1066 : decode cL_law 1066 = .ok (.iaload, 1) := by decide +kernel
theorem dL_law_1067 : decode cL_law 1067 = .ok (.aload_n 0, 1) := by decide +kernel
theorem dL_law_1068 : decode cL_law 1068 = .ok (.iload_n 3, 1) := by decide +kernel
theorem dL_law_1069 : decode cL_law 1069 = .ok (.iconst 2, 1) := by decide +kernel
theorem dL_law_1070 : decode cL_law 1070 = .ok (.iadd, 1) := by decide +kernel
theorem dL_law_1071 : decode cL_law 1071 = .ok (.iaload, 1) := by decide +kernel
theorem dL_law_1072 : decode cL_law 1072 = .ok (.aload_n 0, 1) := by decide +kernel
theorem dL_law_1073 : decode cL_law 1073 = .ok (.iload_n 3, 1) := by decide +kernel
theorem dL_law_1074 : decode cL_law 1074 = .ok (.iconst 3, 1) := by decide +kernel
theorem dL_law_1075 : decode cL_law 1075 = .ok (.iadd, 1) := by decide +kernel
theorem dL_law_1076 : decode cL_law 1076 = .ok (.iaload, 1) := by decide +kernel
theorem dL_law_1077 : decode cL_law 1077 = .ok (.invokevirtual 136, 3) := by decide +kernel
theorem dL_law_1080 : decode cL_law 1080 = .ok (.if_icmp .eq 360, 3) := by decide +kernel
theorem dL_law_1083 : decode cL_law 1083 = .ok (.iconst 0, 1) := by decide +kernel
theorem dL_law_1084 : decode cL_law 1084 = .ok (.ireturn, 1) := by decide +kernel
theorem dL_law_1085 : decode cL_law 1085 = .ok (.aload_n 1, 1) := by decide +kernel
theorem dL_law_1086 : decode cL_law 1086 = .ok (.invokevirtual 137, 3) := by decide +kernel
theorem dL_law_1089 : decode cL_law 1089 = .ok (.aload_n 2, 1) := by decide +kernel
theorem dL_law_1090 : decode cL_law 1090 = .ok (.invokevirtual 140, 3) := by decide +kernel
theorem dL_law_1093 : decode cL_law 1093 = .ok (.if_icmp .eq 347, 3) := by decide +kernel
theorem dL_law_1096 : decode cL_law 1096 = .ok (.iconst 0, 1) := by decide +kernel
theorem dL_law_1097 : decode cL_law 1097 = .ok (.ireturn, 1) := by decide +kernel
theorem dL_law_1098 : decode cL_law 1098 = .ok (.aload_n 1, 1) := by decide +kernel
theorem dL_law_1099 : decode cL_law 1099 = .ok (.aload_n 0, 1) := by decide +kernel
theorem dL_law_1100 : decode cL_law 1100 = .ok (.iload_n 3, 1) := by decide +kernel
theorem dL_law_1101 : decode cL_law 1101 = .ok (.iconst 1, 1) := by decide +kernel
theorem dL_law_1102 : decode cL_law 1102 = .ok (.iadd, 1) := by decide +kernel
theorem dL_law_1103 : decode cL_law 1103 = .ok (.iaload, 1) := by decide +kernel
theorem dL_law_1104 : decode cL_law 1104 = .ok (.invokevirtual 141, 3) := by decide +kernel
theorem dL_law_1107 : decode cL_law 1107 = .ok (.aload_n 2, 1) := by decide +kernel
theorem dL_law_1108 : decode cL_law 1108 = .ok (.aload_n 0, 1) := by decide +kernel
theorem dL_law_1109 : decode cL_law 1109 = .ok (.iload_n 3, 1) := by decide +kernel
theorem dL_law_1110 : decode cL_law 1110 = .ok (.iconst 1, 1) := by decide +kernel
theorem dL_law_1111 : decode cL_law 1111 = .ok (.iadd, 1) := by decide +kernel
theorem dL_law_1112 : decode cL_law 1112 = .ok (.iaload, 1) := by decide +kernel
theorem dL_law_1113 : decode cL_law 1113 = .ok (.invokevirtual 144, 3) := by decide +kernel
theorem dL_law_1116 : decode cL_law 1116 = .ok (.if_icmp .eq 324, 3) := by decide +kernel
theorem dL_law_1119 : decode cL_law 1119 = .ok (.iconst 0, 1) := by decide +kernel
theorem dL_law_1120 : decode cL_law 1120 = .ok (.ireturn, 1) := by decide +kernel
theorem dL_law_1121 : decode cL_law 1121 = .ok (.aload_n 1, 1) := by decide +kernel
theorem dL_law_1122 : decode cL_law 1122 = .ok (.aload_n 0, 1) := by decide +kernel
theorem dL_law_1123 : decode cL_law 1123 = .ok (.iload_n 3, 1) := by decide +kernel
theorem dL_law_1124 : decode cL_law 1124 = .ok (.iconst 1, 1) := by decide +kernel
theorem dL_law_1125 : decode cL_law 1125 = .ok (.iadd, 1) := by decide +kernel
theorem dL_law_1126 : decode cL_law 1126 = .ok (.iaload, 1) := by decide +kernel
theorem dL_law_1127 : decode cL_law 1127 = .ok (.invokevirtual 145, 3) := by decide +kernel
theorem dL_law_1130 : decode cL_law 1130 = .ok (.aload_n 2, 1) := by decide +kernel
theorem dL_law_1131 : decode cL_law 1131 = .ok (.aload_n 0, 1) := by decide +kernel
theorem dL_law_1132 : decode cL_law 1132 = .ok (.iload_n 3, 1) := by decide +kernel
theorem dL_law_1133 : decode cL_law 1133 = .ok (.iconst 1, 1) := by decide +kernel
theorem dL_law_1134 : decode cL_law 1134 = .ok (.iadd, 1) := by decide +kernel
theorem dL_law_1135 : decode cL_law 1135 = .ok (.iaload, 1) := by decide +kernel
theorem dL_law_1136 : decode cL_law 1136 = .ok (.invokevirtual 148, 3) := by decide +kernel
theorem dL_law_1139 : decode cL_law 1139 = .ok (.if_icmp .eq 301, 3) := by decide +kernel
theorem dL_law_1142 : decode cL_law 1142 = .ok (.iconst 0, 1) := by decide +kernel
theorem dL_law_1143 : decode cL_law 1143 = .ok (.ireturn, 1) := by decide +kernel
theorem dL_law_1144 : decode cL_law 1144 = .ok (.aload_n 1, 1) := by decide +kernel
theorem dL_law_1145 : decode cL_law 1145 = .ok (.aload_n 0, 1) := by decide +kernel
theorem dL_law_1146 : decode cL_law 1146 = .ok (.iload_n 3, 1) := by decide +kernel
theorem dL_law_1147 : decode cL_law 1147 = .ok (.iconst 1, 1) := by decide +kernel
theorem dL_law_1148 : decode cL_law 1148 = .ok (.iadd, 1) := by decide +kernel
theorem dL_law_1149 : decode cL_law 1149 = .ok (.iaload, 1) := by decide +kernel
theorem dL_law_1150 : decode cL_law 1150 = .ok (.aload_n 0, 1) := by decide +kernel
theorem dL_law_1151 : decode cL_law 1151 = .ok (.iload_n 3, 1) := by decide +kernel
theorem dL_law_1152 : decode cL_law 1152 = .ok (.iconst 2, 1) := by decide +kernel
theorem dL_law_1153 : decode cL_law 1153 = .ok (.iadd, 1) := by decide +kernel
theorem dL_law_1154 : decode cL_law 1154 = .ok (.iaload, 1) := by decide +kernel
theorem dL_law_1155 : decode cL_law 1155 = .ok (.invokevirtual 149, 3) := by decide +kernel
theorem dL_law_1158 : decode cL_law 1158 = .ok (.aload_n 2, 1) := by decide +kernel
theorem dL_law_1159 : decode cL_law 1159 = .ok (.aload_n 0, 1) := by decide +kernel
theorem dL_law_1160 : decode cL_law 1160 = .ok (.iload_n 3, 1) := by decide +kernel
theorem dL_law_1161 : decode cL_law 1161 = .ok (.iconst 1, 1) := by decide +kernel
theorem dL_law_1162 : decode cL_law 1162 = .ok (.iadd, 1) := by decide +kernel
theorem dL_law_1163 : decode cL_law 1163 = .ok (.iaload, 1) := by decide +kernel
theorem dL_law_1164 : decode cL_law 1164 = .ok (.aload_n 0, 1) := by decide +kernel
theorem dL_law_1165 : decode cL_law 1165 = .ok (.iload_n 3, 1) := by decide +kernel
theorem dL_law_1166 : decode cL_law 1166 = .ok (.iconst 2, 1) := by decide +kernel
theorem dL_law_1167 : decode cL_law 1167 = .ok (.iadd, 1) := by decide +kernel
theorem dL_law_1168 : decode cL_law 1168 = .ok (.iaload, 1) := by decide +kernel
theorem dL_law_1169 : decode cL_law 1169 = .ok (.invokevirtual 152, 3) := by decide +kernel
theorem dL_law_1172 : decode cL_law 1172 = .ok (.if_icmp .eq 268, 3) := by decide +kernel
theorem dL_law_1175 : decode cL_law 1175 = .ok (.iconst 0, 1) := by decide +kernel
theorem dL_law_1176 : decode cL_law 1176 = .ok (.ireturn, 1) := by decide +kernel
theorem dL_law_1177 : decode cL_law 1177 = .ok (.aload_n 1, 1) := by decide +kernel
theorem dL_law_1178 : decode cL_law 1178 = .ok (.aload_n 0, 1) := by decide +kernel
theorem dL_law_1179 : decode cL_law 1179 = .ok (.iload_n 3, 1) := by decide +kernel
theorem dL_law_1180 : decode cL_law 1180 = .ok (.iconst 1, 1) := by decide +kernel
theorem dL_law_1181 : decode cL_law 1181 = .ok (.iadd, 1) := by decide +kernel
theorem dL_law_1182 : decode cL_law 1182 = .ok (.iaload, 1) := by decide +kernel
theorem dL_law_1183 : decode cL_law 1183 = .ok (.invokevirtual 153, 3) := by decide +kernel
theorem dL_law_1186 : decode cL_law 1186 = .ok (.aload_n 2, 1) := by decide +kernel
theorem dL_law_1187 : decode cL_law 1187 = .ok (.aload_n 0, 1) := by decide +kernel
theorem dL_law_1188 : decode cL_law 1188 = .ok (.iload_n 3, 1) := by decide +kernel
theorem dL_law_1189 : decode cL_law 1189 = .ok (.iconst 1, 1) := by decide +kernel
theorem dL_law_1190 : decode cL_law 1190 = .ok (.iadd, 1) := by decide +kernel
theorem dL_law_1191 : decode cL_law 1191 = .ok (.iaload, 1) := by decide +kernel
theorem dL_law_1192 : decode cL_law 1192 = .ok (.invokevirtual 156, 3) := by decide +kernel
theorem dL_law_1195 : decode cL_law 1195 = .ok (.if_icmp .eq 245, 3) := by decide +kernel
theorem dL_law_1198 : decode cL_law 1198 = .ok (.iconst 0, 1) := by decide +kernel
theorem dL_law_1199 : decode cL_law 1199 = .ok (.ireturn, 1) := by decide +kernel
theorem dL_law_1200 : decode cL_law 1200 = .ok (.aload_n 1, 1) := by decide +kernel
theorem dL_law_1201 : decode cL_law 1201 = .ok (.aload_n 0, 1) := by decide +kernel
theorem dL_law_1202 : decode cL_law 1202 = .ok (.iload_n 3, 1) := by decide +kernel
theorem dL_law_1203 : decode cL_law 1203 = .ok (.iconst 1, 1) := by decide +kernel
theorem dL_law_1204 : decode cL_law 1204 = .ok (.iadd, 1) := by decide +kernel
theorem dL_law_1205 : decode cL_law 1205 = .ok (.iaload, 1) := by decide +kernel
theorem dL_law_1206 : decode cL_law 1206 = .ok (.aload_n 0, 1) := by decide +kernel
theorem dL_law_1207 : decode cL_law 1207 = .ok (.iload_n 3, 1) := by decide +kernel
theorem dL_law_1208 : decode cL_law 1208 = .ok (.iconst 2, 1) := by decide +kernel
theorem dL_law_1209 : decode cL_law 1209 = .ok (.iadd, 1) := by decide +kernel
theorem dL_law_1210 : decode cL_law 1210 = .ok (.iaload, 1) := by decide +kernel
theorem dL_law_1211 : decode cL_law 1211 = .ok (.aload_n 0, 1) := by decide +kernel
theorem dL_law_1212 : decode cL_law 1212 = .ok (.iload_n 3, 1) := by decide +kernel
theorem dL_law_1213 : decode cL_law 1213 = .ok (.iconst 3, 1) := by decide +kernel
theorem dL_law_1214 : decode cL_law 1214 = .ok (.iadd, 1) := by decide +kernel
theorem dL_law_1215 : decode cL_law 1215 = .ok (.iaload, 1) := by decide +kernel
theorem dL_law_1216 : decode cL_law 1216 = .ok (.invokevirtual 157, 3) := by decide +kernel
theorem dL_law_1219 : decode cL_law 1219 = .ok (.aload_n 2, 1) := by decide +kernel
theorem dL_law_1220 : decode cL_law 1220 = .ok (.aload_n 0, 1) := by decide +kernel
theorem dL_law_1221 : decode cL_law 1221 = .ok (.iload_n 3, 1) := by decide +kernel
theorem dL_law_1222 : decode cL_law 1222 = .ok (.iconst 1, 1) := by decide +kernel
theorem dL_law_1223 : decode cL_law 1223 = .ok (.iadd, 1) := by decide +kernel
theorem dL_law_1224 : decode cL_law 1224 = .ok (.iaload, 1) := by decide +kernel
theorem dL_law_1225 : decode cL_law 1225 = .ok (.aload_n 0, 1) := by decide +kernel
theorem dL_law_1226 : decode cL_law 1226 = .ok (.iload_n 3, 1) := by decide +kernel
theorem dL_law_1227 : decode cL_law 1227 = .ok (.iconst 2, 1) := by decide +kernel
theorem dL_law_1228 : decode cL_law 1228 = .ok (.iadd, 1) := by decide +kernel
theorem dL_law_1229 : decode cL_law 1229 = .ok (.iaload, 1) := by decide +kernel
theorem dL_law_1230 : decode cL_law 1230 = .ok (.aload_n 0, 1) := by decide +kernel
theorem dL_law_1231 : decode cL_law 1231 = .ok (.iload_n 3, 1) := by decide +kernel
theorem dL_law_1232 : decode cL_law 1232 = .ok (.iconst 3, 1) := by decide +kernel
theorem dL_law_1233 : decode cL_law 1233 = .ok (.iadd, 1) := by decide +kernel
theorem dL_law_1234 : decode cL_law 1234 = .ok (.iaload, 1) := by decide +kernel
theorem dL_law_1235 : decode cL_law 1235 = .ok (.invokevirtual 160, 3) := by decide +kernel
theorem dL_law_1238 : decode cL_law 1238 = .ok (.if_icmp .eq 202, 3) := by decide +kernel
theorem dL_law_1241 : decode cL_law 1241 = .ok (.iconst 0, 1) := by decide +kernel
theorem dL_law_1242 : decode cL_law 1242 = .ok (.ireturn, 1) := by decide +kernel
theorem dL_law_1243 : decode cL_law 1243 = .ok (.aload_n 1, 1) := by decide +kernel
theorem dL_law_1244 : decode cL_law 1244 = .ok (.aload_n 0, 1) := by decide +kernel
theorem dL_law_1245 : decode cL_law 1245 = .ok (.iload_n 3, 1) := by decide +kernel
theorem dL_law_1246 : decode cL_law 1246 = .ok (.iconst 1, 1) := by decide +kernel
theorem dL_law_1247 : decode cL_law 1247 = .ok (.iadd, 1) := by decide +kernel
theorem dL_law_1248 : decode cL_law 1248 = .ok (.iaload, 1) := by decide +kernel
theorem dL_law_1249 : decode cL_law 1249 = .ok (.aload_n 0, 1) := by decide +kernel
theorem dL_law_1250 : decode cL_law 1250 = .ok (.iload_n 3, 1) := by decide +kernel
theorem dL_law_1251 : decode cL_law 1251 = .ok (.iconst 2, 1) := by decide +kernel
theorem dL_law_1252 : decode cL_law 1252 = .ok (.iadd, 1) := by decide +kernel
theorem dL_law_1253 : decode cL_law 1253 = .ok (.iaload, 1) := by decide +kernel
theorem dL_law_1254 : decode cL_law 1254 = .ok (.aload_n 0, 1) := by decide +kernel
theorem dL_law_1255 : decode cL_law 1255 = .ok (.iload_n 3, 1) := by decide +kernel
theorem dL_law_1256 : decode cL_law 1256 = .ok (.iconst 3, 1) := by decide +kernel
theorem dL_law_1257 : decode cL_law 1257 = .ok (.iadd, 1) := by decide +kernel
theorem dL_law_1258 : decode cL_law 1258 = .ok (.iaload, 1) := by decide +kernel
theorem dL_law_1259 : decode cL_law 1259 = .ok (.ifCond .eq 7, 3) := by decide +kernel
theorem dL_law_1262 : decode cL_law 1262 = .ok (.iconst 1, 1) := by decide +kernel
theorem dL_law_1263 : decode cL_law 1263 = .ok (.goto 4, 3) := by decide +kernel
theorem dL_law_1266 : decode cL_law 1266 = .ok (.iconst 0, 1) := by decide +kernel
theorem dL_law_1267 : decode cL_law 1267 = .ok (.invokevirtual 161, 3) := by decide +kernel
theorem dL_law_1270 : decode cL_law 1270 = .ok (.aload_n 2, 1) := by decide +kernel
theorem dL_law_1271 : decode cL_law 1271 = .ok (.aload_n 0, 1) := by decide +kernel
theorem dL_law_1272 : decode cL_law 1272 = .ok (.iload_n 3, 1) := by decide +kernel
theorem dL_law_1273 : decode cL_law 1273 = .ok (.iconst 1, 1) := by decide +kernel
theorem dL_law_1274 : decode cL_law 1274 = .ok (.iadd, 1) := by decide +kernel
theorem dL_law_1275 : decode cL_law 1275 = .ok (.iaload, 1) := by decide +kernel
theorem dL_law_1276 : decode cL_law 1276 = .ok (.aload_n 0, 1) := by decide +kernel
theorem dL_law_1277 : decode cL_law 1277 = .ok (.iload_n 3, 1) := by decide +kernel
theorem dL_law_1278 : decode cL_law 1278 = .ok (.iconst 2, 1) := by decide +kernel
theorem dL_law_1279 : decode cL_law 1279 = .ok (.iadd, 1) := by decide +kernel
theorem dL_law_1280 : decode cL_law 1280 = .ok (.iaload, 1) := by decide +kernel
theorem dL_law_1281 : decode cL_law 1281 = .ok (.aload_n 0, 1) := by decide +kernel
theorem dL_law_1282 : decode cL_law 1282 = .ok (.iload_n 3, 1) := by decide +kernel
theorem dL_law_1283 : decode cL_law 1283 = .ok (.iconst 3, 1) := by decide +kernel
theorem dL_law_1284 : decode cL_law 1284 = .ok (.iadd, 1) := by decide +kernel
theorem dL_law_1285 : decode cL_law 1285 = .ok (.iaload, 1) := by decide +kernel
theorem dL_law_1286 : decode cL_law 1286 = .ok (.ifCond .eq 7, 3) := by decide +kernel
theorem dL_law_1289 : decode cL_law 1289 = .ok (.iconst 1, 1) := by decide +kernel
theorem dL_law_1290 : decode cL_law 1290 = .ok (.goto 4, 3) := by decide +kernel
theorem dL_law_1293 : decode cL_law 1293 = .ok (.iconst 0, 1) := by decide +kernel
theorem dL_law_1294 : decode cL_law 1294 = .ok (.invokevirtual 165, 3) := by decide +kernel
theorem dL_law_1297 : decode cL_law 1297 = .ok (.if_icmp .eq 143, 3) := by decide +kernel
theorem dL_law_1300 : decode cL_law 1300 = .ok (.iconst 0, 1) := by decide +kernel
theorem dL_law_1301 : decode cL_law 1301 = .ok (.ireturn, 1) := by decide +kernel
theorem dL_law_1302 : decode cL_law 1302 = .ok (.aload_n 1, 1) := by decide +kernel
theorem dL_law_1303 : decode cL_law 1303 = .ok (.invokevirtual 166, 3) := by decide +kernel
theorem dL_law_1306 : decode cL_law 1306 = .ok (.aload_n 2, 1) := by decide +kernel
theorem dL_law_1307 : decode cL_law 1307 = .ok (.invokevirtual 169, 3) := by decide +kernel
theorem dL_law_1310 : decode cL_law 1310 = .ok (.if_icmp .eq 130, 3) := by decide +kernel
theorem dL_law_1313 : decode cL_law 1313 = .ok (.iconst 0, 1) := by decide +kernel
theorem dL_law_1314 : decode cL_law 1314 = .ok (.ireturn, 1) := by decide +kernel
theorem dL_law_1315 : decode cL_law 1315 = .ok (.aload_n 1, 1) := by decide +kernel
theorem dL_law_1316 : decode cL_law 1316 = .ok (.aload_n 0, 1) := by decide +kernel
theorem dL_law_1317 : decode cL_law 1317 = .ok (.iload_n 3, 1) := by decide +kernel
theorem dL_law_1318 : decode cL_law 1318 = .ok (.iconst 1, 1) := by decide +kernel
theorem dL_law_1319 : decode cL_law 1319 = .ok (.iadd, 1) := by decide +kernel
theorem dL_law_1320 : decode cL_law 1320 = .ok (.iaload, 1) := by decide +kernel
theorem dL_law_1321 : decode cL_law 1321 = .ok (.aload_n 0, 1) := by decide +kernel
theorem dL_law_1322 : decode cL_law 1322 = .ok (.iload_n 3, 1) := by decide +kernel
theorem dL_law_1323 : decode cL_law 1323 = .ok (.iconst 2, 1) := by decide +kernel
theorem dL_law_1324 : decode cL_law 1324 = .ok (.iadd, 1) := by decide +kernel
theorem dL_law_1325 : decode cL_law 1325 = .ok (.iaload, 1) := by decide +kernel
theorem dL_law_1326 : decode cL_law 1326 = .ok (.invokevirtual 170, 3) := by decide +kernel
theorem dL_law_1329 : decode cL_law 1329 = .ok (.aload_n 2, 1) := by decide +kernel
theorem dL_law_1330 : decode cL_law 1330 = .ok (.aload_n 0, 1) := by decide +kernel
theorem dL_law_1331 : decode cL_law 1331 = .ok (.iload_n 3, 1) := by decide +kernel
theorem dL_law_1332 : decode cL_law 1332 = .ok (.iconst 1, 1) := by decide +kernel
theorem dL_law_1333 : decode cL_law 1333 = .ok (.iadd, 1) := by decide +kernel
theorem dL_law_1334 : decode cL_law 1334 = .ok (.iaload, 1) := by decide +kernel
theorem dL_law_1335 : decode cL_law 1335 = .ok (.aload_n 0, 1) := by decide +kernel
theorem dL_law_1336 : decode cL_law 1336 = .ok (.iload_n 3, 1) := by decide +kernel
theorem dL_law_1337 : decode cL_law 1337 = .ok (.iconst 2, 1) := by decide +kernel
theorem dL_law_1338 : decode cL_law 1338 = .ok (.iadd, 1) := by decide +kernel
theorem dL_law_1339 : decode cL_law 1339 = .ok (.iaload, 1) := by decide +kernel
theorem dL_law_1340 : decode cL_law 1340 = .ok (.invokevirtual 173, 3) := by decide +kernel
theorem dL_law_1343 : decode cL_law 1343 = .ok (.if_icmp .eq 97, 3) := by decide +kernel
theorem dL_law_1346 : decode cL_law 1346 = .ok (.iconst 0, 1) := by decide +kernel
theorem dL_law_1347 : decode cL_law 1347 = .ok (.ireturn, 1) := by decide +kernel
theorem dL_law_1348 : decode cL_law 1348 = .ok (.aload_n 1, 1) := by decide +kernel
theorem dL_law_1349 : decode cL_law 1349 = .ok (.aload_n 0, 1) := by decide +kernel
theorem dL_law_1350 : decode cL_law 1350 = .ok (.iload_n 3, 1) := by decide +kernel
theorem dL_law_1351 : decode cL_law 1351 = .ok (.iconst 1, 1) := by decide +kernel
theorem dL_law_1352 : decode cL_law 1352 = .ok (.iadd, 1) := by decide +kernel
theorem dL_law_1353 : decode cL_law 1353 = .ok (.iaload, 1) := by decide +kernel
theorem dL_law_1354 : decode cL_law 1354 = .ok (.invokevirtual 174, 3) := by decide +kernel
theorem dL_law_1357 : decode cL_law 1357 = .ok (.aload_n 2, 1) := by decide +kernel
theorem dL_law_1358 : decode cL_law 1358 = .ok (.aload_n 0, 1) := by decide +kernel
theorem dL_law_1359 : decode cL_law 1359 = .ok (.iload_n 3, 1) := by decide +kernel
theorem dL_law_1360 : decode cL_law 1360 = .ok (.iconst 1, 1) := by decide +kernel
theorem dL_law_1361 : decode cL_law 1361 = .ok (.iadd, 1) := by decide +kernel
theorem dL_law_1362 : decode cL_law 1362 = .ok (.iaload, 1) := by decide +kernel
theorem dL_law_1363 : decode cL_law 1363 = .ok (.invokevirtual 177, 3) := by decide +kernel
theorem dL_law_1366 : decode cL_law 1366 = .ok (.if_icmp .eq 74, 3) := by decide +kernel
theorem dL_law_1369 : decode cL_law 1369 = .ok (.iconst 0, 1) := by decide +kernel
theorem dL_law_1370 : decode cL_law 1370 = .ok (.ireturn, 1) := by decide +kernel
theorem dL_law_1371 : decode cL_law 1371 = .ok (.aload_n 1, 1) := by decide +kernel
theorem dL_law_1372 : decode cL_law 1372 = .ok (.aload_n 0, 1) := by decide +kernel
theorem dL_law_1373 : decode cL_law 1373 = .ok (.iload_n 3, 1) := by decide +kernel
theorem dL_law_1374 : decode cL_law 1374 = .ok (.iconst 1, 1) := by decide +kernel
theorem dL_law_1375 : decode cL_law 1375 = .ok (.iadd, 1) := by decide +kernel
theorem dL_law_1376 : decode cL_law 1376 = .ok (.iaload, 1) := by decide +kernel
theorem dL_law_1377 : decode cL_law 1377 = .ok (.invokevirtual 178, 3) := by decide +kernel
theorem dL_law_1380 : decode cL_law 1380 = .ok (.aload_n 2, 1) := by decide +kernel
theorem dL_law_1381 : decode cL_law 1381 = .ok (.aload_n 0, 1) := by decide +kernel
theorem dL_law_1382 : decode cL_law 1382 = .ok (.iload_n 3, 1) := by decide +kernel
theorem dL_law_1383 : decode cL_law 1383 = .ok (.iconst 1, 1) := by decide +kernel
theorem dL_law_1384 : decode cL_law 1384 = .ok (.iadd, 1) := by decide +kernel
theorem dL_law_1385 : decode cL_law 1385 = .ok (.iaload, 1) := by decide +kernel
theorem dL_law_1386 : decode cL_law 1386 = .ok (.invokevirtual 182, 3) := by decide +kernel
theorem dL_law_1389 : decode cL_law 1389 = .ok (.if_icmp .eq 51, 3) := by decide +kernel
theorem dL_law_1392 : decode cL_law 1392 = .ok (.iconst 0, 1) := by decide +kernel
theorem dL_law_1393 : decode cL_law 1393 = .ok (.ireturn, 1) := by decide +kernel
theorem dL_law_1394 : decode cL_law 1394 = .ok (.aload_n 1, 1) := by decide +kernel
theorem dL_law_1395 : decode cL_law 1395 = .ok (.aload_n 0, 1) := by decide +kernel
theorem dL_law_1396 : decode cL_law 1396 = .ok (.iload_n 3, 1) := by decide +kernel
theorem dL_law_1397 : decode cL_law 1397 = .ok (.iconst 1, 1) := by decide +kernel
theorem dL_law_1398 : decode cL_law 1398 = .ok (.iadd, 1) := by decide +kernel
theorem dL_law_1399 : decode cL_law 1399 = .ok (.iaload, 1) := by decide +kernel
theorem dL_law_1400 : decode cL_law 1400 = .ok (.invokevirtual 183, 3) := by decide +kernel
theorem dL_law_1403 : decode cL_law 1403 = .ok (.aload_n 2, 1) := by decide +kernel
theorem dL_law_1404 : decode cL_law 1404 = .ok (.aload_n 0, 1) := by decide +kernel
theorem dL_law_1405 : decode cL_law 1405 = .ok (.iload_n 3, 1) := by decide +kernel
theorem dL_law_1406 : decode cL_law 1406 = .ok (.iconst 1, 1) := by decide +kernel
theorem dL_law_1407 : decode cL_law 1407 = .ok (.iadd, 1) := by decide +kernel
theorem dL_law_1408 : decode cL_law 1408 = .ok (.iaload, 1) := by decide +kernel
theorem dL_law_1409 : decode cL_law 1409 = .ok (.invokevirtual 186, 3) := by decide +kernel
theorem dL_law_1412 : decode cL_law 1412 = .ok (.if_icmp .eq 28, 3) := by decide +kernel
theorem dL_law_1415 : decode cL_law 1415 = .ok (.iconst 0, 1) := by decide +kernel
theorem dL_law_1416 : decode cL_law 1416 = .ok (.ireturn, 1) := by decide +kernel
theorem dL_law_1417 : decode cL_law 1417 = .ok (.aload_n 1, 1) := by decide +kernel
theorem dL_law_1418 : decode cL_law 1418 = .ok (.aload_n 0, 1) := by decide +kernel
theorem dL_law_1419 : decode cL_law 1419 = .ok (.iload_n 3, 1) := by decide +kernel
theorem dL_law_1420 : decode cL_law 1420 = .ok (.iconst 1, 1) := by decide +kernel
theorem dL_law_1421 : decode cL_law 1421 = .ok (.iadd, 1) := by decide +kernel
theorem dL_law_1422 : decode cL_law 1422 = .ok (.iaload, 1) := by decide +kernel
theorem dL_law_1423 : decode cL_law 1423 = .ok (.invokevirtual 187, 3) := by decide +kernel
theorem dL_law_1426 : decode cL_law 1426 = .ok (.aload_n 2, 1) := by decide +kernel
theorem dL_law_1427 : decode cL_law 1427 = .ok (.aload_n 0, 1) := by decide +kernel
theorem dL_law_1428 : decode cL_law 1428 = .ok (.iload_n 3, 1) := by decide +kernel
theorem dL_law_1429 : decode cL_law 1429 = .ok (.iconst 1, 1) := by decide +kernel
theorem dL_law_1430 : decode cL_law 1430 = .ok (.iadd, 1) := by decide +kernel
theorem dL_law_1431 : decode cL_law 1431 = .ok (.iaload, 1) := by decide +kernel
theorem dL_law_1432 : decode cL_law 1432 = .ok (.invokevirtual 190, 3) := by decide +kernel
theorem dL_law_1435 : decode cL_law 1435 = .ok (.if_icmp .eq 5, 3) := by decide +kernel
theorem dL_law_1438 : decode cL_law 1438 = .ok (.iconst 0, 1) := by decide +kernel
theorem dL_law_1439 : decode cL_law 1439 = .ok (.ireturn, 1) := by decide +kernel
theorem dL_law_1440 : decode cL_law 1440 = .ok (.iinc 3 6, 3) := by decide +kernel
theorem dL_law_1443 : decode cL_law 1443 = .ok (.goto (-1425), 3) := by decide +kernel
theorem dL_law_1446 : decode cL_law 1446 = .ok (.iconst 1, 1) := by decide +kernel
theorem dL_law_1447 : decode cL_law 1447 = .ok (.ireturn, 1) := by decide +kernel
theorem cV_L_13 : cV RL 13 yX11_feed cX11_feed 6 (some .int) 5 := ⟨⟨lg_at 434 (by decide +kernel) (by decide +kernel), lg_at 435 (by decide +kernel) (by decide +kernel), lg_at 436 (by decide +kernel) (by decide +kernel), lg_at 1 (by decide +kernel) (by decide +kernel), lg_at 437 (by decide +kernel) (by decide +kernel)⟩, by decide +kernel, by decide +kernel, by decide +kernel⟩
theorem cV_L_17 : cV RL 17 yX12_feed cX12_feed 6 (some .int) 5 := ⟨⟨lg_at 1387 (by decide +kernel) (by decide +kernel), lg_at 1388 (by decide +kernel) (by decide +kernel), lg_at 1389 (by decide +kernel) (by decide +kernel), lg_at 15 (by decide +kernel) (by decide +kernel), lg_at 1390 (by decide +kernel) (by decide +kernel)⟩, by decide +kernel, by decide +kernel, by decide +kernel⟩
theorem cV_L_18 : cV RL 18 yX11_back cX11_back 2 (some .int) 1 := ⟨⟨lg_at 446 (by decide +kernel) (by decide +kernel), lg_at 447 (by decide +kernel) (by decide +kernel), lg_at 448 (by decide +kernel) (by decide +kernel), lg_at 1 (by decide +kernel) (by decide +kernel), lg_at 449 (by decide +kernel) (by decide +kernel)⟩, by decide +kernel, by decide +kernel, by decide +kernel⟩
theorem cV_L_22 : cV RL 22 yX12_back cX12_back 2 (some .int) 1 := ⟨⟨lg_at 1395 (by decide +kernel) (by decide +kernel), lg_at 1396 (by decide +kernel) (by decide +kernel), lg_at 1397 (by decide +kernel) (by decide +kernel), lg_at 15 (by decide +kernel) (by decide +kernel), lg_at 1398 (by decide +kernel) (by decide +kernel)⟩, by decide +kernel, by decide +kernel, by decide +kernel⟩
theorem cV_L_23 : cV RL 23 yX11_read cX11_read 2 (some .int) 0 := ⟨⟨lg_at 453 (by decide +kernel) (by decide +kernel), lg_at 454 (by decide +kernel) (by decide +kernel), lg_at 455 (by decide +kernel) (by decide +kernel), lg_at 1 (by decide +kernel) (by decide +kernel), lg_at 456 (by decide +kernel) (by decide +kernel)⟩, by decide +kernel, by decide +kernel, by decide +kernel⟩
theorem cV_L_27 : cV RL 27 yX12_read cX12_read 2 (some .int) 0 := ⟨⟨lg_at 1399 (by decide +kernel) (by decide +kernel), lg_at 1400 (by decide +kernel) (by decide +kernel), lg_at 1401 (by decide +kernel) (by decide +kernel), lg_at 15 (by decide +kernel) (by decide +kernel), lg_at 1402 (by decide +kernel) (by decide +kernel)⟩, by decide +kernel, by decide +kernel, by decide +kernel⟩
theorem cV_L_28 : cV RL 28 yX11_place cX11_place 1 (some .int) 0 := ⟨⟨lg_at 710 (by decide +kernel) (by decide +kernel), lg_at 711 (by decide +kernel) (by decide +kernel), lg_at 712 (by decide +kernel) (by decide +kernel), lg_at 1 (by decide +kernel) (by decide +kernel), lg_at 713 (by decide +kernel) (by decide +kernel)⟩, by decide +kernel, by decide +kernel, by decide +kernel⟩
theorem cV_L_31 : cV RL 31 yX12_place cX12_place 1 (some .int) 0 := ⟨⟨lg_at 1497 (by decide +kernel) (by decide +kernel), lg_at 1498 (by decide +kernel) (by decide +kernel), lg_at 1499 (by decide +kernel) (by decide +kernel), lg_at 15 (by decide +kernel) (by decide +kernel), lg_at 1500 (by decide +kernel) (by decide +kernel)⟩, by decide +kernel, by decide +kernel, by decide +kernel⟩
theorem cV_L_32 : cV RL 32 yX11_minute cX11_minute 3 (some .int) 2 := ⟨⟨lg_at 714 (by decide +kernel) (by decide +kernel), lg_at 715 (by decide +kernel) (by decide +kernel), lg_at 716 (by decide +kernel) (by decide +kernel), lg_at 1 (by decide +kernel) (by decide +kernel), lg_at 717 (by decide +kernel) (by decide +kernel)⟩, by decide +kernel, by decide +kernel, by decide +kernel⟩
theorem cV_L_36 : cV RL 36 yX12_minute cX12_minute 3 (some .int) 2 := ⟨⟨lg_at 1501 (by decide +kernel) (by decide +kernel), lg_at 1502 (by decide +kernel) (by decide +kernel), lg_at 1503 (by decide +kernel) (by decide +kernel), lg_at 15 (by decide +kernel) (by decide +kernel), lg_at 1504 (by decide +kernel) (by decide +kernel)⟩, by decide +kernel, by decide +kernel, by decide +kernel⟩
theorem cV_L_37 : cV RL 37 yX11_family cX11_family 3 (some .int) 2 := ⟨⟨lg_at 752 (by decide +kernel) (by decide +kernel), lg_at 753 (by decide +kernel) (by decide +kernel), lg_at 754 (by decide +kernel) (by decide +kernel), lg_at 1 (by decide +kernel) (by decide +kernel), lg_at 755 (by decide +kernel) (by decide +kernel)⟩, by decide +kernel, by decide +kernel, by decide +kernel⟩
theorem cV_L_40 : cV RL 40 yX12_family cX12_family 3 (some .int) 2 := ⟨⟨lg_at 1547 (by decide +kernel) (by decide +kernel), lg_at 1548 (by decide +kernel) (by decide +kernel), lg_at 1549 (by decide +kernel) (by decide +kernel), lg_at 15 (by decide +kernel) (by decide +kernel), lg_at 1550 (by decide +kernel) (by decide +kernel)⟩, by decide +kernel, by decide +kernel, by decide +kernel⟩
theorem cV_L_41 : cV RL 41 yX11_lease cX11_lease 2 (some .int) 1 := ⟨⟨lg_at 791 (by decide +kernel) (by decide +kernel), lg_at 792 (by decide +kernel) (by decide +kernel), lg_at 793 (by decide +kernel) (by decide +kernel), lg_at 1 (by decide +kernel) (by decide +kernel), lg_at 794 (by decide +kernel) (by decide +kernel)⟩, by decide +kernel, by decide +kernel, by decide +kernel⟩
theorem cV_L_44 : cV RL 44 yX12_lease cX12_lease 2 (some .int) 1 := ⟨⟨lg_at 1574 (by decide +kernel) (by decide +kernel), lg_at 1575 (by decide +kernel) (by decide +kernel), lg_at 1576 (by decide +kernel) (by decide +kernel), lg_at 15 (by decide +kernel) (by decide +kernel), lg_at 1577 (by decide +kernel) (by decide +kernel)⟩, by decide +kernel, by decide +kernel, by decide +kernel⟩
theorem cV_L_45 : cV RL 45 yX11_worth cX11_worth 4 (some .int) 3 := ⟨⟨lg_at 797 (by decide +kernel) (by decide +kernel), lg_at 798 (by decide +kernel) (by decide +kernel), lg_at 799 (by decide +kernel) (by decide +kernel), lg_at 1 (by decide +kernel) (by decide +kernel), lg_at 800 (by decide +kernel) (by decide +kernel)⟩, by decide +kernel, by decide +kernel, by decide +kernel⟩
theorem cV_L_49 : cV RL 49 yX12_worth cX12_worth 4 (some .int) 3 := ⟨⟨lg_at 1581 (by decide +kernel) (by decide +kernel), lg_at 1582 (by decide +kernel) (by decide +kernel), lg_at 1583 (by decide +kernel) (by decide +kernel), lg_at 15 (by decide +kernel) (by decide +kernel), lg_at 1584 (by decide +kernel) (by decide +kernel)⟩, by decide +kernel, by decide +kernel, by decide +kernel⟩
theorem cV_L_50 : cV RL 50 yX11_change cX11_change 3 (some .boolean) 2 := ⟨⟨lg_at 805 (by decide +kernel) (by decide +kernel), lg_at 806 (by decide +kernel) (by decide +kernel), lg_at 807 (by decide +kernel) (by decide +kernel), lg_at 1 (by decide +kernel) (by decide +kernel), lg_at 808 (by decide +kernel) (by decide +kernel)⟩, by decide +kernel, by decide +kernel, by decide +kernel⟩
theorem cV_L_54 : cV RL 54 yX12_change cX12_change 3 (some .boolean) 2 := ⟨⟨lg_at 1589 (by decide +kernel) (by decide +kernel), lg_at 1590 (by decide +kernel) (by decide +kernel), lg_at 1591 (by decide +kernel) (by decide +kernel), lg_at 15 (by decide +kernel) (by decide +kernel), lg_at 1592 (by decide +kernel) (by decide +kernel)⟩, by decide +kernel, by decide +kernel, by decide +kernel⟩
theorem cV_L_55 : cV RL 55 yX11_let cX11_let 4 (some .boolean) 2 := ⟨⟨lg_at 819 (by decide +kernel) (by decide +kernel), lg_at 820 (by decide +kernel) (by decide +kernel), lg_at 821 (by decide +kernel) (by decide +kernel), lg_at 1 (by decide +kernel) (by decide +kernel), lg_at 822 (by decide +kernel) (by decide +kernel)⟩, by decide +kernel, by decide +kernel, by decide +kernel⟩
theorem cV_L_58 : cV RL 58 yX12_let cX12_let 4 (some .boolean) 2 := ⟨⟨lg_at 1601 (by decide +kernel) (by decide +kernel), lg_at 1602 (by decide +kernel) (by decide +kernel), lg_at 1603 (by decide +kernel) (by decide +kernel), lg_at 15 (by decide +kernel) (by decide +kernel), lg_at 1604 (by decide +kernel) (by decide +kernel)⟩, by decide +kernel, by decide +kernel, by decide +kernel⟩
theorem cV_L_59 : cV RL 59 yX11_syrup cX11_syrup 2 (some .boolean) 1 := ⟨⟨lg_at 827 (by decide +kernel) (by decide +kernel), lg_at 828 (by decide +kernel) (by decide +kernel), lg_at 829 (by decide +kernel) (by decide +kernel), lg_at 1 (by decide +kernel) (by decide +kernel), lg_at 830 (by decide +kernel) (by decide +kernel)⟩, by decide +kernel, by decide +kernel, by decide +kernel⟩
theorem cV_L_63 : cV RL 63 yX12_syrup cX12_syrup 2 (some .boolean) 1 := ⟨⟨lg_at 1609 (by decide +kernel) (by decide +kernel), lg_at 1610 (by decide +kernel) (by decide +kernel), lg_at 1611 (by decide +kernel) (by decide +kernel), lg_at 15 (by decide +kernel) (by decide +kernel), lg_at 1612 (by decide +kernel) (by decide +kernel)⟩, by decide +kernel, by decide +kernel, by decide +kernel⟩
theorem cV_L_64 : cV RL 64 yX11_dust cX11_dust 2 (some .boolean) 1 := ⟨⟨lg_at 835 (by decide +kernel) (by decide +kernel), lg_at 836 (by decide +kernel) (by decide +kernel), lg_at 837 (by decide +kernel) (by decide +kernel), lg_at 1 (by decide +kernel) (by decide +kernel), lg_at 838 (by decide +kernel) (by decide +kernel)⟩, by decide +kernel, by decide +kernel, by decide +kernel⟩
theorem cV_L_67 : cV RL 67 yX12_dust cX12_dust 2 (some .boolean) 1 := ⟨⟨lg_at 1617 (by decide +kernel) (by decide +kernel), lg_at 1618 (by decide +kernel) (by decide +kernel), lg_at 1619 (by decide +kernel) (by decide +kernel), lg_at 15 (by decide +kernel) (by decide +kernel), lg_at 1620 (by decide +kernel) (by decide +kernel)⟩, by decide +kernel, by decide +kernel, by decide +kernel⟩
theorem cV_L_68 : cV RL 68 yX11_weeks cX11_weeks 2 (some .int) 1 := ⟨⟨lg_at 839 (by decide +kernel) (by decide +kernel), lg_at 840 (by decide +kernel) (by decide +kernel), lg_at 841 (by decide +kernel) (by decide +kernel), lg_at 1 (by decide +kernel) (by decide +kernel), lg_at 842 (by decide +kernel) (by decide +kernel)⟩, by decide +kernel, by decide +kernel, by decide +kernel⟩
theorem cV_L_71 : cV RL 71 yX12_weeks cX12_weeks 2 (some .int) 1 := ⟨⟨lg_at 1621 (by decide +kernel) (by decide +kernel), lg_at 1622 (by decide +kernel) (by decide +kernel), lg_at 1623 (by decide +kernel) (by decide +kernel), lg_at 15 (by decide +kernel) (by decide +kernel), lg_at 1624 (by decide +kernel) (by decide +kernel)⟩, by decide +kernel, by decide +kernel, by decide +kernel⟩
theorem cV_L_72 : cV RL 72 yX11_undo cX11_undo 1 (some .boolean) 0 := ⟨⟨lg_at 862 (by decide +kernel) (by decide +kernel), lg_at 863 (by decide +kernel) (by decide +kernel), lg_at 864 (by decide +kernel) (by decide +kernel), lg_at 1 (by decide +kernel) (by decide +kernel), lg_at 865 (by decide +kernel) (by decide +kernel)⟩, by decide +kernel, by decide +kernel, by decide +kernel⟩
theorem cV_L_76 : cV RL 76 yX12_undo cX12_undo 2 (some .boolean) 0 := ⟨⟨lg_at 1643 (by decide +kernel) (by decide +kernel), lg_at 1644 (by decide +kernel) (by decide +kernel), lg_at 1645 (by decide +kernel) (by decide +kernel), lg_at 15 (by decide +kernel) (by decide +kernel), lg_at 1646 (by decide +kernel) (by decide +kernel)⟩, by decide +kernel, by decide +kernel, by decide +kernel⟩
theorem cV_L_77 : cV RL 77 yX11_odds cX11_odds 2 (some .int) 1 := ⟨⟨lg_at 870 (by decide +kernel) (by decide +kernel), lg_at 871 (by decide +kernel) (by decide +kernel), lg_at 872 (by decide +kernel) (by decide +kernel), lg_at 1 (by decide +kernel) (by decide +kernel), lg_at 873 (by decide +kernel) (by decide +kernel)⟩, by decide +kernel, by decide +kernel, by decide +kernel⟩
theorem cV_L_80 : cV RL 80 yX12_odds cX12_odds 2 (some .int) 1 := ⟨⟨lg_at 1647 (by decide +kernel) (by decide +kernel), lg_at 1648 (by decide +kernel) (by decide +kernel), lg_at 1649 (by decide +kernel) (by decide +kernel), lg_at 15 (by decide +kernel) (by decide +kernel), lg_at 1650 (by decide +kernel) (by decide +kernel)⟩, by decide +kernel, by decide +kernel, by decide +kernel⟩
theorem cV_L_81 : cV RL 81 yX11_falls cX11_falls 3 (some .int) 2 := ⟨⟨lg_at 893 (by decide +kernel) (by decide +kernel), lg_at 894 (by decide +kernel) (by decide +kernel), lg_at 895 (by decide +kernel) (by decide +kernel), lg_at 1 (by decide +kernel) (by decide +kernel), lg_at 896 (by decide +kernel) (by decide +kernel)⟩, by decide +kernel, by decide +kernel, by decide +kernel⟩
theorem cV_L_84 : cV RL 84 yX12_falls cX12_falls 3 (some .int) 2 := ⟨⟨lg_at 1666 (by decide +kernel) (by decide +kernel), lg_at 1667 (by decide +kernel) (by decide +kernel), lg_at 1668 (by decide +kernel) (by decide +kernel), lg_at 15 (by decide +kernel) (by decide +kernel), lg_at 1669 (by decide +kernel) (by decide +kernel)⟩, by decide +kernel, by decide +kernel, by decide +kernel⟩
theorem cV_L_85 : cV RL 85 yX11_value cX11_value 3 (some .int) 2 := ⟨⟨lg_at 898 (by decide +kernel) (by decide +kernel), lg_at 899 (by decide +kernel) (by decide +kernel), lg_at 900 (by decide +kernel) (by decide +kernel), lg_at 1 (by decide +kernel) (by decide +kernel), lg_at 901 (by decide +kernel) (by decide +kernel)⟩, by decide +kernel, by decide +kernel, by decide +kernel⟩
theorem cV_L_88 : cV RL 88 yX12_value cX12_value 3 (some .int) 2 := ⟨⟨lg_at 1670 (by decide +kernel) (by decide +kernel), lg_at 1671 (by decide +kernel) (by decide +kernel), lg_at 1672 (by decide +kernel) (by decide +kernel), lg_at 15 (by decide +kernel) (by decide +kernel), lg_at 1673 (by decide +kernel) (by decide +kernel)⟩, by decide +kernel, by decide +kernel, by decide +kernel⟩
theorem cV_L_89 : cV RL 89 yX11_have cX11_have 2 (some .int) 1 := ⟨⟨lg_at 907 (by decide +kernel) (by decide +kernel), lg_at 908 (by decide +kernel) (by decide +kernel), lg_at 909 (by decide +kernel) (by decide +kernel), lg_at 1 (by decide +kernel) (by decide +kernel), lg_at 910 (by decide +kernel) (by decide +kernel)⟩, by decide +kernel, by decide +kernel, by decide +kernel⟩
theorem cV_L_92 : cV RL 92 yX12_have cX12_have 2 (some .int) 1 := ⟨⟨lg_at 1678 (by decide +kernel) (by decide +kernel), lg_at 1679 (by decide +kernel) (by decide +kernel), lg_at 1680 (by decide +kernel) (by decide +kernel), lg_at 15 (by decide +kernel) (by decide +kernel), lg_at 1681 (by decide +kernel) (by decide +kernel)⟩, by decide +kernel, by decide +kernel, by decide +kernel⟩
theorem cV_L_93 : cV RL 93 yX11_mode cX11_mode 5 (some .int) 2 := ⟨⟨lg_at 915 (by decide +kernel) (by decide +kernel), lg_at 916 (by decide +kernel) (by decide +kernel), lg_at 917 (by decide +kernel) (by decide +kernel), lg_at 1 (by decide +kernel) (by decide +kernel), lg_at 918 (by decide +kernel) (by decide +kernel)⟩, by decide +kernel, by decide +kernel, by decide +kernel⟩
theorem cV_L_96 : cV RL 96 yX12_mode cX12_mode 5 (some .int) 2 := ⟨⟨lg_at 1686 (by decide +kernel) (by decide +kernel), lg_at 1687 (by decide +kernel) (by decide +kernel), lg_at 1688 (by decide +kernel) (by decide +kernel), lg_at 15 (by decide +kernel) (by decide +kernel), lg_at 1689 (by decide +kernel) (by decide +kernel)⟩, by decide +kernel, by decide +kernel, by decide +kernel⟩
theorem cV_L_97 : cV RL 97 yX11_mean cX11_mean 3 (some .int) 0 := ⟨⟨lg_at 919 (by decide +kernel) (by decide +kernel), lg_at 920 (by decide +kernel) (by decide +kernel), lg_at 921 (by decide +kernel) (by decide +kernel), lg_at 1 (by decide +kernel) (by decide +kernel), lg_at 922 (by decide +kernel) (by decide +kernel)⟩, by decide +kernel, by decide +kernel, by decide +kernel⟩
theorem cV_L_100 : cV RL 100 yX12_mean cX12_mean 3 (some .int) 0 := ⟨⟨lg_at 1690 (by decide +kernel) (by decide +kernel), lg_at 1691 (by decide +kernel) (by decide +kernel), lg_at 1692 (by decide +kernel) (by decide +kernel), lg_at 15 (by decide +kernel) (by decide +kernel), lg_at 1693 (by decide +kernel) (by decide +kernel)⟩, by decide +kernel, by decide +kernel, by decide +kernel⟩
theorem cV_L_101 : cV RL 101 yX11_both cX11_both 3 (some .int) 2 := ⟨⟨lg_at 923 (by decide +kernel) (by decide +kernel), lg_at 924 (by decide +kernel) (by decide +kernel), lg_at 925 (by decide +kernel) (by decide +kernel), lg_at 1 (by decide +kernel) (by decide +kernel), lg_at 926 (by decide +kernel) (by decide +kernel)⟩, by decide +kernel, by decide +kernel, by decide +kernel⟩
theorem cV_L_104 : cV RL 104 yX12_both cX12_both 9 (some .int) 2 := ⟨⟨lg_at 1694 (by decide +kernel) (by decide +kernel), lg_at 1695 (by decide +kernel) (by decide +kernel), lg_at 1696 (by decide +kernel) (by decide +kernel), lg_at 15 (by decide +kernel) (by decide +kernel), lg_at 1697 (by decide +kernel) (by decide +kernel)⟩, by decide +kernel, by decide +kernel, by decide +kernel⟩
theorem cV_L_105 : cV RL 105 yX11_with cX11_with 3 (some .int) 2 := ⟨⟨lg_at 933 (by decide +kernel) (by decide +kernel), lg_at 934 (by decide +kernel) (by decide +kernel), lg_at 935 (by decide +kernel) (by decide +kernel), lg_at 1 (by decide +kernel) (by decide +kernel), lg_at 936 (by decide +kernel) (by decide +kernel)⟩, by decide +kernel, by decide +kernel, by decide +kernel⟩
theorem cV_L_108 : cV RL 108 yX12_with cX12_with 5 (some .int) 2 := ⟨⟨lg_at 1698 (by decide +kernel) (by decide +kernel), lg_at 1699 (by decide +kernel) (by decide +kernel), lg_at 1700 (by decide +kernel) (by decide +kernel), lg_at 15 (by decide +kernel) (by decide +kernel), lg_at 1701 (by decide +kernel) (by decide +kernel)⟩, by decide +kernel, by decide +kernel, by decide +kernel⟩
theorem cV_L_109 : cV RL 109 yX11_buy cX11_buy 7 (some .int) 2 := ⟨⟨lg_at 946 (by decide +kernel) (by decide +kernel), lg_at 947 (by decide +kernel) (by decide +kernel), lg_at 948 (by decide +kernel) (by decide +kernel), lg_at 1 (by decide +kernel) (by decide +kernel), lg_at 949 (by decide +kernel) (by decide +kernel)⟩, by decide +kernel, by decide +kernel, by decide +kernel⟩
theorem cV_L_112 : cV RL 112 yX12_buy cX12_buy 5 (some .int) 2 := ⟨⟨lg_at 1706 (by decide +kernel) (by decide +kernel), lg_at 1707 (by decide +kernel) (by decide +kernel), lg_at 1708 (by decide +kernel) (by decide +kernel), lg_at 15 (by decide +kernel) (by decide +kernel), lg_at 1709 (by decide +kernel) (by decide +kernel)⟩, by decide +kernel, by decide +kernel, by decide +kernel⟩
theorem cV_L_113 : cV RL 113 yX11_swap cX11_swap 8 (some .int) 2 := ⟨⟨lg_at 950 (by decide +kernel) (by decide +kernel), lg_at 951 (by decide +kernel) (by decide +kernel), lg_at 952 (by decide +kernel) (by decide +kernel), lg_at 1 (by decide +kernel) (by decide +kernel), lg_at 953 (by decide +kernel) (by decide +kernel)⟩, by decide +kernel, by decide +kernel, by decide +kernel⟩
theorem cV_L_116 : cV RL 116 yX12_swap cX12_swap 8 (some .int) 2 := ⟨⟨lg_at 1710 (by decide +kernel) (by decide +kernel), lg_at 1711 (by decide +kernel) (by decide +kernel), lg_at 1712 (by decide +kernel) (by decide +kernel), lg_at 15 (by decide +kernel) (by decide +kernel), lg_at 1713 (by decide +kernel) (by decide +kernel)⟩, by decide +kernel, by decide +kernel, by decide +kernel⟩
theorem cV_L_117 : cV RL 117 yX11_sure cX11_sure 3 (some .int) 2 := ⟨⟨lg_at 962 (by decide +kernel) (by decide +kernel), lg_at 963 (by decide +kernel) (by decide +kernel), lg_at 964 (by decide +kernel) (by decide +kernel), lg_at 1 (by decide +kernel) (by decide +kernel), lg_at 965 (by decide +kernel) (by decide +kernel)⟩, by decide +kernel, by decide +kernel, by decide +kernel⟩
theorem cV_L_120 : cV RL 120 yX12_sure cX12_sure 3 (some .int) 2 := ⟨⟨lg_at 1751 (by decide +kernel) (by decide +kernel), lg_at 1752 (by decide +kernel) (by decide +kernel), lg_at 1753 (by decide +kernel) (by decide +kernel), lg_at 15 (by decide +kernel) (by decide +kernel), lg_at 1754 (by decide +kernel) (by decide +kernel)⟩, by decide +kernel, by decide +kernel, by decide +kernel⟩
theorem cV_L_121 : cV RL 121 yX11_cover cX11_cover 4 (some .int) 2 := ⟨⟨lg_at 989 (by decide +kernel) (by decide +kernel), lg_at 990 (by decide +kernel) (by decide +kernel), lg_at 991 (by decide +kernel) (by decide +kernel), lg_at 1 (by decide +kernel) (by decide +kernel), lg_at 992 (by decide +kernel) (by decide +kernel)⟩, by decide +kernel, by decide +kernel, by decide +kernel⟩
theorem cV_L_124 : cV RL 124 yX12_cover cX12_cover 5 (some .int) 2 := ⟨⟨lg_at 1774 (by decide +kernel) (by decide +kernel), lg_at 1775 (by decide +kernel) (by decide +kernel), lg_at 1776 (by decide +kernel) (by decide +kernel), lg_at 15 (by decide +kernel) (by decide +kernel), lg_at 1777 (by decide +kernel) (by decide +kernel)⟩, by decide +kernel, by decide +kernel, by decide +kernel⟩
theorem cV_L_125 : cV RL 125 yX11_pepper cX11_pepper 2 (some .int) 1 := ⟨⟨lg_at 1003 (by decide +kernel) (by decide +kernel), lg_at 1004 (by decide +kernel) (by decide +kernel), lg_at 1005 (by decide +kernel) (by decide +kernel), lg_at 1 (by decide +kernel) (by decide +kernel), lg_at 1006 (by decide +kernel) (by decide +kernel)⟩, by decide +kernel, by decide +kernel, by decide +kernel⟩
theorem cV_L_128 : cV RL 128 yX12_pepper cX12_pepper 2 (some .int) 1 := ⟨⟨lg_at 1714 (by decide +kernel) (by decide +kernel), lg_at 1715 (by decide +kernel) (by decide +kernel), lg_at 1716 (by decide +kernel) (by decide +kernel), lg_at 15 (by decide +kernel) (by decide +kernel), lg_at 1717 (by decide +kernel) (by decide +kernel)⟩, by decide +kernel, by decide +kernel, by decide +kernel⟩
theorem cV_L_129 : cV RL 129 yX11_soothes cX11_soothes 2 (some .int) 1 := ⟨⟨lg_at 1012 (by decide +kernel) (by decide +kernel), lg_at 1013 (by decide +kernel) (by decide +kernel), lg_at 1014 (by decide +kernel) (by decide +kernel), lg_at 1 (by decide +kernel) (by decide +kernel), lg_at 1015 (by decide +kernel) (by decide +kernel)⟩, by decide +kernel, by decide +kernel, by decide +kernel⟩
theorem cV_L_132 : cV RL 132 yX12_soothes cX12_soothes 2 (some .int) 1 := ⟨⟨lg_at 1723 (by decide +kernel) (by decide +kernel), lg_at 1724 (by decide +kernel) (by decide +kernel), lg_at 1725 (by decide +kernel) (by decide +kernel), lg_at 15 (by decide +kernel) (by decide +kernel), lg_at 1726 (by decide +kernel) (by decide +kernel)⟩, by decide +kernel, by decide +kernel, by decide +kernel⟩
theorem cV_L_133 : cV RL 133 yX11_game cX11_game 10 (some .int) 3 := ⟨⟨lg_at 1016 (by decide +kernel) (by decide +kernel), lg_at 1017 (by decide +kernel) (by decide +kernel), lg_at 1018 (by decide +kernel) (by decide +kernel), lg_at 1 (by decide +kernel) (by decide +kernel), lg_at 1019 (by decide +kernel) (by decide +kernel)⟩, by decide +kernel, by decide +kernel, by decide +kernel⟩
theorem cV_L_136 : cV RL 136 yX12_game cX12_game 8 (some .int) 3 := ⟨⟨lg_at 1727 (by decide +kernel) (by decide +kernel), lg_at 1728 (by decide +kernel) (by decide +kernel), lg_at 1729 (by decide +kernel) (by decide +kernel), lg_at 15 (by decide +kernel) (by decide +kernel), lg_at 1730 (by decide +kernel) (by decide +kernel)⟩, by decide +kernel, by decide +kernel, by decide +kernel⟩
theorem cV_L_137 : cV RL 137 yX11_cure cX11_cure 4 (some .int) 0 := ⟨⟨lg_at 1032 (by decide +kernel) (by decide +kernel), lg_at 1033 (by decide +kernel) (by decide +kernel), lg_at 1034 (by decide +kernel) (by decide +kernel), lg_at 1 (by decide +kernel) (by decide +kernel), lg_at 1035 (by decide +kernel) (by decide +kernel)⟩, by decide +kernel, by decide +kernel, by decide +kernel⟩
theorem cV_L_140 : cV RL 140 yX12_cure cX12_cure 3 (some .int) 0 := ⟨⟨lg_at 1739 (by decide +kernel) (by decide +kernel), lg_at 1740 (by decide +kernel) (by decide +kernel), lg_at 1741 (by decide +kernel) (by decide +kernel), lg_at 15 (by decide +kernel) (by decide +kernel), lg_at 1742 (by decide +kernel) (by decide +kernel)⟩, by decide +kernel, by decide +kernel, by decide +kernel⟩
theorem cV_L_141 : cV RL 141 yX11_richest cX11_richest 6 (some .int) 1 := ⟨⟨lg_at 1042 (by decide +kernel) (by decide +kernel), lg_at 1043 (by decide +kernel) (by decide +kernel), lg_at 1044 (by decide +kernel) (by decide +kernel), lg_at 1 (by decide +kernel) (by decide +kernel), lg_at 1045 (by decide +kernel) (by decide +kernel)⟩, by decide +kernel, by decide +kernel, by decide +kernel⟩
theorem cV_L_144 : cV RL 144 yX12_richest cX12_richest 4 (some .int) 1 := ⟨⟨lg_at 1743 (by decide +kernel) (by decide +kernel), lg_at 1744 (by decide +kernel) (by decide +kernel), lg_at 1745 (by decide +kernel) (by decide +kernel), lg_at 15 (by decide +kernel) (by decide +kernel), lg_at 1746 (by decide +kernel) (by decide +kernel)⟩, by decide +kernel, by decide +kernel, by decide +kernel⟩
theorem cV_L_145 : cV RL 145 yX11_likely cX11_likely 6 (some .int) 1 := ⟨⟨lg_at 1046 (by decide +kernel) (by decide +kernel), lg_at 1047 (by decide +kernel) (by decide +kernel), lg_at 1048 (by decide +kernel) (by decide +kernel), lg_at 1 (by decide +kernel) (by decide +kernel), lg_at 1049 (by decide +kernel) (by decide +kernel)⟩, by decide +kernel, by decide +kernel, by decide +kernel⟩
theorem cV_L_148 : cV RL 148 yX12_likely cX12_likely 5 (some .int) 1 := ⟨⟨lg_at 1747 (by decide +kernel) (by decide +kernel), lg_at 1748 (by decide +kernel) (by decide +kernel), lg_at 1749 (by decide +kernel) (by decide +kernel), lg_at 15 (by decide +kernel) (by decide +kernel), lg_at 1750 (by decide +kernel) (by decide +kernel)⟩, by decide +kernel, by decide +kernel, by decide +kernel⟩
theorem cV_L_149 : cV RL 149 yX11_gains cX11_gains 3 (some .int) 2 := ⟨⟨lg_at 1050 (by decide +kernel) (by decide +kernel), lg_at 1051 (by decide +kernel) (by decide +kernel), lg_at 1052 (by decide +kernel) (by decide +kernel), lg_at 1 (by decide +kernel) (by decide +kernel), lg_at 1053 (by decide +kernel) (by decide +kernel)⟩, by decide +kernel, by decide +kernel, by decide +kernel⟩
theorem cV_L_152 : cV RL 152 yX12_gains cX12_gains 3 (some .int) 2 := ⟨⟨lg_at 1778 (by decide +kernel) (by decide +kernel), lg_at 1779 (by decide +kernel) (by decide +kernel), lg_at 1780 (by decide +kernel) (by decide +kernel), lg_at 15 (by decide +kernel) (by decide +kernel), lg_at 1781 (by decide +kernel) (by decide +kernel)⟩, by decide +kernel, by decide +kernel, by decide +kernel⟩
theorem cV_L_153 : cV RL 153 yX11_partsIn cX11_partsIn 2 (some .int) 1 := ⟨⟨lg_at 1064 (by decide +kernel) (by decide +kernel), lg_at 1065 (by decide +kernel) (by decide +kernel), lg_at 1066 (by decide +kernel) (by decide +kernel), lg_at 1 (by decide +kernel) (by decide +kernel), lg_at 1067 (by decide +kernel) (by decide +kernel)⟩, by decide +kernel, by decide +kernel, by decide +kernel⟩
theorem cV_L_156 : cV RL 156 yX12_partsIn cX12_partsIn 2 (some .int) 1 := ⟨⟨lg_at 1782 (by decide +kernel) (by decide +kernel), lg_at 1783 (by decide +kernel) (by decide +kernel), lg_at 1784 (by decide +kernel) (by decide +kernel), lg_at 15 (by decide +kernel) (by decide +kernel), lg_at 1785 (by decide +kernel) (by decide +kernel)⟩, by decide +kernel, by decide +kernel, by decide +kernel⟩
theorem cV_L_157 : cV RL 157 yX11_year cX11_year 6 (some .int) 3 := ⟨⟨lg_at 1068 (by decide +kernel) (by decide +kernel), lg_at 1069 (by decide +kernel) (by decide +kernel), lg_at 1070 (by decide +kernel) (by decide +kernel), lg_at 1 (by decide +kernel) (by decide +kernel), lg_at 1071 (by decide +kernel) (by decide +kernel)⟩, by decide +kernel, by decide +kernel, by decide +kernel⟩
theorem cV_L_160 : cV RL 160 yX12_year cX12_year 6 (some .int) 3 := ⟨⟨lg_at 1786 (by decide +kernel) (by decide +kernel), lg_at 1787 (by decide +kernel) (by decide +kernel), lg_at 1788 (by decide +kernel) (by decide +kernel), lg_at 15 (by decide +kernel) (by decide +kernel), lg_at 1789 (by decide +kernel) (by decide +kernel)⟩, by decide +kernel, by decide +kernel, by decide +kernel⟩
theorem cV_L_161 : cV RL 161 yX11_tell cX11_tell 4 (some .int) 3 := ⟨⟨lg_at 1072 (by decide +kernel) (by decide +kernel), lg_at 1073 (by decide +kernel) (by decide +kernel), lg_at 1074 (by decide +kernel) (by decide +kernel), lg_at 1 (by decide +kernel) (by decide +kernel), lg_at 1075 (by decide +kernel) (by decide +kernel)⟩, by decide +kernel, by decide +kernel, by decide +kernel⟩
theorem cV_L_165 : cV RL 165 yX12_tell cX12_tell 4 (some .int) 3 := ⟨⟨lg_at 1790 (by decide +kernel) (by decide +kernel), lg_at 1791 (by decide +kernel) (by decide +kernel), lg_at 1792 (by decide +kernel) (by decide +kernel), lg_at 15 (by decide +kernel) (by decide +kernel), lg_at 1793 (by decide +kernel) (by decide +kernel)⟩, by decide +kernel, by decide +kernel, by decide +kernel⟩
theorem cV_L_166 : cV RL 166 yX11_forget cX11_forget 2 (some .int) 0 := ⟨⟨lg_at 1080 (by decide +kernel) (by decide +kernel), lg_at 1081 (by decide +kernel) (by decide +kernel), lg_at 1082 (by decide +kernel) (by decide +kernel), lg_at 1 (by decide +kernel) (by decide +kernel), lg_at 1083 (by decide +kernel) (by decide +kernel)⟩, by decide +kernel, by decide +kernel, by decide +kernel⟩
theorem cV_L_169 : cV RL 169 yX12_forget cX12_forget 2 (some .int) 0 := ⟨⟨lg_at 1794 (by decide +kernel) (by decide +kernel), lg_at 1795 (by decide +kernel) (by decide +kernel), lg_at 1796 (by decide +kernel) (by decide +kernel), lg_at 15 (by decide +kernel) (by decide +kernel), lg_at 1797 (by decide +kernel) (by decide +kernel)⟩, by decide +kernel, by decide +kernel, by decide +kernel⟩
theorem cV_L_170 : cV RL 170 yX11_when cX11_when 3 (some .int) 2 := ⟨⟨lg_at 1084 (by decide +kernel) (by decide +kernel), lg_at 1085 (by decide +kernel) (by decide +kernel), lg_at 1086 (by decide +kernel) (by decide +kernel), lg_at 1 (by decide +kernel) (by decide +kernel), lg_at 1087 (by decide +kernel) (by decide +kernel)⟩, by decide +kernel, by decide +kernel, by decide +kernel⟩
theorem cV_L_173 : cV RL 173 yX12_when cX12_when 8 (some .int) 2 := ⟨⟨lg_at 1798 (by decide +kernel) (by decide +kernel), lg_at 1799 (by decide +kernel) (by decide +kernel), lg_at 1800 (by decide +kernel) (by decide +kernel), lg_at 15 (by decide +kernel) (by decide +kernel), lg_at 1801 (by decide +kernel) (by decide +kernel)⟩, by decide +kernel, by decide +kernel, by decide +kernel⟩
theorem cV_L_174 : cV RL 174 yX11_ask cX11_ask 2 (some .int) 1 := ⟨⟨lg_at 1104 (by decide +kernel) (by decide +kernel), lg_at 1105 (by decide +kernel) (by decide +kernel), lg_at 1106 (by decide +kernel) (by decide +kernel), lg_at 1 (by decide +kernel) (by decide +kernel), lg_at 1107 (by decide +kernel) (by decide +kernel)⟩, by decide +kernel, by decide +kernel, by decide +kernel⟩
theorem cV_L_177 : cV RL 177 yX12_ask cX12_ask 7 (some .int) 1 := ⟨⟨lg_at 1806 (by decide +kernel) (by decide +kernel), lg_at 1807 (by decide +kernel) (by decide +kernel), lg_at 1808 (by decide +kernel) (by decide +kernel), lg_at 15 (by decide +kernel) (by decide +kernel), lg_at 1809 (by decide +kernel) (by decide +kernel)⟩, by decide +kernel, by decide +kernel, by decide +kernel⟩
theorem cV_L_178 : cV RL 178 yX11_hold cX11_hold 2 (some .boolean) 1 := ⟨⟨lg_at 1113 (by decide +kernel) (by decide +kernel), lg_at 1114 (by decide +kernel) (by decide +kernel), lg_at 1115 (by decide +kernel) (by decide +kernel), lg_at 1 (by decide +kernel) (by decide +kernel), lg_at 1116 (by decide +kernel) (by decide +kernel)⟩, by decide +kernel, by decide +kernel, by decide +kernel⟩
theorem cV_L_182 : cV RL 182 yX12_hold cX12_hold 3 (some .boolean) 1 := ⟨⟨lg_at 1810 (by decide +kernel) (by decide +kernel), lg_at 1811 (by decide +kernel) (by decide +kernel), lg_at 1812 (by decide +kernel) (by decide +kernel), lg_at 15 (by decide +kernel) (by decide +kernel), lg_at 1813 (by decide +kernel) (by decide +kernel)⟩, by decide +kernel, by decide +kernel, by decide +kernel⟩
theorem cV_L_183 : cV RL 183 yX11_restore cX11_restore 2 (some .boolean) 1 := ⟨⟨lg_at 1122 (by decide +kernel) (by decide +kernel), lg_at 1123 (by decide +kernel) (by decide +kernel), lg_at 1124 (by decide +kernel) (by decide +kernel), lg_at 1 (by decide +kernel) (by decide +kernel), lg_at 1125 (by decide +kernel) (by decide +kernel)⟩, by decide +kernel, by decide +kernel, by decide +kernel⟩
theorem cV_L_186 : cV RL 186 yX12_restore cX12_restore 3 (some .boolean) 1 := ⟨⟨lg_at 1814 (by decide +kernel) (by decide +kernel), lg_at 1815 (by decide +kernel) (by decide +kernel), lg_at 1816 (by decide +kernel) (by decide +kernel), lg_at 15 (by decide +kernel) (by decide +kernel), lg_at 1817 (by decide +kernel) (by decide +kernel)⟩, by decide +kernel, by decide +kernel, by decide +kernel⟩
theorem cV_L_187 : cV RL 187 yX11_count cX11_count 2 (some .int) 1 := ⟨⟨lg_at 1130 (by decide +kernel) (by decide +kernel), lg_at 1131 (by decide +kernel) (by decide +kernel), lg_at 1132 (by decide +kernel) (by decide +kernel), lg_at 1 (by decide +kernel) (by decide +kernel), lg_at 1133 (by decide +kernel) (by decide +kernel)⟩, by decide +kernel, by decide +kernel, by decide +kernel⟩
theorem cV_L_190 : cV RL 190 yX12_count cX12_count 4 (some .int) 1 := ⟨⟨lg_at 1818 (by decide +kernel) (by decide +kernel), lg_at 1819 (by decide +kernel) (by decide +kernel), lg_at 1820 (by decide +kernel) (by decide +kernel), lg_at 15 (by decide +kernel) (by decide +kernel), lg_at 1821 (by decide +kernel) (by decide +kernel)⟩, by decide +kernel, by decide +kernel, by decide +kernel⟩
def St_0 (Rel : Nat → HS → HS → Prop) : Prop := ∀ (n : Nat) (σX σM : HS), n < 512 → Rel n σX σM → ∀ x1 x2 x3 x4 x5 : Int32, ∃ (r : Int32) (σX' σM' : HS), FX11_feed x1 x2 x3 x4 x5 σX = some (r, σX') ∧ FX12_feed x1 x2 x3 x4 x5 σM = some (r, σM') ∧ Rel (n + 1) σX' σM'
def St_1 (Rel : Nat → HS → HS → Prop) : Prop := ∀ (n : Nat) (σX σM : HS), n < 512 → Rel n σX σM → ∀ x1 : Int32, ∃ (r : Int32) (σX' σM' : HS), FX11_back x1 σX = some (r, σX') ∧ FX12_back x1 σM = some (r, σM') ∧ Rel (n + 1) σX' σM'
def St_2 (Rel : Nat → HS → HS → Prop) : Prop := ∀ (n : Nat) (σX σM : HS), n < 512 → Rel n σX σM → ∃ (r : Int32) (σX' σM' : HS), FX11_read σX = some (r, σX') ∧ FX12_read σM = some (r, σM') ∧ Rel (n + 1) σX' σM'
def St_3 (Rel : Nat → HS → HS → Prop) : Prop := ∀ (n : Nat) (σX σM : HS), n < 512 → Rel n σX σM → ∃ (r : Int32) (σX' σM' : HS), FX11_place σX = some (r, σX') ∧ FX12_place σM = some (r, σM') ∧ Rel (n + 1) σX' σM'
def St_4 (Rel : Nat → HS → HS → Prop) : Prop := ∀ (n : Nat) (σX σM : HS), n < 512 → Rel n σX σM → ∀ x1 x2 : Int32, ∃ (r : Int32) (σX' σM' : HS), FX11_minute x1 x2 σX = some (r, σX') ∧ FX12_minute x1 x2 σM = some (r, σM') ∧ Rel (n + 1) σX' σM'
def St_5 (Rel : Nat → HS → HS → Prop) : Prop := ∀ (n : Nat) (σX σM : HS), n < 512 → Rel n σX σM → ∀ x1 x2 : Int32, ∃ (r : Int32) (σX' σM' : HS), FX11_family x1 x2 σX = some (r, σX') ∧ FX12_family x1 x2 σM = some (r, σM') ∧ Rel (n + 1) σX' σM'
def St_6 (Rel : Nat → HS → HS → Prop) : Prop := ∀ (n : Nat) (σX σM : HS), n < 512 → Rel n σX σM → ∀ x1 : Int32, ∃ (r : Int32) (σX' σM' : HS), FX11_lease x1 σX = some (r, σX') ∧ FX12_lease x1 σM = some (r, σM') ∧ Rel (n + 1) σX' σM'
def St_7 (Rel : Nat → HS → HS → Prop) : Prop := ∀ (n : Nat) (σX σM : HS), n < 512 → Rel n σX σM → ∀ x1 x2 x3 : Int32, ∃ (r : Int32) (σX' σM' : HS), FX11_worth x1 x2 x3 σX = some (r, σX') ∧ FX12_worth x1 x2 x3 σM = some (r, σM') ∧ Rel (n + 1) σX' σM'
def St_8 (Rel : Nat → HS → HS → Prop) : Prop := ∀ (n : Nat) (σX σM : HS), n < 512 → Rel n σX σM → ∀ x1 x2 : Int32, ∃ (r : Int32) (σX' σM' : HS), FX11_change x1 x2 σX = some (r, σX') ∧ FX12_change x1 x2 σM = some (r, σM') ∧ Rel (n + 1) σX' σM'
def St_9 (Rel : Nat → HS → HS → Prop) : Prop := ∀ (n : Nat) (σX σM : HS), n < 512 → Rel n σX σM → ∀ x1 x2 : Int32, ∃ (r : Int32) (σX' σM' : HS), FX11_let x1 x2 σX = some (r, σX') ∧ FX12_let x1 x2 σM = some (r, σM') ∧ Rel (n + 1) σX' σM'
def St_10 (Rel : Nat → HS → HS → Prop) : Prop := ∀ (n : Nat) (σX σM : HS), n < 512 → Rel n σX σM → ∀ x1 : Int32, (x1 = 0 ∨ x1 = 1) → ∃ (r : Int32) (σX' σM' : HS), FX11_syrup x1 σX = some (r, σX') ∧ FX12_syrup x1 σM = some (r, σM') ∧ Rel (n + 1) σX' σM'
def St_11 (Rel : Nat → HS → HS → Prop) : Prop := ∀ (n : Nat) (σX σM : HS), n < 512 → Rel n σX σM → ∀ x1 : Int32, (x1 = 0 ∨ x1 = 1) → ∃ (r : Int32) (σX' σM' : HS), FX11_dust x1 σX = some (r, σX') ∧ FX12_dust x1 σM = some (r, σM') ∧ Rel (n + 1) σX' σM'
def St_12 (Rel : Nat → HS → HS → Prop) : Prop := ∀ (n : Nat) (σX σM : HS), n < 512 → Rel n σX σM → ∀ x1 : Int32, ∃ (r : Int32) (σX' σM' : HS), FX11_weeks x1 σX = some (r, σX') ∧ FX12_weeks x1 σM = some (r, σM') ∧ Rel (n + 1) σX' σM'
def St_13 (Rel : Nat → HS → HS → Prop) : Prop := ∀ (n : Nat) (σX σM : HS), n < 512 → Rel n σX σM → ∃ (r : Int32) (σX' σM' : HS), FX11_undo σX = some (r, σX') ∧ FX12_undo σM = some (r, σM') ∧ Rel (n + 1) σX' σM'
def St_14 (Rel : Nat → HS → HS → Prop) : Prop := ∀ (n : Nat) (σX σM : HS), n < 512 → Rel n σX σM → ∀ x1 : Int32, ∃ (r : Int32) (σX' σM' : HS), FX11_odds x1 σX = some (r, σX') ∧ FX12_odds x1 σM = some (r, σM') ∧ Rel (n + 1) σX' σM'
def St_15 (Rel : Nat → HS → HS → Prop) : Prop := ∀ (n : Nat) (σX σM : HS), n < 512 → Rel n σX σM → ∀ x1 x2 : Int32, ∃ (r : Int32) (σX' σM' : HS), FX11_falls x1 x2 σX = some (r, σX') ∧ FX12_falls x1 x2 σM = some (r, σM') ∧ Rel (n + 1) σX' σM'
def St_16 (Rel : Nat → HS → HS → Prop) : Prop := ∀ (n : Nat) (σX σM : HS), n < 512 → Rel n σX σM → ∀ x1 x2 : Int32, ∃ (r : Int32) (σX' σM' : HS), FX11_value x1 x2 σX = some (r, σX') ∧ FX12_value x1 x2 σM = some (r, σM') ∧ Rel (n + 1) σX' σM'
def St_17 (Rel : Nat → HS → HS → Prop) : Prop := ∀ (n : Nat) (σX σM : HS), n < 512 → Rel n σX σM → ∀ x1 : Int32, ∃ (r : Int32) (σX' σM' : HS), FX11_have x1 σX = some (r, σX') ∧ FX12_have x1 σM = some (r, σM') ∧ Rel (n + 1) σX' σM'
def St_18 (Rel : Nat → HS → HS → Prop) : Prop := ∀ (n : Nat) (σX σM : HS), n < 512 → Rel n σX σM → ∀ x1 x2 : Int32, ∃ (r : Int32) (σX' σM' : HS), FX11_mode x1 x2 σX = some (r, σX') ∧ FX12_mode x1 x2 σM = some (r, σM') ∧ Rel (n + 1) σX' σM'
def St_19 (Rel : Nat → HS → HS → Prop) : Prop := ∀ (n : Nat) (σX σM : HS), n < 512 → Rel n σX σM → ∃ (r : Int32) (σX' σM' : HS), FX11_mean σX = some (r, σX') ∧ FX12_mean σM = some (r, σM') ∧ Rel (n + 1) σX' σM'
def St_20 (Rel : Nat → HS → HS → Prop) : Prop := ∀ (n : Nat) (σX σM : HS), n < 512 → Rel n σX σM → ∀ x1 x2 : Int32, ∃ (r : Int32) (σX' σM' : HS), FX11_both x1 x2 σX = some (r, σX') ∧ FX12_both x1 x2 σM = some (r, σM') ∧ Rel (n + 1) σX' σM'
def St_21 (Rel : Nat → HS → HS → Prop) : Prop := ∀ (n : Nat) (σX σM : HS), n < 512 → Rel n σX σM → ∀ x1 x2 : Int32, ∃ (r : Int32) (σX' σM' : HS), FX11_with x1 x2 σX = some (r, σX') ∧ FX12_with x1 x2 σM = some (r, σM') ∧ Rel (n + 1) σX' σM'
def St_22 (Rel : Nat → HS → HS → Prop) : Prop := ∀ (n : Nat) (σX σM : HS), n < 512 → Rel n σX σM → ∀ x1 x2 : Int32, ∃ (r : Int32) (σX' σM' : HS), FX11_buy x1 x2 σX = some (r, σX') ∧ FX12_buy x1 x2 σM = some (r, σM') ∧ Rel (n + 1) σX' σM'
def St_23 (Rel : Nat → HS → HS → Prop) : Prop := ∀ (n : Nat) (σX σM : HS), n < 512 → Rel n σX σM → ∀ x1 x2 : Int32, ∃ (r : Int32) (σX' σM' : HS), FX11_swap x1 x2 σX = some (r, σX') ∧ FX12_swap x1 x2 σM = some (r, σM') ∧ Rel (n + 1) σX' σM'
def St_24 (Rel : Nat → HS → HS → Prop) : Prop := ∀ (n : Nat) (σX σM : HS), n < 512 → Rel n σX σM → ∀ x1 x2 : Int32, ∃ (r : Int32) (σX' σM' : HS), FX11_sure x1 x2 σX = some (r, σX') ∧ FX12_sure x1 x2 σM = some (r, σM') ∧ Rel (n + 1) σX' σM'
def St_25 (Rel : Nat → HS → HS → Prop) : Prop := ∀ (n : Nat) (σX σM : HS), n < 512 → Rel n σX σM → ∀ x1 x2 : Int32, ∃ (r : Int32) (σX' σM' : HS), FX11_cover x1 x2 σX = some (r, σX') ∧ FX12_cover x1 x2 σM = some (r, σM') ∧ Rel (n + 1) σX' σM'
def St_26 (Rel : Nat → HS → HS → Prop) : Prop := ∀ (n : Nat) (σX σM : HS), n < 512 → Rel n σX σM → ∀ x1 : Int32, ∃ (r : Int32) (σX' σM' : HS), FX11_pepper x1 σX = some (r, σX') ∧ FX12_pepper x1 σM = some (r, σM') ∧ Rel (n + 1) σX' σM'
def St_27 (Rel : Nat → HS → HS → Prop) : Prop := ∀ (n : Nat) (σX σM : HS), n < 512 → Rel n σX σM → ∀ x1 : Int32, ∃ (r : Int32) (σX' σM' : HS), FX11_soothes x1 σX = some (r, σX') ∧ FX12_soothes x1 σM = some (r, σM') ∧ Rel (n + 1) σX' σM'
def St_28 (Rel : Nat → HS → HS → Prop) : Prop := ∀ (n : Nat) (σX σM : HS), n < 512 → Rel n σX σM → ∀ x1 x2 x3 : Int32, ∃ (r : Int32) (σX' σM' : HS), FX11_game x1 x2 x3 σX = some (r, σX') ∧ FX12_game x1 x2 x3 σM = some (r, σM') ∧ Rel (n + 1) σX' σM'
def St_29 (Rel : Nat → HS → HS → Prop) : Prop := ∀ (n : Nat) (σX σM : HS), n < 512 → Rel n σX σM → ∃ (r : Int32) (σX' σM' : HS), FX11_cure σX = some (r, σX') ∧ FX12_cure σM = some (r, σM') ∧ Rel (n + 1) σX' σM'
def St_30 (Rel : Nat → HS → HS → Prop) : Prop := ∀ (n : Nat) (σX σM : HS), n < 512 → Rel n σX σM → ∀ x1 : Int32, ∃ (r : Int32) (σX' σM' : HS), FX11_richest x1 σX = some (r, σX') ∧ FX12_richest x1 σM = some (r, σM') ∧ Rel (n + 1) σX' σM'
def St_31 (Rel : Nat → HS → HS → Prop) : Prop := ∀ (n : Nat) (σX σM : HS), n < 512 → Rel n σX σM → ∀ x1 : Int32, ∃ (r : Int32) (σX' σM' : HS), FX11_likely x1 σX = some (r, σX') ∧ FX12_likely x1 σM = some (r, σM') ∧ Rel (n + 1) σX' σM'
def St_32 (Rel : Nat → HS → HS → Prop) : Prop := ∀ (n : Nat) (σX σM : HS), n < 512 → Rel n σX σM → ∀ x1 x2 : Int32, ∃ (r : Int32) (σX' σM' : HS), FX11_gains x1 x2 σX = some (r, σX') ∧ FX12_gains x1 x2 σM = some (r, σM') ∧ Rel (n + 1) σX' σM'
def St_33 (Rel : Nat → HS → HS → Prop) : Prop := ∀ (n : Nat) (σX σM : HS), n < 512 → Rel n σX σM → ∀ x1 : Int32, ∃ (r : Int32) (σX' σM' : HS), FX11_partsIn x1 σX = some (r, σX') ∧ FX12_partsIn x1 σM = some (r, σM') ∧ Rel (n + 1) σX' σM'
def St_34 (Rel : Nat → HS → HS → Prop) : Prop := ∀ (n : Nat) (σX σM : HS), n < 512 → Rel n σX σM → ∀ x1 x2 x3 : Int32, ∃ (r : Int32) (σX' σM' : HS), FX11_year x1 x2 x3 σX = some (r, σX') ∧ FX12_year x1 x2 x3 σM = some (r, σM') ∧ Rel (n + 1) σX' σM'
def St_35 (Rel : Nat → HS → HS → Prop) : Prop := ∀ (n : Nat) (σX σM : HS), n < 512 → Rel n σX σM → ∀ x1 x2 x3 : Int32, (x3 = 0 ∨ x3 = 1) → ∃ (r : Int32) (σX' σM' : HS), FX11_tell x1 x2 x3 σX = some (r, σX') ∧ FX12_tell x1 x2 x3 σM = some (r, σM') ∧ Rel (n + 1) σX' σM'
def St_36 (Rel : Nat → HS → HS → Prop) : Prop := ∀ (n : Nat) (σX σM : HS), n < 512 → Rel n σX σM → ∃ (r : Int32) (σX' σM' : HS), FX11_forget σX = some (r, σX') ∧ FX12_forget σM = some (r, σM') ∧ Rel (n + 1) σX' σM'
def St_37 (Rel : Nat → HS → HS → Prop) : Prop := ∀ (n : Nat) (σX σM : HS), n < 512 → Rel n σX σM → ∀ x1 x2 : Int32, ∃ (r : Int32) (σX' σM' : HS), FX11_when x1 x2 σX = some (r, σX') ∧ FX12_when x1 x2 σM = some (r, σM') ∧ Rel (n + 1) σX' σM'
def St_38 (Rel : Nat → HS → HS → Prop) : Prop := ∀ (n : Nat) (σX σM : HS), n < 512 → Rel n σX σM → ∀ x1 : Int32, ∃ (r : Int32) (σX' σM' : HS), FX11_ask x1 σX = some (r, σX') ∧ FX12_ask x1 σM = some (r, σM') ∧ Rel (n + 1) σX' σM'
def St_39 (Rel : Nat → HS → HS → Prop) : Prop := ∀ (n : Nat) (σX σM : HS), n < 512 → Rel n σX σM → ∀ x1 : Int32, ∃ (r : Int32) (σX' σM' : HS), FX11_hold x1 σX = some (r, σX') ∧ FX12_hold x1 σM = some (r, σM') ∧ Rel (n + 1) σX' σM'
def St_40 (Rel : Nat → HS → HS → Prop) : Prop := ∀ (n : Nat) (σX σM : HS), n < 512 → Rel n σX σM → ∀ x1 : Int32, ∃ (r : Int32) (σX' σM' : HS), FX11_restore x1 σX = some (r, σX') ∧ FX12_restore x1 σM = some (r, σM') ∧ Rel (n + 1) σX' σM'
def St_41 (Rel : Nat → HS → HS → Prop) : Prop := ∀ (n : Nat) (σX σM : HS), n < 512 → Rel n σX σM → ∀ x1 : Int32, ∃ (r : Int32) (σX' σM' : HS), FX11_count x1 σX = some (r, σX') ∧ FX12_count x1 σM = some (r, σM') ∧ Rel (n + 1) σX' σM'
def LC (D : va_G) (κ : KC) (adX adM : Nat → Nat) (p : Program) (s : State) (m : MethodId) (meth : Method) (c : Code) (b L : Nat) (xs : Nat → Int32) : Prop :=
  p.tables.exec = Jvm.exec ∧ c.code = code ∧ c.maxLocals = 4 ∧ s.vm.findClass RL = some m.cls ∧ (∀ w ∈ lg_tbl, w.before #[Value.ref b] s = true) ∧ va_K D classes (tyL κ) s ∧ (inj 50 adX ∧ inj 45 adM) ∧ (Zx adX (AX 50 adX) s ∧ Zx adM (AX 45 adM) s) ∧ ((∀ q, AX 50 adX q → s.heap.size ≤ q) ∧ ∀ q, AX 45 adM q → s.heap.size ≤ q) ∧ ((∀ i, i < 45 → ¬ AX 50 adX (adM i)) ∧ ∀ i, i < 50 → ¬ AX 45 adM (adX i)) ∧ va_X b L xs s s.heap ∧ b < s.heap.size ∧ meth.sig.returnType = ret ∧ meth.locks = false
def Lw (D : va_G) (κ : KC) (adX adM : Nat → Nat) (s : State) (σX σM : HS) (H : Heap) (locs : List Loc) : Prop := va_P D classes (wG 50 ceX adX κ σX) H ∧ va_P D classes (wG 45 ceM adM κ σM) H ∧ va_S (fun q => s.heap.size ≤ q) s.heap H locs
section
variable {p : Program} {l : Launch} {e : Env} {s : State} {m : MethodId} {below : List Frame} {meth : Method} {c : Code} {H : Heap} {locs : List Loc} {Q : State → Prop}
variable {D : va_G} {adX adM : Nat → Nat} {κ : KC} {b L : Nat} {xs : Nat → Int32} {pc : Nat} {ls : Array Slot} {rest : List Value} {σX σM : HS}
set_option maxHeartbeats 4000000 in
set_option maxRecDepth 100000 in
theorem lw_callX {y : MethodName} {bytes : ByteArray} {maxL index k : Nat} {rt : Option FieldType} {rm : Room} {As : List Value} {r : Int32} {τ : HS} {T : u_T} {N : Nat} (C : LC D κ adX adM p s m meth c b L xs) (hW : Lw D κ adX adM s σX σM H locs) (hls : ls.size = 4) (cv : cV RL index y bytes maxL rt k) (hc : classes[11]? = some (y.cls, T, N))
    (hM : MtI l 50 ceX D adX κ y bytes maxL rt rm (.ref (adX 0) :: As) σX (r, τ)) (hr0 : rm.cells = 0 ∧ rm.slots = 0) (hR : rm.frames + 1 ≤ room_1.frames ∧ 8 + (maxL + 11) + rm.locals ≤ room_1.locals) (hk : As.length = k) {st : List Value} (hst : st = As.reverse ++ .ref (adX 0) :: rest) (hrm : (rest.map fun v => v.category).sum ≤ 8) (hdg : decode code pc = .ok (.invokevirtual index, 3))
    (kk : ∀ (H1 : Heap) (locs1 : List Loc), Lw D κ adX adM s τ σM H1 locs1 → W p l e room_1 s m #[Value.ref b] below meth c H1 locs1 95 19212 Q (F0 m (pc + 3) ls (.int r :: rest))) : W p l e room_1 s m #[Value.ref b] below meth c H locs 95 19212 Q (F0 m pc ls st) := by
  obtain ⟨hx, hb, hml, hown, hts, hK, hi, hZ, hA, hne, hX, hbl, hr, hlk⟩ := C
  obtain ⟨⟨l1, l2, l3, l4, l5⟩, l6⟩ := cv
  have hpre : ∀ U : State, U.heap = H → s.WarmedH U.vm → Pre 50 ceX D adX κ σX U := fun U hU hw => ⟨by rw [hU]; exact hW.1, va_K.moved hw.alike hK, hi.1, hZ.1.go hw (fun a h1 _ => by rw [hU]; exact hW.2.2.2.1 a h1 (Nat.not_le.mpr h1))⟩
  have hrun : va_Run p l e room_1 s m #[Value.ref b] below meth c H locs 95 19212 0 0 (F0 m pc ls st) rest (QI 50 ceX D adX κ (r, τ) (Value.ref (adX 0) :: As).toArray) (AX 50 adX) :=
    va_runV (Ts := lg_tbl) (ws := Cond.code y bytes maxL rt :: lg_tbl) (rm := rm) (C := y.cls) ⟨hx, hb, hml, hown, hts⟩ hM ⟨callB_of k hts (lg_code l5) rfl hr0.1 hr0.2 (hts _ l4) (hts _ l1) l6 hR, hts _ l2, hts _ l3⟩
      ⟨Pre.blind, va_recv hK hW.1 hc (show (wG 50 ceX adX κ σX)[0]? = some (adX 0, .inr (11, _)) by rw [wG_at (by decide)]; rfl), fun U hU hw => ⟨rfl, hpre U hU hw⟩⟩ rfl hk hls hst (lv_room hrm) hdg ⟨Nat.le_of_ble_eq_true rfl, Nat.le_of_ble_eq_true rfl⟩
  refine va_calli hrun hW.2.2 (fun q _ h => hA.1 q h) (fun q h => hA.1 q h) (fun r' _ t H1 locs1 ht _ hp hb' _ hk1 hS1 => ?_)
  subst hp
  have hP1 : va_P D classes (wG 50 ceX adX κ τ) H1 := by rw [← ht]; exact hb'
  have hQ1 : va_P D classes (wG 45 ceM adM κ σM) H1 := hW.2.1.kept (fun k q hq => hk1 q.1 ((hW.2.1 k q hq).lt) (by rw [(wG_get hq).2]; exact hne.1 k (wG_get hq).1))
  exact kk H1 locs1 ⟨hP1, hQ1, hS1⟩
set_option maxHeartbeats 4000000 in
set_option maxRecDepth 100000 in
theorem lw_callM {y : MethodName} {bytes : ByteArray} {maxL index k : Nat} {rt : Option FieldType} {rm : Room} {As : List Value} {r : Int32} {τ : HS} {T : u_T} {N : Nat} (C : LC D κ adX adM p s m meth c b L xs) (hW : Lw D κ adX adM s σX σM H locs) (hls : ls.size = 4) (cv : cV RL index y bytes maxL rt k) (hc : classes[12]? = some (y.cls, T, N))
    (hM : MtI l 45 ceM D adM κ y bytes maxL rt rm (.ref (adM 0) :: As) σM (r, τ)) (hr0 : rm.cells = 0 ∧ rm.slots = 0) (hR : rm.frames + 1 ≤ room_1.frames ∧ 8 + (maxL + 11) + rm.locals ≤ room_1.locals) (hk : As.length = k) {st : List Value} (hst : st = As.reverse ++ .ref (adM 0) :: rest) (hrm : (rest.map fun v => v.category).sum ≤ 8) (hdg : decode code pc = .ok (.invokevirtual index, 3))
    (kk : ∀ (H1 : Heap) (locs1 : List Loc), Lw D κ adX adM s σX τ H1 locs1 → W p l e room_1 s m #[Value.ref b] below meth c H1 locs1 95 19212 Q (F0 m (pc + 3) ls (.int r :: rest))) : W p l e room_1 s m #[Value.ref b] below meth c H locs 95 19212 Q (F0 m pc ls st) := by
  obtain ⟨hx, hb, hml, hown, hts, hK, hi, hZ, hA, hne, hX, hbl, hr, hlk⟩ := C
  obtain ⟨⟨l1, l2, l3, l4, l5⟩, l6⟩ := cv
  have hpre : ∀ U : State, U.heap = H → s.WarmedH U.vm → Pre 45 ceM D adM κ σM U := fun U hU hw => ⟨by rw [hU]; exact hW.2.1, va_K.moved hw.alike hK, hi.2, hZ.2.go hw (fun a h1 _ => by rw [hU]; exact hW.2.2.2.1 a h1 (Nat.not_le.mpr h1))⟩
  have hrun : va_Run p l e room_1 s m #[Value.ref b] below meth c H locs 95 19212 0 0 (F0 m pc ls st) rest (QI 45 ceM D adM κ (r, τ) (Value.ref (adM 0) :: As).toArray) (AX 45 adM) :=
    va_runV (Ts := lg_tbl) (ws := Cond.code y bytes maxL rt :: lg_tbl) (rm := rm) (C := y.cls) ⟨hx, hb, hml, hown, hts⟩ hM ⟨callB_of k hts (lg_code l5) rfl hr0.1 hr0.2 (hts _ l4) (hts _ l1) l6 hR, hts _ l2, hts _ l3⟩
      ⟨Pre.blind, va_recv hK hW.2.1 hc (show (wG 45 ceM adM κ σM)[0]? = some (adM 0, .inr (12, _)) by rw [wG_at (by decide)]; rfl), fun U hU hw => ⟨rfl, hpre U hU hw⟩⟩ rfl hk hls hst (lv_room hrm) hdg ⟨Nat.le_of_ble_eq_true rfl, Nat.le_of_ble_eq_true rfl⟩
  refine va_calli hrun hW.2.2 (fun q _ h => hA.2 q h) (fun q h => hA.2 q h) (fun r' _ t H1 locs1 ht _ hp hb' _ hk1 hS1 => ?_)
  subst hp
  have hP1 : va_P D classes (wG 45 ceM adM κ τ) H1 := by rw [← ht]; exact hb'
  have hQ1 : va_P D classes (wG 50 ceX adX κ σX) H1 := hW.1.kept (fun k q hq => hk1 q.1 ((hW.1 k q hq).lt) (by rw [(wG_get hq).2]; exact hne.2 k (wG_get hq).1))
  exact kk H1 locs1 ⟨hQ1, hP1, hS1⟩
theorem lw_in {i L : Nat} (h : i + 6 ≤ L) (hL : L ≤ 3072) (k : Nat) (hk : k < 6) : vp_in (nI i + nI k) L := by
  rw [nI_add]
  exact vp_in_nI (by omega) (by omega)
theorem lw_end {i L : Nat} (hi : i ≤ 3100) (hL : L ≤ 3072) : Int32.ofNat L - 6 < nI i ↔ L < i + 6 := by
  have h1 : (nI L - nI 6).toInt = (L : Int) - 6 := pk_sub_toInt (by omega) (by omega)
  have h2 : (nI i).toInt = (i : Int) := nI_toInt (by omega)
  have h3 : (Int32.ofNat L - 6 < nI i) ↔ (nI L - nI 6).toInt < (nI i).toInt := Int32.lt_iff_toInt_lt
  rw [h3, h1, h2]
  omega
set_option maxHeartbeats 4000000 in
set_option maxRecDepth 100000 in
theorem law_next {Rel : Nat → HS → HS → Prop} {i n : Nat} (C : LC D κ adX adM p s m meth c b L xs) (hW : Lw D κ adX adM s σX σM H locs) (ih : ∀ (σX σM : HS) (H : Heap) (locs : List Loc) (ls : Array Slot), Rel (n + 1) σX σM → Lw D κ adX adM s σX σM H locs → lv_has ls 4 [(0, .ref b), (1, .ref (adX 0)), (2, .ref (adM 0)), (3, .int (nI (i + 6)))] → W p l e room_1 s m #[Value.ref b] below meth c H locs 95 19212 (lw_Z below #[Value.ref b] s) (F0 m 18 ls [])) (hR : Rel (n + 1) σX σM) (hl : lv_has ls 4 [(0, .ref b), (1, .ref (adX 0)), (2, .ref (adM 0)), (3, .int (nI i))]) : W p l e room_1 s m #[Value.ref b] below meth c H locs 95 19212 (lw_Z below #[Value.ref b] s) (F0 m 1440 ls []) := by
  have hx := C.1
  have hb := C.2.1
  refine lv_iinc (v := nI (i + 6)) (lv' := [(3, .int (nI (i + 6))), (0, .ref b), (1, .ref (adX 0)), (2, .ref (adM 0))]) hx hb dL_law_1440 hl (k := 3) rfl (nI_add i 6) (by decide) rfl (fun ls hl => ?_)
  refine lv_goto (tgt := 18) hx hb dL_law_1443 (by decide) ?_
  exact ih _ _ _ _ _ hR hW (lv_sub hl [1, 2, 3, 0] rfl)
set_option maxHeartbeats 4000000 in
set_option maxRecDepth 100000 in
theorem law_c0 {Rel : Nat → HS → HS → Prop} {i n : Nat} (S : St_0 Rel) (C : LC D κ adX adM p s m meth c b L xs) (hi : i + 6 ≤ L) (hL : L ≤ 3072) (hn : n < 512) (ih : ∀ (σX σM : HS) (H : Heap) (locs : List Loc) (ls : Array Slot), Rel (n + 1) σX σM → Lw D κ adX adM s σX σM H locs → lv_has ls 4 [(0, .ref b), (1, .ref (adX 0)), (2, .ref (adM 0)), (3, .int (nI (i + 6)))] → W p l e room_1 s m #[Value.ref b] below meth c H locs 95 19212 (lw_Z below #[Value.ref b] s) (F0 m 18 ls [])) (hR : Rel n σX σM) (hW : Lw D κ adX adM s σX σM H locs) (hl : lv_has ls 4 [(0, .ref b), (1, .ref (adX 0)), (2, .ref (adM 0)), (3, .int (nI i))]) : W p l e room_1 s m #[Value.ref b] below meth c H locs 95 19212 (lw_Z below #[Value.ref b] s) (F0 m 216 ls []) := by
  have hx := C.1
  have hb := C.2.1
  have hXs := C.2.2.2.2.2.2.2.2.2.2.1
  have hbl := C.2.2.2.2.2.2.2.2.2.2.2.1
  obtain ⟨r, σX1, σM1, hfX, hfM, hR1⟩ := S n σX σM hn hR (xs (nI i + 1).toNatClampNeg) (xs (nI i + 2).toNatClampNeg) (xs (nI i + 3).toNatClampNeg) (xs (nI i + 4).toNatClampNeg) (xs (nI i + 5).toNatClampNeg)
  refine lv_aload_n hx hb dL_law_216 rfl (lv_at hl 1 rfl) ?_
  refine lv_aload_n hx hb dL_law_217 rfl (lv_at hl 0 rfl) ?_
  refine lv_iload_n hx hb dL_law_218 rfl (lv_at hl 3 rfl) ?_
  refine lv_iconst (v := 1) hx hb dL_law_219 (by decide) ?_
  refine lv_iadd hx hb dL_law_220 ?_
  refine va_sld hx hb hXs hbl (Nat.not_le.mpr hbl) hW.2.2 (lw_in hi hL 1 (by decide)) dL_law_221 ?_
  refine lv_aload_n hx hb dL_law_222 rfl (lv_at hl 0 rfl) ?_
  refine lv_iload_n hx hb dL_law_223 rfl (lv_at hl 3 rfl) ?_
  refine lv_iconst (v := 2) hx hb dL_law_224 (by decide) ?_
  refine lv_iadd hx hb dL_law_225 ?_
  refine va_sld hx hb hXs hbl (Nat.not_le.mpr hbl) hW.2.2 (lw_in hi hL 2 (by decide)) dL_law_226 ?_
  refine lv_aload_n hx hb dL_law_227 rfl (lv_at hl 0 rfl) ?_
  refine lv_iload_n hx hb dL_law_228 rfl (lv_at hl 3 rfl) ?_
  refine lv_iconst (v := 3) hx hb dL_law_229 (by decide) ?_
  refine lv_iadd hx hb dL_law_230 ?_
  refine va_sld hx hb hXs hbl (Nat.not_le.mpr hbl) hW.2.2 (lw_in hi hL 3 (by decide)) dL_law_231 ?_
  refine lv_aload_n hx hb dL_law_232 rfl (lv_at hl 0 rfl) ?_
  refine lv_iload_n hx hb dL_law_233 rfl (lv_at hl 3 rfl) ?_
  refine lv_iconst (v := 4) hx hb dL_law_234 (by decide) ?_
  refine lv_iadd hx hb dL_law_235 ?_
  refine va_sld hx hb hXs hbl (Nat.not_le.mpr hbl) hW.2.2 (lw_in hi hL 4 (by decide)) dL_law_236 ?_
  refine lv_aload_n hx hb dL_law_237 rfl (lv_at hl 0 rfl) ?_
  refine lv_iload_n hx hb dL_law_238 rfl (lv_at hl 3 rfl) ?_
  refine lv_iconst (v := 5) hx hb dL_law_239 (by decide) ?_
  refine lv_iadd hx hb dL_law_240 ?_
  refine va_sld hx hb hXs hbl (Nat.not_le.mpr hbl) hW.2.2 (lw_in hi hL 5 (by decide)) dL_law_241 ?_
  refine lw_callX (rest := []) C hW hl.1 cV_L_13 rfl (kX11_feed l D adX κ hfX) ⟨rfl, rfl⟩ ⟨(Nat.le_of_ble_eq_true rfl), (Nat.le_of_ble_eq_true rfl)⟩ rfl rfl (Nat.le_of_ble_eq_true rfl) dL_law_242 (fun H locs hW => ?_)
  refine lv_aload_n hx hb dL_law_245 rfl (lv_at hl 2 rfl) ?_
  refine lv_aload_n hx hb dL_law_246 rfl (lv_at hl 0 rfl) ?_
  refine lv_iload_n hx hb dL_law_247 rfl (lv_at hl 3 rfl) ?_
  refine lv_iconst (v := 1) hx hb dL_law_248 (by decide) ?_
  refine lv_iadd hx hb dL_law_249 ?_
  refine va_sld hx hb hXs hbl (Nat.not_le.mpr hbl) hW.2.2 (lw_in hi hL 1 (by decide)) dL_law_250 ?_
  refine lv_aload_n hx hb dL_law_251 rfl (lv_at hl 0 rfl) ?_
  refine lv_iload_n hx hb dL_law_252 rfl (lv_at hl 3 rfl) ?_
  refine lv_iconst (v := 2) hx hb dL_law_253 (by decide) ?_
  refine lv_iadd hx hb dL_law_254 ?_
  refine va_sld hx hb hXs hbl (Nat.not_le.mpr hbl) hW.2.2 (lw_in hi hL 2 (by decide)) dL_law_255 ?_
  refine lv_aload_n hx hb dL_law_256 rfl (lv_at hl 0 rfl) ?_
  refine lv_iload_n hx hb dL_law_257 rfl (lv_at hl 3 rfl) ?_
  refine lv_iconst (v := 3) hx hb dL_law_258 (by decide) ?_
  refine lv_iadd hx hb dL_law_259 ?_
  refine va_sld hx hb hXs hbl (Nat.not_le.mpr hbl) hW.2.2 (lw_in hi hL 3 (by decide)) dL_law_260 ?_
  refine lv_aload_n hx hb dL_law_261 rfl (lv_at hl 0 rfl) ?_
  refine lv_iload_n hx hb dL_law_262 rfl (lv_at hl 3 rfl) ?_
  refine lv_iconst (v := 4) hx hb dL_law_263 (by decide) ?_
  refine lv_iadd hx hb dL_law_264 ?_
  refine va_sld hx hb hXs hbl (Nat.not_le.mpr hbl) hW.2.2 (lw_in hi hL 4 (by decide)) dL_law_265 ?_
  refine lv_aload_n hx hb dL_law_266 rfl (lv_at hl 0 rfl) ?_
  refine lv_iload_n hx hb dL_law_267 rfl (lv_at hl 3 rfl) ?_
  refine lv_iconst (v := 5) hx hb dL_law_268 (by decide) ?_
  refine lv_iadd hx hb dL_law_269 ?_
  refine va_sld hx hb hXs hbl (Nat.not_le.mpr hbl) hW.2.2 (lw_in hi hL 5 (by decide)) dL_law_270 ?_
  refine lw_callM (rest := [.int r]) C hW hl.1 cV_L_17 rfl (kX12_feed l D adM κ hfM) ⟨rfl, rfl⟩ ⟨(Nat.le_of_ble_eq_true rfl), (Nat.le_of_ble_eq_true rfl)⟩ rfl rfl (Nat.le_of_ble_eq_true rfl) dL_law_271 (fun H locs hW => ?_)
  refine lv_icmp_eq (tgt := 1440) hx hb dL_law_274 (by decide) (fun _ => ?_) (fun hc => absurd rfl hc)
  exact law_next C hW ih hR1 hl
set_option maxHeartbeats 4000000 in
set_option maxRecDepth 100000 in
theorem law_c1 {Rel : Nat → HS → HS → Prop} {i n : Nat} (S : St_1 Rel) (C : LC D κ adX adM p s m meth c b L xs) (hi : i + 6 ≤ L) (hL : L ≤ 3072) (hn : n < 512) (ih : ∀ (σX σM : HS) (H : Heap) (locs : List Loc) (ls : Array Slot), Rel (n + 1) σX σM → Lw D κ adX adM s σX σM H locs → lv_has ls 4 [(0, .ref b), (1, .ref (adX 0)), (2, .ref (adM 0)), (3, .int (nI (i + 6)))] → W p l e room_1 s m #[Value.ref b] below meth c H locs 95 19212 (lw_Z below #[Value.ref b] s) (F0 m 18 ls [])) (hR : Rel n σX σM) (hW : Lw D κ adX adM s σX σM H locs) (hl : lv_has ls 4 [(0, .ref b), (1, .ref (adX 0)), (2, .ref (adM 0)), (3, .int (nI i))]) : W p l e room_1 s m #[Value.ref b] below meth c H locs 95 19212 (lw_Z below #[Value.ref b] s) (F0 m 279 ls []) := by
  have hx := C.1
  have hb := C.2.1
  have hXs := C.2.2.2.2.2.2.2.2.2.2.1
  have hbl := C.2.2.2.2.2.2.2.2.2.2.2.1
  obtain ⟨r, σX1, σM1, hfX, hfM, hR1⟩ := S n σX σM hn hR (xs (nI i + 1).toNatClampNeg)
  refine lv_aload_n hx hb dL_law_279 rfl (lv_at hl 1 rfl) ?_
  refine lv_aload_n hx hb dL_law_280 rfl (lv_at hl 0 rfl) ?_
  refine lv_iload_n hx hb dL_law_281 rfl (lv_at hl 3 rfl) ?_
  refine lv_iconst (v := 1) hx hb dL_law_282 (by decide) ?_
  refine lv_iadd hx hb dL_law_283 ?_
  refine va_sld hx hb hXs hbl (Nat.not_le.mpr hbl) hW.2.2 (lw_in hi hL 1 (by decide)) dL_law_284 ?_
  refine lw_callX (rest := []) C hW hl.1 cV_L_18 rfl (kX11_back l D adX κ hfX) ⟨rfl, rfl⟩ ⟨(Nat.le_of_ble_eq_true rfl), (Nat.le_of_ble_eq_true rfl)⟩ rfl rfl (Nat.le_of_ble_eq_true rfl) dL_law_285 (fun H locs hW => ?_)
  refine lv_aload_n hx hb dL_law_288 rfl (lv_at hl 2 rfl) ?_
  refine lv_aload_n hx hb dL_law_289 rfl (lv_at hl 0 rfl) ?_
  refine lv_iload_n hx hb dL_law_290 rfl (lv_at hl 3 rfl) ?_
  refine lv_iconst (v := 1) hx hb dL_law_291 (by decide) ?_
  refine lv_iadd hx hb dL_law_292 ?_
  refine va_sld hx hb hXs hbl (Nat.not_le.mpr hbl) hW.2.2 (lw_in hi hL 1 (by decide)) dL_law_293 ?_
  refine lw_callM (rest := [.int r]) C hW hl.1 cV_L_22 rfl (kX12_back l D adM κ hfM) ⟨rfl, rfl⟩ ⟨(Nat.le_of_ble_eq_true rfl), (Nat.le_of_ble_eq_true rfl)⟩ rfl rfl (Nat.le_of_ble_eq_true rfl) dL_law_294 (fun H locs hW => ?_)
  refine lv_icmp_eq (tgt := 1440) hx hb dL_law_297 (by decide) (fun _ => ?_) (fun hc => absurd rfl hc)
  exact law_next C hW ih hR1 hl
set_option maxHeartbeats 4000000 in
set_option maxRecDepth 100000 in
theorem law_c2 {Rel : Nat → HS → HS → Prop} {i n : Nat} (S : St_2 Rel) (C : LC D κ adX adM p s m meth c b L xs) (hi : i + 6 ≤ L) (hL : L ≤ 3072) (hn : n < 512) (ih : ∀ (σX σM : HS) (H : Heap) (locs : List Loc) (ls : Array Slot), Rel (n + 1) σX σM → Lw D κ adX adM s σX σM H locs → lv_has ls 4 [(0, .ref b), (1, .ref (adX 0)), (2, .ref (adM 0)), (3, .int (nI (i + 6)))] → W p l e room_1 s m #[Value.ref b] below meth c H locs 95 19212 (lw_Z below #[Value.ref b] s) (F0 m 18 ls [])) (hR : Rel n σX σM) (hW : Lw D κ adX adM s σX σM H locs) (hl : lv_has ls 4 [(0, .ref b), (1, .ref (adX 0)), (2, .ref (adM 0)), (3, .int (nI i))]) : W p l e room_1 s m #[Value.ref b] below meth c H locs 95 19212 (lw_Z below #[Value.ref b] s) (F0 m 302 ls []) := by
  have hx := C.1
  have hb := C.2.1
  have hXs := C.2.2.2.2.2.2.2.2.2.2.1
  have hbl := C.2.2.2.2.2.2.2.2.2.2.2.1
  obtain ⟨r, σX1, σM1, hfX, hfM, hR1⟩ := S n σX σM hn hR 
  refine lv_aload_n hx hb dL_law_302 rfl (lv_at hl 1 rfl) ?_
  refine lw_callX (rest := []) C hW hl.1 cV_L_23 rfl (kX11_read l D adX κ hfX) ⟨rfl, rfl⟩ ⟨(Nat.le_of_ble_eq_true rfl), (Nat.le_of_ble_eq_true rfl)⟩ rfl rfl (Nat.le_of_ble_eq_true rfl) dL_law_303 (fun H locs hW => ?_)
  refine lv_aload_n hx hb dL_law_306 rfl (lv_at hl 2 rfl) ?_
  refine lw_callM (rest := [.int r]) C hW hl.1 cV_L_27 rfl (kX12_read l D adM κ hfM) ⟨rfl, rfl⟩ ⟨(Nat.le_of_ble_eq_true rfl), (Nat.le_of_ble_eq_true rfl)⟩ rfl rfl (Nat.le_of_ble_eq_true rfl) dL_law_307 (fun H locs hW => ?_)
  refine lv_icmp_eq (tgt := 1440) hx hb dL_law_310 (by decide) (fun _ => ?_) (fun hc => absurd rfl hc)
  exact law_next C hW ih hR1 hl
set_option maxHeartbeats 4000000 in
set_option maxRecDepth 100000 in
theorem law_c3 {Rel : Nat → HS → HS → Prop} {i n : Nat} (S : St_3 Rel) (C : LC D κ adX adM p s m meth c b L xs) (hi : i + 6 ≤ L) (hL : L ≤ 3072) (hn : n < 512) (ih : ∀ (σX σM : HS) (H : Heap) (locs : List Loc) (ls : Array Slot), Rel (n + 1) σX σM → Lw D κ adX adM s σX σM H locs → lv_has ls 4 [(0, .ref b), (1, .ref (adX 0)), (2, .ref (adM 0)), (3, .int (nI (i + 6)))] → W p l e room_1 s m #[Value.ref b] below meth c H locs 95 19212 (lw_Z below #[Value.ref b] s) (F0 m 18 ls [])) (hR : Rel n σX σM) (hW : Lw D κ adX adM s σX σM H locs) (hl : lv_has ls 4 [(0, .ref b), (1, .ref (adX 0)), (2, .ref (adM 0)), (3, .int (nI i))]) : W p l e room_1 s m #[Value.ref b] below meth c H locs 95 19212 (lw_Z below #[Value.ref b] s) (F0 m 315 ls []) := by
  have hx := C.1
  have hb := C.2.1
  have hXs := C.2.2.2.2.2.2.2.2.2.2.1
  have hbl := C.2.2.2.2.2.2.2.2.2.2.2.1
  obtain ⟨r, σX1, σM1, hfX, hfM, hR1⟩ := S n σX σM hn hR 
  refine lv_aload_n hx hb dL_law_315 rfl (lv_at hl 1 rfl) ?_
  refine lw_callX (rest := []) C hW hl.1 cV_L_28 rfl (kX11_place l D adX κ hfX) ⟨rfl, rfl⟩ ⟨(Nat.le_of_ble_eq_true rfl), (Nat.le_of_ble_eq_true rfl)⟩ rfl rfl (Nat.le_of_ble_eq_true rfl) dL_law_316 (fun H locs hW => ?_)
  refine lv_aload_n hx hb dL_law_319 rfl (lv_at hl 2 rfl) ?_
  refine lw_callM (rest := [.int r]) C hW hl.1 cV_L_31 rfl (kX12_place l D adM κ hfM) ⟨rfl, rfl⟩ ⟨(Nat.le_of_ble_eq_true rfl), (Nat.le_of_ble_eq_true rfl)⟩ rfl rfl (Nat.le_of_ble_eq_true rfl) dL_law_320 (fun H locs hW => ?_)
  refine lv_icmp_eq (tgt := 1440) hx hb dL_law_323 (by decide) (fun _ => ?_) (fun hc => absurd rfl hc)
  exact law_next C hW ih hR1 hl
set_option maxHeartbeats 4000000 in
set_option maxRecDepth 100000 in
theorem law_c4 {Rel : Nat → HS → HS → Prop} {i n : Nat} (S : St_4 Rel) (C : LC D κ adX adM p s m meth c b L xs) (hi : i + 6 ≤ L) (hL : L ≤ 3072) (hn : n < 512) (ih : ∀ (σX σM : HS) (H : Heap) (locs : List Loc) (ls : Array Slot), Rel (n + 1) σX σM → Lw D κ adX adM s σX σM H locs → lv_has ls 4 [(0, .ref b), (1, .ref (adX 0)), (2, .ref (adM 0)), (3, .int (nI (i + 6)))] → W p l e room_1 s m #[Value.ref b] below meth c H locs 95 19212 (lw_Z below #[Value.ref b] s) (F0 m 18 ls [])) (hR : Rel n σX σM) (hW : Lw D κ adX adM s σX σM H locs) (hl : lv_has ls 4 [(0, .ref b), (1, .ref (adX 0)), (2, .ref (adM 0)), (3, .int (nI i))]) : W p l e room_1 s m #[Value.ref b] below meth c H locs 95 19212 (lw_Z below #[Value.ref b] s) (F0 m 328 ls []) := by
  have hx := C.1
  have hb := C.2.1
  have hXs := C.2.2.2.2.2.2.2.2.2.2.1
  have hbl := C.2.2.2.2.2.2.2.2.2.2.2.1
  obtain ⟨r, σX1, σM1, hfX, hfM, hR1⟩ := S n σX σM hn hR (xs (nI i + 1).toNatClampNeg) (xs (nI i + 2).toNatClampNeg)
  refine lv_aload_n hx hb dL_law_328 rfl (lv_at hl 1 rfl) ?_
  refine lv_aload_n hx hb dL_law_329 rfl (lv_at hl 0 rfl) ?_
  refine lv_iload_n hx hb dL_law_330 rfl (lv_at hl 3 rfl) ?_
  refine lv_iconst (v := 1) hx hb dL_law_331 (by decide) ?_
  refine lv_iadd hx hb dL_law_332 ?_
  refine va_sld hx hb hXs hbl (Nat.not_le.mpr hbl) hW.2.2 (lw_in hi hL 1 (by decide)) dL_law_333 ?_
  refine lv_aload_n hx hb dL_law_334 rfl (lv_at hl 0 rfl) ?_
  refine lv_iload_n hx hb dL_law_335 rfl (lv_at hl 3 rfl) ?_
  refine lv_iconst (v := 2) hx hb dL_law_336 (by decide) ?_
  refine lv_iadd hx hb dL_law_337 ?_
  refine va_sld hx hb hXs hbl (Nat.not_le.mpr hbl) hW.2.2 (lw_in hi hL 2 (by decide)) dL_law_338 ?_
  refine lw_callX (rest := []) C hW hl.1 cV_L_32 rfl (kX11_minute l D adX κ hfX) ⟨rfl, rfl⟩ ⟨(Nat.le_of_ble_eq_true rfl), (Nat.le_of_ble_eq_true rfl)⟩ rfl rfl (Nat.le_of_ble_eq_true rfl) dL_law_339 (fun H locs hW => ?_)
  refine lv_aload_n hx hb dL_law_342 rfl (lv_at hl 2 rfl) ?_
  refine lv_aload_n hx hb dL_law_343 rfl (lv_at hl 0 rfl) ?_
  refine lv_iload_n hx hb dL_law_344 rfl (lv_at hl 3 rfl) ?_
  refine lv_iconst (v := 1) hx hb dL_law_345 (by decide) ?_
  refine lv_iadd hx hb dL_law_346 ?_
  refine va_sld hx hb hXs hbl (Nat.not_le.mpr hbl) hW.2.2 (lw_in hi hL 1 (by decide)) dL_law_347 ?_
  refine lv_aload_n hx hb dL_law_348 rfl (lv_at hl 0 rfl) ?_
  refine lv_iload_n hx hb dL_law_349 rfl (lv_at hl 3 rfl) ?_
  refine lv_iconst (v := 2) hx hb dL_law_350 (by decide) ?_
  refine lv_iadd hx hb dL_law_351 ?_
  refine va_sld hx hb hXs hbl (Nat.not_le.mpr hbl) hW.2.2 (lw_in hi hL 2 (by decide)) dL_law_352 ?_
  refine lw_callM (rest := [.int r]) C hW hl.1 cV_L_36 rfl (kX12_minute l D adM κ hfM) ⟨rfl, rfl⟩ ⟨(Nat.le_of_ble_eq_true rfl), (Nat.le_of_ble_eq_true rfl)⟩ rfl rfl (Nat.le_of_ble_eq_true rfl) dL_law_353 (fun H locs hW => ?_)
  refine lv_icmp_eq (tgt := 1440) hx hb dL_law_356 (by decide) (fun _ => ?_) (fun hc => absurd rfl hc)
  exact law_next C hW ih hR1 hl
set_option maxHeartbeats 4000000 in
set_option maxRecDepth 100000 in
theorem law_c5 {Rel : Nat → HS → HS → Prop} {i n : Nat} (S : St_5 Rel) (C : LC D κ adX adM p s m meth c b L xs) (hi : i + 6 ≤ L) (hL : L ≤ 3072) (hn : n < 512) (ih : ∀ (σX σM : HS) (H : Heap) (locs : List Loc) (ls : Array Slot), Rel (n + 1) σX σM → Lw D κ adX adM s σX σM H locs → lv_has ls 4 [(0, .ref b), (1, .ref (adX 0)), (2, .ref (adM 0)), (3, .int (nI (i + 6)))] → W p l e room_1 s m #[Value.ref b] below meth c H locs 95 19212 (lw_Z below #[Value.ref b] s) (F0 m 18 ls [])) (hR : Rel n σX σM) (hW : Lw D κ adX adM s σX σM H locs) (hl : lv_has ls 4 [(0, .ref b), (1, .ref (adX 0)), (2, .ref (adM 0)), (3, .int (nI i))]) : W p l e room_1 s m #[Value.ref b] below meth c H locs 95 19212 (lw_Z below #[Value.ref b] s) (F0 m 361 ls []) := by
  have hx := C.1
  have hb := C.2.1
  have hXs := C.2.2.2.2.2.2.2.2.2.2.1
  have hbl := C.2.2.2.2.2.2.2.2.2.2.2.1
  obtain ⟨r, σX1, σM1, hfX, hfM, hR1⟩ := S n σX σM hn hR (xs (nI i + 1).toNatClampNeg) (xs (nI i + 2).toNatClampNeg)
  refine lv_aload_n hx hb dL_law_361 rfl (lv_at hl 1 rfl) ?_
  refine lv_aload_n hx hb dL_law_362 rfl (lv_at hl 0 rfl) ?_
  refine lv_iload_n hx hb dL_law_363 rfl (lv_at hl 3 rfl) ?_
  refine lv_iconst (v := 1) hx hb dL_law_364 (by decide) ?_
  refine lv_iadd hx hb dL_law_365 ?_
  refine va_sld hx hb hXs hbl (Nat.not_le.mpr hbl) hW.2.2 (lw_in hi hL 1 (by decide)) dL_law_366 ?_
  refine lv_aload_n hx hb dL_law_367 rfl (lv_at hl 0 rfl) ?_
  refine lv_iload_n hx hb dL_law_368 rfl (lv_at hl 3 rfl) ?_
  refine lv_iconst (v := 2) hx hb dL_law_369 (by decide) ?_
  refine lv_iadd hx hb dL_law_370 ?_
  refine va_sld hx hb hXs hbl (Nat.not_le.mpr hbl) hW.2.2 (lw_in hi hL 2 (by decide)) dL_law_371 ?_
  refine lw_callX (rest := []) C hW hl.1 cV_L_37 rfl (kX11_family l D adX κ hfX) ⟨rfl, rfl⟩ ⟨(Nat.le_of_ble_eq_true rfl), (Nat.le_of_ble_eq_true rfl)⟩ rfl rfl (Nat.le_of_ble_eq_true rfl) dL_law_372 (fun H locs hW => ?_)
  refine lv_aload_n hx hb dL_law_375 rfl (lv_at hl 2 rfl) ?_
  refine lv_aload_n hx hb dL_law_376 rfl (lv_at hl 0 rfl) ?_
  refine lv_iload_n hx hb dL_law_377 rfl (lv_at hl 3 rfl) ?_
  refine lv_iconst (v := 1) hx hb dL_law_378 (by decide) ?_
  refine lv_iadd hx hb dL_law_379 ?_
  refine va_sld hx hb hXs hbl (Nat.not_le.mpr hbl) hW.2.2 (lw_in hi hL 1 (by decide)) dL_law_380 ?_
  refine lv_aload_n hx hb dL_law_381 rfl (lv_at hl 0 rfl) ?_
  refine lv_iload_n hx hb dL_law_382 rfl (lv_at hl 3 rfl) ?_
  refine lv_iconst (v := 2) hx hb dL_law_383 (by decide) ?_
  refine lv_iadd hx hb dL_law_384 ?_
  refine va_sld hx hb hXs hbl (Nat.not_le.mpr hbl) hW.2.2 (lw_in hi hL 2 (by decide)) dL_law_385 ?_
  refine lw_callM (rest := [.int r]) C hW hl.1 cV_L_40 rfl (kX12_family l D adM κ hfM) ⟨rfl, rfl⟩ ⟨(Nat.le_of_ble_eq_true rfl), (Nat.le_of_ble_eq_true rfl)⟩ rfl rfl (Nat.le_of_ble_eq_true rfl) dL_law_386 (fun H locs hW => ?_)
  refine lv_icmp_eq (tgt := 1440) hx hb dL_law_389 (by decide) (fun _ => ?_) (fun hc => absurd rfl hc)
  exact law_next C hW ih hR1 hl
set_option maxHeartbeats 4000000 in
set_option maxRecDepth 100000 in
theorem law_c6 {Rel : Nat → HS → HS → Prop} {i n : Nat} (S : St_6 Rel) (C : LC D κ adX adM p s m meth c b L xs) (hi : i + 6 ≤ L) (hL : L ≤ 3072) (hn : n < 512) (ih : ∀ (σX σM : HS) (H : Heap) (locs : List Loc) (ls : Array Slot), Rel (n + 1) σX σM → Lw D κ adX adM s σX σM H locs → lv_has ls 4 [(0, .ref b), (1, .ref (adX 0)), (2, .ref (adM 0)), (3, .int (nI (i + 6)))] → W p l e room_1 s m #[Value.ref b] below meth c H locs 95 19212 (lw_Z below #[Value.ref b] s) (F0 m 18 ls [])) (hR : Rel n σX σM) (hW : Lw D κ adX adM s σX σM H locs) (hl : lv_has ls 4 [(0, .ref b), (1, .ref (adX 0)), (2, .ref (adM 0)), (3, .int (nI i))]) : W p l e room_1 s m #[Value.ref b] below meth c H locs 95 19212 (lw_Z below #[Value.ref b] s) (F0 m 394 ls []) := by
  have hx := C.1
  have hb := C.2.1
  have hXs := C.2.2.2.2.2.2.2.2.2.2.1
  have hbl := C.2.2.2.2.2.2.2.2.2.2.2.1
  obtain ⟨r, σX1, σM1, hfX, hfM, hR1⟩ := S n σX σM hn hR (xs (nI i + 1).toNatClampNeg)
  refine lv_aload_n hx hb dL_law_394 rfl (lv_at hl 1 rfl) ?_
  refine lv_aload_n hx hb dL_law_395 rfl (lv_at hl 0 rfl) ?_
  refine lv_iload_n hx hb dL_law_396 rfl (lv_at hl 3 rfl) ?_
  refine lv_iconst (v := 1) hx hb dL_law_397 (by decide) ?_
  refine lv_iadd hx hb dL_law_398 ?_
  refine va_sld hx hb hXs hbl (Nat.not_le.mpr hbl) hW.2.2 (lw_in hi hL 1 (by decide)) dL_law_399 ?_
  refine lw_callX (rest := []) C hW hl.1 cV_L_41 rfl (kX11_lease l D adX κ hfX) ⟨rfl, rfl⟩ ⟨(Nat.le_of_ble_eq_true rfl), (Nat.le_of_ble_eq_true rfl)⟩ rfl rfl (Nat.le_of_ble_eq_true rfl) dL_law_400 (fun H locs hW => ?_)
  refine lv_aload_n hx hb dL_law_403 rfl (lv_at hl 2 rfl) ?_
  refine lv_aload_n hx hb dL_law_404 rfl (lv_at hl 0 rfl) ?_
  refine lv_iload_n hx hb dL_law_405 rfl (lv_at hl 3 rfl) ?_
  refine lv_iconst (v := 1) hx hb dL_law_406 (by decide) ?_
  refine lv_iadd hx hb dL_law_407 ?_
  refine va_sld hx hb hXs hbl (Nat.not_le.mpr hbl) hW.2.2 (lw_in hi hL 1 (by decide)) dL_law_408 ?_
  refine lw_callM (rest := [.int r]) C hW hl.1 cV_L_44 rfl (kX12_lease l D adM κ hfM) ⟨rfl, rfl⟩ ⟨(Nat.le_of_ble_eq_true rfl), (Nat.le_of_ble_eq_true rfl)⟩ rfl rfl (Nat.le_of_ble_eq_true rfl) dL_law_409 (fun H locs hW => ?_)
  refine lv_icmp_eq (tgt := 1440) hx hb dL_law_412 (by decide) (fun _ => ?_) (fun hc => absurd rfl hc)
  exact law_next C hW ih hR1 hl
set_option maxHeartbeats 4000000 in
set_option maxRecDepth 100000 in
theorem law_c7 {Rel : Nat → HS → HS → Prop} {i n : Nat} (S : St_7 Rel) (C : LC D κ adX adM p s m meth c b L xs) (hi : i + 6 ≤ L) (hL : L ≤ 3072) (hn : n < 512) (ih : ∀ (σX σM : HS) (H : Heap) (locs : List Loc) (ls : Array Slot), Rel (n + 1) σX σM → Lw D κ adX adM s σX σM H locs → lv_has ls 4 [(0, .ref b), (1, .ref (adX 0)), (2, .ref (adM 0)), (3, .int (nI (i + 6)))] → W p l e room_1 s m #[Value.ref b] below meth c H locs 95 19212 (lw_Z below #[Value.ref b] s) (F0 m 18 ls [])) (hR : Rel n σX σM) (hW : Lw D κ adX adM s σX σM H locs) (hl : lv_has ls 4 [(0, .ref b), (1, .ref (adX 0)), (2, .ref (adM 0)), (3, .int (nI i))]) : W p l e room_1 s m #[Value.ref b] below meth c H locs 95 19212 (lw_Z below #[Value.ref b] s) (F0 m 417 ls []) := by
  have hx := C.1
  have hb := C.2.1
  have hXs := C.2.2.2.2.2.2.2.2.2.2.1
  have hbl := C.2.2.2.2.2.2.2.2.2.2.2.1
  obtain ⟨r, σX1, σM1, hfX, hfM, hR1⟩ := S n σX σM hn hR (xs (nI i + 1).toNatClampNeg) (xs (nI i + 2).toNatClampNeg) (xs (nI i + 3).toNatClampNeg)
  refine lv_aload_n hx hb dL_law_417 rfl (lv_at hl 1 rfl) ?_
  refine lv_aload_n hx hb dL_law_418 rfl (lv_at hl 0 rfl) ?_
  refine lv_iload_n hx hb dL_law_419 rfl (lv_at hl 3 rfl) ?_
  refine lv_iconst (v := 1) hx hb dL_law_420 (by decide) ?_
  refine lv_iadd hx hb dL_law_421 ?_
  refine va_sld hx hb hXs hbl (Nat.not_le.mpr hbl) hW.2.2 (lw_in hi hL 1 (by decide)) dL_law_422 ?_
  refine lv_aload_n hx hb dL_law_423 rfl (lv_at hl 0 rfl) ?_
  refine lv_iload_n hx hb dL_law_424 rfl (lv_at hl 3 rfl) ?_
  refine lv_iconst (v := 2) hx hb dL_law_425 (by decide) ?_
  refine lv_iadd hx hb dL_law_426 ?_
  refine va_sld hx hb hXs hbl (Nat.not_le.mpr hbl) hW.2.2 (lw_in hi hL 2 (by decide)) dL_law_427 ?_
  refine lv_aload_n hx hb dL_law_428 rfl (lv_at hl 0 rfl) ?_
  refine lv_iload_n hx hb dL_law_429 rfl (lv_at hl 3 rfl) ?_
  refine lv_iconst (v := 3) hx hb dL_law_430 (by decide) ?_
  refine lv_iadd hx hb dL_law_431 ?_
  refine va_sld hx hb hXs hbl (Nat.not_le.mpr hbl) hW.2.2 (lw_in hi hL 3 (by decide)) dL_law_432 ?_
  refine lw_callX (rest := []) C hW hl.1 cV_L_45 rfl (kX11_worth l D adX κ hfX) ⟨rfl, rfl⟩ ⟨(Nat.le_of_ble_eq_true rfl), (Nat.le_of_ble_eq_true rfl)⟩ rfl rfl (Nat.le_of_ble_eq_true rfl) dL_law_433 (fun H locs hW => ?_)
  refine lv_aload_n hx hb dL_law_436 rfl (lv_at hl 2 rfl) ?_
  refine lv_aload_n hx hb dL_law_437 rfl (lv_at hl 0 rfl) ?_
  refine lv_iload_n hx hb dL_law_438 rfl (lv_at hl 3 rfl) ?_
  refine lv_iconst (v := 1) hx hb dL_law_439 (by decide) ?_
  refine lv_iadd hx hb dL_law_440 ?_
  refine va_sld hx hb hXs hbl (Nat.not_le.mpr hbl) hW.2.2 (lw_in hi hL 1 (by decide)) dL_law_441 ?_
  refine lv_aload_n hx hb dL_law_442 rfl (lv_at hl 0 rfl) ?_
  refine lv_iload_n hx hb dL_law_443 rfl (lv_at hl 3 rfl) ?_
  refine lv_iconst (v := 2) hx hb dL_law_444 (by decide) ?_
  refine lv_iadd hx hb dL_law_445 ?_
  refine va_sld hx hb hXs hbl (Nat.not_le.mpr hbl) hW.2.2 (lw_in hi hL 2 (by decide)) dL_law_446 ?_
  refine lv_aload_n hx hb dL_law_447 rfl (lv_at hl 0 rfl) ?_
  refine lv_iload_n hx hb dL_law_448 rfl (lv_at hl 3 rfl) ?_
  refine lv_iconst (v := 3) hx hb dL_law_449 (by decide) ?_
  refine lv_iadd hx hb dL_law_450 ?_
  refine va_sld hx hb hXs hbl (Nat.not_le.mpr hbl) hW.2.2 (lw_in hi hL 3 (by decide)) dL_law_451 ?_
  refine lw_callM (rest := [.int r]) C hW hl.1 cV_L_49 rfl (kX12_worth l D adM κ hfM) ⟨rfl, rfl⟩ ⟨(Nat.le_of_ble_eq_true rfl), (Nat.le_of_ble_eq_true rfl)⟩ rfl rfl (Nat.le_of_ble_eq_true rfl) dL_law_452 (fun H locs hW => ?_)
  refine lv_icmp_eq (tgt := 1440) hx hb dL_law_455 (by decide) (fun _ => ?_) (fun hc => absurd rfl hc)
  exact law_next C hW ih hR1 hl
set_option maxHeartbeats 4000000 in
set_option maxRecDepth 100000 in
theorem law_c8 {Rel : Nat → HS → HS → Prop} {i n : Nat} (S : St_8 Rel) (C : LC D κ adX adM p s m meth c b L xs) (hi : i + 6 ≤ L) (hL : L ≤ 3072) (hn : n < 512) (ih : ∀ (σX σM : HS) (H : Heap) (locs : List Loc) (ls : Array Slot), Rel (n + 1) σX σM → Lw D κ adX adM s σX σM H locs → lv_has ls 4 [(0, .ref b), (1, .ref (adX 0)), (2, .ref (adM 0)), (3, .int (nI (i + 6)))] → W p l e room_1 s m #[Value.ref b] below meth c H locs 95 19212 (lw_Z below #[Value.ref b] s) (F0 m 18 ls [])) (hR : Rel n σX σM) (hW : Lw D κ adX adM s σX σM H locs) (hl : lv_has ls 4 [(0, .ref b), (1, .ref (adX 0)), (2, .ref (adM 0)), (3, .int (nI i))]) : W p l e room_1 s m #[Value.ref b] below meth c H locs 95 19212 (lw_Z below #[Value.ref b] s) (F0 m 460 ls []) := by
  have hx := C.1
  have hb := C.2.1
  have hXs := C.2.2.2.2.2.2.2.2.2.2.1
  have hbl := C.2.2.2.2.2.2.2.2.2.2.2.1
  obtain ⟨r, σX1, σM1, hfX, hfM, hR1⟩ := S n σX σM hn hR (xs (nI i + 1).toNatClampNeg) (xs (nI i + 2).toNatClampNeg)
  refine lv_aload_n hx hb dL_law_460 rfl (lv_at hl 1 rfl) ?_
  refine lv_aload_n hx hb dL_law_461 rfl (lv_at hl 0 rfl) ?_
  refine lv_iload_n hx hb dL_law_462 rfl (lv_at hl 3 rfl) ?_
  refine lv_iconst (v := 1) hx hb dL_law_463 (by decide) ?_
  refine lv_iadd hx hb dL_law_464 ?_
  refine va_sld hx hb hXs hbl (Nat.not_le.mpr hbl) hW.2.2 (lw_in hi hL 1 (by decide)) dL_law_465 ?_
  refine lv_aload_n hx hb dL_law_466 rfl (lv_at hl 0 rfl) ?_
  refine lv_iload_n hx hb dL_law_467 rfl (lv_at hl 3 rfl) ?_
  refine lv_iconst (v := 2) hx hb dL_law_468 (by decide) ?_
  refine lv_iadd hx hb dL_law_469 ?_
  refine va_sld hx hb hXs hbl (Nat.not_le.mpr hbl) hW.2.2 (lw_in hi hL 2 (by decide)) dL_law_470 ?_
  refine lw_callX (rest := []) C hW hl.1 cV_L_50 rfl (kX11_change l D adX κ hfX) ⟨rfl, rfl⟩ ⟨(Nat.le_of_ble_eq_true rfl), (Nat.le_of_ble_eq_true rfl)⟩ rfl rfl (Nat.le_of_ble_eq_true rfl) dL_law_471 (fun H locs hW => ?_)
  refine lv_aload_n hx hb dL_law_474 rfl (lv_at hl 2 rfl) ?_
  refine lv_aload_n hx hb dL_law_475 rfl (lv_at hl 0 rfl) ?_
  refine lv_iload_n hx hb dL_law_476 rfl (lv_at hl 3 rfl) ?_
  refine lv_iconst (v := 1) hx hb dL_law_477 (by decide) ?_
  refine lv_iadd hx hb dL_law_478 ?_
  refine va_sld hx hb hXs hbl (Nat.not_le.mpr hbl) hW.2.2 (lw_in hi hL 1 (by decide)) dL_law_479 ?_
  refine lv_aload_n hx hb dL_law_480 rfl (lv_at hl 0 rfl) ?_
  refine lv_iload_n hx hb dL_law_481 rfl (lv_at hl 3 rfl) ?_
  refine lv_iconst (v := 2) hx hb dL_law_482 (by decide) ?_
  refine lv_iadd hx hb dL_law_483 ?_
  refine va_sld hx hb hXs hbl (Nat.not_le.mpr hbl) hW.2.2 (lw_in hi hL 2 (by decide)) dL_law_484 ?_
  refine lw_callM (rest := [.int r]) C hW hl.1 cV_L_54 rfl (kX12_change l D adM κ hfM) ⟨rfl, rfl⟩ ⟨(Nat.le_of_ble_eq_true rfl), (Nat.le_of_ble_eq_true rfl)⟩ rfl rfl (Nat.le_of_ble_eq_true rfl) dL_law_485 (fun H locs hW => ?_)
  refine lv_icmp_eq (tgt := 1440) hx hb dL_law_488 (by decide) (fun _ => ?_) (fun hc => absurd rfl hc)
  exact law_next C hW ih hR1 hl
set_option maxHeartbeats 4000000 in
set_option maxRecDepth 100000 in
theorem law_c9 {Rel : Nat → HS → HS → Prop} {i n : Nat} (S : St_9 Rel) (C : LC D κ adX adM p s m meth c b L xs) (hi : i + 6 ≤ L) (hL : L ≤ 3072) (hn : n < 512) (ih : ∀ (σX σM : HS) (H : Heap) (locs : List Loc) (ls : Array Slot), Rel (n + 1) σX σM → Lw D κ adX adM s σX σM H locs → lv_has ls 4 [(0, .ref b), (1, .ref (adX 0)), (2, .ref (adM 0)), (3, .int (nI (i + 6)))] → W p l e room_1 s m #[Value.ref b] below meth c H locs 95 19212 (lw_Z below #[Value.ref b] s) (F0 m 18 ls [])) (hR : Rel n σX σM) (hW : Lw D κ adX adM s σX σM H locs) (hl : lv_has ls 4 [(0, .ref b), (1, .ref (adX 0)), (2, .ref (adM 0)), (3, .int (nI i))]) : W p l e room_1 s m #[Value.ref b] below meth c H locs 95 19212 (lw_Z below #[Value.ref b] s) (F0 m 493 ls []) := by
  have hx := C.1
  have hb := C.2.1
  have hXs := C.2.2.2.2.2.2.2.2.2.2.1
  have hbl := C.2.2.2.2.2.2.2.2.2.2.2.1
  obtain ⟨r, σX1, σM1, hfX, hfM, hR1⟩ := S n σX σM hn hR (xs (nI i + 1).toNatClampNeg) (xs (nI i + 2).toNatClampNeg)
  refine lv_aload_n hx hb dL_law_493 rfl (lv_at hl 1 rfl) ?_
  refine lv_aload_n hx hb dL_law_494 rfl (lv_at hl 0 rfl) ?_
  refine lv_iload_n hx hb dL_law_495 rfl (lv_at hl 3 rfl) ?_
  refine lv_iconst (v := 1) hx hb dL_law_496 (by decide) ?_
  refine lv_iadd hx hb dL_law_497 ?_
  refine va_sld hx hb hXs hbl (Nat.not_le.mpr hbl) hW.2.2 (lw_in hi hL 1 (by decide)) dL_law_498 ?_
  refine lv_aload_n hx hb dL_law_499 rfl (lv_at hl 0 rfl) ?_
  refine lv_iload_n hx hb dL_law_500 rfl (lv_at hl 3 rfl) ?_
  refine lv_iconst (v := 2) hx hb dL_law_501 (by decide) ?_
  refine lv_iadd hx hb dL_law_502 ?_
  refine va_sld hx hb hXs hbl (Nat.not_le.mpr hbl) hW.2.2 (lw_in hi hL 2 (by decide)) dL_law_503 ?_
  refine lw_callX (rest := []) C hW hl.1 cV_L_55 rfl (kX11_let l D adX κ hfX) ⟨rfl, rfl⟩ ⟨(Nat.le_of_ble_eq_true rfl), (Nat.le_of_ble_eq_true rfl)⟩ rfl rfl (Nat.le_of_ble_eq_true rfl) dL_law_504 (fun H locs hW => ?_)
  refine lv_aload_n hx hb dL_law_507 rfl (lv_at hl 2 rfl) ?_
  refine lv_aload_n hx hb dL_law_508 rfl (lv_at hl 0 rfl) ?_
  refine lv_iload_n hx hb dL_law_509 rfl (lv_at hl 3 rfl) ?_
  refine lv_iconst (v := 1) hx hb dL_law_510 (by decide) ?_
  refine lv_iadd hx hb dL_law_511 ?_
  refine va_sld hx hb hXs hbl (Nat.not_le.mpr hbl) hW.2.2 (lw_in hi hL 1 (by decide)) dL_law_512 ?_
  refine lv_aload_n hx hb dL_law_513 rfl (lv_at hl 0 rfl) ?_
  refine lv_iload_n hx hb dL_law_514 rfl (lv_at hl 3 rfl) ?_
  refine lv_iconst (v := 2) hx hb dL_law_515 (by decide) ?_
  refine lv_iadd hx hb dL_law_516 ?_
  refine va_sld hx hb hXs hbl (Nat.not_le.mpr hbl) hW.2.2 (lw_in hi hL 2 (by decide)) dL_law_517 ?_
  refine lw_callM (rest := [.int r]) C hW hl.1 cV_L_58 rfl (kX12_let l D adM κ hfM) ⟨rfl, rfl⟩ ⟨(Nat.le_of_ble_eq_true rfl), (Nat.le_of_ble_eq_true rfl)⟩ rfl rfl (Nat.le_of_ble_eq_true rfl) dL_law_518 (fun H locs hW => ?_)
  refine lv_icmp_eq (tgt := 1440) hx hb dL_law_521 (by decide) (fun _ => ?_) (fun hc => absurd rfl hc)
  exact law_next C hW ih hR1 hl
set_option maxHeartbeats 4000000 in
set_option maxRecDepth 100000 in
theorem law_c10 {Rel : Nat → HS → HS → Prop} {i n : Nat} (S : St_10 Rel) (C : LC D κ adX adM p s m meth c b L xs) (hi : i + 6 ≤ L) (hL : L ≤ 3072) (hn : n < 512) (ih : ∀ (σX σM : HS) (H : Heap) (locs : List Loc) (ls : Array Slot), Rel (n + 1) σX σM → Lw D κ adX adM s σX σM H locs → lv_has ls 4 [(0, .ref b), (1, .ref (adX 0)), (2, .ref (adM 0)), (3, .int (nI (i + 6)))] → W p l e room_1 s m #[Value.ref b] below meth c H locs 95 19212 (lw_Z below #[Value.ref b] s) (F0 m 18 ls [])) (hR : Rel n σX σM) (hW : Lw D κ adX adM s σX σM H locs) (hl : lv_has ls 4 [(0, .ref b), (1, .ref (adX 0)), (2, .ref (adM 0)), (3, .int (nI i))]) : W p l e room_1 s m #[Value.ref b] below meth c H locs 95 19212 (lw_Z below #[Value.ref b] s) (F0 m 526 ls []) := by
  have hx := C.1
  have hb := C.2.1
  have hXs := C.2.2.2.2.2.2.2.2.2.2.1
  have hbl := C.2.2.2.2.2.2.2.2.2.2.2.1
  by_cases hv : (xs (nI i + 1).toNatClampNeg) = 0
  · obtain ⟨r, σX1, σM1, hfX, hfM, hR1⟩ := S n σX σM hn hR (0 : Int32) (Or.inl rfl)
    refine lv_aload_n hx hb dL_law_526 rfl (lv_at hl 1 rfl) ?_
    refine lv_aload_n hx hb dL_law_527 rfl (lv_at hl 0 rfl) ?_
    refine lv_iload_n hx hb dL_law_528 rfl (lv_at hl 3 rfl) ?_
    refine lv_iconst (v := 1) hx hb dL_law_529 (by decide) ?_
    refine lv_iadd hx hb dL_law_530 ?_
    refine va_sld hx hb hXs hbl (Nat.not_le.mpr hbl) hW.2.2 (lw_in hi hL 1 (by decide)) dL_law_531 ?_
    refine lv_if_eq (tgt := 539) hx hb dL_law_532 (by decide) (fun _ => ?_) (fun hc => absurd hv hc)
    refine lv_iconst (v := 0) hx hb dL_law_539 (by decide) ?_
    refine lw_callX (rest := []) C hW hl.1 cV_L_59 rfl (kX11_syrup l D adX κ hfX) ⟨rfl, rfl⟩ ⟨(Nat.le_of_ble_eq_true rfl), (Nat.le_of_ble_eq_true rfl)⟩ rfl rfl (Nat.le_of_ble_eq_true rfl) dL_law_540 (fun H locs hW => ?_)
    refine lv_aload_n hx hb dL_law_543 rfl (lv_at hl 2 rfl) ?_
    refine lv_aload_n hx hb dL_law_544 rfl (lv_at hl 0 rfl) ?_
    refine lv_iload_n hx hb dL_law_545 rfl (lv_at hl 3 rfl) ?_
    refine lv_iconst (v := 1) hx hb dL_law_546 (by decide) ?_
    refine lv_iadd hx hb dL_law_547 ?_
    refine va_sld hx hb hXs hbl (Nat.not_le.mpr hbl) hW.2.2 (lw_in hi hL 1 (by decide)) dL_law_548 ?_
    refine lv_if_eq (tgt := 556) hx hb dL_law_549 (by decide) (fun _ => ?_) (fun hc => absurd hv hc)
    refine lv_iconst (v := 0) hx hb dL_law_556 (by decide) ?_
    refine lw_callM (rest := [.int r]) C hW hl.1 cV_L_63 rfl (kX12_syrup l D adM κ hfM) ⟨rfl, rfl⟩ ⟨(Nat.le_of_ble_eq_true rfl), (Nat.le_of_ble_eq_true rfl)⟩ rfl rfl (Nat.le_of_ble_eq_true rfl) dL_law_557 (fun H locs hW => ?_)
    refine lv_icmp_eq (tgt := 1440) hx hb dL_law_560 (by decide) (fun _ => ?_) (fun hc => absurd rfl hc)
    exact law_next C hW ih hR1 hl
  · obtain ⟨r, σX1, σM1, hfX, hfM, hR1⟩ := S n σX σM hn hR (1 : Int32) (Or.inr rfl)
    refine lv_aload_n hx hb dL_law_526 rfl (lv_at hl 1 rfl) ?_
    refine lv_aload_n hx hb dL_law_527 rfl (lv_at hl 0 rfl) ?_
    refine lv_iload_n hx hb dL_law_528 rfl (lv_at hl 3 rfl) ?_
    refine lv_iconst (v := 1) hx hb dL_law_529 (by decide) ?_
    refine lv_iadd hx hb dL_law_530 ?_
    refine va_sld hx hb hXs hbl (Nat.not_le.mpr hbl) hW.2.2 (lw_in hi hL 1 (by decide)) dL_law_531 ?_
    refine lv_if_eq (tgt := 539) hx hb dL_law_532 (by decide) (fun hc => absurd hc hv) (fun _ => ?_)
    refine lv_iconst (v := 1) hx hb dL_law_535 (by decide) ?_
    refine lv_goto (tgt := 540) hx hb dL_law_536 (by decide) ?_
    refine lw_callX (rest := []) C hW hl.1 cV_L_59 rfl (kX11_syrup l D adX κ hfX) ⟨rfl, rfl⟩ ⟨(Nat.le_of_ble_eq_true rfl), (Nat.le_of_ble_eq_true rfl)⟩ rfl rfl (Nat.le_of_ble_eq_true rfl) dL_law_540 (fun H locs hW => ?_)
    refine lv_aload_n hx hb dL_law_543 rfl (lv_at hl 2 rfl) ?_
    refine lv_aload_n hx hb dL_law_544 rfl (lv_at hl 0 rfl) ?_
    refine lv_iload_n hx hb dL_law_545 rfl (lv_at hl 3 rfl) ?_
    refine lv_iconst (v := 1) hx hb dL_law_546 (by decide) ?_
    refine lv_iadd hx hb dL_law_547 ?_
    refine va_sld hx hb hXs hbl (Nat.not_le.mpr hbl) hW.2.2 (lw_in hi hL 1 (by decide)) dL_law_548 ?_
    refine lv_if_eq (tgt := 556) hx hb dL_law_549 (by decide) (fun hc => absurd hc hv) (fun _ => ?_)
    refine lv_iconst (v := 1) hx hb dL_law_552 (by decide) ?_
    refine lv_goto (tgt := 557) hx hb dL_law_553 (by decide) ?_
    refine lw_callM (rest := [.int r]) C hW hl.1 cV_L_63 rfl (kX12_syrup l D adM κ hfM) ⟨rfl, rfl⟩ ⟨(Nat.le_of_ble_eq_true rfl), (Nat.le_of_ble_eq_true rfl)⟩ rfl rfl (Nat.le_of_ble_eq_true rfl) dL_law_557 (fun H locs hW => ?_)
    refine lv_icmp_eq (tgt := 1440) hx hb dL_law_560 (by decide) (fun _ => ?_) (fun hc => absurd rfl hc)
    exact law_next C hW ih hR1 hl
set_option maxHeartbeats 4000000 in
set_option maxRecDepth 100000 in
theorem law_c11 {Rel : Nat → HS → HS → Prop} {i n : Nat} (S : St_11 Rel) (C : LC D κ adX adM p s m meth c b L xs) (hi : i + 6 ≤ L) (hL : L ≤ 3072) (hn : n < 512) (ih : ∀ (σX σM : HS) (H : Heap) (locs : List Loc) (ls : Array Slot), Rel (n + 1) σX σM → Lw D κ adX adM s σX σM H locs → lv_has ls 4 [(0, .ref b), (1, .ref (adX 0)), (2, .ref (adM 0)), (3, .int (nI (i + 6)))] → W p l e room_1 s m #[Value.ref b] below meth c H locs 95 19212 (lw_Z below #[Value.ref b] s) (F0 m 18 ls [])) (hR : Rel n σX σM) (hW : Lw D κ adX adM s σX σM H locs) (hl : lv_has ls 4 [(0, .ref b), (1, .ref (adX 0)), (2, .ref (adM 0)), (3, .int (nI i))]) : W p l e room_1 s m #[Value.ref b] below meth c H locs 95 19212 (lw_Z below #[Value.ref b] s) (F0 m 565 ls []) := by
  have hx := C.1
  have hb := C.2.1
  have hXs := C.2.2.2.2.2.2.2.2.2.2.1
  have hbl := C.2.2.2.2.2.2.2.2.2.2.2.1
  by_cases hv : (xs (nI i + 1).toNatClampNeg) = 0
  · obtain ⟨r, σX1, σM1, hfX, hfM, hR1⟩ := S n σX σM hn hR (0 : Int32) (Or.inl rfl)
    refine lv_aload_n hx hb dL_law_565 rfl (lv_at hl 1 rfl) ?_
    refine lv_aload_n hx hb dL_law_566 rfl (lv_at hl 0 rfl) ?_
    refine lv_iload_n hx hb dL_law_567 rfl (lv_at hl 3 rfl) ?_
    refine lv_iconst (v := 1) hx hb dL_law_568 (by decide) ?_
    refine lv_iadd hx hb dL_law_569 ?_
    refine va_sld hx hb hXs hbl (Nat.not_le.mpr hbl) hW.2.2 (lw_in hi hL 1 (by decide)) dL_law_570 ?_
    refine lv_if_eq (tgt := 578) hx hb dL_law_571 (by decide) (fun _ => ?_) (fun hc => absurd hv hc)
    refine lv_iconst (v := 0) hx hb dL_law_578 (by decide) ?_
    refine lw_callX (rest := []) C hW hl.1 cV_L_64 rfl (kX11_dust l D adX κ hfX) ⟨rfl, rfl⟩ ⟨(Nat.le_of_ble_eq_true rfl), (Nat.le_of_ble_eq_true rfl)⟩ rfl rfl (Nat.le_of_ble_eq_true rfl) dL_law_579 (fun H locs hW => ?_)
    refine lv_aload_n hx hb dL_law_582 rfl (lv_at hl 2 rfl) ?_
    refine lv_aload_n hx hb dL_law_583 rfl (lv_at hl 0 rfl) ?_
    refine lv_iload_n hx hb dL_law_584 rfl (lv_at hl 3 rfl) ?_
    refine lv_iconst (v := 1) hx hb dL_law_585 (by decide) ?_
    refine lv_iadd hx hb dL_law_586 ?_
    refine va_sld hx hb hXs hbl (Nat.not_le.mpr hbl) hW.2.2 (lw_in hi hL 1 (by decide)) dL_law_587 ?_
    refine lv_if_eq (tgt := 595) hx hb dL_law_588 (by decide) (fun _ => ?_) (fun hc => absurd hv hc)
    refine lv_iconst (v := 0) hx hb dL_law_595 (by decide) ?_
    refine lw_callM (rest := [.int r]) C hW hl.1 cV_L_67 rfl (kX12_dust l D adM κ hfM) ⟨rfl, rfl⟩ ⟨(Nat.le_of_ble_eq_true rfl), (Nat.le_of_ble_eq_true rfl)⟩ rfl rfl (Nat.le_of_ble_eq_true rfl) dL_law_596 (fun H locs hW => ?_)
    refine lv_icmp_eq (tgt := 1440) hx hb dL_law_599 (by decide) (fun _ => ?_) (fun hc => absurd rfl hc)
    exact law_next C hW ih hR1 hl
  · obtain ⟨r, σX1, σM1, hfX, hfM, hR1⟩ := S n σX σM hn hR (1 : Int32) (Or.inr rfl)
    refine lv_aload_n hx hb dL_law_565 rfl (lv_at hl 1 rfl) ?_
    refine lv_aload_n hx hb dL_law_566 rfl (lv_at hl 0 rfl) ?_
    refine lv_iload_n hx hb dL_law_567 rfl (lv_at hl 3 rfl) ?_
    refine lv_iconst (v := 1) hx hb dL_law_568 (by decide) ?_
    refine lv_iadd hx hb dL_law_569 ?_
    refine va_sld hx hb hXs hbl (Nat.not_le.mpr hbl) hW.2.2 (lw_in hi hL 1 (by decide)) dL_law_570 ?_
    refine lv_if_eq (tgt := 578) hx hb dL_law_571 (by decide) (fun hc => absurd hc hv) (fun _ => ?_)
    refine lv_iconst (v := 1) hx hb dL_law_574 (by decide) ?_
    refine lv_goto (tgt := 579) hx hb dL_law_575 (by decide) ?_
    refine lw_callX (rest := []) C hW hl.1 cV_L_64 rfl (kX11_dust l D adX κ hfX) ⟨rfl, rfl⟩ ⟨(Nat.le_of_ble_eq_true rfl), (Nat.le_of_ble_eq_true rfl)⟩ rfl rfl (Nat.le_of_ble_eq_true rfl) dL_law_579 (fun H locs hW => ?_)
    refine lv_aload_n hx hb dL_law_582 rfl (lv_at hl 2 rfl) ?_
    refine lv_aload_n hx hb dL_law_583 rfl (lv_at hl 0 rfl) ?_
    refine lv_iload_n hx hb dL_law_584 rfl (lv_at hl 3 rfl) ?_
    refine lv_iconst (v := 1) hx hb dL_law_585 (by decide) ?_
    refine lv_iadd hx hb dL_law_586 ?_
    refine va_sld hx hb hXs hbl (Nat.not_le.mpr hbl) hW.2.2 (lw_in hi hL 1 (by decide)) dL_law_587 ?_
    refine lv_if_eq (tgt := 595) hx hb dL_law_588 (by decide) (fun hc => absurd hc hv) (fun _ => ?_)
    refine lv_iconst (v := 1) hx hb dL_law_591 (by decide) ?_
    refine lv_goto (tgt := 596) hx hb dL_law_592 (by decide) ?_
    refine lw_callM (rest := [.int r]) C hW hl.1 cV_L_67 rfl (kX12_dust l D adM κ hfM) ⟨rfl, rfl⟩ ⟨(Nat.le_of_ble_eq_true rfl), (Nat.le_of_ble_eq_true rfl)⟩ rfl rfl (Nat.le_of_ble_eq_true rfl) dL_law_596 (fun H locs hW => ?_)
    refine lv_icmp_eq (tgt := 1440) hx hb dL_law_599 (by decide) (fun _ => ?_) (fun hc => absurd rfl hc)
    exact law_next C hW ih hR1 hl
set_option maxHeartbeats 4000000 in
set_option maxRecDepth 100000 in
theorem law_c12 {Rel : Nat → HS → HS → Prop} {i n : Nat} (S : St_12 Rel) (C : LC D κ adX adM p s m meth c b L xs) (hi : i + 6 ≤ L) (hL : L ≤ 3072) (hn : n < 512) (ih : ∀ (σX σM : HS) (H : Heap) (locs : List Loc) (ls : Array Slot), Rel (n + 1) σX σM → Lw D κ adX adM s σX σM H locs → lv_has ls 4 [(0, .ref b), (1, .ref (adX 0)), (2, .ref (adM 0)), (3, .int (nI (i + 6)))] → W p l e room_1 s m #[Value.ref b] below meth c H locs 95 19212 (lw_Z below #[Value.ref b] s) (F0 m 18 ls [])) (hR : Rel n σX σM) (hW : Lw D κ adX adM s σX σM H locs) (hl : lv_has ls 4 [(0, .ref b), (1, .ref (adX 0)), (2, .ref (adM 0)), (3, .int (nI i))]) : W p l e room_1 s m #[Value.ref b] below meth c H locs 95 19212 (lw_Z below #[Value.ref b] s) (F0 m 604 ls []) := by
  have hx := C.1
  have hb := C.2.1
  have hXs := C.2.2.2.2.2.2.2.2.2.2.1
  have hbl := C.2.2.2.2.2.2.2.2.2.2.2.1
  obtain ⟨r, σX1, σM1, hfX, hfM, hR1⟩ := S n σX σM hn hR (xs (nI i + 1).toNatClampNeg)
  refine lv_aload_n hx hb dL_law_604 rfl (lv_at hl 1 rfl) ?_
  refine lv_aload_n hx hb dL_law_605 rfl (lv_at hl 0 rfl) ?_
  refine lv_iload_n hx hb dL_law_606 rfl (lv_at hl 3 rfl) ?_
  refine lv_iconst (v := 1) hx hb dL_law_607 (by decide) ?_
  refine lv_iadd hx hb dL_law_608 ?_
  refine va_sld hx hb hXs hbl (Nat.not_le.mpr hbl) hW.2.2 (lw_in hi hL 1 (by decide)) dL_law_609 ?_
  refine lw_callX (rest := []) C hW hl.1 cV_L_68 rfl (kX11_weeks l D adX κ hfX) ⟨rfl, rfl⟩ ⟨(Nat.le_of_ble_eq_true rfl), (Nat.le_of_ble_eq_true rfl)⟩ rfl rfl (Nat.le_of_ble_eq_true rfl) dL_law_610 (fun H locs hW => ?_)
  refine lv_aload_n hx hb dL_law_613 rfl (lv_at hl 2 rfl) ?_
  refine lv_aload_n hx hb dL_law_614 rfl (lv_at hl 0 rfl) ?_
  refine lv_iload_n hx hb dL_law_615 rfl (lv_at hl 3 rfl) ?_
  refine lv_iconst (v := 1) hx hb dL_law_616 (by decide) ?_
  refine lv_iadd hx hb dL_law_617 ?_
  refine va_sld hx hb hXs hbl (Nat.not_le.mpr hbl) hW.2.2 (lw_in hi hL 1 (by decide)) dL_law_618 ?_
  refine lw_callM (rest := [.int r]) C hW hl.1 cV_L_71 rfl (kX12_weeks l D adM κ hfM) ⟨rfl, rfl⟩ ⟨(Nat.le_of_ble_eq_true rfl), (Nat.le_of_ble_eq_true rfl)⟩ rfl rfl (Nat.le_of_ble_eq_true rfl) dL_law_619 (fun H locs hW => ?_)
  refine lv_icmp_eq (tgt := 1440) hx hb dL_law_622 (by decide) (fun _ => ?_) (fun hc => absurd rfl hc)
  exact law_next C hW ih hR1 hl
set_option maxHeartbeats 4000000 in
set_option maxRecDepth 100000 in
theorem law_c13 {Rel : Nat → HS → HS → Prop} {i n : Nat} (S : St_13 Rel) (C : LC D κ adX adM p s m meth c b L xs) (hi : i + 6 ≤ L) (hL : L ≤ 3072) (hn : n < 512) (ih : ∀ (σX σM : HS) (H : Heap) (locs : List Loc) (ls : Array Slot), Rel (n + 1) σX σM → Lw D κ adX adM s σX σM H locs → lv_has ls 4 [(0, .ref b), (1, .ref (adX 0)), (2, .ref (adM 0)), (3, .int (nI (i + 6)))] → W p l e room_1 s m #[Value.ref b] below meth c H locs 95 19212 (lw_Z below #[Value.ref b] s) (F0 m 18 ls [])) (hR : Rel n σX σM) (hW : Lw D κ adX adM s σX σM H locs) (hl : lv_has ls 4 [(0, .ref b), (1, .ref (adX 0)), (2, .ref (adM 0)), (3, .int (nI i))]) : W p l e room_1 s m #[Value.ref b] below meth c H locs 95 19212 (lw_Z below #[Value.ref b] s) (F0 m 627 ls []) := by
  have hx := C.1
  have hb := C.2.1
  have hXs := C.2.2.2.2.2.2.2.2.2.2.1
  have hbl := C.2.2.2.2.2.2.2.2.2.2.2.1
  obtain ⟨r, σX1, σM1, hfX, hfM, hR1⟩ := S n σX σM hn hR 
  refine lv_aload_n hx hb dL_law_627 rfl (lv_at hl 1 rfl) ?_
  refine lw_callX (rest := []) C hW hl.1 cV_L_72 rfl (kX11_undo l D adX κ hfX) ⟨rfl, rfl⟩ ⟨(Nat.le_of_ble_eq_true rfl), (Nat.le_of_ble_eq_true rfl)⟩ rfl rfl (Nat.le_of_ble_eq_true rfl) dL_law_628 (fun H locs hW => ?_)
  refine lv_aload_n hx hb dL_law_631 rfl (lv_at hl 2 rfl) ?_
  refine lw_callM (rest := [.int r]) C hW hl.1 cV_L_76 rfl (kX12_undo l D adM κ hfM) ⟨rfl, rfl⟩ ⟨(Nat.le_of_ble_eq_true rfl), (Nat.le_of_ble_eq_true rfl)⟩ rfl rfl (Nat.le_of_ble_eq_true rfl) dL_law_632 (fun H locs hW => ?_)
  refine lv_icmp_eq (tgt := 1440) hx hb dL_law_635 (by decide) (fun _ => ?_) (fun hc => absurd rfl hc)
  exact law_next C hW ih hR1 hl
set_option maxHeartbeats 4000000 in
set_option maxRecDepth 100000 in
theorem law_c14 {Rel : Nat → HS → HS → Prop} {i n : Nat} (S : St_14 Rel) (C : LC D κ adX adM p s m meth c b L xs) (hi : i + 6 ≤ L) (hL : L ≤ 3072) (hn : n < 512) (ih : ∀ (σX σM : HS) (H : Heap) (locs : List Loc) (ls : Array Slot), Rel (n + 1) σX σM → Lw D κ adX adM s σX σM H locs → lv_has ls 4 [(0, .ref b), (1, .ref (adX 0)), (2, .ref (adM 0)), (3, .int (nI (i + 6)))] → W p l e room_1 s m #[Value.ref b] below meth c H locs 95 19212 (lw_Z below #[Value.ref b] s) (F0 m 18 ls [])) (hR : Rel n σX σM) (hW : Lw D κ adX adM s σX σM H locs) (hl : lv_has ls 4 [(0, .ref b), (1, .ref (adX 0)), (2, .ref (adM 0)), (3, .int (nI i))]) : W p l e room_1 s m #[Value.ref b] below meth c H locs 95 19212 (lw_Z below #[Value.ref b] s) (F0 m 640 ls []) := by
  have hx := C.1
  have hb := C.2.1
  have hXs := C.2.2.2.2.2.2.2.2.2.2.1
  have hbl := C.2.2.2.2.2.2.2.2.2.2.2.1
  obtain ⟨r, σX1, σM1, hfX, hfM, hR1⟩ := S n σX σM hn hR (xs (nI i + 1).toNatClampNeg)
  refine lv_aload_n hx hb dL_law_640 rfl (lv_at hl 1 rfl) ?_
  refine lv_aload_n hx hb dL_law_641 rfl (lv_at hl 0 rfl) ?_
  refine lv_iload_n hx hb dL_law_642 rfl (lv_at hl 3 rfl) ?_
  refine lv_iconst (v := 1) hx hb dL_law_643 (by decide) ?_
  refine lv_iadd hx hb dL_law_644 ?_
  refine va_sld hx hb hXs hbl (Nat.not_le.mpr hbl) hW.2.2 (lw_in hi hL 1 (by decide)) dL_law_645 ?_
  refine lw_callX (rest := []) C hW hl.1 cV_L_77 rfl (kX11_odds l D adX κ hfX) ⟨rfl, rfl⟩ ⟨(Nat.le_of_ble_eq_true rfl), (Nat.le_of_ble_eq_true rfl)⟩ rfl rfl (Nat.le_of_ble_eq_true rfl) dL_law_646 (fun H locs hW => ?_)
  refine lv_aload_n hx hb dL_law_649 rfl (lv_at hl 2 rfl) ?_
  refine lv_aload_n hx hb dL_law_650 rfl (lv_at hl 0 rfl) ?_
  refine lv_iload_n hx hb dL_law_651 rfl (lv_at hl 3 rfl) ?_
  refine lv_iconst (v := 1) hx hb dL_law_652 (by decide) ?_
  refine lv_iadd hx hb dL_law_653 ?_
  refine va_sld hx hb hXs hbl (Nat.not_le.mpr hbl) hW.2.2 (lw_in hi hL 1 (by decide)) dL_law_654 ?_
  refine lw_callM (rest := [.int r]) C hW hl.1 cV_L_80 rfl (kX12_odds l D adM κ hfM) ⟨rfl, rfl⟩ ⟨(Nat.le_of_ble_eq_true rfl), (Nat.le_of_ble_eq_true rfl)⟩ rfl rfl (Nat.le_of_ble_eq_true rfl) dL_law_655 (fun H locs hW => ?_)
  refine lv_icmp_eq (tgt := 1440) hx hb dL_law_658 (by decide) (fun _ => ?_) (fun hc => absurd rfl hc)
  exact law_next C hW ih hR1 hl
set_option maxHeartbeats 4000000 in
set_option maxRecDepth 100000 in
theorem law_c15 {Rel : Nat → HS → HS → Prop} {i n : Nat} (S : St_15 Rel) (C : LC D κ adX adM p s m meth c b L xs) (hi : i + 6 ≤ L) (hL : L ≤ 3072) (hn : n < 512) (ih : ∀ (σX σM : HS) (H : Heap) (locs : List Loc) (ls : Array Slot), Rel (n + 1) σX σM → Lw D κ adX adM s σX σM H locs → lv_has ls 4 [(0, .ref b), (1, .ref (adX 0)), (2, .ref (adM 0)), (3, .int (nI (i + 6)))] → W p l e room_1 s m #[Value.ref b] below meth c H locs 95 19212 (lw_Z below #[Value.ref b] s) (F0 m 18 ls [])) (hR : Rel n σX σM) (hW : Lw D κ adX adM s σX σM H locs) (hl : lv_has ls 4 [(0, .ref b), (1, .ref (adX 0)), (2, .ref (adM 0)), (3, .int (nI i))]) : W p l e room_1 s m #[Value.ref b] below meth c H locs 95 19212 (lw_Z below #[Value.ref b] s) (F0 m 663 ls []) := by
  have hx := C.1
  have hb := C.2.1
  have hXs := C.2.2.2.2.2.2.2.2.2.2.1
  have hbl := C.2.2.2.2.2.2.2.2.2.2.2.1
  obtain ⟨r, σX1, σM1, hfX, hfM, hR1⟩ := S n σX σM hn hR (xs (nI i + 1).toNatClampNeg) (xs (nI i + 2).toNatClampNeg)
  refine lv_aload_n hx hb dL_law_663 rfl (lv_at hl 1 rfl) ?_
  refine lv_aload_n hx hb dL_law_664 rfl (lv_at hl 0 rfl) ?_
  refine lv_iload_n hx hb dL_law_665 rfl (lv_at hl 3 rfl) ?_
  refine lv_iconst (v := 1) hx hb dL_law_666 (by decide) ?_
  refine lv_iadd hx hb dL_law_667 ?_
  refine va_sld hx hb hXs hbl (Nat.not_le.mpr hbl) hW.2.2 (lw_in hi hL 1 (by decide)) dL_law_668 ?_
  refine lv_aload_n hx hb dL_law_669 rfl (lv_at hl 0 rfl) ?_
  refine lv_iload_n hx hb dL_law_670 rfl (lv_at hl 3 rfl) ?_
  refine lv_iconst (v := 2) hx hb dL_law_671 (by decide) ?_
  refine lv_iadd hx hb dL_law_672 ?_
  refine va_sld hx hb hXs hbl (Nat.not_le.mpr hbl) hW.2.2 (lw_in hi hL 2 (by decide)) dL_law_673 ?_
  refine lw_callX (rest := []) C hW hl.1 cV_L_81 rfl (kX11_falls l D adX κ hfX) ⟨rfl, rfl⟩ ⟨(Nat.le_of_ble_eq_true rfl), (Nat.le_of_ble_eq_true rfl)⟩ rfl rfl (Nat.le_of_ble_eq_true rfl) dL_law_674 (fun H locs hW => ?_)
  refine lv_aload_n hx hb dL_law_677 rfl (lv_at hl 2 rfl) ?_
  refine lv_aload_n hx hb dL_law_678 rfl (lv_at hl 0 rfl) ?_
  refine lv_iload_n hx hb dL_law_679 rfl (lv_at hl 3 rfl) ?_
  refine lv_iconst (v := 1) hx hb dL_law_680 (by decide) ?_
  refine lv_iadd hx hb dL_law_681 ?_
  refine va_sld hx hb hXs hbl (Nat.not_le.mpr hbl) hW.2.2 (lw_in hi hL 1 (by decide)) dL_law_682 ?_
  refine lv_aload_n hx hb dL_law_683 rfl (lv_at hl 0 rfl) ?_
  refine lv_iload_n hx hb dL_law_684 rfl (lv_at hl 3 rfl) ?_
  refine lv_iconst (v := 2) hx hb dL_law_685 (by decide) ?_
  refine lv_iadd hx hb dL_law_686 ?_
  refine va_sld hx hb hXs hbl (Nat.not_le.mpr hbl) hW.2.2 (lw_in hi hL 2 (by decide)) dL_law_687 ?_
  refine lw_callM (rest := [.int r]) C hW hl.1 cV_L_84 rfl (kX12_falls l D adM κ hfM) ⟨rfl, rfl⟩ ⟨(Nat.le_of_ble_eq_true rfl), (Nat.le_of_ble_eq_true rfl)⟩ rfl rfl (Nat.le_of_ble_eq_true rfl) dL_law_688 (fun H locs hW => ?_)
  refine lv_icmp_eq (tgt := 1440) hx hb dL_law_691 (by decide) (fun _ => ?_) (fun hc => absurd rfl hc)
  exact law_next C hW ih hR1 hl
set_option maxHeartbeats 4000000 in
set_option maxRecDepth 100000 in
theorem law_c16 {Rel : Nat → HS → HS → Prop} {i n : Nat} (S : St_16 Rel) (C : LC D κ adX adM p s m meth c b L xs) (hi : i + 6 ≤ L) (hL : L ≤ 3072) (hn : n < 512) (ih : ∀ (σX σM : HS) (H : Heap) (locs : List Loc) (ls : Array Slot), Rel (n + 1) σX σM → Lw D κ adX adM s σX σM H locs → lv_has ls 4 [(0, .ref b), (1, .ref (adX 0)), (2, .ref (adM 0)), (3, .int (nI (i + 6)))] → W p l e room_1 s m #[Value.ref b] below meth c H locs 95 19212 (lw_Z below #[Value.ref b] s) (F0 m 18 ls [])) (hR : Rel n σX σM) (hW : Lw D κ adX adM s σX σM H locs) (hl : lv_has ls 4 [(0, .ref b), (1, .ref (adX 0)), (2, .ref (adM 0)), (3, .int (nI i))]) : W p l e room_1 s m #[Value.ref b] below meth c H locs 95 19212 (lw_Z below #[Value.ref b] s) (F0 m 696 ls []) := by
  have hx := C.1
  have hb := C.2.1
  have hXs := C.2.2.2.2.2.2.2.2.2.2.1
  have hbl := C.2.2.2.2.2.2.2.2.2.2.2.1
  obtain ⟨r, σX1, σM1, hfX, hfM, hR1⟩ := S n σX σM hn hR (xs (nI i + 1).toNatClampNeg) (xs (nI i + 2).toNatClampNeg)
  refine lv_aload_n hx hb dL_law_696 rfl (lv_at hl 1 rfl) ?_
  refine lv_aload_n hx hb dL_law_697 rfl (lv_at hl 0 rfl) ?_
  refine lv_iload_n hx hb dL_law_698 rfl (lv_at hl 3 rfl) ?_
  refine lv_iconst (v := 1) hx hb dL_law_699 (by decide) ?_
  refine lv_iadd hx hb dL_law_700 ?_
  refine va_sld hx hb hXs hbl (Nat.not_le.mpr hbl) hW.2.2 (lw_in hi hL 1 (by decide)) dL_law_701 ?_
  refine lv_aload_n hx hb dL_law_702 rfl (lv_at hl 0 rfl) ?_
  refine lv_iload_n hx hb dL_law_703 rfl (lv_at hl 3 rfl) ?_
  refine lv_iconst (v := 2) hx hb dL_law_704 (by decide) ?_
  refine lv_iadd hx hb dL_law_705 ?_
  refine va_sld hx hb hXs hbl (Nat.not_le.mpr hbl) hW.2.2 (lw_in hi hL 2 (by decide)) dL_law_706 ?_
  refine lw_callX (rest := []) C hW hl.1 cV_L_85 rfl (kX11_value l D adX κ hfX) ⟨rfl, rfl⟩ ⟨(Nat.le_of_ble_eq_true rfl), (Nat.le_of_ble_eq_true rfl)⟩ rfl rfl (Nat.le_of_ble_eq_true rfl) dL_law_707 (fun H locs hW => ?_)
  refine lv_aload_n hx hb dL_law_710 rfl (lv_at hl 2 rfl) ?_
  refine lv_aload_n hx hb dL_law_711 rfl (lv_at hl 0 rfl) ?_
  refine lv_iload_n hx hb dL_law_712 rfl (lv_at hl 3 rfl) ?_
  refine lv_iconst (v := 1) hx hb dL_law_713 (by decide) ?_
  refine lv_iadd hx hb dL_law_714 ?_
  refine va_sld hx hb hXs hbl (Nat.not_le.mpr hbl) hW.2.2 (lw_in hi hL 1 (by decide)) dL_law_715 ?_
  refine lv_aload_n hx hb dL_law_716 rfl (lv_at hl 0 rfl) ?_
  refine lv_iload_n hx hb dL_law_717 rfl (lv_at hl 3 rfl) ?_
  refine lv_iconst (v := 2) hx hb dL_law_718 (by decide) ?_
  refine lv_iadd hx hb dL_law_719 ?_
  refine va_sld hx hb hXs hbl (Nat.not_le.mpr hbl) hW.2.2 (lw_in hi hL 2 (by decide)) dL_law_720 ?_
  refine lw_callM (rest := [.int r]) C hW hl.1 cV_L_88 rfl (kX12_value l D adM κ hfM) ⟨rfl, rfl⟩ ⟨(Nat.le_of_ble_eq_true rfl), (Nat.le_of_ble_eq_true rfl)⟩ rfl rfl (Nat.le_of_ble_eq_true rfl) dL_law_721 (fun H locs hW => ?_)
  refine lv_icmp_eq (tgt := 1440) hx hb dL_law_724 (by decide) (fun _ => ?_) (fun hc => absurd rfl hc)
  exact law_next C hW ih hR1 hl
set_option maxHeartbeats 4000000 in
set_option maxRecDepth 100000 in
theorem law_c17 {Rel : Nat → HS → HS → Prop} {i n : Nat} (S : St_17 Rel) (C : LC D κ adX adM p s m meth c b L xs) (hi : i + 6 ≤ L) (hL : L ≤ 3072) (hn : n < 512) (ih : ∀ (σX σM : HS) (H : Heap) (locs : List Loc) (ls : Array Slot), Rel (n + 1) σX σM → Lw D κ adX adM s σX σM H locs → lv_has ls 4 [(0, .ref b), (1, .ref (adX 0)), (2, .ref (adM 0)), (3, .int (nI (i + 6)))] → W p l e room_1 s m #[Value.ref b] below meth c H locs 95 19212 (lw_Z below #[Value.ref b] s) (F0 m 18 ls [])) (hR : Rel n σX σM) (hW : Lw D κ adX adM s σX σM H locs) (hl : lv_has ls 4 [(0, .ref b), (1, .ref (adX 0)), (2, .ref (adM 0)), (3, .int (nI i))]) : W p l e room_1 s m #[Value.ref b] below meth c H locs 95 19212 (lw_Z below #[Value.ref b] s) (F0 m 729 ls []) := by
  have hx := C.1
  have hb := C.2.1
  have hXs := C.2.2.2.2.2.2.2.2.2.2.1
  have hbl := C.2.2.2.2.2.2.2.2.2.2.2.1
  obtain ⟨r, σX1, σM1, hfX, hfM, hR1⟩ := S n σX σM hn hR (xs (nI i + 1).toNatClampNeg)
  refine lv_aload_n hx hb dL_law_729 rfl (lv_at hl 1 rfl) ?_
  refine lv_aload_n hx hb dL_law_730 rfl (lv_at hl 0 rfl) ?_
  refine lv_iload_n hx hb dL_law_731 rfl (lv_at hl 3 rfl) ?_
  refine lv_iconst (v := 1) hx hb dL_law_732 (by decide) ?_
  refine lv_iadd hx hb dL_law_733 ?_
  refine va_sld hx hb hXs hbl (Nat.not_le.mpr hbl) hW.2.2 (lw_in hi hL 1 (by decide)) dL_law_734 ?_
  refine lw_callX (rest := []) C hW hl.1 cV_L_89 rfl (kX11_have l D adX κ hfX) ⟨rfl, rfl⟩ ⟨(Nat.le_of_ble_eq_true rfl), (Nat.le_of_ble_eq_true rfl)⟩ rfl rfl (Nat.le_of_ble_eq_true rfl) dL_law_735 (fun H locs hW => ?_)
  refine lv_aload_n hx hb dL_law_738 rfl (lv_at hl 2 rfl) ?_
  refine lv_aload_n hx hb dL_law_739 rfl (lv_at hl 0 rfl) ?_
  refine lv_iload_n hx hb dL_law_740 rfl (lv_at hl 3 rfl) ?_
  refine lv_iconst (v := 1) hx hb dL_law_741 (by decide) ?_
  refine lv_iadd hx hb dL_law_742 ?_
  refine va_sld hx hb hXs hbl (Nat.not_le.mpr hbl) hW.2.2 (lw_in hi hL 1 (by decide)) dL_law_743 ?_
  refine lw_callM (rest := [.int r]) C hW hl.1 cV_L_92 rfl (kX12_have l D adM κ hfM) ⟨rfl, rfl⟩ ⟨(Nat.le_of_ble_eq_true rfl), (Nat.le_of_ble_eq_true rfl)⟩ rfl rfl (Nat.le_of_ble_eq_true rfl) dL_law_744 (fun H locs hW => ?_)
  refine lv_icmp_eq (tgt := 1440) hx hb dL_law_747 (by decide) (fun _ => ?_) (fun hc => absurd rfl hc)
  exact law_next C hW ih hR1 hl
set_option maxHeartbeats 4000000 in
set_option maxRecDepth 100000 in
theorem law_c18 {Rel : Nat → HS → HS → Prop} {i n : Nat} (S : St_18 Rel) (C : LC D κ adX adM p s m meth c b L xs) (hi : i + 6 ≤ L) (hL : L ≤ 3072) (hn : n < 512) (ih : ∀ (σX σM : HS) (H : Heap) (locs : List Loc) (ls : Array Slot), Rel (n + 1) σX σM → Lw D κ adX adM s σX σM H locs → lv_has ls 4 [(0, .ref b), (1, .ref (adX 0)), (2, .ref (adM 0)), (3, .int (nI (i + 6)))] → W p l e room_1 s m #[Value.ref b] below meth c H locs 95 19212 (lw_Z below #[Value.ref b] s) (F0 m 18 ls [])) (hR : Rel n σX σM) (hW : Lw D κ adX adM s σX σM H locs) (hl : lv_has ls 4 [(0, .ref b), (1, .ref (adX 0)), (2, .ref (adM 0)), (3, .int (nI i))]) : W p l e room_1 s m #[Value.ref b] below meth c H locs 95 19212 (lw_Z below #[Value.ref b] s) (F0 m 752 ls []) := by
  have hx := C.1
  have hb := C.2.1
  have hXs := C.2.2.2.2.2.2.2.2.2.2.1
  have hbl := C.2.2.2.2.2.2.2.2.2.2.2.1
  obtain ⟨r, σX1, σM1, hfX, hfM, hR1⟩ := S n σX σM hn hR (xs (nI i + 1).toNatClampNeg) (xs (nI i + 2).toNatClampNeg)
  refine lv_aload_n hx hb dL_law_752 rfl (lv_at hl 1 rfl) ?_
  refine lv_aload_n hx hb dL_law_753 rfl (lv_at hl 0 rfl) ?_
  refine lv_iload_n hx hb dL_law_754 rfl (lv_at hl 3 rfl) ?_
  refine lv_iconst (v := 1) hx hb dL_law_755 (by decide) ?_
  refine lv_iadd hx hb dL_law_756 ?_
  refine va_sld hx hb hXs hbl (Nat.not_le.mpr hbl) hW.2.2 (lw_in hi hL 1 (by decide)) dL_law_757 ?_
  refine lv_aload_n hx hb dL_law_758 rfl (lv_at hl 0 rfl) ?_
  refine lv_iload_n hx hb dL_law_759 rfl (lv_at hl 3 rfl) ?_
  refine lv_iconst (v := 2) hx hb dL_law_760 (by decide) ?_
  refine lv_iadd hx hb dL_law_761 ?_
  refine va_sld hx hb hXs hbl (Nat.not_le.mpr hbl) hW.2.2 (lw_in hi hL 2 (by decide)) dL_law_762 ?_
  refine lw_callX (rest := []) C hW hl.1 cV_L_93 rfl (kX11_mode l D adX κ hfX) ⟨rfl, rfl⟩ ⟨(Nat.le_of_ble_eq_true rfl), (Nat.le_of_ble_eq_true rfl)⟩ rfl rfl (Nat.le_of_ble_eq_true rfl) dL_law_763 (fun H locs hW => ?_)
  refine lv_aload_n hx hb dL_law_766 rfl (lv_at hl 2 rfl) ?_
  refine lv_aload_n hx hb dL_law_767 rfl (lv_at hl 0 rfl) ?_
  refine lv_iload_n hx hb dL_law_768 rfl (lv_at hl 3 rfl) ?_
  refine lv_iconst (v := 1) hx hb dL_law_769 (by decide) ?_
  refine lv_iadd hx hb dL_law_770 ?_
  refine va_sld hx hb hXs hbl (Nat.not_le.mpr hbl) hW.2.2 (lw_in hi hL 1 (by decide)) dL_law_771 ?_
  refine lv_aload_n hx hb dL_law_772 rfl (lv_at hl 0 rfl) ?_
  refine lv_iload_n hx hb dL_law_773 rfl (lv_at hl 3 rfl) ?_
  refine lv_iconst (v := 2) hx hb dL_law_774 (by decide) ?_
  refine lv_iadd hx hb dL_law_775 ?_
  refine va_sld hx hb hXs hbl (Nat.not_le.mpr hbl) hW.2.2 (lw_in hi hL 2 (by decide)) dL_law_776 ?_
  refine lw_callM (rest := [.int r]) C hW hl.1 cV_L_96 rfl (kX12_mode l D adM κ hfM) ⟨rfl, rfl⟩ ⟨(Nat.le_of_ble_eq_true rfl), (Nat.le_of_ble_eq_true rfl)⟩ rfl rfl (Nat.le_of_ble_eq_true rfl) dL_law_777 (fun H locs hW => ?_)
  refine lv_icmp_eq (tgt := 1440) hx hb dL_law_780 (by decide) (fun _ => ?_) (fun hc => absurd rfl hc)
  exact law_next C hW ih hR1 hl
set_option maxHeartbeats 4000000 in
set_option maxRecDepth 100000 in
theorem law_c19 {Rel : Nat → HS → HS → Prop} {i n : Nat} (S : St_19 Rel) (C : LC D κ adX adM p s m meth c b L xs) (hi : i + 6 ≤ L) (hL : L ≤ 3072) (hn : n < 512) (ih : ∀ (σX σM : HS) (H : Heap) (locs : List Loc) (ls : Array Slot), Rel (n + 1) σX σM → Lw D κ adX adM s σX σM H locs → lv_has ls 4 [(0, .ref b), (1, .ref (adX 0)), (2, .ref (adM 0)), (3, .int (nI (i + 6)))] → W p l e room_1 s m #[Value.ref b] below meth c H locs 95 19212 (lw_Z below #[Value.ref b] s) (F0 m 18 ls [])) (hR : Rel n σX σM) (hW : Lw D κ adX adM s σX σM H locs) (hl : lv_has ls 4 [(0, .ref b), (1, .ref (adX 0)), (2, .ref (adM 0)), (3, .int (nI i))]) : W p l e room_1 s m #[Value.ref b] below meth c H locs 95 19212 (lw_Z below #[Value.ref b] s) (F0 m 785 ls []) := by
  have hx := C.1
  have hb := C.2.1
  have hXs := C.2.2.2.2.2.2.2.2.2.2.1
  have hbl := C.2.2.2.2.2.2.2.2.2.2.2.1
  obtain ⟨r, σX1, σM1, hfX, hfM, hR1⟩ := S n σX σM hn hR 
  refine lv_aload_n hx hb dL_law_785 rfl (lv_at hl 1 rfl) ?_
  refine lw_callX (rest := []) C hW hl.1 cV_L_97 rfl (kX11_mean l D adX κ hfX) ⟨rfl, rfl⟩ ⟨(Nat.le_of_ble_eq_true rfl), (Nat.le_of_ble_eq_true rfl)⟩ rfl rfl (Nat.le_of_ble_eq_true rfl) dL_law_786 (fun H locs hW => ?_)
  refine lv_aload_n hx hb dL_law_789 rfl (lv_at hl 2 rfl) ?_
  refine lw_callM (rest := [.int r]) C hW hl.1 cV_L_100 rfl (kX12_mean l D adM κ hfM) ⟨rfl, rfl⟩ ⟨(Nat.le_of_ble_eq_true rfl), (Nat.le_of_ble_eq_true rfl)⟩ rfl rfl (Nat.le_of_ble_eq_true rfl) dL_law_790 (fun H locs hW => ?_)
  refine lv_icmp_eq (tgt := 1440) hx hb dL_law_793 (by decide) (fun _ => ?_) (fun hc => absurd rfl hc)
  exact law_next C hW ih hR1 hl
set_option maxHeartbeats 4000000 in
set_option maxRecDepth 100000 in
theorem law_c20 {Rel : Nat → HS → HS → Prop} {i n : Nat} (S : St_20 Rel) (C : LC D κ adX adM p s m meth c b L xs) (hi : i + 6 ≤ L) (hL : L ≤ 3072) (hn : n < 512) (ih : ∀ (σX σM : HS) (H : Heap) (locs : List Loc) (ls : Array Slot), Rel (n + 1) σX σM → Lw D κ adX adM s σX σM H locs → lv_has ls 4 [(0, .ref b), (1, .ref (adX 0)), (2, .ref (adM 0)), (3, .int (nI (i + 6)))] → W p l e room_1 s m #[Value.ref b] below meth c H locs 95 19212 (lw_Z below #[Value.ref b] s) (F0 m 18 ls [])) (hR : Rel n σX σM) (hW : Lw D κ adX adM s σX σM H locs) (hl : lv_has ls 4 [(0, .ref b), (1, .ref (adX 0)), (2, .ref (adM 0)), (3, .int (nI i))]) : W p l e room_1 s m #[Value.ref b] below meth c H locs 95 19212 (lw_Z below #[Value.ref b] s) (F0 m 798 ls []) := by
  have hx := C.1
  have hb := C.2.1
  have hXs := C.2.2.2.2.2.2.2.2.2.2.1
  have hbl := C.2.2.2.2.2.2.2.2.2.2.2.1
  obtain ⟨r, σX1, σM1, hfX, hfM, hR1⟩ := S n σX σM hn hR (xs (nI i + 1).toNatClampNeg) (xs (nI i + 2).toNatClampNeg)
  refine lv_aload_n hx hb dL_law_798 rfl (lv_at hl 1 rfl) ?_
  refine lv_aload_n hx hb dL_law_799 rfl (lv_at hl 0 rfl) ?_
  refine lv_iload_n hx hb dL_law_800 rfl (lv_at hl 3 rfl) ?_
  refine lv_iconst (v := 1) hx hb dL_law_801 (by decide) ?_
  refine lv_iadd hx hb dL_law_802 ?_
  refine va_sld hx hb hXs hbl (Nat.not_le.mpr hbl) hW.2.2 (lw_in hi hL 1 (by decide)) dL_law_803 ?_
  refine lv_aload_n hx hb dL_law_804 rfl (lv_at hl 0 rfl) ?_
  refine lv_iload_n hx hb dL_law_805 rfl (lv_at hl 3 rfl) ?_
  refine lv_iconst (v := 2) hx hb dL_law_806 (by decide) ?_
  refine lv_iadd hx hb dL_law_807 ?_
  refine va_sld hx hb hXs hbl (Nat.not_le.mpr hbl) hW.2.2 (lw_in hi hL 2 (by decide)) dL_law_808 ?_
  refine lw_callX (rest := []) C hW hl.1 cV_L_101 rfl (kX11_both l D adX κ hfX) ⟨rfl, rfl⟩ ⟨(Nat.le_of_ble_eq_true rfl), (Nat.le_of_ble_eq_true rfl)⟩ rfl rfl (Nat.le_of_ble_eq_true rfl) dL_law_809 (fun H locs hW => ?_)
  refine lv_aload_n hx hb dL_law_812 rfl (lv_at hl 2 rfl) ?_
  refine lv_aload_n hx hb dL_law_813 rfl (lv_at hl 0 rfl) ?_
  refine lv_iload_n hx hb dL_law_814 rfl (lv_at hl 3 rfl) ?_
  refine lv_iconst (v := 1) hx hb dL_law_815 (by decide) ?_
  refine lv_iadd hx hb dL_law_816 ?_
  refine va_sld hx hb hXs hbl (Nat.not_le.mpr hbl) hW.2.2 (lw_in hi hL 1 (by decide)) dL_law_817 ?_
  refine lv_aload_n hx hb dL_law_818 rfl (lv_at hl 0 rfl) ?_
  refine lv_iload_n hx hb dL_law_819 rfl (lv_at hl 3 rfl) ?_
  refine lv_iconst (v := 2) hx hb dL_law_820 (by decide) ?_
  refine lv_iadd hx hb dL_law_821 ?_
  refine va_sld hx hb hXs hbl (Nat.not_le.mpr hbl) hW.2.2 (lw_in hi hL 2 (by decide)) dL_law_822 ?_
  refine lw_callM (rest := [.int r]) C hW hl.1 cV_L_104 rfl (kX12_both l D adM κ hfM) ⟨rfl, rfl⟩ ⟨(Nat.le_of_ble_eq_true rfl), (Nat.le_of_ble_eq_true rfl)⟩ rfl rfl (Nat.le_of_ble_eq_true rfl) dL_law_823 (fun H locs hW => ?_)
  refine lv_icmp_eq (tgt := 1440) hx hb dL_law_826 (by decide) (fun _ => ?_) (fun hc => absurd rfl hc)
  exact law_next C hW ih hR1 hl
set_option maxHeartbeats 4000000 in
set_option maxRecDepth 100000 in
theorem law_c21 {Rel : Nat → HS → HS → Prop} {i n : Nat} (S : St_21 Rel) (C : LC D κ adX adM p s m meth c b L xs) (hi : i + 6 ≤ L) (hL : L ≤ 3072) (hn : n < 512) (ih : ∀ (σX σM : HS) (H : Heap) (locs : List Loc) (ls : Array Slot), Rel (n + 1) σX σM → Lw D κ adX adM s σX σM H locs → lv_has ls 4 [(0, .ref b), (1, .ref (adX 0)), (2, .ref (adM 0)), (3, .int (nI (i + 6)))] → W p l e room_1 s m #[Value.ref b] below meth c H locs 95 19212 (lw_Z below #[Value.ref b] s) (F0 m 18 ls [])) (hR : Rel n σX σM) (hW : Lw D κ adX adM s σX σM H locs) (hl : lv_has ls 4 [(0, .ref b), (1, .ref (adX 0)), (2, .ref (adM 0)), (3, .int (nI i))]) : W p l e room_1 s m #[Value.ref b] below meth c H locs 95 19212 (lw_Z below #[Value.ref b] s) (F0 m 831 ls []) := by
  have hx := C.1
  have hb := C.2.1
  have hXs := C.2.2.2.2.2.2.2.2.2.2.1
  have hbl := C.2.2.2.2.2.2.2.2.2.2.2.1
  obtain ⟨r, σX1, σM1, hfX, hfM, hR1⟩ := S n σX σM hn hR (xs (nI i + 1).toNatClampNeg) (xs (nI i + 2).toNatClampNeg)
  refine lv_aload_n hx hb dL_law_831 rfl (lv_at hl 1 rfl) ?_
  refine lv_aload_n hx hb dL_law_832 rfl (lv_at hl 0 rfl) ?_
  refine lv_iload_n hx hb dL_law_833 rfl (lv_at hl 3 rfl) ?_
  refine lv_iconst (v := 1) hx hb dL_law_834 (by decide) ?_
  refine lv_iadd hx hb dL_law_835 ?_
  refine va_sld hx hb hXs hbl (Nat.not_le.mpr hbl) hW.2.2 (lw_in hi hL 1 (by decide)) dL_law_836 ?_
  refine lv_aload_n hx hb dL_law_837 rfl (lv_at hl 0 rfl) ?_
  refine lv_iload_n hx hb dL_law_838 rfl (lv_at hl 3 rfl) ?_
  refine lv_iconst (v := 2) hx hb dL_law_839 (by decide) ?_
  refine lv_iadd hx hb dL_law_840 ?_
  refine va_sld hx hb hXs hbl (Nat.not_le.mpr hbl) hW.2.2 (lw_in hi hL 2 (by decide)) dL_law_841 ?_
  refine lw_callX (rest := []) C hW hl.1 cV_L_105 rfl (kX11_with l D adX κ hfX) ⟨rfl, rfl⟩ ⟨(Nat.le_of_ble_eq_true rfl), (Nat.le_of_ble_eq_true rfl)⟩ rfl rfl (Nat.le_of_ble_eq_true rfl) dL_law_842 (fun H locs hW => ?_)
  refine lv_aload_n hx hb dL_law_845 rfl (lv_at hl 2 rfl) ?_
  refine lv_aload_n hx hb dL_law_846 rfl (lv_at hl 0 rfl) ?_
  refine lv_iload_n hx hb dL_law_847 rfl (lv_at hl 3 rfl) ?_
  refine lv_iconst (v := 1) hx hb dL_law_848 (by decide) ?_
  refine lv_iadd hx hb dL_law_849 ?_
  refine va_sld hx hb hXs hbl (Nat.not_le.mpr hbl) hW.2.2 (lw_in hi hL 1 (by decide)) dL_law_850 ?_
  refine lv_aload_n hx hb dL_law_851 rfl (lv_at hl 0 rfl) ?_
  refine lv_iload_n hx hb dL_law_852 rfl (lv_at hl 3 rfl) ?_
  refine lv_iconst (v := 2) hx hb dL_law_853 (by decide) ?_
  refine lv_iadd hx hb dL_law_854 ?_
  refine va_sld hx hb hXs hbl (Nat.not_le.mpr hbl) hW.2.2 (lw_in hi hL 2 (by decide)) dL_law_855 ?_
  refine lw_callM (rest := [.int r]) C hW hl.1 cV_L_108 rfl (kX12_with l D adM κ hfM) ⟨rfl, rfl⟩ ⟨(Nat.le_of_ble_eq_true rfl), (Nat.le_of_ble_eq_true rfl)⟩ rfl rfl (Nat.le_of_ble_eq_true rfl) dL_law_856 (fun H locs hW => ?_)
  refine lv_icmp_eq (tgt := 1440) hx hb dL_law_859 (by decide) (fun _ => ?_) (fun hc => absurd rfl hc)
  exact law_next C hW ih hR1 hl
set_option maxHeartbeats 4000000 in
set_option maxRecDepth 100000 in
theorem law_c22 {Rel : Nat → HS → HS → Prop} {i n : Nat} (S : St_22 Rel) (C : LC D κ adX adM p s m meth c b L xs) (hi : i + 6 ≤ L) (hL : L ≤ 3072) (hn : n < 512) (ih : ∀ (σX σM : HS) (H : Heap) (locs : List Loc) (ls : Array Slot), Rel (n + 1) σX σM → Lw D κ adX adM s σX σM H locs → lv_has ls 4 [(0, .ref b), (1, .ref (adX 0)), (2, .ref (adM 0)), (3, .int (nI (i + 6)))] → W p l e room_1 s m #[Value.ref b] below meth c H locs 95 19212 (lw_Z below #[Value.ref b] s) (F0 m 18 ls [])) (hR : Rel n σX σM) (hW : Lw D κ adX adM s σX σM H locs) (hl : lv_has ls 4 [(0, .ref b), (1, .ref (adX 0)), (2, .ref (adM 0)), (3, .int (nI i))]) : W p l e room_1 s m #[Value.ref b] below meth c H locs 95 19212 (lw_Z below #[Value.ref b] s) (F0 m 864 ls []) := by
  have hx := C.1
  have hb := C.2.1
  have hXs := C.2.2.2.2.2.2.2.2.2.2.1
  have hbl := C.2.2.2.2.2.2.2.2.2.2.2.1
  obtain ⟨r, σX1, σM1, hfX, hfM, hR1⟩ := S n σX σM hn hR (xs (nI i + 1).toNatClampNeg) (xs (nI i + 2).toNatClampNeg)
  refine lv_aload_n hx hb dL_law_864 rfl (lv_at hl 1 rfl) ?_
  refine lv_aload_n hx hb dL_law_865 rfl (lv_at hl 0 rfl) ?_
  refine lv_iload_n hx hb dL_law_866 rfl (lv_at hl 3 rfl) ?_
  refine lv_iconst (v := 1) hx hb dL_law_867 (by decide) ?_
  refine lv_iadd hx hb dL_law_868 ?_
  refine va_sld hx hb hXs hbl (Nat.not_le.mpr hbl) hW.2.2 (lw_in hi hL 1 (by decide)) dL_law_869 ?_
  refine lv_aload_n hx hb dL_law_870 rfl (lv_at hl 0 rfl) ?_
  refine lv_iload_n hx hb dL_law_871 rfl (lv_at hl 3 rfl) ?_
  refine lv_iconst (v := 2) hx hb dL_law_872 (by decide) ?_
  refine lv_iadd hx hb dL_law_873 ?_
  refine va_sld hx hb hXs hbl (Nat.not_le.mpr hbl) hW.2.2 (lw_in hi hL 2 (by decide)) dL_law_874 ?_
  refine lw_callX (rest := []) C hW hl.1 cV_L_109 rfl (kX11_buy l D adX κ hfX) ⟨rfl, rfl⟩ ⟨(Nat.le_of_ble_eq_true rfl), (Nat.le_of_ble_eq_true rfl)⟩ rfl rfl (Nat.le_of_ble_eq_true rfl) dL_law_875 (fun H locs hW => ?_)
  refine lv_aload_n hx hb dL_law_878 rfl (lv_at hl 2 rfl) ?_
  refine lv_aload_n hx hb dL_law_879 rfl (lv_at hl 0 rfl) ?_
  refine lv_iload_n hx hb dL_law_880 rfl (lv_at hl 3 rfl) ?_
  refine lv_iconst (v := 1) hx hb dL_law_881 (by decide) ?_
  refine lv_iadd hx hb dL_law_882 ?_
  refine va_sld hx hb hXs hbl (Nat.not_le.mpr hbl) hW.2.2 (lw_in hi hL 1 (by decide)) dL_law_883 ?_
  refine lv_aload_n hx hb dL_law_884 rfl (lv_at hl 0 rfl) ?_
  refine lv_iload_n hx hb dL_law_885 rfl (lv_at hl 3 rfl) ?_
  refine lv_iconst (v := 2) hx hb dL_law_886 (by decide) ?_
  refine lv_iadd hx hb dL_law_887 ?_
  refine va_sld hx hb hXs hbl (Nat.not_le.mpr hbl) hW.2.2 (lw_in hi hL 2 (by decide)) dL_law_888 ?_
  refine lw_callM (rest := [.int r]) C hW hl.1 cV_L_112 rfl (kX12_buy l D adM κ hfM) ⟨rfl, rfl⟩ ⟨(Nat.le_of_ble_eq_true rfl), (Nat.le_of_ble_eq_true rfl)⟩ rfl rfl (Nat.le_of_ble_eq_true rfl) dL_law_889 (fun H locs hW => ?_)
  refine lv_icmp_eq (tgt := 1440) hx hb dL_law_892 (by decide) (fun _ => ?_) (fun hc => absurd rfl hc)
  exact law_next C hW ih hR1 hl
set_option maxHeartbeats 4000000 in
set_option maxRecDepth 100000 in
theorem law_c23 {Rel : Nat → HS → HS → Prop} {i n : Nat} (S : St_23 Rel) (C : LC D κ adX adM p s m meth c b L xs) (hi : i + 6 ≤ L) (hL : L ≤ 3072) (hn : n < 512) (ih : ∀ (σX σM : HS) (H : Heap) (locs : List Loc) (ls : Array Slot), Rel (n + 1) σX σM → Lw D κ adX adM s σX σM H locs → lv_has ls 4 [(0, .ref b), (1, .ref (adX 0)), (2, .ref (adM 0)), (3, .int (nI (i + 6)))] → W p l e room_1 s m #[Value.ref b] below meth c H locs 95 19212 (lw_Z below #[Value.ref b] s) (F0 m 18 ls [])) (hR : Rel n σX σM) (hW : Lw D κ adX adM s σX σM H locs) (hl : lv_has ls 4 [(0, .ref b), (1, .ref (adX 0)), (2, .ref (adM 0)), (3, .int (nI i))]) : W p l e room_1 s m #[Value.ref b] below meth c H locs 95 19212 (lw_Z below #[Value.ref b] s) (F0 m 897 ls []) := by
  have hx := C.1
  have hb := C.2.1
  have hXs := C.2.2.2.2.2.2.2.2.2.2.1
  have hbl := C.2.2.2.2.2.2.2.2.2.2.2.1
  obtain ⟨r, σX1, σM1, hfX, hfM, hR1⟩ := S n σX σM hn hR (xs (nI i + 1).toNatClampNeg) (xs (nI i + 2).toNatClampNeg)
  refine lv_aload_n hx hb dL_law_897 rfl (lv_at hl 1 rfl) ?_
  refine lv_aload_n hx hb dL_law_898 rfl (lv_at hl 0 rfl) ?_
  refine lv_iload_n hx hb dL_law_899 rfl (lv_at hl 3 rfl) ?_
  refine lv_iconst (v := 1) hx hb dL_law_900 (by decide) ?_
  refine lv_iadd hx hb dL_law_901 ?_
  refine va_sld hx hb hXs hbl (Nat.not_le.mpr hbl) hW.2.2 (lw_in hi hL 1 (by decide)) dL_law_902 ?_
  refine lv_aload_n hx hb dL_law_903 rfl (lv_at hl 0 rfl) ?_
  refine lv_iload_n hx hb dL_law_904 rfl (lv_at hl 3 rfl) ?_
  refine lv_iconst (v := 2) hx hb dL_law_905 (by decide) ?_
  refine lv_iadd hx hb dL_law_906 ?_
  refine va_sld hx hb hXs hbl (Nat.not_le.mpr hbl) hW.2.2 (lw_in hi hL 2 (by decide)) dL_law_907 ?_
  refine lw_callX (rest := []) C hW hl.1 cV_L_113 rfl (kX11_swap l D adX κ hfX) ⟨rfl, rfl⟩ ⟨(Nat.le_of_ble_eq_true rfl), (Nat.le_of_ble_eq_true rfl)⟩ rfl rfl (Nat.le_of_ble_eq_true rfl) dL_law_908 (fun H locs hW => ?_)
  refine lv_aload_n hx hb dL_law_911 rfl (lv_at hl 2 rfl) ?_
  refine lv_aload_n hx hb dL_law_912 rfl (lv_at hl 0 rfl) ?_
  refine lv_iload_n hx hb dL_law_913 rfl (lv_at hl 3 rfl) ?_
  refine lv_iconst (v := 1) hx hb dL_law_914 (by decide) ?_
  refine lv_iadd hx hb dL_law_915 ?_
  refine va_sld hx hb hXs hbl (Nat.not_le.mpr hbl) hW.2.2 (lw_in hi hL 1 (by decide)) dL_law_916 ?_
  refine lv_aload_n hx hb dL_law_917 rfl (lv_at hl 0 rfl) ?_
  refine lv_iload_n hx hb dL_law_918 rfl (lv_at hl 3 rfl) ?_
  refine lv_iconst (v := 2) hx hb dL_law_919 (by decide) ?_
  refine lv_iadd hx hb dL_law_920 ?_
  refine va_sld hx hb hXs hbl (Nat.not_le.mpr hbl) hW.2.2 (lw_in hi hL 2 (by decide)) dL_law_921 ?_
  refine lw_callM (rest := [.int r]) C hW hl.1 cV_L_116 rfl (kX12_swap l D adM κ hfM) ⟨rfl, rfl⟩ ⟨(Nat.le_of_ble_eq_true rfl), (Nat.le_of_ble_eq_true rfl)⟩ rfl rfl (Nat.le_of_ble_eq_true rfl) dL_law_922 (fun H locs hW => ?_)
  refine lv_icmp_eq (tgt := 1440) hx hb dL_law_925 (by decide) (fun _ => ?_) (fun hc => absurd rfl hc)
  exact law_next C hW ih hR1 hl
set_option maxHeartbeats 4000000 in
set_option maxRecDepth 100000 in
theorem law_c24 {Rel : Nat → HS → HS → Prop} {i n : Nat} (S : St_24 Rel) (C : LC D κ adX adM p s m meth c b L xs) (hi : i + 6 ≤ L) (hL : L ≤ 3072) (hn : n < 512) (ih : ∀ (σX σM : HS) (H : Heap) (locs : List Loc) (ls : Array Slot), Rel (n + 1) σX σM → Lw D κ adX adM s σX σM H locs → lv_has ls 4 [(0, .ref b), (1, .ref (adX 0)), (2, .ref (adM 0)), (3, .int (nI (i + 6)))] → W p l e room_1 s m #[Value.ref b] below meth c H locs 95 19212 (lw_Z below #[Value.ref b] s) (F0 m 18 ls [])) (hR : Rel n σX σM) (hW : Lw D κ adX adM s σX σM H locs) (hl : lv_has ls 4 [(0, .ref b), (1, .ref (adX 0)), (2, .ref (adM 0)), (3, .int (nI i))]) : W p l e room_1 s m #[Value.ref b] below meth c H locs 95 19212 (lw_Z below #[Value.ref b] s) (F0 m 930 ls []) := by
  have hx := C.1
  have hb := C.2.1
  have hXs := C.2.2.2.2.2.2.2.2.2.2.1
  have hbl := C.2.2.2.2.2.2.2.2.2.2.2.1
  obtain ⟨r, σX1, σM1, hfX, hfM, hR1⟩ := S n σX σM hn hR (xs (nI i + 1).toNatClampNeg) (xs (nI i + 2).toNatClampNeg)
  refine lv_aload_n hx hb dL_law_930 rfl (lv_at hl 1 rfl) ?_
  refine lv_aload_n hx hb dL_law_931 rfl (lv_at hl 0 rfl) ?_
  refine lv_iload_n hx hb dL_law_932 rfl (lv_at hl 3 rfl) ?_
  refine lv_iconst (v := 1) hx hb dL_law_933 (by decide) ?_
  refine lv_iadd hx hb dL_law_934 ?_
  refine va_sld hx hb hXs hbl (Nat.not_le.mpr hbl) hW.2.2 (lw_in hi hL 1 (by decide)) dL_law_935 ?_
  refine lv_aload_n hx hb dL_law_936 rfl (lv_at hl 0 rfl) ?_
  refine lv_iload_n hx hb dL_law_937 rfl (lv_at hl 3 rfl) ?_
  refine lv_iconst (v := 2) hx hb dL_law_938 (by decide) ?_
  refine lv_iadd hx hb dL_law_939 ?_
  refine va_sld hx hb hXs hbl (Nat.not_le.mpr hbl) hW.2.2 (lw_in hi hL 2 (by decide)) dL_law_940 ?_
  refine lw_callX (rest := []) C hW hl.1 cV_L_117 rfl (kX11_sure l D adX κ hfX) ⟨rfl, rfl⟩ ⟨(Nat.le_of_ble_eq_true rfl), (Nat.le_of_ble_eq_true rfl)⟩ rfl rfl (Nat.le_of_ble_eq_true rfl) dL_law_941 (fun H locs hW => ?_)
  refine lv_aload_n hx hb dL_law_944 rfl (lv_at hl 2 rfl) ?_
  refine lv_aload_n hx hb dL_law_945 rfl (lv_at hl 0 rfl) ?_
  refine lv_iload_n hx hb dL_law_946 rfl (lv_at hl 3 rfl) ?_
  refine lv_iconst (v := 1) hx hb dL_law_947 (by decide) ?_
  refine lv_iadd hx hb dL_law_948 ?_
  refine va_sld hx hb hXs hbl (Nat.not_le.mpr hbl) hW.2.2 (lw_in hi hL 1 (by decide)) dL_law_949 ?_
  refine lv_aload_n hx hb dL_law_950 rfl (lv_at hl 0 rfl) ?_
  refine lv_iload_n hx hb dL_law_951 rfl (lv_at hl 3 rfl) ?_
  refine lv_iconst (v := 2) hx hb dL_law_952 (by decide) ?_
  refine lv_iadd hx hb dL_law_953 ?_
  refine va_sld hx hb hXs hbl (Nat.not_le.mpr hbl) hW.2.2 (lw_in hi hL 2 (by decide)) dL_law_954 ?_
  refine lw_callM (rest := [.int r]) C hW hl.1 cV_L_120 rfl (kX12_sure l D adM κ hfM) ⟨rfl, rfl⟩ ⟨(Nat.le_of_ble_eq_true rfl), (Nat.le_of_ble_eq_true rfl)⟩ rfl rfl (Nat.le_of_ble_eq_true rfl) dL_law_955 (fun H locs hW => ?_)
  refine lv_icmp_eq (tgt := 1440) hx hb dL_law_958 (by decide) (fun _ => ?_) (fun hc => absurd rfl hc)
  exact law_next C hW ih hR1 hl
set_option maxHeartbeats 4000000 in
set_option maxRecDepth 100000 in
theorem law_c25 {Rel : Nat → HS → HS → Prop} {i n : Nat} (S : St_25 Rel) (C : LC D κ adX adM p s m meth c b L xs) (hi : i + 6 ≤ L) (hL : L ≤ 3072) (hn : n < 512) (ih : ∀ (σX σM : HS) (H : Heap) (locs : List Loc) (ls : Array Slot), Rel (n + 1) σX σM → Lw D κ adX adM s σX σM H locs → lv_has ls 4 [(0, .ref b), (1, .ref (adX 0)), (2, .ref (adM 0)), (3, .int (nI (i + 6)))] → W p l e room_1 s m #[Value.ref b] below meth c H locs 95 19212 (lw_Z below #[Value.ref b] s) (F0 m 18 ls [])) (hR : Rel n σX σM) (hW : Lw D κ adX adM s σX σM H locs) (hl : lv_has ls 4 [(0, .ref b), (1, .ref (adX 0)), (2, .ref (adM 0)), (3, .int (nI i))]) : W p l e room_1 s m #[Value.ref b] below meth c H locs 95 19212 (lw_Z below #[Value.ref b] s) (F0 m 963 ls []) := by
  have hx := C.1
  have hb := C.2.1
  have hXs := C.2.2.2.2.2.2.2.2.2.2.1
  have hbl := C.2.2.2.2.2.2.2.2.2.2.2.1
  obtain ⟨r, σX1, σM1, hfX, hfM, hR1⟩ := S n σX σM hn hR (xs (nI i + 1).toNatClampNeg) (xs (nI i + 2).toNatClampNeg)
  refine lv_aload_n hx hb dL_law_963 rfl (lv_at hl 1 rfl) ?_
  refine lv_aload_n hx hb dL_law_964 rfl (lv_at hl 0 rfl) ?_
  refine lv_iload_n hx hb dL_law_965 rfl (lv_at hl 3 rfl) ?_
  refine lv_iconst (v := 1) hx hb dL_law_966 (by decide) ?_
  refine lv_iadd hx hb dL_law_967 ?_
  refine va_sld hx hb hXs hbl (Nat.not_le.mpr hbl) hW.2.2 (lw_in hi hL 1 (by decide)) dL_law_968 ?_
  refine lv_aload_n hx hb dL_law_969 rfl (lv_at hl 0 rfl) ?_
  refine lv_iload_n hx hb dL_law_970 rfl (lv_at hl 3 rfl) ?_
  refine lv_iconst (v := 2) hx hb dL_law_971 (by decide) ?_
  refine lv_iadd hx hb dL_law_972 ?_
  refine va_sld hx hb hXs hbl (Nat.not_le.mpr hbl) hW.2.2 (lw_in hi hL 2 (by decide)) dL_law_973 ?_
  refine lw_callX (rest := []) C hW hl.1 cV_L_121 rfl (kX11_cover l D adX κ hfX) ⟨rfl, rfl⟩ ⟨(Nat.le_of_ble_eq_true rfl), (Nat.le_of_ble_eq_true rfl)⟩ rfl rfl (Nat.le_of_ble_eq_true rfl) dL_law_974 (fun H locs hW => ?_)
  refine lv_aload_n hx hb dL_law_977 rfl (lv_at hl 2 rfl) ?_
  refine lv_aload_n hx hb dL_law_978 rfl (lv_at hl 0 rfl) ?_
  refine lv_iload_n hx hb dL_law_979 rfl (lv_at hl 3 rfl) ?_
  refine lv_iconst (v := 1) hx hb dL_law_980 (by decide) ?_
  refine lv_iadd hx hb dL_law_981 ?_
  refine va_sld hx hb hXs hbl (Nat.not_le.mpr hbl) hW.2.2 (lw_in hi hL 1 (by decide)) dL_law_982 ?_
  refine lv_aload_n hx hb dL_law_983 rfl (lv_at hl 0 rfl) ?_
  refine lv_iload_n hx hb dL_law_984 rfl (lv_at hl 3 rfl) ?_
  refine lv_iconst (v := 2) hx hb dL_law_985 (by decide) ?_
  refine lv_iadd hx hb dL_law_986 ?_
  refine va_sld hx hb hXs hbl (Nat.not_le.mpr hbl) hW.2.2 (lw_in hi hL 2 (by decide)) dL_law_987 ?_
  refine lw_callM (rest := [.int r]) C hW hl.1 cV_L_124 rfl (kX12_cover l D adM κ hfM) ⟨rfl, rfl⟩ ⟨(Nat.le_of_ble_eq_true rfl), (Nat.le_of_ble_eq_true rfl)⟩ rfl rfl (Nat.le_of_ble_eq_true rfl) dL_law_988 (fun H locs hW => ?_)
  refine lv_icmp_eq (tgt := 1440) hx hb dL_law_991 (by decide) (fun _ => ?_) (fun hc => absurd rfl hc)
  exact law_next C hW ih hR1 hl
set_option maxHeartbeats 4000000 in
set_option maxRecDepth 100000 in
theorem law_c26 {Rel : Nat → HS → HS → Prop} {i n : Nat} (S : St_26 Rel) (C : LC D κ adX adM p s m meth c b L xs) (hi : i + 6 ≤ L) (hL : L ≤ 3072) (hn : n < 512) (ih : ∀ (σX σM : HS) (H : Heap) (locs : List Loc) (ls : Array Slot), Rel (n + 1) σX σM → Lw D κ adX adM s σX σM H locs → lv_has ls 4 [(0, .ref b), (1, .ref (adX 0)), (2, .ref (adM 0)), (3, .int (nI (i + 6)))] → W p l e room_1 s m #[Value.ref b] below meth c H locs 95 19212 (lw_Z below #[Value.ref b] s) (F0 m 18 ls [])) (hR : Rel n σX σM) (hW : Lw D κ adX adM s σX σM H locs) (hl : lv_has ls 4 [(0, .ref b), (1, .ref (adX 0)), (2, .ref (adM 0)), (3, .int (nI i))]) : W p l e room_1 s m #[Value.ref b] below meth c H locs 95 19212 (lw_Z below #[Value.ref b] s) (F0 m 996 ls []) := by
  have hx := C.1
  have hb := C.2.1
  have hXs := C.2.2.2.2.2.2.2.2.2.2.1
  have hbl := C.2.2.2.2.2.2.2.2.2.2.2.1
  obtain ⟨r, σX1, σM1, hfX, hfM, hR1⟩ := S n σX σM hn hR (xs (nI i + 1).toNatClampNeg)
  refine lv_aload_n hx hb dL_law_996 rfl (lv_at hl 1 rfl) ?_
  refine lv_aload_n hx hb dL_law_997 rfl (lv_at hl 0 rfl) ?_
  refine lv_iload_n hx hb dL_law_998 rfl (lv_at hl 3 rfl) ?_
  refine lv_iconst (v := 1) hx hb dL_law_999 (by decide) ?_
  refine lv_iadd hx hb dL_law_1000 ?_
  refine va_sld hx hb hXs hbl (Nat.not_le.mpr hbl) hW.2.2 (lw_in hi hL 1 (by decide)) dL_law_1001 ?_
  refine lw_callX (rest := []) C hW hl.1 cV_L_125 rfl (kX11_pepper l D adX κ hfX) ⟨rfl, rfl⟩ ⟨(Nat.le_of_ble_eq_true rfl), (Nat.le_of_ble_eq_true rfl)⟩ rfl rfl (Nat.le_of_ble_eq_true rfl) dL_law_1002 (fun H locs hW => ?_)
  refine lv_aload_n hx hb dL_law_1005 rfl (lv_at hl 2 rfl) ?_
  refine lv_aload_n hx hb dL_law_1006 rfl (lv_at hl 0 rfl) ?_
  refine lv_iload_n hx hb dL_law_1007 rfl (lv_at hl 3 rfl) ?_
  refine lv_iconst (v := 1) hx hb dL_law_1008 (by decide) ?_
  refine lv_iadd hx hb dL_law_1009 ?_
  refine va_sld hx hb hXs hbl (Nat.not_le.mpr hbl) hW.2.2 (lw_in hi hL 1 (by decide)) dL_law_1010 ?_
  refine lw_callM (rest := [.int r]) C hW hl.1 cV_L_128 rfl (kX12_pepper l D adM κ hfM) ⟨rfl, rfl⟩ ⟨(Nat.le_of_ble_eq_true rfl), (Nat.le_of_ble_eq_true rfl)⟩ rfl rfl (Nat.le_of_ble_eq_true rfl) dL_law_1011 (fun H locs hW => ?_)
  refine lv_icmp_eq (tgt := 1440) hx hb dL_law_1014 (by decide) (fun _ => ?_) (fun hc => absurd rfl hc)
  exact law_next C hW ih hR1 hl
set_option maxHeartbeats 4000000 in
set_option maxRecDepth 100000 in
theorem law_c27 {Rel : Nat → HS → HS → Prop} {i n : Nat} (S : St_27 Rel) (C : LC D κ adX adM p s m meth c b L xs) (hi : i + 6 ≤ L) (hL : L ≤ 3072) (hn : n < 512) (ih : ∀ (σX σM : HS) (H : Heap) (locs : List Loc) (ls : Array Slot), Rel (n + 1) σX σM → Lw D κ adX adM s σX σM H locs → lv_has ls 4 [(0, .ref b), (1, .ref (adX 0)), (2, .ref (adM 0)), (3, .int (nI (i + 6)))] → W p l e room_1 s m #[Value.ref b] below meth c H locs 95 19212 (lw_Z below #[Value.ref b] s) (F0 m 18 ls [])) (hR : Rel n σX σM) (hW : Lw D κ adX adM s σX σM H locs) (hl : lv_has ls 4 [(0, .ref b), (1, .ref (adX 0)), (2, .ref (adM 0)), (3, .int (nI i))]) : W p l e room_1 s m #[Value.ref b] below meth c H locs 95 19212 (lw_Z below #[Value.ref b] s) (F0 m 1019 ls []) := by
  have hx := C.1
  have hb := C.2.1
  have hXs := C.2.2.2.2.2.2.2.2.2.2.1
  have hbl := C.2.2.2.2.2.2.2.2.2.2.2.1
  obtain ⟨r, σX1, σM1, hfX, hfM, hR1⟩ := S n σX σM hn hR (xs (nI i + 1).toNatClampNeg)
  refine lv_aload_n hx hb dL_law_1019 rfl (lv_at hl 1 rfl) ?_
  refine lv_aload_n hx hb dL_law_1020 rfl (lv_at hl 0 rfl) ?_
  refine lv_iload_n hx hb dL_law_1021 rfl (lv_at hl 3 rfl) ?_
  refine lv_iconst (v := 1) hx hb dL_law_1022 (by decide) ?_
  refine lv_iadd hx hb dL_law_1023 ?_
  refine va_sld hx hb hXs hbl (Nat.not_le.mpr hbl) hW.2.2 (lw_in hi hL 1 (by decide)) dL_law_1024 ?_
  refine lw_callX (rest := []) C hW hl.1 cV_L_129 rfl (kX11_soothes l D adX κ hfX) ⟨rfl, rfl⟩ ⟨(Nat.le_of_ble_eq_true rfl), (Nat.le_of_ble_eq_true rfl)⟩ rfl rfl (Nat.le_of_ble_eq_true rfl) dL_law_1025 (fun H locs hW => ?_)
  refine lv_aload_n hx hb dL_law_1028 rfl (lv_at hl 2 rfl) ?_
  refine lv_aload_n hx hb dL_law_1029 rfl (lv_at hl 0 rfl) ?_
  refine lv_iload_n hx hb dL_law_1030 rfl (lv_at hl 3 rfl) ?_
  refine lv_iconst (v := 1) hx hb dL_law_1031 (by decide) ?_
  refine lv_iadd hx hb dL_law_1032 ?_
  refine va_sld hx hb hXs hbl (Nat.not_le.mpr hbl) hW.2.2 (lw_in hi hL 1 (by decide)) dL_law_1033 ?_
  refine lw_callM (rest := [.int r]) C hW hl.1 cV_L_132 rfl (kX12_soothes l D adM κ hfM) ⟨rfl, rfl⟩ ⟨(Nat.le_of_ble_eq_true rfl), (Nat.le_of_ble_eq_true rfl)⟩ rfl rfl (Nat.le_of_ble_eq_true rfl) dL_law_1034 (fun H locs hW => ?_)
  refine lv_icmp_eq (tgt := 1440) hx hb dL_law_1037 (by decide) (fun _ => ?_) (fun hc => absurd rfl hc)
  exact law_next C hW ih hR1 hl
set_option maxHeartbeats 4000000 in
set_option maxRecDepth 100000 in
theorem law_c28 {Rel : Nat → HS → HS → Prop} {i n : Nat} (S : St_28 Rel) (C : LC D κ adX adM p s m meth c b L xs) (hi : i + 6 ≤ L) (hL : L ≤ 3072) (hn : n < 512) (ih : ∀ (σX σM : HS) (H : Heap) (locs : List Loc) (ls : Array Slot), Rel (n + 1) σX σM → Lw D κ adX adM s σX σM H locs → lv_has ls 4 [(0, .ref b), (1, .ref (adX 0)), (2, .ref (adM 0)), (3, .int (nI (i + 6)))] → W p l e room_1 s m #[Value.ref b] below meth c H locs 95 19212 (lw_Z below #[Value.ref b] s) (F0 m 18 ls [])) (hR : Rel n σX σM) (hW : Lw D κ adX adM s σX σM H locs) (hl : lv_has ls 4 [(0, .ref b), (1, .ref (adX 0)), (2, .ref (adM 0)), (3, .int (nI i))]) : W p l e room_1 s m #[Value.ref b] below meth c H locs 95 19212 (lw_Z below #[Value.ref b] s) (F0 m 1042 ls []) := by
  have hx := C.1
  have hb := C.2.1
  have hXs := C.2.2.2.2.2.2.2.2.2.2.1
  have hbl := C.2.2.2.2.2.2.2.2.2.2.2.1
  obtain ⟨r, σX1, σM1, hfX, hfM, hR1⟩ := S n σX σM hn hR (xs (nI i + 1).toNatClampNeg) (xs (nI i + 2).toNatClampNeg) (xs (nI i + 3).toNatClampNeg)
  refine lv_aload_n hx hb dL_law_1042 rfl (lv_at hl 1 rfl) ?_
  refine lv_aload_n hx hb dL_law_1043 rfl (lv_at hl 0 rfl) ?_
  refine lv_iload_n hx hb dL_law_1044 rfl (lv_at hl 3 rfl) ?_
  refine lv_iconst (v := 1) hx hb dL_law_1045 (by decide) ?_
  refine lv_iadd hx hb dL_law_1046 ?_
  refine va_sld hx hb hXs hbl (Nat.not_le.mpr hbl) hW.2.2 (lw_in hi hL 1 (by decide)) dL_law_1047 ?_
  refine lv_aload_n hx hb dL_law_1048 rfl (lv_at hl 0 rfl) ?_
  refine lv_iload_n hx hb dL_law_1049 rfl (lv_at hl 3 rfl) ?_
  refine lv_iconst (v := 2) hx hb dL_law_1050 (by decide) ?_
  refine lv_iadd hx hb dL_law_1051 ?_
  refine va_sld hx hb hXs hbl (Nat.not_le.mpr hbl) hW.2.2 (lw_in hi hL 2 (by decide)) dL_law_1052 ?_
  refine lv_aload_n hx hb dL_law_1053 rfl (lv_at hl 0 rfl) ?_
  refine lv_iload_n hx hb dL_law_1054 rfl (lv_at hl 3 rfl) ?_
  refine lv_iconst (v := 3) hx hb dL_law_1055 (by decide) ?_
  refine lv_iadd hx hb dL_law_1056 ?_
  refine va_sld hx hb hXs hbl (Nat.not_le.mpr hbl) hW.2.2 (lw_in hi hL 3 (by decide)) dL_law_1057 ?_
  refine lw_callX (rest := []) C hW hl.1 cV_L_133 rfl (kX11_game l D adX κ hfX) ⟨rfl, rfl⟩ ⟨(Nat.le_of_ble_eq_true rfl), (Nat.le_of_ble_eq_true rfl)⟩ rfl rfl (Nat.le_of_ble_eq_true rfl) dL_law_1058 (fun H locs hW => ?_)
  refine lv_aload_n hx hb dL_law_1061 rfl (lv_at hl 2 rfl) ?_
  refine lv_aload_n hx hb dL_law_1062 rfl (lv_at hl 0 rfl) ?_
  refine lv_iload_n hx hb dL_law_1063 rfl (lv_at hl 3 rfl) ?_
  refine lv_iconst (v := 1) hx hb dL_law_1064 (by decide) ?_
  refine lv_iadd hx hb dL_law_1065 ?_
  refine va_sld hx hb hXs hbl (Nat.not_le.mpr hbl) hW.2.2 (lw_in hi hL 1 (by decide)) dL_law_1066 ?_
  refine lv_aload_n hx hb dL_law_1067 rfl (lv_at hl 0 rfl) ?_
  refine lv_iload_n hx hb dL_law_1068 rfl (lv_at hl 3 rfl) ?_
  refine lv_iconst (v := 2) hx hb dL_law_1069 (by decide) ?_
  refine lv_iadd hx hb dL_law_1070 ?_
  refine va_sld hx hb hXs hbl (Nat.not_le.mpr hbl) hW.2.2 (lw_in hi hL 2 (by decide)) dL_law_1071 ?_
  refine lv_aload_n hx hb dL_law_1072 rfl (lv_at hl 0 rfl) ?_
  refine lv_iload_n hx hb dL_law_1073 rfl (lv_at hl 3 rfl) ?_
  refine lv_iconst (v := 3) hx hb dL_law_1074 (by decide) ?_
  refine lv_iadd hx hb dL_law_1075 ?_
  refine va_sld hx hb hXs hbl (Nat.not_le.mpr hbl) hW.2.2 (lw_in hi hL 3 (by decide)) dL_law_1076 ?_
  refine lw_callM (rest := [.int r]) C hW hl.1 cV_L_136 rfl (kX12_game l D adM κ hfM) ⟨rfl, rfl⟩ ⟨(Nat.le_of_ble_eq_true rfl), (Nat.le_of_ble_eq_true rfl)⟩ rfl rfl (Nat.le_of_ble_eq_true rfl) dL_law_1077 (fun H locs hW => ?_)
  refine lv_icmp_eq (tgt := 1440) hx hb dL_law_1080 (by decide) (fun _ => ?_) (fun hc => absurd rfl hc)
  exact law_next C hW ih hR1 hl
set_option maxHeartbeats 4000000 in
set_option maxRecDepth 100000 in
theorem law_c29 {Rel : Nat → HS → HS → Prop} {i n : Nat} (S : St_29 Rel) (C : LC D κ adX adM p s m meth c b L xs) (hi : i + 6 ≤ L) (hL : L ≤ 3072) (hn : n < 512) (ih : ∀ (σX σM : HS) (H : Heap) (locs : List Loc) (ls : Array Slot), Rel (n + 1) σX σM → Lw D κ adX adM s σX σM H locs → lv_has ls 4 [(0, .ref b), (1, .ref (adX 0)), (2, .ref (adM 0)), (3, .int (nI (i + 6)))] → W p l e room_1 s m #[Value.ref b] below meth c H locs 95 19212 (lw_Z below #[Value.ref b] s) (F0 m 18 ls [])) (hR : Rel n σX σM) (hW : Lw D κ adX adM s σX σM H locs) (hl : lv_has ls 4 [(0, .ref b), (1, .ref (adX 0)), (2, .ref (adM 0)), (3, .int (nI i))]) : W p l e room_1 s m #[Value.ref b] below meth c H locs 95 19212 (lw_Z below #[Value.ref b] s) (F0 m 1085 ls []) := by
  have hx := C.1
  have hb := C.2.1
  have hXs := C.2.2.2.2.2.2.2.2.2.2.1
  have hbl := C.2.2.2.2.2.2.2.2.2.2.2.1
  obtain ⟨r, σX1, σM1, hfX, hfM, hR1⟩ := S n σX σM hn hR 
  refine lv_aload_n hx hb dL_law_1085 rfl (lv_at hl 1 rfl) ?_
  refine lw_callX (rest := []) C hW hl.1 cV_L_137 rfl (kX11_cure l D adX κ hfX) ⟨rfl, rfl⟩ ⟨(Nat.le_of_ble_eq_true rfl), (Nat.le_of_ble_eq_true rfl)⟩ rfl rfl (Nat.le_of_ble_eq_true rfl) dL_law_1086 (fun H locs hW => ?_)
  refine lv_aload_n hx hb dL_law_1089 rfl (lv_at hl 2 rfl) ?_
  refine lw_callM (rest := [.int r]) C hW hl.1 cV_L_140 rfl (kX12_cure l D adM κ hfM) ⟨rfl, rfl⟩ ⟨(Nat.le_of_ble_eq_true rfl), (Nat.le_of_ble_eq_true rfl)⟩ rfl rfl (Nat.le_of_ble_eq_true rfl) dL_law_1090 (fun H locs hW => ?_)
  refine lv_icmp_eq (tgt := 1440) hx hb dL_law_1093 (by decide) (fun _ => ?_) (fun hc => absurd rfl hc)
  exact law_next C hW ih hR1 hl
set_option maxHeartbeats 4000000 in
set_option maxRecDepth 100000 in
theorem law_c30 {Rel : Nat → HS → HS → Prop} {i n : Nat} (S : St_30 Rel) (C : LC D κ adX adM p s m meth c b L xs) (hi : i + 6 ≤ L) (hL : L ≤ 3072) (hn : n < 512) (ih : ∀ (σX σM : HS) (H : Heap) (locs : List Loc) (ls : Array Slot), Rel (n + 1) σX σM → Lw D κ adX adM s σX σM H locs → lv_has ls 4 [(0, .ref b), (1, .ref (adX 0)), (2, .ref (adM 0)), (3, .int (nI (i + 6)))] → W p l e room_1 s m #[Value.ref b] below meth c H locs 95 19212 (lw_Z below #[Value.ref b] s) (F0 m 18 ls [])) (hR : Rel n σX σM) (hW : Lw D κ adX adM s σX σM H locs) (hl : lv_has ls 4 [(0, .ref b), (1, .ref (adX 0)), (2, .ref (adM 0)), (3, .int (nI i))]) : W p l e room_1 s m #[Value.ref b] below meth c H locs 95 19212 (lw_Z below #[Value.ref b] s) (F0 m 1098 ls []) := by
  have hx := C.1
  have hb := C.2.1
  have hXs := C.2.2.2.2.2.2.2.2.2.2.1
  have hbl := C.2.2.2.2.2.2.2.2.2.2.2.1
  obtain ⟨r, σX1, σM1, hfX, hfM, hR1⟩ := S n σX σM hn hR (xs (nI i + 1).toNatClampNeg)
  refine lv_aload_n hx hb dL_law_1098 rfl (lv_at hl 1 rfl) ?_
  refine lv_aload_n hx hb dL_law_1099 rfl (lv_at hl 0 rfl) ?_
  refine lv_iload_n hx hb dL_law_1100 rfl (lv_at hl 3 rfl) ?_
  refine lv_iconst (v := 1) hx hb dL_law_1101 (by decide) ?_
  refine lv_iadd hx hb dL_law_1102 ?_
  refine va_sld hx hb hXs hbl (Nat.not_le.mpr hbl) hW.2.2 (lw_in hi hL 1 (by decide)) dL_law_1103 ?_
  refine lw_callX (rest := []) C hW hl.1 cV_L_141 rfl (kX11_richest l D adX κ hfX) ⟨rfl, rfl⟩ ⟨(Nat.le_of_ble_eq_true rfl), (Nat.le_of_ble_eq_true rfl)⟩ rfl rfl (Nat.le_of_ble_eq_true rfl) dL_law_1104 (fun H locs hW => ?_)
  refine lv_aload_n hx hb dL_law_1107 rfl (lv_at hl 2 rfl) ?_
  refine lv_aload_n hx hb dL_law_1108 rfl (lv_at hl 0 rfl) ?_
  refine lv_iload_n hx hb dL_law_1109 rfl (lv_at hl 3 rfl) ?_
  refine lv_iconst (v := 1) hx hb dL_law_1110 (by decide) ?_
  refine lv_iadd hx hb dL_law_1111 ?_
  refine va_sld hx hb hXs hbl (Nat.not_le.mpr hbl) hW.2.2 (lw_in hi hL 1 (by decide)) dL_law_1112 ?_
  refine lw_callM (rest := [.int r]) C hW hl.1 cV_L_144 rfl (kX12_richest l D adM κ hfM) ⟨rfl, rfl⟩ ⟨(Nat.le_of_ble_eq_true rfl), (Nat.le_of_ble_eq_true rfl)⟩ rfl rfl (Nat.le_of_ble_eq_true rfl) dL_law_1113 (fun H locs hW => ?_)
  refine lv_icmp_eq (tgt := 1440) hx hb dL_law_1116 (by decide) (fun _ => ?_) (fun hc => absurd rfl hc)
  exact law_next C hW ih hR1 hl
set_option maxHeartbeats 4000000 in
set_option maxRecDepth 100000 in
theorem law_c31 {Rel : Nat → HS → HS → Prop} {i n : Nat} (S : St_31 Rel) (C : LC D κ adX adM p s m meth c b L xs) (hi : i + 6 ≤ L) (hL : L ≤ 3072) (hn : n < 512) (ih : ∀ (σX σM : HS) (H : Heap) (locs : List Loc) (ls : Array Slot), Rel (n + 1) σX σM → Lw D κ adX adM s σX σM H locs → lv_has ls 4 [(0, .ref b), (1, .ref (adX 0)), (2, .ref (adM 0)), (3, .int (nI (i + 6)))] → W p l e room_1 s m #[Value.ref b] below meth c H locs 95 19212 (lw_Z below #[Value.ref b] s) (F0 m 18 ls [])) (hR : Rel n σX σM) (hW : Lw D κ adX adM s σX σM H locs) (hl : lv_has ls 4 [(0, .ref b), (1, .ref (adX 0)), (2, .ref (adM 0)), (3, .int (nI i))]) : W p l e room_1 s m #[Value.ref b] below meth c H locs 95 19212 (lw_Z below #[Value.ref b] s) (F0 m 1121 ls []) := by
  have hx := C.1
  have hb := C.2.1
  have hXs := C.2.2.2.2.2.2.2.2.2.2.1
  have hbl := C.2.2.2.2.2.2.2.2.2.2.2.1
  obtain ⟨r, σX1, σM1, hfX, hfM, hR1⟩ := S n σX σM hn hR (xs (nI i + 1).toNatClampNeg)
  refine lv_aload_n hx hb dL_law_1121 rfl (lv_at hl 1 rfl) ?_
  refine lv_aload_n hx hb dL_law_1122 rfl (lv_at hl 0 rfl) ?_
  refine lv_iload_n hx hb dL_law_1123 rfl (lv_at hl 3 rfl) ?_
  refine lv_iconst (v := 1) hx hb dL_law_1124 (by decide) ?_
  refine lv_iadd hx hb dL_law_1125 ?_
  refine va_sld hx hb hXs hbl (Nat.not_le.mpr hbl) hW.2.2 (lw_in hi hL 1 (by decide)) dL_law_1126 ?_
  refine lw_callX (rest := []) C hW hl.1 cV_L_145 rfl (kX11_likely l D adX κ hfX) ⟨rfl, rfl⟩ ⟨(Nat.le_of_ble_eq_true rfl), (Nat.le_of_ble_eq_true rfl)⟩ rfl rfl (Nat.le_of_ble_eq_true rfl) dL_law_1127 (fun H locs hW => ?_)
  refine lv_aload_n hx hb dL_law_1130 rfl (lv_at hl 2 rfl) ?_
  refine lv_aload_n hx hb dL_law_1131 rfl (lv_at hl 0 rfl) ?_
  refine lv_iload_n hx hb dL_law_1132 rfl (lv_at hl 3 rfl) ?_
  refine lv_iconst (v := 1) hx hb dL_law_1133 (by decide) ?_
  refine lv_iadd hx hb dL_law_1134 ?_
  refine va_sld hx hb hXs hbl (Nat.not_le.mpr hbl) hW.2.2 (lw_in hi hL 1 (by decide)) dL_law_1135 ?_
  refine lw_callM (rest := [.int r]) C hW hl.1 cV_L_148 rfl (kX12_likely l D adM κ hfM) ⟨rfl, rfl⟩ ⟨(Nat.le_of_ble_eq_true rfl), (Nat.le_of_ble_eq_true rfl)⟩ rfl rfl (Nat.le_of_ble_eq_true rfl) dL_law_1136 (fun H locs hW => ?_)
  refine lv_icmp_eq (tgt := 1440) hx hb dL_law_1139 (by decide) (fun _ => ?_) (fun hc => absurd rfl hc)
  exact law_next C hW ih hR1 hl
set_option maxHeartbeats 4000000 in
set_option maxRecDepth 100000 in
theorem law_c32 {Rel : Nat → HS → HS → Prop} {i n : Nat} (S : St_32 Rel) (C : LC D κ adX adM p s m meth c b L xs) (hi : i + 6 ≤ L) (hL : L ≤ 3072) (hn : n < 512) (ih : ∀ (σX σM : HS) (H : Heap) (locs : List Loc) (ls : Array Slot), Rel (n + 1) σX σM → Lw D κ adX adM s σX σM H locs → lv_has ls 4 [(0, .ref b), (1, .ref (adX 0)), (2, .ref (adM 0)), (3, .int (nI (i + 6)))] → W p l e room_1 s m #[Value.ref b] below meth c H locs 95 19212 (lw_Z below #[Value.ref b] s) (F0 m 18 ls [])) (hR : Rel n σX σM) (hW : Lw D κ adX adM s σX σM H locs) (hl : lv_has ls 4 [(0, .ref b), (1, .ref (adX 0)), (2, .ref (adM 0)), (3, .int (nI i))]) : W p l e room_1 s m #[Value.ref b] below meth c H locs 95 19212 (lw_Z below #[Value.ref b] s) (F0 m 1144 ls []) := by
  have hx := C.1
  have hb := C.2.1
  have hXs := C.2.2.2.2.2.2.2.2.2.2.1
  have hbl := C.2.2.2.2.2.2.2.2.2.2.2.1
  obtain ⟨r, σX1, σM1, hfX, hfM, hR1⟩ := S n σX σM hn hR (xs (nI i + 1).toNatClampNeg) (xs (nI i + 2).toNatClampNeg)
  refine lv_aload_n hx hb dL_law_1144 rfl (lv_at hl 1 rfl) ?_
  refine lv_aload_n hx hb dL_law_1145 rfl (lv_at hl 0 rfl) ?_
  refine lv_iload_n hx hb dL_law_1146 rfl (lv_at hl 3 rfl) ?_
  refine lv_iconst (v := 1) hx hb dL_law_1147 (by decide) ?_
  refine lv_iadd hx hb dL_law_1148 ?_
  refine va_sld hx hb hXs hbl (Nat.not_le.mpr hbl) hW.2.2 (lw_in hi hL 1 (by decide)) dL_law_1149 ?_
  refine lv_aload_n hx hb dL_law_1150 rfl (lv_at hl 0 rfl) ?_
  refine lv_iload_n hx hb dL_law_1151 rfl (lv_at hl 3 rfl) ?_
  refine lv_iconst (v := 2) hx hb dL_law_1152 (by decide) ?_
  refine lv_iadd hx hb dL_law_1153 ?_
  refine va_sld hx hb hXs hbl (Nat.not_le.mpr hbl) hW.2.2 (lw_in hi hL 2 (by decide)) dL_law_1154 ?_
  refine lw_callX (rest := []) C hW hl.1 cV_L_149 rfl (kX11_gains l D adX κ hfX) ⟨rfl, rfl⟩ ⟨(Nat.le_of_ble_eq_true rfl), (Nat.le_of_ble_eq_true rfl)⟩ rfl rfl (Nat.le_of_ble_eq_true rfl) dL_law_1155 (fun H locs hW => ?_)
  refine lv_aload_n hx hb dL_law_1158 rfl (lv_at hl 2 rfl) ?_
  refine lv_aload_n hx hb dL_law_1159 rfl (lv_at hl 0 rfl) ?_
  refine lv_iload_n hx hb dL_law_1160 rfl (lv_at hl 3 rfl) ?_
  refine lv_iconst (v := 1) hx hb dL_law_1161 (by decide) ?_
  refine lv_iadd hx hb dL_law_1162 ?_
  refine va_sld hx hb hXs hbl (Nat.not_le.mpr hbl) hW.2.2 (lw_in hi hL 1 (by decide)) dL_law_1163 ?_
  refine lv_aload_n hx hb dL_law_1164 rfl (lv_at hl 0 rfl) ?_
  refine lv_iload_n hx hb dL_law_1165 rfl (lv_at hl 3 rfl) ?_
  refine lv_iconst (v := 2) hx hb dL_law_1166 (by decide) ?_
  refine lv_iadd hx hb dL_law_1167 ?_
  refine va_sld hx hb hXs hbl (Nat.not_le.mpr hbl) hW.2.2 (lw_in hi hL 2 (by decide)) dL_law_1168 ?_
  refine lw_callM (rest := [.int r]) C hW hl.1 cV_L_152 rfl (kX12_gains l D adM κ hfM) ⟨rfl, rfl⟩ ⟨(Nat.le_of_ble_eq_true rfl), (Nat.le_of_ble_eq_true rfl)⟩ rfl rfl (Nat.le_of_ble_eq_true rfl) dL_law_1169 (fun H locs hW => ?_)
  refine lv_icmp_eq (tgt := 1440) hx hb dL_law_1172 (by decide) (fun _ => ?_) (fun hc => absurd rfl hc)
  exact law_next C hW ih hR1 hl
set_option maxHeartbeats 4000000 in
set_option maxRecDepth 100000 in
theorem law_c33 {Rel : Nat → HS → HS → Prop} {i n : Nat} (S : St_33 Rel) (C : LC D κ adX adM p s m meth c b L xs) (hi : i + 6 ≤ L) (hL : L ≤ 3072) (hn : n < 512) (ih : ∀ (σX σM : HS) (H : Heap) (locs : List Loc) (ls : Array Slot), Rel (n + 1) σX σM → Lw D κ adX adM s σX σM H locs → lv_has ls 4 [(0, .ref b), (1, .ref (adX 0)), (2, .ref (adM 0)), (3, .int (nI (i + 6)))] → W p l e room_1 s m #[Value.ref b] below meth c H locs 95 19212 (lw_Z below #[Value.ref b] s) (F0 m 18 ls [])) (hR : Rel n σX σM) (hW : Lw D κ adX adM s σX σM H locs) (hl : lv_has ls 4 [(0, .ref b), (1, .ref (adX 0)), (2, .ref (adM 0)), (3, .int (nI i))]) : W p l e room_1 s m #[Value.ref b] below meth c H locs 95 19212 (lw_Z below #[Value.ref b] s) (F0 m 1177 ls []) := by
  have hx := C.1
  have hb := C.2.1
  have hXs := C.2.2.2.2.2.2.2.2.2.2.1
  have hbl := C.2.2.2.2.2.2.2.2.2.2.2.1
  obtain ⟨r, σX1, σM1, hfX, hfM, hR1⟩ := S n σX σM hn hR (xs (nI i + 1).toNatClampNeg)
  refine lv_aload_n hx hb dL_law_1177 rfl (lv_at hl 1 rfl) ?_
  refine lv_aload_n hx hb dL_law_1178 rfl (lv_at hl 0 rfl) ?_
  refine lv_iload_n hx hb dL_law_1179 rfl (lv_at hl 3 rfl) ?_
  refine lv_iconst (v := 1) hx hb dL_law_1180 (by decide) ?_
  refine lv_iadd hx hb dL_law_1181 ?_
  refine va_sld hx hb hXs hbl (Nat.not_le.mpr hbl) hW.2.2 (lw_in hi hL 1 (by decide)) dL_law_1182 ?_
  refine lw_callX (rest := []) C hW hl.1 cV_L_153 rfl (kX11_partsIn l D adX κ hfX) ⟨rfl, rfl⟩ ⟨(Nat.le_of_ble_eq_true rfl), (Nat.le_of_ble_eq_true rfl)⟩ rfl rfl (Nat.le_of_ble_eq_true rfl) dL_law_1183 (fun H locs hW => ?_)
  refine lv_aload_n hx hb dL_law_1186 rfl (lv_at hl 2 rfl) ?_
  refine lv_aload_n hx hb dL_law_1187 rfl (lv_at hl 0 rfl) ?_
  refine lv_iload_n hx hb dL_law_1188 rfl (lv_at hl 3 rfl) ?_
  refine lv_iconst (v := 1) hx hb dL_law_1189 (by decide) ?_
  refine lv_iadd hx hb dL_law_1190 ?_
  refine va_sld hx hb hXs hbl (Nat.not_le.mpr hbl) hW.2.2 (lw_in hi hL 1 (by decide)) dL_law_1191 ?_
  refine lw_callM (rest := [.int r]) C hW hl.1 cV_L_156 rfl (kX12_partsIn l D adM κ hfM) ⟨rfl, rfl⟩ ⟨(Nat.le_of_ble_eq_true rfl), (Nat.le_of_ble_eq_true rfl)⟩ rfl rfl (Nat.le_of_ble_eq_true rfl) dL_law_1192 (fun H locs hW => ?_)
  refine lv_icmp_eq (tgt := 1440) hx hb dL_law_1195 (by decide) (fun _ => ?_) (fun hc => absurd rfl hc)
  exact law_next C hW ih hR1 hl
set_option maxHeartbeats 4000000 in
set_option maxRecDepth 100000 in
theorem law_c34 {Rel : Nat → HS → HS → Prop} {i n : Nat} (S : St_34 Rel) (C : LC D κ adX adM p s m meth c b L xs) (hi : i + 6 ≤ L) (hL : L ≤ 3072) (hn : n < 512) (ih : ∀ (σX σM : HS) (H : Heap) (locs : List Loc) (ls : Array Slot), Rel (n + 1) σX σM → Lw D κ adX adM s σX σM H locs → lv_has ls 4 [(0, .ref b), (1, .ref (adX 0)), (2, .ref (adM 0)), (3, .int (nI (i + 6)))] → W p l e room_1 s m #[Value.ref b] below meth c H locs 95 19212 (lw_Z below #[Value.ref b] s) (F0 m 18 ls [])) (hR : Rel n σX σM) (hW : Lw D κ adX adM s σX σM H locs) (hl : lv_has ls 4 [(0, .ref b), (1, .ref (adX 0)), (2, .ref (adM 0)), (3, .int (nI i))]) : W p l e room_1 s m #[Value.ref b] below meth c H locs 95 19212 (lw_Z below #[Value.ref b] s) (F0 m 1200 ls []) := by
  have hx := C.1
  have hb := C.2.1
  have hXs := C.2.2.2.2.2.2.2.2.2.2.1
  have hbl := C.2.2.2.2.2.2.2.2.2.2.2.1
  obtain ⟨r, σX1, σM1, hfX, hfM, hR1⟩ := S n σX σM hn hR (xs (nI i + 1).toNatClampNeg) (xs (nI i + 2).toNatClampNeg) (xs (nI i + 3).toNatClampNeg)
  refine lv_aload_n hx hb dL_law_1200 rfl (lv_at hl 1 rfl) ?_
  refine lv_aload_n hx hb dL_law_1201 rfl (lv_at hl 0 rfl) ?_
  refine lv_iload_n hx hb dL_law_1202 rfl (lv_at hl 3 rfl) ?_
  refine lv_iconst (v := 1) hx hb dL_law_1203 (by decide) ?_
  refine lv_iadd hx hb dL_law_1204 ?_
  refine va_sld hx hb hXs hbl (Nat.not_le.mpr hbl) hW.2.2 (lw_in hi hL 1 (by decide)) dL_law_1205 ?_
  refine lv_aload_n hx hb dL_law_1206 rfl (lv_at hl 0 rfl) ?_
  refine lv_iload_n hx hb dL_law_1207 rfl (lv_at hl 3 rfl) ?_
  refine lv_iconst (v := 2) hx hb dL_law_1208 (by decide) ?_
  refine lv_iadd hx hb dL_law_1209 ?_
  refine va_sld hx hb hXs hbl (Nat.not_le.mpr hbl) hW.2.2 (lw_in hi hL 2 (by decide)) dL_law_1210 ?_
  refine lv_aload_n hx hb dL_law_1211 rfl (lv_at hl 0 rfl) ?_
  refine lv_iload_n hx hb dL_law_1212 rfl (lv_at hl 3 rfl) ?_
  refine lv_iconst (v := 3) hx hb dL_law_1213 (by decide) ?_
  refine lv_iadd hx hb dL_law_1214 ?_
  refine va_sld hx hb hXs hbl (Nat.not_le.mpr hbl) hW.2.2 (lw_in hi hL 3 (by decide)) dL_law_1215 ?_
  refine lw_callX (rest := []) C hW hl.1 cV_L_157 rfl (kX11_year l D adX κ hfX) ⟨rfl, rfl⟩ ⟨(Nat.le_of_ble_eq_true rfl), (Nat.le_of_ble_eq_true rfl)⟩ rfl rfl (Nat.le_of_ble_eq_true rfl) dL_law_1216 (fun H locs hW => ?_)
  refine lv_aload_n hx hb dL_law_1219 rfl (lv_at hl 2 rfl) ?_
  refine lv_aload_n hx hb dL_law_1220 rfl (lv_at hl 0 rfl) ?_
  refine lv_iload_n hx hb dL_law_1221 rfl (lv_at hl 3 rfl) ?_
  refine lv_iconst (v := 1) hx hb dL_law_1222 (by decide) ?_
  refine lv_iadd hx hb dL_law_1223 ?_
  refine va_sld hx hb hXs hbl (Nat.not_le.mpr hbl) hW.2.2 (lw_in hi hL 1 (by decide)) dL_law_1224 ?_
  refine lv_aload_n hx hb dL_law_1225 rfl (lv_at hl 0 rfl) ?_
  refine lv_iload_n hx hb dL_law_1226 rfl (lv_at hl 3 rfl) ?_
  refine lv_iconst (v := 2) hx hb dL_law_1227 (by decide) ?_
  refine lv_iadd hx hb dL_law_1228 ?_
  refine va_sld hx hb hXs hbl (Nat.not_le.mpr hbl) hW.2.2 (lw_in hi hL 2 (by decide)) dL_law_1229 ?_
  refine lv_aload_n hx hb dL_law_1230 rfl (lv_at hl 0 rfl) ?_
  refine lv_iload_n hx hb dL_law_1231 rfl (lv_at hl 3 rfl) ?_
  refine lv_iconst (v := 3) hx hb dL_law_1232 (by decide) ?_
  refine lv_iadd hx hb dL_law_1233 ?_
  refine va_sld hx hb hXs hbl (Nat.not_le.mpr hbl) hW.2.2 (lw_in hi hL 3 (by decide)) dL_law_1234 ?_
  refine lw_callM (rest := [.int r]) C hW hl.1 cV_L_160 rfl (kX12_year l D adM κ hfM) ⟨rfl, rfl⟩ ⟨(Nat.le_of_ble_eq_true rfl), (Nat.le_of_ble_eq_true rfl)⟩ rfl rfl (Nat.le_of_ble_eq_true rfl) dL_law_1235 (fun H locs hW => ?_)
  refine lv_icmp_eq (tgt := 1440) hx hb dL_law_1238 (by decide) (fun _ => ?_) (fun hc => absurd rfl hc)
  exact law_next C hW ih hR1 hl
set_option maxHeartbeats 4000000 in
set_option maxRecDepth 100000 in
theorem law_c35 {Rel : Nat → HS → HS → Prop} {i n : Nat} (S : St_35 Rel) (C : LC D κ adX adM p s m meth c b L xs) (hi : i + 6 ≤ L) (hL : L ≤ 3072) (hn : n < 512) (ih : ∀ (σX σM : HS) (H : Heap) (locs : List Loc) (ls : Array Slot), Rel (n + 1) σX σM → Lw D κ adX adM s σX σM H locs → lv_has ls 4 [(0, .ref b), (1, .ref (adX 0)), (2, .ref (adM 0)), (3, .int (nI (i + 6)))] → W p l e room_1 s m #[Value.ref b] below meth c H locs 95 19212 (lw_Z below #[Value.ref b] s) (F0 m 18 ls [])) (hR : Rel n σX σM) (hW : Lw D κ adX adM s σX σM H locs) (hl : lv_has ls 4 [(0, .ref b), (1, .ref (adX 0)), (2, .ref (adM 0)), (3, .int (nI i))]) : W p l e room_1 s m #[Value.ref b] below meth c H locs 95 19212 (lw_Z below #[Value.ref b] s) (F0 m 1243 ls []) := by
  have hx := C.1
  have hb := C.2.1
  have hXs := C.2.2.2.2.2.2.2.2.2.2.1
  have hbl := C.2.2.2.2.2.2.2.2.2.2.2.1
  by_cases hv : (xs (nI i + 3).toNatClampNeg) = 0
  · obtain ⟨r, σX1, σM1, hfX, hfM, hR1⟩ := S n σX σM hn hR (xs (nI i + 1).toNatClampNeg) (xs (nI i + 2).toNatClampNeg) (0 : Int32) (Or.inl rfl)
    refine lv_aload_n hx hb dL_law_1243 rfl (lv_at hl 1 rfl) ?_
    refine lv_aload_n hx hb dL_law_1244 rfl (lv_at hl 0 rfl) ?_
    refine lv_iload_n hx hb dL_law_1245 rfl (lv_at hl 3 rfl) ?_
    refine lv_iconst (v := 1) hx hb dL_law_1246 (by decide) ?_
    refine lv_iadd hx hb dL_law_1247 ?_
    refine va_sld hx hb hXs hbl (Nat.not_le.mpr hbl) hW.2.2 (lw_in hi hL 1 (by decide)) dL_law_1248 ?_
    refine lv_aload_n hx hb dL_law_1249 rfl (lv_at hl 0 rfl) ?_
    refine lv_iload_n hx hb dL_law_1250 rfl (lv_at hl 3 rfl) ?_
    refine lv_iconst (v := 2) hx hb dL_law_1251 (by decide) ?_
    refine lv_iadd hx hb dL_law_1252 ?_
    refine va_sld hx hb hXs hbl (Nat.not_le.mpr hbl) hW.2.2 (lw_in hi hL 2 (by decide)) dL_law_1253 ?_
    refine lv_aload_n hx hb dL_law_1254 rfl (lv_at hl 0 rfl) ?_
    refine lv_iload_n hx hb dL_law_1255 rfl (lv_at hl 3 rfl) ?_
    refine lv_iconst (v := 3) hx hb dL_law_1256 (by decide) ?_
    refine lv_iadd hx hb dL_law_1257 ?_
    refine va_sld hx hb hXs hbl (Nat.not_le.mpr hbl) hW.2.2 (lw_in hi hL 3 (by decide)) dL_law_1258 ?_
    refine lv_if_eq (tgt := 1266) hx hb dL_law_1259 (by decide) (fun _ => ?_) (fun hc => absurd hv hc)
    refine lv_iconst (v := 0) hx hb dL_law_1266 (by decide) ?_
    refine lw_callX (rest := []) C hW hl.1 cV_L_161 rfl (kX11_tell l D adX κ hfX) ⟨rfl, rfl⟩ ⟨(Nat.le_of_ble_eq_true rfl), (Nat.le_of_ble_eq_true rfl)⟩ rfl rfl (Nat.le_of_ble_eq_true rfl) dL_law_1267 (fun H locs hW => ?_)
    refine lv_aload_n hx hb dL_law_1270 rfl (lv_at hl 2 rfl) ?_
    refine lv_aload_n hx hb dL_law_1271 rfl (lv_at hl 0 rfl) ?_
    refine lv_iload_n hx hb dL_law_1272 rfl (lv_at hl 3 rfl) ?_
    refine lv_iconst (v := 1) hx hb dL_law_1273 (by decide) ?_
    refine lv_iadd hx hb dL_law_1274 ?_
    refine va_sld hx hb hXs hbl (Nat.not_le.mpr hbl) hW.2.2 (lw_in hi hL 1 (by decide)) dL_law_1275 ?_
    refine lv_aload_n hx hb dL_law_1276 rfl (lv_at hl 0 rfl) ?_
    refine lv_iload_n hx hb dL_law_1277 rfl (lv_at hl 3 rfl) ?_
    refine lv_iconst (v := 2) hx hb dL_law_1278 (by decide) ?_
    refine lv_iadd hx hb dL_law_1279 ?_
    refine va_sld hx hb hXs hbl (Nat.not_le.mpr hbl) hW.2.2 (lw_in hi hL 2 (by decide)) dL_law_1280 ?_
    refine lv_aload_n hx hb dL_law_1281 rfl (lv_at hl 0 rfl) ?_
    refine lv_iload_n hx hb dL_law_1282 rfl (lv_at hl 3 rfl) ?_
    refine lv_iconst (v := 3) hx hb dL_law_1283 (by decide) ?_
    refine lv_iadd hx hb dL_law_1284 ?_
    refine va_sld hx hb hXs hbl (Nat.not_le.mpr hbl) hW.2.2 (lw_in hi hL 3 (by decide)) dL_law_1285 ?_
    refine lv_if_eq (tgt := 1293) hx hb dL_law_1286 (by decide) (fun _ => ?_) (fun hc => absurd hv hc)
    refine lv_iconst (v := 0) hx hb dL_law_1293 (by decide) ?_
    refine lw_callM (rest := [.int r]) C hW hl.1 cV_L_165 rfl (kX12_tell l D adM κ hfM) ⟨rfl, rfl⟩ ⟨(Nat.le_of_ble_eq_true rfl), (Nat.le_of_ble_eq_true rfl)⟩ rfl rfl (Nat.le_of_ble_eq_true rfl) dL_law_1294 (fun H locs hW => ?_)
    refine lv_icmp_eq (tgt := 1440) hx hb dL_law_1297 (by decide) (fun _ => ?_) (fun hc => absurd rfl hc)
    exact law_next C hW ih hR1 hl
  · obtain ⟨r, σX1, σM1, hfX, hfM, hR1⟩ := S n σX σM hn hR (xs (nI i + 1).toNatClampNeg) (xs (nI i + 2).toNatClampNeg) (1 : Int32) (Or.inr rfl)
    refine lv_aload_n hx hb dL_law_1243 rfl (lv_at hl 1 rfl) ?_
    refine lv_aload_n hx hb dL_law_1244 rfl (lv_at hl 0 rfl) ?_
    refine lv_iload_n hx hb dL_law_1245 rfl (lv_at hl 3 rfl) ?_
    refine lv_iconst (v := 1) hx hb dL_law_1246 (by decide) ?_
    refine lv_iadd hx hb dL_law_1247 ?_
    refine va_sld hx hb hXs hbl (Nat.not_le.mpr hbl) hW.2.2 (lw_in hi hL 1 (by decide)) dL_law_1248 ?_
    refine lv_aload_n hx hb dL_law_1249 rfl (lv_at hl 0 rfl) ?_
    refine lv_iload_n hx hb dL_law_1250 rfl (lv_at hl 3 rfl) ?_
    refine lv_iconst (v := 2) hx hb dL_law_1251 (by decide) ?_
    refine lv_iadd hx hb dL_law_1252 ?_
    refine va_sld hx hb hXs hbl (Nat.not_le.mpr hbl) hW.2.2 (lw_in hi hL 2 (by decide)) dL_law_1253 ?_
    refine lv_aload_n hx hb dL_law_1254 rfl (lv_at hl 0 rfl) ?_
    refine lv_iload_n hx hb dL_law_1255 rfl (lv_at hl 3 rfl) ?_
    refine lv_iconst (v := 3) hx hb dL_law_1256 (by decide) ?_
    refine lv_iadd hx hb dL_law_1257 ?_
    refine va_sld hx hb hXs hbl (Nat.not_le.mpr hbl) hW.2.2 (lw_in hi hL 3 (by decide)) dL_law_1258 ?_
    refine lv_if_eq (tgt := 1266) hx hb dL_law_1259 (by decide) (fun hc => absurd hc hv) (fun _ => ?_)
    refine lv_iconst (v := 1) hx hb dL_law_1262 (by decide) ?_
    refine lv_goto (tgt := 1267) hx hb dL_law_1263 (by decide) ?_
    refine lw_callX (rest := []) C hW hl.1 cV_L_161 rfl (kX11_tell l D adX κ hfX) ⟨rfl, rfl⟩ ⟨(Nat.le_of_ble_eq_true rfl), (Nat.le_of_ble_eq_true rfl)⟩ rfl rfl (Nat.le_of_ble_eq_true rfl) dL_law_1267 (fun H locs hW => ?_)
    refine lv_aload_n hx hb dL_law_1270 rfl (lv_at hl 2 rfl) ?_
    refine lv_aload_n hx hb dL_law_1271 rfl (lv_at hl 0 rfl) ?_
    refine lv_iload_n hx hb dL_law_1272 rfl (lv_at hl 3 rfl) ?_
    refine lv_iconst (v := 1) hx hb dL_law_1273 (by decide) ?_
    refine lv_iadd hx hb dL_law_1274 ?_
    refine va_sld hx hb hXs hbl (Nat.not_le.mpr hbl) hW.2.2 (lw_in hi hL 1 (by decide)) dL_law_1275 ?_
    refine lv_aload_n hx hb dL_law_1276 rfl (lv_at hl 0 rfl) ?_
    refine lv_iload_n hx hb dL_law_1277 rfl (lv_at hl 3 rfl) ?_
    refine lv_iconst (v := 2) hx hb dL_law_1278 (by decide) ?_
    refine lv_iadd hx hb dL_law_1279 ?_
    refine va_sld hx hb hXs hbl (Nat.not_le.mpr hbl) hW.2.2 (lw_in hi hL 2 (by decide)) dL_law_1280 ?_
    refine lv_aload_n hx hb dL_law_1281 rfl (lv_at hl 0 rfl) ?_
    refine lv_iload_n hx hb dL_law_1282 rfl (lv_at hl 3 rfl) ?_
    refine lv_iconst (v := 3) hx hb dL_law_1283 (by decide) ?_
    refine lv_iadd hx hb dL_law_1284 ?_
    refine va_sld hx hb hXs hbl (Nat.not_le.mpr hbl) hW.2.2 (lw_in hi hL 3 (by decide)) dL_law_1285 ?_
    refine lv_if_eq (tgt := 1293) hx hb dL_law_1286 (by decide) (fun hc => absurd hc hv) (fun _ => ?_)
    refine lv_iconst (v := 1) hx hb dL_law_1289 (by decide) ?_
    refine lv_goto (tgt := 1294) hx hb dL_law_1290 (by decide) ?_
    refine lw_callM (rest := [.int r]) C hW hl.1 cV_L_165 rfl (kX12_tell l D adM κ hfM) ⟨rfl, rfl⟩ ⟨(Nat.le_of_ble_eq_true rfl), (Nat.le_of_ble_eq_true rfl)⟩ rfl rfl (Nat.le_of_ble_eq_true rfl) dL_law_1294 (fun H locs hW => ?_)
    refine lv_icmp_eq (tgt := 1440) hx hb dL_law_1297 (by decide) (fun _ => ?_) (fun hc => absurd rfl hc)
    exact law_next C hW ih hR1 hl
set_option maxHeartbeats 4000000 in
set_option maxRecDepth 100000 in
theorem law_c36 {Rel : Nat → HS → HS → Prop} {i n : Nat} (S : St_36 Rel) (C : LC D κ adX adM p s m meth c b L xs) (hi : i + 6 ≤ L) (hL : L ≤ 3072) (hn : n < 512) (ih : ∀ (σX σM : HS) (H : Heap) (locs : List Loc) (ls : Array Slot), Rel (n + 1) σX σM → Lw D κ adX adM s σX σM H locs → lv_has ls 4 [(0, .ref b), (1, .ref (adX 0)), (2, .ref (adM 0)), (3, .int (nI (i + 6)))] → W p l e room_1 s m #[Value.ref b] below meth c H locs 95 19212 (lw_Z below #[Value.ref b] s) (F0 m 18 ls [])) (hR : Rel n σX σM) (hW : Lw D κ adX adM s σX σM H locs) (hl : lv_has ls 4 [(0, .ref b), (1, .ref (adX 0)), (2, .ref (adM 0)), (3, .int (nI i))]) : W p l e room_1 s m #[Value.ref b] below meth c H locs 95 19212 (lw_Z below #[Value.ref b] s) (F0 m 1302 ls []) := by
  have hx := C.1
  have hb := C.2.1
  have hXs := C.2.2.2.2.2.2.2.2.2.2.1
  have hbl := C.2.2.2.2.2.2.2.2.2.2.2.1
  obtain ⟨r, σX1, σM1, hfX, hfM, hR1⟩ := S n σX σM hn hR 
  refine lv_aload_n hx hb dL_law_1302 rfl (lv_at hl 1 rfl) ?_
  refine lw_callX (rest := []) C hW hl.1 cV_L_166 rfl (kX11_forget l D adX κ hfX) ⟨rfl, rfl⟩ ⟨(Nat.le_of_ble_eq_true rfl), (Nat.le_of_ble_eq_true rfl)⟩ rfl rfl (Nat.le_of_ble_eq_true rfl) dL_law_1303 (fun H locs hW => ?_)
  refine lv_aload_n hx hb dL_law_1306 rfl (lv_at hl 2 rfl) ?_
  refine lw_callM (rest := [.int r]) C hW hl.1 cV_L_169 rfl (kX12_forget l D adM κ hfM) ⟨rfl, rfl⟩ ⟨(Nat.le_of_ble_eq_true rfl), (Nat.le_of_ble_eq_true rfl)⟩ rfl rfl (Nat.le_of_ble_eq_true rfl) dL_law_1307 (fun H locs hW => ?_)
  refine lv_icmp_eq (tgt := 1440) hx hb dL_law_1310 (by decide) (fun _ => ?_) (fun hc => absurd rfl hc)
  exact law_next C hW ih hR1 hl
set_option maxHeartbeats 4000000 in
set_option maxRecDepth 100000 in
theorem law_c37 {Rel : Nat → HS → HS → Prop} {i n : Nat} (S : St_37 Rel) (C : LC D κ adX adM p s m meth c b L xs) (hi : i + 6 ≤ L) (hL : L ≤ 3072) (hn : n < 512) (ih : ∀ (σX σM : HS) (H : Heap) (locs : List Loc) (ls : Array Slot), Rel (n + 1) σX σM → Lw D κ adX adM s σX σM H locs → lv_has ls 4 [(0, .ref b), (1, .ref (adX 0)), (2, .ref (adM 0)), (3, .int (nI (i + 6)))] → W p l e room_1 s m #[Value.ref b] below meth c H locs 95 19212 (lw_Z below #[Value.ref b] s) (F0 m 18 ls [])) (hR : Rel n σX σM) (hW : Lw D κ adX adM s σX σM H locs) (hl : lv_has ls 4 [(0, .ref b), (1, .ref (adX 0)), (2, .ref (adM 0)), (3, .int (nI i))]) : W p l e room_1 s m #[Value.ref b] below meth c H locs 95 19212 (lw_Z below #[Value.ref b] s) (F0 m 1315 ls []) := by
  have hx := C.1
  have hb := C.2.1
  have hXs := C.2.2.2.2.2.2.2.2.2.2.1
  have hbl := C.2.2.2.2.2.2.2.2.2.2.2.1
  obtain ⟨r, σX1, σM1, hfX, hfM, hR1⟩ := S n σX σM hn hR (xs (nI i + 1).toNatClampNeg) (xs (nI i + 2).toNatClampNeg)
  refine lv_aload_n hx hb dL_law_1315 rfl (lv_at hl 1 rfl) ?_
  refine lv_aload_n hx hb dL_law_1316 rfl (lv_at hl 0 rfl) ?_
  refine lv_iload_n hx hb dL_law_1317 rfl (lv_at hl 3 rfl) ?_
  refine lv_iconst (v := 1) hx hb dL_law_1318 (by decide) ?_
  refine lv_iadd hx hb dL_law_1319 ?_
  refine va_sld hx hb hXs hbl (Nat.not_le.mpr hbl) hW.2.2 (lw_in hi hL 1 (by decide)) dL_law_1320 ?_
  refine lv_aload_n hx hb dL_law_1321 rfl (lv_at hl 0 rfl) ?_
  refine lv_iload_n hx hb dL_law_1322 rfl (lv_at hl 3 rfl) ?_
  refine lv_iconst (v := 2) hx hb dL_law_1323 (by decide) ?_
  refine lv_iadd hx hb dL_law_1324 ?_
  refine va_sld hx hb hXs hbl (Nat.not_le.mpr hbl) hW.2.2 (lw_in hi hL 2 (by decide)) dL_law_1325 ?_
  refine lw_callX (rest := []) C hW hl.1 cV_L_170 rfl (kX11_when l D adX κ hfX) ⟨rfl, rfl⟩ ⟨(Nat.le_of_ble_eq_true rfl), (Nat.le_of_ble_eq_true rfl)⟩ rfl rfl (Nat.le_of_ble_eq_true rfl) dL_law_1326 (fun H locs hW => ?_)
  refine lv_aload_n hx hb dL_law_1329 rfl (lv_at hl 2 rfl) ?_
  refine lv_aload_n hx hb dL_law_1330 rfl (lv_at hl 0 rfl) ?_
  refine lv_iload_n hx hb dL_law_1331 rfl (lv_at hl 3 rfl) ?_
  refine lv_iconst (v := 1) hx hb dL_law_1332 (by decide) ?_
  refine lv_iadd hx hb dL_law_1333 ?_
  refine va_sld hx hb hXs hbl (Nat.not_le.mpr hbl) hW.2.2 (lw_in hi hL 1 (by decide)) dL_law_1334 ?_
  refine lv_aload_n hx hb dL_law_1335 rfl (lv_at hl 0 rfl) ?_
  refine lv_iload_n hx hb dL_law_1336 rfl (lv_at hl 3 rfl) ?_
  refine lv_iconst (v := 2) hx hb dL_law_1337 (by decide) ?_
  refine lv_iadd hx hb dL_law_1338 ?_
  refine va_sld hx hb hXs hbl (Nat.not_le.mpr hbl) hW.2.2 (lw_in hi hL 2 (by decide)) dL_law_1339 ?_
  refine lw_callM (rest := [.int r]) C hW hl.1 cV_L_173 rfl (kX12_when l D adM κ hfM) ⟨rfl, rfl⟩ ⟨(Nat.le_of_ble_eq_true rfl), (Nat.le_of_ble_eq_true rfl)⟩ rfl rfl (Nat.le_of_ble_eq_true rfl) dL_law_1340 (fun H locs hW => ?_)
  refine lv_icmp_eq (tgt := 1440) hx hb dL_law_1343 (by decide) (fun _ => ?_) (fun hc => absurd rfl hc)
  exact law_next C hW ih hR1 hl
set_option maxHeartbeats 4000000 in
set_option maxRecDepth 100000 in
theorem law_c38 {Rel : Nat → HS → HS → Prop} {i n : Nat} (S : St_38 Rel) (C : LC D κ adX adM p s m meth c b L xs) (hi : i + 6 ≤ L) (hL : L ≤ 3072) (hn : n < 512) (ih : ∀ (σX σM : HS) (H : Heap) (locs : List Loc) (ls : Array Slot), Rel (n + 1) σX σM → Lw D κ adX adM s σX σM H locs → lv_has ls 4 [(0, .ref b), (1, .ref (adX 0)), (2, .ref (adM 0)), (3, .int (nI (i + 6)))] → W p l e room_1 s m #[Value.ref b] below meth c H locs 95 19212 (lw_Z below #[Value.ref b] s) (F0 m 18 ls [])) (hR : Rel n σX σM) (hW : Lw D κ adX adM s σX σM H locs) (hl : lv_has ls 4 [(0, .ref b), (1, .ref (adX 0)), (2, .ref (adM 0)), (3, .int (nI i))]) : W p l e room_1 s m #[Value.ref b] below meth c H locs 95 19212 (lw_Z below #[Value.ref b] s) (F0 m 1348 ls []) := by
  have hx := C.1
  have hb := C.2.1
  have hXs := C.2.2.2.2.2.2.2.2.2.2.1
  have hbl := C.2.2.2.2.2.2.2.2.2.2.2.1
  obtain ⟨r, σX1, σM1, hfX, hfM, hR1⟩ := S n σX σM hn hR (xs (nI i + 1).toNatClampNeg)
  refine lv_aload_n hx hb dL_law_1348 rfl (lv_at hl 1 rfl) ?_
  refine lv_aload_n hx hb dL_law_1349 rfl (lv_at hl 0 rfl) ?_
  refine lv_iload_n hx hb dL_law_1350 rfl (lv_at hl 3 rfl) ?_
  refine lv_iconst (v := 1) hx hb dL_law_1351 (by decide) ?_
  refine lv_iadd hx hb dL_law_1352 ?_
  refine va_sld hx hb hXs hbl (Nat.not_le.mpr hbl) hW.2.2 (lw_in hi hL 1 (by decide)) dL_law_1353 ?_
  refine lw_callX (rest := []) C hW hl.1 cV_L_174 rfl (kX11_ask l D adX κ hfX) ⟨rfl, rfl⟩ ⟨(Nat.le_of_ble_eq_true rfl), (Nat.le_of_ble_eq_true rfl)⟩ rfl rfl (Nat.le_of_ble_eq_true rfl) dL_law_1354 (fun H locs hW => ?_)
  refine lv_aload_n hx hb dL_law_1357 rfl (lv_at hl 2 rfl) ?_
  refine lv_aload_n hx hb dL_law_1358 rfl (lv_at hl 0 rfl) ?_
  refine lv_iload_n hx hb dL_law_1359 rfl (lv_at hl 3 rfl) ?_
  refine lv_iconst (v := 1) hx hb dL_law_1360 (by decide) ?_
  refine lv_iadd hx hb dL_law_1361 ?_
  refine va_sld hx hb hXs hbl (Nat.not_le.mpr hbl) hW.2.2 (lw_in hi hL 1 (by decide)) dL_law_1362 ?_
  refine lw_callM (rest := [.int r]) C hW hl.1 cV_L_177 rfl (kX12_ask l D adM κ hfM) ⟨rfl, rfl⟩ ⟨(Nat.le_of_ble_eq_true rfl), (Nat.le_of_ble_eq_true rfl)⟩ rfl rfl (Nat.le_of_ble_eq_true rfl) dL_law_1363 (fun H locs hW => ?_)
  refine lv_icmp_eq (tgt := 1440) hx hb dL_law_1366 (by decide) (fun _ => ?_) (fun hc => absurd rfl hc)
  exact law_next C hW ih hR1 hl
set_option maxHeartbeats 4000000 in
set_option maxRecDepth 100000 in
theorem law_c39 {Rel : Nat → HS → HS → Prop} {i n : Nat} (S : St_39 Rel) (C : LC D κ adX adM p s m meth c b L xs) (hi : i + 6 ≤ L) (hL : L ≤ 3072) (hn : n < 512) (ih : ∀ (σX σM : HS) (H : Heap) (locs : List Loc) (ls : Array Slot), Rel (n + 1) σX σM → Lw D κ adX adM s σX σM H locs → lv_has ls 4 [(0, .ref b), (1, .ref (adX 0)), (2, .ref (adM 0)), (3, .int (nI (i + 6)))] → W p l e room_1 s m #[Value.ref b] below meth c H locs 95 19212 (lw_Z below #[Value.ref b] s) (F0 m 18 ls [])) (hR : Rel n σX σM) (hW : Lw D κ adX adM s σX σM H locs) (hl : lv_has ls 4 [(0, .ref b), (1, .ref (adX 0)), (2, .ref (adM 0)), (3, .int (nI i))]) : W p l e room_1 s m #[Value.ref b] below meth c H locs 95 19212 (lw_Z below #[Value.ref b] s) (F0 m 1371 ls []) := by
  have hx := C.1
  have hb := C.2.1
  have hXs := C.2.2.2.2.2.2.2.2.2.2.1
  have hbl := C.2.2.2.2.2.2.2.2.2.2.2.1
  obtain ⟨r, σX1, σM1, hfX, hfM, hR1⟩ := S n σX σM hn hR (xs (nI i + 1).toNatClampNeg)
  refine lv_aload_n hx hb dL_law_1371 rfl (lv_at hl 1 rfl) ?_
  refine lv_aload_n hx hb dL_law_1372 rfl (lv_at hl 0 rfl) ?_
  refine lv_iload_n hx hb dL_law_1373 rfl (lv_at hl 3 rfl) ?_
  refine lv_iconst (v := 1) hx hb dL_law_1374 (by decide) ?_
  refine lv_iadd hx hb dL_law_1375 ?_
  refine va_sld hx hb hXs hbl (Nat.not_le.mpr hbl) hW.2.2 (lw_in hi hL 1 (by decide)) dL_law_1376 ?_
  refine lw_callX (rest := []) C hW hl.1 cV_L_178 rfl (kX11_hold l D adX κ hfX) ⟨rfl, rfl⟩ ⟨(Nat.le_of_ble_eq_true rfl), (Nat.le_of_ble_eq_true rfl)⟩ rfl rfl (Nat.le_of_ble_eq_true rfl) dL_law_1377 (fun H locs hW => ?_)
  refine lv_aload_n hx hb dL_law_1380 rfl (lv_at hl 2 rfl) ?_
  refine lv_aload_n hx hb dL_law_1381 rfl (lv_at hl 0 rfl) ?_
  refine lv_iload_n hx hb dL_law_1382 rfl (lv_at hl 3 rfl) ?_
  refine lv_iconst (v := 1) hx hb dL_law_1383 (by decide) ?_
  refine lv_iadd hx hb dL_law_1384 ?_
  refine va_sld hx hb hXs hbl (Nat.not_le.mpr hbl) hW.2.2 (lw_in hi hL 1 (by decide)) dL_law_1385 ?_
  refine lw_callM (rest := [.int r]) C hW hl.1 cV_L_182 rfl (kX12_hold l D adM κ hfM) ⟨rfl, rfl⟩ ⟨(Nat.le_of_ble_eq_true rfl), (Nat.le_of_ble_eq_true rfl)⟩ rfl rfl (Nat.le_of_ble_eq_true rfl) dL_law_1386 (fun H locs hW => ?_)
  refine lv_icmp_eq (tgt := 1440) hx hb dL_law_1389 (by decide) (fun _ => ?_) (fun hc => absurd rfl hc)
  exact law_next C hW ih hR1 hl
set_option maxHeartbeats 4000000 in
set_option maxRecDepth 100000 in
theorem law_c40 {Rel : Nat → HS → HS → Prop} {i n : Nat} (S : St_40 Rel) (C : LC D κ adX adM p s m meth c b L xs) (hi : i + 6 ≤ L) (hL : L ≤ 3072) (hn : n < 512) (ih : ∀ (σX σM : HS) (H : Heap) (locs : List Loc) (ls : Array Slot), Rel (n + 1) σX σM → Lw D κ adX adM s σX σM H locs → lv_has ls 4 [(0, .ref b), (1, .ref (adX 0)), (2, .ref (adM 0)), (3, .int (nI (i + 6)))] → W p l e room_1 s m #[Value.ref b] below meth c H locs 95 19212 (lw_Z below #[Value.ref b] s) (F0 m 18 ls [])) (hR : Rel n σX σM) (hW : Lw D κ adX adM s σX σM H locs) (hl : lv_has ls 4 [(0, .ref b), (1, .ref (adX 0)), (2, .ref (adM 0)), (3, .int (nI i))]) : W p l e room_1 s m #[Value.ref b] below meth c H locs 95 19212 (lw_Z below #[Value.ref b] s) (F0 m 1394 ls []) := by
  have hx := C.1
  have hb := C.2.1
  have hXs := C.2.2.2.2.2.2.2.2.2.2.1
  have hbl := C.2.2.2.2.2.2.2.2.2.2.2.1
  obtain ⟨r, σX1, σM1, hfX, hfM, hR1⟩ := S n σX σM hn hR (xs (nI i + 1).toNatClampNeg)
  refine lv_aload_n hx hb dL_law_1394 rfl (lv_at hl 1 rfl) ?_
  refine lv_aload_n hx hb dL_law_1395 rfl (lv_at hl 0 rfl) ?_
  refine lv_iload_n hx hb dL_law_1396 rfl (lv_at hl 3 rfl) ?_
  refine lv_iconst (v := 1) hx hb dL_law_1397 (by decide) ?_
  refine lv_iadd hx hb dL_law_1398 ?_
  refine va_sld hx hb hXs hbl (Nat.not_le.mpr hbl) hW.2.2 (lw_in hi hL 1 (by decide)) dL_law_1399 ?_
  refine lw_callX (rest := []) C hW hl.1 cV_L_183 rfl (kX11_restore l D adX κ hfX) ⟨rfl, rfl⟩ ⟨(Nat.le_of_ble_eq_true rfl), (Nat.le_of_ble_eq_true rfl)⟩ rfl rfl (Nat.le_of_ble_eq_true rfl) dL_law_1400 (fun H locs hW => ?_)
  refine lv_aload_n hx hb dL_law_1403 rfl (lv_at hl 2 rfl) ?_
  refine lv_aload_n hx hb dL_law_1404 rfl (lv_at hl 0 rfl) ?_
  refine lv_iload_n hx hb dL_law_1405 rfl (lv_at hl 3 rfl) ?_
  refine lv_iconst (v := 1) hx hb dL_law_1406 (by decide) ?_
  refine lv_iadd hx hb dL_law_1407 ?_
  refine va_sld hx hb hXs hbl (Nat.not_le.mpr hbl) hW.2.2 (lw_in hi hL 1 (by decide)) dL_law_1408 ?_
  refine lw_callM (rest := [.int r]) C hW hl.1 cV_L_186 rfl (kX12_restore l D adM κ hfM) ⟨rfl, rfl⟩ ⟨(Nat.le_of_ble_eq_true rfl), (Nat.le_of_ble_eq_true rfl)⟩ rfl rfl (Nat.le_of_ble_eq_true rfl) dL_law_1409 (fun H locs hW => ?_)
  refine lv_icmp_eq (tgt := 1440) hx hb dL_law_1412 (by decide) (fun _ => ?_) (fun hc => absurd rfl hc)
  exact law_next C hW ih hR1 hl
set_option maxHeartbeats 4000000 in
set_option maxRecDepth 100000 in
theorem law_c41 {Rel : Nat → HS → HS → Prop} {i n : Nat} (S : St_41 Rel) (C : LC D κ adX adM p s m meth c b L xs) (hi : i + 6 ≤ L) (hL : L ≤ 3072) (hn : n < 512) (ih : ∀ (σX σM : HS) (H : Heap) (locs : List Loc) (ls : Array Slot), Rel (n + 1) σX σM → Lw D κ adX adM s σX σM H locs → lv_has ls 4 [(0, .ref b), (1, .ref (adX 0)), (2, .ref (adM 0)), (3, .int (nI (i + 6)))] → W p l e room_1 s m #[Value.ref b] below meth c H locs 95 19212 (lw_Z below #[Value.ref b] s) (F0 m 18 ls [])) (hR : Rel n σX σM) (hW : Lw D κ adX adM s σX σM H locs) (hl : lv_has ls 4 [(0, .ref b), (1, .ref (adX 0)), (2, .ref (adM 0)), (3, .int (nI i))]) : W p l e room_1 s m #[Value.ref b] below meth c H locs 95 19212 (lw_Z below #[Value.ref b] s) (F0 m 1417 ls []) := by
  have hx := C.1
  have hb := C.2.1
  have hXs := C.2.2.2.2.2.2.2.2.2.2.1
  have hbl := C.2.2.2.2.2.2.2.2.2.2.2.1
  obtain ⟨r, σX1, σM1, hfX, hfM, hR1⟩ := S n σX σM hn hR (xs (nI i + 1).toNatClampNeg)
  refine lv_aload_n hx hb dL_law_1417 rfl (lv_at hl 1 rfl) ?_
  refine lv_aload_n hx hb dL_law_1418 rfl (lv_at hl 0 rfl) ?_
  refine lv_iload_n hx hb dL_law_1419 rfl (lv_at hl 3 rfl) ?_
  refine lv_iconst (v := 1) hx hb dL_law_1420 (by decide) ?_
  refine lv_iadd hx hb dL_law_1421 ?_
  refine va_sld hx hb hXs hbl (Nat.not_le.mpr hbl) hW.2.2 (lw_in hi hL 1 (by decide)) dL_law_1422 ?_
  refine lw_callX (rest := []) C hW hl.1 cV_L_187 rfl (kX11_count l D adX κ hfX) ⟨rfl, rfl⟩ ⟨(Nat.le_of_ble_eq_true rfl), (Nat.le_of_ble_eq_true rfl)⟩ rfl rfl (Nat.le_of_ble_eq_true rfl) dL_law_1423 (fun H locs hW => ?_)
  refine lv_aload_n hx hb dL_law_1426 rfl (lv_at hl 2 rfl) ?_
  refine lv_aload_n hx hb dL_law_1427 rfl (lv_at hl 0 rfl) ?_
  refine lv_iload_n hx hb dL_law_1428 rfl (lv_at hl 3 rfl) ?_
  refine lv_iconst (v := 1) hx hb dL_law_1429 (by decide) ?_
  refine lv_iadd hx hb dL_law_1430 ?_
  refine va_sld hx hb hXs hbl (Nat.not_le.mpr hbl) hW.2.2 (lw_in hi hL 1 (by decide)) dL_law_1431 ?_
  refine lw_callM (rest := [.int r]) C hW hl.1 cV_L_190 rfl (kX12_count l D adM κ hfM) ⟨rfl, rfl⟩ ⟨(Nat.le_of_ble_eq_true rfl), (Nat.le_of_ble_eq_true rfl)⟩ rfl rfl (Nat.le_of_ble_eq_true rfl) dL_law_1432 (fun H locs hW => ?_)
  refine lv_icmp_eq (tgt := 1440) hx hb dL_law_1435 (by decide) (fun _ => ?_) (fun hc => absurd rfl hc)
  exact law_next C hW ih hR1 hl
set_option maxHeartbeats 4000000 in
set_option maxRecDepth 100000 in
theorem law_loop {Rel : Nat → HS → HS → Prop} (S0 : St_0 Rel) (S1 : St_1 Rel) (S2 : St_2 Rel) (S3 : St_3 Rel) (S4 : St_4 Rel) (S5 : St_5 Rel) (S6 : St_6 Rel) (S7 : St_7 Rel) (S8 : St_8 Rel) (S9 : St_9 Rel) (S10 : St_10 Rel) (S11 : St_11 Rel) (S12 : St_12 Rel) (S13 : St_13 Rel) (S14 : St_14 Rel) (S15 : St_15 Rel) (S16 : St_16 Rel) (S17 : St_17 Rel) (S18 : St_18 Rel) (S19 : St_19 Rel) (S20 : St_20 Rel) (S21 : St_21 Rel) (S22 : St_22 Rel) (S23 : St_23 Rel) (S24 : St_24 Rel) (S25 : St_25 Rel) (S26 : St_26 Rel) (S27 : St_27 Rel) (S28 : St_28 Rel) (S29 : St_29 Rel) (S30 : St_30 Rel) (S31 : St_31 Rel) (S32 : St_32 Rel) (S33 : St_33 Rel) (S34 : St_34 Rel) (S35 : St_35 Rel) (S36 : St_36 Rel) (S37 : St_37 Rel) (S38 : St_38 Rel) (S39 : St_39 Rel) (S40 : St_40 Rel) (S41 : St_41 Rel) (mono : ∀ n σX σM, Rel n σX σM → Rel (n + 1) σX σM) (C : LC D κ adX adM p s m meth c b L xs) (hL : L ≤ 3072) : ∀ (k n i : Nat) (σX σM : HS) (H : Heap) (locs : List Loc) (ls : Array Slot), L + 6 - i < k → i ≤ L + 6 → i = 6 * n → Rel n σX σM → Lw D κ adX adM s σX σM H locs → lv_has ls 4 [(0, .ref b), (1, .ref (adX 0)), (2, .ref (adM 0)), (3, .int (nI i))] → W p l e room_1 s m #[Value.ref b] below meth c H locs 95 19212 (lw_Z below #[Value.ref b] s) (F0 m 18 ls []) := by
  have hx := C.1
  have hb := C.2.1
  have hXs := C.2.2.2.2.2.2.2.2.2.2.1
  have hbl := C.2.2.2.2.2.2.2.2.2.2.2.1
  intro k
  induction k with
  | zero => intro n i σX σM H locs ls h; omega
  | succ k ihn =>
    intro n i σX σM H locs ls hk hi hin hR hW hl
    refine lv_iload_n hx hb dL_law_18 rfl (lv_at hl 3 rfl) ?_
    refine lv_aload_n hx hb dL_law_19 rfl (lv_at hl 0 rfl) ?_
    refine va_slen hx hb hXs hbl (Nat.not_le.mpr hbl) hW.2.2 dL_law_20 ?_
    refine lv_bipush (v := 6) hx hb dL_law_21 (by decide) ?_
    refine lv_isub hx hb dL_law_23 ?_
    refine lv_icmp_gt (tgt := 1446) hx hb dL_law_24 (by decide) (fun hc => ?_) (fun hc => ?_)
    · refine lv_iconst (v := 1) hx hb dL_law_1446 (by decide) ?_
      refine va_forget (fun q hq => hW.2.2.2.2 q hq) ?_
      exact lw_ret hx hb C.2.2.2.2.2.2.2.2.2.2.2.2.1 C.2.2.2.2.2.2.2.2.2.2.2.2.2 dL_law_1447
    · have hi6 : i + 6 ≤ L := by
        rw [lw_end (by omega) hL] at hc
        omega
      have ih : ∀ (σX σM : HS) (H : Heap) (locs : List Loc) (ls : Array Slot), Rel (n + 1) σX σM → Lw D κ adX adM s σX σM H locs → lv_has ls 4 [(0, .ref b), (1, .ref (adX 0)), (2, .ref (adM 0)), (3, .int (nI (i + 6)))] → W p l e room_1 s m #[Value.ref b] below meth c H locs 95 19212 (lw_Z below #[Value.ref b] s) (F0 m 18 ls []) := fun σX σM H locs ls => ihn (n + 1) (i + 6) σX σM H locs ls (by omega) (by omega) (by omega)
      have hn : n < 512 := by omega
      refine lv_aload_n hx hb dL_law_27 rfl (lv_at hl 0 rfl) ?_
      refine lv_iload_n hx hb dL_law_28 rfl (lv_at hl 3 rfl) ?_
      refine va_sld hx hb hXs hbl (Nat.not_le.mpr hbl) hW.2.2 (by have := lw_in hi6 hL 0 (by decide); rw [nI_add] at this; exact this) dL_law_29 ?_
      refine lv_bipush (v := 63) hx hb dL_law_30 (by decide) ?_
      refine lv_iand hx hb dL_law_32 ?_
      refine lv_topi (fun x ex => ?_)
      by_cases hs0 : x = 0
      · refine lv_tableIn (off := 183) (tgt := 216) hx hb dL_law_33 (by rw [hs0]; decide) (by rw [hs0]; decide) (by rw [hs0]; rfl) (by decide) ?_
        exact law_c0 S0 C hi6 hL hn ih hR hW hl
      by_cases hs1 : x = 1
      · refine lv_tableIn (off := 246) (tgt := 279) hx hb dL_law_33 (by rw [hs1]; decide) (by rw [hs1]; decide) (by rw [hs1]; rfl) (by decide) ?_
        exact law_c1 S1 C hi6 hL hn ih hR hW hl
      by_cases hs2 : x = 2
      · refine lv_tableIn (off := 269) (tgt := 302) hx hb dL_law_33 (by rw [hs2]; decide) (by rw [hs2]; decide) (by rw [hs2]; rfl) (by decide) ?_
        exact law_c2 S2 C hi6 hL hn ih hR hW hl
      by_cases hs3 : x = 3
      · refine lv_tableIn (off := 282) (tgt := 315) hx hb dL_law_33 (by rw [hs3]; decide) (by rw [hs3]; decide) (by rw [hs3]; rfl) (by decide) ?_
        exact law_c3 S3 C hi6 hL hn ih hR hW hl
      by_cases hs4 : x = 4
      · refine lv_tableIn (off := 295) (tgt := 328) hx hb dL_law_33 (by rw [hs4]; decide) (by rw [hs4]; decide) (by rw [hs4]; rfl) (by decide) ?_
        exact law_c4 S4 C hi6 hL hn ih hR hW hl
      by_cases hs5 : x = 5
      · refine lv_tableIn (off := 328) (tgt := 361) hx hb dL_law_33 (by rw [hs5]; decide) (by rw [hs5]; decide) (by rw [hs5]; rfl) (by decide) ?_
        exact law_c5 S5 C hi6 hL hn ih hR hW hl
      by_cases hs6 : x = 6
      · refine lv_tableIn (off := 361) (tgt := 394) hx hb dL_law_33 (by rw [hs6]; decide) (by rw [hs6]; decide) (by rw [hs6]; rfl) (by decide) ?_
        exact law_c6 S6 C hi6 hL hn ih hR hW hl
      by_cases hs7 : x = 7
      · refine lv_tableIn (off := 384) (tgt := 417) hx hb dL_law_33 (by rw [hs7]; decide) (by rw [hs7]; decide) (by rw [hs7]; rfl) (by decide) ?_
        exact law_c7 S7 C hi6 hL hn ih hR hW hl
      by_cases hs8 : x = 8
      · refine lv_tableIn (off := 427) (tgt := 460) hx hb dL_law_33 (by rw [hs8]; decide) (by rw [hs8]; decide) (by rw [hs8]; rfl) (by decide) ?_
        exact law_c8 S8 C hi6 hL hn ih hR hW hl
      by_cases hs9 : x = 9
      · refine lv_tableIn (off := 460) (tgt := 493) hx hb dL_law_33 (by rw [hs9]; decide) (by rw [hs9]; decide) (by rw [hs9]; rfl) (by decide) ?_
        exact law_c9 S9 C hi6 hL hn ih hR hW hl
      by_cases hs10 : x = 10
      · refine lv_tableIn (off := 493) (tgt := 526) hx hb dL_law_33 (by rw [hs10]; decide) (by rw [hs10]; decide) (by rw [hs10]; rfl) (by decide) ?_
        exact law_c10 S10 C hi6 hL hn ih hR hW hl
      by_cases hs11 : x = 11
      · refine lv_tableIn (off := 532) (tgt := 565) hx hb dL_law_33 (by rw [hs11]; decide) (by rw [hs11]; decide) (by rw [hs11]; rfl) (by decide) ?_
        exact law_c11 S11 C hi6 hL hn ih hR hW hl
      by_cases hs12 : x = 12
      · refine lv_tableIn (off := 571) (tgt := 604) hx hb dL_law_33 (by rw [hs12]; decide) (by rw [hs12]; decide) (by rw [hs12]; rfl) (by decide) ?_
        exact law_c12 S12 C hi6 hL hn ih hR hW hl
      by_cases hs13 : x = 13
      · refine lv_tableIn (off := 594) (tgt := 627) hx hb dL_law_33 (by rw [hs13]; decide) (by rw [hs13]; decide) (by rw [hs13]; rfl) (by decide) ?_
        exact law_c13 S13 C hi6 hL hn ih hR hW hl
      by_cases hs14 : x = 14
      · refine lv_tableIn (off := 607) (tgt := 640) hx hb dL_law_33 (by rw [hs14]; decide) (by rw [hs14]; decide) (by rw [hs14]; rfl) (by decide) ?_
        exact law_c14 S14 C hi6 hL hn ih hR hW hl
      by_cases hs15 : x = 15
      · refine lv_tableIn (off := 630) (tgt := 663) hx hb dL_law_33 (by rw [hs15]; decide) (by rw [hs15]; decide) (by rw [hs15]; rfl) (by decide) ?_
        exact law_c15 S15 C hi6 hL hn ih hR hW hl
      by_cases hs16 : x = 16
      · refine lv_tableIn (off := 663) (tgt := 696) hx hb dL_law_33 (by rw [hs16]; decide) (by rw [hs16]; decide) (by rw [hs16]; rfl) (by decide) ?_
        exact law_c16 S16 C hi6 hL hn ih hR hW hl
      by_cases hs17 : x = 17
      · refine lv_tableIn (off := 696) (tgt := 729) hx hb dL_law_33 (by rw [hs17]; decide) (by rw [hs17]; decide) (by rw [hs17]; rfl) (by decide) ?_
        exact law_c17 S17 C hi6 hL hn ih hR hW hl
      by_cases hs18 : x = 18
      · refine lv_tableIn (off := 719) (tgt := 752) hx hb dL_law_33 (by rw [hs18]; decide) (by rw [hs18]; decide) (by rw [hs18]; rfl) (by decide) ?_
        exact law_c18 S18 C hi6 hL hn ih hR hW hl
      by_cases hs19 : x = 19
      · refine lv_tableIn (off := 752) (tgt := 785) hx hb dL_law_33 (by rw [hs19]; decide) (by rw [hs19]; decide) (by rw [hs19]; rfl) (by decide) ?_
        exact law_c19 S19 C hi6 hL hn ih hR hW hl
      by_cases hs20 : x = 20
      · refine lv_tableIn (off := 765) (tgt := 798) hx hb dL_law_33 (by rw [hs20]; decide) (by rw [hs20]; decide) (by rw [hs20]; rfl) (by decide) ?_
        exact law_c20 S20 C hi6 hL hn ih hR hW hl
      by_cases hs21 : x = 21
      · refine lv_tableIn (off := 798) (tgt := 831) hx hb dL_law_33 (by rw [hs21]; decide) (by rw [hs21]; decide) (by rw [hs21]; rfl) (by decide) ?_
        exact law_c21 S21 C hi6 hL hn ih hR hW hl
      by_cases hs22 : x = 22
      · refine lv_tableIn (off := 831) (tgt := 864) hx hb dL_law_33 (by rw [hs22]; decide) (by rw [hs22]; decide) (by rw [hs22]; rfl) (by decide) ?_
        exact law_c22 S22 C hi6 hL hn ih hR hW hl
      by_cases hs23 : x = 23
      · refine lv_tableIn (off := 864) (tgt := 897) hx hb dL_law_33 (by rw [hs23]; decide) (by rw [hs23]; decide) (by rw [hs23]; rfl) (by decide) ?_
        exact law_c23 S23 C hi6 hL hn ih hR hW hl
      by_cases hs24 : x = 24
      · refine lv_tableIn (off := 897) (tgt := 930) hx hb dL_law_33 (by rw [hs24]; decide) (by rw [hs24]; decide) (by rw [hs24]; rfl) (by decide) ?_
        exact law_c24 S24 C hi6 hL hn ih hR hW hl
      by_cases hs25 : x = 25
      · refine lv_tableIn (off := 930) (tgt := 963) hx hb dL_law_33 (by rw [hs25]; decide) (by rw [hs25]; decide) (by rw [hs25]; rfl) (by decide) ?_
        exact law_c25 S25 C hi6 hL hn ih hR hW hl
      by_cases hs26 : x = 26
      · refine lv_tableIn (off := 963) (tgt := 996) hx hb dL_law_33 (by rw [hs26]; decide) (by rw [hs26]; decide) (by rw [hs26]; rfl) (by decide) ?_
        exact law_c26 S26 C hi6 hL hn ih hR hW hl
      by_cases hs27 : x = 27
      · refine lv_tableIn (off := 986) (tgt := 1019) hx hb dL_law_33 (by rw [hs27]; decide) (by rw [hs27]; decide) (by rw [hs27]; rfl) (by decide) ?_
        exact law_c27 S27 C hi6 hL hn ih hR hW hl
      by_cases hs28 : x = 28
      · refine lv_tableIn (off := 1009) (tgt := 1042) hx hb dL_law_33 (by rw [hs28]; decide) (by rw [hs28]; decide) (by rw [hs28]; rfl) (by decide) ?_
        exact law_c28 S28 C hi6 hL hn ih hR hW hl
      by_cases hs29 : x = 29
      · refine lv_tableIn (off := 1052) (tgt := 1085) hx hb dL_law_33 (by rw [hs29]; decide) (by rw [hs29]; decide) (by rw [hs29]; rfl) (by decide) ?_
        exact law_c29 S29 C hi6 hL hn ih hR hW hl
      by_cases hs30 : x = 30
      · refine lv_tableIn (off := 1065) (tgt := 1098) hx hb dL_law_33 (by rw [hs30]; decide) (by rw [hs30]; decide) (by rw [hs30]; rfl) (by decide) ?_
        exact law_c30 S30 C hi6 hL hn ih hR hW hl
      by_cases hs31 : x = 31
      · refine lv_tableIn (off := 1088) (tgt := 1121) hx hb dL_law_33 (by rw [hs31]; decide) (by rw [hs31]; decide) (by rw [hs31]; rfl) (by decide) ?_
        exact law_c31 S31 C hi6 hL hn ih hR hW hl
      by_cases hs32 : x = 32
      · refine lv_tableIn (off := 1111) (tgt := 1144) hx hb dL_law_33 (by rw [hs32]; decide) (by rw [hs32]; decide) (by rw [hs32]; rfl) (by decide) ?_
        exact law_c32 S32 C hi6 hL hn ih hR hW hl
      by_cases hs33 : x = 33
      · refine lv_tableIn (off := 1144) (tgt := 1177) hx hb dL_law_33 (by rw [hs33]; decide) (by rw [hs33]; decide) (by rw [hs33]; rfl) (by decide) ?_
        exact law_c33 S33 C hi6 hL hn ih hR hW hl
      by_cases hs34 : x = 34
      · refine lv_tableIn (off := 1167) (tgt := 1200) hx hb dL_law_33 (by rw [hs34]; decide) (by rw [hs34]; decide) (by rw [hs34]; rfl) (by decide) ?_
        exact law_c34 S34 C hi6 hL hn ih hR hW hl
      by_cases hs35 : x = 35
      · refine lv_tableIn (off := 1210) (tgt := 1243) hx hb dL_law_33 (by rw [hs35]; decide) (by rw [hs35]; decide) (by rw [hs35]; rfl) (by decide) ?_
        exact law_c35 S35 C hi6 hL hn ih hR hW hl
      by_cases hs36 : x = 36
      · refine lv_tableIn (off := 1269) (tgt := 1302) hx hb dL_law_33 (by rw [hs36]; decide) (by rw [hs36]; decide) (by rw [hs36]; rfl) (by decide) ?_
        exact law_c36 S36 C hi6 hL hn ih hR hW hl
      by_cases hs37 : x = 37
      · refine lv_tableIn (off := 1282) (tgt := 1315) hx hb dL_law_33 (by rw [hs37]; decide) (by rw [hs37]; decide) (by rw [hs37]; rfl) (by decide) ?_
        exact law_c37 S37 C hi6 hL hn ih hR hW hl
      by_cases hs38 : x = 38
      · refine lv_tableIn (off := 1315) (tgt := 1348) hx hb dL_law_33 (by rw [hs38]; decide) (by rw [hs38]; decide) (by rw [hs38]; rfl) (by decide) ?_
        exact law_c38 S38 C hi6 hL hn ih hR hW hl
      by_cases hs39 : x = 39
      · refine lv_tableIn (off := 1338) (tgt := 1371) hx hb dL_law_33 (by rw [hs39]; decide) (by rw [hs39]; decide) (by rw [hs39]; rfl) (by decide) ?_
        exact law_c39 S39 C hi6 hL hn ih hR hW hl
      by_cases hs40 : x = 40
      · refine lv_tableIn (off := 1361) (tgt := 1394) hx hb dL_law_33 (by rw [hs40]; decide) (by rw [hs40]; decide) (by rw [hs40]; rfl) (by decide) ?_
        exact law_c40 S40 C hi6 hL hn ih hR hW hl
      by_cases hs41 : x = 41
      · refine lv_tableIn (off := 1384) (tgt := 1417) hx hb dL_law_33 (by rw [hs41]; decide) (by rw [hs41]; decide) (by rw [hs41]; rfl) (by decide) ?_
        exact law_c41 S41 C hi6 hL hn ih hR hW hl
      refine lv_tableOut (tgt := 1440) hx hb dL_law_33 (by have a0 := lv_neT hs0 (show (0 : Int32).toInt = 0 from by decide); have a1 := lv_neT hs1 (show (1 : Int32).toInt = 1 from by decide); have a2 := lv_neT hs2 (show (2 : Int32).toInt = 2 from by decide); have a3 := lv_neT hs3 (show (3 : Int32).toInt = 3 from by decide); have a4 := lv_neT hs4 (show (4 : Int32).toInt = 4 from by decide); have a5 := lv_neT hs5 (show (5 : Int32).toInt = 5 from by decide); have a6 := lv_neT hs6 (show (6 : Int32).toInt = 6 from by decide); have a7 := lv_neT hs7 (show (7 : Int32).toInt = 7 from by decide); have a8 := lv_neT hs8 (show (8 : Int32).toInt = 8 from by decide); have a9 := lv_neT hs9 (show (9 : Int32).toInt = 9 from by decide); have a10 := lv_neT hs10 (show (10 : Int32).toInt = 10 from by decide); have a11 := lv_neT hs11 (show (11 : Int32).toInt = 11 from by decide); have a12 := lv_neT hs12 (show (12 : Int32).toInt = 12 from by decide); have a13 := lv_neT hs13 (show (13 : Int32).toInt = 13 from by decide); have a14 := lv_neT hs14 (show (14 : Int32).toInt = 14 from by decide); have a15 := lv_neT hs15 (show (15 : Int32).toInt = 15 from by decide); have a16 := lv_neT hs16 (show (16 : Int32).toInt = 16 from by decide); have a17 := lv_neT hs17 (show (17 : Int32).toInt = 17 from by decide); have a18 := lv_neT hs18 (show (18 : Int32).toInt = 18 from by decide); have a19 := lv_neT hs19 (show (19 : Int32).toInt = 19 from by decide); have a20 := lv_neT hs20 (show (20 : Int32).toInt = 20 from by decide); have a21 := lv_neT hs21 (show (21 : Int32).toInt = 21 from by decide); have a22 := lv_neT hs22 (show (22 : Int32).toInt = 22 from by decide); have a23 := lv_neT hs23 (show (23 : Int32).toInt = 23 from by decide); have a24 := lv_neT hs24 (show (24 : Int32).toInt = 24 from by decide); have a25 := lv_neT hs25 (show (25 : Int32).toInt = 25 from by decide); have a26 := lv_neT hs26 (show (26 : Int32).toInt = 26 from by decide); have a27 := lv_neT hs27 (show (27 : Int32).toInt = 27 from by decide); have a28 := lv_neT hs28 (show (28 : Int32).toInt = 28 from by decide); have a29 := lv_neT hs29 (show (29 : Int32).toInt = 29 from by decide); have a30 := lv_neT hs30 (show (30 : Int32).toInt = 30 from by decide); have a31 := lv_neT hs31 (show (31 : Int32).toInt = 31 from by decide); have a32 := lv_neT hs32 (show (32 : Int32).toInt = 32 from by decide); have a33 := lv_neT hs33 (show (33 : Int32).toInt = 33 from by decide); have a34 := lv_neT hs34 (show (34 : Int32).toInt = 34 from by decide); have a35 := lv_neT hs35 (show (35 : Int32).toInt = 35 from by decide); have a36 := lv_neT hs36 (show (36 : Int32).toInt = 36 from by decide); have a37 := lv_neT hs37 (show (37 : Int32).toInt = 37 from by decide); have a38 := lv_neT hs38 (show (38 : Int32).toInt = 38 from by decide); have a39 := lv_neT hs39 (show (39 : Int32).toInt = 39 from by decide); have a40 := lv_neT hs40 (show (40 : Int32).toInt = 40 from by decide); have a41 := lv_neT hs41 (show (41 : Int32).toInt = 41 from by decide); omega) (by decide) ?_
      exact law_next C hW ih (mono _ _ _ hR) hl
end
