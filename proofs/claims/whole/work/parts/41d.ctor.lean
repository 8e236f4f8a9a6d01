theorem dX12_init_0 : decode cX12_init 0 = .ok (.aload_n 0, 1) := by decide +kernel
theorem dX12_init_1 : decode cX12_init 1 = .ok (.invokespecial 7, 3) := by decide +kernel
theorem dX12_init_4 : decode cX12_init 4 = .ok (.aload_n 0, 1) := by decide +kernel
theorem dX12_init_5 : decode cX12_init 5 = .ok (.sipush 2000, 3) := by decide +kernel
theorem dX12_init_8 : decode cX12_init 8 = .ok (.newarray .byte, 2) := by decide +kernel
theorem dX12_init_10 : decode cX12_init 10 = .ok (.putfield 13, 3) := by decide +kernel
theorem dX12_init_13 : decode cX12_init 13 = .ok (.aload_n 0, 1) := by decide +kernel
theorem dX12_init_14 : decode cX12_init 14 = .ok (.sipush 2000, 3) := by decide +kernel
theorem dX12_init_17 : decode cX12_init 17 = .ok (.newarray .byte, 2) := by decide +kernel
theorem dX12_init_19 : decode cX12_init 19 = .ok (.putfield 17, 3) := by decide +kernel
theorem dX12_init_22 : decode cX12_init 22 = .ok (.aload_n 0, 1) := by decide +kernel
theorem dX12_init_23 : decode cX12_init 23 = .ok (.sipush 403, 3) := by decide +kernel
theorem dX12_init_26 : decode cX12_init 26 = .ok (.newarray .int, 2) := by decide +kernel
theorem dX12_init_28 : decode cX12_init 28 = .ok (.putfield 20, 3) := by decide +kernel
theorem dX12_init_31 : decode cX12_init 31 = .ok (.aload_n 0, 1) := by decide +kernel
theorem dX12_init_32 : decode cX12_init 32 = .ok (.sipush 403, 3) := by decide +kernel
theorem dX12_init_35 : decode cX12_init 35 = .ok (.newarray .int, 2) := by decide +kernel
theorem dX12_init_37 : decode cX12_init 37 = .ok (.putfield 24, 3) := by decide +kernel
theorem dX12_init_40 : decode cX12_init 40 = .ok (.aload_n 0, 1) := by decide +kernel
theorem dX12_init_41 : decode cX12_init 41 = .ok (.sipush 403, 3) := by decide +kernel
theorem dX12_init_44 : decode cX12_init 44 = .ok (.newarray .int, 2) := by decide +kernel
theorem dX12_init_46 : decode cX12_init 46 = .ok (.putfield 27, 3) := by decide +kernel
theorem dX12_init_49 : decode cX12_init 49 = .ok (.aload_n 0, 1) := by decide +kernel
theorem dX12_init_50 : decode cX12_init 50 = .ok (.sipush 403, 3) := by decide +kernel
theorem dX12_init_53 : decode cX12_init 53 = .ok (.newarray .long, 2) := by decide +kernel
theorem dX12_init_55 : decode cX12_init 55 = .ok (.putfield 30, 3) := by decide +kernel
theorem dX12_init_58 : decode cX12_init 58 = .ok (.aload_n 0, 1) := by decide +kernel
theorem dX12_init_59 : decode cX12_init 59 = .ok (.bipush 22, 2) := by decide +kernel
theorem dX12_init_61 : decode cX12_init 61 = .ok (.newarray .long, 2) := by decide +kernel
theorem dX12_init_63 : decode cX12_init 63 = .ok (.putfield 34, 3) := by decide +kernel
theorem dX12_init_66 : decode cX12_init 66 = .ok (.aload_n 0, 1) := by decide +kernel
theorem dX12_init_67 : decode cX12_init 67 = .ok (.iconst (-1), 1) := by decide +kernel
theorem dX12_init_68 : decode cX12_init 68 = .ok (.putfield 37, 3) := by decide +kernel
theorem dX12_init_71 : decode cX12_init 71 = .ok (.aload_n 0, 1) := by decide +kernel
theorem dX12_init_72 : decode cX12_init 72 = .ok (.iconst 2, 1) := by decide +kernel
theorem dX12_init_73 : decode cX12_init 73 = .ok (.newarray .int, 2) := by decide +kernel
theorem dX12_init_75 : decode cX12_init 75 = .ok (.putfield 40, 3) := by decide +kernel
theorem dX12_init_78 : decode cX12_init 78 = .ok (.aload_n 0, 1) := by decide +kernel
theorem dX12_init_79 : decode cX12_init 79 = .ok (.bipush 20, 2) := by decide +kernel
theorem dX12_init_81 : decode cX12_init 81 = .ok (.newarray .int, 2) := by decide +kernel
theorem dX12_init_83 : decode cX12_init 83 = .ok (.putfield 43, 3) := by decide +kernel
theorem dX12_init_86 : decode cX12_init 86 = .ok (.aload_n 0, 1) := by decide +kernel
theorem dX12_init_87 : decode cX12_init 87 = .ok (.iconst 5, 1) := by decide +kernel
theorem dX12_init_88 : decode cX12_init 88 = .ok (.newarray .long, 2) := by decide +kernel
theorem dX12_init_90 : decode cX12_init 90 = .ok (.putfield 46, 3) := by decide +kernel
theorem dX12_init_93 : decode cX12_init 93 = .ok (.aload_n 0, 1) := by decide +kernel
theorem dX12_init_94 : decode cX12_init 94 = .ok (.iconst 2, 1) := by decide +kernel
theorem dX12_init_95 : decode cX12_init 95 = .ok (.newarray .int, 2) := by decide +kernel
theorem dX12_init_97 : decode cX12_init 97 = .ok (.putfield 49, 3) := by decide +kernel
theorem dX12_init_100 : decode cX12_init 100 = .ok (.aload_n 0, 1) := by decide +kernel
theorem dX12_init_101 : decode cX12_init 101 = .ok (.bipush 10, 2) := by decide +kernel
theorem dX12_init_103 : decode cX12_init 103 = .ok (.newarray .int, 2) := by decide +kernel
theorem dX12_init_105 : decode cX12_init 105 = .ok (.putfield 52, 3) := by decide +kernel
theorem dX12_init_108 : decode cX12_init 108 = .ok (.aload_n 0, 1) := by decide +kernel
theorem dX12_init_109 : decode cX12_init 109 = .ok (.bipush 10, 2) := by decide +kernel
theorem dX12_init_111 : decode cX12_init 111 = .ok (.newarray .int, 2) := by decide +kernel
theorem dX12_init_113 : decode cX12_init 113 = .ok (.putfield 55, 3) := by decide +kernel
theorem dX12_init_116 : decode cX12_init 116 = .ok (.aload_n 0, 1) := by decide +kernel
theorem dX12_init_117 : decode cX12_init 117 = .ok (.bipush 16, 2) := by decide +kernel
theorem dX12_init_119 : decode cX12_init 119 = .ok (.newarray .int, 2) := by decide +kernel
theorem dX12_init_121 : decode cX12_init 121 = .ok (.putfield 58, 3) := by decide +kernel
theorem dX12_init_124 : decode cX12_init 124 = .ok (.aload_n 0, 1) := by decide +kernel
theorem dX12_init_125 : decode cX12_init 125 = .ok (.iconst 2, 1) := by decide +kernel
theorem dX12_init_126 : decode cX12_init 126 = .ok (.newarray .int, 2) := by decide +kernel
theorem dX12_init_128 : decode cX12_init 128 = .ok (.putfield 61, 3) := by decide +kernel
theorem dX12_init_131 : decode cX12_init 131 = .ok (.aload_n 0, 1) := by decide +kernel
theorem dX12_init_132 : decode cX12_init 132 = .ok (.iconst 2, 1) := by decide +kernel
theorem dX12_init_133 : decode cX12_init 133 = .ok (.newarray .int, 2) := by decide +kernel
theorem dX12_init_135 : decode cX12_init 135 = .ok (.putfield 64, 3) := by decide +kernel
theorem dX12_init_138 : decode cX12_init 138 = .ok (.aload_n 0, 1) := by decide +kernel
theorem dX12_init_139 : decode cX12_init 139 = .ok (.iconst 2, 1) := by decide +kernel
theorem dX12_init_140 : decode cX12_init 140 = .ok (.newarray .int, 2) := by decide +kernel
theorem dX12_init_142 : decode cX12_init 142 = .ok (.putfield 67, 3) := by decide +kernel
theorem dX12_init_145 : decode cX12_init 145 = .ok (.aload_n 0, 1) := by decide +kernel
theorem dX12_init_146 : decode cX12_init 146 = .ok (.iconst 2, 1) := by decide +kernel
theorem dX12_init_147 : decode cX12_init 147 = .ok (.newarray .int, 2) := by decide +kernel
theorem dX12_init_149 : decode cX12_init 149 = .ok (.putfield 70, 3) := by decide +kernel
theorem dX12_init_152 : decode cX12_init 152 = .ok (.aload_n 0, 1) := by decide +kernel
theorem dX12_init_153 : decode cX12_init 153 = .ok (.bipush 8, 2) := by decide +kernel
theorem dX12_init_155 : decode cX12_init 155 = .ok (.newarray .int, 2) := by decide +kernel
theorem dX12_init_157 : decode cX12_init 157 = .ok (.putfield 73, 3) := by decide +kernel
theorem dX12_init_160 : decode cX12_init 160 = .ok (.aload_n 0, 1) := by decide +kernel
theorem dX12_init_161 : decode cX12_init 161 = .ok (.bipush 8, 2) := by decide +kernel
theorem dX12_init_163 : decode cX12_init 163 = .ok (.newarray .int, 2) := by decide +kernel
theorem dX12_init_165 : decode cX12_init 165 = .ok (.putfield 76, 3) := by decide +kernel
theorem dX12_init_168 : decode cX12_init 168 = .ok (.aload_n 0, 1) := by decide +kernel
theorem dX12_init_169 : decode cX12_init 169 = .ok (.sipush 260, 3) := by decide +kernel
theorem dX12_init_172 : decode cX12_init 172 = .ok (.newarray .boolean, 2) := by decide +kernel
theorem dX12_init_174 : decode cX12_init 174 = .ok (.putfield 79, 3) := by decide +kernel
theorem dX12_init_177 : decode cX12_init 177 = .ok (.aload_n 0, 1) := by decide +kernel
theorem dX12_init_178 : decode cX12_init 178 = .ok (.sipush 260, 3) := by decide +kernel
theorem dX12_init_181 : decode cX12_init 181 = .ok (.newarray .int, 2) := by decide +kernel
theorem dX12_init_183 : decode cX12_init 183 = .ok (.putfield 83, 3) := by decide +kernel
theorem dX12_init_186 : decode cX12_init 186 = .ok (.aload_n 0, 1) := by decide +kernel
theorem dX12_init_187 : decode cX12_init 187 = .ok (.sipush 260, 3) := by decide +kernel
theorem dX12_init_190 : decode cX12_init 190 = .ok (.newarray .int, 2) := by decide +kernel
theorem dX12_init_192 : decode cX12_init 192 = .ok (.putfield 86, 3) := by decide +kernel
theorem dX12_init_195 : decode cX12_init 195 = .ok (.aload_n 0, 1) := by decide +kernel
theorem dX12_init_196 : decode cX12_init 196 = .ok (.sipush 260, 3) := by decide +kernel
theorem dX12_init_199 : decode cX12_init 199 = .ok (.newarray .int, 2) := by decide +kernel
theorem dX12_init_201 : decode cX12_init 201 = .ok (.putfield 89, 3) := by decide +kernel
theorem dX12_init_204 : decode cX12_init 204 = .ok (.aload_n 0, 1) := by decide +kernel
theorem dX12_init_205 : decode cX12_init 205 = .ok (.sipush 260, 3) := by decide +kernel
theorem dX12_init_208 : decode cX12_init 208 = .ok (.newarray .int, 2) := by decide +kernel
theorem dX12_init_210 : decode cX12_init 210 = .ok (.putfield 92, 3) := by decide +kernel
theorem dX12_init_213 : decode cX12_init 213 = .ok (.aload_n 0, 1) := by decide +kernel
theorem dX12_init_214 : decode cX12_init 214 = .ok (.sipush 840, 3) := by decide +kernel
theorem dX12_init_217 : decode cX12_init 217 = .ok (.newarray .int, 2) := by decide +kernel
theorem dX12_init_219 : decode cX12_init 219 = .ok (.putfield 95, 3) := by decide +kernel
theorem dX12_init_222 : decode cX12_init 222 = .ok (.aload_n 0, 1) := by decide +kernel
theorem dX12_init_223 : decode cX12_init 223 = .ok (.sipush 840, 3) := by decide +kernel
theorem dX12_init_226 : decode cX12_init 226 = .ok (.newarray .int, 2) := by decide +kernel
theorem dX12_init_228 : decode cX12_init 228 = .ok (.putfield 98, 3) := by decide +kernel
theorem dX12_init_231 : decode cX12_init 231 = .ok (.aload_n 0, 1) := by decide +kernel
theorem dX12_init_232 : decode cX12_init 232 = .ok (.bipush 64, 2) := by decide +kernel
theorem dX12_init_234 : decode cX12_init 234 = .ok (.newarray .int, 2) := by decide +kernel
theorem dX12_init_236 : decode cX12_init 236 = .ok (.putfield 101, 3) := by decide +kernel
theorem dX12_init_239 : decode cX12_init 239 = .ok (.aload_n 0, 1) := by decide +kernel
theorem dX12_init_240 : decode cX12_init 240 = .ok (.bipush 9, 2) := by decide +kernel
theorem dX12_init_242 : decode cX12_init 242 = .ok (.newarray .int, 2) := by decide +kernel
theorem dX12_init_244 : decode cX12_init 244 = .ok (.putfield 104, 3) := by decide +kernel
theorem dX12_init_247 : decode cX12_init 247 = .ok (.aload_n 0, 1) := by decide +kernel
theorem dX12_init_248 : decode cX12_init 248 = .ok (.sipush 400, 3) := by decide +kernel
theorem dX12_init_251 : decode cX12_init 251 = .ok (.newarray .int, 2) := by decide +kernel
theorem dX12_init_253 : decode cX12_init 253 = .ok (.putfield 107, 3) := by decide +kernel
theorem dX12_init_256 : decode cX12_init 256 = .ok (.aload_n 0, 1) := by decide +kernel
theorem dX12_init_257 : decode cX12_init 257 = .ok (.bipush 33, 2) := by decide +kernel
theorem dX12_init_259 : decode cX12_init 259 = .ok (.newarray .int, 2) := by decide +kernel
theorem dX12_init_261 : decode cX12_init 261 = .ok (.putfield 110, 3) := by decide +kernel
theorem dX12_init_264 : decode cX12_init 264 = .ok (.aload_n 0, 1) := by decide +kernel
theorem dX12_init_265 : decode cX12_init 265 = .ok (.bipush 33, 2) := by decide +kernel
theorem dX12_init_267 : decode cX12_init 267 = .ok (.newarray .int, 2) := by decide +kernel
theorem dX12_init_269 : decode cX12_init 269 = .ok (.putfield 113, 3) := by decide +kernel
theorem dX12_init_272 : decode cX12_init 272 = .ok (.aload_n 0, 1) := by decide +kernel
theorem dX12_init_273 : decode cX12_init 273 = .ok (.sipush 1320, 3) := by decide +kernel
theorem dX12_init_276 : decode cX12_init 276 = .ok (.newarray .int, 2) := by decide +kernel
theorem dX12_init_278 : decode cX12_init 278 = .ok (.putfield 116, 3) := by decide +kernel
theorem dX12_init_281 : decode cX12_init 281 = .ok (.aload_n 0, 1) := by decide +kernel
theorem dX12_init_282 : decode cX12_init 282 = .ok (.bipush 10, 2) := by decide +kernel
theorem dX12_init_284 : decode cX12_init 284 = .ok (.newarray .int, 2) := by decide +kernel
theorem dX12_init_286 : decode cX12_init 286 = .ok (.putfield 119, 3) := by decide +kernel
theorem dX12_init_289 : decode cX12_init 289 = .ok (.aload_n 0, 1) := by decide +kernel
theorem dX12_init_290 : decode cX12_init 290 = .ok (.bipush 80, 2) := by decide +kernel
theorem dX12_init_292 : decode cX12_init 292 = .ok (.newarray .int, 2) := by decide +kernel
theorem dX12_init_294 : decode cX12_init 294 = .ok (.putfield 122, 3) := by decide +kernel
theorem dX12_init_297 : decode cX12_init 297 = .ok (.aload_n 0, 1) := by decide +kernel
theorem dX12_init_298 : decode cX12_init 298 = .ok (.bipush 88, 2) := by decide +kernel
theorem dX12_init_300 : decode cX12_init 300 = .ok (.newarray .int, 2) := by decide +kernel
theorem dX12_init_302 : decode cX12_init 302 = .ok (.putfield 125, 3) := by decide +kernel
theorem dX12_init_305 : decode cX12_init 305 = .ok (.aload_n 0, 1) := by decide +kernel
theorem dX12_init_306 : decode cX12_init 306 = .ok (.bipush 88, 2) := by decide +kernel
theorem dX12_init_308 : decode cX12_init 308 = .ok (.newarray .int, 2) := by decide +kernel
theorem dX12_init_310 : decode cX12_init 310 = .ok (.putfield 128, 3) := by decide +kernel
theorem dX12_init_313 : decode cX12_init 313 = .ok (.aload_n 0, 1) := by decide +kernel
theorem dX12_init_314 : decode cX12_init 314 = .ok (.sipush 1024, 3) := by decide +kernel
theorem dX12_init_317 : decode cX12_init 317 = .ok (.newarray .int, 2) := by decide +kernel
theorem dX12_init_319 : decode cX12_init 319 = .ok (.putfield 131, 3) := by decide +kernel
theorem dX12_init_322 : decode cX12_init 322 = .ok (.aload_n 0, 1) := by decide +kernel
theorem dX12_init_323 : decode cX12_init 323 = .ok (.bipush 20, 2) := by decide +kernel
theorem dX12_init_325 : decode cX12_init 325 = .ok (.newarray .int, 2) := by decide +kernel
theorem dX12_init_327 : decode cX12_init 327 = .ok (.putfield 134, 3) := by decide +kernel
theorem dX12_init_330 : decode cX12_init 330 = .ok (.aload_n 0, 1) := by decide +kernel
theorem dX12_init_331 : decode cX12_init 331 = .ok (.bipush 20, 2) := by decide +kernel
theorem dX12_init_333 : decode cX12_init 333 = .ok (.newarray .int, 2) := by decide +kernel
theorem dX12_init_335 : decode cX12_init 335 = .ok (.putfield 137, 3) := by decide +kernel
theorem dX12_init_338 : decode cX12_init 338 = .ok (.aload_n 0, 1) := by decide +kernel
theorem dX12_init_339 : decode cX12_init 339 = .ok (.bipush 20, 2) := by decide +kernel
theorem dX12_init_341 : decode cX12_init 341 = .ok (.newarray .boolean, 2) := by decide +kernel
theorem dX12_init_343 : decode cX12_init 343 = .ok (.putfield 140, 3) := by decide +kernel
theorem dX12_init_346 : decode cX12_init 346 = .ok (.aload_n 0, 1) := by decide +kernel
theorem dX12_init_347 : decode cX12_init 347 = .ok (.bipush 10, 2) := by decide +kernel
theorem dX12_init_349 : decode cX12_init 349 = .ok (.newarray .int, 2) := by decide +kernel
theorem dX12_init_351 : decode cX12_init 351 = .ok (.putfield 143, 3) := by decide +kernel
theorem dX12_init_354 : decode cX12_init 354 = .ok (.aload_n 0, 1) := by decide +kernel
theorem dX12_init_355 : decode cX12_init 355 = .ok (.iconst 3, 1) := by decide +kernel
theorem dX12_init_356 : decode cX12_init 356 = .ok (.newarray .boolean, 2) := by decide +kernel
theorem dX12_init_358 : decode cX12_init 358 = .ok (.putfield 146, 3) := by decide +kernel
theorem dX12_init_361 : decode cX12_init 361 = .ok (.aload_n 0, 1) := by decide +kernel
theorem dX12_init_362 : decode cX12_init 362 = .ok (.bipush 99, 2) := by decide +kernel
theorem dX12_init_364 : decode cX12_init 364 = .ok (.newarray .int, 2) := by decide +kernel
theorem dX12_init_366 : decode cX12_init 366 = .ok (.putfield 149, 3) := by decide +kernel
theorem dX12_init_369 : decode cX12_init 369 = .ok (.aload_n 0, 1) := by decide +kernel
theorem dX12_init_370 : decode cX12_init 370 = .ok (.iconst 0, 1) := by decide +kernel
theorem dX12_init_371 : decode cX12_init 371 = .ok (.invokevirtual 152, 3) := by decide +kernel
theorem dX12_init_374 : decode cX12_init 374 = .ok (.aload_n 0, 1) := by decide +kernel
theorem dX12_init_375 : decode cX12_init 375 = .ok (.iconst 1, 1) := by decide +kernel
theorem dX12_init_376 : decode cX12_init 376 = .ok (.invokevirtual 152, 3) := by decide +kernel
theorem dX12_init_379 : decode cX12_init 379 = .ok (.aload_n 0, 1) := by decide +kernel
theorem dX12_init_380 : decode cX12_init 380 = .ok (.getfield 34, 3) := by decide +kernel
theorem dX12_init_383 : decode cX12_init 383 = .ok (.iconst 0, 1) := by decide +kernel
theorem dX12_init_384 : decode cX12_init 384 = .ok (.bipush 109, 2) := by decide +kernel
theorem dX12_init_386 : decode cX12_init 386 = .ok (.bipush 105, 2) := by decide +kernel
theorem dX12_init_388 : decode cX12_init 388 = .ok (.bipush 110, 2) := by decide +kernel
theorem dX12_init_390 : decode cX12_init 390 = .ok (.bipush 117, 2) := by decide +kernel
theorem dX12_init_392 : decode cX12_init 392 = .ok (.bipush 116, 2) := by decide +kernel
theorem dX12_init_394 : decode cX12_init 394 = .ok (.bipush 101, 2) := by decide +kernel
theorem dX12_init_396 : decode cX12_init 396 = .ok (.iconst 0, 1) := by decide +kernel
theorem dX12_init_397 : decode cX12_init 397 = .ok (.invokestatic 156, 3) := by decide +kernel
theorem dX12_init_400 : decode cX12_init 400 = .ok (.lastore, 1) := by decide +kernel
theorem dX12_init_401 : decode cX12_init 401 = .ok (.aload_n 0, 1) := by decide +kernel
theorem dX12_init_402 : decode cX12_init 402 = .ok (.getfield 34, 3) := by decide +kernel
theorem dX12_init_405 : decode cX12_init 405 = .ok (.iconst 1, 1) := by decide +kernel
theorem dX12_init_406 : decode cX12_init 406 = .ok (.bipush 102, 2) := by decide +kernel
theorem dX12_init_408 : decode cX12_init 408 = .ok (.bipush 97, 2) := by decide +kernel
theorem dX12_init_410 : decode cX12_init 410 = .ok (.bipush 109, 2) := by decide +kernel
theorem dX12_init_412 : decode cX12_init 412 = .ok (.bipush 105, 2) := by decide +kernel
theorem dX12_init_414 : decode cX12_init 414 = .ok (.bipush 108, 2) := by decide +kernel
theorem dX12_init_416 : decode cX12_init 416 = .ok (.bipush 121, 2) := by decide +kernel
theorem dX12_init_418 : decode cX12_init 418 = .ok (.iconst 0, 1) := by decide +kernel
theorem dX12_init_419 : decode cX12_init 419 = .ok (.invokestatic 156, 3) := by decide +kernel
theorem dX12_init_422 : decode cX12_init 422 = .ok (.lastore, 1) := by decide +kernel
theorem dX12_init_423 : decode cX12_init 423 = .ok (.aload_n 0, 1) := by decide +kernel
theorem dX12_init_424 : decode cX12_init 424 = .ok (.getfield 34, 3) := by decide +kernel
theorem dX12_init_427 : decode cX12_init 427 = .ok (.iconst 2, 1) := by decide +kernel
theorem dX12_init_428 : decode cX12_init 428 = .ok (.bipush 108, 2) := by decide +kernel
theorem dX12_init_430 : decode cX12_init 430 = .ok (.bipush 101, 2) := by decide +kernel
theorem dX12_init_432 : decode cX12_init 432 = .ok (.bipush 97, 2) := by decide +kernel
theorem dX12_init_434 : decode cX12_init 434 = .ok (.bipush 115, 2) := by decide +kernel
theorem dX12_init_436 : decode cX12_init 436 = .ok (.bipush 101, 2) := by decide +kernel
theorem dX12_init_438 : decode cX12_init 438 = .ok (.iconst 0, 1) := by decide +kernel
theorem dX12_init_439 : decode cX12_init 439 = .ok (.iconst 0, 1) := by decide +kernel
theorem dX12_init_440 : decode cX12_init 440 = .ok (.invokestatic 156, 3) := by decide +kernel
theorem dX12_init_443 : decode cX12_init 443 = .ok (.lastore, 1) := by decide +kernel
theorem dX12_init_444 : decode cX12_init 444 = .ok (.aload_n 0, 1) := by decide +kernel
theorem dX12_init_445 : decode cX12_init 445 = .ok (.getfield 34, 3) := by decide +kernel
theorem dX12_init_448 : decode cX12_init 448 = .ok (.iconst 3, 1) := by decide +kernel
theorem dX12_init_449 : decode cX12_init 449 = .ok (.bipush 99, 2) := by decide +kernel
theorem dX12_init_451 : decode cX12_init 451 = .ok (.bipush 111, 2) := by decide +kernel
theorem dX12_init_453 : decode cX12_init 453 = .ok (.bipush 117, 2) := by decide +kernel
theorem dX12_init_455 : decode cX12_init 455 = .ok (.bipush 103, 2) := by decide +kernel
theorem dX12_init_457 : decode cX12_init 457 = .ok (.bipush 104, 2) := by decide +kernel
theorem dX12_init_459 : decode cX12_init 459 = .ok (.bipush 115, 2) := by decide +kernel
theorem dX12_init_461 : decode cX12_init 461 = .ok (.iconst 0, 1) := by decide +kernel
theorem dX12_init_462 : decode cX12_init 462 = .ok (.invokestatic 156, 3) := by decide +kernel
theorem dX12_init_465 : decode cX12_init 465 = .ok (.lastore, 1) := by decide +kernel
theorem dX12_init_466 : decode cX12_init 466 = .ok (.aload_n 0, 1) := by decide +kernel
theorem dX12_init_467 : decode cX12_init 467 = .ok (.getfield 34, 3) := by decide +kernel
theorem dX12_init_470 : decode cX12_init 470 = .ok (.iconst 4, 1) := by decide +kernel
theorem dX12_init_471 : decode cX12_init 471 = .ok (.bipush 119, 2) := by decide +kernel
theorem dX12_init_473 : decode cX12_init 473 = .ok (.bipush 111, 2) := by decide +kernel
theorem dX12_init_475 : decode cX12_init 475 = .ok (.bipush 114, 2) := by decide +kernel
theorem dX12_init_477 : decode cX12_init 477 = .ok (.bipush 116, 2) := by decide +kernel
theorem dX12_init_479 : decode cX12_init 479 = .ok (.bipush 104, 2) := by decide +kernel
theorem dX12_init_481 : decode cX12_init 481 = .ok (.iconst 0, 1) := by decide +kernel
theorem dX12_init_482 : decode cX12_init 482 = .ok (.iconst 0, 1) := by decide +kernel
theorem dX12_init_483 : decode cX12_init 483 = .ok (.invokestatic 156, 3) := by decide +kernel
theorem dX12_init_486 : decode cX12_init 486 = .ok (.lastore, 1) := by decide +kernel
theorem dX12_init_487 : decode cX12_init 487 = .ok (.aload_n 0, 1) := by decide +kernel
theorem dX12_init_488 : decode cX12_init 488 = .ok (.getfield 34, 3) := by decide +kernel
theorem dX12_init_491 : decode cX12_init 491 = .ok (.iconst 5, 1) := by decide +kernel
theorem dX12_init_492 : decode cX12_init 492 = .ok (.bipush 114, 2) := by decide +kernel
theorem dX12_init_494 : decode cX12_init 494 = .ok (.bipush 101, 2) := by decide +kernel
theorem dX12_init_496 : decode cX12_init 496 = .ok (.bipush 110, 2) := by decide +kernel
theorem dX12_init_498 : decode cX12_init 498 = .ok (.bipush 116, 2) := by decide +kernel
theorem dX12_init_500 : decode cX12_init 500 = .ok (.bipush 115, 2) := by decide +kernel
theorem dX12_init_502 : decode cX12_init 502 = .ok (.iconst 0, 1) := by decide +kernel
theorem dX12_init_503 : decode cX12_init 503 = .ok (.iconst 0, 1) := by decide +kernel
theorem dX12_init_504 : decode cX12_init 504 = .ok (.invokestatic 156, 3) := by decide +kernel
theorem dX12_init_507 : decode cX12_init 507 = .ok (.lastore, 1) := by decide +kernel
theorem dX12_init_508 : decode cX12_init 508 = .ok (.aload_n 0, 1) := by decide +kernel
theorem dX12_init_509 : decode cX12_init 509 = .ok (.getfield 34, 3) := by decide +kernel
theorem dX12_init_512 : decode cX12_init 512 = .ok (.bipush 6, 2) := by decide +kernel
theorem dX12_init_514 : decode cX12_init 514 = .ok (.bipush 99, 2) := by decide +kernel
theorem dX12_init_516 : decode cX12_init 516 = .ok (.bipush 117, 2) := by decide +kernel
theorem dX12_init_518 : decode cX12_init 518 = .ok (.bipush 114, 2) := by decide +kernel
theorem dX12_init_520 : decode cX12_init 520 = .ok (.bipush 101, 2) := by decide +kernel
theorem dX12_init_522 : decode cX12_init 522 = .ok (.bipush 115, 2) := by decide +kernel
theorem dX12_init_524 : decode cX12_init 524 = .ok (.iconst 0, 1) := by decide +kernel
theorem dX12_init_525 : decode cX12_init 525 = .ok (.iconst 0, 1) := by decide +kernel
theorem dX12_init_526 : decode cX12_init 526 = .ok (.invokestatic 156, 3) := by decide +kernel
theorem dX12_init_529 : decode cX12_init 529 = .ok (.lastore, 1) := by decide +kernel
theorem dX12_init_530 : decode cX12_init 530 = .ok (.aload_n 0, 1) := by decide +kernel
theorem dX12_init_531 : decode cX12_init 531 = .ok (.getfield 34, 3) := by decide +kernel
theorem dX12_init_534 : decode cX12_init 534 = .ok (.bipush 7, 2) := by decide +kernel
theorem dX12_init_536 : decode cX12_init 536 = .ok (.bipush 100, 2) := by decide +kernel
theorem dX12_init_538 : decode cX12_init 538 = .ok (.bipush 117, 2) := by decide +kernel
theorem dX12_init_540 : decode cX12_init 540 = .ok (.bipush 115, 2) := by decide +kernel
theorem dX12_init_542 : decode cX12_init 542 = .ok (.bipush 116, 2) := by decide +kernel
theorem dX12_init_544 : decode cX12_init 544 = .ok (.iconst 0, 1) := by decide +kernel
theorem dX12_init_545 : decode cX12_init 545 = .ok (.iconst 0, 1) := by decide +kernel
theorem dX12_init_546 : decode cX12_init 546 = .ok (.iconst 0, 1) := by decide +kernel
theorem dX12_init_547 : decode cX12_init 547 = .ok (.invokestatic 156, 3) := by decide +kernel
theorem dX12_init_550 : decode cX12_init 550 = .ok (.lastore, 1) := by decide +kernel
theorem dX12_init_551 : decode cX12_init 551 = .ok (.aload_n 0, 1) := by decide +kernel
theorem dX12_init_552 : decode cX12_init 552 = .ok (.getfield 34, 3) := by decide +kernel
theorem dX12_init_555 : decode cX12_init 555 = .ok (.bipush 8, 2) := by decide +kernel
theorem dX12_init_557 : decode cX12_init 557 = .ok (.bipush 115, 2) := by decide +kernel
theorem dX12_init_559 : decode cX12_init 559 = .ok (.bipush 121, 2) := by decide +kernel
theorem dX12_init_561 : decode cX12_init 561 = .ok (.bipush 114, 2) := by decide +kernel
theorem dX12_init_563 : decode cX12_init 563 = .ok (.bipush 117, 2) := by decide +kernel
theorem dX12_init_565 : decode cX12_init 565 = .ok (.bipush 112, 2) := by decide +kernel
theorem dX12_init_567 : decode cX12_init 567 = .ok (.iconst 0, 1) := by decide +kernel
theorem dX12_init_568 : decode cX12_init 568 = .ok (.iconst 0, 1) := by decide +kernel
theorem dX12_init_569 : decode cX12_init 569 = .ok (.invokestatic 156, 3) := by decide +kernel
theorem dX12_init_572 : decode cX12_init 572 = .ok (.lastore, 1) := by decide +kernel
theorem dX12_init_573 : decode cX12_init 573 = .ok (.aload_n 0, 1) := by decide +kernel
theorem dX12_init_574 : decode cX12_init 574 = .ok (.getfield 34, 3) := by decide +kernel
theorem dX12_init_577 : decode cX12_init 577 = .ok (.bipush 9, 2) := by decide +kernel
theorem dX12_init_579 : decode cX12_init 579 = .ok (.bipush 115, 2) := by decide +kernel
theorem dX12_init_581 : decode cX12_init 581 = .ok (.bipush 101, 2) := by decide +kernel
theorem dX12_init_583 : decode cX12_init 583 = .ok (.bipush 101, 2) := by decide +kernel
theorem dX12_init_585 : decode cX12_init 585 = .ok (.bipush 100, 2) := by decide +kernel
theorem dX12_init_587 : decode cX12_init 587 = .ok (.iconst 0, 1) := by decide +kernel
theorem dX12_init_588 : decode cX12_init 588 = .ok (.iconst 0, 1) := by decide +kernel
theorem dX12_init_589 : decode cX12_init 589 = .ok (.iconst 0, 1) := by decide +kernel
theorem dX12_init_590 : decode cX12_init 590 = .ok (.invokestatic 156, 3) := by decide +kernel
theorem dX12_init_593 : decode cX12_init 593 = .ok (.lastore, 1) := by decide +kernel
theorem dX12_init_594 : decode cX12_init 594 = .ok (.aload_n 0, 1) := by decide +kernel
theorem dX12_init_595 : decode cX12_init 595 = .ok (.getfield 34, 3) := by decide +kernel
theorem dX12_init_598 : decode cX12_init 598 = .ok (.bipush 10, 2) := by decide +kernel
theorem dX12_init_600 : decode cX12_init 600 = .ok (.bipush 105, 2) := by decide +kernel
theorem dX12_init_602 : decode cX12_init 602 = .ok (.bipush 102, 2) := by decide +kernel
theorem dX12_init_604 : decode cX12_init 604 = .ok (.iconst 0, 1) := by decide +kernel
theorem dX12_init_605 : decode cX12_init 605 = .ok (.iconst 0, 1) := by decide +kernel
theorem dX12_init_606 : decode cX12_init 606 = .ok (.iconst 0, 1) := by decide +kernel
theorem dX12_init_607 : decode cX12_init 607 = .ok (.iconst 0, 1) := by decide +kernel
theorem dX12_init_608 : decode cX12_init 608 = .ok (.iconst 0, 1) := by decide +kernel
theorem dX12_init_609 : decode cX12_init 609 = .ok (.invokestatic 156, 3) := by decide +kernel
theorem dX12_init_612 : decode cX12_init 612 = .ok (.lastore, 1) := by decide +kernel
theorem dX12_init_613 : decode cX12_init 613 = .ok (.aload_n 0, 1) := by decide +kernel
theorem dX12_init_614 : decode cX12_init 614 = .ok (.getfield 34, 3) := by decide +kernel
theorem dX12_init_617 : decode cX12_init 617 = .ok (.bipush 11, 2) := by decide +kernel
theorem dX12_init_619 : decode cX12_init 619 = .ok (.bipush 116, 2) := by decide +kernel
theorem dX12_init_621 : decode cX12_init 621 = .ok (.bipush 104, 2) := by decide +kernel
theorem dX12_init_623 : decode cX12_init 623 = .ok (.bipush 101, 2) := by decide +kernel
theorem dX12_init_625 : decode cX12_init 625 = .ok (.bipush 110, 2) := by decide +kernel
theorem dX12_init_627 : decode cX12_init 627 = .ok (.iconst 0, 1) := by decide +kernel
theorem dX12_init_628 : decode cX12_init 628 = .ok (.iconst 0, 1) := by decide +kernel
theorem dX12_init_629 : decode cX12_init 629 = .ok (.iconst 0, 1) := by decide +kernel
theorem dX12_init_630 : decode cX12_init 630 = .ok (.invokestatic 156, 3) := by decide +kernel
theorem dX12_init_633 : decode cX12_init 633 = .ok (.lastore, 1) := by decide +kernel
theorem dX12_init_634 : decode cX12_init 634 = .ok (.aload_n 0, 1) := by decide +kernel
theorem dX12_init_635 : decode cX12_init 635 = .ok (.getfield 34, 3) := by decide +kernel
theorem dX12_init_638 : decode cX12_init 638 = .ok (.bipush 12, 2) := by decide +kernel
theorem dX12_init_640 : decode cX12_init 640 = .ok (.bipush 101, 2) := by decide +kernel
theorem dX12_init_642 : decode cX12_init 642 = .ok (.bipush 108, 2) := by decide +kernel
theorem dX12_init_644 : decode cX12_init 644 = .ok (.bipush 115, 2) := by decide +kernel
theorem dX12_init_646 : decode cX12_init 646 = .ok (.bipush 101, 2) := by decide +kernel
theorem dX12_init_648 : decode cX12_init 648 = .ok (.iconst 0, 1) := by decide +kernel
theorem dX12_init_649 : decode cX12_init 649 = .ok (.iconst 0, 1) := by decide +kernel
theorem dX12_init_650 : decode cX12_init 650 = .ok (.iconst 0, 1) := by decide +kernel
theorem dX12_init_651 : decode cX12_init 651 = .ok (.invokestatic 156, 3) := by decide +kernel
theorem dX12_init_654 : decode cX12_init 654 = .ok (.lastore, 1) := by decide +kernel
theorem dX12_init_655 : decode cX12_init 655 = .ok (.aload_n 0, 1) := by decide +kernel
theorem dX12_init_656 : decode cX12_init 656 = .ok (.getfield 34, 3) := by decide +kernel
theorem dX12_init_659 : decode cX12_init 659 = .ok (.bipush 13, 2) := by decide +kernel
theorem dX12_init_661 : decode cX12_init 661 = .ok (.bipush 110, 2) := by decide +kernel
theorem dX12_init_663 : decode cX12_init 663 = .ok (.bipush 111, 2) := by decide +kernel
theorem dX12_init_665 : decode cX12_init 665 = .ok (.bipush 119, 2) := by decide +kernel
theorem dX12_init_667 : decode cX12_init 667 = .ok (.iconst 0, 1) := by decide +kernel
theorem dX12_init_668 : decode cX12_init 668 = .ok (.iconst 0, 1) := by decide +kernel
theorem dX12_init_669 : decode cX12_init 669 = .ok (.iconst 0, 1) := by decide +kernel
theorem dX12_init_670 : decode cX12_init 670 = .ok (.iconst 0, 1) := by decide +kernel
theorem dX12_init_671 : decode cX12_init 671 = .ok (.invokestatic 156, 3) := by decide +kernel
theorem dX12_init_674 : decode cX12_init 674 = .ok (.lastore, 1) := by decide +kernel
theorem dX12_init_675 : decode cX12_init 675 = .ok (.aload_n 0, 1) := by decide +kernel
theorem dX12_init_676 : decode cX12_init 676 = .ok (.getfield 34, 3) := by decide +kernel
theorem dX12_init_679 : decode cX12_init 679 = .ok (.bipush 14, 2) := by decide +kernel
theorem dX12_init_681 : decode cX12_init 681 = .ok (.bipush 109, 2) := by decide +kernel
theorem dX12_init_683 : decode cX12_init 683 = .ok (.bipush 97, 2) := by decide +kernel
theorem dX12_init_685 : decode cX12_init 685 = .ok (.bipush 116, 2) := by decide +kernel
theorem dX12_init_687 : decode cX12_init 687 = .ok (.bipush 116, 2) := by decide +kernel
theorem dX12_init_689 : decode cX12_init 689 = .ok (.bipush 101, 2) := by decide +kernel
theorem dX12_init_691 : decode cX12_init 691 = .ok (.bipush 114, 2) := by decide +kernel
theorem dX12_init_693 : decode cX12_init 693 = .ok (.iconst 0, 1) := by decide +kernel
theorem dX12_init_694 : decode cX12_init 694 = .ok (.invokestatic 156, 3) := by decide +kernel
theorem dX12_init_697 : decode cX12_init 697 = .ok (.lastore, 1) := by decide +kernel
theorem dX12_init_698 : decode cX12_init 698 = .ok (.aload_n 0, 1) := by decide +kernel
theorem dX12_init_699 : decode cX12_init 699 = .ok (.getfield 34, 3) := by decide +kernel
theorem dX12_init_702 : decode cX12_init 702 = .ok (.bipush 15, 2) := by decide +kernel
theorem dX12_init_704 : decode cX12_init 704 = .ok (.bipush 100, 2) := by decide +kernel
theorem dX12_init_706 : decode cX12_init 706 = .ok (.bipush 117, 2) := by decide +kernel
theorem dX12_init_708 : decode cX12_init 708 = .ok (.bipush 115, 2) := by decide +kernel
theorem dX12_init_710 : decode cX12_init 710 = .ok (.bipush 116, 2) := by decide +kernel
theorem dX12_init_712 : decode cX12_init 712 = .ok (.bipush 121, 2) := by decide +kernel
theorem dX12_init_714 : decode cX12_init 714 = .ok (.iconst 0, 1) := by decide +kernel
theorem dX12_init_715 : decode cX12_init 715 = .ok (.iconst 0, 1) := by decide +kernel
theorem dX12_init_716 : decode cX12_init 716 = .ok (.invokestatic 156, 3) := by decide +kernel
theorem dX12_init_719 : decode cX12_init 719 = .ok (.lastore, 1) := by decide +kernel
theorem dX12_init_720 : decode cX12_init 720 = .ok (.aload_n 0, 1) := by decide +kernel
theorem dX12_init_721 : decode cX12_init 721 = .ok (.getfield 34, 3) := by decide +kernel
theorem dX12_init_724 : decode cX12_init 724 = .ok (.bipush 16, 2) := by decide +kernel
theorem dX12_init_726 : decode cX12_init 726 = .ok (.bipush 115, 2) := by decide +kernel
theorem dX12_init_728 : decode cX12_init 728 = .ok (.bipush 119, 2) := by decide +kernel
theorem dX12_init_730 : decode cX12_init 730 = .ok (.bipush 101, 2) := by decide +kernel
theorem dX12_init_732 : decode cX12_init 732 = .ok (.bipush 101, 2) := by decide +kernel
theorem dX12_init_734 : decode cX12_init 734 = .ok (.bipush 116, 2) := by decide +kernel
theorem dX12_init_736 : decode cX12_init 736 = .ok (.iconst 0, 1) := by decide +kernel
theorem dX12_init_737 : decode cX12_init 737 = .ok (.iconst 0, 1) := by decide +kernel
theorem dX12_init_738 : decode cX12_init 738 = .ok (.invokestatic 156, 3) := by decide +kernel
theorem dX12_init_741 : decode cX12_init 741 = .ok (.lastore, 1) := by decide +kernel
theorem dX12_init_742 : decode cX12_init 742 = .ok (.aload_n 0, 1) := by decide +kernel
theorem dX12_init_743 : decode cX12_init 743 = .ok (.getfield 34, 3) := by decide +kernel
theorem dX12_init_746 : decode cX12_init 746 = .ok (.bipush 17, 2) := by decide +kernel
theorem dX12_init_748 : decode cX12_init 748 = .ok (.bipush 122, 2) := by decide +kernel
theorem dX12_init_750 : decode cX12_init 750 = .ok (.bipush 101, 2) := by decide +kernel
theorem dX12_init_752 : decode cX12_init 752 = .ok (.bipush 97, 2) := by decide +kernel
theorem dX12_init_754 : decode cX12_init 754 = .ok (.bipush 108, 2) := by decide +kernel
theorem dX12_init_756 : decode cX12_init 756 = .ok (.iconst 0, 1) := by decide +kernel
theorem dX12_init_757 : decode cX12_init 757 = .ok (.iconst 0, 1) := by decide +kernel
theorem dX12_init_758 : decode cX12_init 758 = .ok (.iconst 0, 1) := by decide +kernel
theorem dX12_init_759 : decode cX12_init 759 = .ok (.invokestatic 156, 3) := by decide +kernel
theorem dX12_init_762 : decode cX12_init 762 = .ok (.lastore, 1) := by decide +kernel
theorem dX12_init_763 : decode cX12_init 763 = .ok (.aload_n 0, 1) := by decide +kernel
theorem dX12_init_764 : decode cX12_init 764 = .ok (.getfield 34, 3) := by decide +kernel
theorem dX12_init_767 : decode cX12_init 767 = .ok (.bipush 18, 2) := by decide +kernel
theorem dX12_init_769 : decode cX12_init 769 = .ok (.bipush 108, 2) := by decide +kernel
theorem dX12_init_771 : decode cX12_init 771 = .ok (.bipush 111, 2) := by decide +kernel
theorem dX12_init_773 : decode cX12_init 773 = .ok (.bipush 118, 2) := by decide +kernel
theorem dX12_init_775 : decode cX12_init 775 = .ok (.bipush 101, 2) := by decide +kernel
theorem dX12_init_777 : decode cX12_init 777 = .ok (.iconst 0, 1) := by decide +kernel
theorem dX12_init_778 : decode cX12_init 778 = .ok (.iconst 0, 1) := by decide +kernel
theorem dX12_init_779 : decode cX12_init 779 = .ok (.iconst 0, 1) := by decide +kernel
theorem dX12_init_780 : decode cX12_init 780 = .ok (.invokestatic 156, 3) := by decide +kernel
theorem dX12_init_783 : decode cX12_init 783 = .ok (.lastore, 1) := by decide +kernel
theorem dX12_init_784 : decode cX12_init 784 = .ok (.aload_n 0, 1) := by decide +kernel
theorem dX12_init_785 : decode cX12_init 785 = .ok (.getfield 34, 3) := by decide +kernel
theorem dX12_init_788 : decode cX12_init 788 = .ok (.bipush 19, 2) := by decide +kernel
theorem dX12_init_790 : decode cX12_init 790 = .ok (.bipush 119, 2) := by decide +kernel
theorem dX12_init_792 : decode cX12_init 792 = .ok (.bipush 101, 2) := by decide +kernel
theorem dX12_init_794 : decode cX12_init 794 = .ok (.bipush 101, 2) := by decide +kernel
theorem dX12_init_796 : decode cX12_init 796 = .ok (.bipush 107, 2) := by decide +kernel
theorem dX12_init_798 : decode cX12_init 798 = .ok (.iconst 0, 1) := by decide +kernel
theorem dX12_init_799 : decode cX12_init 799 = .ok (.iconst 0, 1) := by decide +kernel
theorem dX12_init_800 : decode cX12_init 800 = .ok (.iconst 0, 1) := by decide +kernel
theorem dX12_init_801 : decode cX12_init 801 = .ok (.invokestatic 156, 3) := by decide +kernel
theorem dX12_init_804 : decode cX12_init 804 = .ok (.lastore, 1) := by decide +kernel
theorem dX12_init_805 : decode cX12_init 805 = .ok (.aload_n 0, 1) := by decide +kernel
theorem dX12_init_806 : decode cX12_init 806 = .ok (.getfield 34, 3) := by decide +kernel
theorem dX12_init_809 : decode cX12_init 809 = .ok (.bipush 20, 2) := by decide +kernel
theorem dX12_init_811 : decode cX12_init 811 = .ok (.bipush 112, 2) := by decide +kernel
theorem dX12_init_813 : decode cX12_init 813 = .ok (.bipush 97, 2) := by decide +kernel
theorem dX12_init_815 : decode cX12_init 815 = .ok (.bipush 114, 2) := by decide +kernel
theorem dX12_init_817 : decode cX12_init 817 = .ok (.bipush 116, 2) := by decide +kernel
theorem dX12_init_819 : decode cX12_init 819 = .ok (.iconst 0, 1) := by decide +kernel
theorem dX12_init_820 : decode cX12_init 820 = .ok (.iconst 0, 1) := by decide +kernel
theorem dX12_init_821 : decode cX12_init 821 = .ok (.iconst 0, 1) := by decide +kernel
theorem dX12_init_822 : decode cX12_init 822 = .ok (.invokestatic 156, 3) := by decide +kernel
theorem dX12_init_825 : decode cX12_init 825 = .ok (.lastore, 1) := by decide +kernel
theorem dX12_init_826 : decode cX12_init 826 = .ok (.aload_n 0, 1) := by decide +kernel
theorem dX12_init_827 : decode cX12_init 827 = .ok (.getfield 34, 3) := by decide +kernel
theorem dX12_init_830 : decode cX12_init 830 = .ok (.bipush 21, 2) := by decide +kernel
theorem dX12_init_832 : decode cX12_init 832 = .ok (.bipush 119, 2) := by decide +kernel
theorem dX12_init_834 : decode cX12_init 834 = .ok (.bipush 104, 2) := by decide +kernel
theorem dX12_init_836 : decode cX12_init 836 = .ok (.bipush 105, 2) := by decide +kernel
theorem dX12_init_838 : decode cX12_init 838 = .ok (.bipush 99, 2) := by decide +kernel
theorem dX12_init_840 : decode cX12_init 840 = .ok (.bipush 104, 2) := by decide +kernel
theorem dX12_init_842 : decode cX12_init 842 = .ok (.iconst 0, 1) := by decide +kernel
theorem dX12_init_843 : decode cX12_init 843 = .ok (.iconst 0, 1) := by decide +kernel
theorem dX12_init_844 : decode cX12_init 844 = .ok (.invokestatic 156, 3) := by decide +kernel
theorem dX12_init_847 : decode cX12_init 847 = .ok (.lastore, 1) := by decide +kernel
theorem dX12_init_848 : decode cX12_init 848 = .ok (.aload_n 0, 1) := by decide +kernel
theorem dX12_init_849 : decode cX12_init 849 = .ok (.invokevirtual 160, 3) := by decide +kernel
theorem dX12_init_852 : decode cX12_init 852 = .ok (.aload_n 0, 1) := by decide +kernel
theorem dX12_init_853 : decode cX12_init 853 = .ok (.invokevirtual 163, 3) := by decide +kernel
theorem dX12_init_856 : decode cX12_init 856 = .ok (.return_, 1) := by decide +kernel
theorem cS_X12_156 : cS RX12 156 yX12_word cX12_word 7 (some .long) 7 := ⟨⟨lg_at 1176 (by decide +kernel) (by decide +kernel), lg_at 1177 (by decide +kernel) (by decide +kernel), lg_at 15 (by decide +kernel) (by decide +kernel), lg_at 1178 (by decide +kernel) (by decide +kernel)⟩, by decide +kernel, by decide +kernel, by decide +kernel⟩
theorem fq_X12_13 : fq RX12 13 12 1 (.array .byte) := ⟨TX12, 64, tyX12, rfl, iw_X12, by decide, lg_at 1195 (by decide +kernel) (by decide +kernel), rfl, tyX12_ok, nmX12, rfl, by decide +kernel⟩
theorem fq_X12_17 : fq RX12 17 12 3 (.array .byte) := ⟨TX12, 64, tyX12, rfl, iw_X12, by decide, lg_at 1197 (by decide +kernel) (by decide +kernel), rfl, tyX12_ok, nmX12, rfl, by decide +kernel⟩
theorem fq_X12_20 : fq RX12 20 12 5 (.array .int) := ⟨TX12, 64, tyX12, rfl, iw_X12, by decide, lg_at 1199 (by decide +kernel) (by decide +kernel), rfl, tyX12_ok, nmX12, rfl, by decide +kernel⟩
theorem fq_X12_24 : fq RX12 24 12 6 (.array .int) := ⟨TX12, 64, tyX12, rfl, iw_X12, by decide, lg_at 1200 (by decide +kernel) (by decide +kernel), rfl, tyX12_ok, nmX12, rfl, by decide +kernel⟩
theorem fq_X12_27 : fq RX12 27 12 7 (.array .int) := ⟨TX12, 64, tyX12, rfl, iw_X12, by decide, lg_at 1201 (by decide +kernel) (by decide +kernel), rfl, tyX12_ok, nmX12, rfl, by decide +kernel⟩
theorem fq_X12_30 : fq RX12 30 12 8 (.array .long) := ⟨TX12, 64, tyX12, rfl, iw_X12, by decide, lg_at 1202 (by decide +kernel) (by decide +kernel), rfl, tyX12_ok, nmX12, rfl, by decide +kernel⟩
theorem fq_X12_34 : fq RX12 34 12 9 (.array .long) := ⟨TX12, 64, tyX12, rfl, iw_X12, by decide, lg_at 1203 (by decide +kernel) (by decide +kernel), rfl, tyX12_ok, nmX12, rfl, by decide +kernel⟩
theorem fq_X12_40 : fq RX12 40 12 20 (.array .int) := ⟨TX12, 64, tyX12, rfl, iw_X12, by decide, lg_at 1214 (by decide +kernel) (by decide +kernel), rfl, tyX12_ok, nmX12, rfl, by decide +kernel⟩
theorem fq_X12_43 : fq RX12 43 12 21 (.array .int) := ⟨TX12, 64, tyX12, rfl, iw_X12, by decide, lg_at 1215 (by decide +kernel) (by decide +kernel), rfl, tyX12_ok, nmX12, rfl, by decide +kernel⟩
theorem fq_X12_46 : fq RX12 46 12 22 (.array .long) := ⟨TX12, 64, tyX12, rfl, iw_X12, by decide, lg_at 1216 (by decide +kernel) (by decide +kernel), rfl, tyX12_ok, nmX12, rfl, by decide +kernel⟩
theorem fq_X12_49 : fq RX12 49 12 23 (.array .int) := ⟨TX12, 64, tyX12, rfl, iw_X12, by decide, lg_at 1217 (by decide +kernel) (by decide +kernel), rfl, tyX12_ok, nmX12, rfl, by decide +kernel⟩
theorem fq_X12_52 : fq RX12 52 12 24 (.array .int) := ⟨TX12, 64, tyX12, rfl, iw_X12, by decide, lg_at 1218 (by decide +kernel) (by decide +kernel), rfl, tyX12_ok, nmX12, rfl, by decide +kernel⟩
theorem fq_X12_55 : fq RX12 55 12 25 (.array .int) := ⟨TX12, 64, tyX12, rfl, iw_X12, by decide, lg_at 1219 (by decide +kernel) (by decide +kernel), rfl, tyX12_ok, nmX12, rfl, by decide +kernel⟩
theorem fq_X12_58 : fq RX12 58 12 26 (.array .int) := ⟨TX12, 64, tyX12, rfl, iw_X12, by decide, lg_at 1220 (by decide +kernel) (by decide +kernel), rfl, tyX12_ok, nmX12, rfl, by decide +kernel⟩
theorem fq_X12_61 : fq RX12 61 12 27 (.array .int) := ⟨TX12, 64, tyX12, rfl, iw_X12, by decide, lg_at 1221 (by decide +kernel) (by decide +kernel), rfl, tyX12_ok, nmX12, rfl, by decide +kernel⟩
theorem fq_X12_64 : fq RX12 64 12 28 (.array .int) := ⟨TX12, 64, tyX12, rfl, iw_X12, by decide, lg_at 1222 (by decide +kernel) (by decide +kernel), rfl, tyX12_ok, nmX12, rfl, by decide +kernel⟩
theorem fq_X12_67 : fq RX12 67 12 29 (.array .int) := ⟨TX12, 64, tyX12, rfl, iw_X12, by decide, lg_at 1223 (by decide +kernel) (by decide +kernel), rfl, tyX12_ok, nmX12, rfl, by decide +kernel⟩
theorem fq_X12_70 : fq RX12 70 12 30 (.array .int) := ⟨TX12, 64, tyX12, rfl, iw_X12, by decide, lg_at 1224 (by decide +kernel) (by decide +kernel), rfl, tyX12_ok, nmX12, rfl, by decide +kernel⟩
theorem fq_X12_73 : fq RX12 73 12 31 (.array .int) := ⟨TX12, 64, tyX12, rfl, iw_X12, by decide, lg_at 1225 (by decide +kernel) (by decide +kernel), rfl, tyX12_ok, nmX12, rfl, by decide +kernel⟩
theorem fq_X12_76 : fq RX12 76 12 32 (.array .int) := ⟨TX12, 64, tyX12, rfl, iw_X12, by decide, lg_at 1226 (by decide +kernel) (by decide +kernel), rfl, tyX12_ok, nmX12, rfl, by decide +kernel⟩
theorem fq_X12_79 : fq RX12 79 12 34 (.array .boolean) := ⟨TX12, 64, tyX12, rfl, iw_X12, by decide, lg_at 1228 (by decide +kernel) (by decide +kernel), rfl, tyX12_ok, nmX12, rfl, by decide +kernel⟩
theorem fq_X12_83 : fq RX12 83 12 35 (.array .int) := ⟨TX12, 64, tyX12, rfl, iw_X12, by decide, lg_at 1229 (by decide +kernel) (by decide +kernel), rfl, tyX12_ok, nmX12, rfl, by decide +kernel⟩
theorem fq_X12_86 : fq RX12 86 12 36 (.array .int) := ⟨TX12, 64, tyX12, rfl, iw_X12, by decide, lg_at 1230 (by decide +kernel) (by decide +kernel), rfl, tyX12_ok, nmX12, rfl, by decide +kernel⟩
theorem fq_X12_89 : fq RX12 89 12 37 (.array .int) := ⟨TX12, 64, tyX12, rfl, iw_X12, by decide, lg_at 1231 (by decide +kernel) (by decide +kernel), rfl, tyX12_ok, nmX12, rfl, by decide +kernel⟩
theorem fq_X12_92 : fq RX12 92 12 38 (.array .int) := ⟨TX12, 64, tyX12, rfl, iw_X12, by decide, lg_at 1232 (by decide +kernel) (by decide +kernel), rfl, tyX12_ok, nmX12, rfl, by decide +kernel⟩
theorem fq_X12_95 : fq RX12 95 12 40 (.array .int) := ⟨TX12, 64, tyX12, rfl, iw_X12, by decide, lg_at 1234 (by decide +kernel) (by decide +kernel), rfl, tyX12_ok, nmX12, rfl, by decide +kernel⟩
theorem fq_X12_98 : fq RX12 98 12 41 (.array .int) := ⟨TX12, 64, tyX12, rfl, iw_X12, by decide, lg_at 1235 (by decide +kernel) (by decide +kernel), rfl, tyX12_ok, nmX12, rfl, by decide +kernel⟩
theorem fq_X12_101 : fq RX12 101 12 42 (.array .int) := ⟨TX12, 64, tyX12, rfl, iw_X12, by decide, lg_at 1236 (by decide +kernel) (by decide +kernel), rfl, tyX12_ok, nmX12, rfl, by decide +kernel⟩
theorem fq_X12_104 : fq RX12 104 12 44 (.array .int) := ⟨TX12, 64, tyX12, rfl, iw_X12, by decide, lg_at 1238 (by decide +kernel) (by decide +kernel), rfl, tyX12_ok, nmX12, rfl, by decide +kernel⟩
theorem fq_X12_107 : fq RX12 107 12 45 (.array .int) := ⟨TX12, 64, tyX12, rfl, iw_X12, by decide, lg_at 1239 (by decide +kernel) (by decide +kernel), rfl, tyX12_ok, nmX12, rfl, by decide +kernel⟩
theorem fq_X12_110 : fq RX12 110 12 47 (.array .int) := ⟨TX12, 64, tyX12, rfl, iw_X12, by decide, lg_at 1241 (by decide +kernel) (by decide +kernel), rfl, tyX12_ok, nmX12, rfl, by decide +kernel⟩
theorem fq_X12_113 : fq RX12 113 12 48 (.array .int) := ⟨TX12, 64, tyX12, rfl, iw_X12, by decide, lg_at 1242 (by decide +kernel) (by decide +kernel), rfl, tyX12_ok, nmX12, rfl, by decide +kernel⟩
theorem fq_X12_116 : fq RX12 116 12 51 (.array .int) := ⟨TX12, 64, tyX12, rfl, iw_X12, by decide, lg_at 1245 (by decide +kernel) (by decide +kernel), rfl, tyX12_ok, nmX12, rfl, by decide +kernel⟩
theorem fq_X12_119 : fq RX12 119 12 52 (.array .int) := ⟨TX12, 64, tyX12, rfl, iw_X12, by decide, lg_at 1246 (by decide +kernel) (by decide +kernel), rfl, tyX12_ok, nmX12, rfl, by decide +kernel⟩
theorem fq_X12_122 : fq RX12 122 12 53 (.array .int) := ⟨TX12, 64, tyX12, rfl, iw_X12, by decide, lg_at 1247 (by decide +kernel) (by decide +kernel), rfl, tyX12_ok, nmX12, rfl, by decide +kernel⟩
theorem fq_X12_125 : fq RX12 125 12 54 (.array .int) := ⟨TX12, 64, tyX12, rfl, iw_X12, by decide, lg_at 1248 (by decide +kernel) (by decide +kernel), rfl, tyX12_ok, nmX12, rfl, by decide +kernel⟩
theorem fq_X12_128 : fq RX12 128 12 55 (.array .int) := ⟨TX12, 64, tyX12, rfl, iw_X12, by decide, lg_at 1249 (by decide +kernel) (by decide +kernel), rfl, tyX12_ok, nmX12, rfl, by decide +kernel⟩
theorem fq_X12_131 : fq RX12 131 12 56 (.array .int) := ⟨TX12, 64, tyX12, rfl, iw_X12, by decide, lg_at 1250 (by decide +kernel) (by decide +kernel), rfl, tyX12_ok, nmX12, rfl, by decide +kernel⟩
theorem fq_X12_134 : fq RX12 134 12 58 (.array .int) := ⟨TX12, 64, tyX12, rfl, iw_X12, by decide, lg_at 1252 (by decide +kernel) (by decide +kernel), rfl, tyX12_ok, nmX12, rfl, by decide +kernel⟩
theorem fq_X12_137 : fq RX12 137 12 59 (.array .int) := ⟨TX12, 64, tyX12, rfl, iw_X12, by decide, lg_at 1253 (by decide +kernel) (by decide +kernel), rfl, tyX12_ok, nmX12, rfl, by decide +kernel⟩
theorem fq_X12_140 : fq RX12 140 12 60 (.array .boolean) := ⟨TX12, 64, tyX12, rfl, iw_X12, by decide, lg_at 1254 (by decide +kernel) (by decide +kernel), rfl, tyX12_ok, nmX12, rfl, by decide +kernel⟩
theorem fq_X12_143 : fq RX12 143 12 61 (.array .int) := ⟨TX12, 64, tyX12, rfl, iw_X12, by decide, lg_at 1255 (by decide +kernel) (by decide +kernel), rfl, tyX12_ok, nmX12, rfl, by decide +kernel⟩
theorem fq_X12_146 : fq RX12 146 12 62 (.array .boolean) := ⟨TX12, 64, tyX12, rfl, iw_X12, by decide, lg_at 1256 (by decide +kernel) (by decide +kernel), rfl, tyX12_ok, nmX12, rfl, by decide +kernel⟩
theorem fq_X12_149 : fq RX12 149 12 63 (.array .int) := ⟨TX12, 64, tyX12, rfl, iw_X12, by decide, lg_at 1257 (by decide +kernel) (by decide +kernel), rfl, tyX12_ok, nmX12, rfl, by decide +kernel⟩
theorem ko_X12 : Cond.methodLink RX12 7 Lib.objectInit ∈ lg_tbl := lg_at 1171 (by decide +kernel) (by decide +kernel)
section
variable {p : Program} {l : Launch} {e : Env} {s : State} {m : MethodId} {args : Array Value} {below : List Frame} {meth : Method} {c : Code} {D : va_G} {ad : Nat → Nat} {κ : KC}
def FX12_init_tail (σ : HS) : Option HS :=
  bdV (FX12_plain (0 : Int32) σ) fun σ_1 => bdV (FX12_plain (1 : Int32) σ_1) fun σ_3 => bdL (FX12_word (109 : Int32) (105 : Int32) (110 : Int32) (117 : Int32) (116 : Int32) (101 : Int32) (0 : Int32) σ_3) fun r_5 σ_6 => hl_ (pL σ_6 7 0 r_5) fun σ_8 => bdL (FX12_word (102 : Int32) (97 : Int32) (109 : Int32) (105 : Int32) (108 : Int32) (121 : Int32) (0 : Int32) σ_8) fun r_9 σ_10 => hl_ (pL σ_10 7 1 r_9) fun σ_12 => bdL (FX12_word (108 : Int32) (101 : Int32) (97 : Int32) (115 : Int32) (101 : Int32) (0 : Int32) (0 : Int32) σ_12) fun r_13 σ_14 => hl_ (pL σ_14 7 2 r_13) fun σ_16 => bdL (FX12_word (99 : Int32) (111 : Int32) (117 : Int32) (103 : Int32) (104 : Int32) (115 : Int32) (0 : Int32) σ_16) fun r_17 σ_18 => hl_ (pL σ_18 7 3 r_17) fun σ_20 => bdL (FX12_word (119 : Int32) (111 : Int32) (114 : Int32) (116 : Int32) (104 : Int32) (0 : Int32) (0 : Int32) σ_20) fun r_21 σ_22 => hl_ (pL σ_22 7 4 r_21) fun σ_24 => bdL (FX12_word (114 : Int32) (101 : Int32) (110 : Int32) (116 : Int32) (115 : Int32) (0 : Int32) (0 : Int32) σ_24) fun r_25 σ_26 => hl_ (pL σ_26 7 5 r_25) fun σ_28 => bdL (FX12_word (99 : Int32) (117 : Int32) (114 : Int32) (101 : Int32) (115 : Int32) (0 : Int32) (0 : Int32) σ_28) fun r_29 σ_30 => hl_ (pL σ_30 7 6 r_29) fun σ_32 => bdL (FX12_word (100 : Int32) (117 : Int32) (115 : Int32) (116 : Int32) (0 : Int32) (0 : Int32) (0 : Int32) σ_32) fun r_33 σ_34 => hl_ (pL σ_34 7 7 r_33) fun σ_36 => bdL (FX12_word (115 : Int32) (121 : Int32) (114 : Int32) (117 : Int32) (112 : Int32) (0 : Int32) (0 : Int32) σ_36) fun r_37 σ_38 => hl_ (pL σ_38 7 8 r_37) fun σ_40 => bdL (FX12_word (115 : Int32) (101 : Int32) (101 : Int32) (100 : Int32) (0 : Int32) (0 : Int32) (0 : Int32) σ_40) fun r_41 σ_42 => hl_ (pL σ_42 7 9 r_41) fun σ_44 => bdL (FX12_word (105 : Int32) (102 : Int32) (0 : Int32) (0 : Int32) (0 : Int32) (0 : Int32) (0 : Int32) σ_44) fun r_45 σ_46 => hl_ (pL σ_46 7 10 r_45) fun σ_48 => bdL (FX12_word (116 : Int32) (104 : Int32) (101 : Int32) (110 : Int32) (0 : Int32) (0 : Int32) (0 : Int32) σ_48) fun r_49 σ_50 => hl_ (pL σ_50 7 11 r_49) fun σ_52 => bdL (FX12_word (101 : Int32) (108 : Int32) (115 : Int32) (101 : Int32) (0 : Int32) (0 : Int32) (0 : Int32) σ_52) fun r_53 σ_54 => hl_ (pL σ_54 7 12 r_53) fun σ_56 => bdL (FX12_word (110 : Int32) (111 : Int32) (119 : Int32) (0 : Int32) (0 : Int32) (0 : Int32) (0 : Int32) σ_56) fun r_57 σ_58 => hl_ (pL σ_58 7 13 r_57) fun σ_60 => bdL (FX12_word (109 : Int32) (97 : Int32) (116 : Int32) (116 : Int32) (101 : Int32) (114 : Int32) (0 : Int32) σ_60) fun r_61 σ_62 => hl_ (pL σ_62 7 14 r_61) fun σ_64 => bdL (FX12_word (100 : Int32) (117 : Int32) (115 : Int32) (116 : Int32) (121 : Int32) (0 : Int32) (0 : Int32) σ_64) fun r_65 σ_66 => hl_ (pL σ_66 7 15 r_65) fun σ_68 => bdL (FX12_word (115 : Int32) (119 : Int32) (101 : Int32) (101 : Int32) (116 : Int32) (0 : Int32) (0 : Int32) σ_68) fun r_69 σ_70 => hl_ (pL σ_70 7 16 r_69) fun σ_72 => bdL (FX12_word (122 : Int32) (101 : Int32) (97 : Int32) (108 : Int32) (0 : Int32) (0 : Int32) (0 : Int32) σ_72) fun r_73 σ_74 => hl_ (pL σ_74 7 17 r_73) fun σ_76 => bdL (FX12_word (108 : Int32) (111 : Int32) (118 : Int32) (101 : Int32) (0 : Int32) (0 : Int32) (0 : Int32) σ_76) fun r_77 σ_78 => hl_ (pL σ_78 7 18 r_77) fun σ_80 => bdL (FX12_word (119 : Int32) (101 : Int32) (101 : Int32) (107 : Int32) (0 : Int32) (0 : Int32) (0 : Int32) σ_80) fun r_81 σ_82 => hl_ (pL σ_82 7 19 r_81) fun σ_84 => bdL (FX12_word (112 : Int32) (97 : Int32) (114 : Int32) (116 : Int32) (0 : Int32) (0 : Int32) (0 : Int32) σ_84) fun r_85 σ_86 => hl_ (pL σ_86 7 20 r_85) fun σ_88 => bdL (FX12_word (119 : Int32) (104 : Int32) (105 : Int32) (99 : Int32) (104 : Int32) (0 : Int32) (0 : Int32) σ_88) fun r_89 σ_90 => hl_ (pL σ_90 7 21 r_89) fun σ_92 => bdV (FX12_begins σ_92) fun σ_93 => bdV (FX12_keepsRow σ_93) fun σ_95 => some σ_95
set_option maxHeartbeats 4000000 in
set_option maxRecDepth 100000 in
theorem wX12_init_tail {Q : State → Prop} {cells slots : Nat} (C : Cx 45 D ad κ p s m args meth c cX12_init RX12 1 none) (hcs : cells ≤ ({ frames := 2, cells := 44, slots := 12024, locals := 48 } : Room).cells ∧ slots ≤ ({ frames := 2, cells := 44, slots := 12024, locals := 48 } : Room).slots) {R : HS} (hE : ∀ (H : Heap) (locs : List Loc) (ls : Array Slot), Hd 45 ceM D ad κ s R H locs → lv_has ls 1 [(0, .ref (ad 0))] → W p l e ({ frames := 2, cells := 44, slots := 12024, locals := 48 } : Room) s m args below meth c H locs cells slots Q (F0 m 856 ls [])) : ∀ (σ : HS) (H : Heap) (locs : List Loc) (ls : Array Slot), FX12_init_tail σ = some R → Hd 45 ceM D ad κ s σ H locs → lv_has ls 1 [(0, .ref (ad 0))] → W p l e ({ frames := 2, cells := 44, slots := 12024, locals := 48 } : Room) s m args below meth c H locs cells slots Q (F0 m 369 ls []) := by
  have hx := C.1
  have hb := C.2.1
  have hown := C.2.2.2.1
  have hts := C.2.2.2.2.1
  intro σ H locs ls h hH hl
  rw [FX12_init_tail] at h
  refine lv_aload_n hx hb dX12_init_369 rfl (lv_at hl 0 rfl) ?_
  refine lv_iconst (v := 0) hx hb dX12_init_370 (by decide) ?_
  obtain ⟨σ_1, hc_2, h⟩ := bdV_ex h
  refine g_cv (g_runV (rest := []) C hH hl.1 cV_X12_152 0 (Nat.le_of_ble_eq_true rfl) rfl rfl (kX12_plain l D ad κ hc_2) ⟨rfl, rfl⟩ ⟨(Nat.le_of_ble_eq_true rfl), (Nat.le_of_ble_eq_true rfl)⟩ rfl rfl (Nat.le_of_ble_eq_true rfl) dX12_init_371 hcs) hH (fun H locs hH => ?_)
  refine lv_aload_n hx hb dX12_init_374 rfl (lv_at hl 0 rfl) ?_
  refine lv_iconst (v := 1) hx hb dX12_init_375 (by decide) ?_
  obtain ⟨σ_3, hc_4, h⟩ := bdV_ex h
  refine g_cv (g_runV (rest := []) C hH hl.1 cV_X12_152 0 (Nat.le_of_ble_eq_true rfl) rfl rfl (kX12_plain l D ad κ hc_4) ⟨rfl, rfl⟩ ⟨(Nat.le_of_ble_eq_true rfl), (Nat.le_of_ble_eq_true rfl)⟩ rfl rfl (Nat.le_of_ble_eq_true rfl) dX12_init_376 hcs) hH (fun H locs hH => ?_)
  refine lv_aload_n hx hb dX12_init_379 rfl (lv_at hl 0 rfl) ?_
  refine g_get C hH 0 (Nat.le_of_ble_eq_true rfl) rfl fl_X12_34 (v := .ref (ad 7)) rfl dX12_init_380 ?_
  refine lv_iconst (v := 0) hx hb dX12_init_383 (by decide) ?_
  refine lv_bipush (v := 109) hx hb dX12_init_384 (by decide) ?_
  refine lv_bipush (v := 105) hx hb dX12_init_386 (by decide) ?_
  refine lv_bipush (v := 110) hx hb dX12_init_388 (by decide) ?_
  refine lv_bipush (v := 117) hx hb dX12_init_390 (by decide) ?_
  refine lv_bipush (v := 116) hx hb dX12_init_392 (by decide) ?_
  refine lv_bipush (v := 101) hx hb dX12_init_394 (by decide) ?_
  refine lv_iconst (v := 0) hx hb dX12_init_396 (by decide) ?_
  obtain ⟨r_5, σ_6, hc_7, h⟩ := bdL_ex h
  refine g_cl (g_runS (rest := [.int (0 : Int32), .ref (ad 7)]) C hH hl.1 cS_X12_156 (kX12_word l D ad κ hc_7) ⟨rfl, rfl⟩ ⟨(Nat.le_of_ble_eq_true rfl), (Nat.le_of_ble_eq_true rfl)⟩ rfl rfl (Nat.le_of_ble_eq_true rfl) dX12_init_397 hcs) hH (fun H locs hH => ?_)
  obtain ⟨σ_8, eσ_8, h⟩ := hl_ex h
  refine g_last C hH 7 (Nat.le_of_ble_eq_true rfl) (fun _ _ => rfl) (k := 0) (by decide) (ix_in rfl) dX12_init_400 (fun H locs hH => ?_)
  rw [← eσ_8] at hH
  refine lv_aload_n hx hb dX12_init_401 rfl (lv_at hl 0 rfl) ?_
  refine g_get C hH 0 (Nat.le_of_ble_eq_true rfl) rfl fl_X12_34 (v := .ref (ad 7)) rfl dX12_init_402 ?_
  refine lv_iconst (v := 1) hx hb dX12_init_405 (by decide) ?_
  refine lv_bipush (v := 102) hx hb dX12_init_406 (by decide) ?_
  refine lv_bipush (v := 97) hx hb dX12_init_408 (by decide) ?_
  refine lv_bipush (v := 109) hx hb dX12_init_410 (by decide) ?_
  refine lv_bipush (v := 105) hx hb dX12_init_412 (by decide) ?_
  refine lv_bipush (v := 108) hx hb dX12_init_414 (by decide) ?_
  refine lv_bipush (v := 121) hx hb dX12_init_416 (by decide) ?_
  refine lv_iconst (v := 0) hx hb dX12_init_418 (by decide) ?_
  obtain ⟨r_9, σ_10, hc_11, h⟩ := bdL_ex h
  refine g_cl (g_runS (rest := [.int (1 : Int32), .ref (ad 7)]) C hH hl.1 cS_X12_156 (kX12_word l D ad κ hc_11) ⟨rfl, rfl⟩ ⟨(Nat.le_of_ble_eq_true rfl), (Nat.le_of_ble_eq_true rfl)⟩ rfl rfl (Nat.le_of_ble_eq_true rfl) dX12_init_419 hcs) hH (fun H locs hH => ?_)
  obtain ⟨σ_12, eσ_12, h⟩ := hl_ex h
  refine g_last C hH 7 (Nat.le_of_ble_eq_true rfl) (fun _ _ => rfl) (k := 1) (by decide) (ix_in rfl) dX12_init_422 (fun H locs hH => ?_)
  rw [← eσ_12] at hH
  refine lv_aload_n hx hb dX12_init_423 rfl (lv_at hl 0 rfl) ?_
  refine g_get C hH 0 (Nat.le_of_ble_eq_true rfl) rfl fl_X12_34 (v := .ref (ad 7)) rfl dX12_init_424 ?_
  refine lv_iconst (v := 2) hx hb dX12_init_427 (by decide) ?_
  refine lv_bipush (v := 108) hx hb dX12_init_428 (by decide) ?_
  refine lv_bipush (v := 101) hx hb dX12_init_430 (by decide) ?_
  refine lv_bipush (v := 97) hx hb dX12_init_432 (by decide) ?_
  refine lv_bipush (v := 115) hx hb dX12_init_434 (by decide) ?_
  refine lv_bipush (v := 101) hx hb dX12_init_436 (by decide) ?_
  refine lv_iconst (v := 0) hx hb dX12_init_438 (by decide) ?_
  refine lv_iconst (v := 0) hx hb dX12_init_439 (by decide) ?_
  obtain ⟨r_13, σ_14, hc_15, h⟩ := bdL_ex h
  refine g_cl (g_runS (rest := [.int (2 : Int32), .ref (ad 7)]) C hH hl.1 cS_X12_156 (kX12_word l D ad κ hc_15) ⟨rfl, rfl⟩ ⟨(Nat.le_of_ble_eq_true rfl), (Nat.le_of_ble_eq_true rfl)⟩ rfl rfl (Nat.le_of_ble_eq_true rfl) dX12_init_440 hcs) hH (fun H locs hH => ?_)
  obtain ⟨σ_16, eσ_16, h⟩ := hl_ex h
  refine g_last C hH 7 (Nat.le_of_ble_eq_true rfl) (fun _ _ => rfl) (k := 2) (by decide) (ix_in rfl) dX12_init_443 (fun H locs hH => ?_)
  rw [← eσ_16] at hH
  refine lv_aload_n hx hb dX12_init_444 rfl (lv_at hl 0 rfl) ?_
  refine g_get C hH 0 (Nat.le_of_ble_eq_true rfl) rfl fl_X12_34 (v := .ref (ad 7)) rfl dX12_init_445 ?_
  refine lv_iconst (v := 3) hx hb dX12_init_448 (by decide) ?_
  refine lv_bipush (v := 99) hx hb dX12_init_449 (by decide) ?_
  refine lv_bipush (v := 111) hx hb dX12_init_451 (by decide) ?_
  refine lv_bipush (v := 117) hx hb dX12_init_453 (by decide) ?_
  refine lv_bipush (v := 103) hx hb dX12_init_455 (by decide) ?_
  refine lv_bipush (v := 104) hx hb dX12_init_457 (by decide) ?_
  refine lv_bipush (v := 115) hx hb dX12_init_459 (by decide) ?_
  refine lv_iconst (v := 0) hx hb dX12_init_461 (by decide) ?_
  obtain ⟨r_17, σ_18, hc_19, h⟩ := bdL_ex h
  refine g_cl (g_runS (rest := [.int (3 : Int32), .ref (ad 7)]) C hH hl.1 cS_X12_156 (kX12_word l D ad κ hc_19) ⟨rfl, rfl⟩ ⟨(Nat.le_of_ble_eq_true rfl), (Nat.le_of_ble_eq_true rfl)⟩ rfl rfl (Nat.le_of_ble_eq_true rfl) dX12_init_462 hcs) hH (fun H locs hH => ?_)
  obtain ⟨σ_20, eσ_20, h⟩ := hl_ex h
  refine g_last C hH 7 (Nat.le_of_ble_eq_true rfl) (fun _ _ => rfl) (k := 3) (by decide) (ix_in rfl) dX12_init_465 (fun H locs hH => ?_)
  rw [← eσ_20] at hH
  refine lv_aload_n hx hb dX12_init_466 rfl (lv_at hl 0 rfl) ?_
  refine g_get C hH 0 (Nat.le_of_ble_eq_true rfl) rfl fl_X12_34 (v := .ref (ad 7)) rfl dX12_init_467 ?_
  refine lv_iconst (v := 4) hx hb dX12_init_470 (by decide) ?_
  refine lv_bipush (v := 119) hx hb dX12_init_471 (by decide) ?_
  refine lv_bipush (v := 111) hx hb dX12_init_473 (by decide) ?_
  refine lv_bipush (v := 114) hx hb dX12_init_475 (by decide) ?_
  refine lv_bipush (v := 116) hx hb dX12_init_477 (by decide) ?_
  refine lv_bipush (v := 104) hx hb dX12_init_479 (by decide) ?_
  refine lv_iconst (v := 0) hx hb dX12_init_481 (by decide) ?_
  refine lv_iconst (v := 0) hx hb dX12_init_482 (by decide) ?_
  obtain ⟨r_21, σ_22, hc_23, h⟩ := bdL_ex h
  refine g_cl (g_runS (rest := [.int (4 : Int32), .ref (ad 7)]) C hH hl.1 cS_X12_156 (kX12_word l D ad κ hc_23) ⟨rfl, rfl⟩ ⟨(Nat.le_of_ble_eq_true rfl), (Nat.le_of_ble_eq_true rfl)⟩ rfl rfl (Nat.le_of_ble_eq_true rfl) dX12_init_483 hcs) hH (fun H locs hH => ?_)
  obtain ⟨σ_24, eσ_24, h⟩ := hl_ex h
  refine g_last C hH 7 (Nat.le_of_ble_eq_true rfl) (fun _ _ => rfl) (k := 4) (by decide) (ix_in rfl) dX12_init_486 (fun H locs hH => ?_)
  rw [← eσ_24] at hH
  refine lv_aload_n hx hb dX12_init_487 rfl (lv_at hl 0 rfl) ?_
  refine g_get C hH 0 (Nat.le_of_ble_eq_true rfl) rfl fl_X12_34 (v := .ref (ad 7)) rfl dX12_init_488 ?_
  refine lv_iconst (v := 5) hx hb dX12_init_491 (by decide) ?_
  refine lv_bipush (v := 114) hx hb dX12_init_492 (by decide) ?_
  refine lv_bipush (v := 101) hx hb dX12_init_494 (by decide) ?_
  refine lv_bipush (v := 110) hx hb dX12_init_496 (by decide) ?_
  refine lv_bipush (v := 116) hx hb dX12_init_498 (by decide) ?_
  refine lv_bipush (v := 115) hx hb dX12_init_500 (by decide) ?_
  refine lv_iconst (v := 0) hx hb dX12_init_502 (by decide) ?_
  refine lv_iconst (v := 0) hx hb dX12_init_503 (by decide) ?_
  obtain ⟨r_25, σ_26, hc_27, h⟩ := bdL_ex h
  refine g_cl (g_runS (rest := [.int (5 : Int32), .ref (ad 7)]) C hH hl.1 cS_X12_156 (kX12_word l D ad κ hc_27) ⟨rfl, rfl⟩ ⟨(Nat.le_of_ble_eq_true rfl), (Nat.le_of_ble_eq_true rfl)⟩ rfl rfl (Nat.le_of_ble_eq_true rfl) dX12_init_504 hcs) hH (fun H locs hH => ?_)
  obtain ⟨σ_28, eσ_28, h⟩ := hl_ex h
  refine g_last C hH 7 (Nat.le_of_ble_eq_true rfl) (fun _ _ => rfl) (k := 5) (by decide) (ix_in rfl) dX12_init_507 (fun H locs hH => ?_)
  rw [← eσ_28] at hH
  refine lv_aload_n hx hb dX12_init_508 rfl (lv_at hl 0 rfl) ?_
  refine g_get C hH 0 (Nat.le_of_ble_eq_true rfl) rfl fl_X12_34 (v := .ref (ad 7)) rfl dX12_init_509 ?_
  refine lv_bipush (v := 6) hx hb dX12_init_512 (by decide) ?_
  refine lv_bipush (v := 99) hx hb dX12_init_514 (by decide) ?_
  refine lv_bipush (v := 117) hx hb dX12_init_516 (by decide) ?_
  refine lv_bipush (v := 114) hx hb dX12_init_518 (by decide) ?_
  refine lv_bipush (v := 101) hx hb dX12_init_520 (by decide) ?_
  refine lv_bipush (v := 115) hx hb dX12_init_522 (by decide) ?_
  refine lv_iconst (v := 0) hx hb dX12_init_524 (by decide) ?_
  refine lv_iconst (v := 0) hx hb dX12_init_525 (by decide) ?_
  obtain ⟨r_29, σ_30, hc_31, h⟩ := bdL_ex h
  refine g_cl (g_runS (rest := [.int (6 : Int32), .ref (ad 7)]) C hH hl.1 cS_X12_156 (kX12_word l D ad κ hc_31) ⟨rfl, rfl⟩ ⟨(Nat.le_of_ble_eq_true rfl), (Nat.le_of_ble_eq_true rfl)⟩ rfl rfl (Nat.le_of_ble_eq_true rfl) dX12_init_526 hcs) hH (fun H locs hH => ?_)
  obtain ⟨σ_32, eσ_32, h⟩ := hl_ex h
  refine g_last C hH 7 (Nat.le_of_ble_eq_true rfl) (fun _ _ => rfl) (k := 6) (by decide) (ix_in rfl) dX12_init_529 (fun H locs hH => ?_)
  rw [← eσ_32] at hH
  refine lv_aload_n hx hb dX12_init_530 rfl (lv_at hl 0 rfl) ?_
  refine g_get C hH 0 (Nat.le_of_ble_eq_true rfl) rfl fl_X12_34 (v := .ref (ad 7)) rfl dX12_init_531 ?_
  refine lv_bipush (v := 7) hx hb dX12_init_534 (by decide) ?_
  refine lv_bipush (v := 100) hx hb dX12_init_536 (by decide) ?_
  refine lv_bipush (v := 117) hx hb dX12_init_538 (by decide) ?_
  refine lv_bipush (v := 115) hx hb dX12_init_540 (by decide) ?_
  refine lv_bipush (v := 116) hx hb dX12_init_542 (by decide) ?_
  refine lv_iconst (v := 0) hx hb dX12_init_544 (by decide) ?_
  refine lv_iconst (v := 0) hx hb dX12_init_545 (by decide) ?_
  refine lv_iconst (v := 0) hx hb dX12_init_546 (by decide) ?_
  obtain ⟨r_33, σ_34, hc_35, h⟩ := bdL_ex h
  refine g_cl (g_runS (rest := [.int (7 : Int32), .ref (ad 7)]) C hH hl.1 cS_X12_156 (kX12_word l D ad κ hc_35) ⟨rfl, rfl⟩ ⟨(Nat.le_of_ble_eq_true rfl), (Nat.le_of_ble_eq_true rfl)⟩ rfl rfl (Nat.le_of_ble_eq_true rfl) dX12_init_547 hcs) hH (fun H locs hH => ?_)
  obtain ⟨σ_36, eσ_36, h⟩ := hl_ex h
  refine g_last C hH 7 (Nat.le_of_ble_eq_true rfl) (fun _ _ => rfl) (k := 7) (by decide) (ix_in rfl) dX12_init_550 (fun H locs hH => ?_)
  rw [← eσ_36] at hH
  refine lv_aload_n hx hb dX12_init_551 rfl (lv_at hl 0 rfl) ?_
  refine g_get C hH 0 (Nat.le_of_ble_eq_true rfl) rfl fl_X12_34 (v := .ref (ad 7)) rfl dX12_init_552 ?_
  refine lv_bipush (v := 8) hx hb dX12_init_555 (by decide) ?_
  refine lv_bipush (v := 115) hx hb dX12_init_557 (by decide) ?_
  refine lv_bipush (v := 121) hx hb dX12_init_559 (by decide) ?_
  refine lv_bipush (v := 114) hx hb dX12_init_561 (by decide) ?_
  refine lv_bipush (v := 117) hx hb dX12_init_563 (by decide) ?_
  refine lv_bipush (v := 112) hx hb dX12_init_565 (by decide) ?_
  refine lv_iconst (v := 0) hx hb dX12_init_567 (by decide) ?_
  refine lv_iconst (v := 0) hx hb dX12_init_568 (by decide) ?_
  obtain ⟨r_37, σ_38, hc_39, h⟩ := bdL_ex h
  refine g_cl (g_runS (rest := [.int (8 : Int32), .ref (ad 7)]) C hH hl.1 cS_X12_156 (kX12_word l D ad κ hc_39) ⟨rfl, rfl⟩ ⟨(Nat.le_of_ble_eq_true rfl), (Nat.le_of_ble_eq_true rfl)⟩ rfl rfl (Nat.le_of_ble_eq_true rfl) dX12_init_569 hcs) hH (fun H locs hH => ?_)
  obtain ⟨σ_40, eσ_40, h⟩ := hl_ex h
  refine g_last C hH 7 (Nat.le_of_ble_eq_true rfl) (fun _ _ => rfl) (k := 8) (by decide) (ix_in rfl) dX12_init_572 (fun H locs hH => ?_)
  rw [← eσ_40] at hH
  refine lv_aload_n hx hb dX12_init_573 rfl (lv_at hl 0 rfl) ?_
  refine g_get C hH 0 (Nat.le_of_ble_eq_true rfl) rfl fl_X12_34 (v := .ref (ad 7)) rfl dX12_init_574 ?_
  refine lv_bipush (v := 9) hx hb dX12_init_577 (by decide) ?_
  refine lv_bipush (v := 115) hx hb dX12_init_579 (by decide) ?_
  refine lv_bipush (v := 101) hx hb dX12_init_581 (by decide) ?_
  refine lv_bipush (v := 101) hx hb dX12_init_583 (by decide) ?_
  refine lv_bipush (v := 100) hx hb dX12_init_585 (by decide) ?_
  refine lv_iconst (v := 0) hx hb dX12_init_587 (by decide) ?_
  refine lv_iconst (v := 0) hx hb dX12_init_588 (by decide) ?_
  refine lv_iconst (v := 0) hx hb dX12_init_589 (by decide) ?_
  obtain ⟨r_41, σ_42, hc_43, h⟩ := bdL_ex h
  refine g_cl (g_runS (rest := [.int (9 : Int32), .ref (ad 7)]) C hH hl.1 cS_X12_156 (kX12_word l D ad κ hc_43) ⟨rfl, rfl⟩ ⟨(Nat.le_of_ble_eq_true rfl), (Nat.le_of_ble_eq_true rfl)⟩ rfl rfl (Nat.le_of_ble_eq_true rfl) dX12_init_590 hcs) hH (fun H locs hH => ?_)
  obtain ⟨σ_44, eσ_44, h⟩ := hl_ex h
  refine g_last C hH 7 (Nat.le_of_ble_eq_true rfl) (fun _ _ => rfl) (k := 9) (by decide) (ix_in rfl) dX12_init_593 (fun H locs hH => ?_)
  rw [← eσ_44] at hH
  refine lv_aload_n hx hb dX12_init_594 rfl (lv_at hl 0 rfl) ?_
  refine g_get C hH 0 (Nat.le_of_ble_eq_true rfl) rfl fl_X12_34 (v := .ref (ad 7)) rfl dX12_init_595 ?_
  refine lv_bipush (v := 10) hx hb dX12_init_598 (by decide) ?_
  refine lv_bipush (v := 105) hx hb dX12_init_600 (by decide) ?_
  refine lv_bipush (v := 102) hx hb dX12_init_602 (by decide) ?_
  refine lv_iconst (v := 0) hx hb dX12_init_604 (by decide) ?_
  refine lv_iconst (v := 0) hx hb dX12_init_605 (by decide) ?_
  refine lv_iconst (v := 0) hx hb dX12_init_606 (by decide) ?_
  refine lv_iconst (v := 0) hx hb dX12_init_607 (by decide) ?_
  refine lv_iconst (v := 0) hx hb dX12_init_608 (by decide) ?_
  obtain ⟨r_45, σ_46, hc_47, h⟩ := bdL_ex h
  refine g_cl (g_runS (rest := [.int (10 : Int32), .ref (ad 7)]) C hH hl.1 cS_X12_156 (kX12_word l D ad κ hc_47) ⟨rfl, rfl⟩ ⟨(Nat.le_of_ble_eq_true rfl), (Nat.le_of_ble_eq_true rfl)⟩ rfl rfl (Nat.le_of_ble_eq_true rfl) dX12_init_609 hcs) hH (fun H locs hH => ?_)
  obtain ⟨σ_48, eσ_48, h⟩ := hl_ex h
  refine g_last C hH 7 (Nat.le_of_ble_eq_true rfl) (fun _ _ => rfl) (k := 10) (by decide) (ix_in rfl) dX12_init_612 (fun H locs hH => ?_)
  rw [← eσ_48] at hH
  refine lv_aload_n hx hb dX12_init_613 rfl (lv_at hl 0 rfl) ?_
  refine g_get C hH 0 (Nat.le_of_ble_eq_true rfl) rfl fl_X12_34 (v := .ref (ad 7)) rfl dX12_init_614 ?_
  refine lv_bipush (v := 11) hx hb dX12_init_617 (by decide) ?_
  refine lv_bipush (v := 116) hx hb dX12_init_619 (by decide) ?_
  refine lv_bipush (v := 104) hx hb dX12_init_621 (by decide) ?_
  refine lv_bipush (v := 101) hx hb dX12_init_623 (by decide) ?_
  refine lv_bipush (v := 110) hx hb dX12_init_625 (by decide) ?_
  refine lv_iconst (v := 0) hx hb dX12_init_627 (by decide) ?_
  refine lv_iconst (v := 0) hx hb dX12_init_628 (by decide) ?_
  refine lv_iconst (v := 0) hx hb dX12_init_629 (by decide) ?_
  obtain ⟨r_49, σ_50, hc_51, h⟩ := bdL_ex h
  refine g_cl (g_runS (rest := [.int (11 : Int32), .ref (ad 7)]) C hH hl.1 cS_X12_156 (kX12_word l D ad κ hc_51) ⟨rfl, rfl⟩ ⟨(Nat.le_of_ble_eq_true rfl), (Nat.le_of_ble_eq_true rfl)⟩ rfl rfl (Nat.le_of_ble_eq_true rfl) dX12_init_630 hcs) hH (fun H locs hH => ?_)
  obtain ⟨σ_52, eσ_52, h⟩ := hl_ex h
  refine g_last C hH 7 (Nat.le_of_ble_eq_true rfl) (fun _ _ => rfl) (k := 11) (by decide) (ix_in rfl) dX12_init_633 (fun H locs hH => ?_)
  rw [← eσ_52] at hH
  refine lv_aload_n hx hb dX12_init_634 rfl (lv_at hl 0 rfl) ?_
  refine g_get C hH 0 (Nat.le_of_ble_eq_true rfl) rfl fl_X12_34 (v := .ref (ad 7)) rfl dX12_init_635 ?_
  refine lv_bipush (v := 12) hx hb dX12_init_638 (by decide) ?_
  refine lv_bipush (v := 101) hx hb dX12_init_640 (by decide) ?_
  refine lv_bipush (v := 108) hx hb dX12_init_642 (by decide) ?_
  refine lv_bipush (v := 115) hx hb dX12_init_644 (by decide) ?_
  refine lv_bipush (v := 101) hx hb dX12_init_646 (by decide) ?_
  refine lv_iconst (v := 0) hx hb dX12_init_648 (by decide) ?_
  refine lv_iconst (v := 0) hx hb dX12_init_649 (by decide) ?_
  refine lv_iconst (v := 0) hx hb dX12_init_650 (by decide) ?_
  obtain ⟨r_53, σ_54, hc_55, h⟩ := bdL_ex h
  refine g_cl (g_runS (rest := [.int (12 : Int32), .ref (ad 7)]) C hH hl.1 cS_X12_156 (kX12_word l D ad κ hc_55) ⟨rfl, rfl⟩ ⟨(Nat.le_of_ble_eq_true rfl), (Nat.le_of_ble_eq_true rfl)⟩ rfl rfl (Nat.le_of_ble_eq_true rfl) dX12_init_651 hcs) hH (fun H locs hH => ?_)
  obtain ⟨σ_56, eσ_56, h⟩ := hl_ex h
  refine g_last C hH 7 (Nat.le_of_ble_eq_true rfl) (fun _ _ => rfl) (k := 12) (by decide) (ix_in rfl) dX12_init_654 (fun H locs hH => ?_)
  rw [← eσ_56] at hH
  refine lv_aload_n hx hb dX12_init_655 rfl (lv_at hl 0 rfl) ?_
  refine g_get C hH 0 (Nat.le_of_ble_eq_true rfl) rfl fl_X12_34 (v := .ref (ad 7)) rfl dX12_init_656 ?_
  refine lv_bipush (v := 13) hx hb dX12_init_659 (by decide) ?_
  refine lv_bipush (v := 110) hx hb dX12_init_661 (by decide) ?_
  refine lv_bipush (v := 111) hx hb dX12_init_663 (by decide) ?_
  refine lv_bipush (v := 119) hx hb dX12_init_665 (by decide) ?_
  refine lv_iconst (v := 0) hx hb dX12_init_667 (by decide) ?_
  refine lv_iconst (v := 0) hx hb dX12_init_668 (by decide) ?_
  refine lv_iconst (v := 0) hx hb dX12_init_669 (by decide) ?_
  refine lv_iconst (v := 0) hx hb dX12_init_670 (by decide) ?_
  obtain ⟨r_57, σ_58, hc_59, h⟩ := bdL_ex h
  refine g_cl (g_runS (rest := [.int (13 : Int32), .ref (ad 7)]) C hH hl.1 cS_X12_156 (kX12_word l D ad κ hc_59) ⟨rfl, rfl⟩ ⟨(Nat.le_of_ble_eq_true rfl), (Nat.le_of_ble_eq_true rfl)⟩ rfl rfl (Nat.le_of_ble_eq_true rfl) dX12_init_671 hcs) hH (fun H locs hH => ?_)
  obtain ⟨σ_60, eσ_60, h⟩ := hl_ex h
  refine g_last C hH 7 (Nat.le_of_ble_eq_true rfl) (fun _ _ => rfl) (k := 13) (by decide) (ix_in rfl) dX12_init_674 (fun H locs hH => ?_)
  rw [← eσ_60] at hH
  refine lv_aload_n hx hb dX12_init_675 rfl (lv_at hl 0 rfl) ?_
  refine g_get C hH 0 (Nat.le_of_ble_eq_true rfl) rfl fl_X12_34 (v := .ref (ad 7)) rfl dX12_init_676 ?_
  refine lv_bipush (v := 14) hx hb dX12_init_679 (by decide) ?_
  refine lv_bipush (v := 109) hx hb dX12_init_681 (by decide) ?_
  refine lv_bipush (v := 97) hx hb dX12_init_683 (by decide) ?_
  refine lv_bipush (v := 116) hx hb dX12_init_685 (by decide) ?_
  refine lv_bipush (v := 116) hx hb dX12_init_687 (by decide) ?_
  refine lv_bipush (v := 101) hx hb dX12_init_689 (by decide) ?_
  refine lv_bipush (v := 114) hx hb dX12_init_691 (by decide) ?_
  refine lv_iconst (v := 0) hx hb dX12_init_693 (by decide) ?_
  obtain ⟨r_61, σ_62, hc_63, h⟩ := bdL_ex h
  refine g_cl (g_runS (rest := [.int (14 : Int32), .ref (ad 7)]) C hH hl.1 cS_X12_156 (kX12_word l D ad κ hc_63) ⟨rfl, rfl⟩ ⟨(Nat.le_of_ble_eq_true rfl), (Nat.le_of_ble_eq_true rfl)⟩ rfl rfl (Nat.le_of_ble_eq_true rfl) dX12_init_694 hcs) hH (fun H locs hH => ?_)
  obtain ⟨σ_64, eσ_64, h⟩ := hl_ex h
  refine g_last C hH 7 (Nat.le_of_ble_eq_true rfl) (fun _ _ => rfl) (k := 14) (by decide) (ix_in rfl) dX12_init_697 (fun H locs hH => ?_)
  rw [← eσ_64] at hH
  refine lv_aload_n hx hb dX12_init_698 rfl (lv_at hl 0 rfl) ?_
  refine g_get C hH 0 (Nat.le_of_ble_eq_true rfl) rfl fl_X12_34 (v := .ref (ad 7)) rfl dX12_init_699 ?_
  refine lv_bipush (v := 15) hx hb dX12_init_702 (by decide) ?_
  refine lv_bipush (v := 100) hx hb dX12_init_704 (by decide) ?_
  refine lv_bipush (v := 117) hx hb dX12_init_706 (by decide) ?_
  refine lv_bipush (v := 115) hx hb dX12_init_708 (by decide) ?_
  refine lv_bipush (v := 116) hx hb dX12_init_710 (by decide) ?_
  refine lv_bipush (v := 121) hx hb dX12_init_712 (by decide) ?_
  refine lv_iconst (v := 0) hx hb dX12_init_714 (by decide) ?_
  refine lv_iconst (v := 0) hx hb dX12_init_715 (by decide) ?_
  obtain ⟨r_65, σ_66, hc_67, h⟩ := bdL_ex h
  refine g_cl (g_runS (rest := [.int (15 : Int32), .ref (ad 7)]) C hH hl.1 cS_X12_156 (kX12_word l D ad κ hc_67) ⟨rfl, rfl⟩ ⟨(Nat.le_of_ble_eq_true rfl), (Nat.le_of_ble_eq_true rfl)⟩ rfl rfl (Nat.le_of_ble_eq_true rfl) dX12_init_716 hcs) hH (fun H locs hH => ?_)
  obtain ⟨σ_68, eσ_68, h⟩ := hl_ex h
  refine g_last C hH 7 (Nat.le_of_ble_eq_true rfl) (fun _ _ => rfl) (k := 15) (by decide) (ix_in rfl) dX12_init_719 (fun H locs hH => ?_)
  rw [← eσ_68] at hH
  refine lv_aload_n hx hb dX12_init_720 rfl (lv_at hl 0 rfl) ?_
  refine g_get C hH 0 (Nat.le_of_ble_eq_true rfl) rfl fl_X12_34 (v := .ref (ad 7)) rfl dX12_init_721 ?_
  refine lv_bipush (v := 16) hx hb dX12_init_724 (by decide) ?_
  refine lv_bipush (v := 115) hx hb dX12_init_726 (by decide) ?_
  refine lv_bipush (v := 119) hx hb dX12_init_728 (by decide) ?_
  refine lv_bipush (v := 101) hx hb dX12_init_730 (by decide) ?_
  refine lv_bipush (v := 101) hx hb dX12_init_732 (by decide) ?_
  refine lv_bipush (v := 116) hx hb dX12_init_734 (by decide) ?_
  refine lv_iconst (v := 0) hx hb dX12_init_736 (by decide) ?_
  refine lv_iconst (v := 0) hx hb dX12_init_737 (by decide) ?_
  obtain ⟨r_69, σ_70, hc_71, h⟩ := bdL_ex h
  refine g_cl (g_runS (rest := [.int (16 : Int32), .ref (ad 7)]) C hH hl.1 cS_X12_156 (kX12_word l D ad κ hc_71) ⟨rfl, rfl⟩ ⟨(Nat.le_of_ble_eq_true rfl), (Nat.le_of_ble_eq_true rfl)⟩ rfl rfl (Nat.le_of_ble_eq_true rfl) dX12_init_738 hcs) hH (fun H locs hH => ?_)
  obtain ⟨σ_72, eσ_72, h⟩ := hl_ex h
  refine g_last C hH 7 (Nat.le_of_ble_eq_true rfl) (fun _ _ => rfl) (k := 16) (by decide) (ix_in rfl) dX12_init_741 (fun H locs hH => ?_)
  rw [← eσ_72] at hH
  refine lv_aload_n hx hb dX12_init_742 rfl (lv_at hl 0 rfl) ?_
  refine g_get C hH 0 (Nat.le_of_ble_eq_true rfl) rfl fl_X12_34 (v := .ref (ad 7)) rfl dX12_init_743 ?_
  refine lv_bipush (v := 17) hx hb dX12_init_746 (by decide) ?_
  refine lv_bipush (v := 122) hx hb dX12_init_748 (by decide) ?_
  refine lv_bipush (v := 101) hx hb dX12_init_750 (by decide) ?_
  refine lv_bipush (v := 97) hx hb dX12_init_752 (by decide) ?_
  refine lv_bipush (v := 108) hx hb dX12_init_754 (by decide) ?_
  refine lv_iconst (v := 0) hx hb dX12_init_756 (by decide) ?_
  refine lv_iconst (v := 0) hx hb dX12_init_757 (by decide) ?_
  refine lv_iconst (v := 0) hx hb dX12_init_758 (by decide) ?_
  obtain ⟨r_73, σ_74, hc_75, h⟩ := bdL_ex h
  refine g_cl (g_runS (rest := [.int (17 : Int32), .ref (ad 7)]) C hH hl.1 cS_X12_156 (kX12_word l D ad κ hc_75) ⟨rfl, rfl⟩ ⟨(Nat.le_of_ble_eq_true rfl), (Nat.le_of_ble_eq_true rfl)⟩ rfl rfl (Nat.le_of_ble_eq_true rfl) dX12_init_759 hcs) hH (fun H locs hH => ?_)
  obtain ⟨σ_76, eσ_76, h⟩ := hl_ex h
  refine g_last C hH 7 (Nat.le_of_ble_eq_true rfl) (fun _ _ => rfl) (k := 17) (by decide) (ix_in rfl) dX12_init_762 (fun H locs hH => ?_)
  rw [← eσ_76] at hH
  refine lv_aload_n hx hb dX12_init_763 rfl (lv_at hl 0 rfl) ?_
  refine g_get C hH 0 (Nat.le_of_ble_eq_true rfl) rfl fl_X12_34 (v := .ref (ad 7)) rfl dX12_init_764 ?_
  refine lv_bipush (v := 18) hx hb dX12_init_767 (by decide) ?_
  refine lv_bipush (v := 108) hx hb dX12_init_769 (by decide) ?_
  refine lv_bipush (v := 111) hx hb dX12_init_771 (by decide) ?_
  refine lv_bipush (v := 118) hx hb dX12_init_773 (by decide) ?_
  refine lv_bipush (v := 101) hx hb dX12_init_775 (by decide) ?_
  refine lv_iconst (v := 0) hx hb dX12_init_777 (by decide) ?_
  refine lv_iconst (v := 0) hx hb dX12_init_778 (by decide) ?_
  refine lv_iconst (v := 0) hx hb dX12_init_779 (by decide) ?_
  obtain ⟨r_77, σ_78, hc_79, h⟩ := bdL_ex h
  refine g_cl (g_runS (rest := [.int (18 : Int32), .ref (ad 7)]) C hH hl.1 cS_X12_156 (kX12_word l D ad κ hc_79) ⟨rfl, rfl⟩ ⟨(Nat.le_of_ble_eq_true rfl), (Nat.le_of_ble_eq_true rfl)⟩ rfl rfl (Nat.le_of_ble_eq_true rfl) dX12_init_780 hcs) hH (fun H locs hH => ?_)
  obtain ⟨σ_80, eσ_80, h⟩ := hl_ex h
  refine g_last C hH 7 (Nat.le_of_ble_eq_true rfl) (fun _ _ => rfl) (k := 18) (by decide) (ix_in rfl) dX12_init_783 (fun H locs hH => ?_)
  rw [← eσ_80] at hH
  refine lv_aload_n hx hb dX12_init_784 rfl (lv_at hl 0 rfl) ?_
  refine g_get C hH 0 (Nat.le_of_ble_eq_true rfl) rfl fl_X12_34 (v := .ref (ad 7)) rfl dX12_init_785 ?_
  refine lv_bipush (v := 19) hx hb dX12_init_788 (by decide) ?_
  refine lv_bipush (v := 119) hx hb dX12_init_790 (by decide) ?_
  refine lv_bipush (v := 101) hx hb dX12_init_792 (by decide) ?_
  refine lv_bipush (v := 101) hx hb dX12_init_794 (by decide) ?_
  refine lv_bipush (v := 107) hx hb dX12_init_796 (by decide) ?_
  refine lv_iconst (v := 0) hx hb dX12_init_798 (by decide) ?_
  refine lv_iconst (v := 0) hx hb dX12_init_799 (by decide) ?_
  refine lv_iconst (v := 0) hx hb dX12_init_800 (by decide) ?_
  obtain ⟨r_81, σ_82, hc_83, h⟩ := bdL_ex h
  refine g_cl (g_runS (rest := [.int (19 : Int32), .ref (ad 7)]) C hH hl.1 cS_X12_156 (kX12_word l D ad κ hc_83) ⟨rfl, rfl⟩ ⟨(Nat.le_of_ble_eq_true rfl), (Nat.le_of_ble_eq_true rfl)⟩ rfl rfl (Nat.le_of_ble_eq_true rfl) dX12_init_801 hcs) hH (fun H locs hH => ?_)
  obtain ⟨σ_84, eσ_84, h⟩ := hl_ex h
  refine g_last C hH 7 (Nat.le_of_ble_eq_true rfl) (fun _ _ => rfl) (k := 19) (by decide) (ix_in rfl) dX12_init_804 (fun H locs hH => ?_)
  rw [← eσ_84] at hH
  refine lv_aload_n hx hb dX12_init_805 rfl (lv_at hl 0 rfl) ?_
  refine g_get C hH 0 (Nat.le_of_ble_eq_true rfl) rfl fl_X12_34 (v := .ref (ad 7)) rfl dX12_init_806 ?_
  refine lv_bipush (v := 20) hx hb dX12_init_809 (by decide) ?_
  refine lv_bipush (v := 112) hx hb dX12_init_811 (by decide) ?_
  refine lv_bipush (v := 97) hx hb dX12_init_813 (by decide) ?_
  refine lv_bipush (v := 114) hx hb dX12_init_815 (by decide) ?_
  refine lv_bipush (v := 116) hx hb dX12_init_817 (by decide) ?_
  refine lv_iconst (v := 0) hx hb dX12_init_819 (by decide) ?_
  refine lv_iconst (v := 0) hx hb dX12_init_820 (by decide) ?_
  refine lv_iconst (v := 0) hx hb dX12_init_821 (by decide) ?_
  obtain ⟨r_85, σ_86, hc_87, h⟩ := bdL_ex h
  refine g_cl (g_runS (rest := [.int (20 : Int32), .ref (ad 7)]) C hH hl.1 cS_X12_156 (kX12_word l D ad κ hc_87) ⟨rfl, rfl⟩ ⟨(Nat.le_of_ble_eq_true rfl), (Nat.le_of_ble_eq_true rfl)⟩ rfl rfl (Nat.le_of_ble_eq_true rfl) dX12_init_822 hcs) hH (fun H locs hH => ?_)
  obtain ⟨σ_88, eσ_88, h⟩ := hl_ex h
  refine g_last C hH 7 (Nat.le_of_ble_eq_true rfl) (fun _ _ => rfl) (k := 20) (by decide) (ix_in rfl) dX12_init_825 (fun H locs hH => ?_)
  rw [← eσ_88] at hH
  refine lv_aload_n hx hb dX12_init_826 rfl (lv_at hl 0 rfl) ?_
  refine g_get C hH 0 (Nat.le_of_ble_eq_true rfl) rfl fl_X12_34 (v := .ref (ad 7)) rfl dX12_init_827 ?_
  refine lv_bipush (v := 21) hx hb dX12_init_830 (by decide) ?_
  refine lv_bipush (v := 119) hx hb dX12_init_832 (by decide) ?_
  refine lv_bipush (v := 104) hx hb dX12_init_834 (by decide) ?_
  refine lv_bipush (v := 105) hx hb dX12_init_836 (by decide) ?_
  refine lv_bipush (v := 99) hx hb dX12_init_838 (by decide) ?_
  refine lv_bipush (v := 104) hx hb dX12_init_840 (by decide) ?_
  refine lv_iconst (v := 0) hx hb dX12_init_842 (by decide) ?_
  refine lv_iconst (v := 0) hx hb dX12_init_843 (by decide) ?_
  obtain ⟨r_89, σ_90, hc_91, h⟩ := bdL_ex h
  refine g_cl (g_runS (rest := [.int (21 : Int32), .ref (ad 7)]) C hH hl.1 cS_X12_156 (kX12_word l D ad κ hc_91) ⟨rfl, rfl⟩ ⟨(Nat.le_of_ble_eq_true rfl), (Nat.le_of_ble_eq_true rfl)⟩ rfl rfl (Nat.le_of_ble_eq_true rfl) dX12_init_844 hcs) hH (fun H locs hH => ?_)
  obtain ⟨σ_92, eσ_92, h⟩ := hl_ex h
  refine g_last C hH 7 (Nat.le_of_ble_eq_true rfl) (fun _ _ => rfl) (k := 21) (by decide) (ix_in rfl) dX12_init_847 (fun H locs hH => ?_)
  rw [← eσ_92] at hH
  refine lv_aload_n hx hb dX12_init_848 rfl (lv_at hl 0 rfl) ?_
  obtain ⟨σ_93, hc_94, h⟩ := bdV_ex h
  refine g_cv (g_runV (rest := []) C hH hl.1 cV_X12_160 0 (Nat.le_of_ble_eq_true rfl) rfl rfl (kX12_begins l D ad κ hc_94) ⟨rfl, rfl⟩ ⟨(Nat.le_of_ble_eq_true rfl), (Nat.le_of_ble_eq_true rfl)⟩ rfl rfl (Nat.le_of_ble_eq_true rfl) dX12_init_849 hcs) hH (fun H locs hH => ?_)
  refine lv_aload_n hx hb dX12_init_852 rfl (lv_at hl 0 rfl) ?_
  obtain ⟨σ_95, hc_96, h⟩ := bdV_ex h
  refine g_cv (g_runV (rest := []) C hH hl.1 cV_X12_163 0 (Nat.le_of_ble_eq_true rfl) rfl rfl (kX12_keepsRow l D ad κ hc_96) ⟨rfl, rfl⟩ ⟨(Nat.le_of_ble_eq_true rfl), (Nat.le_of_ble_eq_true rfl)⟩ rfl rfl (Nat.le_of_ble_eq_true rfl) dX12_init_853 hcs) hH (fun H locs hH => ?_)
  cases h
  exact hE _ _ _ hH hl
end
