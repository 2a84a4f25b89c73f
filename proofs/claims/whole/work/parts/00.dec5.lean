theorem d_L_law_176 : decode code 176 = .ok (.iload 5, 2) := by decide +kernel
theorem d_L_law_178 : decode code 178 = .ok (.ifCond .ne 15, 3) := by decide +kernel
theorem d_L_law_181 : decode code 181 = .ok (.aload_n 3, 1) := by decide +kernel
theorem d_L_law_182 : decode code 182 = .ok (.iconst 0, 1) := by decide +kernel
theorem d_L_law_183 : decode code 183 = .ok (.laload, 1) := by decide +kernel
theorem d_L_law_184 : decode code 184 = .ok (.iload 6, 2) := by decide +kernel
theorem d_L_law_186 : decode code 186 = .ok (.i2l, 1) := by decide +kernel
theorem d_L_law_187 : decode code 187 = .ok (.lcmp, 1) := by decide +kernel
theorem d_L_law_188 : decode code 188 = .ok (.ifCond .eq 5, 3) := by decide +kernel
theorem d_L_law_191 : decode code 191 = .ok (.iconst 0, 1) := by decide +kernel
theorem d_L_law_192 : decode code 192 = .ok (.ireturn, 1) := by decide +kernel
theorem d_L_law_174 : decode code 174 = .ok (.iconst 0, 1) := by decide +kernel
theorem d_L_law_175 : decode code 175 = .ok (.ireturn, 1) := by decide +kernel
theorem d_L_law_196 : decode code 196 = .ok (.aload_n 1, 1) := by decide +kernel
theorem d_L_law_197 : decode code 197 = .ok (.aload_n 0, 1) := by decide +kernel
theorem d_L_law_198 : decode code 198 = .ok (.iload 4, 2) := by decide +kernel
theorem d_L_law_200 : decode code 200 = .ok (.iconst 1, 1) := by decide +kernel
theorem d_L_law_201 : decode code 201 = .ok (.iadd, 1) := by decide +kernel
theorem d_L_law_202 : decode code 202 = .ok (.iaload, 1) := by decide +kernel
theorem d_L_law_203 : decode code 203 = .ok (.aload_n 0, 1) := by decide +kernel
theorem d_L_law_204 : decode code 204 = .ok (.iload 4, 2) := by decide +kernel
theorem d_L_law_206 : decode code 206 = .ok (.iconst 2, 1) := by decide +kernel
theorem d_L_law_207 : decode code 207 = .ok (.iadd, 1) := by decide +kernel
theorem d_L_law_208 : decode code 208 = .ok (.iaload, 1) := by decide +kernel
theorem d_L_law_209 : decode code 209 = .ok (.aload_n 0, 1) := by decide +kernel
theorem d_L_law_210 : decode code 210 = .ok (.iload 4, 2) := by decide +kernel
theorem d_L_law_212 : decode code 212 = .ok (.iconst 3, 1) := by decide +kernel
theorem d_L_law_213 : decode code 213 = .ok (.iadd, 1) := by decide +kernel
theorem d_L_law_214 : decode code 214 = .ok (.iaload, 1) := by decide +kernel
theorem d_L_law_215 : decode code 215 = .ok (.aload_n 0, 1) := by decide +kernel
theorem d_L_law_216 : decode code 216 = .ok (.iload 4, 2) := by decide +kernel
theorem d_L_law_218 : decode code 218 = .ok (.iconst 4, 1) := by decide +kernel
theorem d_L_law_219 : decode code 219 = .ok (.iadd, 1) := by decide +kernel
theorem d_L_law_220 : decode code 220 = .ok (.iaload, 1) := by decide +kernel
theorem d_L_law_221 : decode code 221 = .ok (.aload_n 0, 1) := by decide +kernel
theorem d_L_law_222 : decode code 222 = .ok (.iload 4, 2) := by decide +kernel
theorem d_L_law_224 : decode code 224 = .ok (.iconst 5, 1) := by decide +kernel
theorem d_L_law_225 : decode code 225 = .ok (.iadd, 1) := by decide +kernel
theorem d_L_law_226 : decode code 226 = .ok (.iaload, 1) := by decide +kernel
theorem d_L_law_227 : decode code 227 = .ok (.aload_n 3, 1) := by decide +kernel
theorem d_L_law_228 : decode code 228 = .ok (.invokestatic 70, 3) := by decide +kernel
theorem d_L_law_231 : decode code 231 = .ok (.istore 5, 2) := by decide +kernel
theorem d_L_law_233 : decode code 233 = .ok (.aload_n 2, 1) := by decide +kernel
theorem d_L_law_234 : decode code 234 = .ok (.aload_n 0, 1) := by decide +kernel
theorem d_L_law_235 : decode code 235 = .ok (.iload 4, 2) := by decide +kernel
theorem d_L_law_237 : decode code 237 = .ok (.iconst 1, 1) := by decide +kernel
theorem d_L_law_238 : decode code 238 = .ok (.iadd, 1) := by decide +kernel
theorem d_L_law_239 : decode code 239 = .ok (.iaload, 1) := by decide +kernel
theorem d_L_law_240 : decode code 240 = .ok (.aload_n 0, 1) := by decide +kernel
theorem d_L_law_241 : decode code 241 = .ok (.iload 4, 2) := by decide +kernel
theorem d_L_law_243 : decode code 243 = .ok (.iconst 2, 1) := by decide +kernel
theorem d_L_law_244 : decode code 244 = .ok (.iadd, 1) := by decide +kernel
theorem d_L_law_245 : decode code 245 = .ok (.iaload, 1) := by decide +kernel
theorem d_L_law_246 : decode code 246 = .ok (.aload_n 0, 1) := by decide +kernel
theorem d_L_law_247 : decode code 247 = .ok (.iload 4, 2) := by decide +kernel
theorem d_L_law_249 : decode code 249 = .ok (.iconst 3, 1) := by decide +kernel
theorem d_L_law_250 : decode code 250 = .ok (.iadd, 1) := by decide +kernel
theorem d_L_law_251 : decode code 251 = .ok (.iaload, 1) := by decide +kernel
theorem d_L_law_252 : decode code 252 = .ok (.aload_n 0, 1) := by decide +kernel
theorem d_L_law_253 : decode code 253 = .ok (.iload 4, 2) := by decide +kernel
theorem d_L_law_255 : decode code 255 = .ok (.iconst 4, 1) := by decide +kernel
theorem d_L_law_256 : decode code 256 = .ok (.iadd, 1) := by decide +kernel
theorem d_L_law_257 : decode code 257 = .ok (.iaload, 1) := by decide +kernel
theorem d_L_law_258 : decode code 258 = .ok (.aload_n 0, 1) := by decide +kernel
theorem d_L_law_259 : decode code 259 = .ok (.iload 4, 2) := by decide +kernel
theorem d_L_law_261 : decode code 261 = .ok (.iconst 5, 1) := by decide +kernel
theorem d_L_law_262 : decode code 262 = .ok (.iadd, 1) := by decide +kernel
theorem d_L_law_263 : decode code 263 = .ok (.iaload, 1) := by decide +kernel
theorem d_L_law_264 : decode code 264 = .ok (.invokevirtual 73, 3) := by decide +kernel
theorem d_L_law_267 : decode code 267 = .ok (.istore 6, 2) := by decide +kernel
theorem d_L_law_269 : decode code 269 = .ok (.aload_n 2, 1) := by decide +kernel
theorem d_L_law_270 : decode code 270 = .ok (.invokevirtual 66, 3) := by decide +kernel
theorem d_L_law_273 : decode code 273 = .ok (.iload 5, 2) := by decide +kernel
theorem d_L_law_275 : decode code 275 = .ok (.if_icmp .eq 5, 3) := by decide +kernel
theorem d_L_law_280 : decode code 280 = .ok (.iload 5, 2) := by decide +kernel
theorem d_L_law_282 : decode code 282 = .ok (.ifCond .ne 15, 3) := by decide +kernel
theorem d_L_law_285 : decode code 285 = .ok (.aload_n 3, 1) := by decide +kernel
theorem d_L_law_286 : decode code 286 = .ok (.iconst 0, 1) := by decide +kernel
theorem d_L_law_287 : decode code 287 = .ok (.laload, 1) := by decide +kernel
theorem d_L_law_288 : decode code 288 = .ok (.iload 6, 2) := by decide +kernel
theorem d_L_law_290 : decode code 290 = .ok (.i2l, 1) := by decide +kernel
theorem d_L_law_291 : decode code 291 = .ok (.lcmp, 1) := by decide +kernel
theorem d_L_law_292 : decode code 292 = .ok (.ifCond .eq 5, 3) := by decide +kernel
theorem d_L_law_295 : decode code 295 = .ok (.iconst 0, 1) := by decide +kernel
theorem d_L_law_296 : decode code 296 = .ok (.ireturn, 1) := by decide +kernel
theorem d_L_law_278 : decode code 278 = .ok (.iconst 0, 1) := by decide +kernel
theorem d_L_law_279 : decode code 279 = .ok (.ireturn, 1) := by decide +kernel
theorem d_L_law_300 : decode code 300 = .ok (.aload_n 1, 1) := by decide +kernel
theorem d_L_law_301 : decode code 301 = .ok (.aload_n 0, 1) := by decide +kernel
theorem d_L_law_302 : decode code 302 = .ok (.iload 4, 2) := by decide +kernel
theorem d_L_law_304 : decode code 304 = .ok (.iconst 1, 1) := by decide +kernel
theorem d_L_law_305 : decode code 305 = .ok (.iadd, 1) := by decide +kernel
theorem d_L_law_306 : decode code 306 = .ok (.iaload, 1) := by decide +kernel
theorem d_L_law_307 : decode code 307 = .ok (.aload_n 0, 1) := by decide +kernel
theorem d_L_law_308 : decode code 308 = .ok (.iload 4, 2) := by decide +kernel
theorem d_L_law_310 : decode code 310 = .ok (.iconst 2, 1) := by decide +kernel
theorem d_L_law_311 : decode code 311 = .ok (.iadd, 1) := by decide +kernel
theorem d_L_law_312 : decode code 312 = .ok (.iaload, 1) := by decide +kernel
theorem d_L_law_313 : decode code 313 = .ok (.aload_n 0, 1) := by decide +kernel
theorem d_L_law_314 : decode code 314 = .ok (.iload 4, 2) := by decide +kernel
theorem d_L_law_316 : decode code 316 = .ok (.iconst 3, 1) := by decide +kernel
theorem d_L_law_317 : decode code 317 = .ok (.iadd, 1) := by decide +kernel
theorem d_L_law_318 : decode code 318 = .ok (.iaload, 1) := by decide +kernel
theorem d_L_law_319 : decode code 319 = .ok (.aload_n 0, 1) := by decide +kernel
theorem d_L_law_320 : decode code 320 = .ok (.iload 4, 2) := by decide +kernel
theorem d_L_law_322 : decode code 322 = .ok (.iconst 4, 1) := by decide +kernel
theorem d_L_law_323 : decode code 323 = .ok (.iadd, 1) := by decide +kernel
theorem d_L_law_324 : decode code 324 = .ok (.iaload, 1) := by decide +kernel
theorem d_L_law_325 : decode code 325 = .ok (.aload_n 3, 1) := by decide +kernel
theorem d_L_law_326 : decode code 326 = .ok (.invokestatic 74, 3) := by decide +kernel
theorem d_L_law_329 : decode code 329 = .ok (.istore 5, 2) := by decide +kernel
theorem d_L_law_331 : decode code 331 = .ok (.aload_n 2, 1) := by decide +kernel
theorem d_L_law_332 : decode code 332 = .ok (.aload_n 0, 1) := by decide +kernel
theorem d_L_law_333 : decode code 333 = .ok (.iload 4, 2) := by decide +kernel
theorem d_L_law_335 : decode code 335 = .ok (.iconst 1, 1) := by decide +kernel
theorem d_L_law_336 : decode code 336 = .ok (.iadd, 1) := by decide +kernel
theorem d_L_law_337 : decode code 337 = .ok (.iaload, 1) := by decide +kernel
theorem d_L_law_338 : decode code 338 = .ok (.aload_n 0, 1) := by decide +kernel
theorem d_L_law_339 : decode code 339 = .ok (.iload 4, 2) := by decide +kernel
theorem d_L_law_341 : decode code 341 = .ok (.iconst 2, 1) := by decide +kernel
theorem d_L_law_342 : decode code 342 = .ok (.iadd, 1) := by decide +kernel
theorem d_L_law_343 : decode code 343 = .ok (.iaload, 1) := by decide +kernel
theorem d_L_law_344 : decode code 344 = .ok (.aload_n 0, 1) := by decide +kernel
theorem d_L_law_345 : decode code 345 = .ok (.iload 4, 2) := by decide +kernel
theorem d_L_law_347 : decode code 347 = .ok (.iconst 3, 1) := by decide +kernel
theorem d_L_law_348 : decode code 348 = .ok (.iadd, 1) := by decide +kernel
theorem d_L_law_349 : decode code 349 = .ok (.iaload, 1) := by decide +kernel
theorem d_L_law_350 : decode code 350 = .ok (.aload_n 0, 1) := by decide +kernel
theorem d_L_law_351 : decode code 351 = .ok (.iload 4, 2) := by decide +kernel
theorem d_L_law_353 : decode code 353 = .ok (.iconst 4, 1) := by decide +kernel
theorem d_L_law_354 : decode code 354 = .ok (.iadd, 1) := by decide +kernel
theorem d_L_law_355 : decode code 355 = .ok (.iaload, 1) := by decide +kernel
theorem d_L_law_356 : decode code 356 = .ok (.invokevirtual 77, 3) := by decide +kernel
theorem d_L_law_359 : decode code 359 = .ok (.istore 6, 2) := by decide +kernel
theorem d_L_law_361 : decode code 361 = .ok (.aload_n 2, 1) := by decide +kernel
theorem d_L_law_362 : decode code 362 = .ok (.invokevirtual 66, 3) := by decide +kernel
theorem d_L_law_365 : decode code 365 = .ok (.iload 5, 2) := by decide +kernel
theorem d_L_law_367 : decode code 367 = .ok (.if_icmp .eq 5, 3) := by decide +kernel
theorem d_L_law_372 : decode code 372 = .ok (.iload 5, 2) := by decide +kernel
theorem d_L_law_374 : decode code 374 = .ok (.ifCond .ne 15, 3) := by decide +kernel
theorem d_L_law_377 : decode code 377 = .ok (.aload_n 3, 1) := by decide +kernel
theorem d_L_law_378 : decode code 378 = .ok (.iconst 0, 1) := by decide +kernel
theorem d_L_law_379 : decode code 379 = .ok (.laload, 1) := by decide +kernel
theorem d_L_law_380 : decode code 380 = .ok (.iload 6, 2) := by decide +kernel
theorem d_L_law_382 : decode code 382 = .ok (.i2l, 1) := by decide +kernel
theorem d_L_law_383 : decode code 383 = .ok (.lcmp, 1) := by decide +kernel
theorem d_L_law_384 : decode code 384 = .ok (.ifCond .eq 5, 3) := by decide +kernel
theorem d_L_law_387 : decode code 387 = .ok (.iconst 0, 1) := by decide +kernel
theorem d_L_law_388 : decode code 388 = .ok (.ireturn, 1) := by decide +kernel
theorem d_L_law_370 : decode code 370 = .ok (.iconst 0, 1) := by decide +kernel
theorem d_L_law_371 : decode code 371 = .ok (.ireturn, 1) := by decide +kernel
theorem d_L_law_392 : decode code 392 = .ok (.aload_n 1, 1) := by decide +kernel
theorem d_L_law_393 : decode code 393 = .ok (.aload_n 0, 1) := by decide +kernel
theorem d_L_law_394 : decode code 394 = .ok (.iload 4, 2) := by decide +kernel
theorem d_L_law_396 : decode code 396 = .ok (.iconst 1, 1) := by decide +kernel
theorem d_L_law_397 : decode code 397 = .ok (.iadd, 1) := by decide +kernel
theorem d_L_law_398 : decode code 398 = .ok (.iaload, 1) := by decide +kernel
theorem d_L_law_399 : decode code 399 = .ok (.aload_n 0, 1) := by decide +kernel
theorem d_L_law_400 : decode code 400 = .ok (.iload 4, 2) := by decide +kernel
theorem d_L_law_402 : decode code 402 = .ok (.iconst 2, 1) := by decide +kernel
theorem d_L_law_403 : decode code 403 = .ok (.iadd, 1) := by decide +kernel
theorem d_L_law_404 : decode code 404 = .ok (.iaload, 1) := by decide +kernel
theorem d_L_law_405 : decode code 405 = .ok (.aload_n 0, 1) := by decide +kernel
theorem d_L_law_406 : decode code 406 = .ok (.iload 4, 2) := by decide +kernel
theorem d_L_law_408 : decode code 408 = .ok (.iconst 3, 1) := by decide +kernel
theorem d_L_law_409 : decode code 409 = .ok (.iadd, 1) := by decide +kernel
theorem d_L_law_410 : decode code 410 = .ok (.iaload, 1) := by decide +kernel
theorem d_L_law_411 : decode code 411 = .ok (.aload_n 3, 1) := by decide +kernel
theorem d_L_law_412 : decode code 412 = .ok (.invokestatic 78, 3) := by decide +kernel
theorem d_L_law_415 : decode code 415 = .ok (.istore 5, 2) := by decide +kernel
theorem d_L_law_417 : decode code 417 = .ok (.aload_n 2, 1) := by decide +kernel
theorem d_L_law_418 : decode code 418 = .ok (.aload_n 0, 1) := by decide +kernel
theorem d_L_law_419 : decode code 419 = .ok (.iload 4, 2) := by decide +kernel
theorem d_L_law_421 : decode code 421 = .ok (.iconst 1, 1) := by decide +kernel
theorem d_L_law_422 : decode code 422 = .ok (.iadd, 1) := by decide +kernel
theorem d_L_law_423 : decode code 423 = .ok (.iaload, 1) := by decide +kernel
theorem d_L_law_424 : decode code 424 = .ok (.aload_n 0, 1) := by decide +kernel
theorem d_L_law_425 : decode code 425 = .ok (.iload 4, 2) := by decide +kernel
theorem d_L_law_427 : decode code 427 = .ok (.iconst 2, 1) := by decide +kernel
theorem d_L_law_428 : decode code 428 = .ok (.iadd, 1) := by decide +kernel
theorem d_L_law_429 : decode code 429 = .ok (.iaload, 1) := by decide +kernel
theorem d_L_law_430 : decode code 430 = .ok (.aload_n 0, 1) := by decide +kernel
theorem d_L_law_431 : decode code 431 = .ok (.iload 4, 2) := by decide +kernel
theorem d_L_law_433 : decode code 433 = .ok (.iconst 3, 1) := by decide +kernel
theorem d_L_law_434 : decode code 434 = .ok (.iadd, 1) := by decide +kernel
theorem d_L_law_435 : decode code 435 = .ok (.iaload, 1) := by decide +kernel
theorem d_L_law_436 : decode code 436 = .ok (.invokevirtual 81, 3) := by decide +kernel
theorem d_L_law_439 : decode code 439 = .ok (.istore 6, 2) := by decide +kernel
theorem d_L_law_441 : decode code 441 = .ok (.aload_n 2, 1) := by decide +kernel
theorem d_L_law_442 : decode code 442 = .ok (.invokevirtual 66, 3) := by decide +kernel
theorem d_L_law_445 : decode code 445 = .ok (.iload 5, 2) := by decide +kernel
theorem d_L_law_447 : decode code 447 = .ok (.if_icmp .eq 5, 3) := by decide +kernel
theorem d_L_law_452 : decode code 452 = .ok (.iload 5, 2) := by decide +kernel
theorem d_L_law_454 : decode code 454 = .ok (.ifCond .ne 15, 3) := by decide +kernel
theorem d_L_law_457 : decode code 457 = .ok (.aload_n 3, 1) := by decide +kernel
theorem d_L_law_458 : decode code 458 = .ok (.iconst 0, 1) := by decide +kernel
theorem d_L_law_459 : decode code 459 = .ok (.laload, 1) := by decide +kernel
theorem d_L_law_460 : decode code 460 = .ok (.iload 6, 2) := by decide +kernel
theorem d_L_law_462 : decode code 462 = .ok (.i2l, 1) := by decide +kernel
theorem d_L_law_463 : decode code 463 = .ok (.lcmp, 1) := by decide +kernel
theorem d_L_law_464 : decode code 464 = .ok (.ifCond .eq 5, 3) := by decide +kernel
theorem d_L_law_467 : decode code 467 = .ok (.iconst 0, 1) := by decide +kernel
theorem d_L_law_468 : decode code 468 = .ok (.ireturn, 1) := by decide +kernel
theorem d_L_law_450 : decode code 450 = .ok (.iconst 0, 1) := by decide +kernel
theorem d_L_law_451 : decode code 451 = .ok (.ireturn, 1) := by decide +kernel
theorem d_L_law_472 : decode code 472 = .ok (.aload_n 1, 1) := by decide +kernel
theorem d_L_law_473 : decode code 473 = .ok (.aload_n 0, 1) := by decide +kernel
theorem d_L_law_474 : decode code 474 = .ok (.iload 4, 2) := by decide +kernel
theorem d_L_law_476 : decode code 476 = .ok (.iconst 1, 1) := by decide +kernel
theorem d_L_law_477 : decode code 477 = .ok (.iadd, 1) := by decide +kernel
theorem d_L_law_478 : decode code 478 = .ok (.iaload, 1) := by decide +kernel
theorem d_L_law_479 : decode code 479 = .ok (.aload_n 0, 1) := by decide +kernel
theorem d_L_law_480 : decode code 480 = .ok (.iload 4, 2) := by decide +kernel
theorem d_L_law_482 : decode code 482 = .ok (.iconst 2, 1) := by decide +kernel
theorem d_L_law_483 : decode code 483 = .ok (.iadd, 1) := by decide +kernel
theorem d_L_law_484 : decode code 484 = .ok (.iaload, 1) := by decide +kernel
theorem d_L_law_485 : decode code 485 = .ok (.aload_n 0, 1) := by decide +kernel
theorem d_L_law_486 : decode code 486 = .ok (.iload 4, 2) := by decide +kernel
theorem d_L_law_488 : decode code 488 = .ok (.iconst 3, 1) := by decide +kernel
theorem d_L_law_489 : decode code 489 = .ok (.iadd, 1) := by decide +kernel
theorem d_L_law_490 : decode code 490 = .ok (.iaload, 1) := by decide +kernel
theorem d_L_law_491 : decode code 491 = .ok (.aload_n 0, 1) := by decide +kernel
theorem d_L_law_492 : decode code 492 = .ok (.iload 4, 2) := by decide +kernel
theorem d_L_law_494 : decode code 494 = .ok (.iconst 4, 1) := by decide +kernel
theorem d_L_law_495 : decode code 495 = .ok (.iadd, 1) := by decide +kernel
theorem d_L_law_496 : decode code 496 = .ok (.iaload, 1) := by decide +kernel
theorem d_L_law_497 : decode code 497 = .ok (.aload_n 3, 1) := by decide +kernel
theorem d_L_law_498 : decode code 498 = .ok (.invokestatic 82, 3) := by decide +kernel
theorem d_L_law_501 : decode code 501 = .ok (.istore 5, 2) := by decide +kernel
theorem d_L_law_503 : decode code 503 = .ok (.aload_n 2, 1) := by decide +kernel
theorem d_L_law_504 : decode code 504 = .ok (.aload_n 0, 1) := by decide +kernel
theorem d_L_law_505 : decode code 505 = .ok (.iload 4, 2) := by decide +kernel
theorem d_L_law_507 : decode code 507 = .ok (.iconst 1, 1) := by decide +kernel
theorem d_L_law_508 : decode code 508 = .ok (.iadd, 1) := by decide +kernel
theorem d_L_law_509 : decode code 509 = .ok (.iaload, 1) := by decide +kernel
theorem d_L_law_510 : decode code 510 = .ok (.aload_n 0, 1) := by decide +kernel
theorem d_L_law_511 : decode code 511 = .ok (.iload 4, 2) := by decide +kernel
theorem d_L_law_513 : decode code 513 = .ok (.iconst 2, 1) := by decide +kernel
theorem d_L_law_514 : decode code 514 = .ok (.iadd, 1) := by decide +kernel
theorem d_L_law_515 : decode code 515 = .ok (.iaload, 1) := by decide +kernel
theorem d_L_law_516 : decode code 516 = .ok (.aload_n 0, 1) := by decide +kernel
theorem d_L_law_517 : decode code 517 = .ok (.iload 4, 2) := by decide +kernel
theorem d_L_law_519 : decode code 519 = .ok (.iconst 3, 1) := by decide +kernel
theorem d_L_law_520 : decode code 520 = .ok (.iadd, 1) := by decide +kernel
theorem d_L_law_521 : decode code 521 = .ok (.iaload, 1) := by decide +kernel
theorem d_L_law_522 : decode code 522 = .ok (.aload_n 0, 1) := by decide +kernel
theorem d_L_law_523 : decode code 523 = .ok (.iload 4, 2) := by decide +kernel
theorem d_L_law_525 : decode code 525 = .ok (.iconst 4, 1) := by decide +kernel
theorem d_L_law_526 : decode code 526 = .ok (.iadd, 1) := by decide +kernel
theorem d_L_law_527 : decode code 527 = .ok (.iaload, 1) := by decide +kernel
theorem d_L_law_528 : decode code 528 = .ok (.invokevirtual 84, 3) := by decide +kernel
theorem d_L_law_531 : decode code 531 = .ok (.istore 6, 2) := by decide +kernel
theorem d_L_law_533 : decode code 533 = .ok (.aload_n 2, 1) := by decide +kernel
theorem d_L_law_534 : decode code 534 = .ok (.invokevirtual 66, 3) := by decide +kernel
theorem d_L_law_537 : decode code 537 = .ok (.iload 5, 2) := by decide +kernel
theorem d_L_law_539 : decode code 539 = .ok (.if_icmp .eq 5, 3) := by decide +kernel
theorem d_L_law_544 : decode code 544 = .ok (.iload 5, 2) := by decide +kernel
theorem d_L_law_546 : decode code 546 = .ok (.ifCond .ne 15, 3) := by decide +kernel
theorem d_L_law_549 : decode code 549 = .ok (.aload_n 3, 1) := by decide +kernel
theorem d_L_law_550 : decode code 550 = .ok (.iconst 0, 1) := by decide +kernel
theorem d_L_law_551 : decode code 551 = .ok (.laload, 1) := by decide +kernel
theorem d_L_law_552 : decode code 552 = .ok (.iload 6, 2) := by decide +kernel
theorem d_L_law_554 : decode code 554 = .ok (.i2l, 1) := by decide +kernel
theorem d_L_law_555 : decode code 555 = .ok (.lcmp, 1) := by decide +kernel
theorem d_L_law_556 : decode code 556 = .ok (.ifCond .eq 5, 3) := by decide +kernel
theorem d_L_law_559 : decode code 559 = .ok (.iconst 0, 1) := by decide +kernel
theorem d_L_law_560 : decode code 560 = .ok (.ireturn, 1) := by decide +kernel
theorem d_L_law_542 : decode code 542 = .ok (.iconst 0, 1) := by decide +kernel
theorem d_L_law_543 : decode code 543 = .ok (.ireturn, 1) := by decide +kernel
theorem d_L_law_564 : decode code 564 = .ok (.aload_n 1, 1) := by decide +kernel
theorem d_L_law_565 : decode code 565 = .ok (.aload_n 0, 1) := by decide +kernel
theorem d_L_law_566 : decode code 566 = .ok (.iload 4, 2) := by decide +kernel
theorem d_L_law_568 : decode code 568 = .ok (.iconst 1, 1) := by decide +kernel
theorem d_L_law_569 : decode code 569 = .ok (.iadd, 1) := by decide +kernel
theorem d_L_law_570 : decode code 570 = .ok (.iaload, 1) := by decide +kernel
theorem d_L_law_571 : decode code 571 = .ok (.aload_n 0, 1) := by decide +kernel
theorem d_L_law_572 : decode code 572 = .ok (.iload 4, 2) := by decide +kernel
theorem d_L_law_574 : decode code 574 = .ok (.iconst 2, 1) := by decide +kernel
theorem d_L_law_575 : decode code 575 = .ok (.iadd, 1) := by decide +kernel
theorem d_L_law_576 : decode code 576 = .ok (.iaload, 1) := by decide +kernel
theorem d_L_law_577 : decode code 577 = .ok (.aload_n 0, 1) := by decide +kernel
theorem d_L_law_578 : decode code 578 = .ok (.iload 4, 2) := by decide +kernel
theorem d_L_law_580 : decode code 580 = .ok (.iconst 3, 1) := by decide +kernel
theorem d_L_law_581 : decode code 581 = .ok (.iadd, 1) := by decide +kernel
theorem d_L_law_582 : decode code 582 = .ok (.iaload, 1) := by decide +kernel
theorem d_L_law_583 : decode code 583 = .ok (.aload_n 0, 1) := by decide +kernel
theorem d_L_law_584 : decode code 584 = .ok (.iload 4, 2) := by decide +kernel
theorem d_L_law_586 : decode code 586 = .ok (.iconst 4, 1) := by decide +kernel
theorem d_L_law_587 : decode code 587 = .ok (.iadd, 1) := by decide +kernel
theorem d_L_law_588 : decode code 588 = .ok (.iaload, 1) := by decide +kernel
theorem d_L_law_589 : decode code 589 = .ok (.aload_n 0, 1) := by decide +kernel
theorem d_L_law_590 : decode code 590 = .ok (.iload 4, 2) := by decide +kernel
theorem d_L_law_592 : decode code 592 = .ok (.iconst 5, 1) := by decide +kernel
theorem d_L_law_593 : decode code 593 = .ok (.iadd, 1) := by decide +kernel
theorem d_L_law_594 : decode code 594 = .ok (.iaload, 1) := by decide +kernel
theorem d_L_law_595 : decode code 595 = .ok (.aload_n 3, 1) := by decide +kernel
theorem d_L_law_596 : decode code 596 = .ok (.invokestatic 85, 3) := by decide +kernel
theorem d_L_law_599 : decode code 599 = .ok (.istore 5, 2) := by decide +kernel
theorem d_L_law_601 : decode code 601 = .ok (.aload_n 2, 1) := by decide +kernel
theorem d_L_law_602 : decode code 602 = .ok (.aload_n 0, 1) := by decide +kernel
theorem d_L_law_603 : decode code 603 = .ok (.iload 4, 2) := by decide +kernel
theorem d_L_law_605 : decode code 605 = .ok (.iconst 1, 1) := by decide +kernel
theorem d_L_law_606 : decode code 606 = .ok (.iadd, 1) := by decide +kernel
theorem d_L_law_607 : decode code 607 = .ok (.iaload, 1) := by decide +kernel
theorem d_L_law_608 : decode code 608 = .ok (.aload_n 0, 1) := by decide +kernel
theorem d_L_law_609 : decode code 609 = .ok (.iload 4, 2) := by decide +kernel
theorem d_L_law_611 : decode code 611 = .ok (.iconst 2, 1) := by decide +kernel
theorem d_L_law_612 : decode code 612 = .ok (.iadd, 1) := by decide +kernel
theorem d_L_law_613 : decode code 613 = .ok (.iaload, 1) := by decide +kernel
theorem d_L_law_614 : decode code 614 = .ok (.aload_n 0, 1) := by decide +kernel
theorem d_L_law_615 : decode code 615 = .ok (.iload 4, 2) := by decide +kernel
theorem d_L_law_617 : decode code 617 = .ok (.iconst 3, 1) := by decide +kernel
theorem d_L_law_618 : decode code 618 = .ok (.iadd, 1) := by decide +kernel
theorem d_L_law_619 : decode code 619 = .ok (.iaload, 1) := by decide +kernel
theorem d_L_law_620 : decode code 620 = .ok (.aload_n 0, 1) := by decide +kernel
theorem d_L_law_621 : decode code 621 = .ok (.iload 4, 2) := by decide +kernel
theorem d_L_law_623 : decode code 623 = .ok (.iconst 4, 1) := by decide +kernel
theorem d_L_law_624 : decode code 624 = .ok (.iadd, 1) := by decide +kernel
theorem d_L_law_625 : decode code 625 = .ok (.iaload, 1) := by decide +kernel
theorem d_L_law_626 : decode code 626 = .ok (.aload_n 0, 1) := by decide +kernel
theorem d_L_law_627 : decode code 627 = .ok (.iload 4, 2) := by decide +kernel
theorem d_L_law_629 : decode code 629 = .ok (.iconst 5, 1) := by decide +kernel
theorem d_L_law_630 : decode code 630 = .ok (.iadd, 1) := by decide +kernel
theorem d_L_law_631 : decode code 631 = .ok (.iaload, 1) := by decide +kernel
theorem d_L_law_632 : decode code 632 = .ok (.invokevirtual 87, 3) := by decide +kernel
theorem d_L_law_635 : decode code 635 = .ok (.istore 6, 2) := by decide +kernel
theorem d_L_law_637 : decode code 637 = .ok (.aload_n 2, 1) := by decide +kernel
theorem d_L_law_638 : decode code 638 = .ok (.invokevirtual 66, 3) := by decide +kernel
theorem d_L_law_641 : decode code 641 = .ok (.iload 5, 2) := by decide +kernel
theorem d_L_law_643 : decode code 643 = .ok (.if_icmp .eq 5, 3) := by decide +kernel
theorem d_L_law_648 : decode code 648 = .ok (.iload 5, 2) := by decide +kernel
theorem d_L_law_650 : decode code 650 = .ok (.ifCond .ne 15, 3) := by decide +kernel
theorem d_L_law_653 : decode code 653 = .ok (.aload_n 3, 1) := by decide +kernel
theorem d_L_law_654 : decode code 654 = .ok (.iconst 0, 1) := by decide +kernel
theorem d_L_law_655 : decode code 655 = .ok (.laload, 1) := by decide +kernel
theorem d_L_law_656 : decode code 656 = .ok (.iload 6, 2) := by decide +kernel
theorem d_L_law_658 : decode code 658 = .ok (.i2l, 1) := by decide +kernel
theorem d_L_law_659 : decode code 659 = .ok (.lcmp, 1) := by decide +kernel
theorem d_L_law_660 : decode code 660 = .ok (.ifCond .eq 5, 3) := by decide +kernel
theorem d_L_law_663 : decode code 663 = .ok (.iconst 0, 1) := by decide +kernel
theorem d_L_law_664 : decode code 664 = .ok (.ireturn, 1) := by decide +kernel
theorem d_L_law_646 : decode code 646 = .ok (.iconst 0, 1) := by decide +kernel
theorem d_L_law_647 : decode code 647 = .ok (.ireturn, 1) := by decide +kernel
theorem d_L_law_668 : decode code 668 = .ok (.aload_n 1, 1) := by decide +kernel
theorem d_L_law_669 : decode code 669 = .ok (.aload_n 0, 1) := by decide +kernel
theorem d_L_law_670 : decode code 670 = .ok (.iload 4, 2) := by decide +kernel
theorem d_L_law_672 : decode code 672 = .ok (.iconst 1, 1) := by decide +kernel
theorem d_L_law_673 : decode code 673 = .ok (.iadd, 1) := by decide +kernel
theorem d_L_law_674 : decode code 674 = .ok (.iaload, 1) := by decide +kernel
theorem d_L_law_675 : decode code 675 = .ok (.aload_n 3, 1) := by decide +kernel
theorem d_L_law_676 : decode code 676 = .ok (.invokestatic 88, 3) := by decide +kernel
theorem d_L_law_679 : decode code 679 = .ok (.istore 5, 2) := by decide +kernel
theorem d_L_law_681 : decode code 681 = .ok (.aload_n 2, 1) := by decide +kernel
theorem d_L_law_682 : decode code 682 = .ok (.aload_n 0, 1) := by decide +kernel
theorem d_L_law_683 : decode code 683 = .ok (.iload 4, 2) := by decide +kernel
theorem d_L_law_685 : decode code 685 = .ok (.iconst 1, 1) := by decide +kernel
theorem d_L_law_686 : decode code 686 = .ok (.iadd, 1) := by decide +kernel
theorem d_L_law_687 : decode code 687 = .ok (.iaload, 1) := by decide +kernel
theorem d_L_law_688 : decode code 688 = .ok (.invokevirtual 91, 3) := by decide +kernel
theorem d_L_law_691 : decode code 691 = .ok (.istore 6, 2) := by decide +kernel
theorem d_L_law_693 : decode code 693 = .ok (.aload_n 2, 1) := by decide +kernel
theorem d_L_law_694 : decode code 694 = .ok (.invokevirtual 66, 3) := by decide +kernel
theorem d_L_law_697 : decode code 697 = .ok (.iload 5, 2) := by decide +kernel
theorem d_L_law_699 : decode code 699 = .ok (.if_icmp .eq 5, 3) := by decide +kernel
theorem d_L_law_704 : decode code 704 = .ok (.iload 5, 2) := by decide +kernel
theorem d_L_law_706 : decode code 706 = .ok (.ifCond .ne 15, 3) := by decide +kernel
theorem d_L_law_709 : decode code 709 = .ok (.aload_n 3, 1) := by decide +kernel
theorem d_L_law_710 : decode code 710 = .ok (.iconst 0, 1) := by decide +kernel
theorem d_L_law_711 : decode code 711 = .ok (.laload, 1) := by decide +kernel
theorem d_L_law_712 : decode code 712 = .ok (.iload 6, 2) := by decide +kernel
theorem d_L_law_714 : decode code 714 = .ok (.i2l, 1) := by decide +kernel
theorem d_L_law_715 : decode code 715 = .ok (.lcmp, 1) := by decide +kernel
theorem d_L_law_716 : decode code 716 = .ok (.ifCond .eq 5, 3) := by decide +kernel
theorem d_L_law_719 : decode code 719 = .ok (.iconst 0, 1) := by decide +kernel
theorem d_L_law_720 : decode code 720 = .ok (.ireturn, 1) := by decide +kernel
theorem d_L_law_702 : decode code 702 = .ok (.iconst 0, 1) := by decide +kernel
theorem d_L_law_703 : decode code 703 = .ok (.ireturn, 1) := by decide +kernel
theorem d_L_law_724 : decode code 724 = .ok (.aload_n 1, 1) := by decide +kernel
theorem d_L_law_725 : decode code 725 = .ok (.aload_n 0, 1) := by decide +kernel
theorem d_L_law_726 : decode code 726 = .ok (.iload 4, 2) := by decide +kernel
theorem d_L_law_728 : decode code 728 = .ok (.iconst 1, 1) := by decide +kernel
theorem d_L_law_729 : decode code 729 = .ok (.iadd, 1) := by decide +kernel
theorem d_L_law_730 : decode code 730 = .ok (.iaload, 1) := by decide +kernel
theorem d_L_law_731 : decode code 731 = .ok (.invokevirtual 92, 3) := by decide +kernel
theorem d_L_law_734 : decode code 734 = .ok (.aload_n 2, 1) := by decide +kernel
theorem d_L_law_735 : decode code 735 = .ok (.aload_n 0, 1) := by decide +kernel
theorem d_L_law_736 : decode code 736 = .ok (.iload 4, 2) := by decide +kernel
theorem d_L_law_738 : decode code 738 = .ok (.iconst 1, 1) := by decide +kernel
theorem d_L_law_739 : decode code 739 = .ok (.iadd, 1) := by decide +kernel
theorem d_L_law_740 : decode code 740 = .ok (.iaload, 1) := by decide +kernel
theorem d_L_law_741 : decode code 741 = .ok (.invokevirtual 95, 3) := by decide +kernel
theorem d_L_law_744 : decode code 744 = .ok (.if_icmp .eq 338, 3) := by decide +kernel
theorem d_L_law_747 : decode code 747 = .ok (.iconst 0, 1) := by decide +kernel
theorem d_L_law_748 : decode code 748 = .ok (.ireturn, 1) := by decide +kernel
theorem d_L_law_749 : decode code 749 = .ok (.aload_n 1, 1) := by decide +kernel
theorem d_L_law_750 : decode code 750 = .ok (.aload_n 0, 1) := by decide +kernel
theorem d_L_law_751 : decode code 751 = .ok (.iload 4, 2) := by decide +kernel
theorem d_L_law_753 : decode code 753 = .ok (.iconst 1, 1) := by decide +kernel
theorem d_L_law_754 : decode code 754 = .ok (.iadd, 1) := by decide +kernel
theorem d_L_law_755 : decode code 755 = .ok (.iaload, 1) := by decide +kernel
theorem d_L_law_756 : decode code 756 = .ok (.aload_n 0, 1) := by decide +kernel
theorem d_L_law_757 : decode code 757 = .ok (.iload 4, 2) := by decide +kernel
theorem d_L_law_759 : decode code 759 = .ok (.iconst 2, 1) := by decide +kernel
theorem d_L_law_760 : decode code 760 = .ok (.iadd, 1) := by decide +kernel
theorem d_L_law_761 : decode code 761 = .ok (.iaload, 1) := by decide +kernel
theorem d_L_law_762 : decode code 762 = .ok (.aload_n 0, 1) := by decide +kernel
theorem d_L_law_763 : decode code 763 = .ok (.iload 4, 2) := by decide +kernel
theorem d_L_law_765 : decode code 765 = .ok (.iconst 3, 1) := by decide +kernel
theorem d_L_law_766 : decode code 766 = .ok (.iadd, 1) := by decide +kernel
theorem d_L_law_767 : decode code 767 = .ok (.iaload, 1) := by decide +kernel
theorem d_L_law_768 : decode code 768 = .ok (.aload_n 3, 1) := by decide +kernel
theorem d_L_law_769 : decode code 769 = .ok (.invokestatic 96, 3) := by decide +kernel
theorem d_L_law_772 : decode code 772 = .ok (.istore 5, 2) := by decide +kernel
theorem d_L_law_774 : decode code 774 = .ok (.aload_n 2, 1) := by decide +kernel
theorem d_L_law_775 : decode code 775 = .ok (.aload_n 0, 1) := by decide +kernel
theorem d_L_law_776 : decode code 776 = .ok (.iload 4, 2) := by decide +kernel
theorem d_L_law_778 : decode code 778 = .ok (.iconst 1, 1) := by decide +kernel
theorem d_L_law_779 : decode code 779 = .ok (.iadd, 1) := by decide +kernel
theorem d_L_law_780 : decode code 780 = .ok (.iaload, 1) := by decide +kernel
theorem d_L_law_781 : decode code 781 = .ok (.aload_n 0, 1) := by decide +kernel
theorem d_L_law_782 : decode code 782 = .ok (.iload 4, 2) := by decide +kernel
theorem d_L_law_784 : decode code 784 = .ok (.iconst 2, 1) := by decide +kernel
theorem d_L_law_785 : decode code 785 = .ok (.iadd, 1) := by decide +kernel
theorem d_L_law_786 : decode code 786 = .ok (.iaload, 1) := by decide +kernel
theorem d_L_law_787 : decode code 787 = .ok (.aload_n 0, 1) := by decide +kernel
theorem d_L_law_788 : decode code 788 = .ok (.iload 4, 2) := by decide +kernel
theorem d_L_law_790 : decode code 790 = .ok (.iconst 3, 1) := by decide +kernel
theorem d_L_law_791 : decode code 791 = .ok (.iadd, 1) := by decide +kernel
theorem d_L_law_792 : decode code 792 = .ok (.iaload, 1) := by decide +kernel
theorem d_L_law_793 : decode code 793 = .ok (.invokevirtual 98, 3) := by decide +kernel
theorem d_L_law_796 : decode code 796 = .ok (.istore 6, 2) := by decide +kernel
theorem d_L_law_798 : decode code 798 = .ok (.aload_n 2, 1) := by decide +kernel
theorem d_L_law_799 : decode code 799 = .ok (.invokevirtual 66, 3) := by decide +kernel
theorem d_L_law_802 : decode code 802 = .ok (.iload 5, 2) := by decide +kernel
theorem d_L_law_804 : decode code 804 = .ok (.if_icmp .eq 5, 3) := by decide +kernel
theorem d_L_law_809 : decode code 809 = .ok (.iload 5, 2) := by decide +kernel
theorem d_L_law_811 : decode code 811 = .ok (.ifCond .ne 15, 3) := by decide +kernel
theorem d_L_law_814 : decode code 814 = .ok (.aload_n 3, 1) := by decide +kernel
theorem d_L_law_815 : decode code 815 = .ok (.iconst 0, 1) := by decide +kernel
theorem d_L_law_816 : decode code 816 = .ok (.laload, 1) := by decide +kernel
theorem d_L_law_817 : decode code 817 = .ok (.iload 6, 2) := by decide +kernel
theorem d_L_law_819 : decode code 819 = .ok (.i2l, 1) := by decide +kernel
theorem d_L_law_820 : decode code 820 = .ok (.lcmp, 1) := by decide +kernel
theorem d_L_law_821 : decode code 821 = .ok (.ifCond .eq 5, 3) := by decide +kernel
theorem d_L_law_824 : decode code 824 = .ok (.iconst 0, 1) := by decide +kernel
theorem d_L_law_825 : decode code 825 = .ok (.ireturn, 1) := by decide +kernel
theorem d_L_law_807 : decode code 807 = .ok (.iconst 0, 1) := by decide +kernel
theorem d_L_law_808 : decode code 808 = .ok (.ireturn, 1) := by decide +kernel
theorem d_L_law_829 : decode code 829 = .ok (.aload_n 1, 1) := by decide +kernel
theorem d_L_law_830 : decode code 830 = .ok (.aload_n 0, 1) := by decide +kernel
theorem d_L_law_831 : decode code 831 = .ok (.iload 4, 2) := by decide +kernel
theorem d_L_law_833 : decode code 833 = .ok (.iconst 1, 1) := by decide +kernel
theorem d_L_law_834 : decode code 834 = .ok (.iadd, 1) := by decide +kernel
theorem d_L_law_835 : decode code 835 = .ok (.iaload, 1) := by decide +kernel
theorem d_L_law_836 : decode code 836 = .ok (.aload_n 0, 1) := by decide +kernel
theorem d_L_law_837 : decode code 837 = .ok (.iload 4, 2) := by decide +kernel
theorem d_L_law_839 : decode code 839 = .ok (.iconst 2, 1) := by decide +kernel
theorem d_L_law_840 : decode code 840 = .ok (.iadd, 1) := by decide +kernel
theorem d_L_law_841 : decode code 841 = .ok (.iaload, 1) := by decide +kernel
theorem d_L_law_842 : decode code 842 = .ok (.aload_n 0, 1) := by decide +kernel
theorem d_L_law_843 : decode code 843 = .ok (.iload 4, 2) := by decide +kernel
theorem d_L_law_845 : decode code 845 = .ok (.iconst 3, 1) := by decide +kernel
theorem d_L_law_846 : decode code 846 = .ok (.iadd, 1) := by decide +kernel
theorem d_L_law_847 : decode code 847 = .ok (.iaload, 1) := by decide +kernel
theorem d_L_law_848 : decode code 848 = .ok (.aload_n 3, 1) := by decide +kernel
theorem d_L_law_849 : decode code 849 = .ok (.invokestatic 99, 3) := by decide +kernel
theorem d_L_law_852 : decode code 852 = .ok (.istore 5, 2) := by decide +kernel
theorem d_L_law_854 : decode code 854 = .ok (.aload_n 2, 1) := by decide +kernel
theorem d_L_law_855 : decode code 855 = .ok (.aload_n 0, 1) := by decide +kernel
theorem d_L_law_856 : decode code 856 = .ok (.iload 4, 2) := by decide +kernel
theorem d_L_law_858 : decode code 858 = .ok (.iconst 1, 1) := by decide +kernel
theorem d_L_law_859 : decode code 859 = .ok (.iadd, 1) := by decide +kernel
theorem d_L_law_860 : decode code 860 = .ok (.iaload, 1) := by decide +kernel
theorem d_L_law_861 : decode code 861 = .ok (.aload_n 0, 1) := by decide +kernel
theorem d_L_law_862 : decode code 862 = .ok (.iload 4, 2) := by decide +kernel
theorem d_L_law_864 : decode code 864 = .ok (.iconst 2, 1) := by decide +kernel
theorem d_L_law_865 : decode code 865 = .ok (.iadd, 1) := by decide +kernel
theorem d_L_law_866 : decode code 866 = .ok (.iaload, 1) := by decide +kernel
theorem d_L_law_867 : decode code 867 = .ok (.aload_n 0, 1) := by decide +kernel
theorem d_L_law_868 : decode code 868 = .ok (.iload 4, 2) := by decide +kernel
theorem d_L_law_870 : decode code 870 = .ok (.iconst 3, 1) := by decide +kernel
theorem d_L_law_871 : decode code 871 = .ok (.iadd, 1) := by decide +kernel
theorem d_L_law_872 : decode code 872 = .ok (.iaload, 1) := by decide +kernel
theorem d_L_law_873 : decode code 873 = .ok (.invokevirtual 101, 3) := by decide +kernel
theorem d_L_law_876 : decode code 876 = .ok (.istore 6, 2) := by decide +kernel
theorem d_L_law_878 : decode code 878 = .ok (.aload_n 2, 1) := by decide +kernel
theorem d_L_law_879 : decode code 879 = .ok (.invokevirtual 66, 3) := by decide +kernel
theorem d_L_law_882 : decode code 882 = .ok (.iload 5, 2) := by decide +kernel
theorem d_L_law_884 : decode code 884 = .ok (.if_icmp .eq 5, 3) := by decide +kernel
theorem d_L_law_889 : decode code 889 = .ok (.iload 5, 2) := by decide +kernel
theorem d_L_law_891 : decode code 891 = .ok (.ifCond .ne 15, 3) := by decide +kernel
theorem d_L_law_894 : decode code 894 = .ok (.aload_n 3, 1) := by decide +kernel
theorem d_L_law_895 : decode code 895 = .ok (.iconst 0, 1) := by decide +kernel
theorem d_L_law_896 : decode code 896 = .ok (.laload, 1) := by decide +kernel
theorem d_L_law_897 : decode code 897 = .ok (.iload 6, 2) := by decide +kernel
theorem d_L_law_899 : decode code 899 = .ok (.i2l, 1) := by decide +kernel
theorem d_L_law_900 : decode code 900 = .ok (.lcmp, 1) := by decide +kernel
theorem d_L_law_901 : decode code 901 = .ok (.ifCond .eq 5, 3) := by decide +kernel
theorem d_L_law_904 : decode code 904 = .ok (.iconst 0, 1) := by decide +kernel
theorem d_L_law_905 : decode code 905 = .ok (.ireturn, 1) := by decide +kernel
theorem d_L_law_887 : decode code 887 = .ok (.iconst 0, 1) := by decide +kernel
theorem d_L_law_888 : decode code 888 = .ok (.ireturn, 1) := by decide +kernel
theorem d_L_law_909 : decode code 909 = .ok (.aload_n 1, 1) := by decide +kernel
theorem d_L_law_910 : decode code 910 = .ok (.aload_n 0, 1) := by decide +kernel
theorem d_L_law_911 : decode code 911 = .ok (.iload 4, 2) := by decide +kernel
theorem d_L_law_913 : decode code 913 = .ok (.iconst 1, 1) := by decide +kernel
theorem d_L_law_914 : decode code 914 = .ok (.iadd, 1) := by decide +kernel
theorem d_L_law_915 : decode code 915 = .ok (.iaload, 1) := by decide +kernel
theorem d_L_law_916 : decode code 916 = .ok (.aload_n 0, 1) := by decide +kernel
theorem d_L_law_917 : decode code 917 = .ok (.iload 4, 2) := by decide +kernel
theorem d_L_law_919 : decode code 919 = .ok (.iconst 2, 1) := by decide +kernel
theorem d_L_law_920 : decode code 920 = .ok (.iadd, 1) := by decide +kernel
theorem d_L_law_921 : decode code 921 = .ok (.iaload, 1) := by decide +kernel
theorem d_L_law_922 : decode code 922 = .ok (.aload_n 0, 1) := by decide +kernel
theorem d_L_law_923 : decode code 923 = .ok (.iload 4, 2) := by decide +kernel
theorem d_L_law_925 : decode code 925 = .ok (.iconst 3, 1) := by decide +kernel
theorem d_L_law_926 : decode code 926 = .ok (.iadd, 1) := by decide +kernel
theorem d_L_law_927 : decode code 927 = .ok (.iaload, 1) := by decide +kernel
theorem d_L_law_928 : decode code 928 = .ok (.aload_n 3, 1) := by decide +kernel
theorem d_L_law_929 : decode code 929 = .ok (.invokestatic 102, 3) := by decide +kernel
theorem d_L_law_932 : decode code 932 = .ok (.istore 5, 2) := by decide +kernel
theorem d_L_law_934 : decode code 934 = .ok (.aload_n 2, 1) := by decide +kernel
theorem d_L_law_935 : decode code 935 = .ok (.aload_n 0, 1) := by decide +kernel
theorem d_L_law_936 : decode code 936 = .ok (.iload 4, 2) := by decide +kernel
theorem d_L_law_938 : decode code 938 = .ok (.iconst 1, 1) := by decide +kernel
theorem d_L_law_939 : decode code 939 = .ok (.iadd, 1) := by decide +kernel
theorem d_L_law_940 : decode code 940 = .ok (.iaload, 1) := by decide +kernel
theorem d_L_law_941 : decode code 941 = .ok (.aload_n 0, 1) := by decide +kernel
theorem d_L_law_942 : decode code 942 = .ok (.iload 4, 2) := by decide +kernel
theorem d_L_law_944 : decode code 944 = .ok (.iconst 2, 1) := by decide +kernel
theorem d_L_law_945 : decode code 945 = .ok (.iadd, 1) := by decide +kernel
theorem d_L_law_946 : decode code 946 = .ok (.iaload, 1) := by decide +kernel
theorem d_L_law_947 : decode code 947 = .ok (.aload_n 0, 1) := by decide +kernel
theorem d_L_law_948 : decode code 948 = .ok (.iload 4, 2) := by decide +kernel
theorem d_L_law_950 : decode code 950 = .ok (.iconst 3, 1) := by decide +kernel
theorem d_L_law_951 : decode code 951 = .ok (.iadd, 1) := by decide +kernel
theorem d_L_law_952 : decode code 952 = .ok (.iaload, 1) := by decide +kernel
theorem d_L_law_953 : decode code 953 = .ok (.invokevirtual 104, 3) := by decide +kernel
theorem d_L_law_956 : decode code 956 = .ok (.istore 6, 2) := by decide +kernel
theorem d_L_law_958 : decode code 958 = .ok (.aload_n 2, 1) := by decide +kernel
theorem d_L_law_959 : decode code 959 = .ok (.invokevirtual 66, 3) := by decide +kernel
theorem d_L_law_962 : decode code 962 = .ok (.iload 5, 2) := by decide +kernel
theorem d_L_law_964 : decode code 964 = .ok (.if_icmp .eq 5, 3) := by decide +kernel
theorem d_L_law_969 : decode code 969 = .ok (.iload 5, 2) := by decide +kernel
theorem d_L_law_971 : decode code 971 = .ok (.ifCond .ne 15, 3) := by decide +kernel
theorem d_L_law_974 : decode code 974 = .ok (.aload_n 3, 1) := by decide +kernel
theorem d_L_law_975 : decode code 975 = .ok (.iconst 0, 1) := by decide +kernel
theorem d_L_law_976 : decode code 976 = .ok (.laload, 1) := by decide +kernel
theorem d_L_law_977 : decode code 977 = .ok (.iload 6, 2) := by decide +kernel
theorem d_L_law_979 : decode code 979 = .ok (.i2l, 1) := by decide +kernel
theorem d_L_law_980 : decode code 980 = .ok (.lcmp, 1) := by decide +kernel
theorem d_L_law_981 : decode code 981 = .ok (.ifCond .eq 5, 3) := by decide +kernel
theorem d_L_law_984 : decode code 984 = .ok (.iconst 0, 1) := by decide +kernel
theorem d_L_law_985 : decode code 985 = .ok (.ireturn, 1) := by decide +kernel
theorem d_L_law_967 : decode code 967 = .ok (.iconst 0, 1) := by decide +kernel
theorem d_L_law_968 : decode code 968 = .ok (.ireturn, 1) := by decide +kernel
theorem d_L_law_989 : decode code 989 = .ok (.aload_n 1, 1) := by decide +kernel
theorem d_L_law_990 : decode code 990 = .ok (.aload_n 0, 1) := by decide +kernel
theorem d_L_law_991 : decode code 991 = .ok (.iload 4, 2) := by decide +kernel
theorem d_L_law_993 : decode code 993 = .ok (.iconst 1, 1) := by decide +kernel
theorem d_L_law_994 : decode code 994 = .ok (.iadd, 1) := by decide +kernel
theorem d_L_law_995 : decode code 995 = .ok (.iaload, 1) := by decide +kernel
theorem d_L_law_996 : decode code 996 = .ok (.aload_n 0, 1) := by decide +kernel
theorem d_L_law_997 : decode code 997 = .ok (.iload 4, 2) := by decide +kernel
theorem d_L_law_999 : decode code 999 = .ok (.iconst 2, 1) := by decide +kernel
theorem d_L_law_1000 : decode code 1000 = .ok (.iadd, 1) := by decide +kernel
theorem d_L_law_1001 : decode code 1001 = .ok (.iaload, 1) := by decide +kernel
theorem d_L_law_1002 : decode code 1002 = .ok (.aload_n 3, 1) := by decide +kernel
theorem d_L_law_1003 : decode code 1003 = .ok (.invokestatic 105, 3) := by decide +kernel
theorem d_L_law_1006 : decode code 1006 = .ok (.istore 5, 2) := by decide +kernel
theorem d_L_law_1008 : decode code 1008 = .ok (.aload_n 2, 1) := by decide +kernel
theorem d_L_law_1009 : decode code 1009 = .ok (.aload_n 0, 1) := by decide +kernel
theorem d_L_law_1010 : decode code 1010 = .ok (.iload 4, 2) := by decide +kernel
theorem d_L_law_1012 : decode code 1012 = .ok (.iconst 1, 1) := by decide +kernel
theorem d_L_law_1013 : decode code 1013 = .ok (.iadd, 1) := by decide +kernel
theorem d_L_law_1014 : decode code 1014 = .ok (.iaload, 1) := by decide +kernel
theorem d_L_law_1015 : decode code 1015 = .ok (.aload_n 0, 1) := by decide +kernel
theorem d_L_law_1016 : decode code 1016 = .ok (.iload 4, 2) := by decide +kernel
theorem d_L_law_1018 : decode code 1018 = .ok (.iconst 2, 1) := by decide +kernel
theorem d_L_law_1019 : decode code 1019 = .ok (.iadd, 1) := by decide +kernel
theorem d_L_law_1020 : decode code 1020 = .ok (.iaload, 1) := by decide +kernel
theorem d_L_law_1021 : decode code 1021 = .ok (.invokevirtual 108, 3) := by decide +kernel
theorem d_L_law_1024 : decode code 1024 = .ok (.istore 6, 2) := by decide +kernel
theorem d_L_law_1026 : decode code 1026 = .ok (.aload_n 2, 1) := by decide +kernel
theorem d_L_law_1027 : decode code 1027 = .ok (.invokevirtual 66, 3) := by decide +kernel
theorem d_L_law_1030 : decode code 1030 = .ok (.iload 5, 2) := by decide +kernel
theorem d_L_law_1032 : decode code 1032 = .ok (.if_icmp .eq 5, 3) := by decide +kernel
theorem d_L_law_1037 : decode code 1037 = .ok (.iload 5, 2) := by decide +kernel
theorem d_L_law_1039 : decode code 1039 = .ok (.ifCond .ne 15, 3) := by decide +kernel
theorem d_L_law_1042 : decode code 1042 = .ok (.aload_n 3, 1) := by decide +kernel
theorem d_L_law_1043 : decode code 1043 = .ok (.iconst 0, 1) := by decide +kernel
theorem d_L_law_1044 : decode code 1044 = .ok (.laload, 1) := by decide +kernel
theorem d_L_law_1045 : decode code 1045 = .ok (.iload 6, 2) := by decide +kernel
theorem d_L_law_1047 : decode code 1047 = .ok (.i2l, 1) := by decide +kernel
theorem d_L_law_1048 : decode code 1048 = .ok (.lcmp, 1) := by decide +kernel
theorem d_L_law_1049 : decode code 1049 = .ok (.ifCond .eq 5, 3) := by decide +kernel
theorem d_L_law_1052 : decode code 1052 = .ok (.iconst 0, 1) := by decide +kernel
theorem d_L_law_1053 : decode code 1053 = .ok (.ireturn, 1) := by decide +kernel
theorem d_L_law_1035 : decode code 1035 = .ok (.iconst 0, 1) := by decide +kernel
theorem d_L_law_1036 : decode code 1036 = .ok (.ireturn, 1) := by decide +kernel
theorem d_L_law_1057 : decode code 1057 = .ok (.aload_n 1, 1) := by decide +kernel
theorem d_L_law_1058 : decode code 1058 = .ok (.aload_n 0, 1) := by decide +kernel
theorem d_L_law_1059 : decode code 1059 = .ok (.iload 4, 2) := by decide +kernel
theorem d_L_law_1061 : decode code 1061 = .ok (.iconst 1, 1) := by decide +kernel
theorem d_L_law_1062 : decode code 1062 = .ok (.iadd, 1) := by decide +kernel
theorem d_L_law_1063 : decode code 1063 = .ok (.iaload, 1) := by decide +kernel
theorem d_L_law_1064 : decode code 1064 = .ok (.invokevirtual 109, 3) := by decide +kernel
theorem d_L_law_1067 : decode code 1067 = .ok (.aload_n 2, 1) := by decide +kernel
theorem d_L_law_1068 : decode code 1068 = .ok (.aload_n 0, 1) := by decide +kernel
theorem d_L_law_1069 : decode code 1069 = .ok (.iload 4, 2) := by decide +kernel
theorem d_L_law_1071 : decode code 1071 = .ok (.iconst 1, 1) := by decide +kernel
theorem d_L_law_1072 : decode code 1072 = .ok (.iadd, 1) := by decide +kernel
theorem d_L_law_1073 : decode code 1073 = .ok (.iaload, 1) := by decide +kernel
theorem d_L_law_1074 : decode code 1074 = .ok (.invokevirtual 112, 3) := by decide +kernel
theorem d_L_law_1077 : decode code 1077 = .ok (.if_icmp .eq 5, 3) := by decide +kernel
theorem d_L_law_1080 : decode code 1080 = .ok (.iconst 0, 1) := by decide +kernel
theorem d_L_law_1081 : decode code 1081 = .ok (.ireturn, 1) := by decide +kernel
theorem d_L_law_193 : decode code 193 = .ok (.goto 889, 3) := by decide +kernel
theorem d_L_law_297 : decode code 297 = .ok (.goto 785, 3) := by decide +kernel
theorem d_L_law_389 : decode code 389 = .ok (.goto 693, 3) := by decide +kernel
theorem d_L_law_469 : decode code 469 = .ok (.goto 613, 3) := by decide +kernel
theorem d_L_law_561 : decode code 561 = .ok (.goto 521, 3) := by decide +kernel
theorem d_L_law_665 : decode code 665 = .ok (.goto 417, 3) := by decide +kernel
theorem d_L_law_721 : decode code 721 = .ok (.goto 361, 3) := by decide +kernel
theorem d_L_law_1082 : decode code 1082 = .ok (.iinc 4 6, 3) := by decide +kernel
theorem d_L_law_1085 : decode code 1085 = .ok (.goto (-1062), 3) := by decide +kernel
theorem d_L_law_826 : decode code 826 = .ok (.goto 256, 3) := by decide +kernel
theorem d_L_law_906 : decode code 906 = .ok (.goto 176, 3) := by decide +kernel
theorem d_L_law_986 : decode code 986 = .ok (.goto 96, 3) := by decide +kernel
theorem d_L_law_1054 : decode code 1054 = .ok (.goto 28, 3) := by decide +kernel
