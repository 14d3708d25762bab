/-! the law: its body decoded; what the tables give at its entry -/
theorem d_La_0 : decode code 0 = .ok (.new 7, 3) := by decide +kernel
theorem d_La_3 : decode code 3 = .ok (.dup, 1) := by decide +kernel
theorem d_La_4 : decode code 4 = .ok (.invokespecial 9, 3) := by decide +kernel
theorem d_La_7 : decode code 7 = .ok (.astore_n 1, 1) := by decide +kernel
theorem d_La_8 : decode code 8 = .ok (.new 10, 3) := by decide +kernel
theorem d_La_11 : decode code 11 = .ok (.dup, 1) := by decide +kernel
theorem d_La_12 : decode code 12 = .ok (.invokespecial 12, 3) := by decide +kernel
theorem d_La_15 : decode code 15 = .ok (.astore_n 2, 1) := by decide +kernel
theorem d_La_16 : decode code 16 = .ok (.iconst 0, 1) := by decide +kernel
theorem d_La_17 : decode code 17 = .ok (.istore_n 3, 1) := by decide +kernel
theorem d_La_18 : decode code 18 = .ok (.iload_n 3, 1) := by decide +kernel
theorem d_La_19 : decode code 19 = .ok (.aload_n 0, 1) := by decide +kernel
theorem d_La_20 : decode code 20 = .ok (.arraylength, 1) := by decide +kernel
theorem d_La_21 : decode code 21 = .ok (.iconst 4, 1) := by decide +kernel
theorem d_La_22 : decode code 22 = .ok (.isub, 1) := by decide +kernel
theorem d_La_23 : decode code 23 = .ok (.if_icmp .gt 815, 3) := by decide +kernel
theorem d_La_26 : decode code 26 = .ok (.aload_n 0, 1) := by decide +kernel
theorem d_La_27 : decode code 27 = .ok (.iload_n 3, 1) := by decide +kernel
theorem d_La_28 : decode code 28 = .ok (.iaload, 1) := by decide +kernel
theorem d_La_29 : decode code 29 = .ok (.bipush 31, 2) := by decide +kernel
theorem d_La_31 : decode code 31 = .ok (.iand, 1) := by decide +kernel
theorem d_La_32 : decode code 32 = .ok (.tableswitch 800 0 28 #[132, 155, 168, 181, 194, 217, 230, 253, 296, 339, 372, 405, 418, 451, 474, 507, 520, 553, 576, 589, 602, 615, 628, 661, 694, 717, 740, 763, 786], 132) := by decide +kernel
theorem d_La_164 : decode code 164 = .ok (.aload_n 1, 1) := by decide +kernel
theorem d_La_165 : decode code 165 = .ok (.aload_n 0, 1) := by decide +kernel
theorem d_La_166 : decode code 166 = .ok (.iload_n 3, 1) := by decide +kernel
theorem d_La_167 : decode code 167 = .ok (.iconst 1, 1) := by decide +kernel
theorem d_La_168 : decode code 168 = .ok (.iadd, 1) := by decide +kernel
theorem d_La_169 : decode code 169 = .ok (.iaload, 1) := by decide +kernel
theorem d_La_170 : decode code 170 = .ok (.invokevirtual 13, 3) := by decide +kernel
theorem d_La_173 : decode code 173 = .ok (.aload_n 2, 1) := by decide +kernel
theorem d_La_174 : decode code 174 = .ok (.aload_n 0, 1) := by decide +kernel
theorem d_La_175 : decode code 175 = .ok (.iload_n 3, 1) := by decide +kernel
theorem d_La_176 : decode code 176 = .ok (.iconst 1, 1) := by decide +kernel
theorem d_La_177 : decode code 177 = .ok (.iadd, 1) := by decide +kernel
theorem d_La_178 : decode code 178 = .ok (.iaload, 1) := by decide +kernel
theorem d_La_179 : decode code 179 = .ok (.invokevirtual 17, 3) := by decide +kernel
theorem d_La_182 : decode code 182 = .ok (.if_icmp .eq 650, 3) := by decide +kernel
theorem d_La_185 : decode code 185 = .ok (.iconst 0, 1) := by decide +kernel
theorem d_La_186 : decode code 186 = .ok (.ireturn, 1) := by decide +kernel
theorem d_La_187 : decode code 187 = .ok (.aload_n 1, 1) := by decide +kernel
theorem d_La_188 : decode code 188 = .ok (.invokevirtual 18, 3) := by decide +kernel
theorem d_La_191 : decode code 191 = .ok (.aload_n 2, 1) := by decide +kernel
theorem d_La_192 : decode code 192 = .ok (.invokevirtual 22, 3) := by decide +kernel
theorem d_La_195 : decode code 195 = .ok (.if_icmp .eq 637, 3) := by decide +kernel
theorem d_La_198 : decode code 198 = .ok (.iconst 0, 1) := by decide +kernel
theorem d_La_199 : decode code 199 = .ok (.ireturn, 1) := by decide +kernel
theorem d_La_200 : decode code 200 = .ok (.aload_n 1, 1) := by decide +kernel
theorem d_La_201 : decode code 201 = .ok (.invokevirtual 23, 3) := by decide +kernel
theorem d_La_204 : decode code 204 = .ok (.aload_n 2, 1) := by decide +kernel
theorem d_La_205 : decode code 205 = .ok (.invokevirtual 26, 3) := by decide +kernel
theorem d_La_208 : decode code 208 = .ok (.if_icmp .eq 624, 3) := by decide +kernel
theorem d_La_211 : decode code 211 = .ok (.iconst 0, 1) := by decide +kernel
theorem d_La_212 : decode code 212 = .ok (.ireturn, 1) := by decide +kernel
theorem d_La_213 : decode code 213 = .ok (.aload_n 1, 1) := by decide +kernel
theorem d_La_214 : decode code 214 = .ok (.invokevirtual 27, 3) := by decide +kernel
theorem d_La_217 : decode code 217 = .ok (.aload_n 2, 1) := by decide +kernel
theorem d_La_218 : decode code 218 = .ok (.invokevirtual 30, 3) := by decide +kernel
theorem d_La_221 : decode code 221 = .ok (.if_icmp .eq 611, 3) := by decide +kernel
theorem d_La_224 : decode code 224 = .ok (.iconst 0, 1) := by decide +kernel
theorem d_La_225 : decode code 225 = .ok (.ireturn, 1) := by decide +kernel
theorem d_La_226 : decode code 226 = .ok (.aload_n 1, 1) := by decide +kernel
theorem d_La_227 : decode code 227 = .ok (.aload_n 0, 1) := by decide +kernel
theorem d_La_228 : decode code 228 = .ok (.iload_n 3, 1) := by decide +kernel
theorem d_La_229 : decode code 229 = .ok (.iconst 1, 1) := by decide +kernel
theorem d_La_230 : decode code 230 = .ok (.iadd, 1) := by decide +kernel
theorem d_La_231 : decode code 231 = .ok (.iaload, 1) := by decide +kernel
theorem d_La_232 : decode code 232 = .ok (.invokevirtual 31, 3) := by decide +kernel
theorem d_La_235 : decode code 235 = .ok (.aload_n 2, 1) := by decide +kernel
theorem d_La_236 : decode code 236 = .ok (.aload_n 0, 1) := by decide +kernel
theorem d_La_237 : decode code 237 = .ok (.iload_n 3, 1) := by decide +kernel
theorem d_La_238 : decode code 238 = .ok (.iconst 1, 1) := by decide +kernel
theorem d_La_239 : decode code 239 = .ok (.iadd, 1) := by decide +kernel
theorem d_La_240 : decode code 240 = .ok (.iaload, 1) := by decide +kernel
theorem d_La_241 : decode code 241 = .ok (.invokevirtual 34, 3) := by decide +kernel
theorem d_La_244 : decode code 244 = .ok (.if_icmp .eq 588, 3) := by decide +kernel
theorem d_La_247 : decode code 247 = .ok (.iconst 0, 1) := by decide +kernel
theorem d_La_248 : decode code 248 = .ok (.ireturn, 1) := by decide +kernel
theorem d_La_249 : decode code 249 = .ok (.aload_n 1, 1) := by decide +kernel
theorem d_La_250 : decode code 250 = .ok (.invokevirtual 35, 3) := by decide +kernel
theorem d_La_253 : decode code 253 = .ok (.aload_n 2, 1) := by decide +kernel
theorem d_La_254 : decode code 254 = .ok (.invokevirtual 38, 3) := by decide +kernel
theorem d_La_257 : decode code 257 = .ok (.if_icmp .eq 575, 3) := by decide +kernel
theorem d_La_260 : decode code 260 = .ok (.iconst 0, 1) := by decide +kernel
theorem d_La_261 : decode code 261 = .ok (.ireturn, 1) := by decide +kernel
theorem d_La_262 : decode code 262 = .ok (.aload_n 1, 1) := by decide +kernel
theorem d_La_263 : decode code 263 = .ok (.aload_n 0, 1) := by decide +kernel
theorem d_La_264 : decode code 264 = .ok (.iload_n 3, 1) := by decide +kernel
theorem d_La_265 : decode code 265 = .ok (.iconst 1, 1) := by decide +kernel
theorem d_La_266 : decode code 266 = .ok (.iadd, 1) := by decide +kernel
theorem d_La_267 : decode code 267 = .ok (.iaload, 1) := by decide +kernel
theorem d_La_268 : decode code 268 = .ok (.invokevirtual 39, 3) := by decide +kernel
theorem d_La_271 : decode code 271 = .ok (.aload_n 2, 1) := by decide +kernel
theorem d_La_272 : decode code 272 = .ok (.aload_n 0, 1) := by decide +kernel
theorem d_La_273 : decode code 273 = .ok (.iload_n 3, 1) := by decide +kernel
theorem d_La_274 : decode code 274 = .ok (.iconst 1, 1) := by decide +kernel
theorem d_La_275 : decode code 275 = .ok (.iadd, 1) := by decide +kernel
theorem d_La_276 : decode code 276 = .ok (.iaload, 1) := by decide +kernel
theorem d_La_277 : decode code 277 = .ok (.invokevirtual 42, 3) := by decide +kernel
theorem d_La_280 : decode code 280 = .ok (.if_icmp .eq 552, 3) := by decide +kernel
theorem d_La_283 : decode code 283 = .ok (.iconst 0, 1) := by decide +kernel
theorem d_La_284 : decode code 284 = .ok (.ireturn, 1) := by decide +kernel
theorem d_La_285 : decode code 285 = .ok (.aload_n 1, 1) := by decide +kernel
theorem d_La_286 : decode code 286 = .ok (.aload_n 0, 1) := by decide +kernel
theorem d_La_287 : decode code 287 = .ok (.iload_n 3, 1) := by decide +kernel
theorem d_La_288 : decode code 288 = .ok (.iconst 1, 1) := by decide +kernel
theorem d_La_289 : decode code 289 = .ok (.iadd, 1) := by decide +kernel
theorem d_La_290 : decode code 290 = .ok (.iaload, 1) := by decide +kernel
theorem d_La_291 : decode code 291 = .ok (.aload_n 0, 1) := by decide +kernel
theorem d_La_292 : decode code 292 = .ok (.iload_n 3, 1) := by decide +kernel
theorem d_La_293 : decode code 293 = .ok (.iconst 2, 1) := by decide +kernel
theorem d_La_294 : decode code 294 = .ok (.iadd, 1) := by decide +kernel
theorem d_La_295 : decode code 295 = .ok (.iaload, 1) := by decide +kernel
theorem d_La_296 : decode code 296 = .ok (.aload_n 0, 1) := by decide +kernel
theorem d_La_297 : decode code 297 = .ok (.iload_n 3, 1) := by decide +kernel
theorem d_La_298 : decode code 298 = .ok (.iconst 3, 1) := by decide +kernel
theorem d_La_299 : decode code 299 = .ok (.iadd, 1) := by decide +kernel
theorem d_La_300 : decode code 300 = .ok (.iaload, 1) := by decide +kernel
theorem d_La_301 : decode code 301 = .ok (.invokevirtual 43, 3) := by decide +kernel
theorem d_La_304 : decode code 304 = .ok (.aload_n 2, 1) := by decide +kernel
theorem d_La_305 : decode code 305 = .ok (.aload_n 0, 1) := by decide +kernel
theorem d_La_306 : decode code 306 = .ok (.iload_n 3, 1) := by decide +kernel
theorem d_La_307 : decode code 307 = .ok (.iconst 1, 1) := by decide +kernel
theorem d_La_308 : decode code 308 = .ok (.iadd, 1) := by decide +kernel
theorem d_La_309 : decode code 309 = .ok (.iaload, 1) := by decide +kernel
theorem d_La_310 : decode code 310 = .ok (.aload_n 0, 1) := by decide +kernel
theorem d_La_311 : decode code 311 = .ok (.iload_n 3, 1) := by decide +kernel
theorem d_La_312 : decode code 312 = .ok (.iconst 2, 1) := by decide +kernel
theorem d_La_313 : decode code 313 = .ok (.iadd, 1) := by decide +kernel
theorem d_La_314 : decode code 314 = .ok (.iaload, 1) := by decide +kernel
theorem d_La_315 : decode code 315 = .ok (.aload_n 0, 1) := by decide +kernel
theorem d_La_316 : decode code 316 = .ok (.iload_n 3, 1) := by decide +kernel
theorem d_La_317 : decode code 317 = .ok (.iconst 3, 1) := by decide +kernel
theorem d_La_318 : decode code 318 = .ok (.iadd, 1) := by decide +kernel
theorem d_La_319 : decode code 319 = .ok (.iaload, 1) := by decide +kernel
theorem d_La_320 : decode code 320 = .ok (.invokevirtual 47, 3) := by decide +kernel
theorem d_La_323 : decode code 323 = .ok (.if_icmp .eq 509, 3) := by decide +kernel
theorem d_La_326 : decode code 326 = .ok (.iconst 0, 1) := by decide +kernel
theorem d_La_327 : decode code 327 = .ok (.ireturn, 1) := by decide +kernel
theorem d_La_328 : decode code 328 = .ok (.aload_n 1, 1) := by decide +kernel
theorem d_La_329 : decode code 329 = .ok (.aload_n 0, 1) := by decide +kernel
theorem d_La_330 : decode code 330 = .ok (.iload_n 3, 1) := by decide +kernel
theorem d_La_331 : decode code 331 = .ok (.iconst 1, 1) := by decide +kernel
theorem d_La_332 : decode code 332 = .ok (.iadd, 1) := by decide +kernel
theorem d_La_333 : decode code 333 = .ok (.iaload, 1) := by decide +kernel
theorem d_La_334 : decode code 334 = .ok (.aload_n 0, 1) := by decide +kernel
theorem d_La_335 : decode code 335 = .ok (.iload_n 3, 1) := by decide +kernel
theorem d_La_336 : decode code 336 = .ok (.iconst 2, 1) := by decide +kernel
theorem d_La_337 : decode code 337 = .ok (.iadd, 1) := by decide +kernel
theorem d_La_338 : decode code 338 = .ok (.iaload, 1) := by decide +kernel
theorem d_La_339 : decode code 339 = .ok (.aload_n 0, 1) := by decide +kernel
theorem d_La_340 : decode code 340 = .ok (.iload_n 3, 1) := by decide +kernel
theorem d_La_341 : decode code 341 = .ok (.iconst 3, 1) := by decide +kernel
theorem d_La_342 : decode code 342 = .ok (.iadd, 1) := by decide +kernel
theorem d_La_343 : decode code 343 = .ok (.iaload, 1) := by decide +kernel
theorem d_La_344 : decode code 344 = .ok (.invokevirtual 48, 3) := by decide +kernel
theorem d_La_347 : decode code 347 = .ok (.aload_n 2, 1) := by decide +kernel
theorem d_La_348 : decode code 348 = .ok (.aload_n 0, 1) := by decide +kernel
theorem d_La_349 : decode code 349 = .ok (.iload_n 3, 1) := by decide +kernel
theorem d_La_350 : decode code 350 = .ok (.iconst 1, 1) := by decide +kernel
theorem d_La_351 : decode code 351 = .ok (.iadd, 1) := by decide +kernel
theorem d_La_352 : decode code 352 = .ok (.iaload, 1) := by decide +kernel
theorem d_La_353 : decode code 353 = .ok (.aload_n 0, 1) := by decide +kernel
theorem d_La_354 : decode code 354 = .ok (.iload_n 3, 1) := by decide +kernel
theorem d_La_355 : decode code 355 = .ok (.iconst 2, 1) := by decide +kernel
theorem d_La_356 : decode code 356 = .ok (.iadd, 1) := by decide +kernel
theorem d_La_357 : decode code 357 = .ok (.iaload, 1) := by decide +kernel
theorem d_La_358 : decode code 358 = .ok (.aload_n 0, 1) := by decide +kernel
theorem d_La_359 : decode code 359 = .ok (.iload_n 3, 1) := by decide +kernel
theorem d_La_360 : decode code 360 = .ok (.iconst 3, 1) := by decide +kernel
theorem d_La_361 : decode code 361 = .ok (.iadd, 1) := by decide +kernel
theorem d_La_362 : decode code 362 = .ok (.iaload, 1) := by decide +kernel
theorem d_La_363 : decode code 363 = .ok (.invokevirtual 51, 3) := by decide +kernel
theorem d_La_366 : decode code 366 = .ok (.if_icmp .eq 466, 3) := by decide +kernel
theorem d_La_369 : decode code 369 = .ok (.iconst 0, 1) := by decide +kernel
theorem d_La_370 : decode code 370 = .ok (.ireturn, 1) := by decide +kernel
theorem d_La_371 : decode code 371 = .ok (.aload_n 1, 1) := by decide +kernel
theorem d_La_372 : decode code 372 = .ok (.aload_n 0, 1) := by decide +kernel
theorem d_La_373 : decode code 373 = .ok (.iload_n 3, 1) := by decide +kernel
theorem d_La_374 : decode code 374 = .ok (.iconst 1, 1) := by decide +kernel
theorem d_La_375 : decode code 375 = .ok (.iadd, 1) := by decide +kernel
theorem d_La_376 : decode code 376 = .ok (.iaload, 1) := by decide +kernel
theorem d_La_377 : decode code 377 = .ok (.aload_n 0, 1) := by decide +kernel
theorem d_La_378 : decode code 378 = .ok (.iload_n 3, 1) := by decide +kernel
theorem d_La_379 : decode code 379 = .ok (.iconst 2, 1) := by decide +kernel
theorem d_La_380 : decode code 380 = .ok (.iadd, 1) := by decide +kernel
theorem d_La_381 : decode code 381 = .ok (.iaload, 1) := by decide +kernel
theorem d_La_382 : decode code 382 = .ok (.invokevirtual 52, 3) := by decide +kernel
theorem d_La_385 : decode code 385 = .ok (.aload_n 2, 1) := by decide +kernel
theorem d_La_386 : decode code 386 = .ok (.aload_n 0, 1) := by decide +kernel
theorem d_La_387 : decode code 387 = .ok (.iload_n 3, 1) := by decide +kernel
theorem d_La_388 : decode code 388 = .ok (.iconst 1, 1) := by decide +kernel
theorem d_La_389 : decode code 389 = .ok (.iadd, 1) := by decide +kernel
theorem d_La_390 : decode code 390 = .ok (.iaload, 1) := by decide +kernel
theorem d_La_391 : decode code 391 = .ok (.aload_n 0, 1) := by decide +kernel
theorem d_La_392 : decode code 392 = .ok (.iload_n 3, 1) := by decide +kernel
theorem d_La_393 : decode code 393 = .ok (.iconst 2, 1) := by decide +kernel
theorem d_La_394 : decode code 394 = .ok (.iadd, 1) := by decide +kernel
theorem d_La_395 : decode code 395 = .ok (.iaload, 1) := by decide +kernel
theorem d_La_396 : decode code 396 = .ok (.invokevirtual 56, 3) := by decide +kernel
theorem d_La_399 : decode code 399 = .ok (.if_icmp .eq 433, 3) := by decide +kernel
theorem d_La_402 : decode code 402 = .ok (.iconst 0, 1) := by decide +kernel
theorem d_La_403 : decode code 403 = .ok (.ireturn, 1) := by decide +kernel
theorem d_La_404 : decode code 404 = .ok (.aload_n 1, 1) := by decide +kernel
theorem d_La_405 : decode code 405 = .ok (.aload_n 0, 1) := by decide +kernel
theorem d_La_406 : decode code 406 = .ok (.iload_n 3, 1) := by decide +kernel
theorem d_La_407 : decode code 407 = .ok (.iconst 1, 1) := by decide +kernel
theorem d_La_408 : decode code 408 = .ok (.iadd, 1) := by decide +kernel
theorem d_La_409 : decode code 409 = .ok (.iaload, 1) := by decide +kernel
theorem d_La_410 : decode code 410 = .ok (.aload_n 0, 1) := by decide +kernel
theorem d_La_411 : decode code 411 = .ok (.iload_n 3, 1) := by decide +kernel
theorem d_La_412 : decode code 412 = .ok (.iconst 2, 1) := by decide +kernel
theorem d_La_413 : decode code 413 = .ok (.iadd, 1) := by decide +kernel
theorem d_La_414 : decode code 414 = .ok (.iaload, 1) := by decide +kernel
theorem d_La_415 : decode code 415 = .ok (.invokevirtual 57, 3) := by decide +kernel
theorem d_La_418 : decode code 418 = .ok (.aload_n 2, 1) := by decide +kernel
theorem d_La_419 : decode code 419 = .ok (.aload_n 0, 1) := by decide +kernel
theorem d_La_420 : decode code 420 = .ok (.iload_n 3, 1) := by decide +kernel
theorem d_La_421 : decode code 421 = .ok (.iconst 1, 1) := by decide +kernel
theorem d_La_422 : decode code 422 = .ok (.iadd, 1) := by decide +kernel
theorem d_La_423 : decode code 423 = .ok (.iaload, 1) := by decide +kernel
theorem d_La_424 : decode code 424 = .ok (.aload_n 0, 1) := by decide +kernel
theorem d_La_425 : decode code 425 = .ok (.iload_n 3, 1) := by decide +kernel
theorem d_La_426 : decode code 426 = .ok (.iconst 2, 1) := by decide +kernel
theorem d_La_427 : decode code 427 = .ok (.iadd, 1) := by decide +kernel
theorem d_La_428 : decode code 428 = .ok (.iaload, 1) := by decide +kernel
theorem d_La_429 : decode code 429 = .ok (.invokevirtual 60, 3) := by decide +kernel
theorem d_La_432 : decode code 432 = .ok (.if_icmp .eq 400, 3) := by decide +kernel
theorem d_La_435 : decode code 435 = .ok (.iconst 0, 1) := by decide +kernel
theorem d_La_436 : decode code 436 = .ok (.ireturn, 1) := by decide +kernel
theorem d_La_437 : decode code 437 = .ok (.aload_n 1, 1) := by decide +kernel
theorem d_La_438 : decode code 438 = .ok (.invokevirtual 61, 3) := by decide +kernel
theorem d_La_441 : decode code 441 = .ok (.aload_n 2, 1) := by decide +kernel
theorem d_La_442 : decode code 442 = .ok (.invokevirtual 64, 3) := by decide +kernel
theorem d_La_445 : decode code 445 = .ok (.if_icmp .eq 387, 3) := by decide +kernel
theorem d_La_448 : decode code 448 = .ok (.iconst 0, 1) := by decide +kernel
theorem d_La_449 : decode code 449 = .ok (.ireturn, 1) := by decide +kernel
theorem d_La_450 : decode code 450 = .ok (.aload_n 1, 1) := by decide +kernel
theorem d_La_451 : decode code 451 = .ok (.aload_n 0, 1) := by decide +kernel
theorem d_La_452 : decode code 452 = .ok (.iload_n 3, 1) := by decide +kernel
theorem d_La_453 : decode code 453 = .ok (.iconst 1, 1) := by decide +kernel
theorem d_La_454 : decode code 454 = .ok (.iadd, 1) := by decide +kernel
theorem d_La_455 : decode code 455 = .ok (.iaload, 1) := by decide +kernel
theorem d_La_456 : decode code 456 = .ok (.aload_n 0, 1) := by decide +kernel
theorem d_La_457 : decode code 457 = .ok (.iload_n 3, 1) := by decide +kernel
theorem d_La_458 : decode code 458 = .ok (.iconst 2, 1) := by decide +kernel
theorem d_La_459 : decode code 459 = .ok (.iadd, 1) := by decide +kernel
theorem d_La_460 : decode code 460 = .ok (.iaload, 1) := by decide +kernel
theorem d_La_461 : decode code 461 = .ok (.invokevirtual 65, 3) := by decide +kernel
theorem d_La_464 : decode code 464 = .ok (.aload_n 2, 1) := by decide +kernel
theorem d_La_465 : decode code 465 = .ok (.aload_n 0, 1) := by decide +kernel
theorem d_La_466 : decode code 466 = .ok (.iload_n 3, 1) := by decide +kernel
theorem d_La_467 : decode code 467 = .ok (.iconst 1, 1) := by decide +kernel
theorem d_La_468 : decode code 468 = .ok (.iadd, 1) := by decide +kernel
theorem d_La_469 : decode code 469 = .ok (.iaload, 1) := by decide +kernel
theorem d_La_470 : decode code 470 = .ok (.aload_n 0, 1) := by decide +kernel
theorem d_La_471 : decode code 471 = .ok (.iload_n 3, 1) := by decide +kernel
theorem d_La_472 : decode code 472 = .ok (.iconst 2, 1) := by decide +kernel
theorem d_La_473 : decode code 473 = .ok (.iadd, 1) := by decide +kernel
theorem d_La_474 : decode code 474 = .ok (.iaload, 1) := by decide +kernel
theorem d_La_475 : decode code 475 = .ok (.invokevirtual 68, 3) := by decide +kernel
theorem d_La_478 : decode code 478 = .ok (.if_icmp .eq 354, 3) := by decide +kernel
theorem d_La_481 : decode code 481 = .ok (.iconst 0, 1) := by decide +kernel
theorem d_La_482 : decode code 482 = .ok (.ireturn, 1) := by decide +kernel
theorem d_La_483 : decode code 483 = .ok (.aload_n 1, 1) := by decide +kernel
theorem d_La_484 : decode code 484 = .ok (.aload_n 0, 1) := by decide +kernel
theorem d_La_485 : decode code 485 = .ok (.iload_n 3, 1) := by decide +kernel
theorem d_La_486 : decode code 486 = .ok (.iconst 1, 1) := by decide +kernel
theorem d_La_487 : decode code 487 = .ok (.iadd, 1) := by decide +kernel
theorem d_La_488 : decode code 488 = .ok (.iaload, 1) := by decide +kernel
theorem d_La_489 : decode code 489 = .ok (.invokevirtual 69, 3) := by decide +kernel
theorem d_La_492 : decode code 492 = .ok (.aload_n 2, 1) := by decide +kernel
theorem d_La_493 : decode code 493 = .ok (.aload_n 0, 1) := by decide +kernel
theorem d_La_494 : decode code 494 = .ok (.iload_n 3, 1) := by decide +kernel
theorem d_La_495 : decode code 495 = .ok (.iconst 1, 1) := by decide +kernel
theorem d_La_496 : decode code 496 = .ok (.iadd, 1) := by decide +kernel
theorem d_La_497 : decode code 497 = .ok (.iaload, 1) := by decide +kernel
theorem d_La_498 : decode code 498 = .ok (.invokevirtual 72, 3) := by decide +kernel
theorem d_La_501 : decode code 501 = .ok (.if_icmp .eq 331, 3) := by decide +kernel
theorem d_La_504 : decode code 504 = .ok (.iconst 0, 1) := by decide +kernel
theorem d_La_505 : decode code 505 = .ok (.ireturn, 1) := by decide +kernel
theorem d_La_506 : decode code 506 = .ok (.aload_n 1, 1) := by decide +kernel
theorem d_La_507 : decode code 507 = .ok (.aload_n 0, 1) := by decide +kernel
theorem d_La_508 : decode code 508 = .ok (.iload_n 3, 1) := by decide +kernel
theorem d_La_509 : decode code 509 = .ok (.iconst 1, 1) := by decide +kernel
theorem d_La_510 : decode code 510 = .ok (.iadd, 1) := by decide +kernel
theorem d_La_511 : decode code 511 = .ok (.iaload, 1) := by decide +kernel
theorem d_La_512 : decode code 512 = .ok (.aload_n 0, 1) := by decide +kernel
theorem d_La_513 : decode code 513 = .ok (.iload_n 3, 1) := by decide +kernel
theorem d_La_514 : decode code 514 = .ok (.iconst 2, 1) := by decide +kernel
theorem d_La_515 : decode code 515 = .ok (.iadd, 1) := by decide +kernel
theorem d_La_516 : decode code 516 = .ok (.iaload, 1) := by decide +kernel
theorem d_La_517 : decode code 517 = .ok (.invokevirtual 73, 3) := by decide +kernel
theorem d_La_520 : decode code 520 = .ok (.aload_n 2, 1) := by decide +kernel
theorem d_La_521 : decode code 521 = .ok (.aload_n 0, 1) := by decide +kernel
theorem d_La_522 : decode code 522 = .ok (.iload_n 3, 1) := by decide +kernel
theorem d_La_523 : decode code 523 = .ok (.iconst 1, 1) := by decide +kernel
theorem d_La_524 : decode code 524 = .ok (.iadd, 1) := by decide +kernel
theorem d_La_525 : decode code 525 = .ok (.iaload, 1) := by decide +kernel
theorem d_La_526 : decode code 526 = .ok (.aload_n 0, 1) := by decide +kernel
theorem d_La_527 : decode code 527 = .ok (.iload_n 3, 1) := by decide +kernel
theorem d_La_528 : decode code 528 = .ok (.iconst 2, 1) := by decide +kernel
theorem d_La_529 : decode code 529 = .ok (.iadd, 1) := by decide +kernel
theorem d_La_530 : decode code 530 = .ok (.iaload, 1) := by decide +kernel
theorem d_La_531 : decode code 531 = .ok (.invokevirtual 76, 3) := by decide +kernel
theorem d_La_534 : decode code 534 = .ok (.if_icmp .eq 298, 3) := by decide +kernel
theorem d_La_537 : decode code 537 = .ok (.iconst 0, 1) := by decide +kernel
theorem d_La_538 : decode code 538 = .ok (.ireturn, 1) := by decide +kernel
theorem d_La_539 : decode code 539 = .ok (.aload_n 1, 1) := by decide +kernel
theorem d_La_540 : decode code 540 = .ok (.invokevirtual 77, 3) := by decide +kernel
theorem d_La_543 : decode code 543 = .ok (.aload_n 2, 1) := by decide +kernel
theorem d_La_544 : decode code 544 = .ok (.invokevirtual 80, 3) := by decide +kernel
theorem d_La_547 : decode code 547 = .ok (.if_icmp .eq 285, 3) := by decide +kernel
theorem d_La_550 : decode code 550 = .ok (.iconst 0, 1) := by decide +kernel
theorem d_La_551 : decode code 551 = .ok (.ireturn, 1) := by decide +kernel
theorem d_La_552 : decode code 552 = .ok (.aload_n 1, 1) := by decide +kernel
theorem d_La_553 : decode code 553 = .ok (.aload_n 0, 1) := by decide +kernel
theorem d_La_554 : decode code 554 = .ok (.iload_n 3, 1) := by decide +kernel
theorem d_La_555 : decode code 555 = .ok (.iconst 1, 1) := by decide +kernel
theorem d_La_556 : decode code 556 = .ok (.iadd, 1) := by decide +kernel
theorem d_La_557 : decode code 557 = .ok (.iaload, 1) := by decide +kernel
theorem d_La_558 : decode code 558 = .ok (.aload_n 0, 1) := by decide +kernel
theorem d_La_559 : decode code 559 = .ok (.iload_n 3, 1) := by decide +kernel
theorem d_La_560 : decode code 560 = .ok (.iconst 2, 1) := by decide +kernel
theorem d_La_561 : decode code 561 = .ok (.iadd, 1) := by decide +kernel
theorem d_La_562 : decode code 562 = .ok (.iaload, 1) := by decide +kernel
theorem d_La_563 : decode code 563 = .ok (.invokevirtual 81, 3) := by decide +kernel
theorem d_La_566 : decode code 566 = .ok (.aload_n 2, 1) := by decide +kernel
theorem d_La_567 : decode code 567 = .ok (.aload_n 0, 1) := by decide +kernel
theorem d_La_568 : decode code 568 = .ok (.iload_n 3, 1) := by decide +kernel
theorem d_La_569 : decode code 569 = .ok (.iconst 1, 1) := by decide +kernel
theorem d_La_570 : decode code 570 = .ok (.iadd, 1) := by decide +kernel
theorem d_La_571 : decode code 571 = .ok (.iaload, 1) := by decide +kernel
theorem d_La_572 : decode code 572 = .ok (.aload_n 0, 1) := by decide +kernel
theorem d_La_573 : decode code 573 = .ok (.iload_n 3, 1) := by decide +kernel
theorem d_La_574 : decode code 574 = .ok (.iconst 2, 1) := by decide +kernel
theorem d_La_575 : decode code 575 = .ok (.iadd, 1) := by decide +kernel
theorem d_La_576 : decode code 576 = .ok (.iaload, 1) := by decide +kernel
theorem d_La_577 : decode code 577 = .ok (.invokevirtual 84, 3) := by decide +kernel
theorem d_La_580 : decode code 580 = .ok (.if_icmp .eq 252, 3) := by decide +kernel
theorem d_La_583 : decode code 583 = .ok (.iconst 0, 1) := by decide +kernel
theorem d_La_584 : decode code 584 = .ok (.ireturn, 1) := by decide +kernel
theorem d_La_585 : decode code 585 = .ok (.aload_n 1, 1) := by decide +kernel
theorem d_La_586 : decode code 586 = .ok (.aload_n 0, 1) := by decide +kernel
theorem d_La_587 : decode code 587 = .ok (.iload_n 3, 1) := by decide +kernel
theorem d_La_588 : decode code 588 = .ok (.iconst 1, 1) := by decide +kernel
theorem d_La_589 : decode code 589 = .ok (.iadd, 1) := by decide +kernel
theorem d_La_590 : decode code 590 = .ok (.iaload, 1) := by decide +kernel
theorem d_La_591 : decode code 591 = .ok (.invokevirtual 85, 3) := by decide +kernel
theorem d_La_594 : decode code 594 = .ok (.aload_n 2, 1) := by decide +kernel
theorem d_La_595 : decode code 595 = .ok (.aload_n 0, 1) := by decide +kernel
theorem d_La_596 : decode code 596 = .ok (.iload_n 3, 1) := by decide +kernel
theorem d_La_597 : decode code 597 = .ok (.iconst 1, 1) := by decide +kernel
theorem d_La_598 : decode code 598 = .ok (.iadd, 1) := by decide +kernel
theorem d_La_599 : decode code 599 = .ok (.iaload, 1) := by decide +kernel
theorem d_La_600 : decode code 600 = .ok (.invokevirtual 88, 3) := by decide +kernel
theorem d_La_603 : decode code 603 = .ok (.if_icmp .eq 229, 3) := by decide +kernel
theorem d_La_606 : decode code 606 = .ok (.iconst 0, 1) := by decide +kernel
theorem d_La_607 : decode code 607 = .ok (.ireturn, 1) := by decide +kernel
theorem d_La_608 : decode code 608 = .ok (.aload_n 1, 1) := by decide +kernel
theorem d_La_609 : decode code 609 = .ok (.invokevirtual 89, 3) := by decide +kernel
theorem d_La_612 : decode code 612 = .ok (.aload_n 2, 1) := by decide +kernel
theorem d_La_613 : decode code 613 = .ok (.invokevirtual 92, 3) := by decide +kernel
theorem d_La_616 : decode code 616 = .ok (.if_icmp .eq 216, 3) := by decide +kernel
theorem d_La_619 : decode code 619 = .ok (.iconst 0, 1) := by decide +kernel
theorem d_La_620 : decode code 620 = .ok (.ireturn, 1) := by decide +kernel
theorem d_La_621 : decode code 621 = .ok (.aload_n 1, 1) := by decide +kernel
theorem d_La_622 : decode code 622 = .ok (.invokevirtual 93, 3) := by decide +kernel
theorem d_La_625 : decode code 625 = .ok (.aload_n 2, 1) := by decide +kernel
theorem d_La_626 : decode code 626 = .ok (.invokevirtual 96, 3) := by decide +kernel
theorem d_La_629 : decode code 629 = .ok (.if_icmp .eq 203, 3) := by decide +kernel
theorem d_La_632 : decode code 632 = .ok (.iconst 0, 1) := by decide +kernel
theorem d_La_633 : decode code 633 = .ok (.ireturn, 1) := by decide +kernel
theorem d_La_634 : decode code 634 = .ok (.aload_n 1, 1) := by decide +kernel
theorem d_La_635 : decode code 635 = .ok (.invokevirtual 97, 3) := by decide +kernel
theorem d_La_638 : decode code 638 = .ok (.aload_n 2, 1) := by decide +kernel
theorem d_La_639 : decode code 639 = .ok (.invokevirtual 100, 3) := by decide +kernel
theorem d_La_642 : decode code 642 = .ok (.if_icmp .eq 190, 3) := by decide +kernel
theorem d_La_645 : decode code 645 = .ok (.iconst 0, 1) := by decide +kernel
theorem d_La_646 : decode code 646 = .ok (.ireturn, 1) := by decide +kernel
theorem d_La_647 : decode code 647 = .ok (.aload_n 1, 1) := by decide +kernel
theorem d_La_648 : decode code 648 = .ok (.invokevirtual 101, 3) := by decide +kernel
theorem d_La_651 : decode code 651 = .ok (.aload_n 2, 1) := by decide +kernel
theorem d_La_652 : decode code 652 = .ok (.invokevirtual 104, 3) := by decide +kernel
theorem d_La_655 : decode code 655 = .ok (.if_icmp .eq 177, 3) := by decide +kernel
theorem d_La_658 : decode code 658 = .ok (.iconst 0, 1) := by decide +kernel
theorem d_La_659 : decode code 659 = .ok (.ireturn, 1) := by decide +kernel
theorem d_La_660 : decode code 660 = .ok (.aload_n 1, 1) := by decide +kernel
theorem d_La_661 : decode code 661 = .ok (.aload_n 0, 1) := by decide +kernel
theorem d_La_662 : decode code 662 = .ok (.iload_n 3, 1) := by decide +kernel
theorem d_La_663 : decode code 663 = .ok (.iconst 1, 1) := by decide +kernel
theorem d_La_664 : decode code 664 = .ok (.iadd, 1) := by decide +kernel
theorem d_La_665 : decode code 665 = .ok (.iaload, 1) := by decide +kernel
theorem d_La_666 : decode code 666 = .ok (.aload_n 0, 1) := by decide +kernel
theorem d_La_667 : decode code 667 = .ok (.iload_n 3, 1) := by decide +kernel
theorem d_La_668 : decode code 668 = .ok (.iconst 2, 1) := by decide +kernel
theorem d_La_669 : decode code 669 = .ok (.iadd, 1) := by decide +kernel
theorem d_La_670 : decode code 670 = .ok (.iaload, 1) := by decide +kernel
theorem d_La_671 : decode code 671 = .ok (.invokevirtual 105, 3) := by decide +kernel
theorem d_La_674 : decode code 674 = .ok (.aload_n 2, 1) := by decide +kernel
theorem d_La_675 : decode code 675 = .ok (.aload_n 0, 1) := by decide +kernel
theorem d_La_676 : decode code 676 = .ok (.iload_n 3, 1) := by decide +kernel
theorem d_La_677 : decode code 677 = .ok (.iconst 1, 1) := by decide +kernel
theorem d_La_678 : decode code 678 = .ok (.iadd, 1) := by decide +kernel
theorem d_La_679 : decode code 679 = .ok (.iaload, 1) := by decide +kernel
theorem d_La_680 : decode code 680 = .ok (.aload_n 0, 1) := by decide +kernel
theorem d_La_681 : decode code 681 = .ok (.iload_n 3, 1) := by decide +kernel
theorem d_La_682 : decode code 682 = .ok (.iconst 2, 1) := by decide +kernel
theorem d_La_683 : decode code 683 = .ok (.iadd, 1) := by decide +kernel
theorem d_La_684 : decode code 684 = .ok (.iaload, 1) := by decide +kernel
theorem d_La_685 : decode code 685 = .ok (.invokevirtual 108, 3) := by decide +kernel
theorem d_La_688 : decode code 688 = .ok (.if_icmp .eq 144, 3) := by decide +kernel
theorem d_La_691 : decode code 691 = .ok (.iconst 0, 1) := by decide +kernel
theorem d_La_692 : decode code 692 = .ok (.ireturn, 1) := by decide +kernel
theorem d_La_693 : decode code 693 = .ok (.aload_n 1, 1) := by decide +kernel
theorem d_La_694 : decode code 694 = .ok (.aload_n 0, 1) := by decide +kernel
theorem d_La_695 : decode code 695 = .ok (.iload_n 3, 1) := by decide +kernel
theorem d_La_696 : decode code 696 = .ok (.iconst 1, 1) := by decide +kernel
theorem d_La_697 : decode code 697 = .ok (.iadd, 1) := by decide +kernel
theorem d_La_698 : decode code 698 = .ok (.iaload, 1) := by decide +kernel
theorem d_La_699 : decode code 699 = .ok (.aload_n 0, 1) := by decide +kernel
theorem d_La_700 : decode code 700 = .ok (.iload_n 3, 1) := by decide +kernel
theorem d_La_701 : decode code 701 = .ok (.iconst 2, 1) := by decide +kernel
theorem d_La_702 : decode code 702 = .ok (.iadd, 1) := by decide +kernel
theorem d_La_703 : decode code 703 = .ok (.iaload, 1) := by decide +kernel
theorem d_La_704 : decode code 704 = .ok (.invokevirtual 109, 3) := by decide +kernel
theorem d_La_707 : decode code 707 = .ok (.aload_n 2, 1) := by decide +kernel
theorem d_La_708 : decode code 708 = .ok (.aload_n 0, 1) := by decide +kernel
theorem d_La_709 : decode code 709 = .ok (.iload_n 3, 1) := by decide +kernel
theorem d_La_710 : decode code 710 = .ok (.iconst 1, 1) := by decide +kernel
theorem d_La_711 : decode code 711 = .ok (.iadd, 1) := by decide +kernel
theorem d_La_712 : decode code 712 = .ok (.iaload, 1) := by decide +kernel
theorem d_La_713 : decode code 713 = .ok (.aload_n 0, 1) := by decide +kernel
theorem d_La_714 : decode code 714 = .ok (.iload_n 3, 1) := by decide +kernel
theorem d_La_715 : decode code 715 = .ok (.iconst 2, 1) := by decide +kernel
theorem d_La_716 : decode code 716 = .ok (.iadd, 1) := by decide +kernel
theorem d_La_717 : decode code 717 = .ok (.iaload, 1) := by decide +kernel
theorem d_La_718 : decode code 718 = .ok (.invokevirtual 112, 3) := by decide +kernel
theorem d_La_721 : decode code 721 = .ok (.if_icmp .eq 111, 3) := by decide +kernel
theorem d_La_724 : decode code 724 = .ok (.iconst 0, 1) := by decide +kernel
theorem d_La_725 : decode code 725 = .ok (.ireturn, 1) := by decide +kernel
theorem d_La_726 : decode code 726 = .ok (.aload_n 1, 1) := by decide +kernel
theorem d_La_727 : decode code 727 = .ok (.aload_n 0, 1) := by decide +kernel
theorem d_La_728 : decode code 728 = .ok (.iload_n 3, 1) := by decide +kernel
theorem d_La_729 : decode code 729 = .ok (.iconst 1, 1) := by decide +kernel
theorem d_La_730 : decode code 730 = .ok (.iadd, 1) := by decide +kernel
theorem d_La_731 : decode code 731 = .ok (.iaload, 1) := by decide +kernel
theorem d_La_732 : decode code 732 = .ok (.invokevirtual 113, 3) := by decide +kernel
theorem d_La_735 : decode code 735 = .ok (.aload_n 2, 1) := by decide +kernel
theorem d_La_736 : decode code 736 = .ok (.aload_n 0, 1) := by decide +kernel
theorem d_La_737 : decode code 737 = .ok (.iload_n 3, 1) := by decide +kernel
theorem d_La_738 : decode code 738 = .ok (.iconst 1, 1) := by decide +kernel
theorem d_La_739 : decode code 739 = .ok (.iadd, 1) := by decide +kernel
theorem d_La_740 : decode code 740 = .ok (.iaload, 1) := by decide +kernel
theorem d_La_741 : decode code 741 = .ok (.invokevirtual 116, 3) := by decide +kernel
theorem d_La_744 : decode code 744 = .ok (.if_icmp .eq 88, 3) := by decide +kernel
theorem d_La_747 : decode code 747 = .ok (.iconst 0, 1) := by decide +kernel
theorem d_La_748 : decode code 748 = .ok (.ireturn, 1) := by decide +kernel
theorem d_La_749 : decode code 749 = .ok (.aload_n 1, 1) := by decide +kernel
theorem d_La_750 : decode code 750 = .ok (.aload_n 0, 1) := by decide +kernel
theorem d_La_751 : decode code 751 = .ok (.iload_n 3, 1) := by decide +kernel
theorem d_La_752 : decode code 752 = .ok (.iconst 1, 1) := by decide +kernel
theorem d_La_753 : decode code 753 = .ok (.iadd, 1) := by decide +kernel
theorem d_La_754 : decode code 754 = .ok (.iaload, 1) := by decide +kernel
theorem d_La_755 : decode code 755 = .ok (.invokevirtual 117, 3) := by decide +kernel
theorem d_La_758 : decode code 758 = .ok (.aload_n 2, 1) := by decide +kernel
theorem d_La_759 : decode code 759 = .ok (.aload_n 0, 1) := by decide +kernel
theorem d_La_760 : decode code 760 = .ok (.iload_n 3, 1) := by decide +kernel
theorem d_La_761 : decode code 761 = .ok (.iconst 1, 1) := by decide +kernel
theorem d_La_762 : decode code 762 = .ok (.iadd, 1) := by decide +kernel
theorem d_La_763 : decode code 763 = .ok (.iaload, 1) := by decide +kernel
theorem d_La_764 : decode code 764 = .ok (.invokevirtual 120, 3) := by decide +kernel
theorem d_La_767 : decode code 767 = .ok (.if_icmp .eq 65, 3) := by decide +kernel
theorem d_La_770 : decode code 770 = .ok (.iconst 0, 1) := by decide +kernel
theorem d_La_771 : decode code 771 = .ok (.ireturn, 1) := by decide +kernel
theorem d_La_772 : decode code 772 = .ok (.aload_n 1, 1) := by decide +kernel
theorem d_La_773 : decode code 773 = .ok (.aload_n 0, 1) := by decide +kernel
theorem d_La_774 : decode code 774 = .ok (.iload_n 3, 1) := by decide +kernel
theorem d_La_775 : decode code 775 = .ok (.iconst 1, 1) := by decide +kernel
theorem d_La_776 : decode code 776 = .ok (.iadd, 1) := by decide +kernel
theorem d_La_777 : decode code 777 = .ok (.iaload, 1) := by decide +kernel
theorem d_La_778 : decode code 778 = .ok (.invokevirtual 121, 3) := by decide +kernel
theorem d_La_781 : decode code 781 = .ok (.aload_n 2, 1) := by decide +kernel
theorem d_La_782 : decode code 782 = .ok (.aload_n 0, 1) := by decide +kernel
theorem d_La_783 : decode code 783 = .ok (.iload_n 3, 1) := by decide +kernel
theorem d_La_784 : decode code 784 = .ok (.iconst 1, 1) := by decide +kernel
theorem d_La_785 : decode code 785 = .ok (.iadd, 1) := by decide +kernel
theorem d_La_786 : decode code 786 = .ok (.iaload, 1) := by decide +kernel
theorem d_La_787 : decode code 787 = .ok (.invokevirtual 124, 3) := by decide +kernel
theorem d_La_790 : decode code 790 = .ok (.if_icmp .eq 42, 3) := by decide +kernel
theorem d_La_793 : decode code 793 = .ok (.iconst 0, 1) := by decide +kernel
theorem d_La_794 : decode code 794 = .ok (.ireturn, 1) := by decide +kernel
theorem d_La_795 : decode code 795 = .ok (.aload_n 1, 1) := by decide +kernel
theorem d_La_796 : decode code 796 = .ok (.aload_n 0, 1) := by decide +kernel
theorem d_La_797 : decode code 797 = .ok (.iload_n 3, 1) := by decide +kernel
theorem d_La_798 : decode code 798 = .ok (.iconst 1, 1) := by decide +kernel
theorem d_La_799 : decode code 799 = .ok (.iadd, 1) := by decide +kernel
theorem d_La_800 : decode code 800 = .ok (.iaload, 1) := by decide +kernel
theorem d_La_801 : decode code 801 = .ok (.invokevirtual 125, 3) := by decide +kernel
theorem d_La_804 : decode code 804 = .ok (.aload_n 2, 1) := by decide +kernel
theorem d_La_805 : decode code 805 = .ok (.aload_n 0, 1) := by decide +kernel
theorem d_La_806 : decode code 806 = .ok (.iload_n 3, 1) := by decide +kernel
theorem d_La_807 : decode code 807 = .ok (.iconst 1, 1) := by decide +kernel
theorem d_La_808 : decode code 808 = .ok (.iadd, 1) := by decide +kernel
theorem d_La_809 : decode code 809 = .ok (.iaload, 1) := by decide +kernel
theorem d_La_810 : decode code 810 = .ok (.invokevirtual 128, 3) := by decide +kernel
theorem d_La_813 : decode code 813 = .ok (.if_icmp .eq 19, 3) := by decide +kernel
theorem d_La_816 : decode code 816 = .ok (.iconst 0, 1) := by decide +kernel
theorem d_La_817 : decode code 817 = .ok (.ireturn, 1) := by decide +kernel
theorem d_La_818 : decode code 818 = .ok (.aload_n 1, 1) := by decide +kernel
theorem d_La_819 : decode code 819 = .ok (.invokevirtual 129, 3) := by decide +kernel
theorem d_La_822 : decode code 822 = .ok (.aload_n 2, 1) := by decide +kernel
theorem d_La_823 : decode code 823 = .ok (.invokevirtual 133, 3) := by decide +kernel
theorem d_La_826 : decode code 826 = .ok (.lcmp, 1) := by decide +kernel
theorem d_La_827 : decode code 827 = .ok (.ifCond .eq 5, 3) := by decide +kernel
theorem d_La_830 : decode code 830 = .ok (.iconst 0, 1) := by decide +kernel
theorem d_La_831 : decode code 831 = .ok (.ireturn, 1) := by decide +kernel
theorem d_La_832 : decode code 832 = .ok (.iinc 3 4, 3) := by decide +kernel
theorem d_La_835 : decode code 835 = .ok (.goto (-817), 3) := by decide +kernel
theorem d_La_838 : decode code 838 = .ok (.iconst 1, 1) := by decide +kernel
theorem d_La_839 : decode code 839 = .ok (.ireturn, 1) := by decide +kernel
theorem lw_nest {args : Array Value} {s : State} (hts : ∀ w ∈ lw_tbl, w.before args s = true) : q_nest s := ⟨va_Nw.of rfl (hts _ m_631), va_Nw.of rfl (hts _ m_676)⟩
theorem lw_mk {args : Array Value} {s : State} (hts : ∀ w ∈ lw_tbl, w.before args s = true) : q_mk s := ⟨va_Nw.of rfl (hts _ m_23), va_Nw.of rfl (hts _ m_122), va_Nw.of rfl (hts _ m_156), va_Nw.of rfl (hts _ m_190), va_Nw.of rfl (hts _ m_218), va_Nw.of rfl (hts _ m_292), va_Nw.of rfl (hts _ m_306), va_Nw.of rfl (hts _ m_309), va_AO.of (hts _ m_153), va_AO.of (hts _ m_187), q_ma_of (hts _ m_297)⟩
theorem lw_arrC {args : Array Value} {s : State} {ty : FieldType} (h : (Cond.arrayClass ty).before args s = true) : ∃ cA : ClassId, ArrOfT s cA ty ∧ s.vm.findClass ("[" ++ ty.toString) = some cA := by
  obtain ⟨cA, kA, comp, h1, h2, h3⟩ := Cond.arrayClass_spec h
  exact ⟨cA, fun n z => ⟨fun k h => (by cases h), kA, h2, comp, h3⟩, h1⟩
theorem lw_arrO {args : Array Value} {s : State} {C : String} (h : (Cond.arrayOver (.object C)).before args s = true) : ∃ cA : ClassId, ArrOfT s cA (.object C) ∧ va_RA s cA (.object C) := by
  obtain ⟨comp, c, k, h1, h2, h3, h4, h5⟩ := Cond.arrayOver_spec h
  exact ⟨c, fun n z => ⟨fun k h => (by cases h), k, h3, comp, h4⟩, k, comp, h3, h4, h1, h5⟩
theorem lw_arrG {s : State} (h : q_ma s) : ∃ cA : ClassId, ArrOfT s cA (.array .int) ∧ va_RA s cA (.array .int) := by
  obtain ⟨comp, cA, kA, h1, h2, h3, h4⟩ := h
  exact ⟨cA, fun n z => ⟨fun k h => (by cases h), kA, h3, comp, h4⟩, h2⟩
theorem lw_K {args : Array Value} {s : State} (hts : ∀ w ∈ lw_tbl, w.before args s = true) : ∃ Δ : QDl, va_K Δ.1 classes (q_tys Δ) s := by
  have hg : ∀ w ∈ lw_g, w.before args s = true := fun w hw => hts w (List.mem_filter.mp hw).1
  obtain ⟨c0, i0, k0⟩ := u_known (C := qR0) (T := qT0) (N := 2) (n := 2) hg qi0 (hg _ m_291)
  obtain ⟨c1, i1, k1⟩ := u_known (C := qR1) (T := qT1) (N := 4) (n := 4) hg qi1 (hg _ m_155)
  obtain ⟨c2, i2, k2⟩ := u_known (C := qR2) (T := qT2) (N := 2) (n := 2) hg qi2 (hg _ m_308)
  obtain ⟨c3, i3, k3⟩ := u_known (C := qR3) (T := qT3) (N := 7) (n := 7) hg qi3 (hg _ m_181)
  obtain ⟨c4, i4, k4⟩ := u_known (C := qR4) (T := qT4) (N := 4) (n := 4) hg qi4 (hg _ m_121)
  obtain ⟨c5, i5, k5⟩ := u_known (C := qR5) (T := qT5) (N := 9) (n := 9) hg qi5 (hg _ m_217)
  obtain ⟨c6, i6, k6⟩ := u_known (C := qR6) (T := qT6) (N := 6) (n := 6) hg qi6 (hg _ m_22)
  obtain ⟨c7, i7, k7⟩ := u_known (C := qR7) (T := qT7) (N := 10) (n := 10) hg qi7 (hg _ m_28)
  obtain ⟨c8, i8, k8⟩ := u_known (C := qR8) (T := qT8) (N := 4) (n := 4) hg qi8 (hg _ m_189)
  obtain ⟨c9, i9, k9⟩ := u_known (C := qR9) (T := qT9) (N := 14) (n := 14) hg qi9 (hg _ m_14)
  obtain ⟨c10, i10, k10⟩ := u_known (C := qR10) (T := qT10) (N := 45) (n := 45) hg qi10 (hg _ m_786)
  obtain ⟨a0, x0, y0⟩ := lw_arrC (hg _ m_97)
  obtain ⟨a1, x1, y1⟩ := lw_arrC (hg _ m_179)
  obtain ⟨a2, x2, y2⟩ := lw_arrO (hts _ m_153)
  obtain ⟨a3, x3, y3⟩ := lw_arrO (hts _ m_187)
  obtain ⟨a4, x4, y4⟩ := lw_arrG (q_ma_of (hts _ m_297))
  refine ⟨((fun k => match k with | 0 => c0 | 1 => c1 | 2 => c2 | 3 => c3 | 4 => c4 | 5 => c5 | 6 => c6 | 7 => c7 | 8 => c8 | 9 => c9 | _ => c10, fun k => match k with | 0 => i0 | 1 => i1 | 2 => i2 | 3 => i3 | 4 => i4 | 5 => i5 | 6 => i6 | 7 => i7 | 8 => i8 | 9 => i9 | _ => i10), fun k => match k with | 0 => a0 | 1 => a1 | 2 => a2 | 3 => a3 | _ => a4), fun k q hq => ?_, fun k q hq => ?_⟩
  · match k, hq with
    | 0, hq => cases hq; exact k0
    | 1, hq => cases hq; exact k1
    | 2, hq => cases hq; exact k2
    | 3, hq => cases hq; exact k3
    | 4, hq => cases hq; exact k4
    | 5, hq => cases hq; exact k5
    | 6, hq => cases hq; exact k6
    | 7, hq => cases hq; exact k7
    | 8, hq => cases hq; exact k8
    | 9, hq => cases hq; exact k9
    | 10, hq => cases hq; exact k10
    | k + 11, hq => cases hq
  · match k, hq with
    | 0, hq => cases hq; exact ⟨x0, y0⟩
    | 1, hq => cases hq; exact ⟨x1, y1⟩
    | 2, hq => cases hq; exact ⟨x2, y2⟩
    | 3, hq => cases hq; exact ⟨x3, y3⟩
    | 4, hq => cases hq; exact ⟨x4, y4⟩
    | k + 5, hq => cases hq
