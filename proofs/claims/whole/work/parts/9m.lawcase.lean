-- THE LAW: its cases, printed by wip/gen/p12.py
theorem dL_law_0 : decode cL_law 0 = .ok (.new 7, 3) := by decide +kernel
theorem dL_law_3 : decode cL_law 3 = .ok (.dup, 1) := by decide +kernel
theorem dL_law_4 : decode cL_law 4 = .ok (.invokespecial 9, 3) := by decide +kernel
theorem dL_law_7 : decode cL_law 7 = .ok (.astore_n 1, 1) := by decide +kernel
theorem dL_law_8 : decode cL_law 8 = .ok (.new 10, 3) := by decide +kernel
theorem dL_law_11 : decode cL_law 11 = .ok (.dup, 1) := by decide +kernel
theorem dL_law_12 : decode cL_law 12 = .ok (.invokespecial 12, 3) := by decide +kernel
theorem dL_law_15 : decode cL_law 15 = .ok (.astore_n 2, 1) := by decide +kernel
theorem dL_law_16 : decode cL_law 16 = .ok (.iconst 0, 1) := by decide +kernel
theorem dL_law_17 : decode cL_law 17 = .ok (.istore_n 3, 1) := by decide +kernel
theorem dL_law_18 : decode cL_law 18 = .ok (.iload_n 3, 1) := by decide +kernel
theorem dL_law_19 : decode cL_law 19 = .ok (.aload_n 0, 1) := by decide +kernel
theorem dL_law_20 : decode cL_law 20 = .ok (.arraylength, 1) := by decide +kernel
theorem dL_law_21 : decode cL_law 21 = .ok (.bipush 6, 2) := by decide +kernel
theorem dL_law_23 : decode cL_law 23 = .ok (.isub, 1) := by decide +kernel
theorem dL_law_24 : decode cL_law 24 = .ok (.if_icmp .gt 1509, 3) := by decide +kernel
theorem dL_law_27 : decode cL_law 27 = .ok (.aload_n 0, 1) := by decide +kernel
theorem dL_law_28 : decode cL_law 28 = .ok (.iload_n 3, 1) := by decide +kernel
theorem dL_law_29 : decode cL_law 29 = .ok (.iaload, 1) := by decide +kernel
theorem dL_law_30 : decode cL_law 30 = .ok (.bipush 63, 2) := by decide +kernel
theorem dL_law_32 : decode cL_law 32 = .ok (.iand, 1) := by decide +kernel
theorem dL_law_33 : decode cL_law 33 = .ok (.tableswitch 1494 0 36 #[163, 176, 245, 288, 331, 394, 437, 460, 503, 536, 549, 592, 635, 679, 702, 725, 748, 781, 804, 837, 881, 904, 927, 950, 973, 1007, 1050, 1073, 1096, 1139, 1192, 1215, 1258, 1281, 1324, 1397, 1431], 163) := by decide +kernel
theorem dL_law_196 : decode cL_law 196 = .ok (.aload_n 1, 1) := by decide +kernel
theorem dL_law_197 : decode cL_law 197 = .ok (.invokevirtual 13, 3) := by decide +kernel
theorem dL_law_200 : decode cL_law 200 = .ok (.aload_n 2, 1) := by decide +kernel
theorem dL_law_201 : decode cL_law 201 = .ok (.invokevirtual 17, 3) := by decide +kernel
theorem dL_law_204 : decode cL_law 204 = .ok (.if_icmp .eq 1323, 3) := by decide +kernel
theorem dL_law_207 : decode cL_law 207 = .ok (.iconst 0, 1) := by decide +kernel
theorem dL_law_208 : decode cL_law 208 = .ok (.ireturn, 1) := by decide +kernel
theorem dL_law_209 : decode cL_law 209 = .ok (.aload_n 1, 1) := by decide +kernel
theorem dL_law_210 : decode cL_law 210 = .ok (.aload_n 0, 1) := by decide +kernel
theorem dL_law_211 : decode cL_law 211 = .ok (.iload_n 3, 1) := by decide +kernel
theorem dL_law_212 : decode cL_law 212 = .ok (.iconst 1, 1) := by decide +kernel
theorem dL_law_213 : decode cL_law 213 = .ok (.iadd, 1) := by decide +kernel
theorem dL_law_214 : decode cL_law 214 = .ok (.iaload, 1) := by decide +kernel
theorem dL_law_215 : decode cL_law 215 = .ok (.aload_n 0, 1) := by decide +kernel
theorem dL_law_216 : decode cL_law 216 = .ok (.iload_n 3, 1) := by decide +kernel
theorem dL_law_217 : decode cL_law 217 = .ok (.iconst 2, 1) := by decide +kernel
theorem dL_law_218 : decode cL_law 218 = .ok (.iadd, 1) := by decide +kernel
theorem dL_law_219 : decode cL_law 219 = .ok (.iaload, 1) := by decide +kernel
theorem dL_law_220 : decode cL_law 220 = .ok (.aload_n 0, 1) := by decide +kernel
theorem dL_law_221 : decode cL_law 221 = .ok (.iload_n 3, 1) := by decide +kernel
theorem dL_law_222 : decode cL_law 222 = .ok (.iconst 3, 1) := by decide +kernel
theorem dL_law_223 : decode cL_law 223 = .ok (.iadd, 1) := by decide +kernel
theorem dL_law_224 : decode cL_law 224 = .ok (.iaload, 1) := by decide +kernel
theorem dL_law_225 : decode cL_law 225 = .ok (.ifCond .eq 7, 3) := by decide +kernel
theorem dL_law_228 : decode cL_law 228 = .ok (.iconst 1, 1) := by decide +kernel
theorem dL_law_229 : decode cL_law 229 = .ok (.goto 4, 3) := by decide +kernel
theorem dL_law_232 : decode cL_law 232 = .ok (.iconst 0, 1) := by decide +kernel
theorem dL_law_233 : decode cL_law 233 = .ok (.aload_n 0, 1) := by decide +kernel
theorem dL_law_234 : decode cL_law 234 = .ok (.iload_n 3, 1) := by decide +kernel
theorem dL_law_235 : decode cL_law 235 = .ok (.iconst 4, 1) := by decide +kernel
theorem dL_law_236 : decode cL_law 236 = .ok (.iadd, 1) := by decide +kernel
theorem dL_law_237 : decode cL_law 237 = .ok (.iaload, 1) := by decide +kernel
theorem dL_law_238 : decode cL_law 238 = .ok (.invokevirtual 18, 3) := by decide +kernel
theorem dL_law_241 : decode cL_law 241 = .ok (.aload_n 2, 1) := by decide +kernel
theorem dL_law_242 : decode cL_law 242 = .ok (.aload_n 0, 1) := by decide +kernel
theorem dL_law_243 : decode cL_law 243 = .ok (.iload_n 3, 1) := by decide +kernel
theorem dL_law_244 : decode cL_law 244 = .ok (.iconst 1, 1) := by decide +kernel
theorem dL_law_245 : decode cL_law 245 = .ok (.iadd, 1) := by decide +kernel
theorem dL_law_246 : decode cL_law 246 = .ok (.iaload, 1) := by decide +kernel
theorem dL_law_247 : decode cL_law 247 = .ok (.aload_n 0, 1) := by decide +kernel
theorem dL_law_248 : decode cL_law 248 = .ok (.iload_n 3, 1) := by decide +kernel
theorem dL_law_249 : decode cL_law 249 = .ok (.iconst 2, 1) := by decide +kernel
theorem dL_law_250 : decode cL_law 250 = .ok (.iadd, 1) := by decide +kernel
theorem dL_law_251 : decode cL_law 251 = .ok (.iaload, 1) := by decide +kernel
theorem dL_law_252 : decode cL_law 252 = .ok (.aload_n 0, 1) := by decide +kernel
theorem dL_law_253 : decode cL_law 253 = .ok (.iload_n 3, 1) := by decide +kernel
theorem dL_law_254 : decode cL_law 254 = .ok (.iconst 3, 1) := by decide +kernel
theorem dL_law_255 : decode cL_law 255 = .ok (.iadd, 1) := by decide +kernel
theorem dL_law_256 : decode cL_law 256 = .ok (.iaload, 1) := by decide +kernel
theorem dL_law_257 : decode cL_law 257 = .ok (.ifCond .eq 7, 3) := by decide +kernel
theorem dL_law_260 : decode cL_law 260 = .ok (.iconst 1, 1) := by decide +kernel
theorem dL_law_261 : decode cL_law 261 = .ok (.goto 4, 3) := by decide +kernel
theorem dL_law_264 : decode cL_law 264 = .ok (.iconst 0, 1) := by decide +kernel
theorem dL_law_265 : decode cL_law 265 = .ok (.aload_n 0, 1) := by decide +kernel
theorem dL_law_266 : decode cL_law 266 = .ok (.iload_n 3, 1) := by decide +kernel
theorem dL_law_267 : decode cL_law 267 = .ok (.iconst 4, 1) := by decide +kernel
theorem dL_law_268 : decode cL_law 268 = .ok (.iadd, 1) := by decide +kernel
theorem dL_law_269 : decode cL_law 269 = .ok (.iaload, 1) := by decide +kernel
theorem dL_law_270 : decode cL_law 270 = .ok (.invokevirtual 22, 3) := by decide +kernel
theorem dL_law_273 : decode cL_law 273 = .ok (.if_icmp .eq 1254, 3) := by decide +kernel
theorem dL_law_276 : decode cL_law 276 = .ok (.iconst 0, 1) := by decide +kernel
theorem dL_law_277 : decode cL_law 277 = .ok (.ireturn, 1) := by decide +kernel
theorem dL_law_278 : decode cL_law 278 = .ok (.aload_n 1, 1) := by decide +kernel
theorem dL_law_279 : decode cL_law 279 = .ok (.aload_n 0, 1) := by decide +kernel
theorem dL_law_280 : decode cL_law 280 = .ok (.iload_n 3, 1) := by decide +kernel
theorem dL_law_281 : decode cL_law 281 = .ok (.iconst 1, 1) := by decide +kernel
theorem dL_law_282 : decode cL_law 282 = .ok (.iadd, 1) := by decide +kernel
theorem dL_law_283 : decode cL_law 283 = .ok (.iaload, 1) := by decide +kernel
theorem dL_law_284 : decode cL_law 284 = .ok (.aload_n 0, 1) := by decide +kernel
theorem dL_law_285 : decode cL_law 285 = .ok (.iload_n 3, 1) := by decide +kernel
theorem dL_law_286 : decode cL_law 286 = .ok (.iconst 2, 1) := by decide +kernel
theorem dL_law_287 : decode cL_law 287 = .ok (.iadd, 1) := by decide +kernel
theorem dL_law_288 : decode cL_law 288 = .ok (.iaload, 1) := by decide +kernel
theorem dL_law_289 : decode cL_law 289 = .ok (.aload_n 0, 1) := by decide +kernel
theorem dL_law_290 : decode cL_law 290 = .ok (.iload_n 3, 1) := by decide +kernel
theorem dL_law_291 : decode cL_law 291 = .ok (.iconst 3, 1) := by decide +kernel
theorem dL_law_292 : decode cL_law 292 = .ok (.iadd, 1) := by decide +kernel
theorem dL_law_293 : decode cL_law 293 = .ok (.iaload, 1) := by decide +kernel
theorem dL_law_294 : decode cL_law 294 = .ok (.invokevirtual 23, 3) := by decide +kernel
theorem dL_law_297 : decode cL_law 297 = .ok (.aload_n 2, 1) := by decide +kernel
theorem dL_law_298 : decode cL_law 298 = .ok (.aload_n 0, 1) := by decide +kernel
theorem dL_law_299 : decode cL_law 299 = .ok (.iload_n 3, 1) := by decide +kernel
theorem dL_law_300 : decode cL_law 300 = .ok (.iconst 1, 1) := by decide +kernel
theorem dL_law_301 : decode cL_law 301 = .ok (.iadd, 1) := by decide +kernel
theorem dL_law_302 : decode cL_law 302 = .ok (.iaload, 1) := by decide +kernel
theorem dL_law_303 : decode cL_law 303 = .ok (.aload_n 0, 1) := by decide +kernel
theorem dL_law_304 : decode cL_law 304 = .ok (.iload_n 3, 1) := by decide +kernel
theorem dL_law_305 : decode cL_law 305 = .ok (.iconst 2, 1) := by decide +kernel
theorem dL_law_306 : decode cL_law 306 = .ok (.iadd, 1) := by decide +kernel
theorem dL_law_307 : decode cL_law 307 = .ok (.iaload, 1) := by decide +kernel
theorem dL_law_308 : decode cL_law 308 = .ok (.aload_n 0, 1) := by decide +kernel
theorem dL_law_309 : decode cL_law 309 = .ok (.iload_n 3, 1) := by decide +kernel
theorem dL_law_310 : decode cL_law 310 = .ok (.iconst 3, 1) := by decide +kernel
theorem dL_law_311 : decode cL_law 311 = .ok (.iadd, 1) := by decide +kernel
theorem dL_law_312 : decode cL_law 312 = .ok (.iaload, 1) := by decide +kernel
theorem dL_law_313 : decode cL_law 313 = .ok (.invokevirtual 27, 3) := by decide +kernel
theorem dL_law_316 : decode cL_law 316 = .ok (.if_icmp .eq 1211, 3) := by decide +kernel
theorem dL_law_319 : decode cL_law 319 = .ok (.iconst 0, 1) := by decide +kernel
theorem dL_law_320 : decode cL_law 320 = .ok (.ireturn, 1) := by decide +kernel
theorem dL_law_321 : decode cL_law 321 = .ok (.aload_n 1, 1) := by decide +kernel
theorem dL_law_322 : decode cL_law 322 = .ok (.aload_n 0, 1) := by decide +kernel
theorem dL_law_323 : decode cL_law 323 = .ok (.iload_n 3, 1) := by decide +kernel
theorem dL_law_324 : decode cL_law 324 = .ok (.iconst 1, 1) := by decide +kernel
theorem dL_law_325 : decode cL_law 325 = .ok (.iadd, 1) := by decide +kernel
theorem dL_law_326 : decode cL_law 326 = .ok (.iaload, 1) := by decide +kernel
theorem dL_law_327 : decode cL_law 327 = .ok (.aload_n 0, 1) := by decide +kernel
theorem dL_law_328 : decode cL_law 328 = .ok (.iload_n 3, 1) := by decide +kernel
theorem dL_law_329 : decode cL_law 329 = .ok (.iconst 2, 1) := by decide +kernel
theorem dL_law_330 : decode cL_law 330 = .ok (.iadd, 1) := by decide +kernel
theorem dL_law_331 : decode cL_law 331 = .ok (.iaload, 1) := by decide +kernel
theorem dL_law_332 : decode cL_law 332 = .ok (.aload_n 0, 1) := by decide +kernel
theorem dL_law_333 : decode cL_law 333 = .ok (.iload_n 3, 1) := by decide +kernel
theorem dL_law_334 : decode cL_law 334 = .ok (.iconst 3, 1) := by decide +kernel
theorem dL_law_335 : decode cL_law 335 = .ok (.iadd, 1) := by decide +kernel
theorem dL_law_336 : decode cL_law 336 = .ok (.iaload, 1) := by decide +kernel
theorem dL_law_337 : decode cL_law 337 = .ok (.invokevirtual 28, 3) := by decide +kernel
theorem dL_law_340 : decode cL_law 340 = .ok (.aload_n 2, 1) := by decide +kernel
theorem dL_law_341 : decode cL_law 341 = .ok (.aload_n 0, 1) := by decide +kernel
theorem dL_law_342 : decode cL_law 342 = .ok (.iload_n 3, 1) := by decide +kernel
theorem dL_law_343 : decode cL_law 343 = .ok (.iconst 1, 1) := by decide +kernel
theorem dL_law_344 : decode cL_law 344 = .ok (.iadd, 1) := by decide +kernel
theorem dL_law_345 : decode cL_law 345 = .ok (.iaload, 1) := by decide +kernel
theorem dL_law_346 : decode cL_law 346 = .ok (.aload_n 0, 1) := by decide +kernel
theorem dL_law_347 : decode cL_law 347 = .ok (.iload_n 3, 1) := by decide +kernel
theorem dL_law_348 : decode cL_law 348 = .ok (.iconst 2, 1) := by decide +kernel
theorem dL_law_349 : decode cL_law 349 = .ok (.iadd, 1) := by decide +kernel
theorem dL_law_350 : decode cL_law 350 = .ok (.iaload, 1) := by decide +kernel
theorem dL_law_351 : decode cL_law 351 = .ok (.aload_n 0, 1) := by decide +kernel
theorem dL_law_352 : decode cL_law 352 = .ok (.iload_n 3, 1) := by decide +kernel
theorem dL_law_353 : decode cL_law 353 = .ok (.iconst 3, 1) := by decide +kernel
theorem dL_law_354 : decode cL_law 354 = .ok (.iadd, 1) := by decide +kernel
theorem dL_law_355 : decode cL_law 355 = .ok (.iaload, 1) := by decide +kernel
theorem dL_law_356 : decode cL_law 356 = .ok (.invokevirtual 31, 3) := by decide +kernel
theorem dL_law_359 : decode cL_law 359 = .ok (.if_icmp .eq 1168, 3) := by decide +kernel
theorem dL_law_362 : decode cL_law 362 = .ok (.iconst 0, 1) := by decide +kernel
theorem dL_law_363 : decode cL_law 363 = .ok (.ireturn, 1) := by decide +kernel
theorem dL_law_364 : decode cL_law 364 = .ok (.aload_n 1, 1) := by decide +kernel
theorem dL_law_365 : decode cL_law 365 = .ok (.aload_n 0, 1) := by decide +kernel
theorem dL_law_366 : decode cL_law 366 = .ok (.iload_n 3, 1) := by decide +kernel
theorem dL_law_367 : decode cL_law 367 = .ok (.iconst 1, 1) := by decide +kernel
theorem dL_law_368 : decode cL_law 368 = .ok (.iadd, 1) := by decide +kernel
theorem dL_law_369 : decode cL_law 369 = .ok (.iaload, 1) := by decide +kernel
theorem dL_law_370 : decode cL_law 370 = .ok (.aload_n 0, 1) := by decide +kernel
theorem dL_law_371 : decode cL_law 371 = .ok (.iload_n 3, 1) := by decide +kernel
theorem dL_law_372 : decode cL_law 372 = .ok (.iconst 2, 1) := by decide +kernel
theorem dL_law_373 : decode cL_law 373 = .ok (.iadd, 1) := by decide +kernel
theorem dL_law_374 : decode cL_law 374 = .ok (.iaload, 1) := by decide +kernel
theorem dL_law_375 : decode cL_law 375 = .ok (.aload_n 0, 1) := by decide +kernel
theorem dL_law_376 : decode cL_law 376 = .ok (.iload_n 3, 1) := by decide +kernel
theorem dL_law_377 : decode cL_law 377 = .ok (.iconst 3, 1) := by decide +kernel
theorem dL_law_378 : decode cL_law 378 = .ok (.iadd, 1) := by decide +kernel
theorem dL_law_379 : decode cL_law 379 = .ok (.iaload, 1) := by decide +kernel
theorem dL_law_380 : decode cL_law 380 = .ok (.aload_n 0, 1) := by decide +kernel
theorem dL_law_381 : decode cL_law 381 = .ok (.iload_n 3, 1) := by decide +kernel
theorem dL_law_382 : decode cL_law 382 = .ok (.iconst 4, 1) := by decide +kernel
theorem dL_law_383 : decode cL_law 383 = .ok (.iadd, 1) := by decide +kernel
theorem dL_law_384 : decode cL_law 384 = .ok (.iaload, 1) := by decide +kernel
theorem dL_law_385 : decode cL_law 385 = .ok (.aload_n 0, 1) := by decide +kernel
theorem dL_law_386 : decode cL_law 386 = .ok (.iload_n 3, 1) := by decide +kernel
theorem dL_law_387 : decode cL_law 387 = .ok (.iconst 5, 1) := by decide +kernel
theorem dL_law_388 : decode cL_law 388 = .ok (.iadd, 1) := by decide +kernel
theorem dL_law_389 : decode cL_law 389 = .ok (.iaload, 1) := by decide +kernel
theorem dL_law_390 : decode cL_law 390 = .ok (.invokevirtual 32, 3) := by decide +kernel
theorem dL_law_393 : decode cL_law 393 = .ok (.aload_n 2, 1) := by decide +kernel
theorem dL_law_394 : decode cL_law 394 = .ok (.aload_n 0, 1) := by decide +kernel
theorem dL_law_395 : decode cL_law 395 = .ok (.iload_n 3, 1) := by decide +kernel
theorem dL_law_396 : decode cL_law 396 = .ok (.iconst 1, 1) := by decide +kernel
theorem dL_law_397 : decode cL_law 397 = .ok (.iadd, 1) := by decide +kernel
theorem dL_law_398 : decode cL_law 398 = .ok (.iaload, 1) := by decide +kernel
theorem dL_law_399 : decode cL_law 399 = .ok (.aload_n 0, 1) := by decide +kernel
theorem dL_law_400 : decode cL_law 400 = .ok (.iload_n 3, 1) := by decide +kernel
theorem dL_law_401 : decode cL_law 401 = .ok (.iconst 2, 1) := by decide +kernel
theorem dL_law_402 : decode cL_law 402 = .ok (.iadd, 1) := by decide +kernel
theorem dL_law_403 : decode cL_law 403 = .ok (.iaload, 1) := by decide +kernel
theorem dL_law_404 : decode cL_law 404 = .ok (.aload_n 0, 1) := by decide +kernel
theorem dL_law_405 : decode cL_law 405 = .ok (.iload_n 3, 1) := by decide +kernel
theorem dL_law_406 : decode cL_law 406 = .ok (.iconst 3, 1) := by decide +kernel
theorem dL_law_407 : decode cL_law 407 = .ok (.iadd, 1) := by decide +kernel
theorem dL_law_408 : decode cL_law 408 = .ok (.iaload, 1) := by decide +kernel
theorem dL_law_409 : decode cL_law 409 = .ok (.aload_n 0, 1) := by decide +kernel
theorem dL_law_410 : decode cL_law 410 = .ok (.iload_n 3, 1) := by decide +kernel
theorem dL_law_411 : decode cL_law 411 = .ok (.iconst 4, 1) := by decide +kernel
theorem dL_law_412 : decode cL_law 412 = .ok (.iadd, 1) := by decide +kernel
theorem dL_law_413 : decode cL_law 413 = .ok (.iaload, 1) := by decide +kernel
theorem dL_law_414 : decode cL_law 414 = .ok (.aload_n 0, 1) := by decide +kernel
theorem dL_law_415 : decode cL_law 415 = .ok (.iload_n 3, 1) := by decide +kernel
theorem dL_law_416 : decode cL_law 416 = .ok (.iconst 5, 1) := by decide +kernel
theorem dL_law_417 : decode cL_law 417 = .ok (.iadd, 1) := by decide +kernel
theorem dL_law_418 : decode cL_law 418 = .ok (.iaload, 1) := by decide +kernel
theorem dL_law_419 : decode cL_law 419 = .ok (.invokevirtual 36, 3) := by decide +kernel
theorem dL_law_422 : decode cL_law 422 = .ok (.if_icmp .eq 1105, 3) := by decide +kernel
theorem dL_law_425 : decode cL_law 425 = .ok (.iconst 0, 1) := by decide +kernel
theorem dL_law_426 : decode cL_law 426 = .ok (.ireturn, 1) := by decide +kernel
theorem dL_law_427 : decode cL_law 427 = .ok (.aload_n 1, 1) := by decide +kernel
theorem dL_law_428 : decode cL_law 428 = .ok (.aload_n 0, 1) := by decide +kernel
theorem dL_law_429 : decode cL_law 429 = .ok (.iload_n 3, 1) := by decide +kernel
theorem dL_law_430 : decode cL_law 430 = .ok (.iconst 1, 1) := by decide +kernel
theorem dL_law_431 : decode cL_law 431 = .ok (.iadd, 1) := by decide +kernel
theorem dL_law_432 : decode cL_law 432 = .ok (.iaload, 1) := by decide +kernel
theorem dL_law_433 : decode cL_law 433 = .ok (.aload_n 0, 1) := by decide +kernel
theorem dL_law_434 : decode cL_law 434 = .ok (.iload_n 3, 1) := by decide +kernel
theorem dL_law_435 : decode cL_law 435 = .ok (.iconst 2, 1) := by decide +kernel
theorem dL_law_436 : decode cL_law 436 = .ok (.iadd, 1) := by decide +kernel
theorem dL_law_437 : decode cL_law 437 = .ok (.iaload, 1) := by decide +kernel
theorem dL_law_438 : decode cL_law 438 = .ok (.aload_n 0, 1) := by decide +kernel
theorem dL_law_439 : decode cL_law 439 = .ok (.iload_n 3, 1) := by decide +kernel
theorem dL_law_440 : decode cL_law 440 = .ok (.iconst 3, 1) := by decide +kernel
theorem dL_law_441 : decode cL_law 441 = .ok (.iadd, 1) := by decide +kernel
theorem dL_law_442 : decode cL_law 442 = .ok (.iaload, 1) := by decide +kernel
theorem dL_law_443 : decode cL_law 443 = .ok (.invokevirtual 37, 3) := by decide +kernel
theorem dL_law_446 : decode cL_law 446 = .ok (.aload_n 2, 1) := by decide +kernel
theorem dL_law_447 : decode cL_law 447 = .ok (.aload_n 0, 1) := by decide +kernel
theorem dL_law_448 : decode cL_law 448 = .ok (.iload_n 3, 1) := by decide +kernel
theorem dL_law_449 : decode cL_law 449 = .ok (.iconst 1, 1) := by decide +kernel
theorem dL_law_450 : decode cL_law 450 = .ok (.iadd, 1) := by decide +kernel
theorem dL_law_451 : decode cL_law 451 = .ok (.iaload, 1) := by decide +kernel
theorem dL_law_452 : decode cL_law 452 = .ok (.aload_n 0, 1) := by decide +kernel
theorem dL_law_453 : decode cL_law 453 = .ok (.iload_n 3, 1) := by decide +kernel
theorem dL_law_454 : decode cL_law 454 = .ok (.iconst 2, 1) := by decide +kernel
theorem dL_law_455 : decode cL_law 455 = .ok (.iadd, 1) := by decide +kernel
theorem dL_law_456 : decode cL_law 456 = .ok (.iaload, 1) := by decide +kernel
theorem dL_law_457 : decode cL_law 457 = .ok (.aload_n 0, 1) := by decide +kernel
theorem dL_law_458 : decode cL_law 458 = .ok (.iload_n 3, 1) := by decide +kernel
theorem dL_law_459 : decode cL_law 459 = .ok (.iconst 3, 1) := by decide +kernel
theorem dL_law_460 : decode cL_law 460 = .ok (.iadd, 1) := by decide +kernel
theorem dL_law_461 : decode cL_law 461 = .ok (.iaload, 1) := by decide +kernel
theorem dL_law_462 : decode cL_law 462 = .ok (.invokevirtual 40, 3) := by decide +kernel
theorem dL_law_465 : decode cL_law 465 = .ok (.if_icmp .eq 1062, 3) := by decide +kernel
theorem dL_law_468 : decode cL_law 468 = .ok (.iconst 0, 1) := by decide +kernel
theorem dL_law_469 : decode cL_law 469 = .ok (.ireturn, 1) := by decide +kernel
theorem dL_law_470 : decode cL_law 470 = .ok (.aload_n 1, 1) := by decide +kernel
theorem dL_law_471 : decode cL_law 471 = .ok (.aload_n 0, 1) := by decide +kernel
theorem dL_law_472 : decode cL_law 472 = .ok (.iload_n 3, 1) := by decide +kernel
theorem dL_law_473 : decode cL_law 473 = .ok (.iconst 1, 1) := by decide +kernel
theorem dL_law_474 : decode cL_law 474 = .ok (.iadd, 1) := by decide +kernel
theorem dL_law_475 : decode cL_law 475 = .ok (.iaload, 1) := by decide +kernel
theorem dL_law_476 : decode cL_law 476 = .ok (.invokevirtual 41, 3) := by decide +kernel
theorem dL_law_479 : decode cL_law 479 = .ok (.aload_n 2, 1) := by decide +kernel
theorem dL_law_480 : decode cL_law 480 = .ok (.aload_n 0, 1) := by decide +kernel
theorem dL_law_481 : decode cL_law 481 = .ok (.iload_n 3, 1) := by decide +kernel
theorem dL_law_482 : decode cL_law 482 = .ok (.iconst 1, 1) := by decide +kernel
theorem dL_law_483 : decode cL_law 483 = .ok (.iadd, 1) := by decide +kernel
theorem dL_law_484 : decode cL_law 484 = .ok (.iaload, 1) := by decide +kernel
theorem dL_law_485 : decode cL_law 485 = .ok (.invokevirtual 45, 3) := by decide +kernel
theorem dL_law_488 : decode cL_law 488 = .ok (.if_icmp .eq 1039, 3) := by decide +kernel
theorem dL_law_491 : decode cL_law 491 = .ok (.iconst 0, 1) := by decide +kernel
theorem dL_law_492 : decode cL_law 492 = .ok (.ireturn, 1) := by decide +kernel
theorem dL_law_493 : decode cL_law 493 = .ok (.aload_n 1, 1) := by decide +kernel
theorem dL_law_494 : decode cL_law 494 = .ok (.aload_n 0, 1) := by decide +kernel
theorem dL_law_495 : decode cL_law 495 = .ok (.iload_n 3, 1) := by decide +kernel
theorem dL_law_496 : decode cL_law 496 = .ok (.iconst 1, 1) := by decide +kernel
theorem dL_law_497 : decode cL_law 497 = .ok (.iadd, 1) := by decide +kernel
theorem dL_law_498 : decode cL_law 498 = .ok (.iaload, 1) := by decide +kernel
theorem dL_law_499 : decode cL_law 499 = .ok (.aload_n 0, 1) := by decide +kernel
theorem dL_law_500 : decode cL_law 500 = .ok (.iload_n 3, 1) := by decide +kernel
theorem dL_law_501 : decode cL_law 501 = .ok (.iconst 2, 1) := by decide +kernel
theorem dL_law_502 : decode cL_law 502 = .ok (.iadd, 1) := by decide +kernel
theorem dL_law_503 : decode cL_law 503 = .ok (.iaload, 1) := by decide +kernel
theorem dL_law_504 : decode cL_law 504 = .ok (.aload_n 0, 1) := by decide +kernel
theorem dL_law_505 : decode cL_law 505 = .ok (.iload_n 3, 1) := by decide +kernel
theorem dL_law_506 : decode cL_law 506 = .ok (.iconst 3, 1) := by decide +kernel
theorem dL_law_507 : decode cL_law 507 = .ok (.iadd, 1) := by decide +kernel
theorem dL_law_508 : decode cL_law 508 = .ok (.iaload, 1) := by decide +kernel
theorem dL_law_509 : decode cL_law 509 = .ok (.invokevirtual 46, 3) := by decide +kernel
theorem dL_law_512 : decode cL_law 512 = .ok (.aload_n 2, 1) := by decide +kernel
theorem dL_law_513 : decode cL_law 513 = .ok (.aload_n 0, 1) := by decide +kernel
theorem dL_law_514 : decode cL_law 514 = .ok (.iload_n 3, 1) := by decide +kernel
theorem dL_law_515 : decode cL_law 515 = .ok (.iconst 1, 1) := by decide +kernel
theorem dL_law_516 : decode cL_law 516 = .ok (.iadd, 1) := by decide +kernel
theorem dL_law_517 : decode cL_law 517 = .ok (.iaload, 1) := by decide +kernel
theorem dL_law_518 : decode cL_law 518 = .ok (.aload_n 0, 1) := by decide +kernel
theorem dL_law_519 : decode cL_law 519 = .ok (.iload_n 3, 1) := by decide +kernel
theorem dL_law_520 : decode cL_law 520 = .ok (.iconst 2, 1) := by decide +kernel
theorem dL_law_521 : decode cL_law 521 = .ok (.iadd, 1) := by decide +kernel
theorem dL_law_522 : decode cL_law 522 = .ok (.iaload, 1) := by decide +kernel
theorem dL_law_523 : decode cL_law 523 = .ok (.aload_n 0, 1) := by decide +kernel
theorem dL_law_524 : decode cL_law 524 = .ok (.iload_n 3, 1) := by decide +kernel
theorem dL_law_525 : decode cL_law 525 = .ok (.iconst 3, 1) := by decide +kernel
theorem dL_law_526 : decode cL_law 526 = .ok (.iadd, 1) := by decide +kernel
theorem dL_law_527 : decode cL_law 527 = .ok (.iaload, 1) := by decide +kernel
theorem dL_law_528 : decode cL_law 528 = .ok (.invokevirtual 49, 3) := by decide +kernel
theorem dL_law_531 : decode cL_law 531 = .ok (.if_icmp .eq 996, 3) := by decide +kernel
theorem dL_law_534 : decode cL_law 534 = .ok (.iconst 0, 1) := by decide +kernel
theorem dL_law_535 : decode cL_law 535 = .ok (.ireturn, 1) := by decide +kernel
theorem dL_law_536 : decode cL_law 536 = .ok (.aload_n 1, 1) := by decide +kernel
theorem dL_law_537 : decode cL_law 537 = .ok (.aload_n 0, 1) := by decide +kernel
theorem dL_law_538 : decode cL_law 538 = .ok (.iload_n 3, 1) := by decide +kernel
theorem dL_law_539 : decode cL_law 539 = .ok (.iconst 1, 1) := by decide +kernel
theorem dL_law_540 : decode cL_law 540 = .ok (.iadd, 1) := by decide +kernel
theorem dL_law_541 : decode cL_law 541 = .ok (.iaload, 1) := by decide +kernel
theorem dL_law_542 : decode cL_law 542 = .ok (.aload_n 0, 1) := by decide +kernel
theorem dL_law_543 : decode cL_law 543 = .ok (.iload_n 3, 1) := by decide +kernel
theorem dL_law_544 : decode cL_law 544 = .ok (.iconst 2, 1) := by decide +kernel
theorem dL_law_545 : decode cL_law 545 = .ok (.iadd, 1) := by decide +kernel
theorem dL_law_546 : decode cL_law 546 = .ok (.iaload, 1) := by decide +kernel
theorem dL_law_547 : decode cL_law 547 = .ok (.invokevirtual 50, 3) := by decide +kernel
theorem dL_law_550 : decode cL_law 550 = .ok (.aload_n 2, 1) := by decide +kernel
theorem dL_law_551 : decode cL_law 551 = .ok (.aload_n 0, 1) := by decide +kernel
theorem dL_law_552 : decode cL_law 552 = .ok (.iload_n 3, 1) := by decide +kernel
theorem dL_law_553 : decode cL_law 553 = .ok (.iconst 1, 1) := by decide +kernel
theorem dL_law_554 : decode cL_law 554 = .ok (.iadd, 1) := by decide +kernel
theorem dL_law_555 : decode cL_law 555 = .ok (.iaload, 1) := by decide +kernel
theorem dL_law_556 : decode cL_law 556 = .ok (.aload_n 0, 1) := by decide +kernel
theorem dL_law_557 : decode cL_law 557 = .ok (.iload_n 3, 1) := by decide +kernel
theorem dL_law_558 : decode cL_law 558 = .ok (.iconst 2, 1) := by decide +kernel
theorem dL_law_559 : decode cL_law 559 = .ok (.iadd, 1) := by decide +kernel
theorem dL_law_560 : decode cL_law 560 = .ok (.iaload, 1) := by decide +kernel
theorem dL_law_561 : decode cL_law 561 = .ok (.invokevirtual 54, 3) := by decide +kernel
theorem dL_law_564 : decode cL_law 564 = .ok (.if_icmp .eq 963, 3) := by decide +kernel
theorem dL_law_567 : decode cL_law 567 = .ok (.iconst 0, 1) := by decide +kernel
theorem dL_law_568 : decode cL_law 568 = .ok (.ireturn, 1) := by decide +kernel
theorem dL_law_569 : decode cL_law 569 = .ok (.aload_n 1, 1) := by decide +kernel
theorem dL_law_570 : decode cL_law 570 = .ok (.invokevirtual 55, 3) := by decide +kernel
theorem dL_law_573 : decode cL_law 573 = .ok (.aload_n 2, 1) := by decide +kernel
theorem dL_law_574 : decode cL_law 574 = .ok (.invokevirtual 58, 3) := by decide +kernel
theorem dL_law_577 : decode cL_law 577 = .ok (.if_icmp .eq 950, 3) := by decide +kernel
theorem dL_law_580 : decode cL_law 580 = .ok (.iconst 0, 1) := by decide +kernel
theorem dL_law_581 : decode cL_law 581 = .ok (.ireturn, 1) := by decide +kernel
theorem dL_law_582 : decode cL_law 582 = .ok (.aload_n 1, 1) := by decide +kernel
theorem dL_law_583 : decode cL_law 583 = .ok (.aload_n 0, 1) := by decide +kernel
theorem dL_law_584 : decode cL_law 584 = .ok (.iload_n 3, 1) := by decide +kernel
theorem dL_law_585 : decode cL_law 585 = .ok (.iconst 1, 1) := by decide +kernel
theorem dL_law_586 : decode cL_law 586 = .ok (.iadd, 1) := by decide +kernel
theorem dL_law_587 : decode cL_law 587 = .ok (.iaload, 1) := by decide +kernel
theorem dL_law_588 : decode cL_law 588 = .ok (.aload_n 0, 1) := by decide +kernel
theorem dL_law_589 : decode cL_law 589 = .ok (.iload_n 3, 1) := by decide +kernel
theorem dL_law_590 : decode cL_law 590 = .ok (.iconst 2, 1) := by decide +kernel
theorem dL_law_591 : decode cL_law 591 = .ok (.iadd, 1) := by decide +kernel
theorem dL_law_592 : decode cL_law 592 = .ok (.iaload, 1) := by decide +kernel
theorem dL_law_593 : decode cL_law 593 = .ok (.aload_n 0, 1) := by decide +kernel
theorem dL_law_594 : decode cL_law 594 = .ok (.iload_n 3, 1) := by decide +kernel
theorem dL_law_595 : decode cL_law 595 = .ok (.iconst 3, 1) := by decide +kernel
theorem dL_law_596 : decode cL_law 596 = .ok (.iadd, 1) := by decide +kernel
theorem dL_law_597 : decode cL_law 597 = .ok (.iaload, 1) := by decide +kernel
theorem dL_law_598 : decode cL_law 598 = .ok (.invokevirtual 59, 3) := by decide +kernel
theorem dL_law_601 : decode cL_law 601 = .ok (.aload_n 2, 1) := by decide +kernel
theorem dL_law_602 : decode cL_law 602 = .ok (.aload_n 0, 1) := by decide +kernel
theorem dL_law_603 : decode cL_law 603 = .ok (.iload_n 3, 1) := by decide +kernel
theorem dL_law_604 : decode cL_law 604 = .ok (.iconst 1, 1) := by decide +kernel
theorem dL_law_605 : decode cL_law 605 = .ok (.iadd, 1) := by decide +kernel
theorem dL_law_606 : decode cL_law 606 = .ok (.iaload, 1) := by decide +kernel
theorem dL_law_607 : decode cL_law 607 = .ok (.aload_n 0, 1) := by decide +kernel
theorem dL_law_608 : decode cL_law 608 = .ok (.iload_n 3, 1) := by decide +kernel
theorem dL_law_609 : decode cL_law 609 = .ok (.iconst 2, 1) := by decide +kernel
theorem dL_law_610 : decode cL_law 610 = .ok (.iadd, 1) := by decide +kernel
theorem dL_law_611 : decode cL_law 611 = .ok (.iaload, 1) := by decide +kernel
theorem dL_law_612 : decode cL_law 612 = .ok (.aload_n 0, 1) := by decide +kernel
theorem dL_law_613 : decode cL_law 613 = .ok (.iload_n 3, 1) := by decide +kernel
theorem dL_law_614 : decode cL_law 614 = .ok (.iconst 3, 1) := by decide +kernel
theorem dL_law_615 : decode cL_law 615 = .ok (.iadd, 1) := by decide +kernel
theorem dL_law_616 : decode cL_law 616 = .ok (.iaload, 1) := by decide +kernel
theorem dL_law_617 : decode cL_law 617 = .ok (.invokevirtual 62, 3) := by decide +kernel
theorem dL_law_620 : decode cL_law 620 = .ok (.if_icmp .eq 907, 3) := by decide +kernel
theorem dL_law_623 : decode cL_law 623 = .ok (.iconst 0, 1) := by decide +kernel
theorem dL_law_624 : decode cL_law 624 = .ok (.ireturn, 1) := by decide +kernel
theorem dL_law_625 : decode cL_law 625 = .ok (.aload_n 1, 1) := by decide +kernel
theorem dL_law_626 : decode cL_law 626 = .ok (.aload_n 0, 1) := by decide +kernel
theorem dL_law_627 : decode cL_law 627 = .ok (.iload_n 3, 1) := by decide +kernel
theorem dL_law_628 : decode cL_law 628 = .ok (.iconst 1, 1) := by decide +kernel
theorem dL_law_629 : decode cL_law 629 = .ok (.iadd, 1) := by decide +kernel
theorem dL_law_630 : decode cL_law 630 = .ok (.iaload, 1) := by decide +kernel
theorem dL_law_631 : decode cL_law 631 = .ok (.aload_n 0, 1) := by decide +kernel
theorem dL_law_632 : decode cL_law 632 = .ok (.iload_n 3, 1) := by decide +kernel
theorem dL_law_633 : decode cL_law 633 = .ok (.iconst 2, 1) := by decide +kernel
theorem dL_law_634 : decode cL_law 634 = .ok (.iadd, 1) := by decide +kernel
theorem dL_law_635 : decode cL_law 635 = .ok (.iaload, 1) := by decide +kernel
theorem dL_law_636 : decode cL_law 636 = .ok (.aload_n 0, 1) := by decide +kernel
theorem dL_law_637 : decode cL_law 637 = .ok (.iload_n 3, 1) := by decide +kernel
theorem dL_law_638 : decode cL_law 638 = .ok (.iconst 3, 1) := by decide +kernel
theorem dL_law_639 : decode cL_law 639 = .ok (.iadd, 1) := by decide +kernel
theorem dL_law_640 : decode cL_law 640 = .ok (.iaload, 1) := by decide +kernel
theorem dL_law_641 : decode cL_law 641 = .ok (.invokevirtual 63, 3) := by decide +kernel
theorem dL_law_644 : decode cL_law 644 = .ok (.aload_n 2, 1) := by decide +kernel
theorem dL_law_645 : decode cL_law 645 = .ok (.aload_n 0, 1) := by decide +kernel
theorem dL_law_646 : decode cL_law 646 = .ok (.iload_n 3, 1) := by decide +kernel
theorem dL_law_647 : decode cL_law 647 = .ok (.iconst 1, 1) := by decide +kernel
theorem dL_law_648 : decode cL_law 648 = .ok (.iadd, 1) := by decide +kernel
theorem dL_law_649 : decode cL_law 649 = .ok (.iaload, 1) := by decide +kernel
theorem dL_law_650 : decode cL_law 650 = .ok (.aload_n 0, 1) := by decide +kernel
theorem dL_law_651 : decode cL_law 651 = .ok (.iload_n 3, 1) := by decide +kernel
theorem dL_law_652 : decode cL_law 652 = .ok (.iconst 2, 1) := by decide +kernel
theorem dL_law_653 : decode cL_law 653 = .ok (.iadd, 1) := by decide +kernel
theorem dL_law_654 : decode cL_law 654 = .ok (.iaload, 1) := by decide +kernel
theorem dL_law_655 : decode cL_law 655 = .ok (.aload_n 0, 1) := by decide +kernel
theorem dL_law_656 : decode cL_law 656 = .ok (.iload_n 3, 1) := by decide +kernel
theorem dL_law_657 : decode cL_law 657 = .ok (.iconst 3, 1) := by decide +kernel
theorem dL_law_658 : decode cL_law 658 = .ok (.iadd, 1) := by decide +kernel
theorem dL_law_659 : decode cL_law 659 = .ok (.iaload, 1) := by decide +kernel
theorem dL_law_660 : decode cL_law 660 = .ok (.invokevirtual 66, 3) := by decide +kernel
theorem dL_law_663 : decode cL_law 663 = .ok (.if_icmp .eq 864, 3) := by decide +kernel
theorem dL_law_666 : decode cL_law 666 = .ok (.iconst 0, 1) := by decide +kernel
theorem dL_law_667 : decode cL_law 667 = .ok (.ireturn, 1) := by decide +kernel
theorem dL_law_668 : decode cL_law 668 = .ok (.aload_n 1, 1) := by decide +kernel
theorem dL_law_669 : decode cL_law 669 = .ok (.aload_n 0, 1) := by decide +kernel
theorem dL_law_670 : decode cL_law 670 = .ok (.iload_n 3, 1) := by decide +kernel
theorem dL_law_671 : decode cL_law 671 = .ok (.iconst 1, 1) := by decide +kernel
theorem dL_law_672 : decode cL_law 672 = .ok (.iadd, 1) := by decide +kernel
theorem dL_law_673 : decode cL_law 673 = .ok (.iaload, 1) := by decide +kernel
theorem dL_law_674 : decode cL_law 674 = .ok (.aload_n 0, 1) := by decide +kernel
theorem dL_law_675 : decode cL_law 675 = .ok (.iload_n 3, 1) := by decide +kernel
theorem dL_law_676 : decode cL_law 676 = .ok (.iconst 2, 1) := by decide +kernel
theorem dL_law_677 : decode cL_law 677 = .ok (.iadd, 1) := by decide +kernel
theorem dL_law_678 : decode cL_law 678 = .ok (.iaload, 1) := by decide +kernel
theorem dL_law_679 : decode cL_law 679 = .ok (.aload_n 0, 1) := by decide +kernel
theorem dL_law_680 : decode cL_law 680 = .ok (.iload_n 3, 1) := by decide +kernel
theorem dL_law_681 : decode cL_law 681 = .ok (.iconst 3, 1) := by decide +kernel
theorem dL_law_682 : decode cL_law 682 = .ok (.iadd, 1) := by decide +kernel
theorem dL_law_683 : decode cL_law 683 = .ok (.iaload, 1) := by decide +kernel
theorem dL_law_684 : decode cL_law 684 = .ok (.invokevirtual 67, 3) := by decide +kernel
theorem dL_law_687 : decode cL_law 687 = .ok (.aload_n 2, 1) := by decide +kernel
theorem dL_law_688 : decode cL_law 688 = .ok (.aload_n 0, 1) := by decide +kernel
theorem dL_law_689 : decode cL_law 689 = .ok (.iload_n 3, 1) := by decide +kernel
theorem dL_law_690 : decode cL_law 690 = .ok (.iconst 1, 1) := by decide +kernel
theorem dL_law_691 : decode cL_law 691 = .ok (.iadd, 1) := by decide +kernel
theorem dL_law_692 : decode cL_law 692 = .ok (.iaload, 1) := by decide +kernel
theorem dL_law_693 : decode cL_law 693 = .ok (.aload_n 0, 1) := by decide +kernel
theorem dL_law_694 : decode cL_law 694 = .ok (.iload_n 3, 1) := by decide +kernel
theorem dL_law_695 : decode cL_law 695 = .ok (.iconst 2, 1) := by decide +kernel
theorem dL_law_696 : decode cL_law 696 = .ok (.iadd, 1) := by decide +kernel
theorem dL_law_697 : decode cL_law 697 = .ok (.iaload, 1) := by decide +kernel
theorem dL_law_698 : decode cL_law 698 = .ok (.aload_n 0, 1) := by decide +kernel
theorem dL_law_699 : decode cL_law 699 = .ok (.iload_n 3, 1) := by decide +kernel
theorem dL_law_700 : decode cL_law 700 = .ok (.iconst 3, 1) := by decide +kernel
theorem dL_law_701 : decode cL_law 701 = .ok (.iadd, 1) := by decide +kernel
theorem dL_law_702 : decode cL_law 702 = .ok (.iaload, 1) := by decide +kernel
theorem dL_law_703 : decode cL_law 703 = .ok (.invokevirtual 71, 3) := by decide +kernel
theorem dL_law_706 : decode cL_law 706 = .ok (.lcmp, 1) := by decide +kernel
theorem dL_law_707 : decode cL_law 707 = .ok (.ifCond .eq 820, 3) := by decide +kernel
theorem dL_law_710 : decode cL_law 710 = .ok (.iconst 0, 1) := by decide +kernel
theorem dL_law_711 : decode cL_law 711 = .ok (.ireturn, 1) := by decide +kernel
theorem dL_law_712 : decode cL_law 712 = .ok (.aload_n 1, 1) := by decide +kernel
theorem dL_law_713 : decode cL_law 713 = .ok (.aload_n 0, 1) := by decide +kernel
theorem dL_law_714 : decode cL_law 714 = .ok (.iload_n 3, 1) := by decide +kernel
theorem dL_law_715 : decode cL_law 715 = .ok (.iconst 1, 1) := by decide +kernel
theorem dL_law_716 : decode cL_law 716 = .ok (.iadd, 1) := by decide +kernel
theorem dL_law_717 : decode cL_law 717 = .ok (.iaload, 1) := by decide +kernel
theorem dL_law_718 : decode cL_law 718 = .ok (.invokevirtual 72, 3) := by decide +kernel
theorem dL_law_721 : decode cL_law 721 = .ok (.aload_n 2, 1) := by decide +kernel
theorem dL_law_722 : decode cL_law 722 = .ok (.aload_n 0, 1) := by decide +kernel
theorem dL_law_723 : decode cL_law 723 = .ok (.iload_n 3, 1) := by decide +kernel
theorem dL_law_724 : decode cL_law 724 = .ok (.iconst 1, 1) := by decide +kernel
theorem dL_law_725 : decode cL_law 725 = .ok (.iadd, 1) := by decide +kernel
theorem dL_law_726 : decode cL_law 726 = .ok (.iaload, 1) := by decide +kernel
theorem dL_law_727 : decode cL_law 727 = .ok (.invokevirtual 75, 3) := by decide +kernel
theorem dL_law_730 : decode cL_law 730 = .ok (.if_icmp .eq 797, 3) := by decide +kernel
theorem dL_law_733 : decode cL_law 733 = .ok (.iconst 0, 1) := by decide +kernel
theorem dL_law_734 : decode cL_law 734 = .ok (.ireturn, 1) := by decide +kernel
theorem dL_law_735 : decode cL_law 735 = .ok (.aload_n 1, 1) := by decide +kernel
theorem dL_law_736 : decode cL_law 736 = .ok (.aload_n 0, 1) := by decide +kernel
theorem dL_law_737 : decode cL_law 737 = .ok (.iload_n 3, 1) := by decide +kernel
theorem dL_law_738 : decode cL_law 738 = .ok (.iconst 1, 1) := by decide +kernel
theorem dL_law_739 : decode cL_law 739 = .ok (.iadd, 1) := by decide +kernel
theorem dL_law_740 : decode cL_law 740 = .ok (.iaload, 1) := by decide +kernel
theorem dL_law_741 : decode cL_law 741 = .ok (.invokevirtual 76, 3) := by decide +kernel
theorem dL_law_744 : decode cL_law 744 = .ok (.aload_n 2, 1) := by decide +kernel
theorem dL_law_745 : decode cL_law 745 = .ok (.aload_n 0, 1) := by decide +kernel
theorem dL_law_746 : decode cL_law 746 = .ok (.iload_n 3, 1) := by decide +kernel
theorem dL_law_747 : decode cL_law 747 = .ok (.iconst 1, 1) := by decide +kernel
theorem dL_law_748 : decode cL_law 748 = .ok (.iadd, 1) := by decide +kernel
theorem dL_law_749 : decode cL_law 749 = .ok (.iaload, 1) := by decide +kernel
theorem dL_law_750 : decode cL_law 750 = .ok (.invokevirtual 79, 3) := by decide +kernel
theorem dL_law_753 : decode cL_law 753 = .ok (.if_icmp .eq 774, 3) := by decide +kernel
theorem dL_law_756 : decode cL_law 756 = .ok (.iconst 0, 1) := by decide +kernel
theorem dL_law_757 : decode cL_law 757 = .ok (.ireturn, 1) := by decide +kernel
theorem dL_law_758 : decode cL_law 758 = .ok (.aload_n 1, 1) := by decide +kernel
theorem dL_law_759 : decode cL_law 759 = .ok (.aload_n 0, 1) := by decide +kernel
theorem dL_law_760 : decode cL_law 760 = .ok (.iload_n 3, 1) := by decide +kernel
theorem dL_law_761 : decode cL_law 761 = .ok (.iconst 1, 1) := by decide +kernel
theorem dL_law_762 : decode cL_law 762 = .ok (.iadd, 1) := by decide +kernel
theorem dL_law_763 : decode cL_law 763 = .ok (.iaload, 1) := by decide +kernel
theorem dL_law_764 : decode cL_law 764 = .ok (.invokevirtual 80, 3) := by decide +kernel
theorem dL_law_767 : decode cL_law 767 = .ok (.aload_n 2, 1) := by decide +kernel
theorem dL_law_768 : decode cL_law 768 = .ok (.aload_n 0, 1) := by decide +kernel
theorem dL_law_769 : decode cL_law 769 = .ok (.iload_n 3, 1) := by decide +kernel
theorem dL_law_770 : decode cL_law 770 = .ok (.iconst 1, 1) := by decide +kernel
theorem dL_law_771 : decode cL_law 771 = .ok (.iadd, 1) := by decide +kernel
theorem dL_law_772 : decode cL_law 772 = .ok (.iaload, 1) := by decide +kernel
theorem dL_law_773 : decode cL_law 773 = .ok (.invokevirtual 83, 3) := by decide +kernel
theorem dL_law_776 : decode cL_law 776 = .ok (.if_icmp .eq 751, 3) := by decide +kernel
theorem dL_law_779 : decode cL_law 779 = .ok (.iconst 0, 1) := by decide +kernel
theorem dL_law_780 : decode cL_law 780 = .ok (.ireturn, 1) := by decide +kernel
theorem dL_law_781 : decode cL_law 781 = .ok (.aload_n 1, 1) := by decide +kernel
theorem dL_law_782 : decode cL_law 782 = .ok (.aload_n 0, 1) := by decide +kernel
theorem dL_law_783 : decode cL_law 783 = .ok (.iload_n 3, 1) := by decide +kernel
theorem dL_law_784 : decode cL_law 784 = .ok (.iconst 1, 1) := by decide +kernel
theorem dL_law_785 : decode cL_law 785 = .ok (.iadd, 1) := by decide +kernel
theorem dL_law_786 : decode cL_law 786 = .ok (.iaload, 1) := by decide +kernel
theorem dL_law_787 : decode cL_law 787 = .ok (.aload_n 0, 1) := by decide +kernel
theorem dL_law_788 : decode cL_law 788 = .ok (.iload_n 3, 1) := by decide +kernel
theorem dL_law_789 : decode cL_law 789 = .ok (.iconst 2, 1) := by decide +kernel
theorem dL_law_790 : decode cL_law 790 = .ok (.iadd, 1) := by decide +kernel
theorem dL_law_791 : decode cL_law 791 = .ok (.iaload, 1) := by decide +kernel
theorem dL_law_792 : decode cL_law 792 = .ok (.invokevirtual 84, 3) := by decide +kernel
theorem dL_law_795 : decode cL_law 795 = .ok (.aload_n 2, 1) := by decide +kernel
theorem dL_law_796 : decode cL_law 796 = .ok (.aload_n 0, 1) := by decide +kernel
theorem dL_law_797 : decode cL_law 797 = .ok (.iload_n 3, 1) := by decide +kernel
theorem dL_law_798 : decode cL_law 798 = .ok (.iconst 1, 1) := by decide +kernel
theorem dL_law_799 : decode cL_law 799 = .ok (.iadd, 1) := by decide +kernel
theorem dL_law_800 : decode cL_law 800 = .ok (.iaload, 1) := by decide +kernel
theorem dL_law_801 : decode cL_law 801 = .ok (.aload_n 0, 1) := by decide +kernel
theorem dL_law_802 : decode cL_law 802 = .ok (.iload_n 3, 1) := by decide +kernel
theorem dL_law_803 : decode cL_law 803 = .ok (.iconst 2, 1) := by decide +kernel
theorem dL_law_804 : decode cL_law 804 = .ok (.iadd, 1) := by decide +kernel
theorem dL_law_805 : decode cL_law 805 = .ok (.iaload, 1) := by decide +kernel
theorem dL_law_806 : decode cL_law 806 = .ok (.invokevirtual 87, 3) := by decide +kernel
theorem dL_law_809 : decode cL_law 809 = .ok (.if_icmp .eq 718, 3) := by decide +kernel
theorem dL_law_812 : decode cL_law 812 = .ok (.iconst 0, 1) := by decide +kernel
theorem dL_law_813 : decode cL_law 813 = .ok (.ireturn, 1) := by decide +kernel
theorem dL_law_814 : decode cL_law 814 = .ok (.aload_n 1, 1) := by decide +kernel
theorem dL_law_815 : decode cL_law 815 = .ok (.aload_n 0, 1) := by decide +kernel
theorem dL_law_816 : decode cL_law 816 = .ok (.iload_n 3, 1) := by decide +kernel
theorem dL_law_817 : decode cL_law 817 = .ok (.iconst 1, 1) := by decide +kernel
theorem dL_law_818 : decode cL_law 818 = .ok (.iadd, 1) := by decide +kernel
theorem dL_law_819 : decode cL_law 819 = .ok (.iaload, 1) := by decide +kernel
theorem dL_law_820 : decode cL_law 820 = .ok (.invokevirtual 88, 3) := by decide +kernel
theorem dL_law_823 : decode cL_law 823 = .ok (.aload_n 2, 1) := by decide +kernel
theorem dL_law_824 : decode cL_law 824 = .ok (.aload_n 0, 1) := by decide +kernel
theorem dL_law_825 : decode cL_law 825 = .ok (.iload_n 3, 1) := by decide +kernel
theorem dL_law_826 : decode cL_law 826 = .ok (.iconst 1, 1) := by decide +kernel
theorem dL_law_827 : decode cL_law 827 = .ok (.iadd, 1) := by decide +kernel
theorem dL_law_828 : decode cL_law 828 = .ok (.iaload, 1) := by decide +kernel
theorem dL_law_829 : decode cL_law 829 = .ok (.invokevirtual 91, 3) := by decide +kernel
theorem dL_law_832 : decode cL_law 832 = .ok (.if_icmp .eq 695, 3) := by decide +kernel
theorem dL_law_835 : decode cL_law 835 = .ok (.iconst 0, 1) := by decide +kernel
theorem dL_law_836 : decode cL_law 836 = .ok (.ireturn, 1) := by decide +kernel
theorem dL_law_837 : decode cL_law 837 = .ok (.aload_n 1, 1) := by decide +kernel
theorem dL_law_838 : decode cL_law 838 = .ok (.aload_n 0, 1) := by decide +kernel
theorem dL_law_839 : decode cL_law 839 = .ok (.iload_n 3, 1) := by decide +kernel
theorem dL_law_840 : decode cL_law 840 = .ok (.iconst 1, 1) := by decide +kernel
theorem dL_law_841 : decode cL_law 841 = .ok (.iadd, 1) := by decide +kernel
theorem dL_law_842 : decode cL_law 842 = .ok (.iaload, 1) := by decide +kernel
theorem dL_law_843 : decode cL_law 843 = .ok (.aload_n 0, 1) := by decide +kernel
theorem dL_law_844 : decode cL_law 844 = .ok (.iload_n 3, 1) := by decide +kernel
theorem dL_law_845 : decode cL_law 845 = .ok (.iconst 2, 1) := by decide +kernel
theorem dL_law_846 : decode cL_law 846 = .ok (.iadd, 1) := by decide +kernel
theorem dL_law_847 : decode cL_law 847 = .ok (.iaload, 1) := by decide +kernel
theorem dL_law_848 : decode cL_law 848 = .ok (.invokevirtual 92, 3) := by decide +kernel
theorem dL_law_851 : decode cL_law 851 = .ok (.aload_n 2, 1) := by decide +kernel
theorem dL_law_852 : decode cL_law 852 = .ok (.aload_n 0, 1) := by decide +kernel
theorem dL_law_853 : decode cL_law 853 = .ok (.iload_n 3, 1) := by decide +kernel
theorem dL_law_854 : decode cL_law 854 = .ok (.iconst 1, 1) := by decide +kernel
theorem dL_law_855 : decode cL_law 855 = .ok (.iadd, 1) := by decide +kernel
theorem dL_law_856 : decode cL_law 856 = .ok (.iaload, 1) := by decide +kernel
theorem dL_law_857 : decode cL_law 857 = .ok (.aload_n 0, 1) := by decide +kernel
theorem dL_law_858 : decode cL_law 858 = .ok (.iload_n 3, 1) := by decide +kernel
theorem dL_law_859 : decode cL_law 859 = .ok (.iconst 2, 1) := by decide +kernel
theorem dL_law_860 : decode cL_law 860 = .ok (.iadd, 1) := by decide +kernel
theorem dL_law_861 : decode cL_law 861 = .ok (.iaload, 1) := by decide +kernel
theorem dL_law_862 : decode cL_law 862 = .ok (.invokevirtual 95, 3) := by decide +kernel
theorem dL_law_865 : decode cL_law 865 = .ok (.if_icmp .eq 662, 3) := by decide +kernel
theorem dL_law_868 : decode cL_law 868 = .ok (.iconst 0, 1) := by decide +kernel
theorem dL_law_869 : decode cL_law 869 = .ok (.ireturn, 1) := by decide +kernel
theorem dL_law_870 : decode cL_law 870 = .ok (.aload_n 1, 1) := by decide +kernel
theorem dL_law_871 : decode cL_law 871 = .ok (.aload_n 0, 1) := by decide +kernel
theorem dL_law_872 : decode cL_law 872 = .ok (.iload_n 3, 1) := by decide +kernel
theorem dL_law_873 : decode cL_law 873 = .ok (.iconst 1, 1) := by decide +kernel
theorem dL_law_874 : decode cL_law 874 = .ok (.iadd, 1) := by decide +kernel
theorem dL_law_875 : decode cL_law 875 = .ok (.iaload, 1) := by decide +kernel
theorem dL_law_876 : decode cL_law 876 = .ok (.aload_n 0, 1) := by decide +kernel
theorem dL_law_877 : decode cL_law 877 = .ok (.iload_n 3, 1) := by decide +kernel
theorem dL_law_878 : decode cL_law 878 = .ok (.iconst 2, 1) := by decide +kernel
theorem dL_law_879 : decode cL_law 879 = .ok (.iadd, 1) := by decide +kernel
theorem dL_law_880 : decode cL_law 880 = .ok (.iaload, 1) := by decide +kernel
theorem dL_law_881 : decode cL_law 881 = .ok (.aload_n 0, 1) := by decide +kernel
theorem dL_law_882 : decode cL_law 882 = .ok (.iload_n 3, 1) := by decide +kernel
theorem dL_law_883 : decode cL_law 883 = .ok (.iconst 3, 1) := by decide +kernel
theorem dL_law_884 : decode cL_law 884 = .ok (.iadd, 1) := by decide +kernel
theorem dL_law_885 : decode cL_law 885 = .ok (.iaload, 1) := by decide +kernel
theorem dL_law_886 : decode cL_law 886 = .ok (.invokevirtual 96, 3) := by decide +kernel
theorem dL_law_889 : decode cL_law 889 = .ok (.aload_n 2, 1) := by decide +kernel
theorem dL_law_890 : decode cL_law 890 = .ok (.aload_n 0, 1) := by decide +kernel
theorem dL_law_891 : decode cL_law 891 = .ok (.iload_n 3, 1) := by decide +kernel
theorem dL_law_892 : decode cL_law 892 = .ok (.iconst 1, 1) := by decide +kernel
theorem dL_law_893 : decode cL_law 893 = .ok (.iadd, 1) := by decide +kernel
theorem dL_law_894 : decode cL_law 894 = .ok (.iaload, 1) := by decide +kernel
theorem dL_law_895 : decode cL_law 895 = .ok (.aload_n 0, 1) := by decide +kernel
theorem dL_law_896 : decode cL_law 896 = .ok (.iload_n 3, 1) := by decide +kernel
theorem dL_law_897 : decode cL_law 897 = .ok (.iconst 2, 1) := by decide +kernel
theorem dL_law_898 : decode cL_law 898 = .ok (.iadd, 1) := by decide +kernel
theorem dL_law_899 : decode cL_law 899 = .ok (.iaload, 1) := by decide +kernel
theorem dL_law_900 : decode cL_law 900 = .ok (.aload_n 0, 1) := by decide +kernel
theorem dL_law_901 : decode cL_law 901 = .ok (.iload_n 3, 1) := by decide +kernel
theorem dL_law_902 : decode cL_law 902 = .ok (.iconst 3, 1) := by decide +kernel
theorem dL_law_903 : decode cL_law 903 = .ok (.iadd, 1) := by decide +kernel
theorem dL_law_904 : decode cL_law 904 = .ok (.iaload, 1) := by decide +kernel
theorem dL_law_905 : decode cL_law 905 = .ok (.invokevirtual 99, 3) := by decide +kernel
theorem dL_law_908 : decode cL_law 908 = .ok (.lcmp, 1) := by decide +kernel
theorem dL_law_909 : decode cL_law 909 = .ok (.ifCond .eq 618, 3) := by decide +kernel
theorem dL_law_912 : decode cL_law 912 = .ok (.iconst 0, 1) := by decide +kernel
theorem dL_law_913 : decode cL_law 913 = .ok (.ireturn, 1) := by decide +kernel
theorem dL_law_914 : decode cL_law 914 = .ok (.aload_n 1, 1) := by decide +kernel
theorem dL_law_915 : decode cL_law 915 = .ok (.aload_n 0, 1) := by decide +kernel
theorem dL_law_916 : decode cL_law 916 = .ok (.iload_n 3, 1) := by decide +kernel
theorem dL_law_917 : decode cL_law 917 = .ok (.iconst 1, 1) := by decide +kernel
theorem dL_law_918 : decode cL_law 918 = .ok (.iadd, 1) := by decide +kernel
theorem dL_law_919 : decode cL_law 919 = .ok (.iaload, 1) := by decide +kernel
theorem dL_law_920 : decode cL_law 920 = .ok (.invokevirtual 100, 3) := by decide +kernel
theorem dL_law_923 : decode cL_law 923 = .ok (.aload_n 2, 1) := by decide +kernel
theorem dL_law_924 : decode cL_law 924 = .ok (.aload_n 0, 1) := by decide +kernel
theorem dL_law_925 : decode cL_law 925 = .ok (.iload_n 3, 1) := by decide +kernel
theorem dL_law_926 : decode cL_law 926 = .ok (.iconst 1, 1) := by decide +kernel
theorem dL_law_927 : decode cL_law 927 = .ok (.iadd, 1) := by decide +kernel
theorem dL_law_928 : decode cL_law 928 = .ok (.iaload, 1) := by decide +kernel
theorem dL_law_929 : decode cL_law 929 = .ok (.invokevirtual 103, 3) := by decide +kernel
theorem dL_law_932 : decode cL_law 932 = .ok (.if_icmp .eq 595, 3) := by decide +kernel
theorem dL_law_935 : decode cL_law 935 = .ok (.iconst 0, 1) := by decide +kernel
theorem dL_law_936 : decode cL_law 936 = .ok (.ireturn, 1) := by decide +kernel
theorem dL_law_937 : decode cL_law 937 = .ok (.aload_n 1, 1) := by decide +kernel
theorem dL_law_938 : decode cL_law 938 = .ok (.aload_n 0, 1) := by decide +kernel
theorem dL_law_939 : decode cL_law 939 = .ok (.iload_n 3, 1) := by decide +kernel
theorem dL_law_940 : decode cL_law 940 = .ok (.iconst 1, 1) := by decide +kernel
theorem dL_law_941 : decode cL_law 941 = .ok (.iadd, 1) := by decide +kernel
theorem dL_law_942 : decode cL_law 942 = .ok (.iaload, 1) := by decide +kernel
theorem dL_law_943 : decode cL_law 943 = .ok (.invokevirtual 104, 3) := by decide +kernel
theorem dL_law_946 : decode cL_law 946 = .ok (.aload_n 2, 1) := by decide +kernel
theorem dL_law_947 : decode cL_law 947 = .ok (.aload_n 0, 1) := by decide +kernel
theorem dL_law_948 : decode cL_law 948 = .ok (.iload_n 3, 1) := by decide +kernel
theorem dL_law_949 : decode cL_law 949 = .ok (.iconst 1, 1) := by decide +kernel
theorem dL_law_950 : decode cL_law 950 = .ok (.iadd, 1) := by decide +kernel
theorem dL_law_951 : decode cL_law 951 = .ok (.iaload, 1) := by decide +kernel
theorem dL_law_952 : decode cL_law 952 = .ok (.invokevirtual 107, 3) := by decide +kernel
theorem dL_law_955 : decode cL_law 955 = .ok (.if_icmp .eq 572, 3) := by decide +kernel
theorem dL_law_958 : decode cL_law 958 = .ok (.iconst 0, 1) := by decide +kernel
theorem dL_law_959 : decode cL_law 959 = .ok (.ireturn, 1) := by decide +kernel
theorem dL_law_960 : decode cL_law 960 = .ok (.aload_n 1, 1) := by decide +kernel
theorem dL_law_961 : decode cL_law 961 = .ok (.aload_n 0, 1) := by decide +kernel
theorem dL_law_962 : decode cL_law 962 = .ok (.iload_n 3, 1) := by decide +kernel
theorem dL_law_963 : decode cL_law 963 = .ok (.iconst 1, 1) := by decide +kernel
theorem dL_law_964 : decode cL_law 964 = .ok (.iadd, 1) := by decide +kernel
theorem dL_law_965 : decode cL_law 965 = .ok (.iaload, 1) := by decide +kernel
theorem dL_law_966 : decode cL_law 966 = .ok (.invokevirtual 108, 3) := by decide +kernel
theorem dL_law_969 : decode cL_law 969 = .ok (.aload_n 2, 1) := by decide +kernel
theorem dL_law_970 : decode cL_law 970 = .ok (.aload_n 0, 1) := by decide +kernel
theorem dL_law_971 : decode cL_law 971 = .ok (.iload_n 3, 1) := by decide +kernel
theorem dL_law_972 : decode cL_law 972 = .ok (.iconst 1, 1) := by decide +kernel
theorem dL_law_973 : decode cL_law 973 = .ok (.iadd, 1) := by decide +kernel
theorem dL_law_974 : decode cL_law 974 = .ok (.iaload, 1) := by decide +kernel
theorem dL_law_975 : decode cL_law 975 = .ok (.invokevirtual 111, 3) := by decide +kernel
theorem dL_law_978 : decode cL_law 978 = .ok (.if_icmp .eq 549, 3) := by decide +kernel
theorem dL_law_981 : decode cL_law 981 = .ok (.iconst 0, 1) := by decide +kernel
theorem dL_law_982 : decode cL_law 982 = .ok (.ireturn, 1) := by decide +kernel
theorem dL_law_983 : decode cL_law 983 = .ok (.aload_n 1, 1) := by decide +kernel
theorem dL_law_984 : decode cL_law 984 = .ok (.aload_n 0, 1) := by decide +kernel
theorem dL_law_985 : decode cL_law 985 = .ok (.iload_n 3, 1) := by decide +kernel
theorem dL_law_986 : decode cL_law 986 = .ok (.iconst 1, 1) := by decide +kernel
theorem dL_law_987 : decode cL_law 987 = .ok (.iadd, 1) := by decide +kernel
theorem dL_law_988 : decode cL_law 988 = .ok (.iaload, 1) := by decide +kernel
theorem dL_law_989 : decode cL_law 989 = .ok (.invokevirtual 112, 3) := by decide +kernel
theorem dL_law_992 : decode cL_law 992 = .ok (.aload_n 2, 1) := by decide +kernel
theorem dL_law_993 : decode cL_law 993 = .ok (.aload_n 0, 1) := by decide +kernel
theorem dL_law_994 : decode cL_law 994 = .ok (.iload_n 3, 1) := by decide +kernel
theorem dL_law_995 : decode cL_law 995 = .ok (.iconst 1, 1) := by decide +kernel
theorem dL_law_996 : decode cL_law 996 = .ok (.iadd, 1) := by decide +kernel
theorem dL_law_997 : decode cL_law 997 = .ok (.iaload, 1) := by decide +kernel
theorem dL_law_998 : decode cL_law 998 = .ok (.invokevirtual 115, 3) := by decide +kernel
theorem dL_law_1001 : decode cL_law 1001 = .ok (.if_icmp .eq 526, 3) := by decide +kernel
theorem dL_law_1004 : decode cL_law 1004 = .ok (.iconst 0, 1) := by decide +kernel
theorem dL_law_1005 : decode cL_law 1005 = .ok (.ireturn, 1) := by decide +kernel
theorem dL_law_1006 : decode cL_law 1006 = .ok (.aload_n 1, 1) := by decide +kernel
theorem dL_law_1007 : decode cL_law 1007 = .ok (.aload_n 0, 1) := by decide +kernel
theorem dL_law_1008 : decode cL_law 1008 = .ok (.iload_n 3, 1) := by decide +kernel
theorem dL_law_1009 : decode cL_law 1009 = .ok (.iconst 1, 1) := by decide +kernel
theorem dL_law_1010 : decode cL_law 1010 = .ok (.iadd, 1) := by decide +kernel
theorem dL_law_1011 : decode cL_law 1011 = .ok (.iaload, 1) := by decide +kernel
theorem dL_law_1012 : decode cL_law 1012 = .ok (.aload_n 0, 1) := by decide +kernel
theorem dL_law_1013 : decode cL_law 1013 = .ok (.iload_n 3, 1) := by decide +kernel
theorem dL_law_1014 : decode cL_law 1014 = .ok (.iconst 2, 1) := by decide +kernel
theorem dL_law_1015 : decode cL_law 1015 = .ok (.iadd, 1) := by decide +kernel
theorem dL_law_1016 : decode cL_law 1016 = .ok (.iaload, 1) := by decide +kernel
theorem dL_law_1017 : decode cL_law 1017 = .ok (.invokevirtual 116, 3) := by decide +kernel
theorem dL_law_1020 : decode cL_law 1020 = .ok (.aload_n 2, 1) := by decide +kernel
theorem dL_law_1021 : decode cL_law 1021 = .ok (.aload_n 0, 1) := by decide +kernel
theorem dL_law_1022 : decode cL_law 1022 = .ok (.iload_n 3, 1) := by decide +kernel
theorem dL_law_1023 : decode cL_law 1023 = .ok (.iconst 1, 1) := by decide +kernel
theorem dL_law_1024 : decode cL_law 1024 = .ok (.iadd, 1) := by decide +kernel
theorem dL_law_1025 : decode cL_law 1025 = .ok (.iaload, 1) := by decide +kernel
theorem dL_law_1026 : decode cL_law 1026 = .ok (.aload_n 0, 1) := by decide +kernel
theorem dL_law_1027 : decode cL_law 1027 = .ok (.iload_n 3, 1) := by decide +kernel
theorem dL_law_1028 : decode cL_law 1028 = .ok (.iconst 2, 1) := by decide +kernel
theorem dL_law_1029 : decode cL_law 1029 = .ok (.iadd, 1) := by decide +kernel
theorem dL_law_1030 : decode cL_law 1030 = .ok (.iaload, 1) := by decide +kernel
theorem dL_law_1031 : decode cL_law 1031 = .ok (.invokevirtual 120, 3) := by decide +kernel
theorem dL_law_1034 : decode cL_law 1034 = .ok (.lcmp, 1) := by decide +kernel
theorem dL_law_1035 : decode cL_law 1035 = .ok (.ifCond .eq 492, 3) := by decide +kernel
theorem dL_law_1038 : decode cL_law 1038 = .ok (.iconst 0, 1) := by decide +kernel
theorem dL_law_1039 : decode cL_law 1039 = .ok (.ireturn, 1) := by decide +kernel
theorem dL_law_1040 : decode cL_law 1040 = .ok (.aload_n 1, 1) := by decide +kernel
theorem dL_law_1041 : decode cL_law 1041 = .ok (.aload_n 0, 1) := by decide +kernel
theorem dL_law_1042 : decode cL_law 1042 = .ok (.iload_n 3, 1) := by decide +kernel
theorem dL_law_1043 : decode cL_law 1043 = .ok (.iconst 1, 1) := by decide +kernel
theorem dL_law_1044 : decode cL_law 1044 = .ok (.iadd, 1) := by decide +kernel
theorem dL_law_1045 : decode cL_law 1045 = .ok (.iaload, 1) := by decide +kernel
theorem dL_law_1046 : decode cL_law 1046 = .ok (.aload_n 0, 1) := by decide +kernel
theorem dL_law_1047 : decode cL_law 1047 = .ok (.iload_n 3, 1) := by decide +kernel
theorem dL_law_1048 : decode cL_law 1048 = .ok (.iconst 2, 1) := by decide +kernel
theorem dL_law_1049 : decode cL_law 1049 = .ok (.iadd, 1) := by decide +kernel
theorem dL_law_1050 : decode cL_law 1050 = .ok (.iaload, 1) := by decide +kernel
theorem dL_law_1051 : decode cL_law 1051 = .ok (.aload_n 0, 1) := by decide +kernel
theorem dL_law_1052 : decode cL_law 1052 = .ok (.iload_n 3, 1) := by decide +kernel
theorem dL_law_1053 : decode cL_law 1053 = .ok (.iconst 3, 1) := by decide +kernel
theorem dL_law_1054 : decode cL_law 1054 = .ok (.iadd, 1) := by decide +kernel
theorem dL_law_1055 : decode cL_law 1055 = .ok (.iaload, 1) := by decide +kernel
theorem dL_law_1056 : decode cL_law 1056 = .ok (.invokevirtual 121, 3) := by decide +kernel
theorem dL_law_1059 : decode cL_law 1059 = .ok (.aload_n 2, 1) := by decide +kernel
theorem dL_law_1060 : decode cL_law 1060 = .ok (.aload_n 0, 1) := by decide +kernel
theorem dL_law_1061 : decode cL_law 1061 = .ok (.iload_n 3, 1) := by decide +kernel
theorem dL_law_1062 : decode cL_law 1062 = .ok (.iconst 1, 1) := by decide +kernel
theorem dL_law_1063 : decode cL_law 1063 = .ok (.iadd, 1) := by decide +kernel
theorem dL_law_1064 : decode cL_law 1064 = .ok (.iaload, 1) := by decide +kernel
theorem dL_law_1065 : decode cL_law 1065 = .ok (.aload_n 0, 1) := by decide +kernel
theorem dL_law_1066 : decode cL_law 1066 = .ok (.iload_n 3, 1) := by decide +kernel
theorem dL_law_1067 : decode cL_law 1067 = .ok (.iconst 2, 1) := by decide +kernel
theorem dL_law_1068 : decode cL_law 1068 = .ok (.iadd, 1) := by decide +kernel
theorem dL_law_1069 : decode cL_law 1069 = .ok (.iaload, 1) := by decide +kernel
theorem dL_law_1070 : decode cL_law 1070 = .ok (.aload_n 0, 1) := by decide +kernel
theorem dL_law_1071 : decode cL_law 1071 = .ok (.iload_n 3, 1) := by decide +kernel
theorem dL_law_1072 : decode cL_law 1072 = .ok (.iconst 3, 1) := by decide +kernel
theorem dL_law_1073 : decode cL_law 1073 = .ok (.iadd, 1) := by decide +kernel
theorem dL_law_1074 : decode cL_law 1074 = .ok (.iaload, 1) := by decide +kernel
theorem dL_law_1075 : decode cL_law 1075 = .ok (.invokevirtual 124, 3) := by decide +kernel
theorem dL_law_1078 : decode cL_law 1078 = .ok (.if_icmp .eq 449, 3) := by decide +kernel
theorem dL_law_1081 : decode cL_law 1081 = .ok (.iconst 0, 1) := by decide +kernel
theorem dL_law_1082 : decode cL_law 1082 = .ok (.ireturn, 1) := by decide +kernel
theorem dL_law_1083 : decode cL_law 1083 = .ok (.aload_n 1, 1) := by decide +kernel
theorem dL_law_1084 : decode cL_law 1084 = .ok (.aload_n 0, 1) := by decide +kernel
theorem dL_law_1085 : decode cL_law 1085 = .ok (.iload_n 3, 1) := by decide +kernel
theorem dL_law_1086 : decode cL_law 1086 = .ok (.iconst 1, 1) := by decide +kernel
theorem dL_law_1087 : decode cL_law 1087 = .ok (.iadd, 1) := by decide +kernel
theorem dL_law_1088 : decode cL_law 1088 = .ok (.iaload, 1) := by decide +kernel
theorem dL_law_1089 : decode cL_law 1089 = .ok (.invokevirtual 125, 3) := by decide +kernel
theorem dL_law_1092 : decode cL_law 1092 = .ok (.aload_n 2, 1) := by decide +kernel
theorem dL_law_1093 : decode cL_law 1093 = .ok (.aload_n 0, 1) := by decide +kernel
theorem dL_law_1094 : decode cL_law 1094 = .ok (.iload_n 3, 1) := by decide +kernel
theorem dL_law_1095 : decode cL_law 1095 = .ok (.iconst 1, 1) := by decide +kernel
theorem dL_law_1096 : decode cL_law 1096 = .ok (.iadd, 1) := by decide +kernel
theorem dL_law_1097 : decode cL_law 1097 = .ok (.iaload, 1) := by decide +kernel
theorem dL_law_1098 : decode cL_law 1098 = .ok (.invokevirtual 128, 3) := by decide +kernel
theorem dL_law_1101 : decode cL_law 1101 = .ok (.if_icmp .eq 426, 3) := by decide +kernel
theorem dL_law_1104 : decode cL_law 1104 = .ok (.iconst 0, 1) := by decide +kernel
theorem dL_law_1105 : decode cL_law 1105 = .ok (.ireturn, 1) := by decide +kernel
theorem dL_law_1106 : decode cL_law 1106 = .ok (.aload_n 1, 1) := by decide +kernel
theorem dL_law_1107 : decode cL_law 1107 = .ok (.aload_n 0, 1) := by decide +kernel
theorem dL_law_1108 : decode cL_law 1108 = .ok (.iload_n 3, 1) := by decide +kernel
theorem dL_law_1109 : decode cL_law 1109 = .ok (.iconst 1, 1) := by decide +kernel
theorem dL_law_1110 : decode cL_law 1110 = .ok (.iadd, 1) := by decide +kernel
theorem dL_law_1111 : decode cL_law 1111 = .ok (.iaload, 1) := by decide +kernel
theorem dL_law_1112 : decode cL_law 1112 = .ok (.invokevirtual 129, 3) := by decide +kernel
theorem dL_law_1115 : decode cL_law 1115 = .ok (.aload_n 2, 1) := by decide +kernel
theorem dL_law_1116 : decode cL_law 1116 = .ok (.aload_n 0, 1) := by decide +kernel
theorem dL_law_1117 : decode cL_law 1117 = .ok (.iload_n 3, 1) := by decide +kernel
theorem dL_law_1118 : decode cL_law 1118 = .ok (.iconst 1, 1) := by decide +kernel
theorem dL_law_1119 : decode cL_law 1119 = .ok (.iadd, 1) := by decide +kernel
theorem dL_law_1120 : decode cL_law 1120 = .ok (.iaload, 1) := by decide +kernel
theorem dL_law_1121 : decode cL_law 1121 = .ok (.invokevirtual 132, 3) := by decide +kernel
theorem dL_law_1124 : decode cL_law 1124 = .ok (.if_icmp .eq 403, 3) := by decide +kernel
theorem dL_law_1127 : decode cL_law 1127 = .ok (.iconst 0, 1) := by decide +kernel
theorem dL_law_1128 : decode cL_law 1128 = .ok (.ireturn, 1) := by decide +kernel
theorem dL_law_1129 : decode cL_law 1129 = .ok (.aload_n 1, 1) := by decide +kernel
theorem dL_law_1130 : decode cL_law 1130 = .ok (.aload_n 0, 1) := by decide +kernel
theorem dL_law_1131 : decode cL_law 1131 = .ok (.iload_n 3, 1) := by decide +kernel
theorem dL_law_1132 : decode cL_law 1132 = .ok (.iconst 1, 1) := by decide +kernel
theorem dL_law_1133 : decode cL_law 1133 = .ok (.iadd, 1) := by decide +kernel
theorem dL_law_1134 : decode cL_law 1134 = .ok (.iaload, 1) := by decide +kernel
theorem dL_law_1135 : decode cL_law 1135 = .ok (.aload_n 0, 1) := by decide +kernel
theorem dL_law_1136 : decode cL_law 1136 = .ok (.iload_n 3, 1) := by decide +kernel
theorem dL_law_1137 : decode cL_law 1137 = .ok (.iconst 2, 1) := by decide +kernel
theorem dL_law_1138 : decode cL_law 1138 = .ok (.iadd, 1) := by decide +kernel
theorem dL_law_1139 : decode cL_law 1139 = .ok (.iaload, 1) := by decide +kernel
theorem dL_law_1140 : decode cL_law 1140 = .ok (.aload_n 0, 1) := by decide +kernel
theorem dL_law_1141 : decode cL_law 1141 = .ok (.iload_n 3, 1) := by decide +kernel
theorem dL_law_1142 : decode cL_law 1142 = .ok (.iconst 3, 1) := by decide +kernel
theorem dL_law_1143 : decode cL_law 1143 = .ok (.iadd, 1) := by decide +kernel
theorem dL_law_1144 : decode cL_law 1144 = .ok (.iaload, 1) := by decide +kernel
theorem dL_law_1145 : decode cL_law 1145 = .ok (.invokevirtual 133, 3) := by decide +kernel
theorem dL_law_1148 : decode cL_law 1148 = .ok (.aload_n 2, 1) := by decide +kernel
theorem dL_law_1149 : decode cL_law 1149 = .ok (.aload_n 0, 1) := by decide +kernel
theorem dL_law_1150 : decode cL_law 1150 = .ok (.iload_n 3, 1) := by decide +kernel
theorem dL_law_1151 : decode cL_law 1151 = .ok (.iconst 1, 1) := by decide +kernel
theorem dL_law_1152 : decode cL_law 1152 = .ok (.iadd, 1) := by decide +kernel
theorem dL_law_1153 : decode cL_law 1153 = .ok (.iaload, 1) := by decide +kernel
theorem dL_law_1154 : decode cL_law 1154 = .ok (.aload_n 0, 1) := by decide +kernel
theorem dL_law_1155 : decode cL_law 1155 = .ok (.iload_n 3, 1) := by decide +kernel
theorem dL_law_1156 : decode cL_law 1156 = .ok (.iconst 2, 1) := by decide +kernel
theorem dL_law_1157 : decode cL_law 1157 = .ok (.iadd, 1) := by decide +kernel
theorem dL_law_1158 : decode cL_law 1158 = .ok (.iaload, 1) := by decide +kernel
theorem dL_law_1159 : decode cL_law 1159 = .ok (.aload_n 0, 1) := by decide +kernel
theorem dL_law_1160 : decode cL_law 1160 = .ok (.iload_n 3, 1) := by decide +kernel
theorem dL_law_1161 : decode cL_law 1161 = .ok (.iconst 3, 1) := by decide +kernel
theorem dL_law_1162 : decode cL_law 1162 = .ok (.iadd, 1) := by decide +kernel
theorem dL_law_1163 : decode cL_law 1163 = .ok (.iaload, 1) := by decide +kernel
theorem dL_law_1164 : decode cL_law 1164 = .ok (.invokevirtual 136, 3) := by decide +kernel
theorem dL_law_1167 : decode cL_law 1167 = .ok (.if_icmp .eq 360, 3) := by decide +kernel
theorem dL_law_1170 : decode cL_law 1170 = .ok (.iconst 0, 1) := by decide +kernel
theorem dL_law_1171 : decode cL_law 1171 = .ok (.ireturn, 1) := by decide +kernel
theorem dL_law_1172 : decode cL_law 1172 = .ok (.aload_n 1, 1) := by decide +kernel
theorem dL_law_1173 : decode cL_law 1173 = .ok (.aload_n 0, 1) := by decide +kernel
theorem dL_law_1174 : decode cL_law 1174 = .ok (.iload_n 3, 1) := by decide +kernel
theorem dL_law_1175 : decode cL_law 1175 = .ok (.iconst 1, 1) := by decide +kernel
theorem dL_law_1176 : decode cL_law 1176 = .ok (.iadd, 1) := by decide +kernel
theorem dL_law_1177 : decode cL_law 1177 = .ok (.iaload, 1) := by decide +kernel
theorem dL_law_1178 : decode cL_law 1178 = .ok (.aload_n 0, 1) := by decide +kernel
theorem dL_law_1179 : decode cL_law 1179 = .ok (.iload_n 3, 1) := by decide +kernel
theorem dL_law_1180 : decode cL_law 1180 = .ok (.iconst 2, 1) := by decide +kernel
theorem dL_law_1181 : decode cL_law 1181 = .ok (.iadd, 1) := by decide +kernel
theorem dL_law_1182 : decode cL_law 1182 = .ok (.iaload, 1) := by decide +kernel
theorem dL_law_1183 : decode cL_law 1183 = .ok (.aload_n 0, 1) := by decide +kernel
theorem dL_law_1184 : decode cL_law 1184 = .ok (.iload_n 3, 1) := by decide +kernel
theorem dL_law_1185 : decode cL_law 1185 = .ok (.iconst 3, 1) := by decide +kernel
theorem dL_law_1186 : decode cL_law 1186 = .ok (.iadd, 1) := by decide +kernel
theorem dL_law_1187 : decode cL_law 1187 = .ok (.iaload, 1) := by decide +kernel
theorem dL_law_1188 : decode cL_law 1188 = .ok (.aload_n 0, 1) := by decide +kernel
theorem dL_law_1189 : decode cL_law 1189 = .ok (.iload_n 3, 1) := by decide +kernel
theorem dL_law_1190 : decode cL_law 1190 = .ok (.iconst 4, 1) := by decide +kernel
theorem dL_law_1191 : decode cL_law 1191 = .ok (.iadd, 1) := by decide +kernel
theorem dL_law_1192 : decode cL_law 1192 = .ok (.iaload, 1) := by decide +kernel
theorem dL_law_1193 : decode cL_law 1193 = .ok (.invokevirtual 137, 3) := by decide +kernel
theorem dL_law_1196 : decode cL_law 1196 = .ok (.aload_n 2, 1) := by decide +kernel
theorem dL_law_1197 : decode cL_law 1197 = .ok (.aload_n 0, 1) := by decide +kernel
theorem dL_law_1198 : decode cL_law 1198 = .ok (.iload_n 3, 1) := by decide +kernel
theorem dL_law_1199 : decode cL_law 1199 = .ok (.iconst 1, 1) := by decide +kernel
theorem dL_law_1200 : decode cL_law 1200 = .ok (.iadd, 1) := by decide +kernel
theorem dL_law_1201 : decode cL_law 1201 = .ok (.iaload, 1) := by decide +kernel
theorem dL_law_1202 : decode cL_law 1202 = .ok (.aload_n 0, 1) := by decide +kernel
theorem dL_law_1203 : decode cL_law 1203 = .ok (.iload_n 3, 1) := by decide +kernel
theorem dL_law_1204 : decode cL_law 1204 = .ok (.iconst 2, 1) := by decide +kernel
theorem dL_law_1205 : decode cL_law 1205 = .ok (.iadd, 1) := by decide +kernel
theorem dL_law_1206 : decode cL_law 1206 = .ok (.iaload, 1) := by decide +kernel
theorem dL_law_1207 : decode cL_law 1207 = .ok (.aload_n 0, 1) := by decide +kernel
theorem dL_law_1208 : decode cL_law 1208 = .ok (.iload_n 3, 1) := by decide +kernel
theorem dL_law_1209 : decode cL_law 1209 = .ok (.iconst 3, 1) := by decide +kernel
theorem dL_law_1210 : decode cL_law 1210 = .ok (.iadd, 1) := by decide +kernel
theorem dL_law_1211 : decode cL_law 1211 = .ok (.iaload, 1) := by decide +kernel
theorem dL_law_1212 : decode cL_law 1212 = .ok (.aload_n 0, 1) := by decide +kernel
theorem dL_law_1213 : decode cL_law 1213 = .ok (.iload_n 3, 1) := by decide +kernel
theorem dL_law_1214 : decode cL_law 1214 = .ok (.iconst 4, 1) := by decide +kernel
theorem dL_law_1215 : decode cL_law 1215 = .ok (.iadd, 1) := by decide +kernel
theorem dL_law_1216 : decode cL_law 1216 = .ok (.iaload, 1) := by decide +kernel
theorem dL_law_1217 : decode cL_law 1217 = .ok (.invokevirtual 141, 3) := by decide +kernel
theorem dL_law_1220 : decode cL_law 1220 = .ok (.if_icmp .eq 307, 3) := by decide +kernel
theorem dL_law_1223 : decode cL_law 1223 = .ok (.iconst 0, 1) := by decide +kernel
theorem dL_law_1224 : decode cL_law 1224 = .ok (.ireturn, 1) := by decide +kernel
theorem dL_law_1225 : decode cL_law 1225 = .ok (.aload_n 1, 1) := by decide +kernel
theorem dL_law_1226 : decode cL_law 1226 = .ok (.aload_n 0, 1) := by decide +kernel
theorem dL_law_1227 : decode cL_law 1227 = .ok (.iload_n 3, 1) := by decide +kernel
theorem dL_law_1228 : decode cL_law 1228 = .ok (.iconst 1, 1) := by decide +kernel
theorem dL_law_1229 : decode cL_law 1229 = .ok (.iadd, 1) := by decide +kernel
theorem dL_law_1230 : decode cL_law 1230 = .ok (.iaload, 1) := by decide +kernel
theorem dL_law_1231 : decode cL_law 1231 = .ok (.invokevirtual 142, 3) := by decide +kernel
theorem dL_law_1234 : decode cL_law 1234 = .ok (.aload_n 2, 1) := by decide +kernel
theorem dL_law_1235 : decode cL_law 1235 = .ok (.aload_n 0, 1) := by decide +kernel
theorem dL_law_1236 : decode cL_law 1236 = .ok (.iload_n 3, 1) := by decide +kernel
theorem dL_law_1237 : decode cL_law 1237 = .ok (.iconst 1, 1) := by decide +kernel
theorem dL_law_1238 : decode cL_law 1238 = .ok (.iadd, 1) := by decide +kernel
theorem dL_law_1239 : decode cL_law 1239 = .ok (.iaload, 1) := by decide +kernel
theorem dL_law_1240 : decode cL_law 1240 = .ok (.invokevirtual 145, 3) := by decide +kernel
theorem dL_law_1243 : decode cL_law 1243 = .ok (.if_icmp .eq 284, 3) := by decide +kernel
theorem dL_law_1246 : decode cL_law 1246 = .ok (.iconst 0, 1) := by decide +kernel
theorem dL_law_1247 : decode cL_law 1247 = .ok (.ireturn, 1) := by decide +kernel
theorem dL_law_1248 : decode cL_law 1248 = .ok (.aload_n 1, 1) := by decide +kernel
theorem dL_law_1249 : decode cL_law 1249 = .ok (.aload_n 0, 1) := by decide +kernel
theorem dL_law_1250 : decode cL_law 1250 = .ok (.iload_n 3, 1) := by decide +kernel
theorem dL_law_1251 : decode cL_law 1251 = .ok (.iconst 1, 1) := by decide +kernel
theorem dL_law_1252 : decode cL_law 1252 = .ok (.iadd, 1) := by decide +kernel
theorem dL_law_1253 : decode cL_law 1253 = .ok (.iaload, 1) := by decide +kernel
theorem dL_law_1254 : decode cL_law 1254 = .ok (.aload_n 0, 1) := by decide +kernel
theorem dL_law_1255 : decode cL_law 1255 = .ok (.iload_n 3, 1) := by decide +kernel
theorem dL_law_1256 : decode cL_law 1256 = .ok (.iconst 2, 1) := by decide +kernel
theorem dL_law_1257 : decode cL_law 1257 = .ok (.iadd, 1) := by decide +kernel
theorem dL_law_1258 : decode cL_law 1258 = .ok (.iaload, 1) := by decide +kernel
theorem dL_law_1259 : decode cL_law 1259 = .ok (.aload_n 0, 1) := by decide +kernel
theorem dL_law_1260 : decode cL_law 1260 = .ok (.iload_n 3, 1) := by decide +kernel
theorem dL_law_1261 : decode cL_law 1261 = .ok (.iconst 3, 1) := by decide +kernel
theorem dL_law_1262 : decode cL_law 1262 = .ok (.iadd, 1) := by decide +kernel
theorem dL_law_1263 : decode cL_law 1263 = .ok (.iaload, 1) := by decide +kernel
theorem dL_law_1264 : decode cL_law 1264 = .ok (.invokevirtual 146, 3) := by decide +kernel
theorem dL_law_1267 : decode cL_law 1267 = .ok (.aload_n 2, 1) := by decide +kernel
theorem dL_law_1268 : decode cL_law 1268 = .ok (.aload_n 0, 1) := by decide +kernel
theorem dL_law_1269 : decode cL_law 1269 = .ok (.iload_n 3, 1) := by decide +kernel
theorem dL_law_1270 : decode cL_law 1270 = .ok (.iconst 1, 1) := by decide +kernel
theorem dL_law_1271 : decode cL_law 1271 = .ok (.iadd, 1) := by decide +kernel
theorem dL_law_1272 : decode cL_law 1272 = .ok (.iaload, 1) := by decide +kernel
theorem dL_law_1273 : decode cL_law 1273 = .ok (.aload_n 0, 1) := by decide +kernel
theorem dL_law_1274 : decode cL_law 1274 = .ok (.iload_n 3, 1) := by decide +kernel
theorem dL_law_1275 : decode cL_law 1275 = .ok (.iconst 2, 1) := by decide +kernel
theorem dL_law_1276 : decode cL_law 1276 = .ok (.iadd, 1) := by decide +kernel
theorem dL_law_1277 : decode cL_law 1277 = .ok (.iaload, 1) := by decide +kernel
theorem dL_law_1278 : decode cL_law 1278 = .ok (.aload_n 0, 1) := by decide +kernel
theorem dL_law_1279 : decode cL_law 1279 = .ok (.iload_n 3, 1) := by decide +kernel
theorem dL_law_1280 : decode cL_law 1280 = .ok (.iconst 3, 1) := by decide +kernel
theorem dL_law_1281 : decode cL_law 1281 = .ok (.iadd, 1) := by decide +kernel
theorem dL_law_1282 : decode cL_law 1282 = .ok (.iaload, 1) := by decide +kernel
theorem dL_law_1283 : decode cL_law 1283 = .ok (.invokevirtual 149, 3) := by decide +kernel
theorem dL_law_1286 : decode cL_law 1286 = .ok (.if_icmp .eq 241, 3) := by decide +kernel
theorem dL_law_1289 : decode cL_law 1289 = .ok (.iconst 0, 1) := by decide +kernel
theorem dL_law_1290 : decode cL_law 1290 = .ok (.ireturn, 1) := by decide +kernel
theorem dL_law_1291 : decode cL_law 1291 = .ok (.aload_n 1, 1) := by decide +kernel
theorem dL_law_1292 : decode cL_law 1292 = .ok (.aload_n 0, 1) := by decide +kernel
theorem dL_law_1293 : decode cL_law 1293 = .ok (.iload_n 3, 1) := by decide +kernel
theorem dL_law_1294 : decode cL_law 1294 = .ok (.iconst 1, 1) := by decide +kernel
theorem dL_law_1295 : decode cL_law 1295 = .ok (.iadd, 1) := by decide +kernel
theorem dL_law_1296 : decode cL_law 1296 = .ok (.iaload, 1) := by decide +kernel
theorem dL_law_1297 : decode cL_law 1297 = .ok (.invokevirtual 150, 3) := by decide +kernel
theorem dL_law_1300 : decode cL_law 1300 = .ok (.aload_n 2, 1) := by decide +kernel
theorem dL_law_1301 : decode cL_law 1301 = .ok (.aload_n 0, 1) := by decide +kernel
theorem dL_law_1302 : decode cL_law 1302 = .ok (.iload_n 3, 1) := by decide +kernel
theorem dL_law_1303 : decode cL_law 1303 = .ok (.iconst 1, 1) := by decide +kernel
theorem dL_law_1304 : decode cL_law 1304 = .ok (.iadd, 1) := by decide +kernel
theorem dL_law_1305 : decode cL_law 1305 = .ok (.iaload, 1) := by decide +kernel
theorem dL_law_1306 : decode cL_law 1306 = .ok (.invokevirtual 153, 3) := by decide +kernel
theorem dL_law_1309 : decode cL_law 1309 = .ok (.if_icmp .eq 218, 3) := by decide +kernel
theorem dL_law_1312 : decode cL_law 1312 = .ok (.iconst 0, 1) := by decide +kernel
theorem dL_law_1313 : decode cL_law 1313 = .ok (.ireturn, 1) := by decide +kernel
theorem dL_law_1314 : decode cL_law 1314 = .ok (.aload_n 1, 1) := by decide +kernel
theorem dL_law_1315 : decode cL_law 1315 = .ok (.aload_n 0, 1) := by decide +kernel
theorem dL_law_1316 : decode cL_law 1316 = .ok (.iload_n 3, 1) := by decide +kernel
theorem dL_law_1317 : decode cL_law 1317 = .ok (.iconst 1, 1) := by decide +kernel
theorem dL_law_1318 : decode cL_law 1318 = .ok (.iadd, 1) := by decide +kernel
theorem dL_law_1319 : decode cL_law 1319 = .ok (.iaload, 1) := by decide +kernel
theorem dL_law_1320 : decode cL_law 1320 = .ok (.aload_n 0, 1) := by decide +kernel
theorem dL_law_1321 : decode cL_law 1321 = .ok (.iload_n 3, 1) := by decide +kernel
theorem dL_law_1322 : decode cL_law 1322 = .ok (.iconst 2, 1) := by decide +kernel
theorem dL_law_1323 : decode cL_law 1323 = .ok (.iadd, 1) := by decide +kernel
theorem dL_law_1324 : decode cL_law 1324 = .ok (.iaload, 1) := by decide +kernel
theorem dL_law_1325 : decode cL_law 1325 = .ok (.aload_n 0, 1) := by decide +kernel
theorem dL_law_1326 : decode cL_law 1326 = .ok (.iload_n 3, 1) := by decide +kernel
theorem dL_law_1327 : decode cL_law 1327 = .ok (.iconst 3, 1) := by decide +kernel
theorem dL_law_1328 : decode cL_law 1328 = .ok (.iadd, 1) := by decide +kernel
theorem dL_law_1329 : decode cL_law 1329 = .ok (.iaload, 1) := by decide +kernel
theorem dL_law_1330 : decode cL_law 1330 = .ok (.invokevirtual 154, 3) := by decide +kernel
theorem dL_law_1333 : decode cL_law 1333 = .ok (.aload_n 2, 1) := by decide +kernel
theorem dL_law_1334 : decode cL_law 1334 = .ok (.aload_n 0, 1) := by decide +kernel
theorem dL_law_1335 : decode cL_law 1335 = .ok (.iload_n 3, 1) := by decide +kernel
theorem dL_law_1336 : decode cL_law 1336 = .ok (.iconst 1, 1) := by decide +kernel
theorem dL_law_1337 : decode cL_law 1337 = .ok (.iadd, 1) := by decide +kernel
theorem dL_law_1338 : decode cL_law 1338 = .ok (.iaload, 1) := by decide +kernel
theorem dL_law_1339 : decode cL_law 1339 = .ok (.aload_n 0, 1) := by decide +kernel
theorem dL_law_1340 : decode cL_law 1340 = .ok (.iload_n 3, 1) := by decide +kernel
theorem dL_law_1341 : decode cL_law 1341 = .ok (.iconst 2, 1) := by decide +kernel
theorem dL_law_1342 : decode cL_law 1342 = .ok (.iadd, 1) := by decide +kernel
theorem dL_law_1343 : decode cL_law 1343 = .ok (.iaload, 1) := by decide +kernel
theorem dL_law_1344 : decode cL_law 1344 = .ok (.aload_n 0, 1) := by decide +kernel
theorem dL_law_1345 : decode cL_law 1345 = .ok (.iload_n 3, 1) := by decide +kernel
theorem dL_law_1346 : decode cL_law 1346 = .ok (.iconst 3, 1) := by decide +kernel
theorem dL_law_1347 : decode cL_law 1347 = .ok (.iadd, 1) := by decide +kernel
theorem dL_law_1348 : decode cL_law 1348 = .ok (.iaload, 1) := by decide +kernel
theorem dL_law_1349 : decode cL_law 1349 = .ok (.invokevirtual 157, 3) := by decide +kernel
theorem dL_law_1352 : decode cL_law 1352 = .ok (.if_icmp .eq 175, 3) := by decide +kernel
theorem dL_law_1355 : decode cL_law 1355 = .ok (.iconst 0, 1) := by decide +kernel
theorem dL_law_1356 : decode cL_law 1356 = .ok (.ireturn, 1) := by decide +kernel
theorem dL_law_1357 : decode cL_law 1357 = .ok (.aload_n 1, 1) := by decide +kernel
theorem dL_law_1358 : decode cL_law 1358 = .ok (.aload_n 0, 1) := by decide +kernel
theorem dL_law_1359 : decode cL_law 1359 = .ok (.iload_n 3, 1) := by decide +kernel
theorem dL_law_1360 : decode cL_law 1360 = .ok (.iconst 1, 1) := by decide +kernel
theorem dL_law_1361 : decode cL_law 1361 = .ok (.iadd, 1) := by decide +kernel
theorem dL_law_1362 : decode cL_law 1362 = .ok (.iaload, 1) := by decide +kernel
theorem dL_law_1363 : decode cL_law 1363 = .ok (.aload_n 0, 1) := by decide +kernel
theorem dL_law_1364 : decode cL_law 1364 = .ok (.iload_n 3, 1) := by decide +kernel
theorem dL_law_1365 : decode cL_law 1365 = .ok (.iconst 2, 1) := by decide +kernel
theorem dL_law_1366 : decode cL_law 1366 = .ok (.iadd, 1) := by decide +kernel
theorem dL_law_1367 : decode cL_law 1367 = .ok (.iaload, 1) := by decide +kernel
theorem dL_law_1368 : decode cL_law 1368 = .ok (.aload_n 0, 1) := by decide +kernel
theorem dL_law_1369 : decode cL_law 1369 = .ok (.iload_n 3, 1) := by decide +kernel
theorem dL_law_1370 : decode cL_law 1370 = .ok (.iconst 3, 1) := by decide +kernel
theorem dL_law_1371 : decode cL_law 1371 = .ok (.iadd, 1) := by decide +kernel
theorem dL_law_1372 : decode cL_law 1372 = .ok (.iaload, 1) := by decide +kernel
theorem dL_law_1373 : decode cL_law 1373 = .ok (.i2l, 1) := by decide +kernel
theorem dL_law_1374 : decode cL_law 1374 = .ok (.bipush 32, 2) := by decide +kernel
theorem dL_law_1376 : decode cL_law 1376 = .ok (.lshl, 1) := by decide +kernel
theorem dL_law_1377 : decode cL_law 1377 = .ok (.aload_n 0, 1) := by decide +kernel
theorem dL_law_1378 : decode cL_law 1378 = .ok (.iload_n 3, 1) := by decide +kernel
theorem dL_law_1379 : decode cL_law 1379 = .ok (.iconst 4, 1) := by decide +kernel
theorem dL_law_1380 : decode cL_law 1380 = .ok (.iadd, 1) := by decide +kernel
theorem dL_law_1381 : decode cL_law 1381 = .ok (.iaload, 1) := by decide +kernel
theorem dL_law_1382 : decode cL_law 1382 = .ok (.i2l, 1) := by decide +kernel
theorem dL_law_1383 : decode cL_law 1383 = .ok (.ldc2_w 158, 3) := by decide +kernel
theorem dL_law_1386 : decode cL_law 1386 = .ok (.land, 1) := by decide +kernel
theorem dL_law_1387 : decode cL_law 1387 = .ok (.lor, 1) := by decide +kernel
theorem dL_law_1388 : decode cL_law 1388 = .ok (.invokevirtual 160, 3) := by decide +kernel
theorem dL_law_1391 : decode cL_law 1391 = .ok (.aload_n 2, 1) := by decide +kernel
theorem dL_law_1392 : decode cL_law 1392 = .ok (.aload_n 0, 1) := by decide +kernel
theorem dL_law_1393 : decode cL_law 1393 = .ok (.iload_n 3, 1) := by decide +kernel
theorem dL_law_1394 : decode cL_law 1394 = .ok (.iconst 1, 1) := by decide +kernel
theorem dL_law_1395 : decode cL_law 1395 = .ok (.iadd, 1) := by decide +kernel
theorem dL_law_1396 : decode cL_law 1396 = .ok (.iaload, 1) := by decide +kernel
theorem dL_law_1397 : decode cL_law 1397 = .ok (.aload_n 0, 1) := by decide +kernel
theorem dL_law_1398 : decode cL_law 1398 = .ok (.iload_n 3, 1) := by decide +kernel
theorem dL_law_1399 : decode cL_law 1399 = .ok (.iconst 2, 1) := by decide +kernel
theorem dL_law_1400 : decode cL_law 1400 = .ok (.iadd, 1) := by decide +kernel
theorem dL_law_1401 : decode cL_law 1401 = .ok (.iaload, 1) := by decide +kernel
theorem dL_law_1402 : decode cL_law 1402 = .ok (.aload_n 0, 1) := by decide +kernel
theorem dL_law_1403 : decode cL_law 1403 = .ok (.iload_n 3, 1) := by decide +kernel
theorem dL_law_1404 : decode cL_law 1404 = .ok (.iconst 3, 1) := by decide +kernel
theorem dL_law_1405 : decode cL_law 1405 = .ok (.iadd, 1) := by decide +kernel
theorem dL_law_1406 : decode cL_law 1406 = .ok (.iaload, 1) := by decide +kernel
theorem dL_law_1407 : decode cL_law 1407 = .ok (.i2l, 1) := by decide +kernel
theorem dL_law_1408 : decode cL_law 1408 = .ok (.bipush 32, 2) := by decide +kernel
theorem dL_law_1410 : decode cL_law 1410 = .ok (.lshl, 1) := by decide +kernel
theorem dL_law_1411 : decode cL_law 1411 = .ok (.aload_n 0, 1) := by decide +kernel
theorem dL_law_1412 : decode cL_law 1412 = .ok (.iload_n 3, 1) := by decide +kernel
theorem dL_law_1413 : decode cL_law 1413 = .ok (.iconst 4, 1) := by decide +kernel
theorem dL_law_1414 : decode cL_law 1414 = .ok (.iadd, 1) := by decide +kernel
theorem dL_law_1415 : decode cL_law 1415 = .ok (.iaload, 1) := by decide +kernel
theorem dL_law_1416 : decode cL_law 1416 = .ok (.i2l, 1) := by decide +kernel
theorem dL_law_1417 : decode cL_law 1417 = .ok (.ldc2_w 158, 3) := by decide +kernel
theorem dL_law_1420 : decode cL_law 1420 = .ok (.land, 1) := by decide +kernel
theorem dL_law_1421 : decode cL_law 1421 = .ok (.lor, 1) := by decide +kernel
theorem dL_law_1422 : decode cL_law 1422 = .ok (.invokevirtual 164, 3) := by decide +kernel
theorem dL_law_1425 : decode cL_law 1425 = .ok (.if_icmp .eq 102, 3) := by decide +kernel
theorem dL_law_1428 : decode cL_law 1428 = .ok (.iconst 0, 1) := by decide +kernel
theorem dL_law_1429 : decode cL_law 1429 = .ok (.ireturn, 1) := by decide +kernel
theorem dL_law_1430 : decode cL_law 1430 = .ok (.aload_n 1, 1) := by decide +kernel
theorem dL_law_1431 : decode cL_law 1431 = .ok (.aload_n 0, 1) := by decide +kernel
theorem dL_law_1432 : decode cL_law 1432 = .ok (.iload_n 3, 1) := by decide +kernel
theorem dL_law_1433 : decode cL_law 1433 = .ok (.iconst 1, 1) := by decide +kernel
theorem dL_law_1434 : decode cL_law 1434 = .ok (.iadd, 1) := by decide +kernel
theorem dL_law_1435 : decode cL_law 1435 = .ok (.iaload, 1) := by decide +kernel
theorem dL_law_1436 : decode cL_law 1436 = .ok (.aload_n 0, 1) := by decide +kernel
theorem dL_law_1437 : decode cL_law 1437 = .ok (.iload_n 3, 1) := by decide +kernel
theorem dL_law_1438 : decode cL_law 1438 = .ok (.iconst 2, 1) := by decide +kernel
theorem dL_law_1439 : decode cL_law 1439 = .ok (.iadd, 1) := by decide +kernel
theorem dL_law_1440 : decode cL_law 1440 = .ok (.iaload, 1) := by decide +kernel
theorem dL_law_1441 : decode cL_law 1441 = .ok (.invokevirtual 165, 3) := by decide +kernel
theorem dL_law_1444 : decode cL_law 1444 = .ok (.aload_n 2, 1) := by decide +kernel
theorem dL_law_1445 : decode cL_law 1445 = .ok (.aload_n 0, 1) := by decide +kernel
theorem dL_law_1446 : decode cL_law 1446 = .ok (.iload_n 3, 1) := by decide +kernel
theorem dL_law_1447 : decode cL_law 1447 = .ok (.iconst 1, 1) := by decide +kernel
theorem dL_law_1448 : decode cL_law 1448 = .ok (.iadd, 1) := by decide +kernel
theorem dL_law_1449 : decode cL_law 1449 = .ok (.iaload, 1) := by decide +kernel
theorem dL_law_1450 : decode cL_law 1450 = .ok (.aload_n 0, 1) := by decide +kernel
theorem dL_law_1451 : decode cL_law 1451 = .ok (.iload_n 3, 1) := by decide +kernel
theorem dL_law_1452 : decode cL_law 1452 = .ok (.iconst 2, 1) := by decide +kernel
theorem dL_law_1453 : decode cL_law 1453 = .ok (.iadd, 1) := by decide +kernel
theorem dL_law_1454 : decode cL_law 1454 = .ok (.iaload, 1) := by decide +kernel
theorem dL_law_1455 : decode cL_law 1455 = .ok (.invokevirtual 168, 3) := by decide +kernel
theorem dL_law_1458 : decode cL_law 1458 = .ok (.lcmp, 1) := by decide +kernel
theorem dL_law_1459 : decode cL_law 1459 = .ok (.ifCond .eq 68, 3) := by decide +kernel
theorem dL_law_1462 : decode cL_law 1462 = .ok (.iconst 0, 1) := by decide +kernel
theorem dL_law_1463 : decode cL_law 1463 = .ok (.ireturn, 1) := by decide +kernel
theorem dL_law_1464 : decode cL_law 1464 = .ok (.aload_n 1, 1) := by decide +kernel
theorem dL_law_1465 : decode cL_law 1465 = .ok (.aload_n 0, 1) := by decide +kernel
theorem dL_law_1466 : decode cL_law 1466 = .ok (.iload_n 3, 1) := by decide +kernel
theorem dL_law_1467 : decode cL_law 1467 = .ok (.iconst 1, 1) := by decide +kernel
theorem dL_law_1468 : decode cL_law 1468 = .ok (.iadd, 1) := by decide +kernel
theorem dL_law_1469 : decode cL_law 1469 = .ok (.iaload, 1) := by decide +kernel
theorem dL_law_1470 : decode cL_law 1470 = .ok (.aload_n 0, 1) := by decide +kernel
theorem dL_law_1471 : decode cL_law 1471 = .ok (.iload_n 3, 1) := by decide +kernel
theorem dL_law_1472 : decode cL_law 1472 = .ok (.iconst 2, 1) := by decide +kernel
theorem dL_law_1473 : decode cL_law 1473 = .ok (.iadd, 1) := by decide +kernel
theorem dL_law_1474 : decode cL_law 1474 = .ok (.iaload, 1) := by decide +kernel
theorem dL_law_1475 : decode cL_law 1475 = .ok (.aload_n 0, 1) := by decide +kernel
theorem dL_law_1476 : decode cL_law 1476 = .ok (.iload_n 3, 1) := by decide +kernel
theorem dL_law_1477 : decode cL_law 1477 = .ok (.iconst 3, 1) := by decide +kernel
theorem dL_law_1478 : decode cL_law 1478 = .ok (.iadd, 1) := by decide +kernel
theorem dL_law_1479 : decode cL_law 1479 = .ok (.iaload, 1) := by decide +kernel
theorem dL_law_1480 : decode cL_law 1480 = .ok (.aload_n 0, 1) := by decide +kernel
theorem dL_law_1481 : decode cL_law 1481 = .ok (.iload_n 3, 1) := by decide +kernel
theorem dL_law_1482 : decode cL_law 1482 = .ok (.iconst 4, 1) := by decide +kernel
theorem dL_law_1483 : decode cL_law 1483 = .ok (.iadd, 1) := by decide +kernel
theorem dL_law_1484 : decode cL_law 1484 = .ok (.iaload, 1) := by decide +kernel
theorem dL_law_1485 : decode cL_law 1485 = .ok (.aload_n 0, 1) := by decide +kernel
theorem dL_law_1486 : decode cL_law 1486 = .ok (.iload_n 3, 1) := by decide +kernel
theorem dL_law_1487 : decode cL_law 1487 = .ok (.iconst 5, 1) := by decide +kernel
theorem dL_law_1488 : decode cL_law 1488 = .ok (.iadd, 1) := by decide +kernel
theorem dL_law_1489 : decode cL_law 1489 = .ok (.iaload, 1) := by decide +kernel
theorem dL_law_1490 : decode cL_law 1490 = .ok (.invokevirtual 169, 3) := by decide +kernel
theorem dL_law_1493 : decode cL_law 1493 = .ok (.aload_n 2, 1) := by decide +kernel
theorem dL_law_1494 : decode cL_law 1494 = .ok (.aload_n 0, 1) := by decide +kernel
theorem dL_law_1495 : decode cL_law 1495 = .ok (.iload_n 3, 1) := by decide +kernel
theorem dL_law_1496 : decode cL_law 1496 = .ok (.iconst 1, 1) := by decide +kernel
theorem dL_law_1497 : decode cL_law 1497 = .ok (.iadd, 1) := by decide +kernel
theorem dL_law_1498 : decode cL_law 1498 = .ok (.iaload, 1) := by decide +kernel
theorem dL_law_1499 : decode cL_law 1499 = .ok (.aload_n 0, 1) := by decide +kernel
theorem dL_law_1500 : decode cL_law 1500 = .ok (.iload_n 3, 1) := by decide +kernel
theorem dL_law_1501 : decode cL_law 1501 = .ok (.iconst 2, 1) := by decide +kernel
theorem dL_law_1502 : decode cL_law 1502 = .ok (.iadd, 1) := by decide +kernel
theorem dL_law_1503 : decode cL_law 1503 = .ok (.iaload, 1) := by decide +kernel
theorem dL_law_1504 : decode cL_law 1504 = .ok (.aload_n 0, 1) := by decide +kernel
theorem dL_law_1505 : decode cL_law 1505 = .ok (.iload_n 3, 1) := by decide +kernel
theorem dL_law_1506 : decode cL_law 1506 = .ok (.iconst 3, 1) := by decide +kernel
theorem dL_law_1507 : decode cL_law 1507 = .ok (.iadd, 1) := by decide +kernel
theorem dL_law_1508 : decode cL_law 1508 = .ok (.iaload, 1) := by decide +kernel
theorem dL_law_1509 : decode cL_law 1509 = .ok (.aload_n 0, 1) := by decide +kernel
theorem dL_law_1510 : decode cL_law 1510 = .ok (.iload_n 3, 1) := by decide +kernel
theorem dL_law_1511 : decode cL_law 1511 = .ok (.iconst 4, 1) := by decide +kernel
theorem dL_law_1512 : decode cL_law 1512 = .ok (.iadd, 1) := by decide +kernel
theorem dL_law_1513 : decode cL_law 1513 = .ok (.iaload, 1) := by decide +kernel
theorem dL_law_1514 : decode cL_law 1514 = .ok (.aload_n 0, 1) := by decide +kernel
theorem dL_law_1515 : decode cL_law 1515 = .ok (.iload_n 3, 1) := by decide +kernel
theorem dL_law_1516 : decode cL_law 1516 = .ok (.iconst 5, 1) := by decide +kernel
theorem dL_law_1517 : decode cL_law 1517 = .ok (.iadd, 1) := by decide +kernel
theorem dL_law_1518 : decode cL_law 1518 = .ok (.iaload, 1) := by decide +kernel
theorem dL_law_1519 : decode cL_law 1519 = .ok (.invokevirtual 172, 3) := by decide +kernel
theorem dL_law_1522 : decode cL_law 1522 = .ok (.if_icmp .eq 5, 3) := by decide +kernel
theorem dL_law_1525 : decode cL_law 1525 = .ok (.iconst 0, 1) := by decide +kernel
theorem dL_law_1526 : decode cL_law 1526 = .ok (.ireturn, 1) := by decide +kernel
theorem dL_law_1527 : decode cL_law 1527 = .ok (.iinc 3 6, 3) := by decide +kernel
theorem dL_law_1530 : decode cL_law 1530 = .ok (.goto (-1512), 3) := by decide +kernel
theorem dL_law_1533 : decode cL_law 1533 = .ok (.iconst 1, 1) := by decide +kernel
theorem dL_law_1534 : decode cL_law 1534 = .ok (.ireturn, 1) := by decide +kernel
section LQ
variable {l : Launch} {e : hv_Ev} {A1 A2 : Nat → Prop} {b L : Nat} {xs : Nat → Int32} {cells slots r : Nat} {σ1 σ2 : hv_S} {D : hD} {hb : hB} {It : hT}
set_option maxRecDepth 4000 in
theorem Y_c0 (hr : 6 * r + 6 ≤ L ∧ L ≤ 384) (hcs : cells ≤ 600000 ∧ slots ≤ 7302249) (hR : RX D hb It σ1) (hM : RM D hb It σ2) (hW : hWF D) (hn : D 0 2 < 100000) (K : ∀ D' hb' It' σ1' σ2', RX D' hb' It' σ1' → RM D' hb' It' σ2' → hWF D' → D' 0 2 ≤ D 0 2 + 1 → hv_LT l e A1 A2 b L xs cells slots 1527 (lwL b e r) [] σ1' σ2') : hv_LT l e A1 A2 b L xs cells slots 196 (lwL b e r) [] σ1 σ2 := by
  refine Y_aload_n dL_law_196 rfl 2 rfl ?_
  refine Y_XI (d := 0) (n := 0) (As := []) (st := []) (Φ := fun v σ' => v = (mbR D).1 ∧ RX (mbR D).2 hb It σ') dL_law_197 mv_L_13 rfl rfl (Nat.le_of_ble_eq_true rfl) ⟨by decide, by decide⟩ hcs rfl (x_member hR hW (fun _ h => ⟨rfl, h⟩)) (fun v σ' hv => ?_)
  obtain ⟨rfl, hR1⟩ := hv
  refine Y_aload_n dL_law_200 rfl 1 rfl ?_
  refine Y_MI (d := 1) (n := 0) (As := []) (st := [.int (mbR D).1]) (Φ := fun v σ' => v = (mbR D).1 ∧ RM (mbR D).2 hb It σ') dL_law_201 mv_L_17 rfl rfl (Nat.le_of_ble_eq_true rfl) ⟨by decide, by decide⟩ hcs rfl (y_member hM hW (fun _ h => ⟨rfl, h⟩)) (fun v σ' hv => ?_)
  obtain ⟨rfl, hM1⟩ := hv
  refine Y_ieq (tgt := 1527) dL_law_204 (by decide) ?_
  exact K _ _ _ _ _ hR1 hM1 (mbR_W hW) (Nat.le_succ_of_le (Nat.le_of_eq (mbR_n)))
set_option maxRecDepth 4000 in
theorem Y_c1 (hr : 6 * r + 6 ≤ L ∧ L ≤ 384) (hcs : cells ≤ 600000 ∧ slots ≤ 7302249) (hR : RX D hb It σ1) (hM : RM D hb It σ2) (hW : hWF D) (hn : D 0 2 < 100000) (K : ∀ D' hb' It' σ1' σ2', RX D' hb' It' σ1' → RM D' hb' It' σ2' → hWF D' → D' 0 2 ≤ D 0 2 + 1 → hv_LT l e A1 A2 b L xs cells slots 1527 (lwL b e r) [] σ1' σ2') : hv_LT l e A1 A2 b L xs cells slots 209 (lwL b e r) [] σ1 σ2 := by
  refine Y_aload_n dL_law_209 rfl 2 rfl ?_
  refine Y_arg hr 1 (by decide) (by decide) dL_law_210 dL_law_211 dL_law_212 dL_law_213 dL_law_214 ?_
  refine Y_arg hr 2 (by decide) (by decide) dL_law_215 dL_law_216 dL_law_217 dL_law_218 dL_law_219 ?_
  refine Y_arg hr 3 (by decide) (by decide) dL_law_220 dL_law_221 dL_law_222 dL_law_223 dL_law_224 ?_
  refine Y_bool (t1 := 232) (t2 := 233) dL_law_225 (by decide) dL_law_228 dL_law_229 (by decide) dL_law_232 rfl ?_
  refine Y_arg hr 4 (by decide) (by decide) dL_law_233 dL_law_234 dL_law_235 dL_law_236 dL_law_237 ?_
  refine Y_XI (d := 4) (n := 4) (As := [.int (xs (6 * r + 1)), .int (xs (6 * r + 2)), .int (if (xs (6 * r + 3)) = 0 then 0 else 1), .int (xs (6 * r + 4))]) (st := []) (Φ := fun v σ' => v = (thR D (xs (6 * r + 1)) (xs (6 * r + 2)) (if (xs (6 * r + 3)) = 0 then 0 else 1) (xs (6 * r + 4))).1 ∧ RX (thR D (xs (6 * r + 1)) (xs (6 * r + 2)) (if (xs (6 * r + 3)) = 0 then 0 else 1) (xs (6 * r + 4))).2 hb It σ') dL_law_238 mv_L_18 rfl rfl (Nat.le_of_ble_eq_true rfl) ⟨by decide, by decide⟩ hcs rfl (x_think hR hW (xs (6 * r + 1)) (xs (6 * r + 2)) (if (xs (6 * r + 3)) = 0 then 0 else 1) (xs (6 * r + 4)) (fun _ h => ⟨rfl, h⟩)) (fun v σ' hv => ?_)
  obtain ⟨rfl, hR1⟩ := hv
  refine Y_aload_n dL_law_241 rfl 1 rfl ?_
  refine Y_arg hr 1 (by decide) (by decide) dL_law_242 dL_law_243 dL_law_244 dL_law_245 dL_law_246 ?_
  refine Y_arg hr 2 (by decide) (by decide) dL_law_247 dL_law_248 dL_law_249 dL_law_250 dL_law_251 ?_
  refine Y_arg hr 3 (by decide) (by decide) dL_law_252 dL_law_253 dL_law_254 dL_law_255 dL_law_256 ?_
  refine Y_bool (t1 := 264) (t2 := 265) dL_law_257 (by decide) dL_law_260 dL_law_261 (by decide) dL_law_264 rfl ?_
  refine Y_arg hr 4 (by decide) (by decide) dL_law_265 dL_law_266 dL_law_267 dL_law_268 dL_law_269 ?_
  refine Y_MI (d := 2) (n := 4) (As := [.int (xs (6 * r + 1)), .int (xs (6 * r + 2)), .int (if (xs (6 * r + 3)) = 0 then 0 else 1), .int (xs (6 * r + 4))]) (st := [.int (thR D (xs (6 * r + 1)) (xs (6 * r + 2)) (if (xs (6 * r + 3)) = 0 then 0 else 1) (xs (6 * r + 4))).1]) (Φ := fun v σ' => v = (thR D (xs (6 * r + 1)) (xs (6 * r + 2)) (if (xs (6 * r + 3)) = 0 then 0 else 1) (xs (6 * r + 4))).1 ∧ RM (thR D (xs (6 * r + 1)) (xs (6 * r + 2)) (if (xs (6 * r + 3)) = 0 then 0 else 1) (xs (6 * r + 4))).2 hb It σ') dL_law_270 mv_L_22 rfl rfl (Nat.le_of_ble_eq_true rfl) ⟨by decide, by decide⟩ hcs rfl (y_think hM hW (xs (6 * r + 1)) (xs (6 * r + 2)) (if (xs (6 * r + 3)) = 0 then 0 else 1) (xs (6 * r + 4)) (by split <;> decide) (fun _ h => ⟨rfl, h⟩)) (fun v σ' hv => ?_)
  obtain ⟨rfl, hM1⟩ := hv
  refine Y_ieq (tgt := 1527) dL_law_273 (by decide) ?_
  exact K _ _ _ _ _ hR1 hM1 (thR_W hW (xs (6 * r + 1)) (xs (6 * r + 2)) (if (xs (6 * r + 3)) = 0 then 0 else 1) (xs (6 * r + 4))) (Nat.le_succ_of_le (Nat.le_of_eq (thR_n (xs (6 * r + 1)) (xs (6 * r + 2)) (if (xs (6 * r + 3)) = 0 then 0 else 1) (xs (6 * r + 4)))))
set_option maxRecDepth 4000 in
theorem Y_c2 (hr : 6 * r + 6 ≤ L ∧ L ≤ 384) (hcs : cells ≤ 600000 ∧ slots ≤ 7302249) (hR : RX D hb It σ1) (hM : RM D hb It σ2) (hW : hWF D) (hn : D 0 2 < 100000) (K : ∀ D' hb' It' σ1' σ2', RX D' hb' It' σ1' → RM D' hb' It' σ2' → hWF D' → D' 0 2 ≤ D 0 2 + 1 → hv_LT l e A1 A2 b L xs cells slots 1527 (lwL b e r) [] σ1' σ2') : hv_LT l e A1 A2 b L xs cells slots 278 (lwL b e r) [] σ1 σ2 := by
  refine Y_aload_n dL_law_278 rfl 2 rfl ?_
  refine Y_arg hr 1 (by decide) (by decide) dL_law_279 dL_law_280 dL_law_281 dL_law_282 dL_law_283 ?_
  refine Y_arg hr 2 (by decide) (by decide) dL_law_284 dL_law_285 dL_law_286 dL_law_287 dL_law_288 ?_
  refine Y_arg hr 3 (by decide) (by decide) dL_law_289 dL_law_290 dL_law_291 dL_law_292 dL_law_293 ?_
  refine Y_XI (d := 1) (n := 3) (As := [.int (xs (6 * r + 1)), .int (xs (6 * r + 2)), .int (xs (6 * r + 3))]) (st := []) (Φ := fun v σ' => v = (hdR D (xs (6 * r + 1)) (xs (6 * r + 2)) (xs (6 * r + 3))).1 ∧ RX (hdR D (xs (6 * r + 1)) (xs (6 * r + 2)) (xs (6 * r + 3))).2 hb It σ') dL_law_294 mv_L_23 rfl rfl (Nat.le_of_ble_eq_true rfl) ⟨by decide, by decide⟩ hcs rfl (x_hand hR hW (xs (6 * r + 1)) (xs (6 * r + 2)) (xs (6 * r + 3)) (fun _ h => ⟨rfl, h⟩)) (fun v σ' hv => ?_)
  obtain ⟨rfl, hR1⟩ := hv
  refine Y_aload_n dL_law_297 rfl 1 rfl ?_
  refine Y_arg hr 1 (by decide) (by decide) dL_law_298 dL_law_299 dL_law_300 dL_law_301 dL_law_302 ?_
  refine Y_arg hr 2 (by decide) (by decide) dL_law_303 dL_law_304 dL_law_305 dL_law_306 dL_law_307 ?_
  refine Y_arg hr 3 (by decide) (by decide) dL_law_308 dL_law_309 dL_law_310 dL_law_311 dL_law_312 ?_
  refine Y_MI (d := 2) (n := 3) (As := [.int (xs (6 * r + 1)), .int (xs (6 * r + 2)), .int (xs (6 * r + 3))]) (st := [.int (hdR D (xs (6 * r + 1)) (xs (6 * r + 2)) (xs (6 * r + 3))).1]) (Φ := fun v σ' => v = (hdR D (xs (6 * r + 1)) (xs (6 * r + 2)) (xs (6 * r + 3))).1 ∧ RM (hdR D (xs (6 * r + 1)) (xs (6 * r + 2)) (xs (6 * r + 3))).2 hb It σ') dL_law_313 mv_L_27 rfl rfl (Nat.le_of_ble_eq_true rfl) ⟨by decide, by decide⟩ hcs rfl (y_hand hM hW (xs (6 * r + 1)) (xs (6 * r + 2)) (xs (6 * r + 3)) (fun _ h => ⟨rfl, h⟩)) (fun v σ' hv => ?_)
  obtain ⟨rfl, hM1⟩ := hv
  refine Y_ieq (tgt := 1527) dL_law_316 (by decide) ?_
  exact K _ _ _ _ _ hR1 hM1 (hdR_W hW (xs (6 * r + 1)) (xs (6 * r + 2)) (xs (6 * r + 3))) (Nat.le_succ_of_le (Nat.le_of_eq (hdR_n (xs (6 * r + 1)) (xs (6 * r + 2)) (xs (6 * r + 3)))))
set_option maxRecDepth 4000 in
theorem Y_c3 (hr : 6 * r + 6 ≤ L ∧ L ≤ 384) (hcs : cells ≤ 600000 ∧ slots ≤ 7302249) (hR : RX D hb It σ1) (hM : RM D hb It σ2) (hW : hWF D) (hn : D 0 2 < 100000) (K : ∀ D' hb' It' σ1' σ2', RX D' hb' It' σ1' → RM D' hb' It' σ2' → hWF D' → D' 0 2 ≤ D 0 2 + 1 → hv_LT l e A1 A2 b L xs cells slots 1527 (lwL b e r) [] σ1' σ2') : hv_LT l e A1 A2 b L xs cells slots 321 (lwL b e r) [] σ1 σ2 := by
  refine Y_aload_n dL_law_321 rfl 2 rfl ?_
  refine Y_arg hr 1 (by decide) (by decide) dL_law_322 dL_law_323 dL_law_324 dL_law_325 dL_law_326 ?_
  refine Y_arg hr 2 (by decide) (by decide) dL_law_327 dL_law_328 dL_law_329 dL_law_330 dL_law_331 ?_
  refine Y_arg hr 3 (by decide) (by decide) dL_law_332 dL_law_333 dL_law_334 dL_law_335 dL_law_336 ?_
  refine Y_XI (d := 1) (n := 3) (As := [.int (xs (6 * r + 1)), .int (xs (6 * r + 2)), .int (xs (6 * r + 3))]) (st := []) (Φ := fun v σ' => v = (gvR D (xs (6 * r + 1)) (xs (6 * r + 2)) (xs (6 * r + 3))).1 ∧ RX (gvR D (xs (6 * r + 1)) (xs (6 * r + 2)) (xs (6 * r + 3))).2 hb It σ') dL_law_337 mv_L_28 rfl rfl (Nat.le_of_ble_eq_true rfl) ⟨by decide, by decide⟩ hcs rfl (x_give hR hW (xs (6 * r + 1)) (xs (6 * r + 2)) (xs (6 * r + 3)) (fun _ h => ⟨rfl, h⟩)) (fun v σ' hv => ?_)
  obtain ⟨rfl, hR1⟩ := hv
  refine Y_aload_n dL_law_340 rfl 1 rfl ?_
  refine Y_arg hr 1 (by decide) (by decide) dL_law_341 dL_law_342 dL_law_343 dL_law_344 dL_law_345 ?_
  refine Y_arg hr 2 (by decide) (by decide) dL_law_346 dL_law_347 dL_law_348 dL_law_349 dL_law_350 ?_
  refine Y_arg hr 3 (by decide) (by decide) dL_law_351 dL_law_352 dL_law_353 dL_law_354 dL_law_355 ?_
  refine Y_MI (d := 2) (n := 3) (As := [.int (xs (6 * r + 1)), .int (xs (6 * r + 2)), .int (xs (6 * r + 3))]) (st := [.int (gvR D (xs (6 * r + 1)) (xs (6 * r + 2)) (xs (6 * r + 3))).1]) (Φ := fun v σ' => v = (gvR D (xs (6 * r + 1)) (xs (6 * r + 2)) (xs (6 * r + 3))).1 ∧ RM (gvR D (xs (6 * r + 1)) (xs (6 * r + 2)) (xs (6 * r + 3))).2 hb It σ') dL_law_356 mv_L_31 rfl rfl (Nat.le_of_ble_eq_true rfl) ⟨by decide, by decide⟩ hcs rfl (y_give hM hW (xs (6 * r + 1)) (xs (6 * r + 2)) (xs (6 * r + 3)) (fun _ h => ⟨rfl, h⟩)) (fun v σ' hv => ?_)
  obtain ⟨rfl, hM1⟩ := hv
  refine Y_ieq (tgt := 1527) dL_law_359 (by decide) ?_
  exact K _ _ _ _ _ hR1 hM1 (gvR_W hW (xs (6 * r + 1)) (xs (6 * r + 2)) (xs (6 * r + 3))) (Nat.le_succ_of_le (Nat.le_of_eq (gvR_n (xs (6 * r + 1)) (xs (6 * r + 2)) (xs (6 * r + 3)))))
set_option maxRecDepth 4000 in
theorem Y_c4 (hr : 6 * r + 6 ≤ L ∧ L ≤ 384) (hcs : cells ≤ 600000 ∧ slots ≤ 7302249) (hR : RX D hb It σ1) (hM : RM D hb It σ2) (hW : hWF D) (hn : D 0 2 < 100000) (K : ∀ D' hb' It' σ1' σ2', RX D' hb' It' σ1' → RM D' hb' It' σ2' → hWF D' → D' 0 2 ≤ D 0 2 + 1 → hv_LT l e A1 A2 b L xs cells slots 1527 (lwL b e r) [] σ1' σ2') : hv_LT l e A1 A2 b L xs cells slots 364 (lwL b e r) [] σ1 σ2 := by
  refine Y_aload_n dL_law_364 rfl 2 rfl ?_
  refine Y_arg hr 1 (by decide) (by decide) dL_law_365 dL_law_366 dL_law_367 dL_law_368 dL_law_369 ?_
  refine Y_arg hr 2 (by decide) (by decide) dL_law_370 dL_law_371 dL_law_372 dL_law_373 dL_law_374 ?_
  refine Y_arg hr 3 (by decide) (by decide) dL_law_375 dL_law_376 dL_law_377 dL_law_378 dL_law_379 ?_
  refine Y_arg hr 4 (by decide) (by decide) dL_law_380 dL_law_381 dL_law_382 dL_law_383 dL_law_384 ?_
  refine Y_arg hr 5 (by decide) (by decide) dL_law_385 dL_law_386 dL_law_387 dL_law_388 dL_law_389 ?_
  refine Y_XI (d := 1) (n := 5) (As := [.int (xs (6 * r + 1)), .int (xs (6 * r + 2)), .int (xs (6 * r + 3)), .int (xs (6 * r + 4)), .int (xs (6 * r + 5))]) (st := []) (Φ := fun v σ' => v = (nmR D (xs (6 * r + 1)) (xs (6 * r + 2)) (xs (6 * r + 3)) (xs (6 * r + 4)) (xs (6 * r + 5))).1 ∧ RX (nmR D (xs (6 * r + 1)) (xs (6 * r + 2)) (xs (6 * r + 3)) (xs (6 * r + 4)) (xs (6 * r + 5))).2 hb It σ') dL_law_390 mv_L_32 rfl rfl (Nat.le_of_ble_eq_true rfl) ⟨by decide, by decide⟩ hcs rfl (x_namesF hR hW (xs (6 * r + 1)) (xs (6 * r + 2)) (xs (6 * r + 3)) (xs (6 * r + 4)) (xs (6 * r + 5)) (fun _ h => ⟨rfl, h⟩)) (fun v σ' hv => ?_)
  obtain ⟨rfl, hR1⟩ := hv
  refine Y_aload_n dL_law_393 rfl 1 rfl ?_
  refine Y_arg hr 1 (by decide) (by decide) dL_law_394 dL_law_395 dL_law_396 dL_law_397 dL_law_398 ?_
  refine Y_arg hr 2 (by decide) (by decide) dL_law_399 dL_law_400 dL_law_401 dL_law_402 dL_law_403 ?_
  refine Y_arg hr 3 (by decide) (by decide) dL_law_404 dL_law_405 dL_law_406 dL_law_407 dL_law_408 ?_
  refine Y_arg hr 4 (by decide) (by decide) dL_law_409 dL_law_410 dL_law_411 dL_law_412 dL_law_413 ?_
  refine Y_arg hr 5 (by decide) (by decide) dL_law_414 dL_law_415 dL_law_416 dL_law_417 dL_law_418 ?_
  refine Y_MI (d := 2) (n := 5) (As := [.int (xs (6 * r + 1)), .int (xs (6 * r + 2)), .int (xs (6 * r + 3)), .int (xs (6 * r + 4)), .int (xs (6 * r + 5))]) (st := [.int (nmR D (xs (6 * r + 1)) (xs (6 * r + 2)) (xs (6 * r + 3)) (xs (6 * r + 4)) (xs (6 * r + 5))).1]) (Φ := fun v σ' => v = (nmR D (xs (6 * r + 1)) (xs (6 * r + 2)) (xs (6 * r + 3)) (xs (6 * r + 4)) (xs (6 * r + 5))).1 ∧ RM (nmR D (xs (6 * r + 1)) (xs (6 * r + 2)) (xs (6 * r + 3)) (xs (6 * r + 4)) (xs (6 * r + 5))).2 hb It σ') dL_law_419 mv_L_36 rfl rfl (Nat.le_of_ble_eq_true rfl) ⟨by decide, by decide⟩ hcs rfl (y_names hM hW (xs (6 * r + 1)) (xs (6 * r + 2)) (xs (6 * r + 3)) (xs (6 * r + 4)) (xs (6 * r + 5)) (fun _ h => ⟨rfl, h⟩)) (fun v σ' hv => ?_)
  obtain ⟨rfl, hM1⟩ := hv
  refine Y_ieq (tgt := 1527) dL_law_422 (by decide) ?_
  exact K _ _ _ _ _ hR1 hM1 (nmR_W hW (xs (6 * r + 1)) (xs (6 * r + 2)) (xs (6 * r + 3)) (xs (6 * r + 4)) (xs (6 * r + 5))) (Nat.le_succ_of_le (Nat.le_of_eq (nmR_n (xs (6 * r + 1)) (xs (6 * r + 2)) (xs (6 * r + 3)) (xs (6 * r + 4)) (xs (6 * r + 5)))))
set_option maxRecDepth 4000 in
theorem Y_c5 (hr : 6 * r + 6 ≤ L ∧ L ≤ 384) (hcs : cells ≤ 600000 ∧ slots ≤ 7302249) (hR : RX D hb It σ1) (hM : RM D hb It σ2) (hW : hWF D) (hn : D 0 2 < 100000) (K : ∀ D' hb' It' σ1' σ2', RX D' hb' It' σ1' → RM D' hb' It' σ2' → hWF D' → D' 0 2 ≤ D 0 2 + 1 → hv_LT l e A1 A2 b L xs cells slots 1527 (lwL b e r) [] σ1' σ2') : hv_LT l e A1 A2 b L xs cells slots 427 (lwL b e r) [] σ1 σ2 := by
  refine Y_aload_n dL_law_427 rfl 2 rfl ?_
  refine Y_arg hr 1 (by decide) (by decide) dL_law_428 dL_law_429 dL_law_430 dL_law_431 dL_law_432 ?_
  refine Y_arg hr 2 (by decide) (by decide) dL_law_433 dL_law_434 dL_law_435 dL_law_436 dL_law_437 ?_
  refine Y_arg hr 3 (by decide) (by decide) dL_law_438 dL_law_439 dL_law_440 dL_law_441 dL_law_442 ?_
  refine Y_XI (d := 1) (n := 3) (As := [.int (xs (6 * r + 1)), .int (xs (6 * r + 2)), .int (xs (6 * r + 3))]) (st := []) (Φ := fun v σ' => v = (bkR D (xs (6 * r + 1)) (xs (6 * r + 2)) (xs (6 * r + 3))).1 ∧ RX (bkR D (xs (6 * r + 1)) (xs (6 * r + 2)) (xs (6 * r + 3))).2 hb It σ') dL_law_443 mv_L_37 rfl rfl (Nat.le_of_ble_eq_true rfl) ⟨by decide, by decide⟩ hcs rfl (x_back hR hW (xs (6 * r + 1)) (xs (6 * r + 2)) (xs (6 * r + 3)) (fun _ h => ⟨rfl, h⟩)) (fun v σ' hv => ?_)
  obtain ⟨rfl, hR1⟩ := hv
  refine Y_aload_n dL_law_446 rfl 1 rfl ?_
  refine Y_arg hr 1 (by decide) (by decide) dL_law_447 dL_law_448 dL_law_449 dL_law_450 dL_law_451 ?_
  refine Y_arg hr 2 (by decide) (by decide) dL_law_452 dL_law_453 dL_law_454 dL_law_455 dL_law_456 ?_
  refine Y_arg hr 3 (by decide) (by decide) dL_law_457 dL_law_458 dL_law_459 dL_law_460 dL_law_461 ?_
  refine Y_MI (d := 2) (n := 3) (As := [.int (xs (6 * r + 1)), .int (xs (6 * r + 2)), .int (xs (6 * r + 3))]) (st := [.int (bkR D (xs (6 * r + 1)) (xs (6 * r + 2)) (xs (6 * r + 3))).1]) (Φ := fun v σ' => v = (bkR D (xs (6 * r + 1)) (xs (6 * r + 2)) (xs (6 * r + 3))).1 ∧ RM (bkR D (xs (6 * r + 1)) (xs (6 * r + 2)) (xs (6 * r + 3))).2 hb It σ') dL_law_462 mv_L_40 rfl rfl (Nat.le_of_ble_eq_true rfl) ⟨by decide, by decide⟩ hcs rfl (y_back hM hW (xs (6 * r + 1)) (xs (6 * r + 2)) (xs (6 * r + 3)) (fun _ h => ⟨rfl, h⟩)) (fun v σ' hv => ?_)
  obtain ⟨rfl, hM1⟩ := hv
  refine Y_ieq (tgt := 1527) dL_law_465 (by decide) ?_
  exact K _ _ _ _ _ hR1 hM1 (bkR_W hW (xs (6 * r + 1)) (xs (6 * r + 2)) (xs (6 * r + 3))) (Nat.le_succ_of_le (Nat.le_of_eq (bkR_n (xs (6 * r + 1)) (xs (6 * r + 2)) (xs (6 * r + 3)))))
set_option maxRecDepth 4000 in
theorem Y_c6 (hr : 6 * r + 6 ≤ L ∧ L ≤ 384) (hcs : cells ≤ 600000 ∧ slots ≤ 7302249) (hR : RX D hb It σ1) (hM : RM D hb It σ2) (hW : hWF D) (hn : D 0 2 < 100000) (K : ∀ D' hb' It' σ1' σ2', RX D' hb' It' σ1' → RM D' hb' It' σ2' → hWF D' → D' 0 2 ≤ D 0 2 + 1 → hv_LT l e A1 A2 b L xs cells slots 1527 (lwL b e r) [] σ1' σ2') : hv_LT l e A1 A2 b L xs cells slots 470 (lwL b e r) [] σ1 σ2 := by
  refine Y_aload_n dL_law_470 rfl 2 rfl ?_
  refine Y_arg hr 1 (by decide) (by decide) dL_law_471 dL_law_472 dL_law_473 dL_law_474 dL_law_475 ?_
  refine Y_XI (d := 0) (n := 1) (As := [.int (xs (6 * r + 1))]) (st := []) (Φ := fun v σ' => v = (psR D (xs (6 * r + 1))).1 ∧ RX (psR D (xs (6 * r + 1))).2 hb It σ') dL_law_476 mv_L_41 rfl rfl (Nat.le_of_ble_eq_true rfl) ⟨by decide, by decide⟩ hcs rfl (x_pass hR hW (xs (6 * r + 1)) (fun _ h => ⟨rfl, h⟩)) (fun v σ' hv => ?_)
  obtain ⟨rfl, hR1⟩ := hv
  refine Y_aload_n dL_law_479 rfl 1 rfl ?_
  refine Y_arg hr 1 (by decide) (by decide) dL_law_480 dL_law_481 dL_law_482 dL_law_483 dL_law_484 ?_
  refine Y_MI (d := 1) (n := 1) (As := [.int (xs (6 * r + 1))]) (st := [.int (psR D (xs (6 * r + 1))).1]) (Φ := fun v σ' => v = (psR D (xs (6 * r + 1))).1 ∧ RM (psR D (xs (6 * r + 1))).2 hb It σ') dL_law_485 mv_L_45 rfl rfl (Nat.le_of_ble_eq_true rfl) ⟨by decide, by decide⟩ hcs rfl (y_pass hM hW (xs (6 * r + 1)) (fun _ h => ⟨rfl, h⟩)) (fun v σ' hv => ?_)
  obtain ⟨rfl, hM1⟩ := hv
  refine Y_ieq (tgt := 1527) dL_law_488 (by decide) ?_
  exact K _ _ _ _ _ hR1 hM1 (psR_W hW (xs (6 * r + 1))) (Nat.le_succ_of_le (Nat.le_of_eq (psR_n (xs (6 * r + 1)))))
set_option maxRecDepth 4000 in
theorem Y_c7 (hr : 6 * r + 6 ≤ L ∧ L ≤ 384) (hcs : cells ≤ 600000 ∧ slots ≤ 7302249) (hR : RX D hb It σ1) (hM : RM D hb It σ2) (hW : hWF D) (hn : D 0 2 < 100000) (K : ∀ D' hb' It' σ1' σ2', RX D' hb' It' σ1' → RM D' hb' It' σ2' → hWF D' → D' 0 2 ≤ D 0 2 + 1 → hv_LT l e A1 A2 b L xs cells slots 1527 (lwL b e r) [] σ1' σ2') : hv_LT l e A1 A2 b L xs cells slots 493 (lwL b e r) [] σ1 σ2 := by
  refine Y_aload_n dL_law_493 rfl 2 rfl ?_
  refine Y_arg hr 1 (by decide) (by decide) dL_law_494 dL_law_495 dL_law_496 dL_law_497 dL_law_498 ?_
  refine Y_arg hr 2 (by decide) (by decide) dL_law_499 dL_law_500 dL_law_501 dL_law_502 dL_law_503 ?_
  refine Y_arg hr 3 (by decide) (by decide) dL_law_504 dL_law_505 dL_law_506 dL_law_507 dL_law_508 ?_
  refine Y_XI (d := 1) (n := 3) (As := [.int (xs (6 * r + 1)), .int (xs (6 * r + 2)), .int (xs (6 * r + 3))]) (st := []) (Φ := fun v σ' => v = (ofA D (xs (6 * r + 1)) (xs (6 * r + 2)) (xs (6 * r + 3))) ∧ RX D hb It σ') dL_law_509 mv_L_46 rfl rfl (Nat.le_of_ble_eq_true rfl) ⟨by decide, by decide⟩ hcs rfl (x_of hR hW (xs (6 * r + 1)) (xs (6 * r + 2)) (xs (6 * r + 3)) ⟨rfl, hR⟩) (fun v σ' hv => ?_)
  obtain ⟨rfl, hR1⟩ := hv
  refine Y_aload_n dL_law_512 rfl 1 rfl ?_
  refine Y_arg hr 1 (by decide) (by decide) dL_law_513 dL_law_514 dL_law_515 dL_law_516 dL_law_517 ?_
  refine Y_arg hr 2 (by decide) (by decide) dL_law_518 dL_law_519 dL_law_520 dL_law_521 dL_law_522 ?_
  refine Y_arg hr 3 (by decide) (by decide) dL_law_523 dL_law_524 dL_law_525 dL_law_526 dL_law_527 ?_
  refine Y_MI (d := 2) (n := 3) (As := [.int (xs (6 * r + 1)), .int (xs (6 * r + 2)), .int (xs (6 * r + 3))]) (st := [.int (ofA D (xs (6 * r + 1)) (xs (6 * r + 2)) (xs (6 * r + 3)))]) (Φ := fun v σ' => v = (ofA D (xs (6 * r + 1)) (xs (6 * r + 2)) (xs (6 * r + 3))) ∧ RM D hb It σ') dL_law_528 mv_L_49 rfl rfl (Nat.le_of_ble_eq_true rfl) ⟨by decide, by decide⟩ hcs rfl (y_of hM hW (xs (6 * r + 1)) (xs (6 * r + 2)) (xs (6 * r + 3)) ⟨rfl, hM⟩) (fun v σ' hv => ?_)
  obtain ⟨rfl, hM1⟩ := hv
  refine Y_ieq (tgt := 1527) dL_law_531 (by decide) ?_
  exact K _ _ _ _ _ hR1 hM1 hW (Nat.le_succ _)
set_option maxRecDepth 4000 in
theorem Y_c8 (hr : 6 * r + 6 ≤ L ∧ L ≤ 384) (hcs : cells ≤ 600000 ∧ slots ≤ 7302249) (hR : RX D hb It σ1) (hM : RM D hb It σ2) (hW : hWF D) (hn : D 0 2 < 100000) (K : ∀ D' hb' It' σ1' σ2', RX D' hb' It' σ1' → RM D' hb' It' σ2' → hWF D' → D' 0 2 ≤ D 0 2 + 1 → hv_LT l e A1 A2 b L xs cells slots 1527 (lwL b e r) [] σ1' σ2') : hv_LT l e A1 A2 b L xs cells slots 536 (lwL b e r) [] σ1 σ2 := by
  refine Y_aload_n dL_law_536 rfl 2 rfl ?_
  refine Y_arg hr 1 (by decide) (by decide) dL_law_537 dL_law_538 dL_law_539 dL_law_540 dL_law_541 ?_
  refine Y_arg hr 2 (by decide) (by decide) dL_law_542 dL_law_543 dL_law_544 dL_law_545 dL_law_546 ?_
  refine Y_XI (d := 1) (n := 2) (As := [.int (xs (6 * r + 1)), .int (xs (6 * r + 2))]) (st := []) (Φ := fun v σ' => v = (feR D (xs (6 * r + 1)) (xs (6 * r + 2))).1 ∧ RX (feR D (xs (6 * r + 1)) (xs (6 * r + 2))).2 hb It σ') dL_law_547 mv_L_50 rfl rfl (Nat.le_of_ble_eq_true rfl) ⟨by decide, by decide⟩ hcs rfl (x_feed hR hW (xs (6 * r + 1)) (xs (6 * r + 2)) (fun _ h => ⟨rfl, h⟩)) (fun v σ' hv => ?_)
  obtain ⟨rfl, hR1⟩ := hv
  refine Y_aload_n dL_law_550 rfl 1 rfl ?_
  refine Y_arg hr 1 (by decide) (by decide) dL_law_551 dL_law_552 dL_law_553 dL_law_554 dL_law_555 ?_
  refine Y_arg hr 2 (by decide) (by decide) dL_law_556 dL_law_557 dL_law_558 dL_law_559 dL_law_560 ?_
  refine Y_MI (d := 1) (n := 2) (As := [.int (xs (6 * r + 1)), .int (xs (6 * r + 2))]) (st := [.int (feR D (xs (6 * r + 1)) (xs (6 * r + 2))).1]) (Φ := fun v σ' => v = (feR D (xs (6 * r + 1)) (xs (6 * r + 2))).1 ∧ RM (feR D (xs (6 * r + 1)) (xs (6 * r + 2))).2 hb It σ') dL_law_561 mv_L_54 rfl rfl (Nat.le_of_ble_eq_true rfl) ⟨by decide, by decide⟩ hcs rfl (y_feed hM hW (xs (6 * r + 1)) (xs (6 * r + 2)) (fun _ h => ⟨rfl, h⟩)) (fun v σ' hv => ?_)
  obtain ⟨rfl, hM1⟩ := hv
  refine Y_ieq (tgt := 1527) dL_law_564 (by decide) ?_
  exact K _ _ _ _ _ hR1 hM1 (feR_W hW (xs (6 * r + 1)) (xs (6 * r + 2))) (Nat.le_succ_of_le (Nat.le_of_eq (feR_n (xs (6 * r + 1)) (xs (6 * r + 2)))))
set_option maxRecDepth 4000 in
theorem Y_c9 (hr : 6 * r + 6 ≤ L ∧ L ≤ 384) (hcs : cells ≤ 600000 ∧ slots ≤ 7302249) (hR : RX D hb It σ1) (hM : RM D hb It σ2) (hW : hWF D) (hn : D 0 2 < 100000) (K : ∀ D' hb' It' σ1' σ2', RX D' hb' It' σ1' → RM D' hb' It' σ2' → hWF D' → D' 0 2 ≤ D 0 2 + 1 → hv_LT l e A1 A2 b L xs cells slots 1527 (lwL b e r) [] σ1' σ2') : hv_LT l e A1 A2 b L xs cells slots 569 (lwL b e r) [] σ1 σ2 := by
  refine Y_aload_n dL_law_569 rfl 2 rfl ?_
  refine Y_XI (d := 19) (n := 0) (As := []) (st := []) (Φ := fun v σ' => v = (hlR D hb).1 ∧ RX (hlR D hb).2.1 (hlR D hb).2.2 It σ') dL_law_570 mv_L_55 rfl rfl (Nat.le_of_ble_eq_true rfl) ⟨by decide, by decide⟩ hcs rfl (x_hall hR hW (fun _ h => ⟨rfl, h⟩)) (fun v σ' hv => ?_)
  obtain ⟨rfl, hR1⟩ := hv
  refine Y_aload_n dL_law_573 rfl 1 rfl ?_
  refine Y_MI (d := 7) (n := 0) (As := []) (st := [.int (hlR D hb).1]) (Φ := fun v σ' => v = (hlR D hb).1 ∧ RM (hlR D hb).2.1 (hlR D hb).2.2 It σ') dL_law_574 mv_L_58 rfl rfl (Nat.le_of_ble_eq_true rfl) ⟨by decide, by decide⟩ hcs rfl (y_hall hM hW (fun _ h => ⟨rfl, h⟩)) (fun v σ' hv => ?_)
  obtain ⟨rfl, hM1⟩ := hv
  refine Y_ieq (tgt := 1527) dL_law_577 (by decide) ?_
  exact K _ _ _ _ _ hR1 hM1 (hlR_W hW hn) hlR_n
set_option maxRecDepth 4000 in
theorem Y_c10 (hr : 6 * r + 6 ≤ L ∧ L ≤ 384) (hcs : cells ≤ 600000 ∧ slots ≤ 7302249) (hR : RX D hb It σ1) (hM : RM D hb It σ2) (hW : hWF D) (hn : D 0 2 < 100000) (K : ∀ D' hb' It' σ1' σ2', RX D' hb' It' σ1' → RM D' hb' It' σ2' → hWF D' → D' 0 2 ≤ D 0 2 + 1 → hv_LT l e A1 A2 b L xs cells slots 1527 (lwL b e r) [] σ1' σ2') : hv_LT l e A1 A2 b L xs cells slots 582 (lwL b e r) [] σ1 σ2 := by
  refine Y_aload_n dL_law_582 rfl 2 rfl ?_
  refine Y_arg hr 1 (by decide) (by decide) dL_law_583 dL_law_584 dL_law_585 dL_law_586 dL_law_587 ?_
  refine Y_arg hr 2 (by decide) (by decide) dL_law_588 dL_law_589 dL_law_590 dL_law_591 dL_law_592 ?_
  refine Y_arg hr 3 (by decide) (by decide) dL_law_593 dL_law_594 dL_law_595 dL_law_596 dL_law_597 ?_
  refine Y_XI (d := 2) (n := 3) (As := [.int (xs (6 * r + 1)), .int (xs (6 * r + 2)), .int (xs (6 * r + 3))]) (st := []) (Φ := fun v σ' => v = (baA D hb (xs (6 * r + 1)) (xs (6 * r + 2)) (xs (6 * r + 3))) ∧ RX D hb It σ') dL_law_598 mv_L_59 rfl rfl (Nat.le_of_ble_eq_true rfl) ⟨by decide, by decide⟩ hcs rfl (x_barred hR hW (xs (6 * r + 1)) (xs (6 * r + 2)) (xs (6 * r + 3)) ⟨rfl, hR⟩) (fun v σ' hv => ?_)
  obtain ⟨rfl, hR1⟩ := hv
  refine Y_aload_n dL_law_601 rfl 1 rfl ?_
  refine Y_arg hr 1 (by decide) (by decide) dL_law_602 dL_law_603 dL_law_604 dL_law_605 dL_law_606 ?_
  refine Y_arg hr 2 (by decide) (by decide) dL_law_607 dL_law_608 dL_law_609 dL_law_610 dL_law_611 ?_
  refine Y_arg hr 3 (by decide) (by decide) dL_law_612 dL_law_613 dL_law_614 dL_law_615 dL_law_616 ?_
  refine Y_MI (d := 8) (n := 3) (As := [.int (xs (6 * r + 1)), .int (xs (6 * r + 2)), .int (xs (6 * r + 3))]) (st := [.int (baA D hb (xs (6 * r + 1)) (xs (6 * r + 2)) (xs (6 * r + 3)))]) (Φ := fun v σ' => v = (baA D hb (xs (6 * r + 1)) (xs (6 * r + 2)) (xs (6 * r + 3))) ∧ RM D hb It σ') dL_law_617 mv_L_62 rfl rfl (Nat.le_of_ble_eq_true rfl) ⟨by decide, by decide⟩ hcs rfl (y_barred hM hW (xs (6 * r + 1)) (xs (6 * r + 2)) (xs (6 * r + 3)) (fun _ h => ⟨rfl, h⟩)) (fun v σ' hv => ?_)
  obtain ⟨rfl, hM1⟩ := hv
  refine Y_ieq (tgt := 1527) dL_law_620 (by decide) ?_
  exact K _ _ _ _ _ hR1 hM1 hW (Nat.le_succ _)
set_option maxRecDepth 4000 in
theorem Y_c11 (hr : 6 * r + 6 ≤ L ∧ L ≤ 384) (hcs : cells ≤ 600000 ∧ slots ≤ 7302249) (hR : RX D hb It σ1) (hM : RM D hb It σ2) (hW : hWF D) (hn : D 0 2 < 100000) (K : ∀ D' hb' It' σ1' σ2', RX D' hb' It' σ1' → RM D' hb' It' σ2' → hWF D' → D' 0 2 ≤ D 0 2 + 1 → hv_LT l e A1 A2 b L xs cells slots 1527 (lwL b e r) [] σ1' σ2') : hv_LT l e A1 A2 b L xs cells slots 625 (lwL b e r) [] σ1 σ2 := by
  refine Y_aload_n dL_law_625 rfl 2 rfl ?_
  refine Y_arg hr 1 (by decide) (by decide) dL_law_626 dL_law_627 dL_law_628 dL_law_629 dL_law_630 ?_
  refine Y_arg hr 2 (by decide) (by decide) dL_law_631 dL_law_632 dL_law_633 dL_law_634 dL_law_635 ?_
  refine Y_arg hr 3 (by decide) (by decide) dL_law_636 dL_law_637 dL_law_638 dL_law_639 dL_law_640 ?_
  refine Y_XI (d := 5) (n := 3) (As := [.int (xs (6 * r + 1)), .int (xs (6 * r + 2)), .int (xs (6 * r + 3))]) (st := []) (Φ := fun v σ' => v = (shA D hb (xs (6 * r + 1)) (xs (6 * r + 2)) (xs (6 * r + 3))) ∧ RX D hb It σ') dL_law_641 mv_L_63 rfl rfl (Nat.le_of_ble_eq_true rfl) ⟨by decide, by decide⟩ hcs rfl (x_share hR hW (xs (6 * r + 1)) (xs (6 * r + 2)) (xs (6 * r + 3)) (fun _ h => ⟨rfl, hR.off h⟩)) (fun v σ' hv => ?_)
  obtain ⟨rfl, hR1⟩ := hv
  refine Y_aload_n dL_law_644 rfl 1 rfl ?_
  refine Y_arg hr 1 (by decide) (by decide) dL_law_645 dL_law_646 dL_law_647 dL_law_648 dL_law_649 ?_
  refine Y_arg hr 2 (by decide) (by decide) dL_law_650 dL_law_651 dL_law_652 dL_law_653 dL_law_654 ?_
  refine Y_arg hr 3 (by decide) (by decide) dL_law_655 dL_law_656 dL_law_657 dL_law_658 dL_law_659 ?_
  refine Y_MI (d := 12) (n := 3) (As := [.int (xs (6 * r + 1)), .int (xs (6 * r + 2)), .int (xs (6 * r + 3))]) (st := [.int (shA D hb (xs (6 * r + 1)) (xs (6 * r + 2)) (xs (6 * r + 3)))]) (Φ := fun v σ' => v = (shA D hb (xs (6 * r + 1)) (xs (6 * r + 2)) (xs (6 * r + 3))) ∧ RM D hb It σ') dL_law_660 mv_L_66 rfl rfl (Nat.le_of_ble_eq_true rfl) ⟨by decide, by decide⟩ hcs rfl (y_share hM hW (xs (6 * r + 1)) (xs (6 * r + 2)) (xs (6 * r + 3)) (fun _ h => ⟨rfl, h⟩)) (fun v σ' hv => ?_)
  obtain ⟨rfl, hM1⟩ := hv
  refine Y_ieq (tgt := 1527) dL_law_663 (by decide) ?_
  exact K _ _ _ _ _ hR1 hM1 hW (Nat.le_succ _)
set_option maxRecDepth 4000 in
theorem Y_c12 (hr : 6 * r + 6 ≤ L ∧ L ≤ 384) (hcs : cells ≤ 600000 ∧ slots ≤ 7302249) (hR : RX D hb It σ1) (hM : RM D hb It σ2) (hW : hWF D) (hn : D 0 2 < 100000) (K : ∀ D' hb' It' σ1' σ2', RX D' hb' It' σ1' → RM D' hb' It' σ2' → hWF D' → D' 0 2 ≤ D 0 2 + 1 → hv_LT l e A1 A2 b L xs cells slots 1527 (lwL b e r) [] σ1' σ2') : hv_LT l e A1 A2 b L xs cells slots 668 (lwL b e r) [] σ1 σ2 := by
  refine Y_aload_n dL_law_668 rfl 2 rfl ?_
  refine Y_arg hr 1 (by decide) (by decide) dL_law_669 dL_law_670 dL_law_671 dL_law_672 dL_law_673 ?_
  refine Y_arg hr 2 (by decide) (by decide) dL_law_674 dL_law_675 dL_law_676 dL_law_677 dL_law_678 ?_
  refine Y_arg hr 3 (by decide) (by decide) dL_law_679 dL_law_680 dL_law_681 dL_law_682 dL_law_683 ?_
  refine Y_XL (d := 7) (n := 3) (As := [.int (xs (6 * r + 1)), .int (xs (6 * r + 2)), .int (xs (6 * r + 3))]) (st := []) (Φ := fun v σ' => v = (voA D hb (xs (6 * r + 1)) (xs (6 * r + 2)) (xs (6 * r + 3))) ∧ RX D hb It σ') dL_law_684 mv_L_67 rfl rfl (Nat.le_of_ble_eq_true rfl) ⟨by decide, by decide⟩ hcs rfl (x_voices hR hW (xs (6 * r + 1)) (xs (6 * r + 2)) (xs (6 * r + 3)) (fun _ h => ⟨rfl, hR.off h⟩)) (fun v σ' hv => ?_)
  obtain ⟨rfl, hR1⟩ := hv
  refine Y_aload_n dL_law_687 rfl 1 rfl ?_
  refine Y_arg hr 1 (by decide) (by decide) dL_law_688 dL_law_689 dL_law_690 dL_law_691 dL_law_692 ?_
  refine Y_arg hr 2 (by decide) (by decide) dL_law_693 dL_law_694 dL_law_695 dL_law_696 dL_law_697 ?_
  refine Y_arg hr 3 (by decide) (by decide) dL_law_698 dL_law_699 dL_law_700 dL_law_701 dL_law_702 ?_
  refine Y_ML (d := 13) (n := 3) (As := [.int (xs (6 * r + 1)), .int (xs (6 * r + 2)), .int (xs (6 * r + 3))]) (st := [.long (voA D hb (xs (6 * r + 1)) (xs (6 * r + 2)) (xs (6 * r + 3)))]) (Φ := fun v σ' => v = (voA D hb (xs (6 * r + 1)) (xs (6 * r + 2)) (xs (6 * r + 3))) ∧ RM D hb It σ') dL_law_703 mv_L_71 rfl rfl (Nat.le_of_ble_eq_true rfl) ⟨by decide, by decide⟩ hcs rfl (y_voices hM hW (xs (6 * r + 1)) (xs (6 * r + 2)) (xs (6 * r + 3)) (fun _ h => ⟨rfl, h⟩)) (fun v σ' hv => ?_)
  obtain ⟨rfl, hM1⟩ := hv
  refine Y_leq (tgt := 1527) dL_law_706 dL_law_707 (by decide) ?_
  exact K _ _ _ _ _ hR1 hM1 hW (Nat.le_succ _)
set_option maxRecDepth 4000 in
theorem Y_c13 (hr : 6 * r + 6 ≤ L ∧ L ≤ 384) (hcs : cells ≤ 600000 ∧ slots ≤ 7302249) (hR : RX D hb It σ1) (hM : RM D hb It σ2) (hW : hWF D) (hn : D 0 2 < 100000) (K : ∀ D' hb' It' σ1' σ2', RX D' hb' It' σ1' → RM D' hb' It' σ2' → hWF D' → D' 0 2 ≤ D 0 2 + 1 → hv_LT l e A1 A2 b L xs cells slots 1527 (lwL b e r) [] σ1' σ2') : hv_LT l e A1 A2 b L xs cells slots 712 (lwL b e r) [] σ1 σ2 := by
  refine Y_aload_n dL_law_712 rfl 2 rfl ?_
  refine Y_arg hr 1 (by decide) (by decide) dL_law_713 dL_law_714 dL_law_715 dL_law_716 dL_law_717 ?_
  refine Y_XI (d := 5) (n := 1) (As := [.int (xs (6 * r + 1))]) (st := []) (Φ := fun v σ' => v = (an1 3 (xs (6 * r + 1)) (fun m => nI (lstM D hb m)) (-1)) ∧ RX D hb It σ') dL_law_718 mv_L_72 rfl rfl (Nat.le_of_ble_eq_true rfl) ⟨by decide, by decide⟩ hcs rfl (x_lost hR hW (xs (6 * r + 1)) (fun _ h => ⟨rfl, hR.off h⟩)) (fun v σ' hv => ?_)
  obtain ⟨rfl, hR1⟩ := hv
  refine Y_aload_n dL_law_721 rfl 1 rfl ?_
  refine Y_arg hr 1 (by decide) (by decide) dL_law_722 dL_law_723 dL_law_724 dL_law_725 dL_law_726 ?_
  refine Y_MI (d := 13) (n := 1) (As := [.int (xs (6 * r + 1))]) (st := [.int (an1 3 (xs (6 * r + 1)) (fun m => nI (lstM D hb m)) (-1))]) (Φ := fun v σ' => v = (an1 3 (xs (6 * r + 1)) (fun m => nI (lstM D hb m)) (-1)) ∧ RM D hb It σ') dL_law_727 mv_L_75 rfl rfl (Nat.le_of_ble_eq_true rfl) ⟨by decide, by decide⟩ hcs rfl (y_lost hM hW (xs (6 * r + 1)) (fun _ h => ⟨rfl, h⟩)) (fun v σ' hv => ?_)
  obtain ⟨rfl, hM1⟩ := hv
  refine Y_ieq (tgt := 1527) dL_law_730 (by decide) ?_
  exact K _ _ _ _ _ hR1 hM1 hW (Nat.le_succ _)
set_option maxRecDepth 4000 in
theorem Y_c14 (hr : 6 * r + 6 ≤ L ∧ L ≤ 384) (hcs : cells ≤ 600000 ∧ slots ≤ 7302249) (hR : RX D hb It σ1) (hM : RM D hb It σ2) (hW : hWF D) (hn : D 0 2 < 100000) (K : ∀ D' hb' It' σ1' σ2', RX D' hb' It' σ1' → RM D' hb' It' σ2' → hWF D' → D' 0 2 ≤ D 0 2 + 1 → hv_LT l e A1 A2 b L xs cells slots 1527 (lwL b e r) [] σ1' σ2') : hv_LT l e A1 A2 b L xs cells slots 735 (lwL b e r) [] σ1 σ2 := by
  refine Y_aload_n dL_law_735 rfl 2 rfl ?_
  refine Y_arg hr 1 (by decide) (by decide) dL_law_736 dL_law_737 dL_law_738 dL_law_739 dL_law_740 ?_
  refine Y_XI (d := 7) (n := 1) (As := [.int (xs (6 * r + 1))]) (st := []) (Φ := fun v σ' => v = (anM (fun m => bI (dcC D hb m (D 0 1) 0 (yeM D m))) (xs (6 * r + 1))) ∧ RX D hb It σ') dL_law_741 mv_L_76 rfl rfl (Nat.le_of_ble_eq_true rfl) ⟨by decide, by decide⟩ hcs rfl (x_decided hR hW (xs (6 * r + 1)) (fun _ h => ⟨rfl, hR.off h⟩)) (fun v σ' hv => ?_)
  obtain ⟨rfl, hR1⟩ := hv
  refine Y_aload_n dL_law_744 rfl 1 rfl ?_
  refine Y_arg hr 1 (by decide) (by decide) dL_law_745 dL_law_746 dL_law_747 dL_law_748 dL_law_749 ?_
  refine Y_MI (d := 13) (n := 1) (As := [.int (xs (6 * r + 1))]) (st := [.int (anM (fun m => bI (dcC D hb m (D 0 1) 0 (yeM D m))) (xs (6 * r + 1)))]) (Φ := fun v σ' => v = (anM (fun m => bI (dcC D hb m (D 0 1) 0 (yeM D m))) (xs (6 * r + 1))) ∧ RM D hb It σ') dL_law_750 mv_L_79 rfl rfl (Nat.le_of_ble_eq_true rfl) ⟨by decide, by decide⟩ hcs rfl (y_decided hM hW (xs (6 * r + 1)) (fun _ h => ⟨rfl, h⟩)) (fun v σ' hv => ?_)
  obtain ⟨rfl, hM1⟩ := hv
  refine Y_ieq (tgt := 1527) dL_law_753 (by decide) ?_
  exact K _ _ _ _ _ hR1 hM1 hW (Nat.le_succ _)
set_option maxRecDepth 4000 in
theorem Y_c15 (hr : 6 * r + 6 ≤ L ∧ L ≤ 384) (hcs : cells ≤ 600000 ∧ slots ≤ 7302249) (hR : RX D hb It σ1) (hM : RM D hb It σ2) (hW : hWF D) (hn : D 0 2 < 100000) (K : ∀ D' hb' It' σ1' σ2', RX D' hb' It' σ1' → RM D' hb' It' σ2' → hWF D' → D' 0 2 ≤ D 0 2 + 1 → hv_LT l e A1 A2 b L xs cells slots 1527 (lwL b e r) [] σ1' σ2') : hv_LT l e A1 A2 b L xs cells slots 758 (lwL b e r) [] σ1 σ2 := by
  refine Y_aload_n dL_law_758 rfl 2 rfl ?_
  refine Y_arg hr 1 (by decide) (by decide) dL_law_759 dL_law_760 dL_law_761 dL_law_762 dL_law_763 ?_
  refine Y_XI (d := 7) (n := 1) (As := [.int (xs (6 * r + 1))]) (st := []) (Φ := fun v σ' => v = (an1 3 (xs (6 * r + 1)) (fun m => nI (trM D hb m)) (-1)) ∧ RX D hb It σ') dL_law_764 mv_L_80 rfl rfl (Nat.le_of_ble_eq_true rfl) ⟨by decide, by decide⟩ hcs rfl (x_turning hR hW (xs (6 * r + 1)) (fun _ h => ⟨rfl, hR.off h⟩)) (fun v σ' hv => ?_)
  obtain ⟨rfl, hR1⟩ := hv
  refine Y_aload_n dL_law_767 rfl 1 rfl ?_
  refine Y_arg hr 1 (by decide) (by decide) dL_law_768 dL_law_769 dL_law_770 dL_law_771 dL_law_772 ?_
  refine Y_MI (d := 13) (n := 1) (As := [.int (xs (6 * r + 1))]) (st := [.int (an1 3 (xs (6 * r + 1)) (fun m => nI (trM D hb m)) (-1))]) (Φ := fun v σ' => v = (an1 3 (xs (6 * r + 1)) (fun m => nI (trM D hb m)) (-1)) ∧ RM D hb It σ') dL_law_773 mv_L_83 rfl rfl (Nat.le_of_ble_eq_true rfl) ⟨by decide, by decide⟩ hcs rfl (y_turning hM hW (xs (6 * r + 1)) (fun _ h => ⟨rfl, h⟩)) (fun v σ' hv => ?_)
  obtain ⟨rfl, hM1⟩ := hv
  refine Y_ieq (tgt := 1527) dL_law_776 (by decide) ?_
  exact K _ _ _ _ _ hR1 hM1 hW (Nat.le_succ _)
set_option maxRecDepth 4000 in
theorem Y_c16 (hr : 6 * r + 6 ≤ L ∧ L ≤ 384) (hcs : cells ≤ 600000 ∧ slots ≤ 7302249) (hR : RX D hb It σ1) (hM : RM D hb It σ2) (hW : hWF D) (hn : D 0 2 < 100000) (K : ∀ D' hb' It' σ1' σ2', RX D' hb' It' σ1' → RM D' hb' It' σ2' → hWF D' → D' 0 2 ≤ D 0 2 + 1 → hv_LT l e A1 A2 b L xs cells slots 1527 (lwL b e r) [] σ1' σ2') : hv_LT l e A1 A2 b L xs cells slots 781 (lwL b e r) [] σ1 σ2 := by
  refine Y_aload_n dL_law_781 rfl 2 rfl ?_
  refine Y_arg hr 1 (by decide) (by decide) dL_law_782 dL_law_783 dL_law_784 dL_law_785 dL_law_786 ?_
  refine Y_arg hr 2 (by decide) (by decide) dL_law_787 dL_law_788 dL_law_789 dL_law_790 dL_law_791 ?_
  refine Y_XI (d := 7) (n := 2) (As := [.int (xs (6 * r + 1)), .int (xs (6 * r + 2))]) (st := []) (Φ := fun v σ' => v = (pwA D hb (xs (6 * r + 1)) (xs (6 * r + 2))) ∧ RX D hb It σ') dL_law_792 mv_L_84 rfl rfl (Nat.le_of_ble_eq_true rfl) ⟨by decide, by decide⟩ hcs rfl (x_power hR hW (xs (6 * r + 1)) (xs (6 * r + 2)) (fun _ h => ⟨rfl, hR.off h⟩)) (fun v σ' hv => ?_)
  obtain ⟨rfl, hR1⟩ := hv
  refine Y_aload_n dL_law_795 rfl 1 rfl ?_
  refine Y_arg hr 1 (by decide) (by decide) dL_law_796 dL_law_797 dL_law_798 dL_law_799 dL_law_800 ?_
  refine Y_arg hr 2 (by decide) (by decide) dL_law_801 dL_law_802 dL_law_803 dL_law_804 dL_law_805 ?_
  refine Y_MI (d := 13) (n := 2) (As := [.int (xs (6 * r + 1)), .int (xs (6 * r + 2))]) (st := [.int (pwA D hb (xs (6 * r + 1)) (xs (6 * r + 2)))]) (Φ := fun v σ' => v = (pwA D hb (xs (6 * r + 1)) (xs (6 * r + 2))) ∧ RM D hb It σ') dL_law_806 mv_L_87 rfl rfl (Nat.le_of_ble_eq_true rfl) ⟨by decide, by decide⟩ hcs rfl (y_power hM hW (xs (6 * r + 1)) (xs (6 * r + 2)) (fun _ h => ⟨rfl, h⟩)) (fun v σ' hv => ?_)
  obtain ⟨rfl, hM1⟩ := hv
  refine Y_ieq (tgt := 1527) dL_law_809 (by decide) ?_
  exact K _ _ _ _ _ hR1 hM1 hW (Nat.le_succ _)
set_option maxRecDepth 4000 in
theorem Y_c17 (hr : 6 * r + 6 ≤ L ∧ L ≤ 384) (hcs : cells ≤ 600000 ∧ slots ≤ 7302249) (hR : RX D hb It σ1) (hM : RM D hb It σ2) (hW : hWF D) (hn : D 0 2 < 100000) (K : ∀ D' hb' It' σ1' σ2', RX D' hb' It' σ1' → RM D' hb' It' σ2' → hWF D' → D' 0 2 ≤ D 0 2 + 1 → hv_LT l e A1 A2 b L xs cells slots 1527 (lwL b e r) [] σ1' σ2') : hv_LT l e A1 A2 b L xs cells slots 814 (lwL b e r) [] σ1 σ2 := by
  refine Y_aload_n dL_law_814 rfl 2 rfl ?_
  refine Y_arg hr 1 (by decide) (by decide) dL_law_815 dL_law_816 dL_law_817 dL_law_818 dL_law_819 ?_
  refine Y_XI (d := 7) (n := 1) (As := [.int (xs (6 * r + 1))]) (st := []) (Φ := fun v σ' => v = (an1 3 (xs (6 * r + 1)) (fun m => oR (feS D hb m (2 ^ D 0 0))) (-1)) ∧ RX D hb It σ') dL_law_820 mv_L_88 rfl rfl (Nat.le_of_ble_eq_true rfl) ⟨by decide, by decide⟩ hcs rfl (x_few hR hW (xs (6 * r + 1)) (fun _ h => ⟨rfl, hR.off h⟩)) (fun v σ' hv => ?_)
  obtain ⟨rfl, hR1⟩ := hv
  refine Y_aload_n dL_law_823 rfl 1 rfl ?_
  refine Y_arg hr 1 (by decide) (by decide) dL_law_824 dL_law_825 dL_law_826 dL_law_827 dL_law_828 ?_
  refine Y_MI (d := 13) (n := 1) (As := [.int (xs (6 * r + 1))]) (st := [.int (an1 3 (xs (6 * r + 1)) (fun m => oR (feS D hb m (2 ^ D 0 0))) (-1))]) (Φ := fun v σ' => v = (an1 3 (xs (6 * r + 1)) (fun m => oR (feS D hb m (2 ^ D 0 0))) (-1)) ∧ RM D hb It σ') dL_law_829 mv_L_91 rfl rfl (Nat.le_of_ble_eq_true rfl) ⟨by decide, by decide⟩ hcs rfl (y_few hM hW (xs (6 * r + 1)) (fun _ h => ⟨rfl, h⟩)) (fun v σ' hv => ?_)
  obtain ⟨rfl, hM1⟩ := hv
  refine Y_ieq (tgt := 1527) dL_law_832 (by decide) ?_
  exact K _ _ _ _ _ hR1 hM1 hW (Nat.le_succ _)
set_option maxRecDepth 4000 in
theorem Y_c18 (hr : 6 * r + 6 ≤ L ∧ L ≤ 384) (hcs : cells ≤ 600000 ∧ slots ≤ 7302249) (hR : RX D hb It σ1) (hM : RM D hb It σ2) (hW : hWF D) (hn : D 0 2 < 100000) (K : ∀ D' hb' It' σ1' σ2', RX D' hb' It' σ1' → RM D' hb' It' σ2' → hWF D' → D' 0 2 ≤ D 0 2 + 1 → hv_LT l e A1 A2 b L xs cells slots 1527 (lwL b e r) [] σ1' σ2') : hv_LT l e A1 A2 b L xs cells slots 837 (lwL b e r) [] σ1 σ2 := by
  refine Y_aload_n dL_law_837 rfl 2 rfl ?_
  refine Y_arg hr 1 (by decide) (by decide) dL_law_838 dL_law_839 dL_law_840 dL_law_841 dL_law_842 ?_
  refine Y_arg hr 2 (by decide) (by decide) dL_law_843 dL_law_844 dL_law_845 dL_law_846 dL_law_847 ?_
  refine Y_XI (d := 4) (n := 2) (As := [.int (xs (6 * r + 1)), .int (xs (6 * r + 2))]) (st := []) (Φ := fun v σ' => v = (beA D hb (xs (6 * r + 1)) (xs (6 * r + 2))) ∧ RX D hb It σ') dL_law_848 mv_L_92 rfl rfl (Nat.le_of_ble_eq_true rfl) ⟨by decide, by decide⟩ hcs rfl (x_best hR hW (xs (6 * r + 1)) (xs (6 * r + 2)) (fun _ h => ⟨rfl, hR.off h⟩)) (fun v σ' hv => ?_)
  obtain ⟨rfl, hR1⟩ := hv
  refine Y_aload_n dL_law_851 rfl 1 rfl ?_
  refine Y_arg hr 1 (by decide) (by decide) dL_law_852 dL_law_853 dL_law_854 dL_law_855 dL_law_856 ?_
  refine Y_arg hr 2 (by decide) (by decide) dL_law_857 dL_law_858 dL_law_859 dL_law_860 dL_law_861 ?_
  refine Y_MI (d := 11) (n := 2) (As := [.int (xs (6 * r + 1)), .int (xs (6 * r + 2))]) (st := [.int (beA D hb (xs (6 * r + 1)) (xs (6 * r + 2)))]) (Φ := fun v σ' => v = (beA D hb (xs (6 * r + 1)) (xs (6 * r + 2))) ∧ RM D hb It σ') dL_law_862 mv_L_95 rfl rfl (Nat.le_of_ble_eq_true rfl) ⟨by decide, by decide⟩ hcs rfl (y_best hM hW (xs (6 * r + 1)) (xs (6 * r + 2)) (fun _ h => ⟨rfl, h⟩)) (fun v σ' hv => ?_)
  obtain ⟨rfl, hM1⟩ := hv
  refine Y_ieq (tgt := 1527) dL_law_865 (by decide) ?_
  exact K _ _ _ _ _ hR1 hM1 hW (Nat.le_succ _)
set_option maxRecDepth 4000 in
theorem Y_c19 (hr : 6 * r + 6 ≤ L ∧ L ≤ 384) (hcs : cells ≤ 600000 ∧ slots ≤ 7302249) (hR : RX D hb It σ1) (hM : RM D hb It σ2) (hW : hWF D) (hn : D 0 2 < 100000) (K : ∀ D' hb' It' σ1' σ2', RX D' hb' It' σ1' → RM D' hb' It' σ2' → hWF D' → D' 0 2 ≤ D 0 2 + 1 → hv_LT l e A1 A2 b L xs cells slots 1527 (lwL b e r) [] σ1' σ2') : hv_LT l e A1 A2 b L xs cells slots 870 (lwL b e r) [] σ1 σ2 := by
  refine Y_aload_n dL_law_870 rfl 2 rfl ?_
  refine Y_arg hr 1 (by decide) (by decide) dL_law_871 dL_law_872 dL_law_873 dL_law_874 dL_law_875 ?_
  refine Y_arg hr 2 (by decide) (by decide) dL_law_876 dL_law_877 dL_law_878 dL_law_879 dL_law_880 ?_
  refine Y_arg hr 3 (by decide) (by decide) dL_law_881 dL_law_882 dL_law_883 dL_law_884 dL_law_885 ?_
  refine Y_XL (d := 6) (n := 3) (As := [.int (xs (6 * r + 1)), .int (xs (6 * r + 2)), .int (xs (6 * r + 3))]) (st := []) (Φ := fun v σ' => v = (rtA D hb (xs (6 * r + 1)) (xs (6 * r + 2)) (xs (6 * r + 3))) ∧ RX D hb It σ') dL_law_886 mv_L_96 rfl rfl (Nat.le_of_ble_eq_true rfl) ⟨by decide, by decide⟩ hcs rfl (x_right hR hW (xs (6 * r + 1)) (xs (6 * r + 2)) (xs (6 * r + 3)) (fun _ h => ⟨rfl, hR.off h⟩)) (fun v σ' hv => ?_)
  obtain ⟨rfl, hR1⟩ := hv
  refine Y_aload_n dL_law_889 rfl 1 rfl ?_
  refine Y_arg hr 1 (by decide) (by decide) dL_law_890 dL_law_891 dL_law_892 dL_law_893 dL_law_894 ?_
  refine Y_arg hr 2 (by decide) (by decide) dL_law_895 dL_law_896 dL_law_897 dL_law_898 dL_law_899 ?_
  refine Y_arg hr 3 (by decide) (by decide) dL_law_900 dL_law_901 dL_law_902 dL_law_903 dL_law_904 ?_
  refine Y_ML (d := 13) (n := 3) (As := [.int (xs (6 * r + 1)), .int (xs (6 * r + 2)), .int (xs (6 * r + 3))]) (st := [.long (rtA D hb (xs (6 * r + 1)) (xs (6 * r + 2)) (xs (6 * r + 3)))]) (Φ := fun v σ' => v = (rtA D hb (xs (6 * r + 1)) (xs (6 * r + 2)) (xs (6 * r + 3))) ∧ RM D hb It σ') dL_law_905 mv_L_99 rfl rfl (Nat.le_of_ble_eq_true rfl) ⟨by decide, by decide⟩ hcs rfl (y_right hM hW (xs (6 * r + 1)) (xs (6 * r + 2)) (xs (6 * r + 3)) (fun _ h => ⟨rfl, h⟩)) (fun v σ' hv => ?_)
  obtain ⟨rfl, hM1⟩ := hv
  refine Y_leq (tgt := 1527) dL_law_908 dL_law_909 (by decide) ?_
  exact K _ _ _ _ _ hR1 hM1 hW (Nat.le_succ _)
set_option maxRecDepth 4000 in
theorem Y_c20 (hr : 6 * r + 6 ≤ L ∧ L ≤ 384) (hcs : cells ≤ 600000 ∧ slots ≤ 7302249) (hR : RX D hb It σ1) (hM : RM D hb It σ2) (hW : hWF D) (hn : D 0 2 < 100000) (K : ∀ D' hb' It' σ1' σ2', RX D' hb' It' σ1' → RM D' hb' It' σ2' → hWF D' → D' 0 2 ≤ D 0 2 + 1 → hv_LT l e A1 A2 b L xs cells slots 1527 (lwL b e r) [] σ1' σ2') : hv_LT l e A1 A2 b L xs cells slots 914 (lwL b e r) [] σ1 σ2 := by
  refine Y_aload_n dL_law_914 rfl 2 rfl ?_
  refine Y_arg hr 1 (by decide) (by decide) dL_law_915 dL_law_916 dL_law_917 dL_law_918 dL_law_919 ?_
  refine Y_XI (d := 2) (n := 1) (As := [.int (xs (6 * r + 1))]) (st := []) (Φ := fun v σ' => v = (an1 3 (xs (6 * r + 1)) (fun m => oR (sst (fun a => D 6 (8 * m + a)) (fun _ => true) (D 0 0))) (-1)) ∧ RX D hb It σ') dL_law_920 mv_L_100 rfl rfl (Nat.le_of_ble_eq_true rfl) ⟨by decide, by decide⟩ hcs rfl (x_surest hR hW (xs (6 * r + 1)) ⟨rfl, hR⟩) (fun v σ' hv => ?_)
  obtain ⟨rfl, hR1⟩ := hv
  refine Y_aload_n dL_law_923 rfl 1 rfl ?_
  refine Y_arg hr 1 (by decide) (by decide) dL_law_924 dL_law_925 dL_law_926 dL_law_927 dL_law_928 ?_
  refine Y_MI (d := 2) (n := 1) (As := [.int (xs (6 * r + 1))]) (st := [.int (an1 3 (xs (6 * r + 1)) (fun m => oR (sst (fun a => D 6 (8 * m + a)) (fun _ => true) (D 0 0))) (-1))]) (Φ := fun v σ' => v = (an1 3 (xs (6 * r + 1)) (fun m => oR (sst (fun a => D 6 (8 * m + a)) (fun _ => true) (D 0 0))) (-1)) ∧ RM D hb It σ') dL_law_929 mv_L_103 rfl rfl (Nat.le_of_ble_eq_true rfl) ⟨by decide, by decide⟩ hcs rfl (y_surest hM hW (xs (6 * r + 1)) ⟨rfl, hM⟩) (fun v σ' hv => ?_)
  obtain ⟨rfl, hM1⟩ := hv
  refine Y_ieq (tgt := 1527) dL_law_932 (by decide) ?_
  exact K _ _ _ _ _ hR1 hM1 hW (Nat.le_succ _)
set_option maxRecDepth 4000 in
theorem Y_c21 (hr : 6 * r + 6 ≤ L ∧ L ≤ 384) (hcs : cells ≤ 600000 ∧ slots ≤ 7302249) (hR : RX D hb It σ1) (hM : RM D hb It σ2) (hW : hWF D) (hn : D 0 2 < 100000) (K : ∀ D' hb' It' σ1' σ2', RX D' hb' It' σ1' → RM D' hb' It' σ2' → hWF D' → D' 0 2 ≤ D 0 2 + 1 → hv_LT l e A1 A2 b L xs cells slots 1527 (lwL b e r) [] σ1' σ2') : hv_LT l e A1 A2 b L xs cells slots 937 (lwL b e r) [] σ1 σ2 := by
  refine Y_aload_n dL_law_937 rfl 2 rfl ?_
  refine Y_arg hr 1 (by decide) (by decide) dL_law_938 dL_law_939 dL_law_940 dL_law_941 dL_law_942 ?_
  refine Y_XI (d := 7) (n := 1) (As := [.int (xs (6 * r + 1))]) (st := []) (Φ := fun v σ' => v = (anM (fun m => oR (brch D hb m)) (xs (6 * r + 1))) ∧ RX D hb It σ') dL_law_943 mv_L_104 rfl rfl (Nat.le_of_ble_eq_true rfl) ⟨by decide, by decide⟩ hcs rfl (x_breach hR hW (xs (6 * r + 1)) (fun _ h => ⟨rfl, hR.off h⟩)) (fun v σ' hv => ?_)
  obtain ⟨rfl, hR1⟩ := hv
  refine Y_aload_n dL_law_946 rfl 1 rfl ?_
  refine Y_arg hr 1 (by decide) (by decide) dL_law_947 dL_law_948 dL_law_949 dL_law_950 dL_law_951 ?_
  refine Y_MI (d := 13) (n := 1) (As := [.int (xs (6 * r + 1))]) (st := [.int (anM (fun m => oR (brch D hb m)) (xs (6 * r + 1)))]) (Φ := fun v σ' => v = (anM (fun m => oR (brch D hb m)) (xs (6 * r + 1))) ∧ RM D hb It σ') dL_law_952 mv_L_107 rfl rfl (Nat.le_of_ble_eq_true rfl) ⟨by decide, by decide⟩ hcs rfl (y_breach hM hW (xs (6 * r + 1)) (fun _ h => ⟨rfl, h⟩)) (fun v σ' hv => ?_)
  obtain ⟨rfl, hM1⟩ := hv
  refine Y_ieq (tgt := 1527) dL_law_955 (by decide) ?_
  exact K _ _ _ _ _ hR1 hM1 hW (Nat.le_succ _)
set_option maxRecDepth 4000 in
theorem Y_c22 (hr : 6 * r + 6 ≤ L ∧ L ≤ 384) (hcs : cells ≤ 600000 ∧ slots ≤ 7302249) (hR : RX D hb It σ1) (hM : RM D hb It σ2) (hW : hWF D) (hn : D 0 2 < 100000) (K : ∀ D' hb' It' σ1' σ2', RX D' hb' It' σ1' → RM D' hb' It' σ2' → hWF D' → D' 0 2 ≤ D 0 2 + 1 → hv_LT l e A1 A2 b L xs cells slots 1527 (lwL b e r) [] σ1' σ2') : hv_LT l e A1 A2 b L xs cells slots 960 (lwL b e r) [] σ1 σ2 := by
  refine Y_aload_n dL_law_960 rfl 2 rfl ?_
  refine Y_arg hr 1 (by decide) (by decide) dL_law_961 dL_law_962 dL_law_963 dL_law_964 dL_law_965 ?_
  refine Y_XI (d := 7) (n := 1) (As := [.int (xs (6 * r + 1))]) (st := []) (Φ := fun v σ' => v = (anM (fun m => oR (wish D hb m)) (xs (6 * r + 1))) ∧ RX D hb It σ') dL_law_966 mv_L_108 rfl rfl (Nat.le_of_ble_eq_true rfl) ⟨by decide, by decide⟩ hcs rfl (x_rather hR hW (xs (6 * r + 1)) (fun _ h => ⟨rfl, hR.off h⟩)) (fun v σ' hv => ?_)
  obtain ⟨rfl, hR1⟩ := hv
  refine Y_aload_n dL_law_969 rfl 1 rfl ?_
  refine Y_arg hr 1 (by decide) (by decide) dL_law_970 dL_law_971 dL_law_972 dL_law_973 dL_law_974 ?_
  refine Y_MI (d := 14) (n := 1) (As := [.int (xs (6 * r + 1))]) (st := [.int (anM (fun m => oR (wish D hb m)) (xs (6 * r + 1)))]) (Φ := fun v σ' => v = (anM (fun m => oR (wish D hb m)) (xs (6 * r + 1))) ∧ RM D hb It σ') dL_law_975 mv_L_111 rfl rfl (Nat.le_of_ble_eq_true rfl) ⟨by decide, by decide⟩ hcs rfl (y_rather hM hW (xs (6 * r + 1)) (fun _ h => ⟨rfl, h⟩)) (fun v σ' hv => ?_)
  obtain ⟨rfl, hM1⟩ := hv
  refine Y_ieq (tgt := 1527) dL_law_978 (by decide) ?_
  exact K _ _ _ _ _ hR1 hM1 hW (Nat.le_succ _)
set_option maxRecDepth 4000 in
theorem Y_c23 (hr : 6 * r + 6 ≤ L ∧ L ≤ 384) (hcs : cells ≤ 600000 ∧ slots ≤ 7302249) (hR : RX D hb It σ1) (hM : RM D hb It σ2) (hW : hWF D) (hn : D 0 2 < 100000) (K : ∀ D' hb' It' σ1' σ2', RX D' hb' It' σ1' → RM D' hb' It' σ2' → hWF D' → D' 0 2 ≤ D 0 2 + 1 → hv_LT l e A1 A2 b L xs cells slots 1527 (lwL b e r) [] σ1' σ2') : hv_LT l e A1 A2 b L xs cells slots 983 (lwL b e r) [] σ1 σ2 := by
  refine Y_aload_n dL_law_983 rfl 2 rfl ?_
  refine Y_arg hr 1 (by decide) (by decide) dL_law_984 dL_law_985 dL_law_986 dL_law_987 dL_law_988 ?_
  refine Y_XI (d := 7) (n := 1) (As := [.int (xs (6 * r + 1))]) (st := []) (Φ := fun v σ' => v = (seR D hb (xs (6 * r + 1))).1 ∧ RX (seR D hb (xs (6 * r + 1))).2 hb It σ') dL_law_989 mv_L_112 rfl rfl (Nat.le_of_ble_eq_true rfl) ⟨by decide, by decide⟩ hcs rfl (x_settle hR hW (xs (6 * r + 1)) (fun _ h => ⟨rfl, h⟩)) (fun v σ' hv => ?_)
  obtain ⟨rfl, hR1⟩ := hv
  refine Y_aload_n dL_law_992 rfl 1 rfl ?_
  refine Y_arg hr 1 (by decide) (by decide) dL_law_993 dL_law_994 dL_law_995 dL_law_996 dL_law_997 ?_
  refine Y_MI (d := 14) (n := 1) (As := [.int (xs (6 * r + 1))]) (st := [.int (seR D hb (xs (6 * r + 1))).1]) (Φ := fun v σ' => v = (seR D hb (xs (6 * r + 1))).1 ∧ RM (seR D hb (xs (6 * r + 1))).2 hb It σ') dL_law_998 mv_L_115 rfl rfl (Nat.le_of_ble_eq_true rfl) ⟨by decide, by decide⟩ hcs rfl (y_settle hM hW (xs (6 * r + 1)) (fun _ h => ⟨rfl, h⟩)) (fun v σ' hv => ?_)
  obtain ⟨rfl, hM1⟩ := hv
  refine Y_ieq (tgt := 1527) dL_law_1001 (by decide) ?_
  exact K _ _ _ _ _ hR1 hM1 (seR_W hW (xs (6 * r + 1))) (Nat.le_succ_of_le (Nat.le_of_eq (seR_n (xs (6 * r + 1)))))
set_option maxRecDepth 4000 in
theorem Y_c24 (hr : 6 * r + 6 ≤ L ∧ L ≤ 384) (hcs : cells ≤ 600000 ∧ slots ≤ 7302249) (hR : RX D hb It σ1) (hM : RM D hb It σ2) (hW : hWF D) (hn : D 0 2 < 100000) (K : ∀ D' hb' It' σ1' σ2', RX D' hb' It' σ1' → RM D' hb' It' σ2' → hWF D' → D' 0 2 ≤ D 0 2 + 1 → hv_LT l e A1 A2 b L xs cells slots 1527 (lwL b e r) [] σ1' σ2') : hv_LT l e A1 A2 b L xs cells slots 1006 (lwL b e r) [] σ1 σ2 := by
  refine Y_aload_n dL_law_1006 rfl 2 rfl ?_
  refine Y_arg hr 1 (by decide) (by decide) dL_law_1007 dL_law_1008 dL_law_1009 dL_law_1010 dL_law_1011 ?_
  refine Y_arg hr 2 (by decide) (by decide) dL_law_1012 dL_law_1013 dL_law_1014 dL_law_1015 dL_law_1016 ?_
  refine Y_XL (d := 7) (n := 2) (As := [.int (xs (6 * r + 1)), .int (xs (6 * r + 2))]) (st := []) (Φ := fun v σ' => v = (hpA D hb (xs (6 * r + 1)) (xs (6 * r + 2))) ∧ RX D hb It σ') dL_law_1017 mv_L_116 rfl rfl (Nat.le_of_ble_eq_true rfl) ⟨by decide, by decide⟩ hcs rfl (x_heap hR hW (xs (6 * r + 1)) (xs (6 * r + 2)) (fun _ h => ⟨rfl, hR.off h⟩)) (fun v σ' hv => ?_)
  obtain ⟨rfl, hR1⟩ := hv
  refine Y_aload_n dL_law_1020 rfl 1 rfl ?_
  refine Y_arg hr 1 (by decide) (by decide) dL_law_1021 dL_law_1022 dL_law_1023 dL_law_1024 dL_law_1025 ?_
  refine Y_arg hr 2 (by decide) (by decide) dL_law_1026 dL_law_1027 dL_law_1028 dL_law_1029 dL_law_1030 ?_
  refine Y_ML (d := 13) (n := 2) (As := [.int (xs (6 * r + 1)), .int (xs (6 * r + 2))]) (st := [.long (hpA D hb (xs (6 * r + 1)) (xs (6 * r + 2)))]) (Φ := fun v σ' => v = (hpA D hb (xs (6 * r + 1)) (xs (6 * r + 2))) ∧ RM D hb It σ') dL_law_1031 mv_L_120 rfl rfl (Nat.le_of_ble_eq_true rfl) ⟨by decide, by decide⟩ hcs rfl (y_heap hM hW (xs (6 * r + 1)) (xs (6 * r + 2)) (fun _ h => ⟨rfl, h⟩)) (fun v σ' hv => ?_)
  obtain ⟨rfl, hM1⟩ := hv
  refine Y_leq (tgt := 1527) dL_law_1034 dL_law_1035 (by decide) ?_
  exact K _ _ _ _ _ hR1 hM1 hW (Nat.le_succ _)
set_option maxRecDepth 4000 in
theorem Y_c25 (hr : 6 * r + 6 ≤ L ∧ L ≤ 384) (hcs : cells ≤ 600000 ∧ slots ≤ 7302249) (hR : RX D hb It σ1) (hM : RM D hb It σ2) (hW : hWF D) (hn : D 0 2 < 100000) (K : ∀ D' hb' It' σ1' σ2', RX D' hb' It' σ1' → RM D' hb' It' σ2' → hWF D' → D' 0 2 ≤ D 0 2 + 1 → hv_LT l e A1 A2 b L xs cells slots 1527 (lwL b e r) [] σ1' σ2') : hv_LT l e A1 A2 b L xs cells slots 1040 (lwL b e r) [] σ1 σ2 := by
  refine Y_aload_n dL_law_1040 rfl 2 rfl ?_
  refine Y_arg hr 1 (by decide) (by decide) dL_law_1041 dL_law_1042 dL_law_1043 dL_law_1044 dL_law_1045 ?_
  refine Y_arg hr 2 (by decide) (by decide) dL_law_1046 dL_law_1047 dL_law_1048 dL_law_1049 dL_law_1050 ?_
  refine Y_arg hr 3 (by decide) (by decide) dL_law_1051 dL_law_1052 dL_law_1053 dL_law_1054 dL_law_1055 ?_
  refine Y_XI (d := 7) (n := 3) (As := [.int (xs (6 * r + 1)), .int (xs (6 * r + 2)), .int (xs (6 * r + 3))]) (st := []) (Φ := fun v σ' => v = (mdA D hb (xs (6 * r + 1)) (xs (6 * r + 2)) (xs (6 * r + 3))) ∧ RX D hb It σ') dL_law_1056 mv_L_121 rfl rfl (Nat.le_of_ble_eq_true rfl) ⟨by decide, by decide⟩ hcs rfl (x_mend hR hW (xs (6 * r + 1)) (xs (6 * r + 2)) (xs (6 * r + 3)) (fun _ h => ⟨rfl, hR.off h⟩)) (fun v σ' hv => ?_)
  obtain ⟨rfl, hR1⟩ := hv
  refine Y_aload_n dL_law_1059 rfl 1 rfl ?_
  refine Y_arg hr 1 (by decide) (by decide) dL_law_1060 dL_law_1061 dL_law_1062 dL_law_1063 dL_law_1064 ?_
  refine Y_arg hr 2 (by decide) (by decide) dL_law_1065 dL_law_1066 dL_law_1067 dL_law_1068 dL_law_1069 ?_
  refine Y_arg hr 3 (by decide) (by decide) dL_law_1070 dL_law_1071 dL_law_1072 dL_law_1073 dL_law_1074 ?_
  refine Y_MI (d := 13) (n := 3) (As := [.int (xs (6 * r + 1)), .int (xs (6 * r + 2)), .int (xs (6 * r + 3))]) (st := [.int (mdA D hb (xs (6 * r + 1)) (xs (6 * r + 2)) (xs (6 * r + 3)))]) (Φ := fun v σ' => v = (mdA D hb (xs (6 * r + 1)) (xs (6 * r + 2)) (xs (6 * r + 3))) ∧ RM D hb It σ') dL_law_1075 mv_L_124 rfl rfl (Nat.le_of_ble_eq_true rfl) ⟨by decide, by decide⟩ hcs rfl (y_mend hM hW (xs (6 * r + 1)) (xs (6 * r + 2)) (xs (6 * r + 3)) (fun _ h => ⟨rfl, h⟩)) (fun v σ' hv => ?_)
  obtain ⟨rfl, hM1⟩ := hv
  refine Y_ieq (tgt := 1527) dL_law_1078 (by decide) ?_
  exact K _ _ _ _ _ hR1 hM1 hW (Nat.le_succ _)
set_option maxRecDepth 4000 in
theorem Y_c26 (hr : 6 * r + 6 ≤ L ∧ L ≤ 384) (hcs : cells ≤ 600000 ∧ slots ≤ 7302249) (hR : RX D hb It σ1) (hM : RM D hb It σ2) (hW : hWF D) (hn : D 0 2 < 100000) (K : ∀ D' hb' It' σ1' σ2', RX D' hb' It' σ1' → RM D' hb' It' σ2' → hWF D' → D' 0 2 ≤ D 0 2 + 1 → hv_LT l e A1 A2 b L xs cells slots 1527 (lwL b e r) [] σ1' σ2') : hv_LT l e A1 A2 b L xs cells slots 1083 (lwL b e r) [] σ1 σ2 := by
  refine Y_aload_n dL_law_1083 rfl 2 rfl ?_
  refine Y_arg hr 1 (by decide) (by decide) dL_law_1084 dL_law_1085 dL_law_1086 dL_law_1087 dL_law_1088 ?_
  refine Y_XI (d := 7) (n := 1) (As := [.int (xs (6 * r + 1))]) (st := []) (Φ := fun v σ' => v = (anM (fun m => oR (late D hb m)) (xs (6 * r + 1))) ∧ RX D hb It σ') dL_law_1089 mv_L_125 rfl rfl (Nat.le_of_ble_eq_true rfl) ⟨by decide, by decide⟩ hcs rfl (x_late hR hW (xs (6 * r + 1)) (fun _ h => ⟨rfl, hR.off h⟩)) (fun v σ' hv => ?_)
  obtain ⟨rfl, hR1⟩ := hv
  refine Y_aload_n dL_law_1092 rfl 1 rfl ?_
  refine Y_arg hr 1 (by decide) (by decide) dL_law_1093 dL_law_1094 dL_law_1095 dL_law_1096 dL_law_1097 ?_
  refine Y_MI (d := 13) (n := 1) (As := [.int (xs (6 * r + 1))]) (st := [.int (anM (fun m => oR (late D hb m)) (xs (6 * r + 1)))]) (Φ := fun v σ' => v = (anM (fun m => oR (late D hb m)) (xs (6 * r + 1))) ∧ RM D hb It σ') dL_law_1098 mv_L_128 rfl rfl (Nat.le_of_ble_eq_true rfl) ⟨by decide, by decide⟩ hcs rfl (y_late hM hW (xs (6 * r + 1)) (fun _ h => ⟨rfl, h⟩)) (fun v σ' hv => ?_)
  obtain ⟨rfl, hM1⟩ := hv
  refine Y_ieq (tgt := 1527) dL_law_1101 (by decide) ?_
  exact K _ _ _ _ _ hR1 hM1 hW (Nat.le_succ _)
set_option maxRecDepth 4000 in
theorem Y_c27 (hr : 6 * r + 6 ≤ L ∧ L ≤ 384) (hcs : cells ≤ 600000 ∧ slots ≤ 7302249) (hR : RX D hb It σ1) (hM : RM D hb It σ2) (hW : hWF D) (hn : D 0 2 < 100000) (K : ∀ D' hb' It' σ1' σ2', RX D' hb' It' σ1' → RM D' hb' It' σ2' → hWF D' → D' 0 2 ≤ D 0 2 + 1 → hv_LT l e A1 A2 b L xs cells slots 1527 (lwL b e r) [] σ1' σ2') : hv_LT l e A1 A2 b L xs cells slots 1106 (lwL b e r) [] σ1 σ2 := by
  refine Y_aload_n dL_law_1106 rfl 2 rfl ?_
  refine Y_arg hr 1 (by decide) (by decide) dL_law_1107 dL_law_1108 dL_law_1109 dL_law_1110 dL_law_1111 ?_
  refine Y_XI (d := 7) (n := 1) (As := [.int (xs (6 * r + 1))]) (st := []) (Φ := fun v σ' => v = (anM (fun m => oR (fewS D hb m)) (xs (6 * r + 1))) ∧ RX D hb It σ') dL_law_1112 mv_L_129 rfl rfl (Nat.le_of_ble_eq_true rfl) ⟨by decide, by decide⟩ hcs rfl (x_fewest hR hW (xs (6 * r + 1)) (fun _ h => ⟨rfl, hR.off h⟩)) (fun v σ' hv => ?_)
  obtain ⟨rfl, hR1⟩ := hv
  refine Y_aload_n dL_law_1115 rfl 1 rfl ?_
  refine Y_arg hr 1 (by decide) (by decide) dL_law_1116 dL_law_1117 dL_law_1118 dL_law_1119 dL_law_1120 ?_
  refine Y_MI (d := 13) (n := 1) (As := [.int (xs (6 * r + 1))]) (st := [.int (anM (fun m => oR (fewS D hb m)) (xs (6 * r + 1)))]) (Φ := fun v σ' => v = (anM (fun m => oR (fewS D hb m)) (xs (6 * r + 1))) ∧ RM D hb It σ') dL_law_1121 mv_L_132 rfl rfl (Nat.le_of_ble_eq_true rfl) ⟨by decide, by decide⟩ hcs rfl (y_fewest hM hW (xs (6 * r + 1)) (fun _ h => ⟨rfl, h⟩)) (fun v σ' hv => ?_)
  obtain ⟨rfl, hM1⟩ := hv
  refine Y_ieq (tgt := 1527) dL_law_1124 (by decide) ?_
  exact K _ _ _ _ _ hR1 hM1 hW (Nat.le_succ _)
set_option maxRecDepth 4000 in
theorem Y_c28 (hr : 6 * r + 6 ≤ L ∧ L ≤ 384) (hcs : cells ≤ 600000 ∧ slots ≤ 7302249) (hR : RX D hb It σ1) (hM : RM D hb It σ2) (hW : hWF D) (hn : D 0 2 < 100000) (K : ∀ D' hb' It' σ1' σ2', RX D' hb' It' σ1' → RM D' hb' It' σ2' → hWF D' → D' 0 2 ≤ D 0 2 + 1 → hv_LT l e A1 A2 b L xs cells slots 1527 (lwL b e r) [] σ1' σ2') : hv_LT l e A1 A2 b L xs cells slots 1129 (lwL b e r) [] σ1 σ2 := by
  refine Y_aload_n dL_law_1129 rfl 2 rfl ?_
  refine Y_arg hr 1 (by decide) (by decide) dL_law_1130 dL_law_1131 dL_law_1132 dL_law_1133 dL_law_1134 ?_
  refine Y_arg hr 2 (by decide) (by decide) dL_law_1135 dL_law_1136 dL_law_1137 dL_law_1138 dL_law_1139 ?_
  refine Y_arg hr 3 (by decide) (by decide) dL_law_1140 dL_law_1141 dL_law_1142 dL_law_1143 dL_law_1144 ?_
  refine Y_XI (d := 7) (n := 3) (As := [.int (xs (6 * r + 1)), .int (xs (6 * r + 2)), .int (xs (6 * r + 3))]) (st := []) (Φ := fun v σ' => v = (tbA D hb It (xs (6 * r + 1)) (xs (6 * r + 2)) (xs (6 * r + 3))) ∧ RX D hb It σ') dL_law_1145 mv_L_133 rfl rfl (Nat.le_of_ble_eq_true rfl) ⟨by decide, by decide⟩ hcs rfl (x_table hR hW (xs (6 * r + 1)) (xs (6 * r + 2)) (xs (6 * r + 3)) (fun _ h => ⟨rfl, hR.off h⟩)) (fun v σ' hv => ?_)
  obtain ⟨rfl, hR1⟩ := hv
  refine Y_aload_n dL_law_1148 rfl 1 rfl ?_
  refine Y_arg hr 1 (by decide) (by decide) dL_law_1149 dL_law_1150 dL_law_1151 dL_law_1152 dL_law_1153 ?_
  refine Y_arg hr 2 (by decide) (by decide) dL_law_1154 dL_law_1155 dL_law_1156 dL_law_1157 dL_law_1158 ?_
  refine Y_arg hr 3 (by decide) (by decide) dL_law_1159 dL_law_1160 dL_law_1161 dL_law_1162 dL_law_1163 ?_
  refine Y_MI (d := 13) (n := 3) (As := [.int (xs (6 * r + 1)), .int (xs (6 * r + 2)), .int (xs (6 * r + 3))]) (st := [.int (tbA D hb It (xs (6 * r + 1)) (xs (6 * r + 2)) (xs (6 * r + 3)))]) (Φ := fun v σ' => v = (tbA D hb It (xs (6 * r + 1)) (xs (6 * r + 2)) (xs (6 * r + 3))) ∧ RM D hb It σ') dL_law_1164 mv_L_136 rfl rfl (Nat.le_of_ble_eq_true rfl) ⟨by decide, by decide⟩ hcs rfl (y_table hM hW (xs (6 * r + 1)) (xs (6 * r + 2)) (xs (6 * r + 3)) (fun _ h => ⟨rfl, h⟩)) (fun v σ' hv => ?_)
  obtain ⟨rfl, hM1⟩ := hv
  refine Y_ieq (tgt := 1527) dL_law_1167 (by decide) ?_
  exact K _ _ _ _ _ hR1 hM1 hW (Nat.le_succ _)
set_option maxRecDepth 4000 in
theorem Y_c29 (hr : 6 * r + 6 ≤ L ∧ L ≤ 384) (hcs : cells ≤ 600000 ∧ slots ≤ 7302249) (hR : RX D hb It σ1) (hM : RM D hb It σ2) (hW : hWF D) (hn : D 0 2 < 100000) (K : ∀ D' hb' It' σ1' σ2', RX D' hb' It' σ1' → RM D' hb' It' σ2' → hWF D' → D' 0 2 ≤ D 0 2 + 1 → hv_LT l e A1 A2 b L xs cells slots 1527 (lwL b e r) [] σ1' σ2') : hv_LT l e A1 A2 b L xs cells slots 1172 (lwL b e r) [] σ1 σ2 := by
  refine Y_aload_n dL_law_1172 rfl 2 rfl ?_
  refine Y_arg hr 1 (by decide) (by decide) dL_law_1173 dL_law_1174 dL_law_1175 dL_law_1176 dL_law_1177 ?_
  refine Y_arg hr 2 (by decide) (by decide) dL_law_1178 dL_law_1179 dL_law_1180 dL_law_1181 dL_law_1182 ?_
  refine Y_arg hr 3 (by decide) (by decide) dL_law_1183 dL_law_1184 dL_law_1185 dL_law_1186 dL_law_1187 ?_
  refine Y_arg hr 4 (by decide) (by decide) dL_law_1188 dL_law_1189 dL_law_1190 dL_law_1191 dL_law_1192 ?_
  refine Y_XI (d := 6) (n := 4) (As := [.int (xs (6 * r + 1)), .int (xs (6 * r + 2)), .int (xs (6 * r + 3)), .int (xs (6 * r + 4))]) (st := []) (Φ := fun v σ' => v = (acR D (xs (6 * r + 1)) (xs (6 * r + 2)) (xs (6 * r + 3)) (xs (6 * r + 4))).1 ∧ RX (acR D (xs (6 * r + 1)) (xs (6 * r + 2)) (xs (6 * r + 3)) (xs (6 * r + 4))).2 hb It σ') dL_law_1193 mv_L_137 rfl rfl (Nat.le_of_ble_eq_true rfl) ⟨by decide, by decide⟩ hcs rfl (x_act hR hW (xs (6 * r + 1)) (xs (6 * r + 2)) (xs (6 * r + 3)) (xs (6 * r + 4)) (fun _ h => ⟨rfl, h⟩)) (fun v σ' hv => ?_)
  obtain ⟨rfl, hR1⟩ := hv
  refine Y_aload_n dL_law_1196 rfl 1 rfl ?_
  refine Y_arg hr 1 (by decide) (by decide) dL_law_1197 dL_law_1198 dL_law_1199 dL_law_1200 dL_law_1201 ?_
  refine Y_arg hr 2 (by decide) (by decide) dL_law_1202 dL_law_1203 dL_law_1204 dL_law_1205 dL_law_1206 ?_
  refine Y_arg hr 3 (by decide) (by decide) dL_law_1207 dL_law_1208 dL_law_1209 dL_law_1210 dL_law_1211 ?_
  refine Y_arg hr 4 (by decide) (by decide) dL_law_1212 dL_law_1213 dL_law_1214 dL_law_1215 dL_law_1216 ?_
  refine Y_MI (d := 9) (n := 4) (As := [.int (xs (6 * r + 1)), .int (xs (6 * r + 2)), .int (xs (6 * r + 3)), .int (xs (6 * r + 4))]) (st := [.int (acR D (xs (6 * r + 1)) (xs (6 * r + 2)) (xs (6 * r + 3)) (xs (6 * r + 4))).1]) (Φ := fun v σ' => v = (acR D (xs (6 * r + 1)) (xs (6 * r + 2)) (xs (6 * r + 3)) (xs (6 * r + 4))).1 ∧ RM (acR D (xs (6 * r + 1)) (xs (6 * r + 2)) (xs (6 * r + 3)) (xs (6 * r + 4))).2 hb It σ') dL_law_1217 mv_L_141 rfl rfl (Nat.le_of_ble_eq_true rfl) ⟨by decide, by decide⟩ hcs rfl (y_act hM hW (xs (6 * r + 1)) (xs (6 * r + 2)) (xs (6 * r + 3)) (xs (6 * r + 4)) (fun _ h => ⟨rfl, h⟩)) (fun v σ' hv => ?_)
  obtain ⟨rfl, hM1⟩ := hv
  refine Y_ieq (tgt := 1527) dL_law_1220 (by decide) ?_
  exact K _ _ _ _ _ hR1 hM1 (acR_W hW (xs (6 * r + 1)) (xs (6 * r + 2)) (xs (6 * r + 3)) (xs (6 * r + 4))) (Nat.le_succ_of_le (Nat.le_of_eq (acR_n (xs (6 * r + 1)) (xs (6 * r + 2)) (xs (6 * r + 3)) (xs (6 * r + 4)))))
set_option maxRecDepth 4000 in
theorem Y_c30 (hr : 6 * r + 6 ≤ L ∧ L ≤ 384) (hcs : cells ≤ 600000 ∧ slots ≤ 7302249) (hR : RX D hb It σ1) (hM : RM D hb It σ2) (hW : hWF D) (hn : D 0 2 < 100000) (K : ∀ D' hb' It' σ1' σ2', RX D' hb' It' σ1' → RM D' hb' It' σ2' → hWF D' → D' 0 2 ≤ D 0 2 + 1 → hv_LT l e A1 A2 b L xs cells slots 1527 (lwL b e r) [] σ1' σ2') : hv_LT l e A1 A2 b L xs cells slots 1225 (lwL b e r) [] σ1 σ2 := by
  refine Y_aload_n dL_law_1225 rfl 2 rfl ?_
  refine Y_arg hr 1 (by decide) (by decide) dL_law_1226 dL_law_1227 dL_law_1228 dL_law_1229 dL_law_1230 ?_
  refine Y_XI (d := 2) (n := 1) (As := [.int (xs (6 * r + 1))]) (st := []) (Φ := fun v σ' => v = (trA D (xs (6 * r + 1))) ∧ RX D hb It σ') dL_law_1231 mv_L_142 rfl rfl (Nat.le_of_ble_eq_true rfl) ⟨by decide, by decide⟩ hcs rfl (x_trace hR hW (xs (6 * r + 1)) ⟨rfl, hR⟩) (fun v σ' hv => ?_)
  obtain ⟨rfl, hR1⟩ := hv
  refine Y_aload_n dL_law_1234 rfl 1 rfl ?_
  refine Y_arg hr 1 (by decide) (by decide) dL_law_1235 dL_law_1236 dL_law_1237 dL_law_1238 dL_law_1239 ?_
  refine Y_MI (d := 1) (n := 1) (As := [.int (xs (6 * r + 1))]) (st := [.int (trA D (xs (6 * r + 1)))]) (Φ := fun v σ' => v = (trA D (xs (6 * r + 1))) ∧ RM D hb It σ') dL_law_1240 mv_L_145 rfl rfl (Nat.le_of_ble_eq_true rfl) ⟨by decide, by decide⟩ hcs rfl (y_trace hM hW (xs (6 * r + 1)) ⟨rfl, hM⟩) (fun v σ' hv => ?_)
  obtain ⟨rfl, hM1⟩ := hv
  refine Y_ieq (tgt := 1527) dL_law_1243 (by decide) ?_
  exact K _ _ _ _ _ hR1 hM1 hW (Nat.le_succ _)
set_option maxRecDepth 4000 in
theorem Y_c31 (hr : 6 * r + 6 ≤ L ∧ L ≤ 384) (hcs : cells ≤ 600000 ∧ slots ≤ 7302249) (hR : RX D hb It σ1) (hM : RM D hb It σ2) (hW : hWF D) (hn : D 0 2 < 100000) (K : ∀ D' hb' It' σ1' σ2', RX D' hb' It' σ1' → RM D' hb' It' σ2' → hWF D' → D' 0 2 ≤ D 0 2 + 1 → hv_LT l e A1 A2 b L xs cells slots 1527 (lwL b e r) [] σ1' σ2') : hv_LT l e A1 A2 b L xs cells slots 1248 (lwL b e r) [] σ1 σ2 := by
  refine Y_aload_n dL_law_1248 rfl 2 rfl ?_
  refine Y_arg hr 1 (by decide) (by decide) dL_law_1249 dL_law_1250 dL_law_1251 dL_law_1252 dL_law_1253 ?_
  refine Y_arg hr 2 (by decide) (by decide) dL_law_1254 dL_law_1255 dL_law_1256 dL_law_1257 dL_law_1258 ?_
  refine Y_arg hr 3 (by decide) (by decide) dL_law_1259 dL_law_1260 dL_law_1261 dL_law_1262 dL_law_1263 ?_
  refine Y_XI (d := 1) (n := 3) (As := [.int (xs (6 * r + 1)), .int (xs (6 * r + 2)), .int (xs (6 * r + 3))]) (st := []) (Φ := fun v σ' => v = (tkA D (xs (6 * r + 1)) (xs (6 * r + 2)) (xs (6 * r + 3))) ∧ RX D hb It σ') dL_law_1264 mv_L_146 rfl rfl (Nat.le_of_ble_eq_true rfl) ⟨by decide, by decide⟩ hcs rfl (x_taken hR hW (xs (6 * r + 1)) (xs (6 * r + 2)) (xs (6 * r + 3)) ⟨rfl, hR⟩) (fun v σ' hv => ?_)
  obtain ⟨rfl, hR1⟩ := hv
  refine Y_aload_n dL_law_1267 rfl 1 rfl ?_
  refine Y_arg hr 1 (by decide) (by decide) dL_law_1268 dL_law_1269 dL_law_1270 dL_law_1271 dL_law_1272 ?_
  refine Y_arg hr 2 (by decide) (by decide) dL_law_1273 dL_law_1274 dL_law_1275 dL_law_1276 dL_law_1277 ?_
  refine Y_arg hr 3 (by decide) (by decide) dL_law_1278 dL_law_1279 dL_law_1280 dL_law_1281 dL_law_1282 ?_
  refine Y_MI (d := 2) (n := 3) (As := [.int (xs (6 * r + 1)), .int (xs (6 * r + 2)), .int (xs (6 * r + 3))]) (st := [.int (tkA D (xs (6 * r + 1)) (xs (6 * r + 2)) (xs (6 * r + 3)))]) (Φ := fun v σ' => v = (tkA D (xs (6 * r + 1)) (xs (6 * r + 2)) (xs (6 * r + 3))) ∧ RM D hb It σ') dL_law_1283 mv_L_149 rfl rfl (Nat.le_of_ble_eq_true rfl) ⟨by decide, by decide⟩ hcs rfl (y_taken hM hW (xs (6 * r + 1)) (xs (6 * r + 2)) (xs (6 * r + 3)) ⟨rfl, hM⟩) (fun v σ' hv => ?_)
  obtain ⟨rfl, hM1⟩ := hv
  refine Y_ieq (tgt := 1527) dL_law_1286 (by decide) ?_
  exact K _ _ _ _ _ hR1 hM1 hW (Nat.le_succ _)
set_option maxRecDepth 4000 in
theorem Y_c32 (hr : 6 * r + 6 ≤ L ∧ L ≤ 384) (hcs : cells ≤ 600000 ∧ slots ≤ 7302249) (hR : RX D hb It σ1) (hM : RM D hb It σ2) (hW : hWF D) (hn : D 0 2 < 100000) (K : ∀ D' hb' It' σ1' σ2', RX D' hb' It' σ1' → RM D' hb' It' σ2' → hWF D' → D' 0 2 ≤ D 0 2 + 1 → hv_LT l e A1 A2 b L xs cells slots 1527 (lwL b e r) [] σ1' σ2') : hv_LT l e A1 A2 b L xs cells slots 1291 (lwL b e r) [] σ1 σ2 := by
  refine Y_aload_n dL_law_1291 rfl 2 rfl ?_
  refine Y_arg hr 1 (by decide) (by decide) dL_law_1292 dL_law_1293 dL_law_1294 dL_law_1295 dL_law_1296 ?_
  refine Y_XI (d := 0) (n := 1) (As := [.int (xs (6 * r + 1))]) (st := []) (Φ := fun v σ' => v = (cnA D (xs (6 * r + 1))) ∧ RX D hb It σ') dL_law_1297 mv_L_150 rfl rfl (Nat.le_of_ble_eq_true rfl) ⟨by decide, by decide⟩ hcs rfl (x_count hR  (xs (6 * r + 1)) ⟨rfl, hR⟩) (fun v σ' hv => ?_)
  obtain ⟨rfl, hR1⟩ := hv
  refine Y_aload_n dL_law_1300 rfl 1 rfl ?_
  refine Y_arg hr 1 (by decide) (by decide) dL_law_1301 dL_law_1302 dL_law_1303 dL_law_1304 dL_law_1305 ?_
  refine Y_MI (d := 0) (n := 1) (As := [.int (xs (6 * r + 1))]) (st := [.int (cnA D (xs (6 * r + 1)))]) (Φ := fun v σ' => v = (cnA D (xs (6 * r + 1))) ∧ RM D hb It σ') dL_law_1306 mv_L_153 rfl rfl (Nat.le_of_ble_eq_true rfl) ⟨by decide, by decide⟩ hcs rfl (y_count hM  (xs (6 * r + 1)) ⟨rfl, hM⟩) (fun v σ' hv => ?_)
  obtain ⟨rfl, hM1⟩ := hv
  refine Y_ieq (tgt := 1527) dL_law_1309 (by decide) ?_
  exact K _ _ _ _ _ hR1 hM1 hW (Nat.le_succ _)
set_option maxRecDepth 4000 in
theorem Y_c33 (hr : 6 * r + 6 ≤ L ∧ L ≤ 384) (hcs : cells ≤ 600000 ∧ slots ≤ 7302249) (hR : RX D hb It σ1) (hM : RM D hb It σ2) (hW : hWF D) (hn : D 0 2 < 100000) (K : ∀ D' hb' It' σ1' σ2', RX D' hb' It' σ1' → RM D' hb' It' σ2' → hWF D' → D' 0 2 ≤ D 0 2 + 1 → hv_LT l e A1 A2 b L xs cells slots 1527 (lwL b e r) [] σ1' σ2') : hv_LT l e A1 A2 b L xs cells slots 1314 (lwL b e r) [] σ1 σ2 := by
  refine Y_aload_n dL_law_1314 rfl 2 rfl ?_
  refine Y_arg hr 1 (by decide) (by decide) dL_law_1315 dL_law_1316 dL_law_1317 dL_law_1318 dL_law_1319 ?_
  refine Y_arg hr 2 (by decide) (by decide) dL_law_1320 dL_law_1321 dL_law_1322 dL_law_1323 dL_law_1324 ?_
  refine Y_arg hr 3 (by decide) (by decide) dL_law_1325 dL_law_1326 dL_law_1327 dL_law_1328 dL_law_1329 ?_
  refine Y_XI (d := 1) (n := 3) (As := [.int (xs (6 * r + 1)), .int (xs (6 * r + 2)), .int (xs (6 * r + 3))]) (st := []) (Φ := fun v σ' => v = (tpR D It (xs (6 * r + 1)) (xs (6 * r + 2)) (xs (6 * r + 3))).1 ∧ RX (tpR D It (xs (6 * r + 1)) (xs (6 * r + 2)) (xs (6 * r + 3))).2.1 hb (tpR D It (xs (6 * r + 1)) (xs (6 * r + 2)) (xs (6 * r + 3))).2.2 σ') dL_law_1330 mv_L_154 rfl rfl (Nat.le_of_ble_eq_true rfl) ⟨by decide, by decide⟩ hcs rfl (x_tape hR hW (xs (6 * r + 1)) (xs (6 * r + 2)) (xs (6 * r + 3)) (fun _ h => ⟨rfl, h⟩)) (fun v σ' hv => ?_)
  obtain ⟨rfl, hR1⟩ := hv
  refine Y_aload_n dL_law_1333 rfl 1 rfl ?_
  refine Y_arg hr 1 (by decide) (by decide) dL_law_1334 dL_law_1335 dL_law_1336 dL_law_1337 dL_law_1338 ?_
  refine Y_arg hr 2 (by decide) (by decide) dL_law_1339 dL_law_1340 dL_law_1341 dL_law_1342 dL_law_1343 ?_
  refine Y_arg hr 3 (by decide) (by decide) dL_law_1344 dL_law_1345 dL_law_1346 dL_law_1347 dL_law_1348 ?_
  refine Y_MI (d := 2) (n := 3) (As := [.int (xs (6 * r + 1)), .int (xs (6 * r + 2)), .int (xs (6 * r + 3))]) (st := [.int (tpR D It (xs (6 * r + 1)) (xs (6 * r + 2)) (xs (6 * r + 3))).1]) (Φ := fun v σ' => v = (tpR D It (xs (6 * r + 1)) (xs (6 * r + 2)) (xs (6 * r + 3))).1 ∧ RM (tpR D It (xs (6 * r + 1)) (xs (6 * r + 2)) (xs (6 * r + 3))).2.1 hb (tpR D It (xs (6 * r + 1)) (xs (6 * r + 2)) (xs (6 * r + 3))).2.2 σ') dL_law_1349 mv_L_157 rfl rfl (Nat.le_of_ble_eq_true rfl) ⟨by decide, by decide⟩ hcs rfl (y_tape hM hW (xs (6 * r + 1)) (xs (6 * r + 2)) (xs (6 * r + 3)) (fun _ h => ⟨rfl, h⟩)) (fun v σ' hv => ?_)
  obtain ⟨rfl, hM1⟩ := hv
  refine Y_ieq (tgt := 1527) dL_law_1352 (by decide) ?_
  exact K _ _ _ _ _ hR1 hM1 (tpR_W hW (xs (6 * r + 1)) (xs (6 * r + 2)) (xs (6 * r + 3))) (Nat.le_succ_of_le (Nat.le_of_eq (tpR_n (xs (6 * r + 1)) (xs (6 * r + 2)) (xs (6 * r + 3)))))
set_option maxRecDepth 4000 in
theorem Y_c34 (hr : 6 * r + 6 ≤ L ∧ L ≤ 384) (hcs : cells ≤ 600000 ∧ slots ≤ 7302249) (hR : RX D hb It σ1) (hM : RM D hb It σ2) (hW : hWF D) (hn : D 0 2 < 100000) (K : ∀ D' hb' It' σ1' σ2', RX D' hb' It' σ1' → RM D' hb' It' σ2' → hWF D' → D' 0 2 ≤ D 0 2 + 1 → hv_LT l e A1 A2 b L xs cells slots 1527 (lwL b e r) [] σ1' σ2') : hv_LT l e A1 A2 b L xs cells slots 1357 (lwL b e r) [] σ1 σ2 := by
  refine Y_aload_n dL_law_1357 rfl 2 rfl ?_
  refine Y_arg hr 1 (by decide) (by decide) dL_law_1358 dL_law_1359 dL_law_1360 dL_law_1361 dL_law_1362 ?_
  refine Y_arg hr 2 (by decide) (by decide) dL_law_1363 dL_law_1364 dL_law_1365 dL_law_1366 dL_law_1367 ?_
  refine Y_arg hr 3 (by decide) (by decide) dL_law_1368 dL_law_1369 dL_law_1370 dL_law_1371 dL_law_1372 ?_
  refine Y_i2l dL_law_1373 ?_
  refine Y_bipush (v := 32) dL_law_1374 (by decide) ?_
  refine Y_lshl dL_law_1376 ?_
  refine Y_arg hr 4 (by decide) (by decide) dL_law_1377 dL_law_1378 dL_law_1379 dL_law_1380 dL_law_1381 ?_
  refine Y_i2l dL_law_1382 ?_
  refine Y_ldc2 dL_law_1383 kl_L_158 ?_
  refine Y_land dL_law_1386 ?_
  refine Y_lor dL_law_1387 ?_
  refine Y_XI (d := 2) (n := 3) (As := [.int (xs (6 * r + 1)), .int (xs (6 * r + 2)), .long (((xs (6 * r + 3)).toInt64 <<< (((32 : Int32)).toInt64 &&& 63)) ||| ((xs (6 * r + 4)).toInt64 &&& (4294967295 : Int64)))]) (st := []) (Φ := fun v σ' => v = (imR D It (xs (6 * r + 1)) (xs (6 * r + 2)) (((xs (6 * r + 3)).toInt64 <<< (((32 : Int32)).toInt64 &&& 63)) ||| ((xs (6 * r + 4)).toInt64 &&& (4294967295 : Int64)))).1 ∧ RX D hb (imR D It (xs (6 * r + 1)) (xs (6 * r + 2)) (((xs (6 * r + 3)).toInt64 <<< (((32 : Int32)).toInt64 &&& 63)) ||| ((xs (6 * r + 4)).toInt64 &&& (4294967295 : Int64)))).2 σ') dL_law_1388 mv_L_160 rfl rfl (Nat.le_of_ble_eq_true rfl) ⟨by decide, by decide⟩ hcs rfl (x_item hR hW (xs (6 * r + 1)) (xs (6 * r + 2)) (((xs (6 * r + 3)).toInt64 <<< (((32 : Int32)).toInt64 &&& 63)) ||| ((xs (6 * r + 4)).toInt64 &&& (4294967295 : Int64))) (fun _ h => ⟨rfl, h⟩)) (fun v σ' hv => ?_)
  obtain ⟨rfl, hR1⟩ := hv
  refine Y_aload_n dL_law_1391 rfl 1 rfl ?_
  refine Y_arg hr 1 (by decide) (by decide) dL_law_1392 dL_law_1393 dL_law_1394 dL_law_1395 dL_law_1396 ?_
  refine Y_arg hr 2 (by decide) (by decide) dL_law_1397 dL_law_1398 dL_law_1399 dL_law_1400 dL_law_1401 ?_
  refine Y_arg hr 3 (by decide) (by decide) dL_law_1402 dL_law_1403 dL_law_1404 dL_law_1405 dL_law_1406 ?_
  refine Y_i2l dL_law_1407 ?_
  refine Y_bipush (v := 32) dL_law_1408 (by decide) ?_
  refine Y_lshl dL_law_1410 ?_
  refine Y_arg hr 4 (by decide) (by decide) dL_law_1411 dL_law_1412 dL_law_1413 dL_law_1414 dL_law_1415 ?_
  refine Y_i2l dL_law_1416 ?_
  refine Y_ldc2 dL_law_1417 kl_L_158 ?_
  refine Y_land dL_law_1420 ?_
  refine Y_lor dL_law_1421 ?_
  refine Y_MI (d := 2) (n := 3) (As := [.int (xs (6 * r + 1)), .int (xs (6 * r + 2)), .long (((xs (6 * r + 3)).toInt64 <<< (((32 : Int32)).toInt64 &&& 63)) ||| ((xs (6 * r + 4)).toInt64 &&& (4294967295 : Int64)))]) (st := [.int (imR D It (xs (6 * r + 1)) (xs (6 * r + 2)) (((xs (6 * r + 3)).toInt64 <<< (((32 : Int32)).toInt64 &&& 63)) ||| ((xs (6 * r + 4)).toInt64 &&& (4294967295 : Int64)))).1]) (Φ := fun v σ' => v = (imR D It (xs (6 * r + 1)) (xs (6 * r + 2)) (((xs (6 * r + 3)).toInt64 <<< (((32 : Int32)).toInt64 &&& 63)) ||| ((xs (6 * r + 4)).toInt64 &&& (4294967295 : Int64)))).1 ∧ RM D hb (imR D It (xs (6 * r + 1)) (xs (6 * r + 2)) (((xs (6 * r + 3)).toInt64 <<< (((32 : Int32)).toInt64 &&& 63)) ||| ((xs (6 * r + 4)).toInt64 &&& (4294967295 : Int64)))).2 σ') dL_law_1422 mv_L_164 rfl rfl (Nat.le_of_ble_eq_true rfl) ⟨by decide, by decide⟩ hcs rfl (y_item hM hW (xs (6 * r + 1)) (xs (6 * r + 2)) (((xs (6 * r + 3)).toInt64 <<< (((32 : Int32)).toInt64 &&& 63)) ||| ((xs (6 * r + 4)).toInt64 &&& (4294967295 : Int64))) (fun _ h => ⟨rfl, h⟩)) (fun v σ' hv => ?_)
  obtain ⟨rfl, hM1⟩ := hv
  refine Y_ieq (tgt := 1527) dL_law_1425 (by decide) ?_
  exact K _ _ _ _ _ hR1 hM1 hW (Nat.le_succ _)
set_option maxRecDepth 4000 in
theorem Y_c35 (hr : 6 * r + 6 ≤ L ∧ L ≤ 384) (hcs : cells ≤ 600000 ∧ slots ≤ 7302249) (hR : RX D hb It σ1) (hM : RM D hb It σ2) (hW : hWF D) (hn : D 0 2 < 100000) (K : ∀ D' hb' It' σ1' σ2', RX D' hb' It' σ1' → RM D' hb' It' σ2' → hWF D' → D' 0 2 ≤ D 0 2 + 1 → hv_LT l e A1 A2 b L xs cells slots 1527 (lwL b e r) [] σ1' σ2') : hv_LT l e A1 A2 b L xs cells slots 1430 (lwL b e r) [] σ1 σ2 := by
  refine Y_aload_n dL_law_1430 rfl 2 rfl ?_
  refine Y_arg hr 1 (by decide) (by decide) dL_law_1431 dL_law_1432 dL_law_1433 dL_law_1434 dL_law_1435 ?_
  refine Y_arg hr 2 (by decide) (by decide) dL_law_1436 dL_law_1437 dL_law_1438 dL_law_1439 dL_law_1440 ?_
  refine Y_XL (d := 1) (n := 2) (As := [.int (xs (6 * r + 1)), .int (xs (6 * r + 2))]) (st := []) (Φ := fun v σ' => v = (rdA D It (xs (6 * r + 1)) (xs (6 * r + 2))) ∧ RX D hb It σ') dL_law_1441 mv_L_165 rfl rfl (Nat.le_of_ble_eq_true rfl) ⟨by decide, by decide⟩ hcs rfl (x_read hR hW (xs (6 * r + 1)) (xs (6 * r + 2)) ⟨rfl, hR⟩) (fun v σ' hv => ?_)
  obtain ⟨rfl, hR1⟩ := hv
  refine Y_aload_n dL_law_1444 rfl 1 rfl ?_
  refine Y_arg hr 1 (by decide) (by decide) dL_law_1445 dL_law_1446 dL_law_1447 dL_law_1448 dL_law_1449 ?_
  refine Y_arg hr 2 (by decide) (by decide) dL_law_1450 dL_law_1451 dL_law_1452 dL_law_1453 dL_law_1454 ?_
  refine Y_ML (d := 2) (n := 2) (As := [.int (xs (6 * r + 1)), .int (xs (6 * r + 2))]) (st := [.long (rdA D It (xs (6 * r + 1)) (xs (6 * r + 2)))]) (Φ := fun v σ' => v = (rdA D It (xs (6 * r + 1)) (xs (6 * r + 2))) ∧ RM D hb It σ') dL_law_1455 mv_L_168 rfl rfl (Nat.le_of_ble_eq_true rfl) ⟨by decide, by decide⟩ hcs rfl (y_read hM hW (xs (6 * r + 1)) (xs (6 * r + 2)) ⟨rfl, hM⟩) (fun v σ' hv => ?_)
  obtain ⟨rfl, hM1⟩ := hv
  refine Y_leq (tgt := 1527) dL_law_1458 dL_law_1459 (by decide) ?_
  exact K _ _ _ _ _ hR1 hM1 hW (Nat.le_succ _)
set_option maxRecDepth 4000 in
theorem Y_c36 (hr : 6 * r + 6 ≤ L ∧ L ≤ 384) (hcs : cells ≤ 600000 ∧ slots ≤ 7302249) (hR : RX D hb It σ1) (hM : RM D hb It σ2) (hW : hWF D) (hn : D 0 2 < 100000) (K : ∀ D' hb' It' σ1' σ2', RX D' hb' It' σ1' → RM D' hb' It' σ2' → hWF D' → D' 0 2 ≤ D 0 2 + 1 → hv_LT l e A1 A2 b L xs cells slots 1527 (lwL b e r) [] σ1' σ2') : hv_LT l e A1 A2 b L xs cells slots 1464 (lwL b e r) [] σ1 σ2 := by
  refine Y_aload_n dL_law_1464 rfl 2 rfl ?_
  refine Y_arg hr 1 (by decide) (by decide) dL_law_1465 dL_law_1466 dL_law_1467 dL_law_1468 dL_law_1469 ?_
  refine Y_arg hr 2 (by decide) (by decide) dL_law_1470 dL_law_1471 dL_law_1472 dL_law_1473 dL_law_1474 ?_
  refine Y_arg hr 3 (by decide) (by decide) dL_law_1475 dL_law_1476 dL_law_1477 dL_law_1478 dL_law_1479 ?_
  refine Y_arg hr 4 (by decide) (by decide) dL_law_1480 dL_law_1481 dL_law_1482 dL_law_1483 dL_law_1484 ?_
  refine Y_arg hr 5 (by decide) (by decide) dL_law_1485 dL_law_1486 dL_law_1487 dL_law_1488 dL_law_1489 ?_
  refine Y_XI (d := 2) (n := 5) (As := [.int (xs (6 * r + 1)), .int (xs (6 * r + 2)), .int (xs (6 * r + 3)), .int (xs (6 * r + 4)), .int (xs (6 * r + 5))]) (st := []) (Φ := fun v σ' => v = (sfR D It (xs (6 * r + 1)) (xs (6 * r + 2)) (xs (6 * r + 3)) (xs (6 * r + 4)) (xs (6 * r + 5))).1 ∧ RX D hb (sfR D It (xs (6 * r + 1)) (xs (6 * r + 2)) (xs (6 * r + 3)) (xs (6 * r + 4)) (xs (6 * r + 5))).2 σ') dL_law_1490 mv_L_169 rfl rfl (Nat.le_of_ble_eq_true rfl) ⟨by decide, by decide⟩ hcs rfl (x_shift hR hW (xs (6 * r + 1)) (xs (6 * r + 2)) (xs (6 * r + 3)) (xs (6 * r + 4)) (xs (6 * r + 5)) (fun _ h => ⟨rfl, h⟩)) (fun v σ' hv => ?_)
  obtain ⟨rfl, hR1⟩ := hv
  refine Y_aload_n dL_law_1493 rfl 1 rfl ?_
  refine Y_arg hr 1 (by decide) (by decide) dL_law_1494 dL_law_1495 dL_law_1496 dL_law_1497 dL_law_1498 ?_
  refine Y_arg hr 2 (by decide) (by decide) dL_law_1499 dL_law_1500 dL_law_1501 dL_law_1502 dL_law_1503 ?_
  refine Y_arg hr 3 (by decide) (by decide) dL_law_1504 dL_law_1505 dL_law_1506 dL_law_1507 dL_law_1508 ?_
  refine Y_arg hr 4 (by decide) (by decide) dL_law_1509 dL_law_1510 dL_law_1511 dL_law_1512 dL_law_1513 ?_
  refine Y_arg hr 5 (by decide) (by decide) dL_law_1514 dL_law_1515 dL_law_1516 dL_law_1517 dL_law_1518 ?_
  refine Y_MI (d := 2) (n := 5) (As := [.int (xs (6 * r + 1)), .int (xs (6 * r + 2)), .int (xs (6 * r + 3)), .int (xs (6 * r + 4)), .int (xs (6 * r + 5))]) (st := [.int (sfR D It (xs (6 * r + 1)) (xs (6 * r + 2)) (xs (6 * r + 3)) (xs (6 * r + 4)) (xs (6 * r + 5))).1]) (Φ := fun v σ' => v = (sfR D It (xs (6 * r + 1)) (xs (6 * r + 2)) (xs (6 * r + 3)) (xs (6 * r + 4)) (xs (6 * r + 5))).1 ∧ RM D hb (sfR D It (xs (6 * r + 1)) (xs (6 * r + 2)) (xs (6 * r + 3)) (xs (6 * r + 4)) (xs (6 * r + 5))).2 σ') dL_law_1519 mv_L_172 rfl rfl (Nat.le_of_ble_eq_true rfl) ⟨by decide, by decide⟩ hcs rfl (y_shift hM hW (xs (6 * r + 1)) (xs (6 * r + 2)) (xs (6 * r + 3)) (xs (6 * r + 4)) (xs (6 * r + 5)) (fun _ h => ⟨rfl, h⟩)) (fun v σ' hv => ?_)
  obtain ⟨rfl, hM1⟩ := hv
  refine Y_ieq (tgt := 1527) dL_law_1522 (by decide) ?_
  exact K _ _ _ _ _ hR1 hM1 hW (Nat.le_succ _)
end LQ
section LL
variable {l : Launch} {e : hv_Ev} {A1 A2 : Nat → Prop} {b L : Nat} {xs : Nat → Int32} {cells slots : Nat}
theorem Y_loop (hL : L ≤ 384) (hcs : cells ≤ 600000 ∧ slots ≤ 7302249) : ∀ n r D hb It σ1 σ2, r + n = 64 → RX D hb It σ1 → RM D hb It σ2 → hWF D → D 0 2 ≤ r → hv_LT l e A1 A2 b L xs cells slots 18 (lwL b e r) [] σ1 σ2 := by
  intro n
  induction n with
  | zero =>
    intro r D hb It σ1 σ2 hrn hR hM hW hD
    refine Y_iload_n dL_law_18 rfl 0 rfl ?_
    refine Y_aload_n dL_law_19 rfl 3 rfl ?_
    refine Y_slen dL_law_20 ?_
    refine Y_bipush (v := 6) dL_law_21 (by decide) ?_
    refine Y_isub dL_law_23 ?_
    refine Y_igt (tgt := 1533) dL_law_24 (by decide) (fun _ => Y_iconst (v := 1) dL_law_1533 (by decide) (Y_end dL_law_1534 hcs)) (fun z => ?_)
    have z2 : 6 * r + 6 ≤ L := by
      rw [Int32.lt_iff_toInt_lt] at z
      have z3 : ¬ (nI L - 6).toInt < (nI (6 * r)).toInt := z
      rw [lw_sub6 L (by omega), nI_toInt (by omega)] at z3
      omega
    omega
  | succ n ih =>
    intro r D hb It σ1 σ2 hrn hR hM hW hD
    refine Y_iload_n dL_law_18 rfl 0 rfl ?_
    refine Y_aload_n dL_law_19 rfl 3 rfl ?_
    refine Y_slen dL_law_20 ?_
    refine Y_bipush (v := 6) dL_law_21 (by decide) ?_
    refine Y_isub dL_law_23 ?_
    refine Y_igt (tgt := 1533) dL_law_24 (by decide) (fun _ => Y_iconst (v := 1) dL_law_1533 (by decide) (Y_end dL_law_1534 hcs)) (fun z => ?_)
    have z2 : 6 * r + 6 ≤ L := by
      rw [Int32.lt_iff_toInt_lt] at z
      have z3 : ¬ (nI L - 6).toInt < (nI (6 * r)).toInt := z
      rw [lw_sub6 L (by omega), nI_toInt (by omega)] at z3
      omega
    have hr : 6 * r + 6 ≤ L ∧ L ≤ 384 := ⟨z2, hL⟩
    have K : ∀ D' hb' It' σ1' σ2', RX D' hb' It' σ1' → RM D' hb' It' σ2' → hWF D' → D' 0 2 ≤ D 0 2 + 1 → hv_LT l e A1 A2 b L xs cells slots 1527 (lwL b e r) [] σ1' σ2' := fun D' hb' It' σ1' σ2' k1 k2 k3 k4 => by
      refine Y_iinc (v := nI (6 * (r + 1))) (lo' := lwL b e (r + 1)) dL_law_1527 0 rfl (by rw [show Int32.ofInt 6 = nI 6 by decide, nI_add]; rfl) (by decide) rfl ?_
      exact Y_goto (tgt := 18) dL_law_1530 (by decide) (ih (r + 1) D' hb' It' σ1' σ2' (by omega) k1 k2 k3 (by omega))
    refine Y_aload_n dL_law_27 rfl 3 rfl ?_
    refine Y_iload_n dL_law_28 rfl 0 rfl ?_
    refine Y_scr dL_law_29 (nI_in (by omega) (by omega)) ?_
    rw [nI_clamp (by omega)]
    refine Y_bipush (v := 63) dL_law_30 (by decide) ?_
    refine Y_iand dL_law_32 ?_
    have g0 := lw_and63 (xs (6 * r))
    have hn : D 0 2 < 100000 := by omega
    by_cases c : 36 < (xs (6 * r) &&& 63).toInt
    · exact Y_tabOut (tgt := 1527) dL_law_33 (Or.inr c) (by decide) (K D hb It σ1 σ2 hR hM hW (Nat.le_succ _))
    obtain ⟨v, hv⟩ : ∃ v : Nat, (xs (6 * r) &&& 63).toInt = (v : Int) := ⟨_, (Int.toNat_of_nonneg g0).symm⟩
    have hv36 : v < 37 := by omega
    have T : ∀ tgt : Nat, ∀ off : Int, (#[163, 176, 245, 288, 331, 394, 437, 460, 503, 536, 549, 592, 635, 679, 702, 725, 748, 781, 804, 837, 881, 904, 927, 950, 973, 1007, 1050, 1073, 1096, 1139, 1192, 1215, 1258, 1281, 1324, 1397, 1431] : Array Int)[v]? = some off → (33 : Int) + off = (tgt : Int) → hv_LT l e A1 A2 b L xs cells slots tgt (lwL b e r) [] σ1 σ2 → hv_LT l e A1 A2 b L xs cells slots 33 (lwL b e r) [.int (xs (6 * r) &&& 63)] σ1 σ2 := fun tgt off h1 h2 h3 => Y_tabIn (off := off) dL_law_33 (by omega) (by omega) (by rw [hv, show ((v : Int) - 0).toNat = v by omega]; exact h1) h2 h3
    rcases (show v = 0 ∨ v = 1 ∨ v = 2 ∨ v = 3 ∨ v = 4 ∨ v = 5 ∨ v = 6 ∨ v = 7 ∨ v = 8 ∨ v = 9 ∨ v = 10 ∨ v = 11 ∨ v = 12 ∨ v = 13 ∨ v = 14 ∨ v = 15 ∨ v = 16 ∨ v = 17 ∨ v = 18 ∨ v = 19 ∨ v = 20 ∨ v = 21 ∨ v = 22 ∨ v = 23 ∨ v = 24 ∨ v = 25 ∨ v = 26 ∨ v = 27 ∨ v = 28 ∨ v = 29 ∨ v = 30 ∨ v = 31 ∨ v = 32 ∨ v = 33 ∨ v = 34 ∨ v = 35 ∨ v = 36 by omega) with rfl | rfl | rfl | rfl | rfl | rfl | rfl | rfl | rfl | rfl | rfl | rfl | rfl | rfl | rfl | rfl | rfl | rfl | rfl | rfl | rfl | rfl | rfl | rfl | rfl | rfl | rfl | rfl | rfl | rfl | rfl | rfl | rfl | rfl | rfl | rfl | rfl
    · exact T 196 163 rfl (by decide) (Y_c0 hr hcs hR hM hW hn K)
    · exact T 209 176 rfl (by decide) (Y_c1 hr hcs hR hM hW hn K)
    · exact T 278 245 rfl (by decide) (Y_c2 hr hcs hR hM hW hn K)
    · exact T 321 288 rfl (by decide) (Y_c3 hr hcs hR hM hW hn K)
    · exact T 364 331 rfl (by decide) (Y_c4 hr hcs hR hM hW hn K)
    · exact T 427 394 rfl (by decide) (Y_c5 hr hcs hR hM hW hn K)
    · exact T 470 437 rfl (by decide) (Y_c6 hr hcs hR hM hW hn K)
    · exact T 493 460 rfl (by decide) (Y_c7 hr hcs hR hM hW hn K)
    · exact T 536 503 rfl (by decide) (Y_c8 hr hcs hR hM hW hn K)
    · exact T 569 536 rfl (by decide) (Y_c9 hr hcs hR hM hW hn K)
    · exact T 582 549 rfl (by decide) (Y_c10 hr hcs hR hM hW hn K)
    · exact T 625 592 rfl (by decide) (Y_c11 hr hcs hR hM hW hn K)
    · exact T 668 635 rfl (by decide) (Y_c12 hr hcs hR hM hW hn K)
    · exact T 712 679 rfl (by decide) (Y_c13 hr hcs hR hM hW hn K)
    · exact T 735 702 rfl (by decide) (Y_c14 hr hcs hR hM hW hn K)
    · exact T 758 725 rfl (by decide) (Y_c15 hr hcs hR hM hW hn K)
    · exact T 781 748 rfl (by decide) (Y_c16 hr hcs hR hM hW hn K)
    · exact T 814 781 rfl (by decide) (Y_c17 hr hcs hR hM hW hn K)
    · exact T 837 804 rfl (by decide) (Y_c18 hr hcs hR hM hW hn K)
    · exact T 870 837 rfl (by decide) (Y_c19 hr hcs hR hM hW hn K)
    · exact T 914 881 rfl (by decide) (Y_c20 hr hcs hR hM hW hn K)
    · exact T 937 904 rfl (by decide) (Y_c21 hr hcs hR hM hW hn K)
    · exact T 960 927 rfl (by decide) (Y_c22 hr hcs hR hM hW hn K)
    · exact T 983 950 rfl (by decide) (Y_c23 hr hcs hR hM hW hn K)
    · exact T 1006 973 rfl (by decide) (Y_c24 hr hcs hR hM hW hn K)
    · exact T 1040 1007 rfl (by decide) (Y_c25 hr hcs hR hM hW hn K)
    · exact T 1083 1050 rfl (by decide) (Y_c26 hr hcs hR hM hW hn K)
    · exact T 1106 1073 rfl (by decide) (Y_c27 hr hcs hR hM hW hn K)
    · exact T 1129 1096 rfl (by decide) (Y_c28 hr hcs hR hM hW hn K)
    · exact T 1172 1139 rfl (by decide) (Y_c29 hr hcs hR hM hW hn K)
    · exact T 1225 1192 rfl (by decide) (Y_c30 hr hcs hR hM hW hn K)
    · exact T 1248 1215 rfl (by decide) (Y_c31 hr hcs hR hM hW hn K)
    · exact T 1291 1258 rfl (by decide) (Y_c32 hr hcs hR hM hW hn K)
    · exact T 1314 1281 rfl (by decide) (Y_c33 hr hcs hR hM hW hn K)
    · exact T 1357 1324 rfl (by decide) (Y_c34 hr hcs hR hM hW hn K)
    · exact T 1430 1397 rfl (by decide) (Y_c35 hr hcs hR hM hW hn K)
    · exact T 1464 1431 rfl (by decide) (Y_c36 hr hcs hR hM hW hn K)
end LL
