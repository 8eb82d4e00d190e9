/-! ===== the law: decode rows, words ===== -/
theorem dL_law_0 : decode code 0 = .ok (.new 7, 3) := by decide +kernel
theorem dL_law_3 : decode code 3 = .ok (.dup, 1) := by decide +kernel
theorem dL_law_4 : decode code 4 = .ok (.invokespecial 9, 3) := by decide +kernel
theorem dL_law_7 : decode code 7 = .ok (.astore_n 1, 1) := by decide +kernel
theorem dL_law_8 : decode code 8 = .ok (.new 10, 3) := by decide +kernel
theorem dL_law_11 : decode code 11 = .ok (.dup, 1) := by decide +kernel
theorem dL_law_12 : decode code 12 = .ok (.invokespecial 12, 3) := by decide +kernel
theorem dL_law_15 : decode code 15 = .ok (.astore_n 2, 1) := by decide +kernel
theorem dL_law_16 : decode code 16 = .ok (.iconst 0, 1) := by decide +kernel
theorem dL_law_17 : decode code 17 = .ok (.istore_n 3, 1) := by decide +kernel
theorem dL_law_18 : decode code 18 = .ok (.iload_n 3, 1) := by decide +kernel
theorem dL_law_19 : decode code 19 = .ok (.aload_n 0, 1) := by decide +kernel
theorem dL_law_20 : decode code 20 = .ok (.arraylength, 1) := by decide +kernel
theorem dL_law_21 : decode code 21 = .ok (.bipush 6, 2) := by decide +kernel
theorem dL_law_23 : decode code 23 = .ok (.isub, 1) := by decide +kernel
theorem dL_law_24 : decode code 24 = .ok (.if_icmp .gt 1068, 3) := by decide +kernel
theorem dL_law_27 : decode code 27 = .ok (.aload_n 0, 1) := by decide +kernel
theorem dL_law_28 : decode code 28 = .ok (.iload_n 3, 1) := by decide +kernel
theorem dL_law_29 : decode code 29 = .ok (.iaload, 1) := by decide +kernel
theorem dL_law_30 : decode code 30 = .ok (.bipush 31, 2) := by decide +kernel
theorem dL_law_32 : decode code 32 = .ok (.iand, 1) := by decide +kernel
theorem dL_law_33 : decode code 33 = .ok (.tableswitch 1053 0 30 #[139, 162, 185, 208, 231, 274, 297, 310, 323, 356, 379, 402, 415, 438, 471, 504, 527, 580, 613, 636, 669, 702, 715, 758, 791, 834, 857, 910, 953, 1016, 1039], 139) := by decide +kernel
theorem dL_law_172 : decode code 172 = .ok (.aload_n 1, 1) := by decide +kernel
theorem dL_law_173 : decode code 173 = .ok (.aload_n 0, 1) := by decide +kernel
theorem dL_law_174 : decode code 174 = .ok (.iload_n 3, 1) := by decide +kernel
theorem dL_law_175 : decode code 175 = .ok (.iconst 1, 1) := by decide +kernel
theorem dL_law_176 : decode code 176 = .ok (.iadd, 1) := by decide +kernel
theorem dL_law_177 : decode code 177 = .ok (.iaload, 1) := by decide +kernel
theorem dL_law_178 : decode code 178 = .ok (.invokevirtual 13, 3) := by decide +kernel
theorem dL_law_181 : decode code 181 = .ok (.aload_n 2, 1) := by decide +kernel
theorem dL_law_182 : decode code 182 = .ok (.aload_n 0, 1) := by decide +kernel
theorem dL_law_183 : decode code 183 = .ok (.iload_n 3, 1) := by decide +kernel
theorem dL_law_184 : decode code 184 = .ok (.iconst 1, 1) := by decide +kernel
theorem dL_law_185 : decode code 185 = .ok (.iadd, 1) := by decide +kernel
theorem dL_law_186 : decode code 186 = .ok (.iaload, 1) := by decide +kernel
theorem dL_law_187 : decode code 187 = .ok (.invokevirtual 17, 3) := by decide +kernel
theorem dL_law_190 : decode code 190 = .ok (.if_icmp .eq 896, 3) := by decide +kernel
theorem dL_law_193 : decode code 193 = .ok (.iconst 0, 1) := by decide +kernel
theorem dL_law_194 : decode code 194 = .ok (.ireturn, 1) := by decide +kernel
theorem dL_law_195 : decode code 195 = .ok (.aload_n 1, 1) := by decide +kernel
theorem dL_law_196 : decode code 196 = .ok (.aload_n 0, 1) := by decide +kernel
theorem dL_law_197 : decode code 197 = .ok (.iload_n 3, 1) := by decide +kernel
theorem dL_law_198 : decode code 198 = .ok (.iconst 1, 1) := by decide +kernel
theorem dL_law_199 : decode code 199 = .ok (.iadd, 1) := by decide +kernel
theorem dL_law_200 : decode code 200 = .ok (.iaload, 1) := by decide +kernel
theorem dL_law_201 : decode code 201 = .ok (.invokevirtual 18, 3) := by decide +kernel
theorem dL_law_204 : decode code 204 = .ok (.aload_n 2, 1) := by decide +kernel
theorem dL_law_205 : decode code 205 = .ok (.aload_n 0, 1) := by decide +kernel
theorem dL_law_206 : decode code 206 = .ok (.iload_n 3, 1) := by decide +kernel
theorem dL_law_207 : decode code 207 = .ok (.iconst 1, 1) := by decide +kernel
theorem dL_law_208 : decode code 208 = .ok (.iadd, 1) := by decide +kernel
theorem dL_law_209 : decode code 209 = .ok (.iaload, 1) := by decide +kernel
theorem dL_law_210 : decode code 210 = .ok (.invokevirtual 21, 3) := by decide +kernel
theorem dL_law_213 : decode code 213 = .ok (.if_icmp .eq 873, 3) := by decide +kernel
theorem dL_law_216 : decode code 216 = .ok (.iconst 0, 1) := by decide +kernel
theorem dL_law_217 : decode code 217 = .ok (.ireturn, 1) := by decide +kernel
theorem dL_law_218 : decode code 218 = .ok (.aload_n 1, 1) := by decide +kernel
theorem dL_law_219 : decode code 219 = .ok (.aload_n 0, 1) := by decide +kernel
theorem dL_law_220 : decode code 220 = .ok (.iload_n 3, 1) := by decide +kernel
theorem dL_law_221 : decode code 221 = .ok (.iconst 1, 1) := by decide +kernel
theorem dL_law_222 : decode code 222 = .ok (.iadd, 1) := by decide +kernel
theorem dL_law_223 : decode code 223 = .ok (.iaload, 1) := by decide +kernel
theorem dL_law_224 : decode code 224 = .ok (.invokevirtual 22, 3) := by decide +kernel
theorem dL_law_227 : decode code 227 = .ok (.aload_n 2, 1) := by decide +kernel
theorem dL_law_228 : decode code 228 = .ok (.aload_n 0, 1) := by decide +kernel
theorem dL_law_229 : decode code 229 = .ok (.iload_n 3, 1) := by decide +kernel
theorem dL_law_230 : decode code 230 = .ok (.iconst 1, 1) := by decide +kernel
theorem dL_law_231 : decode code 231 = .ok (.iadd, 1) := by decide +kernel
theorem dL_law_232 : decode code 232 = .ok (.iaload, 1) := by decide +kernel
theorem dL_law_233 : decode code 233 = .ok (.invokevirtual 25, 3) := by decide +kernel
theorem dL_law_236 : decode code 236 = .ok (.if_icmp .eq 850, 3) := by decide +kernel
theorem dL_law_239 : decode code 239 = .ok (.iconst 0, 1) := by decide +kernel
theorem dL_law_240 : decode code 240 = .ok (.ireturn, 1) := by decide +kernel
theorem dL_law_241 : decode code 241 = .ok (.aload_n 1, 1) := by decide +kernel
theorem dL_law_242 : decode code 242 = .ok (.aload_n 0, 1) := by decide +kernel
theorem dL_law_243 : decode code 243 = .ok (.iload_n 3, 1) := by decide +kernel
theorem dL_law_244 : decode code 244 = .ok (.iconst 1, 1) := by decide +kernel
theorem dL_law_245 : decode code 245 = .ok (.iadd, 1) := by decide +kernel
theorem dL_law_246 : decode code 246 = .ok (.iaload, 1) := by decide +kernel
theorem dL_law_247 : decode code 247 = .ok (.invokevirtual 26, 3) := by decide +kernel
theorem dL_law_250 : decode code 250 = .ok (.aload_n 2, 1) := by decide +kernel
theorem dL_law_251 : decode code 251 = .ok (.aload_n 0, 1) := by decide +kernel
theorem dL_law_252 : decode code 252 = .ok (.iload_n 3, 1) := by decide +kernel
theorem dL_law_253 : decode code 253 = .ok (.iconst 1, 1) := by decide +kernel
theorem dL_law_254 : decode code 254 = .ok (.iadd, 1) := by decide +kernel
theorem dL_law_255 : decode code 255 = .ok (.iaload, 1) := by decide +kernel
theorem dL_law_256 : decode code 256 = .ok (.invokevirtual 29, 3) := by decide +kernel
theorem dL_law_259 : decode code 259 = .ok (.if_icmp .eq 827, 3) := by decide +kernel
theorem dL_law_262 : decode code 262 = .ok (.iconst 0, 1) := by decide +kernel
theorem dL_law_263 : decode code 263 = .ok (.ireturn, 1) := by decide +kernel
theorem dL_law_264 : decode code 264 = .ok (.aload_n 1, 1) := by decide +kernel
theorem dL_law_265 : decode code 265 = .ok (.aload_n 0, 1) := by decide +kernel
theorem dL_law_266 : decode code 266 = .ok (.iload_n 3, 1) := by decide +kernel
theorem dL_law_267 : decode code 267 = .ok (.iconst 1, 1) := by decide +kernel
theorem dL_law_268 : decode code 268 = .ok (.iadd, 1) := by decide +kernel
theorem dL_law_269 : decode code 269 = .ok (.iaload, 1) := by decide +kernel
theorem dL_law_270 : decode code 270 = .ok (.aload_n 0, 1) := by decide +kernel
theorem dL_law_271 : decode code 271 = .ok (.iload_n 3, 1) := by decide +kernel
theorem dL_law_272 : decode code 272 = .ok (.iconst 2, 1) := by decide +kernel
theorem dL_law_273 : decode code 273 = .ok (.iadd, 1) := by decide +kernel
theorem dL_law_274 : decode code 274 = .ok (.iaload, 1) := by decide +kernel
theorem dL_law_275 : decode code 275 = .ok (.aload_n 0, 1) := by decide +kernel
theorem dL_law_276 : decode code 276 = .ok (.iload_n 3, 1) := by decide +kernel
theorem dL_law_277 : decode code 277 = .ok (.iconst 3, 1) := by decide +kernel
theorem dL_law_278 : decode code 278 = .ok (.iadd, 1) := by decide +kernel
theorem dL_law_279 : decode code 279 = .ok (.iaload, 1) := by decide +kernel
theorem dL_law_280 : decode code 280 = .ok (.invokevirtual 30, 3) := by decide +kernel
theorem dL_law_283 : decode code 283 = .ok (.aload_n 2, 1) := by decide +kernel
theorem dL_law_284 : decode code 284 = .ok (.aload_n 0, 1) := by decide +kernel
theorem dL_law_285 : decode code 285 = .ok (.iload_n 3, 1) := by decide +kernel
theorem dL_law_286 : decode code 286 = .ok (.iconst 1, 1) := by decide +kernel
theorem dL_law_287 : decode code 287 = .ok (.iadd, 1) := by decide +kernel
theorem dL_law_288 : decode code 288 = .ok (.iaload, 1) := by decide +kernel
theorem dL_law_289 : decode code 289 = .ok (.aload_n 0, 1) := by decide +kernel
theorem dL_law_290 : decode code 290 = .ok (.iload_n 3, 1) := by decide +kernel
theorem dL_law_291 : decode code 291 = .ok (.iconst 2, 1) := by decide +kernel
theorem dL_law_292 : decode code 292 = .ok (.iadd, 1) := by decide +kernel
theorem dL_law_293 : decode code 293 = .ok (.iaload, 1) := by decide +kernel
theorem dL_law_294 : decode code 294 = .ok (.aload_n 0, 1) := by decide +kernel
theorem dL_law_295 : decode code 295 = .ok (.iload_n 3, 1) := by decide +kernel
theorem dL_law_296 : decode code 296 = .ok (.iconst 3, 1) := by decide +kernel
theorem dL_law_297 : decode code 297 = .ok (.iadd, 1) := by decide +kernel
theorem dL_law_298 : decode code 298 = .ok (.iaload, 1) := by decide +kernel
theorem dL_law_299 : decode code 299 = .ok (.invokevirtual 34, 3) := by decide +kernel
theorem dL_law_302 : decode code 302 = .ok (.if_icmp .eq 784, 3) := by decide +kernel
theorem dL_law_305 : decode code 305 = .ok (.iconst 0, 1) := by decide +kernel
theorem dL_law_306 : decode code 306 = .ok (.ireturn, 1) := by decide +kernel
theorem dL_law_307 : decode code 307 = .ok (.aload_n 1, 1) := by decide +kernel
theorem dL_law_308 : decode code 308 = .ok (.aload_n 0, 1) := by decide +kernel
theorem dL_law_309 : decode code 309 = .ok (.iload_n 3, 1) := by decide +kernel
theorem dL_law_310 : decode code 310 = .ok (.iconst 1, 1) := by decide +kernel
theorem dL_law_311 : decode code 311 = .ok (.iadd, 1) := by decide +kernel
theorem dL_law_312 : decode code 312 = .ok (.iaload, 1) := by decide +kernel
theorem dL_law_313 : decode code 313 = .ok (.invokevirtual 35, 3) := by decide +kernel
theorem dL_law_316 : decode code 316 = .ok (.aload_n 2, 1) := by decide +kernel
theorem dL_law_317 : decode code 317 = .ok (.aload_n 0, 1) := by decide +kernel
theorem dL_law_318 : decode code 318 = .ok (.iload_n 3, 1) := by decide +kernel
theorem dL_law_319 : decode code 319 = .ok (.iconst 1, 1) := by decide +kernel
theorem dL_law_320 : decode code 320 = .ok (.iadd, 1) := by decide +kernel
theorem dL_law_321 : decode code 321 = .ok (.iaload, 1) := by decide +kernel
theorem dL_law_322 : decode code 322 = .ok (.invokevirtual 38, 3) := by decide +kernel
theorem dL_law_325 : decode code 325 = .ok (.if_icmp .eq 761, 3) := by decide +kernel
theorem dL_law_328 : decode code 328 = .ok (.iconst 0, 1) := by decide +kernel
theorem dL_law_329 : decode code 329 = .ok (.ireturn, 1) := by decide +kernel
theorem dL_law_330 : decode code 330 = .ok (.aload_n 1, 1) := by decide +kernel
theorem dL_law_331 : decode code 331 = .ok (.invokevirtual 39, 3) := by decide +kernel
theorem dL_law_334 : decode code 334 = .ok (.aload_n 2, 1) := by decide +kernel
theorem dL_law_335 : decode code 335 = .ok (.invokevirtual 43, 3) := by decide +kernel
theorem dL_law_338 : decode code 338 = .ok (.if_icmp .eq 748, 3) := by decide +kernel
theorem dL_law_341 : decode code 341 = .ok (.iconst 0, 1) := by decide +kernel
theorem dL_law_342 : decode code 342 = .ok (.ireturn, 1) := by decide +kernel
theorem dL_law_343 : decode code 343 = .ok (.aload_n 1, 1) := by decide +kernel
theorem dL_law_344 : decode code 344 = .ok (.invokevirtual 44, 3) := by decide +kernel
theorem dL_law_347 : decode code 347 = .ok (.aload_n 2, 1) := by decide +kernel
theorem dL_law_348 : decode code 348 = .ok (.invokevirtual 47, 3) := by decide +kernel
theorem dL_law_351 : decode code 351 = .ok (.if_icmp .eq 735, 3) := by decide +kernel
theorem dL_law_354 : decode code 354 = .ok (.iconst 0, 1) := by decide +kernel
theorem dL_law_355 : decode code 355 = .ok (.ireturn, 1) := by decide +kernel
theorem dL_law_356 : decode code 356 = .ok (.aload_n 1, 1) := by decide +kernel
theorem dL_law_357 : decode code 357 = .ok (.aload_n 0, 1) := by decide +kernel
theorem dL_law_358 : decode code 358 = .ok (.iload_n 3, 1) := by decide +kernel
theorem dL_law_359 : decode code 359 = .ok (.iconst 1, 1) := by decide +kernel
theorem dL_law_360 : decode code 360 = .ok (.iadd, 1) := by decide +kernel
theorem dL_law_361 : decode code 361 = .ok (.iaload, 1) := by decide +kernel
theorem dL_law_362 : decode code 362 = .ok (.aload_n 0, 1) := by decide +kernel
theorem dL_law_363 : decode code 363 = .ok (.iload_n 3, 1) := by decide +kernel
theorem dL_law_364 : decode code 364 = .ok (.iconst 2, 1) := by decide +kernel
theorem dL_law_365 : decode code 365 = .ok (.iadd, 1) := by decide +kernel
theorem dL_law_366 : decode code 366 = .ok (.iaload, 1) := by decide +kernel
theorem dL_law_367 : decode code 367 = .ok (.invokevirtual 48, 3) := by decide +kernel
theorem dL_law_370 : decode code 370 = .ok (.aload_n 2, 1) := by decide +kernel
theorem dL_law_371 : decode code 371 = .ok (.aload_n 0, 1) := by decide +kernel
theorem dL_law_372 : decode code 372 = .ok (.iload_n 3, 1) := by decide +kernel
theorem dL_law_373 : decode code 373 = .ok (.iconst 1, 1) := by decide +kernel
theorem dL_law_374 : decode code 374 = .ok (.iadd, 1) := by decide +kernel
theorem dL_law_375 : decode code 375 = .ok (.iaload, 1) := by decide +kernel
theorem dL_law_376 : decode code 376 = .ok (.aload_n 0, 1) := by decide +kernel
theorem dL_law_377 : decode code 377 = .ok (.iload_n 3, 1) := by decide +kernel
theorem dL_law_378 : decode code 378 = .ok (.iconst 2, 1) := by decide +kernel
theorem dL_law_379 : decode code 379 = .ok (.iadd, 1) := by decide +kernel
theorem dL_law_380 : decode code 380 = .ok (.iaload, 1) := by decide +kernel
theorem dL_law_381 : decode code 381 = .ok (.invokevirtual 52, 3) := by decide +kernel
theorem dL_law_384 : decode code 384 = .ok (.if_icmp .eq 702, 3) := by decide +kernel
theorem dL_law_387 : decode code 387 = .ok (.iconst 0, 1) := by decide +kernel
theorem dL_law_388 : decode code 388 = .ok (.ireturn, 1) := by decide +kernel
theorem dL_law_389 : decode code 389 = .ok (.aload_n 1, 1) := by decide +kernel
theorem dL_law_390 : decode code 390 = .ok (.aload_n 0, 1) := by decide +kernel
theorem dL_law_391 : decode code 391 = .ok (.iload_n 3, 1) := by decide +kernel
theorem dL_law_392 : decode code 392 = .ok (.iconst 1, 1) := by decide +kernel
theorem dL_law_393 : decode code 393 = .ok (.iadd, 1) := by decide +kernel
theorem dL_law_394 : decode code 394 = .ok (.iaload, 1) := by decide +kernel
theorem dL_law_395 : decode code 395 = .ok (.invokevirtual 53, 3) := by decide +kernel
theorem dL_law_398 : decode code 398 = .ok (.aload_n 2, 1) := by decide +kernel
theorem dL_law_399 : decode code 399 = .ok (.aload_n 0, 1) := by decide +kernel
theorem dL_law_400 : decode code 400 = .ok (.iload_n 3, 1) := by decide +kernel
theorem dL_law_401 : decode code 401 = .ok (.iconst 1, 1) := by decide +kernel
theorem dL_law_402 : decode code 402 = .ok (.iadd, 1) := by decide +kernel
theorem dL_law_403 : decode code 403 = .ok (.iaload, 1) := by decide +kernel
theorem dL_law_404 : decode code 404 = .ok (.invokevirtual 56, 3) := by decide +kernel
theorem dL_law_407 : decode code 407 = .ok (.if_icmp .eq 679, 3) := by decide +kernel
theorem dL_law_410 : decode code 410 = .ok (.iconst 0, 1) := by decide +kernel
theorem dL_law_411 : decode code 411 = .ok (.ireturn, 1) := by decide +kernel
theorem dL_law_412 : decode code 412 = .ok (.aload_n 1, 1) := by decide +kernel
theorem dL_law_413 : decode code 413 = .ok (.aload_n 0, 1) := by decide +kernel
theorem dL_law_414 : decode code 414 = .ok (.iload_n 3, 1) := by decide +kernel
theorem dL_law_415 : decode code 415 = .ok (.iconst 1, 1) := by decide +kernel
theorem dL_law_416 : decode code 416 = .ok (.iadd, 1) := by decide +kernel
theorem dL_law_417 : decode code 417 = .ok (.iaload, 1) := by decide +kernel
theorem dL_law_418 : decode code 418 = .ok (.invokevirtual 57, 3) := by decide +kernel
theorem dL_law_421 : decode code 421 = .ok (.aload_n 2, 1) := by decide +kernel
theorem dL_law_422 : decode code 422 = .ok (.aload_n 0, 1) := by decide +kernel
theorem dL_law_423 : decode code 423 = .ok (.iload_n 3, 1) := by decide +kernel
theorem dL_law_424 : decode code 424 = .ok (.iconst 1, 1) := by decide +kernel
theorem dL_law_425 : decode code 425 = .ok (.iadd, 1) := by decide +kernel
theorem dL_law_426 : decode code 426 = .ok (.iaload, 1) := by decide +kernel
theorem dL_law_427 : decode code 427 = .ok (.invokevirtual 60, 3) := by decide +kernel
theorem dL_law_430 : decode code 430 = .ok (.if_icmp .eq 656, 3) := by decide +kernel
theorem dL_law_433 : decode code 433 = .ok (.iconst 0, 1) := by decide +kernel
theorem dL_law_434 : decode code 434 = .ok (.ireturn, 1) := by decide +kernel
theorem dL_law_435 : decode code 435 = .ok (.aload_n 1, 1) := by decide +kernel
theorem dL_law_436 : decode code 436 = .ok (.invokevirtual 61, 3) := by decide +kernel
theorem dL_law_439 : decode code 439 = .ok (.aload_n 2, 1) := by decide +kernel
theorem dL_law_440 : decode code 440 = .ok (.invokevirtual 64, 3) := by decide +kernel
theorem dL_law_443 : decode code 443 = .ok (.if_icmp .eq 643, 3) := by decide +kernel
theorem dL_law_446 : decode code 446 = .ok (.iconst 0, 1) := by decide +kernel
theorem dL_law_447 : decode code 447 = .ok (.ireturn, 1) := by decide +kernel
theorem dL_law_448 : decode code 448 = .ok (.aload_n 1, 1) := by decide +kernel
theorem dL_law_449 : decode code 449 = .ok (.aload_n 0, 1) := by decide +kernel
theorem dL_law_450 : decode code 450 = .ok (.iload_n 3, 1) := by decide +kernel
theorem dL_law_451 : decode code 451 = .ok (.iconst 1, 1) := by decide +kernel
theorem dL_law_452 : decode code 452 = .ok (.iadd, 1) := by decide +kernel
theorem dL_law_453 : decode code 453 = .ok (.iaload, 1) := by decide +kernel
theorem dL_law_454 : decode code 454 = .ok (.invokevirtual 65, 3) := by decide +kernel
theorem dL_law_457 : decode code 457 = .ok (.aload_n 2, 1) := by decide +kernel
theorem dL_law_458 : decode code 458 = .ok (.aload_n 0, 1) := by decide +kernel
theorem dL_law_459 : decode code 459 = .ok (.iload_n 3, 1) := by decide +kernel
theorem dL_law_460 : decode code 460 = .ok (.iconst 1, 1) := by decide +kernel
theorem dL_law_461 : decode code 461 = .ok (.iadd, 1) := by decide +kernel
theorem dL_law_462 : decode code 462 = .ok (.iaload, 1) := by decide +kernel
theorem dL_law_463 : decode code 463 = .ok (.invokevirtual 68, 3) := by decide +kernel
theorem dL_law_466 : decode code 466 = .ok (.if_icmp .eq 620, 3) := by decide +kernel
theorem dL_law_469 : decode code 469 = .ok (.iconst 0, 1) := by decide +kernel
theorem dL_law_470 : decode code 470 = .ok (.ireturn, 1) := by decide +kernel
theorem dL_law_471 : decode code 471 = .ok (.aload_n 1, 1) := by decide +kernel
theorem dL_law_472 : decode code 472 = .ok (.aload_n 0, 1) := by decide +kernel
theorem dL_law_473 : decode code 473 = .ok (.iload_n 3, 1) := by decide +kernel
theorem dL_law_474 : decode code 474 = .ok (.iconst 1, 1) := by decide +kernel
theorem dL_law_475 : decode code 475 = .ok (.iadd, 1) := by decide +kernel
theorem dL_law_476 : decode code 476 = .ok (.iaload, 1) := by decide +kernel
theorem dL_law_477 : decode code 477 = .ok (.aload_n 0, 1) := by decide +kernel
theorem dL_law_478 : decode code 478 = .ok (.iload_n 3, 1) := by decide +kernel
theorem dL_law_479 : decode code 479 = .ok (.iconst 2, 1) := by decide +kernel
theorem dL_law_480 : decode code 480 = .ok (.iadd, 1) := by decide +kernel
theorem dL_law_481 : decode code 481 = .ok (.iaload, 1) := by decide +kernel
theorem dL_law_482 : decode code 482 = .ok (.invokevirtual 69, 3) := by decide +kernel
theorem dL_law_485 : decode code 485 = .ok (.aload_n 2, 1) := by decide +kernel
theorem dL_law_486 : decode code 486 = .ok (.aload_n 0, 1) := by decide +kernel
theorem dL_law_487 : decode code 487 = .ok (.iload_n 3, 1) := by decide +kernel
theorem dL_law_488 : decode code 488 = .ok (.iconst 1, 1) := by decide +kernel
theorem dL_law_489 : decode code 489 = .ok (.iadd, 1) := by decide +kernel
theorem dL_law_490 : decode code 490 = .ok (.iaload, 1) := by decide +kernel
theorem dL_law_491 : decode code 491 = .ok (.aload_n 0, 1) := by decide +kernel
theorem dL_law_492 : decode code 492 = .ok (.iload_n 3, 1) := by decide +kernel
theorem dL_law_493 : decode code 493 = .ok (.iconst 2, 1) := by decide +kernel
theorem dL_law_494 : decode code 494 = .ok (.iadd, 1) := by decide +kernel
theorem dL_law_495 : decode code 495 = .ok (.iaload, 1) := by decide +kernel
theorem dL_law_496 : decode code 496 = .ok (.invokevirtual 72, 3) := by decide +kernel
theorem dL_law_499 : decode code 499 = .ok (.if_icmp .eq 587, 3) := by decide +kernel
theorem dL_law_502 : decode code 502 = .ok (.iconst 0, 1) := by decide +kernel
theorem dL_law_503 : decode code 503 = .ok (.ireturn, 1) := by decide +kernel
theorem dL_law_504 : decode code 504 = .ok (.aload_n 1, 1) := by decide +kernel
theorem dL_law_505 : decode code 505 = .ok (.aload_n 0, 1) := by decide +kernel
theorem dL_law_506 : decode code 506 = .ok (.iload_n 3, 1) := by decide +kernel
theorem dL_law_507 : decode code 507 = .ok (.iconst 1, 1) := by decide +kernel
theorem dL_law_508 : decode code 508 = .ok (.iadd, 1) := by decide +kernel
theorem dL_law_509 : decode code 509 = .ok (.iaload, 1) := by decide +kernel
theorem dL_law_510 : decode code 510 = .ok (.aload_n 0, 1) := by decide +kernel
theorem dL_law_511 : decode code 511 = .ok (.iload_n 3, 1) := by decide +kernel
theorem dL_law_512 : decode code 512 = .ok (.iconst 2, 1) := by decide +kernel
theorem dL_law_513 : decode code 513 = .ok (.iadd, 1) := by decide +kernel
theorem dL_law_514 : decode code 514 = .ok (.iaload, 1) := by decide +kernel
theorem dL_law_515 : decode code 515 = .ok (.invokevirtual 73, 3) := by decide +kernel
theorem dL_law_518 : decode code 518 = .ok (.aload_n 2, 1) := by decide +kernel
theorem dL_law_519 : decode code 519 = .ok (.aload_n 0, 1) := by decide +kernel
theorem dL_law_520 : decode code 520 = .ok (.iload_n 3, 1) := by decide +kernel
theorem dL_law_521 : decode code 521 = .ok (.iconst 1, 1) := by decide +kernel
theorem dL_law_522 : decode code 522 = .ok (.iadd, 1) := by decide +kernel
theorem dL_law_523 : decode code 523 = .ok (.iaload, 1) := by decide +kernel
theorem dL_law_524 : decode code 524 = .ok (.aload_n 0, 1) := by decide +kernel
theorem dL_law_525 : decode code 525 = .ok (.iload_n 3, 1) := by decide +kernel
theorem dL_law_526 : decode code 526 = .ok (.iconst 2, 1) := by decide +kernel
theorem dL_law_527 : decode code 527 = .ok (.iadd, 1) := by decide +kernel
theorem dL_law_528 : decode code 528 = .ok (.iaload, 1) := by decide +kernel
theorem dL_law_529 : decode code 529 = .ok (.invokevirtual 76, 3) := by decide +kernel
theorem dL_law_532 : decode code 532 = .ok (.if_icmp .eq 554, 3) := by decide +kernel
theorem dL_law_535 : decode code 535 = .ok (.iconst 0, 1) := by decide +kernel
theorem dL_law_536 : decode code 536 = .ok (.ireturn, 1) := by decide +kernel
theorem dL_law_537 : decode code 537 = .ok (.aload_n 1, 1) := by decide +kernel
theorem dL_law_538 : decode code 538 = .ok (.aload_n 0, 1) := by decide +kernel
theorem dL_law_539 : decode code 539 = .ok (.iload_n 3, 1) := by decide +kernel
theorem dL_law_540 : decode code 540 = .ok (.iconst 1, 1) := by decide +kernel
theorem dL_law_541 : decode code 541 = .ok (.iadd, 1) := by decide +kernel
theorem dL_law_542 : decode code 542 = .ok (.iaload, 1) := by decide +kernel
theorem dL_law_543 : decode code 543 = .ok (.invokevirtual 77, 3) := by decide +kernel
theorem dL_law_546 : decode code 546 = .ok (.aload_n 2, 1) := by decide +kernel
theorem dL_law_547 : decode code 547 = .ok (.aload_n 0, 1) := by decide +kernel
theorem dL_law_548 : decode code 548 = .ok (.iload_n 3, 1) := by decide +kernel
theorem dL_law_549 : decode code 549 = .ok (.iconst 1, 1) := by decide +kernel
theorem dL_law_550 : decode code 550 = .ok (.iadd, 1) := by decide +kernel
theorem dL_law_551 : decode code 551 = .ok (.iaload, 1) := by decide +kernel
theorem dL_law_552 : decode code 552 = .ok (.invokevirtual 80, 3) := by decide +kernel
theorem dL_law_555 : decode code 555 = .ok (.if_icmp .eq 531, 3) := by decide +kernel
theorem dL_law_558 : decode code 558 = .ok (.iconst 0, 1) := by decide +kernel
theorem dL_law_559 : decode code 559 = .ok (.ireturn, 1) := by decide +kernel
theorem dL_law_560 : decode code 560 = .ok (.aload_n 1, 1) := by decide +kernel
theorem dL_law_561 : decode code 561 = .ok (.aload_n 0, 1) := by decide +kernel
theorem dL_law_562 : decode code 562 = .ok (.iload_n 3, 1) := by decide +kernel
theorem dL_law_563 : decode code 563 = .ok (.iconst 1, 1) := by decide +kernel
theorem dL_law_564 : decode code 564 = .ok (.iadd, 1) := by decide +kernel
theorem dL_law_565 : decode code 565 = .ok (.iaload, 1) := by decide +kernel
theorem dL_law_566 : decode code 566 = .ok (.aload_n 0, 1) := by decide +kernel
theorem dL_law_567 : decode code 567 = .ok (.iload_n 3, 1) := by decide +kernel
theorem dL_law_568 : decode code 568 = .ok (.iconst 2, 1) := by decide +kernel
theorem dL_law_569 : decode code 569 = .ok (.iadd, 1) := by decide +kernel
theorem dL_law_570 : decode code 570 = .ok (.iaload, 1) := by decide +kernel
theorem dL_law_571 : decode code 571 = .ok (.aload_n 0, 1) := by decide +kernel
theorem dL_law_572 : decode code 572 = .ok (.iload_n 3, 1) := by decide +kernel
theorem dL_law_573 : decode code 573 = .ok (.iconst 3, 1) := by decide +kernel
theorem dL_law_574 : decode code 574 = .ok (.iadd, 1) := by decide +kernel
theorem dL_law_575 : decode code 575 = .ok (.iaload, 1) := by decide +kernel
theorem dL_law_576 : decode code 576 = .ok (.aload_n 0, 1) := by decide +kernel
theorem dL_law_577 : decode code 577 = .ok (.iload_n 3, 1) := by decide +kernel
theorem dL_law_578 : decode code 578 = .ok (.iconst 4, 1) := by decide +kernel
theorem dL_law_579 : decode code 579 = .ok (.iadd, 1) := by decide +kernel
theorem dL_law_580 : decode code 580 = .ok (.iaload, 1) := by decide +kernel
theorem dL_law_581 : decode code 581 = .ok (.invokevirtual 81, 3) := by decide +kernel
theorem dL_law_584 : decode code 584 = .ok (.aload_n 2, 1) := by decide +kernel
theorem dL_law_585 : decode code 585 = .ok (.aload_n 0, 1) := by decide +kernel
theorem dL_law_586 : decode code 586 = .ok (.iload_n 3, 1) := by decide +kernel
theorem dL_law_587 : decode code 587 = .ok (.iconst 1, 1) := by decide +kernel
theorem dL_law_588 : decode code 588 = .ok (.iadd, 1) := by decide +kernel
theorem dL_law_589 : decode code 589 = .ok (.iaload, 1) := by decide +kernel
theorem dL_law_590 : decode code 590 = .ok (.aload_n 0, 1) := by decide +kernel
theorem dL_law_591 : decode code 591 = .ok (.iload_n 3, 1) := by decide +kernel
theorem dL_law_592 : decode code 592 = .ok (.iconst 2, 1) := by decide +kernel
theorem dL_law_593 : decode code 593 = .ok (.iadd, 1) := by decide +kernel
theorem dL_law_594 : decode code 594 = .ok (.iaload, 1) := by decide +kernel
theorem dL_law_595 : decode code 595 = .ok (.aload_n 0, 1) := by decide +kernel
theorem dL_law_596 : decode code 596 = .ok (.iload_n 3, 1) := by decide +kernel
theorem dL_law_597 : decode code 597 = .ok (.iconst 3, 1) := by decide +kernel
theorem dL_law_598 : decode code 598 = .ok (.iadd, 1) := by decide +kernel
theorem dL_law_599 : decode code 599 = .ok (.iaload, 1) := by decide +kernel
theorem dL_law_600 : decode code 600 = .ok (.aload_n 0, 1) := by decide +kernel
theorem dL_law_601 : decode code 601 = .ok (.iload_n 3, 1) := by decide +kernel
theorem dL_law_602 : decode code 602 = .ok (.iconst 4, 1) := by decide +kernel
theorem dL_law_603 : decode code 603 = .ok (.iadd, 1) := by decide +kernel
theorem dL_law_604 : decode code 604 = .ok (.iaload, 1) := by decide +kernel
theorem dL_law_605 : decode code 605 = .ok (.invokevirtual 85, 3) := by decide +kernel
theorem dL_law_608 : decode code 608 = .ok (.if_icmp .eq 478, 3) := by decide +kernel
theorem dL_law_611 : decode code 611 = .ok (.iconst 0, 1) := by decide +kernel
theorem dL_law_612 : decode code 612 = .ok (.ireturn, 1) := by decide +kernel
theorem dL_law_613 : decode code 613 = .ok (.aload_n 1, 1) := by decide +kernel
theorem dL_law_614 : decode code 614 = .ok (.aload_n 0, 1) := by decide +kernel
theorem dL_law_615 : decode code 615 = .ok (.iload_n 3, 1) := by decide +kernel
theorem dL_law_616 : decode code 616 = .ok (.iconst 1, 1) := by decide +kernel
theorem dL_law_617 : decode code 617 = .ok (.iadd, 1) := by decide +kernel
theorem dL_law_618 : decode code 618 = .ok (.iaload, 1) := by decide +kernel
theorem dL_law_619 : decode code 619 = .ok (.aload_n 0, 1) := by decide +kernel
theorem dL_law_620 : decode code 620 = .ok (.iload_n 3, 1) := by decide +kernel
theorem dL_law_621 : decode code 621 = .ok (.iconst 2, 1) := by decide +kernel
theorem dL_law_622 : decode code 622 = .ok (.iadd, 1) := by decide +kernel
theorem dL_law_623 : decode code 623 = .ok (.iaload, 1) := by decide +kernel
theorem dL_law_624 : decode code 624 = .ok (.invokevirtual 86, 3) := by decide +kernel
theorem dL_law_627 : decode code 627 = .ok (.aload_n 2, 1) := by decide +kernel
theorem dL_law_628 : decode code 628 = .ok (.aload_n 0, 1) := by decide +kernel
theorem dL_law_629 : decode code 629 = .ok (.iload_n 3, 1) := by decide +kernel
theorem dL_law_630 : decode code 630 = .ok (.iconst 1, 1) := by decide +kernel
theorem dL_law_631 : decode code 631 = .ok (.iadd, 1) := by decide +kernel
theorem dL_law_632 : decode code 632 = .ok (.iaload, 1) := by decide +kernel
theorem dL_law_633 : decode code 633 = .ok (.aload_n 0, 1) := by decide +kernel
theorem dL_law_634 : decode code 634 = .ok (.iload_n 3, 1) := by decide +kernel
theorem dL_law_635 : decode code 635 = .ok (.iconst 2, 1) := by decide +kernel
theorem dL_law_636 : decode code 636 = .ok (.iadd, 1) := by decide +kernel
theorem dL_law_637 : decode code 637 = .ok (.iaload, 1) := by decide +kernel
theorem dL_law_638 : decode code 638 = .ok (.invokevirtual 89, 3) := by decide +kernel
theorem dL_law_641 : decode code 641 = .ok (.if_icmp .eq 445, 3) := by decide +kernel
theorem dL_law_644 : decode code 644 = .ok (.iconst 0, 1) := by decide +kernel
theorem dL_law_645 : decode code 645 = .ok (.ireturn, 1) := by decide +kernel
theorem dL_law_646 : decode code 646 = .ok (.aload_n 1, 1) := by decide +kernel
theorem dL_law_647 : decode code 647 = .ok (.aload_n 0, 1) := by decide +kernel
theorem dL_law_648 : decode code 648 = .ok (.iload_n 3, 1) := by decide +kernel
theorem dL_law_649 : decode code 649 = .ok (.iconst 1, 1) := by decide +kernel
theorem dL_law_650 : decode code 650 = .ok (.iadd, 1) := by decide +kernel
theorem dL_law_651 : decode code 651 = .ok (.iaload, 1) := by decide +kernel
theorem dL_law_652 : decode code 652 = .ok (.invokevirtual 90, 3) := by decide +kernel
theorem dL_law_655 : decode code 655 = .ok (.aload_n 2, 1) := by decide +kernel
theorem dL_law_656 : decode code 656 = .ok (.aload_n 0, 1) := by decide +kernel
theorem dL_law_657 : decode code 657 = .ok (.iload_n 3, 1) := by decide +kernel
theorem dL_law_658 : decode code 658 = .ok (.iconst 1, 1) := by decide +kernel
theorem dL_law_659 : decode code 659 = .ok (.iadd, 1) := by decide +kernel
theorem dL_law_660 : decode code 660 = .ok (.iaload, 1) := by decide +kernel
theorem dL_law_661 : decode code 661 = .ok (.invokevirtual 93, 3) := by decide +kernel
theorem dL_law_664 : decode code 664 = .ok (.if_icmp .eq 422, 3) := by decide +kernel
theorem dL_law_667 : decode code 667 = .ok (.iconst 0, 1) := by decide +kernel
theorem dL_law_668 : decode code 668 = .ok (.ireturn, 1) := by decide +kernel
theorem dL_law_669 : decode code 669 = .ok (.aload_n 1, 1) := by decide +kernel
theorem dL_law_670 : decode code 670 = .ok (.aload_n 0, 1) := by decide +kernel
theorem dL_law_671 : decode code 671 = .ok (.iload_n 3, 1) := by decide +kernel
theorem dL_law_672 : decode code 672 = .ok (.iconst 1, 1) := by decide +kernel
theorem dL_law_673 : decode code 673 = .ok (.iadd, 1) := by decide +kernel
theorem dL_law_674 : decode code 674 = .ok (.iaload, 1) := by decide +kernel
theorem dL_law_675 : decode code 675 = .ok (.aload_n 0, 1) := by decide +kernel
theorem dL_law_676 : decode code 676 = .ok (.iload_n 3, 1) := by decide +kernel
theorem dL_law_677 : decode code 677 = .ok (.iconst 2, 1) := by decide +kernel
theorem dL_law_678 : decode code 678 = .ok (.iadd, 1) := by decide +kernel
theorem dL_law_679 : decode code 679 = .ok (.iaload, 1) := by decide +kernel
theorem dL_law_680 : decode code 680 = .ok (.invokevirtual 94, 3) := by decide +kernel
theorem dL_law_683 : decode code 683 = .ok (.aload_n 2, 1) := by decide +kernel
theorem dL_law_684 : decode code 684 = .ok (.aload_n 0, 1) := by decide +kernel
theorem dL_law_685 : decode code 685 = .ok (.iload_n 3, 1) := by decide +kernel
theorem dL_law_686 : decode code 686 = .ok (.iconst 1, 1) := by decide +kernel
theorem dL_law_687 : decode code 687 = .ok (.iadd, 1) := by decide +kernel
theorem dL_law_688 : decode code 688 = .ok (.iaload, 1) := by decide +kernel
theorem dL_law_689 : decode code 689 = .ok (.aload_n 0, 1) := by decide +kernel
theorem dL_law_690 : decode code 690 = .ok (.iload_n 3, 1) := by decide +kernel
theorem dL_law_691 : decode code 691 = .ok (.iconst 2, 1) := by decide +kernel
theorem dL_law_692 : decode code 692 = .ok (.iadd, 1) := by decide +kernel
theorem dL_law_693 : decode code 693 = .ok (.iaload, 1) := by decide +kernel
theorem dL_law_694 : decode code 694 = .ok (.invokevirtual 97, 3) := by decide +kernel
theorem dL_law_697 : decode code 697 = .ok (.if_icmp .eq 389, 3) := by decide +kernel
theorem dL_law_700 : decode code 700 = .ok (.iconst 0, 1) := by decide +kernel
theorem dL_law_701 : decode code 701 = .ok (.ireturn, 1) := by decide +kernel
theorem dL_law_702 : decode code 702 = .ok (.aload_n 1, 1) := by decide +kernel
theorem dL_law_703 : decode code 703 = .ok (.aload_n 0, 1) := by decide +kernel
theorem dL_law_704 : decode code 704 = .ok (.iload_n 3, 1) := by decide +kernel
theorem dL_law_705 : decode code 705 = .ok (.iconst 1, 1) := by decide +kernel
theorem dL_law_706 : decode code 706 = .ok (.iadd, 1) := by decide +kernel
theorem dL_law_707 : decode code 707 = .ok (.iaload, 1) := by decide +kernel
theorem dL_law_708 : decode code 708 = .ok (.aload_n 0, 1) := by decide +kernel
theorem dL_law_709 : decode code 709 = .ok (.iload_n 3, 1) := by decide +kernel
theorem dL_law_710 : decode code 710 = .ok (.iconst 2, 1) := by decide +kernel
theorem dL_law_711 : decode code 711 = .ok (.iadd, 1) := by decide +kernel
theorem dL_law_712 : decode code 712 = .ok (.iaload, 1) := by decide +kernel
theorem dL_law_713 : decode code 713 = .ok (.invokevirtual 98, 3) := by decide +kernel
theorem dL_law_716 : decode code 716 = .ok (.aload_n 2, 1) := by decide +kernel
theorem dL_law_717 : decode code 717 = .ok (.aload_n 0, 1) := by decide +kernel
theorem dL_law_718 : decode code 718 = .ok (.iload_n 3, 1) := by decide +kernel
theorem dL_law_719 : decode code 719 = .ok (.iconst 1, 1) := by decide +kernel
theorem dL_law_720 : decode code 720 = .ok (.iadd, 1) := by decide +kernel
theorem dL_law_721 : decode code 721 = .ok (.iaload, 1) := by decide +kernel
theorem dL_law_722 : decode code 722 = .ok (.aload_n 0, 1) := by decide +kernel
theorem dL_law_723 : decode code 723 = .ok (.iload_n 3, 1) := by decide +kernel
theorem dL_law_724 : decode code 724 = .ok (.iconst 2, 1) := by decide +kernel
theorem dL_law_725 : decode code 725 = .ok (.iadd, 1) := by decide +kernel
theorem dL_law_726 : decode code 726 = .ok (.iaload, 1) := by decide +kernel
theorem dL_law_727 : decode code 727 = .ok (.invokevirtual 101, 3) := by decide +kernel
theorem dL_law_730 : decode code 730 = .ok (.if_icmp .eq 356, 3) := by decide +kernel
theorem dL_law_733 : decode code 733 = .ok (.iconst 0, 1) := by decide +kernel
theorem dL_law_734 : decode code 734 = .ok (.ireturn, 1) := by decide +kernel
theorem dL_law_735 : decode code 735 = .ok (.aload_n 1, 1) := by decide +kernel
theorem dL_law_736 : decode code 736 = .ok (.invokevirtual 102, 3) := by decide +kernel
theorem dL_law_739 : decode code 739 = .ok (.aload_n 2, 1) := by decide +kernel
theorem dL_law_740 : decode code 740 = .ok (.invokevirtual 105, 3) := by decide +kernel
theorem dL_law_743 : decode code 743 = .ok (.if_icmp .eq 343, 3) := by decide +kernel
theorem dL_law_746 : decode code 746 = .ok (.iconst 0, 1) := by decide +kernel
theorem dL_law_747 : decode code 747 = .ok (.ireturn, 1) := by decide +kernel
theorem dL_law_748 : decode code 748 = .ok (.aload_n 1, 1) := by decide +kernel
theorem dL_law_749 : decode code 749 = .ok (.aload_n 0, 1) := by decide +kernel
theorem dL_law_750 : decode code 750 = .ok (.iload_n 3, 1) := by decide +kernel
theorem dL_law_751 : decode code 751 = .ok (.iconst 1, 1) := by decide +kernel
theorem dL_law_752 : decode code 752 = .ok (.iadd, 1) := by decide +kernel
theorem dL_law_753 : decode code 753 = .ok (.iaload, 1) := by decide +kernel
theorem dL_law_754 : decode code 754 = .ok (.aload_n 0, 1) := by decide +kernel
theorem dL_law_755 : decode code 755 = .ok (.iload_n 3, 1) := by decide +kernel
theorem dL_law_756 : decode code 756 = .ok (.iconst 2, 1) := by decide +kernel
theorem dL_law_757 : decode code 757 = .ok (.iadd, 1) := by decide +kernel
theorem dL_law_758 : decode code 758 = .ok (.iaload, 1) := by decide +kernel
theorem dL_law_759 : decode code 759 = .ok (.aload_n 0, 1) := by decide +kernel
theorem dL_law_760 : decode code 760 = .ok (.iload_n 3, 1) := by decide +kernel
theorem dL_law_761 : decode code 761 = .ok (.iconst 3, 1) := by decide +kernel
theorem dL_law_762 : decode code 762 = .ok (.iadd, 1) := by decide +kernel
theorem dL_law_763 : decode code 763 = .ok (.iaload, 1) := by decide +kernel
theorem dL_law_764 : decode code 764 = .ok (.invokevirtual 106, 3) := by decide +kernel
theorem dL_law_767 : decode code 767 = .ok (.aload_n 2, 1) := by decide +kernel
theorem dL_law_768 : decode code 768 = .ok (.aload_n 0, 1) := by decide +kernel
theorem dL_law_769 : decode code 769 = .ok (.iload_n 3, 1) := by decide +kernel
theorem dL_law_770 : decode code 770 = .ok (.iconst 1, 1) := by decide +kernel
theorem dL_law_771 : decode code 771 = .ok (.iadd, 1) := by decide +kernel
theorem dL_law_772 : decode code 772 = .ok (.iaload, 1) := by decide +kernel
theorem dL_law_773 : decode code 773 = .ok (.aload_n 0, 1) := by decide +kernel
theorem dL_law_774 : decode code 774 = .ok (.iload_n 3, 1) := by decide +kernel
theorem dL_law_775 : decode code 775 = .ok (.iconst 2, 1) := by decide +kernel
theorem dL_law_776 : decode code 776 = .ok (.iadd, 1) := by decide +kernel
theorem dL_law_777 : decode code 777 = .ok (.iaload, 1) := by decide +kernel
theorem dL_law_778 : decode code 778 = .ok (.aload_n 0, 1) := by decide +kernel
theorem dL_law_779 : decode code 779 = .ok (.iload_n 3, 1) := by decide +kernel
theorem dL_law_780 : decode code 780 = .ok (.iconst 3, 1) := by decide +kernel
theorem dL_law_781 : decode code 781 = .ok (.iadd, 1) := by decide +kernel
theorem dL_law_782 : decode code 782 = .ok (.iaload, 1) := by decide +kernel
theorem dL_law_783 : decode code 783 = .ok (.invokevirtual 109, 3) := by decide +kernel
theorem dL_law_786 : decode code 786 = .ok (.if_icmp .eq 300, 3) := by decide +kernel
theorem dL_law_789 : decode code 789 = .ok (.iconst 0, 1) := by decide +kernel
theorem dL_law_790 : decode code 790 = .ok (.ireturn, 1) := by decide +kernel
theorem dL_law_791 : decode code 791 = .ok (.aload_n 1, 1) := by decide +kernel
theorem dL_law_792 : decode code 792 = .ok (.aload_n 0, 1) := by decide +kernel
theorem dL_law_793 : decode code 793 = .ok (.iload_n 3, 1) := by decide +kernel
theorem dL_law_794 : decode code 794 = .ok (.iconst 1, 1) := by decide +kernel
theorem dL_law_795 : decode code 795 = .ok (.iadd, 1) := by decide +kernel
theorem dL_law_796 : decode code 796 = .ok (.iaload, 1) := by decide +kernel
theorem dL_law_797 : decode code 797 = .ok (.aload_n 0, 1) := by decide +kernel
theorem dL_law_798 : decode code 798 = .ok (.iload_n 3, 1) := by decide +kernel
theorem dL_law_799 : decode code 799 = .ok (.iconst 2, 1) := by decide +kernel
theorem dL_law_800 : decode code 800 = .ok (.iadd, 1) := by decide +kernel
theorem dL_law_801 : decode code 801 = .ok (.iaload, 1) := by decide +kernel
theorem dL_law_802 : decode code 802 = .ok (.invokevirtual 110, 3) := by decide +kernel
theorem dL_law_805 : decode code 805 = .ok (.aload_n 2, 1) := by decide +kernel
theorem dL_law_806 : decode code 806 = .ok (.aload_n 0, 1) := by decide +kernel
theorem dL_law_807 : decode code 807 = .ok (.iload_n 3, 1) := by decide +kernel
theorem dL_law_808 : decode code 808 = .ok (.iconst 1, 1) := by decide +kernel
theorem dL_law_809 : decode code 809 = .ok (.iadd, 1) := by decide +kernel
theorem dL_law_810 : decode code 810 = .ok (.iaload, 1) := by decide +kernel
theorem dL_law_811 : decode code 811 = .ok (.aload_n 0, 1) := by decide +kernel
theorem dL_law_812 : decode code 812 = .ok (.iload_n 3, 1) := by decide +kernel
theorem dL_law_813 : decode code 813 = .ok (.iconst 2, 1) := by decide +kernel
theorem dL_law_814 : decode code 814 = .ok (.iadd, 1) := by decide +kernel
theorem dL_law_815 : decode code 815 = .ok (.iaload, 1) := by decide +kernel
theorem dL_law_816 : decode code 816 = .ok (.invokevirtual 113, 3) := by decide +kernel
theorem dL_law_819 : decode code 819 = .ok (.if_icmp .eq 267, 3) := by decide +kernel
theorem dL_law_822 : decode code 822 = .ok (.iconst 0, 1) := by decide +kernel
theorem dL_law_823 : decode code 823 = .ok (.ireturn, 1) := by decide +kernel
theorem dL_law_824 : decode code 824 = .ok (.aload_n 1, 1) := by decide +kernel
theorem dL_law_825 : decode code 825 = .ok (.aload_n 0, 1) := by decide +kernel
theorem dL_law_826 : decode code 826 = .ok (.iload_n 3, 1) := by decide +kernel
theorem dL_law_827 : decode code 827 = .ok (.iconst 1, 1) := by decide +kernel
theorem dL_law_828 : decode code 828 = .ok (.iadd, 1) := by decide +kernel
theorem dL_law_829 : decode code 829 = .ok (.iaload, 1) := by decide +kernel
theorem dL_law_830 : decode code 830 = .ok (.aload_n 0, 1) := by decide +kernel
theorem dL_law_831 : decode code 831 = .ok (.iload_n 3, 1) := by decide +kernel
theorem dL_law_832 : decode code 832 = .ok (.iconst 2, 1) := by decide +kernel
theorem dL_law_833 : decode code 833 = .ok (.iadd, 1) := by decide +kernel
theorem dL_law_834 : decode code 834 = .ok (.iaload, 1) := by decide +kernel
theorem dL_law_835 : decode code 835 = .ok (.aload_n 0, 1) := by decide +kernel
theorem dL_law_836 : decode code 836 = .ok (.iload_n 3, 1) := by decide +kernel
theorem dL_law_837 : decode code 837 = .ok (.iconst 3, 1) := by decide +kernel
theorem dL_law_838 : decode code 838 = .ok (.iadd, 1) := by decide +kernel
theorem dL_law_839 : decode code 839 = .ok (.iaload, 1) := by decide +kernel
theorem dL_law_840 : decode code 840 = .ok (.invokevirtual 114, 3) := by decide +kernel
theorem dL_law_843 : decode code 843 = .ok (.aload_n 2, 1) := by decide +kernel
theorem dL_law_844 : decode code 844 = .ok (.aload_n 0, 1) := by decide +kernel
theorem dL_law_845 : decode code 845 = .ok (.iload_n 3, 1) := by decide +kernel
theorem dL_law_846 : decode code 846 = .ok (.iconst 1, 1) := by decide +kernel
theorem dL_law_847 : decode code 847 = .ok (.iadd, 1) := by decide +kernel
theorem dL_law_848 : decode code 848 = .ok (.iaload, 1) := by decide +kernel
theorem dL_law_849 : decode code 849 = .ok (.aload_n 0, 1) := by decide +kernel
theorem dL_law_850 : decode code 850 = .ok (.iload_n 3, 1) := by decide +kernel
theorem dL_law_851 : decode code 851 = .ok (.iconst 2, 1) := by decide +kernel
theorem dL_law_852 : decode code 852 = .ok (.iadd, 1) := by decide +kernel
theorem dL_law_853 : decode code 853 = .ok (.iaload, 1) := by decide +kernel
theorem dL_law_854 : decode code 854 = .ok (.aload_n 0, 1) := by decide +kernel
theorem dL_law_855 : decode code 855 = .ok (.iload_n 3, 1) := by decide +kernel
theorem dL_law_856 : decode code 856 = .ok (.iconst 3, 1) := by decide +kernel
theorem dL_law_857 : decode code 857 = .ok (.iadd, 1) := by decide +kernel
theorem dL_law_858 : decode code 858 = .ok (.iaload, 1) := by decide +kernel
theorem dL_law_859 : decode code 859 = .ok (.invokevirtual 117, 3) := by decide +kernel
theorem dL_law_862 : decode code 862 = .ok (.if_icmp .eq 224, 3) := by decide +kernel
theorem dL_law_865 : decode code 865 = .ok (.iconst 0, 1) := by decide +kernel
theorem dL_law_866 : decode code 866 = .ok (.ireturn, 1) := by decide +kernel
theorem dL_law_867 : decode code 867 = .ok (.aload_n 1, 1) := by decide +kernel
theorem dL_law_868 : decode code 868 = .ok (.aload_n 0, 1) := by decide +kernel
theorem dL_law_869 : decode code 869 = .ok (.iload_n 3, 1) := by decide +kernel
theorem dL_law_870 : decode code 870 = .ok (.iconst 1, 1) := by decide +kernel
theorem dL_law_871 : decode code 871 = .ok (.iadd, 1) := by decide +kernel
theorem dL_law_872 : decode code 872 = .ok (.iaload, 1) := by decide +kernel
theorem dL_law_873 : decode code 873 = .ok (.invokevirtual 118, 3) := by decide +kernel
theorem dL_law_876 : decode code 876 = .ok (.aload_n 2, 1) := by decide +kernel
theorem dL_law_877 : decode code 877 = .ok (.aload_n 0, 1) := by decide +kernel
theorem dL_law_878 : decode code 878 = .ok (.iload_n 3, 1) := by decide +kernel
theorem dL_law_879 : decode code 879 = .ok (.iconst 1, 1) := by decide +kernel
theorem dL_law_880 : decode code 880 = .ok (.iadd, 1) := by decide +kernel
theorem dL_law_881 : decode code 881 = .ok (.iaload, 1) := by decide +kernel
theorem dL_law_882 : decode code 882 = .ok (.invokevirtual 121, 3) := by decide +kernel
theorem dL_law_885 : decode code 885 = .ok (.if_icmp .eq 201, 3) := by decide +kernel
theorem dL_law_888 : decode code 888 = .ok (.iconst 0, 1) := by decide +kernel
theorem dL_law_889 : decode code 889 = .ok (.ireturn, 1) := by decide +kernel
theorem dL_law_890 : decode code 890 = .ok (.aload_n 1, 1) := by decide +kernel
theorem dL_law_891 : decode code 891 = .ok (.aload_n 0, 1) := by decide +kernel
theorem dL_law_892 : decode code 892 = .ok (.iload_n 3, 1) := by decide +kernel
theorem dL_law_893 : decode code 893 = .ok (.iconst 1, 1) := by decide +kernel
theorem dL_law_894 : decode code 894 = .ok (.iadd, 1) := by decide +kernel
theorem dL_law_895 : decode code 895 = .ok (.iaload, 1) := by decide +kernel
theorem dL_law_896 : decode code 896 = .ok (.aload_n 0, 1) := by decide +kernel
theorem dL_law_897 : decode code 897 = .ok (.iload_n 3, 1) := by decide +kernel
theorem dL_law_898 : decode code 898 = .ok (.iconst 2, 1) := by decide +kernel
theorem dL_law_899 : decode code 899 = .ok (.iadd, 1) := by decide +kernel
theorem dL_law_900 : decode code 900 = .ok (.iaload, 1) := by decide +kernel
theorem dL_law_901 : decode code 901 = .ok (.aload_n 0, 1) := by decide +kernel
theorem dL_law_902 : decode code 902 = .ok (.iload_n 3, 1) := by decide +kernel
theorem dL_law_903 : decode code 903 = .ok (.iconst 3, 1) := by decide +kernel
theorem dL_law_904 : decode code 904 = .ok (.iadd, 1) := by decide +kernel
theorem dL_law_905 : decode code 905 = .ok (.iaload, 1) := by decide +kernel
theorem dL_law_906 : decode code 906 = .ok (.aload_n 0, 1) := by decide +kernel
theorem dL_law_907 : decode code 907 = .ok (.iload_n 3, 1) := by decide +kernel
theorem dL_law_908 : decode code 908 = .ok (.iconst 4, 1) := by decide +kernel
theorem dL_law_909 : decode code 909 = .ok (.iadd, 1) := by decide +kernel
theorem dL_law_910 : decode code 910 = .ok (.iaload, 1) := by decide +kernel
theorem dL_law_911 : decode code 911 = .ok (.invokevirtual 122, 3) := by decide +kernel
theorem dL_law_914 : decode code 914 = .ok (.aload_n 2, 1) := by decide +kernel
theorem dL_law_915 : decode code 915 = .ok (.aload_n 0, 1) := by decide +kernel
theorem dL_law_916 : decode code 916 = .ok (.iload_n 3, 1) := by decide +kernel
theorem dL_law_917 : decode code 917 = .ok (.iconst 1, 1) := by decide +kernel
theorem dL_law_918 : decode code 918 = .ok (.iadd, 1) := by decide +kernel
theorem dL_law_919 : decode code 919 = .ok (.iaload, 1) := by decide +kernel
theorem dL_law_920 : decode code 920 = .ok (.aload_n 0, 1) := by decide +kernel
theorem dL_law_921 : decode code 921 = .ok (.iload_n 3, 1) := by decide +kernel
theorem dL_law_922 : decode code 922 = .ok (.iconst 2, 1) := by decide +kernel
theorem dL_law_923 : decode code 923 = .ok (.iadd, 1) := by decide +kernel
theorem dL_law_924 : decode code 924 = .ok (.iaload, 1) := by decide +kernel
theorem dL_law_925 : decode code 925 = .ok (.aload_n 0, 1) := by decide +kernel
theorem dL_law_926 : decode code 926 = .ok (.iload_n 3, 1) := by decide +kernel
theorem dL_law_927 : decode code 927 = .ok (.iconst 3, 1) := by decide +kernel
theorem dL_law_928 : decode code 928 = .ok (.iadd, 1) := by decide +kernel
theorem dL_law_929 : decode code 929 = .ok (.iaload, 1) := by decide +kernel
theorem dL_law_930 : decode code 930 = .ok (.aload_n 0, 1) := by decide +kernel
theorem dL_law_931 : decode code 931 = .ok (.iload_n 3, 1) := by decide +kernel
theorem dL_law_932 : decode code 932 = .ok (.iconst 4, 1) := by decide +kernel
theorem dL_law_933 : decode code 933 = .ok (.iadd, 1) := by decide +kernel
theorem dL_law_934 : decode code 934 = .ok (.iaload, 1) := by decide +kernel
theorem dL_law_935 : decode code 935 = .ok (.invokevirtual 125, 3) := by decide +kernel
theorem dL_law_938 : decode code 938 = .ok (.if_icmp .eq 148, 3) := by decide +kernel
theorem dL_law_941 : decode code 941 = .ok (.iconst 0, 1) := by decide +kernel
theorem dL_law_942 : decode code 942 = .ok (.ireturn, 1) := by decide +kernel
theorem dL_law_943 : decode code 943 = .ok (.aload_n 1, 1) := by decide +kernel
theorem dL_law_944 : decode code 944 = .ok (.aload_n 0, 1) := by decide +kernel
theorem dL_law_945 : decode code 945 = .ok (.iload_n 3, 1) := by decide +kernel
theorem dL_law_946 : decode code 946 = .ok (.iconst 1, 1) := by decide +kernel
theorem dL_law_947 : decode code 947 = .ok (.iadd, 1) := by decide +kernel
theorem dL_law_948 : decode code 948 = .ok (.iaload, 1) := by decide +kernel
theorem dL_law_949 : decode code 949 = .ok (.aload_n 0, 1) := by decide +kernel
theorem dL_law_950 : decode code 950 = .ok (.iload_n 3, 1) := by decide +kernel
theorem dL_law_951 : decode code 951 = .ok (.iconst 2, 1) := by decide +kernel
theorem dL_law_952 : decode code 952 = .ok (.iadd, 1) := by decide +kernel
theorem dL_law_953 : decode code 953 = .ok (.iaload, 1) := by decide +kernel
theorem dL_law_954 : decode code 954 = .ok (.aload_n 0, 1) := by decide +kernel
theorem dL_law_955 : decode code 955 = .ok (.iload_n 3, 1) := by decide +kernel
theorem dL_law_956 : decode code 956 = .ok (.iconst 3, 1) := by decide +kernel
theorem dL_law_957 : decode code 957 = .ok (.iadd, 1) := by decide +kernel
theorem dL_law_958 : decode code 958 = .ok (.iaload, 1) := by decide +kernel
theorem dL_law_959 : decode code 959 = .ok (.invokevirtual 126, 3) := by decide +kernel
theorem dL_law_962 : decode code 962 = .ok (.aload_n 2, 1) := by decide +kernel
theorem dL_law_963 : decode code 963 = .ok (.aload_n 0, 1) := by decide +kernel
theorem dL_law_964 : decode code 964 = .ok (.iload_n 3, 1) := by decide +kernel
theorem dL_law_965 : decode code 965 = .ok (.iconst 1, 1) := by decide +kernel
theorem dL_law_966 : decode code 966 = .ok (.iadd, 1) := by decide +kernel
theorem dL_law_967 : decode code 967 = .ok (.iaload, 1) := by decide +kernel
theorem dL_law_968 : decode code 968 = .ok (.aload_n 0, 1) := by decide +kernel
theorem dL_law_969 : decode code 969 = .ok (.iload_n 3, 1) := by decide +kernel
theorem dL_law_970 : decode code 970 = .ok (.iconst 2, 1) := by decide +kernel
theorem dL_law_971 : decode code 971 = .ok (.iadd, 1) := by decide +kernel
theorem dL_law_972 : decode code 972 = .ok (.iaload, 1) := by decide +kernel
theorem dL_law_973 : decode code 973 = .ok (.aload_n 0, 1) := by decide +kernel
theorem dL_law_974 : decode code 974 = .ok (.iload_n 3, 1) := by decide +kernel
theorem dL_law_975 : decode code 975 = .ok (.iconst 3, 1) := by decide +kernel
theorem dL_law_976 : decode code 976 = .ok (.iadd, 1) := by decide +kernel
theorem dL_law_977 : decode code 977 = .ok (.iaload, 1) := by decide +kernel
theorem dL_law_978 : decode code 978 = .ok (.invokevirtual 129, 3) := by decide +kernel
theorem dL_law_981 : decode code 981 = .ok (.if_icmp .eq 105, 3) := by decide +kernel
theorem dL_law_984 : decode code 984 = .ok (.iconst 0, 1) := by decide +kernel
theorem dL_law_985 : decode code 985 = .ok (.ireturn, 1) := by decide +kernel
theorem dL_law_986 : decode code 986 = .ok (.aload_n 1, 1) := by decide +kernel
theorem dL_law_987 : decode code 987 = .ok (.aload_n 0, 1) := by decide +kernel
theorem dL_law_988 : decode code 988 = .ok (.iload_n 3, 1) := by decide +kernel
theorem dL_law_989 : decode code 989 = .ok (.iconst 1, 1) := by decide +kernel
theorem dL_law_990 : decode code 990 = .ok (.iadd, 1) := by decide +kernel
theorem dL_law_991 : decode code 991 = .ok (.iaload, 1) := by decide +kernel
theorem dL_law_992 : decode code 992 = .ok (.aload_n 0, 1) := by decide +kernel
theorem dL_law_993 : decode code 993 = .ok (.iload_n 3, 1) := by decide +kernel
theorem dL_law_994 : decode code 994 = .ok (.iconst 2, 1) := by decide +kernel
theorem dL_law_995 : decode code 995 = .ok (.iadd, 1) := by decide +kernel
theorem dL_law_996 : decode code 996 = .ok (.iaload, 1) := by decide +kernel
theorem dL_law_997 : decode code 997 = .ok (.aload_n 0, 1) := by decide +kernel
theorem dL_law_998 : decode code 998 = .ok (.iload_n 3, 1) := by decide +kernel
theorem dL_law_999 : decode code 999 = .ok (.iconst 3, 1) := by decide +kernel
theorem dL_law_1000 : decode code 1000 = .ok (.iadd, 1) := by decide +kernel
theorem dL_law_1001 : decode code 1001 = .ok (.iaload, 1) := by decide +kernel
theorem dL_law_1002 : decode code 1002 = .ok (.aload_n 0, 1) := by decide +kernel
theorem dL_law_1003 : decode code 1003 = .ok (.iload_n 3, 1) := by decide +kernel
theorem dL_law_1004 : decode code 1004 = .ok (.iconst 4, 1) := by decide +kernel
theorem dL_law_1005 : decode code 1005 = .ok (.iadd, 1) := by decide +kernel
theorem dL_law_1006 : decode code 1006 = .ok (.iaload, 1) := by decide +kernel
theorem dL_law_1007 : decode code 1007 = .ok (.aload_n 0, 1) := by decide +kernel
theorem dL_law_1008 : decode code 1008 = .ok (.iload_n 3, 1) := by decide +kernel
theorem dL_law_1009 : decode code 1009 = .ok (.iconst 5, 1) := by decide +kernel
theorem dL_law_1010 : decode code 1010 = .ok (.iadd, 1) := by decide +kernel
theorem dL_law_1011 : decode code 1011 = .ok (.iaload, 1) := by decide +kernel
theorem dL_law_1012 : decode code 1012 = .ok (.invokevirtual 130, 3) := by decide +kernel
theorem dL_law_1015 : decode code 1015 = .ok (.aload_n 2, 1) := by decide +kernel
theorem dL_law_1016 : decode code 1016 = .ok (.aload_n 0, 1) := by decide +kernel
theorem dL_law_1017 : decode code 1017 = .ok (.iload_n 3, 1) := by decide +kernel
theorem dL_law_1018 : decode code 1018 = .ok (.iconst 1, 1) := by decide +kernel
theorem dL_law_1019 : decode code 1019 = .ok (.iadd, 1) := by decide +kernel
theorem dL_law_1020 : decode code 1020 = .ok (.iaload, 1) := by decide +kernel
theorem dL_law_1021 : decode code 1021 = .ok (.aload_n 0, 1) := by decide +kernel
theorem dL_law_1022 : decode code 1022 = .ok (.iload_n 3, 1) := by decide +kernel
theorem dL_law_1023 : decode code 1023 = .ok (.iconst 2, 1) := by decide +kernel
theorem dL_law_1024 : decode code 1024 = .ok (.iadd, 1) := by decide +kernel
theorem dL_law_1025 : decode code 1025 = .ok (.iaload, 1) := by decide +kernel
theorem dL_law_1026 : decode code 1026 = .ok (.aload_n 0, 1) := by decide +kernel
theorem dL_law_1027 : decode code 1027 = .ok (.iload_n 3, 1) := by decide +kernel
theorem dL_law_1028 : decode code 1028 = .ok (.iconst 3, 1) := by decide +kernel
theorem dL_law_1029 : decode code 1029 = .ok (.iadd, 1) := by decide +kernel
theorem dL_law_1030 : decode code 1030 = .ok (.iaload, 1) := by decide +kernel
theorem dL_law_1031 : decode code 1031 = .ok (.aload_n 0, 1) := by decide +kernel
theorem dL_law_1032 : decode code 1032 = .ok (.iload_n 3, 1) := by decide +kernel
theorem dL_law_1033 : decode code 1033 = .ok (.iconst 4, 1) := by decide +kernel
theorem dL_law_1034 : decode code 1034 = .ok (.iadd, 1) := by decide +kernel
theorem dL_law_1035 : decode code 1035 = .ok (.iaload, 1) := by decide +kernel
theorem dL_law_1036 : decode code 1036 = .ok (.aload_n 0, 1) := by decide +kernel
theorem dL_law_1037 : decode code 1037 = .ok (.iload_n 3, 1) := by decide +kernel
theorem dL_law_1038 : decode code 1038 = .ok (.iconst 5, 1) := by decide +kernel
theorem dL_law_1039 : decode code 1039 = .ok (.iadd, 1) := by decide +kernel
theorem dL_law_1040 : decode code 1040 = .ok (.iaload, 1) := by decide +kernel
theorem dL_law_1041 : decode code 1041 = .ok (.invokevirtual 134, 3) := by decide +kernel
theorem dL_law_1044 : decode code 1044 = .ok (.if_icmp .eq 42, 3) := by decide +kernel
theorem dL_law_1047 : decode code 1047 = .ok (.iconst 0, 1) := by decide +kernel
theorem dL_law_1048 : decode code 1048 = .ok (.ireturn, 1) := by decide +kernel
theorem dL_law_1049 : decode code 1049 = .ok (.aload_n 1, 1) := by decide +kernel
theorem dL_law_1050 : decode code 1050 = .ok (.aload_n 0, 1) := by decide +kernel
theorem dL_law_1051 : decode code 1051 = .ok (.iload_n 3, 1) := by decide +kernel
theorem dL_law_1052 : decode code 1052 = .ok (.iconst 1, 1) := by decide +kernel
theorem dL_law_1053 : decode code 1053 = .ok (.iadd, 1) := by decide +kernel
theorem dL_law_1054 : decode code 1054 = .ok (.iaload, 1) := by decide +kernel
theorem dL_law_1055 : decode code 1055 = .ok (.invokevirtual 135, 3) := by decide +kernel
theorem dL_law_1058 : decode code 1058 = .ok (.aload_n 2, 1) := by decide +kernel
theorem dL_law_1059 : decode code 1059 = .ok (.aload_n 0, 1) := by decide +kernel
theorem dL_law_1060 : decode code 1060 = .ok (.iload_n 3, 1) := by decide +kernel
theorem dL_law_1061 : decode code 1061 = .ok (.iconst 1, 1) := by decide +kernel
theorem dL_law_1062 : decode code 1062 = .ok (.iadd, 1) := by decide +kernel
theorem dL_law_1063 : decode code 1063 = .ok (.iaload, 1) := by decide +kernel
theorem dL_law_1064 : decode code 1064 = .ok (.invokevirtual 138, 3) := by decide +kernel
theorem dL_law_1067 : decode code 1067 = .ok (.if_icmp .eq 19, 3) := by decide +kernel
theorem dL_law_1070 : decode code 1070 = .ok (.iconst 0, 1) := by decide +kernel
theorem dL_law_1071 : decode code 1071 = .ok (.ireturn, 1) := by decide +kernel
theorem dL_law_1072 : decode code 1072 = .ok (.aload_n 1, 1) := by decide +kernel
theorem dL_law_1073 : decode code 1073 = .ok (.invokevirtual 139, 3) := by decide +kernel
theorem dL_law_1076 : decode code 1076 = .ok (.aload_n 2, 1) := by decide +kernel
theorem dL_law_1077 : decode code 1077 = .ok (.invokevirtual 143, 3) := by decide +kernel
theorem dL_law_1080 : decode code 1080 = .ok (.lcmp, 1) := by decide +kernel
theorem dL_law_1081 : decode code 1081 = .ok (.ifCond .eq 5, 3) := by decide +kernel
theorem dL_law_1084 : decode code 1084 = .ok (.iconst 0, 1) := by decide +kernel
theorem dL_law_1085 : decode code 1085 = .ok (.ireturn, 1) := by decide +kernel
theorem dL_law_1086 : decode code 1086 = .ok (.iinc 3 6, 3) := by decide +kernel
theorem dL_law_1089 : decode code 1089 = .ok (.goto (-1071), 3) := by decide +kernel
theorem dL_law_1092 : decode code 1092 = .ok (.iconst 1, 1) := by decide +kernel
theorem dL_law_1093 : decode code 1093 = .ok (.ireturn, 1) := by decide +kernel
theorem lk_13 : Cond.methodLink RL 13 yX9_player ∈ sv_GT := sv_mem 299 (by decide +kernel) (by decide +kernel)
theorem lk_17 : Cond.methodLink RL 17 yX10_player ∈ sv_GT := sv_mem 817 (by decide +kernel) (by decide +kernel)
theorem lk_18 : Cond.methodLink RL 18 yX9_jurors ∈ sv_GT := sv_mem 314 (by decide +kernel) (by decide +kernel)
theorem lk_21 : Cond.methodLink RL 21 yX10_jurors ∈ sv_GT := sv_mem 824 (by decide +kernel) (by decide +kernel)
theorem lk_22 : Cond.methodLink RL 22 yX9_draw ∈ sv_GT := sv_mem 318 (by decide +kernel) (by decide +kernel)
theorem lk_25 : Cond.methodLink RL 25 yX10_draw ∈ sv_GT := sv_mem 828 (by decide +kernel) (by decide +kernel)
theorem lk_26 : Cond.methodLink RL 26 yX9_order ∈ sv_GT := sv_mem 327 (by decide +kernel) (by decide +kernel)
theorem lk_29 : Cond.methodLink RL 29 yX10_order ∈ sv_GT := sv_mem 833 (by decide +kernel) (by decide +kernel)
theorem lk_30 : Cond.methodLink RL 30 yX9_votes ∈ sv_GT := sv_mem 335 (by decide +kernel) (by decide +kernel)
theorem lk_34 : Cond.methodLink RL 34 yX10_votes ∈ sv_GT := sv_mem 837 (by decide +kernel) (by decide +kernel)
theorem lk_35 : Cond.methodLink RL 35 yX9_type ∈ sv_GT := sv_mem 358 (by decide +kernel) (by decide +kernel)
theorem lk_38 : Cond.methodLink RL 38 yX10_type ∈ sv_GT := sv_mem 857 (by decide +kernel) (by decide +kernel)
theorem lk_39 : Cond.methodLink RL 39 yX9_repeal ∈ sv_GT := sv_mem 394 (by decide +kernel) (by decide +kernel)
theorem lk_43 : Cond.methodLink RL 43 yX10_repeal ∈ sv_GT := sv_mem 861 (by decide +kernel) (by decide +kernel)
theorem lk_44 : Cond.methodLink RL 44 yX9_fault ∈ sv_GT := sv_mem 402 (by decide +kernel) (by decide +kernel)
theorem lk_47 : Cond.methodLink RL 47 yX10_fault ∈ sv_GT := sv_mem 865 (by decide +kernel) (by decide +kernel)
theorem lk_48 : Cond.methodLink RL 48 yX9_law ∈ sv_GT := sv_mem 406 (by decide +kernel) (by decide +kernel)
theorem lk_52 : Cond.methodLink RL 52 yX10_law ∈ sv_GT := sv_mem 885 (by decide +kernel) (by decide +kernel)
theorem lk_53 : Cond.methodLink RL 53 yX9_advance ∈ sv_GT := sv_mem 414 (by decide +kernel) (by decide +kernel)
theorem lk_56 : Cond.methodLink RL 56 yX10_advance ∈ sv_GT := sv_mem 893 (by decide +kernel) (by decide +kernel)
theorem lk_57 : Cond.methodLink RL 57 yX9_through ∈ sv_GT := sv_mem 476 (by decide +kernel) (by decide +kernel)
theorem lk_60 : Cond.methodLink RL 60 yX10_through ∈ sv_GT := sv_mem 928 (by decide +kernel) (by decide +kernel)
theorem lk_61 : Cond.methodLink RL 61 yX9_chosen ∈ sv_GT := sv_mem 480 (by decide +kernel) (by decide +kernel)
theorem lk_64 : Cond.methodLink RL 64 yX10_chosen ∈ sv_GT := sv_mem 932 (by decide +kernel) (by decide +kernel)
theorem lk_65 : Cond.methodLink RL 65 yX9_other ∈ sv_GT := sv_mem 484 (by decide +kernel) (by decide +kernel)
theorem lk_68 : Cond.methodLink RL 68 yX10_other ∈ sv_GT := sv_mem 940 (by decide +kernel) (by decide +kernel)
theorem lk_69 : Cond.methodLink RL 69 yX9_chance ∈ sv_GT := sv_mem 518 (by decide +kernel) (by decide +kernel)
theorem lk_72 : Cond.methodLink RL 72 yX10_chance ∈ sv_GT := sv_mem 956 (by decide +kernel) (by decide +kernel)
theorem lk_73 : Cond.methodLink RL 73 yX9_passes ∈ sv_GT := sv_mem 526 (by decide +kernel) (by decide +kernel)
theorem lk_76 : Cond.methodLink RL 76 yX10_passes ∈ sv_GT := sv_mem 960 (by decide +kernel) (by decide +kernel)
theorem lk_77 : Cond.methodLink RL 77 yX9_all ∈ sv_GT := sv_mem 540 (by decide +kernel) (by decide +kernel)
theorem lk_80 : Cond.methodLink RL 80 yX10_all ∈ sv_GT := sv_mem 975 (by decide +kernel) (by decide +kernel)
theorem lk_81 : Cond.methodLink RL 81 yX9_doubt ∈ sv_GT := sv_mem 545 (by decide +kernel) (by decide +kernel)
theorem lk_85 : Cond.methodLink RL 85 yX10_doubt ∈ sv_GT := sv_mem 980 (by decide +kernel) (by decide +kernel)
theorem lk_86 : Cond.methodLink RL 86 yX9_morning ∈ sv_GT := sv_mem 562 (by decide +kernel) (by decide +kernel)
theorem lk_89 : Cond.methodLink RL 89 yX10_morning ∈ sv_GT := sv_mem 988 (by decide +kernel) (by decide +kernel)
theorem lk_90 : Cond.methodLink RL 90 yX9_trial ∈ sv_GT := sv_mem 577 (by decide +kernel) (by decide +kernel)
theorem lk_93 : Cond.methodLink RL 93 yX10_trial ∈ sv_GT := sv_mem 992 (by decide +kernel) (by decide +kernel)
theorem lk_94 : Cond.methodLink RL 94 yX9_week ∈ sv_GT := sv_mem 589 (by decide +kernel) (by decide +kernel)
theorem lk_97 : Cond.methodLink RL 97 yX10_week ∈ sv_GT := sv_mem 996 (by decide +kernel) (by decide +kernel)
theorem lk_98 : Cond.methodLink RL 98 yX9_better ∈ sv_GT := sv_mem 601 (by decide +kernel) (by decide +kernel)
theorem lk_101 : Cond.methodLink RL 101 yX10_better ∈ sv_GT := sv_mem 1000 (by decide +kernel) (by decide +kernel)
theorem lk_102 : Cond.methodLink RL 102 yX9_seat ∈ sv_GT := sv_mem 610 (by decide +kernel) (by decide +kernel)
theorem lk_105 : Cond.methodLink RL 105 yX10_seat ∈ sv_GT := sv_mem 1008 (by decide +kernel) (by decide +kernel)
theorem lk_106 : Cond.methodLink RL 106 yX9_hear ∈ sv_GT := sv_mem 623 (by decide +kernel) (by decide +kernel)
theorem lk_109 : Cond.methodLink RL 109 yX10_hear ∈ sv_GT := sv_mem 1012 (by decide +kernel) (by decide +kernel)
theorem lk_110 : Cond.methodLink RL 110 yX9_known ∈ sv_GT := sv_mem 635 (by decide +kernel) (by decide +kernel)
theorem lk_113 : Cond.methodLink RL 113 yX10_known ∈ sv_GT := sv_mem 1017 (by decide +kernel) (by decide +kernel)
theorem lk_114 : Cond.methodLink RL 114 yX9_sheet ∈ sv_GT := sv_mem 650 (by decide +kernel) (by decide +kernel)
theorem lk_117 : Cond.methodLink RL 117 yX10_sheet ∈ sv_GT := sv_mem 1021 (by decide +kernel) (by decide +kernel)
theorem lk_118 : Cond.methodLink RL 118 yX9_lose ∈ sv_GT := sv_mem 668 (by decide +kernel) (by decide +kernel)
theorem lk_121 : Cond.methodLink RL 121 yX10_lose ∈ sv_GT := sv_mem 1032 (by decide +kernel) (by decide +kernel)
theorem lk_122 : Cond.methodLink RL 122 yX9_put ∈ sv_GT := sv_mem 680 (by decide +kernel) (by decide +kernel)
theorem lk_125 : Cond.methodLink RL 125 yX10_put ∈ sv_GT := sv_mem 1036 (by decide +kernel) (by decide +kernel)
theorem lk_126 : Cond.methodLink RL 126 yX9_get ∈ sv_GT := sv_mem 692 (by decide +kernel) (by decide +kernel)
theorem lk_129 : Cond.methodLink RL 129 yX10_get ∈ sv_GT := sv_mem 1044 (by decide +kernel) (by decide +kernel)
theorem lk_130 : Cond.methodLink RL 130 yX9_copy ∈ sv_GT := sv_mem 697 (by decide +kernel) (by decide +kernel)
theorem lk_134 : Cond.methodLink RL 134 yX10_copy ∈ sv_GT := sv_mem 1049 (by decide +kernel) (by decide +kernel)
theorem lk_135 : Cond.methodLink RL 135 yX9_count ∈ sv_GT := sv_mem 712 (by decide +kernel) (by decide +kernel)
theorem lk_138 : Cond.methodLink RL 138 yX10_count ∈ sv_GT := sv_mem 1053 (by decide +kernel) (by decide +kernel)
theorem lk_139 : Cond.methodLink RL 139 yX9_digest ∈ sv_GT := sv_mem 716 (by decide +kernel) (by decide +kernel)
theorem lk_143 : Cond.methodLink RL 143 yX10_digest ∈ sv_GT := sv_mem 1057 (by decide +kernel) (by decide +kernel)
theorem lk_9 : Cond.methodLink RL 9 yX9_init ∈ sv_GT := sv_mem 67 (by decide +kernel) (by decide +kernel)
theorem lk_12 : Cond.methodLink RL 12 yX10_init ∈ sv_GT := sv_mem 727 (by decide +kernel) (by decide +kernel)
theorem lc_7 : Cond.classLink RL 7 RX9 ∈ sv_GT := sv_mem 65 (by decide +kernel) (by decide +kernel)
theorem lc_10 : Cond.classLink RL 10 RX10 ∈ sv_GT := sv_mem 725 (by decide +kernel) (by decide +kernel)
