/-! the law's instructions (written by genlaw.py) -/
theorem dL_0 : decode code 0 = .ok (.new 7, 3) := by decide +kernel
theorem dL_3 : decode code 3 = .ok (.dup, 1) := by decide +kernel
theorem dL_4 : decode code 4 = .ok (.invokespecial 9, 3) := by decide +kernel
theorem dL_7 : decode code 7 = .ok (.astore_n 1, 1) := by decide +kernel
theorem dL_8 : decode code 8 = .ok (.new 10, 3) := by decide +kernel
theorem dL_11 : decode code 11 = .ok (.dup, 1) := by decide +kernel
theorem dL_12 : decode code 12 = .ok (.invokespecial 12, 3) := by decide +kernel
theorem dL_15 : decode code 15 = .ok (.astore_n 2, 1) := by decide +kernel
theorem dL_16 : decode code 16 = .ok (.iconst 0, 1) := by decide +kernel
theorem dL_17 : decode code 17 = .ok (.istore_n 3, 1) := by decide +kernel
theorem dL_18 : decode code 18 = .ok (.iload_n 3, 1) := by decide +kernel
theorem dL_19 : decode code 19 = .ok (.aload_n 0, 1) := by decide +kernel
theorem dL_20 : decode code 20 = .ok (.arraylength, 1) := by decide +kernel
theorem dL_21 : decode code 21 = .ok (.iconst 4, 1) := by decide +kernel
theorem dL_22 : decode code 22 = .ok (.isub, 1) := by decide +kernel
theorem dL_23 : decode code 23 = .ok (.if_icmp .gt 891, 3) := by decide +kernel
theorem dL_26 : decode code 26 = .ok (.aload_n 0, 1) := by decide +kernel
theorem dL_27 : decode code 27 = .ok (.iload_n 3, 1) := by decide +kernel
theorem dL_28 : decode code 28 = .ok (.iaload, 1) := by decide +kernel
theorem dL_29 : decode code 29 = .ok (.bipush 31, 2) := by decide +kernel
theorem dL_31 : decode code 31 = .ok (.iand, 1) := by decide +kernel
theorem dL_32 : decode code 32 = .ok (.tableswitch 876 0 29 #[136, 169, 212, 255, 288, 321, 354, 367, 390, 423, 456, 469, 492, 515, 538, 571, 604, 627, 640, 653, 676, 689, 712, 725, 738, 771, 804, 817, 840, 853], 136) := by decide +kernel
theorem dL_168 : decode code 168 = .ok (.aload_n 1, 1) := by decide +kernel
theorem dL_169 : decode code 169 = .ok (.aload_n 0, 1) := by decide +kernel
theorem dL_170 : decode code 170 = .ok (.iload_n 3, 1) := by decide +kernel
theorem dL_171 : decode code 171 = .ok (.iconst 1, 1) := by decide +kernel
theorem dL_172 : decode code 172 = .ok (.iadd, 1) := by decide +kernel
theorem dL_173 : decode code 173 = .ok (.iaload, 1) := by decide +kernel
theorem dL_174 : decode code 174 = .ok (.aload_n 0, 1) := by decide +kernel
theorem dL_175 : decode code 175 = .ok (.iload_n 3, 1) := by decide +kernel
theorem dL_176 : decode code 176 = .ok (.iconst 2, 1) := by decide +kernel
theorem dL_177 : decode code 177 = .ok (.iadd, 1) := by decide +kernel
theorem dL_178 : decode code 178 = .ok (.iaload, 1) := by decide +kernel
theorem dL_179 : decode code 179 = .ok (.invokevirtual 13, 3) := by decide +kernel
theorem dL_182 : decode code 182 = .ok (.pop, 1) := by decide +kernel
theorem dL_183 : decode code 183 = .ok (.aload_n 2, 1) := by decide +kernel
theorem dL_184 : decode code 184 = .ok (.aload_n 0, 1) := by decide +kernel
theorem dL_185 : decode code 185 = .ok (.iload_n 3, 1) := by decide +kernel
theorem dL_186 : decode code 186 = .ok (.iconst 1, 1) := by decide +kernel
theorem dL_187 : decode code 187 = .ok (.iadd, 1) := by decide +kernel
theorem dL_188 : decode code 188 = .ok (.iaload, 1) := by decide +kernel
theorem dL_189 : decode code 189 = .ok (.aload_n 0, 1) := by decide +kernel
theorem dL_190 : decode code 190 = .ok (.iload_n 3, 1) := by decide +kernel
theorem dL_191 : decode code 191 = .ok (.iconst 2, 1) := by decide +kernel
theorem dL_192 : decode code 192 = .ok (.iadd, 1) := by decide +kernel
theorem dL_193 : decode code 193 = .ok (.iaload, 1) := by decide +kernel
theorem dL_194 : decode code 194 = .ok (.invokevirtual 17, 3) := by decide +kernel
theorem dL_197 : decode code 197 = .ok (.pop, 1) := by decide +kernel
theorem dL_198 : decode code 198 = .ok (.goto 710, 3) := by decide +kernel
theorem dL_201 : decode code 201 = .ok (.aload_n 1, 1) := by decide +kernel
theorem dL_202 : decode code 202 = .ok (.aload_n 0, 1) := by decide +kernel
theorem dL_203 : decode code 203 = .ok (.iload_n 3, 1) := by decide +kernel
theorem dL_204 : decode code 204 = .ok (.iconst 1, 1) := by decide +kernel
theorem dL_205 : decode code 205 = .ok (.iadd, 1) := by decide +kernel
theorem dL_206 : decode code 206 = .ok (.iaload, 1) := by decide +kernel
theorem dL_207 : decode code 207 = .ok (.aload_n 0, 1) := by decide +kernel
theorem dL_208 : decode code 208 = .ok (.iload_n 3, 1) := by decide +kernel
theorem dL_209 : decode code 209 = .ok (.iconst 2, 1) := by decide +kernel
theorem dL_210 : decode code 210 = .ok (.iadd, 1) := by decide +kernel
theorem dL_211 : decode code 211 = .ok (.iaload, 1) := by decide +kernel
theorem dL_212 : decode code 212 = .ok (.aload_n 0, 1) := by decide +kernel
theorem dL_213 : decode code 213 = .ok (.iload_n 3, 1) := by decide +kernel
theorem dL_214 : decode code 214 = .ok (.iconst 3, 1) := by decide +kernel
theorem dL_215 : decode code 215 = .ok (.iadd, 1) := by decide +kernel
theorem dL_216 : decode code 216 = .ok (.iaload, 1) := by decide +kernel
theorem dL_217 : decode code 217 = .ok (.invokevirtual 18, 3) := by decide +kernel
theorem dL_220 : decode code 220 = .ok (.pop, 1) := by decide +kernel
theorem dL_221 : decode code 221 = .ok (.aload_n 2, 1) := by decide +kernel
theorem dL_222 : decode code 222 = .ok (.aload_n 0, 1) := by decide +kernel
theorem dL_223 : decode code 223 = .ok (.iload_n 3, 1) := by decide +kernel
theorem dL_224 : decode code 224 = .ok (.iconst 1, 1) := by decide +kernel
theorem dL_225 : decode code 225 = .ok (.iadd, 1) := by decide +kernel
theorem dL_226 : decode code 226 = .ok (.iaload, 1) := by decide +kernel
theorem dL_227 : decode code 227 = .ok (.aload_n 0, 1) := by decide +kernel
theorem dL_228 : decode code 228 = .ok (.iload_n 3, 1) := by decide +kernel
theorem dL_229 : decode code 229 = .ok (.iconst 2, 1) := by decide +kernel
theorem dL_230 : decode code 230 = .ok (.iadd, 1) := by decide +kernel
theorem dL_231 : decode code 231 = .ok (.iaload, 1) := by decide +kernel
theorem dL_232 : decode code 232 = .ok (.aload_n 0, 1) := by decide +kernel
theorem dL_233 : decode code 233 = .ok (.iload_n 3, 1) := by decide +kernel
theorem dL_234 : decode code 234 = .ok (.iconst 3, 1) := by decide +kernel
theorem dL_235 : decode code 235 = .ok (.iadd, 1) := by decide +kernel
theorem dL_236 : decode code 236 = .ok (.iaload, 1) := by decide +kernel
theorem dL_237 : decode code 237 = .ok (.invokevirtual 22, 3) := by decide +kernel
theorem dL_240 : decode code 240 = .ok (.pop, 1) := by decide +kernel
theorem dL_241 : decode code 241 = .ok (.goto 667, 3) := by decide +kernel
theorem dL_244 : decode code 244 = .ok (.aload_n 1, 1) := by decide +kernel
theorem dL_245 : decode code 245 = .ok (.aload_n 0, 1) := by decide +kernel
theorem dL_246 : decode code 246 = .ok (.iload_n 3, 1) := by decide +kernel
theorem dL_247 : decode code 247 = .ok (.iconst 1, 1) := by decide +kernel
theorem dL_248 : decode code 248 = .ok (.iadd, 1) := by decide +kernel
theorem dL_249 : decode code 249 = .ok (.iaload, 1) := by decide +kernel
theorem dL_250 : decode code 250 = .ok (.aload_n 0, 1) := by decide +kernel
theorem dL_251 : decode code 251 = .ok (.iload_n 3, 1) := by decide +kernel
theorem dL_252 : decode code 252 = .ok (.iconst 2, 1) := by decide +kernel
theorem dL_253 : decode code 253 = .ok (.iadd, 1) := by decide +kernel
theorem dL_254 : decode code 254 = .ok (.iaload, 1) := by decide +kernel
theorem dL_255 : decode code 255 = .ok (.aload_n 0, 1) := by decide +kernel
theorem dL_256 : decode code 256 = .ok (.iload_n 3, 1) := by decide +kernel
theorem dL_257 : decode code 257 = .ok (.iconst 3, 1) := by decide +kernel
theorem dL_258 : decode code 258 = .ok (.iadd, 1) := by decide +kernel
theorem dL_259 : decode code 259 = .ok (.iaload, 1) := by decide +kernel
theorem dL_260 : decode code 260 = .ok (.invokevirtual 23, 3) := by decide +kernel
theorem dL_263 : decode code 263 = .ok (.pop, 1) := by decide +kernel
theorem dL_264 : decode code 264 = .ok (.aload_n 2, 1) := by decide +kernel
theorem dL_265 : decode code 265 = .ok (.aload_n 0, 1) := by decide +kernel
theorem dL_266 : decode code 266 = .ok (.iload_n 3, 1) := by decide +kernel
theorem dL_267 : decode code 267 = .ok (.iconst 1, 1) := by decide +kernel
theorem dL_268 : decode code 268 = .ok (.iadd, 1) := by decide +kernel
theorem dL_269 : decode code 269 = .ok (.iaload, 1) := by decide +kernel
theorem dL_270 : decode code 270 = .ok (.aload_n 0, 1) := by decide +kernel
theorem dL_271 : decode code 271 = .ok (.iload_n 3, 1) := by decide +kernel
theorem dL_272 : decode code 272 = .ok (.iconst 2, 1) := by decide +kernel
theorem dL_273 : decode code 273 = .ok (.iadd, 1) := by decide +kernel
theorem dL_274 : decode code 274 = .ok (.iaload, 1) := by decide +kernel
theorem dL_275 : decode code 275 = .ok (.aload_n 0, 1) := by decide +kernel
theorem dL_276 : decode code 276 = .ok (.iload_n 3, 1) := by decide +kernel
theorem dL_277 : decode code 277 = .ok (.iconst 3, 1) := by decide +kernel
theorem dL_278 : decode code 278 = .ok (.iadd, 1) := by decide +kernel
theorem dL_279 : decode code 279 = .ok (.iaload, 1) := by decide +kernel
theorem dL_280 : decode code 280 = .ok (.invokevirtual 26, 3) := by decide +kernel
theorem dL_283 : decode code 283 = .ok (.pop, 1) := by decide +kernel
theorem dL_284 : decode code 284 = .ok (.goto 624, 3) := by decide +kernel
theorem dL_287 : decode code 287 = .ok (.aload_n 1, 1) := by decide +kernel
theorem dL_288 : decode code 288 = .ok (.aload_n 0, 1) := by decide +kernel
theorem dL_289 : decode code 289 = .ok (.iload_n 3, 1) := by decide +kernel
theorem dL_290 : decode code 290 = .ok (.iconst 1, 1) := by decide +kernel
theorem dL_291 : decode code 291 = .ok (.iadd, 1) := by decide +kernel
theorem dL_292 : decode code 292 = .ok (.iaload, 1) := by decide +kernel
theorem dL_293 : decode code 293 = .ok (.aload_n 0, 1) := by decide +kernel
theorem dL_294 : decode code 294 = .ok (.iload_n 3, 1) := by decide +kernel
theorem dL_295 : decode code 295 = .ok (.iconst 2, 1) := by decide +kernel
theorem dL_296 : decode code 296 = .ok (.iadd, 1) := by decide +kernel
theorem dL_297 : decode code 297 = .ok (.iaload, 1) := by decide +kernel
theorem dL_298 : decode code 298 = .ok (.invokevirtual 27, 3) := by decide +kernel
theorem dL_301 : decode code 301 = .ok (.pop, 1) := by decide +kernel
theorem dL_302 : decode code 302 = .ok (.aload_n 2, 1) := by decide +kernel
theorem dL_303 : decode code 303 = .ok (.aload_n 0, 1) := by decide +kernel
theorem dL_304 : decode code 304 = .ok (.iload_n 3, 1) := by decide +kernel
theorem dL_305 : decode code 305 = .ok (.iconst 1, 1) := by decide +kernel
theorem dL_306 : decode code 306 = .ok (.iadd, 1) := by decide +kernel
theorem dL_307 : decode code 307 = .ok (.iaload, 1) := by decide +kernel
theorem dL_308 : decode code 308 = .ok (.aload_n 0, 1) := by decide +kernel
theorem dL_309 : decode code 309 = .ok (.iload_n 3, 1) := by decide +kernel
theorem dL_310 : decode code 310 = .ok (.iconst 2, 1) := by decide +kernel
theorem dL_311 : decode code 311 = .ok (.iadd, 1) := by decide +kernel
theorem dL_312 : decode code 312 = .ok (.iaload, 1) := by decide +kernel
theorem dL_313 : decode code 313 = .ok (.invokevirtual 30, 3) := by decide +kernel
theorem dL_316 : decode code 316 = .ok (.pop, 1) := by decide +kernel
theorem dL_317 : decode code 317 = .ok (.goto 591, 3) := by decide +kernel
theorem dL_320 : decode code 320 = .ok (.aload_n 1, 1) := by decide +kernel
theorem dL_321 : decode code 321 = .ok (.aload_n 0, 1) := by decide +kernel
theorem dL_322 : decode code 322 = .ok (.iload_n 3, 1) := by decide +kernel
theorem dL_323 : decode code 323 = .ok (.iconst 1, 1) := by decide +kernel
theorem dL_324 : decode code 324 = .ok (.iadd, 1) := by decide +kernel
theorem dL_325 : decode code 325 = .ok (.iaload, 1) := by decide +kernel
theorem dL_326 : decode code 326 = .ok (.aload_n 0, 1) := by decide +kernel
theorem dL_327 : decode code 327 = .ok (.iload_n 3, 1) := by decide +kernel
theorem dL_328 : decode code 328 = .ok (.iconst 2, 1) := by decide +kernel
theorem dL_329 : decode code 329 = .ok (.iadd, 1) := by decide +kernel
theorem dL_330 : decode code 330 = .ok (.iaload, 1) := by decide +kernel
theorem dL_331 : decode code 331 = .ok (.invokevirtual 31, 3) := by decide +kernel
theorem dL_334 : decode code 334 = .ok (.pop, 1) := by decide +kernel
theorem dL_335 : decode code 335 = .ok (.aload_n 2, 1) := by decide +kernel
theorem dL_336 : decode code 336 = .ok (.aload_n 0, 1) := by decide +kernel
theorem dL_337 : decode code 337 = .ok (.iload_n 3, 1) := by decide +kernel
theorem dL_338 : decode code 338 = .ok (.iconst 1, 1) := by decide +kernel
theorem dL_339 : decode code 339 = .ok (.iadd, 1) := by decide +kernel
theorem dL_340 : decode code 340 = .ok (.iaload, 1) := by decide +kernel
theorem dL_341 : decode code 341 = .ok (.aload_n 0, 1) := by decide +kernel
theorem dL_342 : decode code 342 = .ok (.iload_n 3, 1) := by decide +kernel
theorem dL_343 : decode code 343 = .ok (.iconst 2, 1) := by decide +kernel
theorem dL_344 : decode code 344 = .ok (.iadd, 1) := by decide +kernel
theorem dL_345 : decode code 345 = .ok (.iaload, 1) := by decide +kernel
theorem dL_346 : decode code 346 = .ok (.invokevirtual 34, 3) := by decide +kernel
theorem dL_349 : decode code 349 = .ok (.pop, 1) := by decide +kernel
theorem dL_350 : decode code 350 = .ok (.goto 558, 3) := by decide +kernel
theorem dL_353 : decode code 353 = .ok (.aload_n 1, 1) := by decide +kernel
theorem dL_354 : decode code 354 = .ok (.aload_n 0, 1) := by decide +kernel
theorem dL_355 : decode code 355 = .ok (.iload_n 3, 1) := by decide +kernel
theorem dL_356 : decode code 356 = .ok (.iconst 1, 1) := by decide +kernel
theorem dL_357 : decode code 357 = .ok (.iadd, 1) := by decide +kernel
theorem dL_358 : decode code 358 = .ok (.iaload, 1) := by decide +kernel
theorem dL_359 : decode code 359 = .ok (.aload_n 0, 1) := by decide +kernel
theorem dL_360 : decode code 360 = .ok (.iload_n 3, 1) := by decide +kernel
theorem dL_361 : decode code 361 = .ok (.iconst 2, 1) := by decide +kernel
theorem dL_362 : decode code 362 = .ok (.iadd, 1) := by decide +kernel
theorem dL_363 : decode code 363 = .ok (.iaload, 1) := by decide +kernel
theorem dL_364 : decode code 364 = .ok (.invokevirtual 35, 3) := by decide +kernel
theorem dL_367 : decode code 367 = .ok (.pop, 1) := by decide +kernel
theorem dL_368 : decode code 368 = .ok (.aload_n 2, 1) := by decide +kernel
theorem dL_369 : decode code 369 = .ok (.aload_n 0, 1) := by decide +kernel
theorem dL_370 : decode code 370 = .ok (.iload_n 3, 1) := by decide +kernel
theorem dL_371 : decode code 371 = .ok (.iconst 1, 1) := by decide +kernel
theorem dL_372 : decode code 372 = .ok (.iadd, 1) := by decide +kernel
theorem dL_373 : decode code 373 = .ok (.iaload, 1) := by decide +kernel
theorem dL_374 : decode code 374 = .ok (.aload_n 0, 1) := by decide +kernel
theorem dL_375 : decode code 375 = .ok (.iload_n 3, 1) := by decide +kernel
theorem dL_376 : decode code 376 = .ok (.iconst 2, 1) := by decide +kernel
theorem dL_377 : decode code 377 = .ok (.iadd, 1) := by decide +kernel
theorem dL_378 : decode code 378 = .ok (.iaload, 1) := by decide +kernel
theorem dL_379 : decode code 379 = .ok (.invokevirtual 38, 3) := by decide +kernel
theorem dL_382 : decode code 382 = .ok (.pop, 1) := by decide +kernel
theorem dL_383 : decode code 383 = .ok (.goto 525, 3) := by decide +kernel
theorem dL_386 : decode code 386 = .ok (.aload_n 1, 1) := by decide +kernel
theorem dL_387 : decode code 387 = .ok (.invokevirtual 39, 3) := by decide +kernel
theorem dL_390 : decode code 390 = .ok (.pop, 1) := by decide +kernel
theorem dL_391 : decode code 391 = .ok (.aload_n 2, 1) := by decide +kernel
theorem dL_392 : decode code 392 = .ok (.invokevirtual 43, 3) := by decide +kernel
theorem dL_395 : decode code 395 = .ok (.pop, 1) := by decide +kernel
theorem dL_396 : decode code 396 = .ok (.goto 512, 3) := by decide +kernel
theorem dL_399 : decode code 399 = .ok (.aload_n 1, 1) := by decide +kernel
theorem dL_400 : decode code 400 = .ok (.aload_n 0, 1) := by decide +kernel
theorem dL_401 : decode code 401 = .ok (.iload_n 3, 1) := by decide +kernel
theorem dL_402 : decode code 402 = .ok (.iconst 1, 1) := by decide +kernel
theorem dL_403 : decode code 403 = .ok (.iadd, 1) := by decide +kernel
theorem dL_404 : decode code 404 = .ok (.iaload, 1) := by decide +kernel
theorem dL_405 : decode code 405 = .ok (.invokevirtual 44, 3) := by decide +kernel
theorem dL_408 : decode code 408 = .ok (.pop, 1) := by decide +kernel
theorem dL_409 : decode code 409 = .ok (.aload_n 2, 1) := by decide +kernel
theorem dL_410 : decode code 410 = .ok (.aload_n 0, 1) := by decide +kernel
theorem dL_411 : decode code 411 = .ok (.iload_n 3, 1) := by decide +kernel
theorem dL_412 : decode code 412 = .ok (.iconst 1, 1) := by decide +kernel
theorem dL_413 : decode code 413 = .ok (.iadd, 1) := by decide +kernel
theorem dL_414 : decode code 414 = .ok (.iaload, 1) := by decide +kernel
theorem dL_415 : decode code 415 = .ok (.invokevirtual 48, 3) := by decide +kernel
theorem dL_418 : decode code 418 = .ok (.pop, 1) := by decide +kernel
theorem dL_419 : decode code 419 = .ok (.goto 489, 3) := by decide +kernel
theorem dL_422 : decode code 422 = .ok (.aload_n 1, 1) := by decide +kernel
theorem dL_423 : decode code 423 = .ok (.aload_n 0, 1) := by decide +kernel
theorem dL_424 : decode code 424 = .ok (.iload_n 3, 1) := by decide +kernel
theorem dL_425 : decode code 425 = .ok (.iconst 1, 1) := by decide +kernel
theorem dL_426 : decode code 426 = .ok (.iadd, 1) := by decide +kernel
theorem dL_427 : decode code 427 = .ok (.iaload, 1) := by decide +kernel
theorem dL_428 : decode code 428 = .ok (.aload_n 0, 1) := by decide +kernel
theorem dL_429 : decode code 429 = .ok (.iload_n 3, 1) := by decide +kernel
theorem dL_430 : decode code 430 = .ok (.iconst 2, 1) := by decide +kernel
theorem dL_431 : decode code 431 = .ok (.iadd, 1) := by decide +kernel
theorem dL_432 : decode code 432 = .ok (.iaload, 1) := by decide +kernel
theorem dL_433 : decode code 433 = .ok (.invokevirtual 49, 3) := by decide +kernel
theorem dL_436 : decode code 436 = .ok (.pop, 1) := by decide +kernel
theorem dL_437 : decode code 437 = .ok (.aload_n 2, 1) := by decide +kernel
theorem dL_438 : decode code 438 = .ok (.aload_n 0, 1) := by decide +kernel
theorem dL_439 : decode code 439 = .ok (.iload_n 3, 1) := by decide +kernel
theorem dL_440 : decode code 440 = .ok (.iconst 1, 1) := by decide +kernel
theorem dL_441 : decode code 441 = .ok (.iadd, 1) := by decide +kernel
theorem dL_442 : decode code 442 = .ok (.iaload, 1) := by decide +kernel
theorem dL_443 : decode code 443 = .ok (.aload_n 0, 1) := by decide +kernel
theorem dL_444 : decode code 444 = .ok (.iload_n 3, 1) := by decide +kernel
theorem dL_445 : decode code 445 = .ok (.iconst 2, 1) := by decide +kernel
theorem dL_446 : decode code 446 = .ok (.iadd, 1) := by decide +kernel
theorem dL_447 : decode code 447 = .ok (.iaload, 1) := by decide +kernel
theorem dL_448 : decode code 448 = .ok (.invokevirtual 52, 3) := by decide +kernel
theorem dL_451 : decode code 451 = .ok (.pop, 1) := by decide +kernel
theorem dL_452 : decode code 452 = .ok (.goto 456, 3) := by decide +kernel
theorem dL_455 : decode code 455 = .ok (.aload_n 1, 1) := by decide +kernel
theorem dL_456 : decode code 456 = .ok (.aload_n 0, 1) := by decide +kernel
theorem dL_457 : decode code 457 = .ok (.iload_n 3, 1) := by decide +kernel
theorem dL_458 : decode code 458 = .ok (.iconst 1, 1) := by decide +kernel
theorem dL_459 : decode code 459 = .ok (.iadd, 1) := by decide +kernel
theorem dL_460 : decode code 460 = .ok (.iaload, 1) := by decide +kernel
theorem dL_461 : decode code 461 = .ok (.aload_n 0, 1) := by decide +kernel
theorem dL_462 : decode code 462 = .ok (.iload_n 3, 1) := by decide +kernel
theorem dL_463 : decode code 463 = .ok (.iconst 2, 1) := by decide +kernel
theorem dL_464 : decode code 464 = .ok (.iadd, 1) := by decide +kernel
theorem dL_465 : decode code 465 = .ok (.iaload, 1) := by decide +kernel
theorem dL_466 : decode code 466 = .ok (.invokevirtual 53, 3) := by decide +kernel
theorem dL_469 : decode code 469 = .ok (.pop, 1) := by decide +kernel
theorem dL_470 : decode code 470 = .ok (.aload_n 2, 1) := by decide +kernel
theorem dL_471 : decode code 471 = .ok (.aload_n 0, 1) := by decide +kernel
theorem dL_472 : decode code 472 = .ok (.iload_n 3, 1) := by decide +kernel
theorem dL_473 : decode code 473 = .ok (.iconst 1, 1) := by decide +kernel
theorem dL_474 : decode code 474 = .ok (.iadd, 1) := by decide +kernel
theorem dL_475 : decode code 475 = .ok (.iaload, 1) := by decide +kernel
theorem dL_476 : decode code 476 = .ok (.aload_n 0, 1) := by decide +kernel
theorem dL_477 : decode code 477 = .ok (.iload_n 3, 1) := by decide +kernel
theorem dL_478 : decode code 478 = .ok (.iconst 2, 1) := by decide +kernel
theorem dL_479 : decode code 479 = .ok (.iadd, 1) := by decide +kernel
theorem dL_480 : decode code 480 = .ok (.iaload, 1) := by decide +kernel
theorem dL_481 : decode code 481 = .ok (.invokevirtual 56, 3) := by decide +kernel
theorem dL_484 : decode code 484 = .ok (.pop, 1) := by decide +kernel
theorem dL_485 : decode code 485 = .ok (.goto 423, 3) := by decide +kernel
theorem dL_488 : decode code 488 = .ok (.aload_n 1, 1) := by decide +kernel
theorem dL_489 : decode code 489 = .ok (.invokevirtual 57, 3) := by decide +kernel
theorem dL_492 : decode code 492 = .ok (.pop, 1) := by decide +kernel
theorem dL_493 : decode code 493 = .ok (.aload_n 2, 1) := by decide +kernel
theorem dL_494 : decode code 494 = .ok (.invokevirtual 60, 3) := by decide +kernel
theorem dL_497 : decode code 497 = .ok (.pop, 1) := by decide +kernel
theorem dL_498 : decode code 498 = .ok (.goto 410, 3) := by decide +kernel
theorem dL_501 : decode code 501 = .ok (.aload_n 1, 1) := by decide +kernel
theorem dL_502 : decode code 502 = .ok (.aload_n 0, 1) := by decide +kernel
theorem dL_503 : decode code 503 = .ok (.iload_n 3, 1) := by decide +kernel
theorem dL_504 : decode code 504 = .ok (.iconst 1, 1) := by decide +kernel
theorem dL_505 : decode code 505 = .ok (.iadd, 1) := by decide +kernel
theorem dL_506 : decode code 506 = .ok (.iaload, 1) := by decide +kernel
theorem dL_507 : decode code 507 = .ok (.invokevirtual 61, 3) := by decide +kernel
theorem dL_510 : decode code 510 = .ok (.aload_n 2, 1) := by decide +kernel
theorem dL_511 : decode code 511 = .ok (.aload_n 0, 1) := by decide +kernel
theorem dL_512 : decode code 512 = .ok (.iload_n 3, 1) := by decide +kernel
theorem dL_513 : decode code 513 = .ok (.iconst 1, 1) := by decide +kernel
theorem dL_514 : decode code 514 = .ok (.iadd, 1) := by decide +kernel
theorem dL_515 : decode code 515 = .ok (.iaload, 1) := by decide +kernel
theorem dL_516 : decode code 516 = .ok (.invokevirtual 64, 3) := by decide +kernel
theorem dL_519 : decode code 519 = .ok (.if_icmp .eq 389, 3) := by decide +kernel
theorem dL_522 : decode code 522 = .ok (.iconst 0, 1) := by decide +kernel
theorem dL_523 : decode code 523 = .ok (.ireturn, 1) := by decide +kernel
theorem dL_524 : decode code 524 = .ok (.aload_n 1, 1) := by decide +kernel
theorem dL_525 : decode code 525 = .ok (.aload_n 0, 1) := by decide +kernel
theorem dL_526 : decode code 526 = .ok (.iload_n 3, 1) := by decide +kernel
theorem dL_527 : decode code 527 = .ok (.iconst 1, 1) := by decide +kernel
theorem dL_528 : decode code 528 = .ok (.iadd, 1) := by decide +kernel
theorem dL_529 : decode code 529 = .ok (.iaload, 1) := by decide +kernel
theorem dL_530 : decode code 530 = .ok (.invokevirtual 65, 3) := by decide +kernel
theorem dL_533 : decode code 533 = .ok (.pop, 1) := by decide +kernel
theorem dL_534 : decode code 534 = .ok (.aload_n 2, 1) := by decide +kernel
theorem dL_535 : decode code 535 = .ok (.aload_n 0, 1) := by decide +kernel
theorem dL_536 : decode code 536 = .ok (.iload_n 3, 1) := by decide +kernel
theorem dL_537 : decode code 537 = .ok (.iconst 1, 1) := by decide +kernel
theorem dL_538 : decode code 538 = .ok (.iadd, 1) := by decide +kernel
theorem dL_539 : decode code 539 = .ok (.iaload, 1) := by decide +kernel
theorem dL_540 : decode code 540 = .ok (.invokevirtual 68, 3) := by decide +kernel
theorem dL_543 : decode code 543 = .ok (.pop, 1) := by decide +kernel
theorem dL_544 : decode code 544 = .ok (.goto 364, 3) := by decide +kernel
theorem dL_547 : decode code 547 = .ok (.aload_n 1, 1) := by decide +kernel
theorem dL_548 : decode code 548 = .ok (.aload_n 0, 1) := by decide +kernel
theorem dL_549 : decode code 549 = .ok (.iload_n 3, 1) := by decide +kernel
theorem dL_550 : decode code 550 = .ok (.iconst 1, 1) := by decide +kernel
theorem dL_551 : decode code 551 = .ok (.iadd, 1) := by decide +kernel
theorem dL_552 : decode code 552 = .ok (.iaload, 1) := by decide +kernel
theorem dL_553 : decode code 553 = .ok (.invokevirtual 69, 3) := by decide +kernel
theorem dL_556 : decode code 556 = .ok (.pop, 1) := by decide +kernel
theorem dL_557 : decode code 557 = .ok (.aload_n 2, 1) := by decide +kernel
theorem dL_558 : decode code 558 = .ok (.aload_n 0, 1) := by decide +kernel
theorem dL_559 : decode code 559 = .ok (.iload_n 3, 1) := by decide +kernel
theorem dL_560 : decode code 560 = .ok (.iconst 1, 1) := by decide +kernel
theorem dL_561 : decode code 561 = .ok (.iadd, 1) := by decide +kernel
theorem dL_562 : decode code 562 = .ok (.iaload, 1) := by decide +kernel
theorem dL_563 : decode code 563 = .ok (.invokevirtual 72, 3) := by decide +kernel
theorem dL_566 : decode code 566 = .ok (.pop, 1) := by decide +kernel
theorem dL_567 : decode code 567 = .ok (.goto 341, 3) := by decide +kernel
theorem dL_570 : decode code 570 = .ok (.aload_n 1, 1) := by decide +kernel
theorem dL_571 : decode code 571 = .ok (.aload_n 0, 1) := by decide +kernel
theorem dL_572 : decode code 572 = .ok (.iload_n 3, 1) := by decide +kernel
theorem dL_573 : decode code 573 = .ok (.iconst 1, 1) := by decide +kernel
theorem dL_574 : decode code 574 = .ok (.iadd, 1) := by decide +kernel
theorem dL_575 : decode code 575 = .ok (.iaload, 1) := by decide +kernel
theorem dL_576 : decode code 576 = .ok (.aload_n 0, 1) := by decide +kernel
theorem dL_577 : decode code 577 = .ok (.iload_n 3, 1) := by decide +kernel
theorem dL_578 : decode code 578 = .ok (.iconst 2, 1) := by decide +kernel
theorem dL_579 : decode code 579 = .ok (.iadd, 1) := by decide +kernel
theorem dL_580 : decode code 580 = .ok (.iaload, 1) := by decide +kernel
theorem dL_581 : decode code 581 = .ok (.invokevirtual 73, 3) := by decide +kernel
theorem dL_584 : decode code 584 = .ok (.pop, 1) := by decide +kernel
theorem dL_585 : decode code 585 = .ok (.aload_n 2, 1) := by decide +kernel
theorem dL_586 : decode code 586 = .ok (.aload_n 0, 1) := by decide +kernel
theorem dL_587 : decode code 587 = .ok (.iload_n 3, 1) := by decide +kernel
theorem dL_588 : decode code 588 = .ok (.iconst 1, 1) := by decide +kernel
theorem dL_589 : decode code 589 = .ok (.iadd, 1) := by decide +kernel
theorem dL_590 : decode code 590 = .ok (.iaload, 1) := by decide +kernel
theorem dL_591 : decode code 591 = .ok (.aload_n 0, 1) := by decide +kernel
theorem dL_592 : decode code 592 = .ok (.iload_n 3, 1) := by decide +kernel
theorem dL_593 : decode code 593 = .ok (.iconst 2, 1) := by decide +kernel
theorem dL_594 : decode code 594 = .ok (.iadd, 1) := by decide +kernel
theorem dL_595 : decode code 595 = .ok (.iaload, 1) := by decide +kernel
theorem dL_596 : decode code 596 = .ok (.invokevirtual 76, 3) := by decide +kernel
theorem dL_599 : decode code 599 = .ok (.pop, 1) := by decide +kernel
theorem dL_600 : decode code 600 = .ok (.goto 308, 3) := by decide +kernel
theorem dL_603 : decode code 603 = .ok (.aload_n 1, 1) := by decide +kernel
theorem dL_604 : decode code 604 = .ok (.aload_n 0, 1) := by decide +kernel
theorem dL_605 : decode code 605 = .ok (.iload_n 3, 1) := by decide +kernel
theorem dL_606 : decode code 606 = .ok (.iconst 1, 1) := by decide +kernel
theorem dL_607 : decode code 607 = .ok (.iadd, 1) := by decide +kernel
theorem dL_608 : decode code 608 = .ok (.iaload, 1) := by decide +kernel
theorem dL_609 : decode code 609 = .ok (.aload_n 0, 1) := by decide +kernel
theorem dL_610 : decode code 610 = .ok (.iload_n 3, 1) := by decide +kernel
theorem dL_611 : decode code 611 = .ok (.iconst 2, 1) := by decide +kernel
theorem dL_612 : decode code 612 = .ok (.iadd, 1) := by decide +kernel
theorem dL_613 : decode code 613 = .ok (.iaload, 1) := by decide +kernel
theorem dL_614 : decode code 614 = .ok (.invokevirtual 77, 3) := by decide +kernel
theorem dL_617 : decode code 617 = .ok (.pop, 1) := by decide +kernel
theorem dL_618 : decode code 618 = .ok (.aload_n 2, 1) := by decide +kernel
theorem dL_619 : decode code 619 = .ok (.aload_n 0, 1) := by decide +kernel
theorem dL_620 : decode code 620 = .ok (.iload_n 3, 1) := by decide +kernel
theorem dL_621 : decode code 621 = .ok (.iconst 1, 1) := by decide +kernel
theorem dL_622 : decode code 622 = .ok (.iadd, 1) := by decide +kernel
theorem dL_623 : decode code 623 = .ok (.iaload, 1) := by decide +kernel
theorem dL_624 : decode code 624 = .ok (.aload_n 0, 1) := by decide +kernel
theorem dL_625 : decode code 625 = .ok (.iload_n 3, 1) := by decide +kernel
theorem dL_626 : decode code 626 = .ok (.iconst 2, 1) := by decide +kernel
theorem dL_627 : decode code 627 = .ok (.iadd, 1) := by decide +kernel
theorem dL_628 : decode code 628 = .ok (.iaload, 1) := by decide +kernel
theorem dL_629 : decode code 629 = .ok (.invokevirtual 80, 3) := by decide +kernel
theorem dL_632 : decode code 632 = .ok (.pop, 1) := by decide +kernel
theorem dL_633 : decode code 633 = .ok (.goto 275, 3) := by decide +kernel
theorem dL_636 : decode code 636 = .ok (.aload_n 1, 1) := by decide +kernel
theorem dL_637 : decode code 637 = .ok (.aload_n 0, 1) := by decide +kernel
theorem dL_638 : decode code 638 = .ok (.iload_n 3, 1) := by decide +kernel
theorem dL_639 : decode code 639 = .ok (.iconst 1, 1) := by decide +kernel
theorem dL_640 : decode code 640 = .ok (.iadd, 1) := by decide +kernel
theorem dL_641 : decode code 641 = .ok (.iaload, 1) := by decide +kernel
theorem dL_642 : decode code 642 = .ok (.invokevirtual 81, 3) := by decide +kernel
theorem dL_645 : decode code 645 = .ok (.pop, 1) := by decide +kernel
theorem dL_646 : decode code 646 = .ok (.aload_n 2, 1) := by decide +kernel
theorem dL_647 : decode code 647 = .ok (.aload_n 0, 1) := by decide +kernel
theorem dL_648 : decode code 648 = .ok (.iload_n 3, 1) := by decide +kernel
theorem dL_649 : decode code 649 = .ok (.iconst 1, 1) := by decide +kernel
theorem dL_650 : decode code 650 = .ok (.iadd, 1) := by decide +kernel
theorem dL_651 : decode code 651 = .ok (.iaload, 1) := by decide +kernel
theorem dL_652 : decode code 652 = .ok (.invokevirtual 84, 3) := by decide +kernel
theorem dL_655 : decode code 655 = .ok (.pop, 1) := by decide +kernel
theorem dL_656 : decode code 656 = .ok (.goto 252, 3) := by decide +kernel
theorem dL_659 : decode code 659 = .ok (.aload_n 1, 1) := by decide +kernel
theorem dL_660 : decode code 660 = .ok (.invokevirtual 85, 3) := by decide +kernel
theorem dL_663 : decode code 663 = .ok (.pop, 1) := by decide +kernel
theorem dL_664 : decode code 664 = .ok (.aload_n 2, 1) := by decide +kernel
theorem dL_665 : decode code 665 = .ok (.invokevirtual 88, 3) := by decide +kernel
theorem dL_668 : decode code 668 = .ok (.pop, 1) := by decide +kernel
theorem dL_669 : decode code 669 = .ok (.goto 239, 3) := by decide +kernel
theorem dL_672 : decode code 672 = .ok (.aload_n 1, 1) := by decide +kernel
theorem dL_673 : decode code 673 = .ok (.invokevirtual 89, 3) := by decide +kernel
theorem dL_676 : decode code 676 = .ok (.pop, 1) := by decide +kernel
theorem dL_677 : decode code 677 = .ok (.aload_n 2, 1) := by decide +kernel
theorem dL_678 : decode code 678 = .ok (.invokevirtual 92, 3) := by decide +kernel
theorem dL_681 : decode code 681 = .ok (.pop, 1) := by decide +kernel
theorem dL_682 : decode code 682 = .ok (.goto 226, 3) := by decide +kernel
theorem dL_685 : decode code 685 = .ok (.aload_n 1, 1) := by decide +kernel
theorem dL_686 : decode code 686 = .ok (.aload_n 0, 1) := by decide +kernel
theorem dL_687 : decode code 687 = .ok (.iload_n 3, 1) := by decide +kernel
theorem dL_688 : decode code 688 = .ok (.iconst 1, 1) := by decide +kernel
theorem dL_689 : decode code 689 = .ok (.iadd, 1) := by decide +kernel
theorem dL_690 : decode code 690 = .ok (.iaload, 1) := by decide +kernel
theorem dL_691 : decode code 691 = .ok (.invokevirtual 93, 3) := by decide +kernel
theorem dL_694 : decode code 694 = .ok (.pop, 1) := by decide +kernel
theorem dL_695 : decode code 695 = .ok (.aload_n 2, 1) := by decide +kernel
theorem dL_696 : decode code 696 = .ok (.aload_n 0, 1) := by decide +kernel
theorem dL_697 : decode code 697 = .ok (.iload_n 3, 1) := by decide +kernel
theorem dL_698 : decode code 698 = .ok (.iconst 1, 1) := by decide +kernel
theorem dL_699 : decode code 699 = .ok (.iadd, 1) := by decide +kernel
theorem dL_700 : decode code 700 = .ok (.iaload, 1) := by decide +kernel
theorem dL_701 : decode code 701 = .ok (.invokevirtual 96, 3) := by decide +kernel
theorem dL_704 : decode code 704 = .ok (.pop, 1) := by decide +kernel
theorem dL_705 : decode code 705 = .ok (.goto 203, 3) := by decide +kernel
theorem dL_708 : decode code 708 = .ok (.aload_n 1, 1) := by decide +kernel
theorem dL_709 : decode code 709 = .ok (.invokevirtual 97, 3) := by decide +kernel
theorem dL_712 : decode code 712 = .ok (.pop, 1) := by decide +kernel
theorem dL_713 : decode code 713 = .ok (.aload_n 2, 1) := by decide +kernel
theorem dL_714 : decode code 714 = .ok (.invokevirtual 100, 3) := by decide +kernel
theorem dL_717 : decode code 717 = .ok (.pop, 1) := by decide +kernel
theorem dL_718 : decode code 718 = .ok (.goto 190, 3) := by decide +kernel
theorem dL_721 : decode code 721 = .ok (.aload_n 1, 1) := by decide +kernel
theorem dL_722 : decode code 722 = .ok (.aload_n 0, 1) := by decide +kernel
theorem dL_723 : decode code 723 = .ok (.iload_n 3, 1) := by decide +kernel
theorem dL_724 : decode code 724 = .ok (.iconst 1, 1) := by decide +kernel
theorem dL_725 : decode code 725 = .ok (.iadd, 1) := by decide +kernel
theorem dL_726 : decode code 726 = .ok (.iaload, 1) := by decide +kernel
theorem dL_727 : decode code 727 = .ok (.invokevirtual 101, 3) := by decide +kernel
theorem dL_730 : decode code 730 = .ok (.pop, 1) := by decide +kernel
theorem dL_731 : decode code 731 = .ok (.aload_n 2, 1) := by decide +kernel
theorem dL_732 : decode code 732 = .ok (.aload_n 0, 1) := by decide +kernel
theorem dL_733 : decode code 733 = .ok (.iload_n 3, 1) := by decide +kernel
theorem dL_734 : decode code 734 = .ok (.iconst 1, 1) := by decide +kernel
theorem dL_735 : decode code 735 = .ok (.iadd, 1) := by decide +kernel
theorem dL_736 : decode code 736 = .ok (.iaload, 1) := by decide +kernel
theorem dL_737 : decode code 737 = .ok (.invokevirtual 104, 3) := by decide +kernel
theorem dL_740 : decode code 740 = .ok (.pop, 1) := by decide +kernel
theorem dL_741 : decode code 741 = .ok (.goto 167, 3) := by decide +kernel
theorem dL_744 : decode code 744 = .ok (.aload_n 1, 1) := by decide +kernel
theorem dL_745 : decode code 745 = .ok (.invokevirtual 105, 3) := by decide +kernel
theorem dL_748 : decode code 748 = .ok (.pop, 1) := by decide +kernel
theorem dL_749 : decode code 749 = .ok (.aload_n 2, 1) := by decide +kernel
theorem dL_750 : decode code 750 = .ok (.invokevirtual 108, 3) := by decide +kernel
theorem dL_753 : decode code 753 = .ok (.pop, 1) := by decide +kernel
theorem dL_754 : decode code 754 = .ok (.goto 154, 3) := by decide +kernel
theorem dL_757 : decode code 757 = .ok (.aload_n 1, 1) := by decide +kernel
theorem dL_758 : decode code 758 = .ok (.invokevirtual 109, 3) := by decide +kernel
theorem dL_761 : decode code 761 = .ok (.pop, 1) := by decide +kernel
theorem dL_762 : decode code 762 = .ok (.aload_n 2, 1) := by decide +kernel
theorem dL_763 : decode code 763 = .ok (.invokevirtual 112, 3) := by decide +kernel
theorem dL_766 : decode code 766 = .ok (.pop, 1) := by decide +kernel
theorem dL_767 : decode code 767 = .ok (.goto 141, 3) := by decide +kernel
theorem dL_770 : decode code 770 = .ok (.aload_n 1, 1) := by decide +kernel
theorem dL_771 : decode code 771 = .ok (.aload_n 0, 1) := by decide +kernel
theorem dL_772 : decode code 772 = .ok (.iload_n 3, 1) := by decide +kernel
theorem dL_773 : decode code 773 = .ok (.iconst 1, 1) := by decide +kernel
theorem dL_774 : decode code 774 = .ok (.iadd, 1) := by decide +kernel
theorem dL_775 : decode code 775 = .ok (.iaload, 1) := by decide +kernel
theorem dL_776 : decode code 776 = .ok (.aload_n 0, 1) := by decide +kernel
theorem dL_777 : decode code 777 = .ok (.iload_n 3, 1) := by decide +kernel
theorem dL_778 : decode code 778 = .ok (.iconst 2, 1) := by decide +kernel
theorem dL_779 : decode code 779 = .ok (.iadd, 1) := by decide +kernel
theorem dL_780 : decode code 780 = .ok (.iaload, 1) := by decide +kernel
theorem dL_781 : decode code 781 = .ok (.invokevirtual 113, 3) := by decide +kernel
theorem dL_784 : decode code 784 = .ok (.pop, 1) := by decide +kernel
theorem dL_785 : decode code 785 = .ok (.aload_n 2, 1) := by decide +kernel
theorem dL_786 : decode code 786 = .ok (.aload_n 0, 1) := by decide +kernel
theorem dL_787 : decode code 787 = .ok (.iload_n 3, 1) := by decide +kernel
theorem dL_788 : decode code 788 = .ok (.iconst 1, 1) := by decide +kernel
theorem dL_789 : decode code 789 = .ok (.iadd, 1) := by decide +kernel
theorem dL_790 : decode code 790 = .ok (.iaload, 1) := by decide +kernel
theorem dL_791 : decode code 791 = .ok (.aload_n 0, 1) := by decide +kernel
theorem dL_792 : decode code 792 = .ok (.iload_n 3, 1) := by decide +kernel
theorem dL_793 : decode code 793 = .ok (.iconst 2, 1) := by decide +kernel
theorem dL_794 : decode code 794 = .ok (.iadd, 1) := by decide +kernel
theorem dL_795 : decode code 795 = .ok (.iaload, 1) := by decide +kernel
theorem dL_796 : decode code 796 = .ok (.invokevirtual 116, 3) := by decide +kernel
theorem dL_799 : decode code 799 = .ok (.pop, 1) := by decide +kernel
theorem dL_800 : decode code 800 = .ok (.goto 108, 3) := by decide +kernel
theorem dL_803 : decode code 803 = .ok (.aload_n 1, 1) := by decide +kernel
theorem dL_804 : decode code 804 = .ok (.aload_n 0, 1) := by decide +kernel
theorem dL_805 : decode code 805 = .ok (.iload_n 3, 1) := by decide +kernel
theorem dL_806 : decode code 806 = .ok (.iconst 1, 1) := by decide +kernel
theorem dL_807 : decode code 807 = .ok (.iadd, 1) := by decide +kernel
theorem dL_808 : decode code 808 = .ok (.iaload, 1) := by decide +kernel
theorem dL_809 : decode code 809 = .ok (.aload_n 0, 1) := by decide +kernel
theorem dL_810 : decode code 810 = .ok (.iload_n 3, 1) := by decide +kernel
theorem dL_811 : decode code 811 = .ok (.iconst 2, 1) := by decide +kernel
theorem dL_812 : decode code 812 = .ok (.iadd, 1) := by decide +kernel
theorem dL_813 : decode code 813 = .ok (.iaload, 1) := by decide +kernel
theorem dL_814 : decode code 814 = .ok (.invokevirtual 117, 3) := by decide +kernel
theorem dL_817 : decode code 817 = .ok (.pop, 1) := by decide +kernel
theorem dL_818 : decode code 818 = .ok (.aload_n 2, 1) := by decide +kernel
theorem dL_819 : decode code 819 = .ok (.aload_n 0, 1) := by decide +kernel
theorem dL_820 : decode code 820 = .ok (.iload_n 3, 1) := by decide +kernel
theorem dL_821 : decode code 821 = .ok (.iconst 1, 1) := by decide +kernel
theorem dL_822 : decode code 822 = .ok (.iadd, 1) := by decide +kernel
theorem dL_823 : decode code 823 = .ok (.iaload, 1) := by decide +kernel
theorem dL_824 : decode code 824 = .ok (.aload_n 0, 1) := by decide +kernel
theorem dL_825 : decode code 825 = .ok (.iload_n 3, 1) := by decide +kernel
theorem dL_826 : decode code 826 = .ok (.iconst 2, 1) := by decide +kernel
theorem dL_827 : decode code 827 = .ok (.iadd, 1) := by decide +kernel
theorem dL_828 : decode code 828 = .ok (.iaload, 1) := by decide +kernel
theorem dL_829 : decode code 829 = .ok (.invokevirtual 120, 3) := by decide +kernel
theorem dL_832 : decode code 832 = .ok (.pop, 1) := by decide +kernel
theorem dL_833 : decode code 833 = .ok (.goto 75, 3) := by decide +kernel
theorem dL_836 : decode code 836 = .ok (.aload_n 1, 1) := by decide +kernel
theorem dL_837 : decode code 837 = .ok (.invokevirtual 121, 3) := by decide +kernel
theorem dL_840 : decode code 840 = .ok (.pop, 1) := by decide +kernel
theorem dL_841 : decode code 841 = .ok (.aload_n 2, 1) := by decide +kernel
theorem dL_842 : decode code 842 = .ok (.invokevirtual 124, 3) := by decide +kernel
theorem dL_845 : decode code 845 = .ok (.pop, 1) := by decide +kernel
theorem dL_846 : decode code 846 = .ok (.goto 62, 3) := by decide +kernel
theorem dL_849 : decode code 849 = .ok (.aload_n 1, 1) := by decide +kernel
theorem dL_850 : decode code 850 = .ok (.aload_n 0, 1) := by decide +kernel
theorem dL_851 : decode code 851 = .ok (.iload_n 3, 1) := by decide +kernel
theorem dL_852 : decode code 852 = .ok (.iconst 1, 1) := by decide +kernel
theorem dL_853 : decode code 853 = .ok (.iadd, 1) := by decide +kernel
theorem dL_854 : decode code 854 = .ok (.iaload, 1) := by decide +kernel
theorem dL_855 : decode code 855 = .ok (.invokevirtual 125, 3) := by decide +kernel
theorem dL_858 : decode code 858 = .ok (.pop, 1) := by decide +kernel
theorem dL_859 : decode code 859 = .ok (.aload_n 2, 1) := by decide +kernel
theorem dL_860 : decode code 860 = .ok (.aload_n 0, 1) := by decide +kernel
theorem dL_861 : decode code 861 = .ok (.iload_n 3, 1) := by decide +kernel
theorem dL_862 : decode code 862 = .ok (.iconst 1, 1) := by decide +kernel
theorem dL_863 : decode code 863 = .ok (.iadd, 1) := by decide +kernel
theorem dL_864 : decode code 864 = .ok (.iaload, 1) := by decide +kernel
theorem dL_865 : decode code 865 = .ok (.invokevirtual 128, 3) := by decide +kernel
theorem dL_868 : decode code 868 = .ok (.pop, 1) := by decide +kernel
theorem dL_869 : decode code 869 = .ok (.goto 39, 3) := by decide +kernel
theorem dL_872 : decode code 872 = .ok (.aload_n 1, 1) := by decide +kernel
theorem dL_873 : decode code 873 = .ok (.invokevirtual 129, 3) := by decide +kernel
theorem dL_876 : decode code 876 = .ok (.pop, 1) := by decide +kernel
theorem dL_877 : decode code 877 = .ok (.aload_n 2, 1) := by decide +kernel
theorem dL_878 : decode code 878 = .ok (.invokevirtual 132, 3) := by decide +kernel
theorem dL_881 : decode code 881 = .ok (.pop, 1) := by decide +kernel
theorem dL_882 : decode code 882 = .ok (.goto 26, 3) := by decide +kernel
theorem dL_885 : decode code 885 = .ok (.aload_n 1, 1) := by decide +kernel
theorem dL_886 : decode code 886 = .ok (.aload_n 0, 1) := by decide +kernel
theorem dL_887 : decode code 887 = .ok (.iload_n 3, 1) := by decide +kernel
theorem dL_888 : decode code 888 = .ok (.iconst 1, 1) := by decide +kernel
theorem dL_889 : decode code 889 = .ok (.iadd, 1) := by decide +kernel
theorem dL_890 : decode code 890 = .ok (.iaload, 1) := by decide +kernel
theorem dL_891 : decode code 891 = .ok (.invokevirtual 133, 3) := by decide +kernel
theorem dL_894 : decode code 894 = .ok (.pop, 1) := by decide +kernel
theorem dL_895 : decode code 895 = .ok (.aload_n 2, 1) := by decide +kernel
theorem dL_896 : decode code 896 = .ok (.aload_n 0, 1) := by decide +kernel
theorem dL_897 : decode code 897 = .ok (.iload_n 3, 1) := by decide +kernel
theorem dL_898 : decode code 898 = .ok (.iconst 1, 1) := by decide +kernel
theorem dL_899 : decode code 899 = .ok (.iadd, 1) := by decide +kernel
theorem dL_900 : decode code 900 = .ok (.iaload, 1) := by decide +kernel
theorem dL_901 : decode code 901 = .ok (.invokevirtual 136, 3) := by decide +kernel
theorem dL_904 : decode code 904 = .ok (.pop, 1) := by decide +kernel
theorem dL_905 : decode code 905 = .ok (.goto 3, 3) := by decide +kernel
theorem dL_908 : decode code 908 = .ok (.iinc 3 4, 3) := by decide +kernel
theorem dL_911 : decode code 911 = .ok (.goto (-893), 3) := by decide +kernel
theorem dL_914 : decode code 914 = .ok (.iconst 1, 1) := by decide +kernel
theorem dL_915 : decode code 915 = .ok (.ireturn, 1) := by decide +kernel
