theorem dL_law_0 : decode cL_law 0 = .ok (.new 7, 3) := by decide +kernel
theorem dL_law_3 : decode cL_law 3 = .ok (.dup, 1) := by decide +kernel
theorem dL_law_4 : decode cL_law 4 = .ok (.invokespecial 9, 3) := by decide +kernel
theorem dL_law_7 : decode cL_law 7 = .ok (.astore_n 1, 1) := by decide +kernel
theorem dL_law_8 : decode cL_law 8 = .ok (.new 10, 3) := by decide +kernel
theorem dL_law_11 : decode cL_law 11 = .ok (.dup, 1) := by decide +kernel
theorem dL_law_12 : decode cL_law 12 = .ok (.invokespecial 12, 3) := by decide +kernel
theorem dL_law_15 : decode cL_law 15 = .ok (.astore_n 2, 1) := by decide +kernel
theorem dL_law_16 : decode cL_law 16 = .ok (.iconst 0, 1) := by decide +kernel
theorem dL_law_17 : decode cL_law 17 = .ok (.istore_n 3, 1) := by decide +kernel
theorem dL_law_18 : decode cL_law 18 = .ok (.iload_n 3, 1) := by decide +kernel
theorem dL_law_19 : decode cL_law 19 = .ok (.aload_n 0, 1) := by decide +kernel
theorem dL_law_20 : decode cL_law 20 = .ok (.arraylength, 1) := by decide +kernel
theorem dL_law_21 : decode cL_law 21 = .ok (.bipush 6, 2) := by decide +kernel
theorem dL_law_23 : decode cL_law 23 = .ok (.isub, 1) := by decide +kernel
theorem dL_law_24 : decode cL_law 24 = .ok (.if_icmp .gt 1194, 3) := by decide +kernel
theorem dL_law_27 : decode cL_law 27 = .ok (.aload_n 0, 1) := by decide +kernel
theorem dL_law_28 : decode cL_law 28 = .ok (.iload_n 3, 1) := by decide +kernel
theorem dL_law_29 : decode cL_law 29 = .ok (.iaload, 1) := by decide +kernel
theorem dL_law_30 : decode cL_law 30 = .ok (.bipush 63, 2) := by decide +kernel
theorem dL_law_32 : decode cL_law 32 = .ok (.iand, 1) := by decide +kernel
theorem dL_law_33 : decode cL_law 33 = .ok (.tableswitch 1179 0 33 #[151, 204, 237, 270, 329, 372, 435, 468, 491, 534, 567, 590, 613, 626, 649, 662, 695, 718, 741, 774, 807, 830, 853, 886, 899, 942, 965, 1008, 1051, 1074, 1097, 1130, 1143, 1156], 151) := by decide +kernel
theorem dL_law_184 : decode cL_law 184 = .ok (.aload_n 1, 1) := by decide +kernel
theorem dL_law_185 : decode cL_law 185 = .ok (.aload_n 0, 1) := by decide +kernel
theorem dL_law_186 : decode cL_law 186 = .ok (.iload_n 3, 1) := by decide +kernel
theorem dL_law_187 : decode cL_law 187 = .ok (.iconst 1, 1) := by decide +kernel
theorem dL_law_188 : decode cL_law 188 = .ok (.iadd, 1) := by decide +kernel
theorem dL_law_189 : decode cL_law 189 = .ok (.iaload, 1) := by decide +kernel
theorem dL_law_190 : decode cL_law 190 = .ok (.aload_n 0, 1) := by decide +kernel
theorem dL_law_191 : decode cL_law 191 = .ok (.iload_n 3, 1) := by decide +kernel
theorem dL_law_192 : decode cL_law 192 = .ok (.iconst 2, 1) := by decide +kernel
theorem dL_law_193 : decode cL_law 193 = .ok (.iadd, 1) := by decide +kernel
theorem dL_law_194 : decode cL_law 194 = .ok (.iaload, 1) := by decide +kernel
theorem dL_law_195 : decode cL_law 195 = .ok (.aload_n 0, 1) := by decide +kernel
theorem dL_law_196 : decode cL_law 196 = .ok (.iload_n 3, 1) := by decide +kernel
theorem dL_law_197 : decode cL_law 197 = .ok (.iconst 3, 1) := by decide +kernel
theorem dL_law_198 : decode cL_law 198 = .ok (.iadd, 1) := by decide +kernel
theorem dL_law_199 : decode cL_law 199 = .ok (.iaload, 1) := by decide +kernel
theorem dL_law_200 : decode cL_law 200 = .ok (.aload_n 0, 1) := by decide +kernel
theorem dL_law_201 : decode cL_law 201 = .ok (.iload_n 3, 1) := by decide +kernel
theorem dL_law_202 : decode cL_law 202 = .ok (.iconst 4, 1) := by decide +kernel
theorem dL_law_203 : decode cL_law 203 = .ok (.iadd, 1) := by decide +kernel
theorem dL_law_204 : decode cL_law 204 = .ok (.iaload, 1) := by decide +kernel
theorem dL_law_205 : decode cL_law 205 = .ok (.invokevirtual 13, 3) := by decide +kernel
theorem dL_law_208 : decode cL_law 208 = .ok (.pop, 1) := by decide +kernel
theorem dL_law_209 : decode cL_law 209 = .ok (.aload_n 2, 1) := by decide +kernel
theorem dL_law_210 : decode cL_law 210 = .ok (.aload_n 0, 1) := by decide +kernel
theorem dL_law_211 : decode cL_law 211 = .ok (.iload_n 3, 1) := by decide +kernel
theorem dL_law_212 : decode cL_law 212 = .ok (.iconst 1, 1) := by decide +kernel
theorem dL_law_213 : decode cL_law 213 = .ok (.iadd, 1) := by decide +kernel
theorem dL_law_214 : decode cL_law 214 = .ok (.iaload, 1) := by decide +kernel
theorem dL_law_215 : decode cL_law 215 = .ok (.aload_n 0, 1) := by decide +kernel
theorem dL_law_216 : decode cL_law 216 = .ok (.iload_n 3, 1) := by decide +kernel
theorem dL_law_217 : decode cL_law 217 = .ok (.iconst 2, 1) := by decide +kernel
theorem dL_law_218 : decode cL_law 218 = .ok (.iadd, 1) := by decide +kernel
theorem dL_law_219 : decode cL_law 219 = .ok (.iaload, 1) := by decide +kernel
theorem dL_law_220 : decode cL_law 220 = .ok (.aload_n 0, 1) := by decide +kernel
theorem dL_law_221 : decode cL_law 221 = .ok (.iload_n 3, 1) := by decide +kernel
theorem dL_law_222 : decode cL_law 222 = .ok (.iconst 3, 1) := by decide +kernel
theorem dL_law_223 : decode cL_law 223 = .ok (.iadd, 1) := by decide +kernel
theorem dL_law_224 : decode cL_law 224 = .ok (.iaload, 1) := by decide +kernel
theorem dL_law_225 : decode cL_law 225 = .ok (.aload_n 0, 1) := by decide +kernel
theorem dL_law_226 : decode cL_law 226 = .ok (.iload_n 3, 1) := by decide +kernel
theorem dL_law_227 : decode cL_law 227 = .ok (.iconst 4, 1) := by decide +kernel
theorem dL_law_228 : decode cL_law 228 = .ok (.iadd, 1) := by decide +kernel
theorem dL_law_229 : decode cL_law 229 = .ok (.iaload, 1) := by decide +kernel
theorem dL_law_230 : decode cL_law 230 = .ok (.invokevirtual 17, 3) := by decide +kernel
theorem dL_law_233 : decode cL_law 233 = .ok (.pop, 1) := by decide +kernel
theorem dL_law_234 : decode cL_law 234 = .ok (.goto 978, 3) := by decide +kernel
theorem dL_law_237 : decode cL_law 237 = .ok (.aload_n 1, 1) := by decide +kernel
theorem dL_law_238 : decode cL_law 238 = .ok (.aload_n 0, 1) := by decide +kernel
theorem dL_law_239 : decode cL_law 239 = .ok (.iload_n 3, 1) := by decide +kernel
theorem dL_law_240 : decode cL_law 240 = .ok (.iconst 1, 1) := by decide +kernel
theorem dL_law_241 : decode cL_law 241 = .ok (.iadd, 1) := by decide +kernel
theorem dL_law_242 : decode cL_law 242 = .ok (.iaload, 1) := by decide +kernel
theorem dL_law_243 : decode cL_law 243 = .ok (.aload_n 0, 1) := by decide +kernel
theorem dL_law_244 : decode cL_law 244 = .ok (.iload_n 3, 1) := by decide +kernel
theorem dL_law_245 : decode cL_law 245 = .ok (.iconst 2, 1) := by decide +kernel
theorem dL_law_246 : decode cL_law 246 = .ok (.iadd, 1) := by decide +kernel
theorem dL_law_247 : decode cL_law 247 = .ok (.iaload, 1) := by decide +kernel
theorem dL_law_248 : decode cL_law 248 = .ok (.invokevirtual 18, 3) := by decide +kernel
theorem dL_law_251 : decode cL_law 251 = .ok (.pop, 1) := by decide +kernel
theorem dL_law_252 : decode cL_law 252 = .ok (.aload_n 2, 1) := by decide +kernel
theorem dL_law_253 : decode cL_law 253 = .ok (.aload_n 0, 1) := by decide +kernel
theorem dL_law_254 : decode cL_law 254 = .ok (.iload_n 3, 1) := by decide +kernel
theorem dL_law_255 : decode cL_law 255 = .ok (.iconst 1, 1) := by decide +kernel
theorem dL_law_256 : decode cL_law 256 = .ok (.iadd, 1) := by decide +kernel
theorem dL_law_257 : decode cL_law 257 = .ok (.iaload, 1) := by decide +kernel
theorem dL_law_258 : decode cL_law 258 = .ok (.aload_n 0, 1) := by decide +kernel
theorem dL_law_259 : decode cL_law 259 = .ok (.iload_n 3, 1) := by decide +kernel
theorem dL_law_260 : decode cL_law 260 = .ok (.iconst 2, 1) := by decide +kernel
theorem dL_law_261 : decode cL_law 261 = .ok (.iadd, 1) := by decide +kernel
theorem dL_law_262 : decode cL_law 262 = .ok (.iaload, 1) := by decide +kernel
theorem dL_law_263 : decode cL_law 263 = .ok (.invokevirtual 22, 3) := by decide +kernel
theorem dL_law_266 : decode cL_law 266 = .ok (.pop, 1) := by decide +kernel
theorem dL_law_267 : decode cL_law 267 = .ok (.goto 945, 3) := by decide +kernel
theorem dL_law_270 : decode cL_law 270 = .ok (.aload_n 1, 1) := by decide +kernel
theorem dL_law_271 : decode cL_law 271 = .ok (.aload_n 0, 1) := by decide +kernel
theorem dL_law_272 : decode cL_law 272 = .ok (.iload_n 3, 1) := by decide +kernel
theorem dL_law_273 : decode cL_law 273 = .ok (.iconst 1, 1) := by decide +kernel
theorem dL_law_274 : decode cL_law 274 = .ok (.iadd, 1) := by decide +kernel
theorem dL_law_275 : decode cL_law 275 = .ok (.iaload, 1) := by decide +kernel
theorem dL_law_276 : decode cL_law 276 = .ok (.aload_n 0, 1) := by decide +kernel
theorem dL_law_277 : decode cL_law 277 = .ok (.iload_n 3, 1) := by decide +kernel
theorem dL_law_278 : decode cL_law 278 = .ok (.iconst 2, 1) := by decide +kernel
theorem dL_law_279 : decode cL_law 279 = .ok (.iadd, 1) := by decide +kernel
theorem dL_law_280 : decode cL_law 280 = .ok (.iaload, 1) := by decide +kernel
theorem dL_law_281 : decode cL_law 281 = .ok (.invokevirtual 23, 3) := by decide +kernel
theorem dL_law_284 : decode cL_law 284 = .ok (.pop, 1) := by decide +kernel
theorem dL_law_285 : decode cL_law 285 = .ok (.aload_n 2, 1) := by decide +kernel
theorem dL_law_286 : decode cL_law 286 = .ok (.aload_n 0, 1) := by decide +kernel
theorem dL_law_287 : decode cL_law 287 = .ok (.iload_n 3, 1) := by decide +kernel
theorem dL_law_288 : decode cL_law 288 = .ok (.iconst 1, 1) := by decide +kernel
theorem dL_law_289 : decode cL_law 289 = .ok (.iadd, 1) := by decide +kernel
theorem dL_law_290 : decode cL_law 290 = .ok (.iaload, 1) := by decide +kernel
theorem dL_law_291 : decode cL_law 291 = .ok (.aload_n 0, 1) := by decide +kernel
theorem dL_law_292 : decode cL_law 292 = .ok (.iload_n 3, 1) := by decide +kernel
theorem dL_law_293 : decode cL_law 293 = .ok (.iconst 2, 1) := by decide +kernel
theorem dL_law_294 : decode cL_law 294 = .ok (.iadd, 1) := by decide +kernel
theorem dL_law_295 : decode cL_law 295 = .ok (.iaload, 1) := by decide +kernel
theorem dL_law_296 : decode cL_law 296 = .ok (.invokevirtual 26, 3) := by decide +kernel
theorem dL_law_299 : decode cL_law 299 = .ok (.pop, 1) := by decide +kernel
theorem dL_law_300 : decode cL_law 300 = .ok (.goto 912, 3) := by decide +kernel
theorem dL_law_303 : decode cL_law 303 = .ok (.aload_n 1, 1) := by decide +kernel
theorem dL_law_304 : decode cL_law 304 = .ok (.aload_n 0, 1) := by decide +kernel
theorem dL_law_305 : decode cL_law 305 = .ok (.iload_n 3, 1) := by decide +kernel
theorem dL_law_306 : decode cL_law 306 = .ok (.iconst 1, 1) := by decide +kernel
theorem dL_law_307 : decode cL_law 307 = .ok (.iadd, 1) := by decide +kernel
theorem dL_law_308 : decode cL_law 308 = .ok (.iaload, 1) := by decide +kernel
theorem dL_law_309 : decode cL_law 309 = .ok (.aload_n 0, 1) := by decide +kernel
theorem dL_law_310 : decode cL_law 310 = .ok (.iload_n 3, 1) := by decide +kernel
theorem dL_law_311 : decode cL_law 311 = .ok (.iconst 2, 1) := by decide +kernel
theorem dL_law_312 : decode cL_law 312 = .ok (.iadd, 1) := by decide +kernel
theorem dL_law_313 : decode cL_law 313 = .ok (.iaload, 1) := by decide +kernel
theorem dL_law_314 : decode cL_law 314 = .ok (.aload_n 0, 1) := by decide +kernel
theorem dL_law_315 : decode cL_law 315 = .ok (.iload_n 3, 1) := by decide +kernel
theorem dL_law_316 : decode cL_law 316 = .ok (.iconst 3, 1) := by decide +kernel
theorem dL_law_317 : decode cL_law 317 = .ok (.iadd, 1) := by decide +kernel
theorem dL_law_318 : decode cL_law 318 = .ok (.iaload, 1) := by decide +kernel
theorem dL_law_319 : decode cL_law 319 = .ok (.ifCond .eq 7, 3) := by decide +kernel
theorem dL_law_322 : decode cL_law 322 = .ok (.iconst 1, 1) := by decide +kernel
theorem dL_law_323 : decode cL_law 323 = .ok (.goto 4, 3) := by decide +kernel
theorem dL_law_326 : decode cL_law 326 = .ok (.iconst 0, 1) := by decide +kernel
theorem dL_law_327 : decode cL_law 327 = .ok (.invokevirtual 27, 3) := by decide +kernel
theorem dL_law_330 : decode cL_law 330 = .ok (.pop, 1) := by decide +kernel
theorem dL_law_331 : decode cL_law 331 = .ok (.aload_n 2, 1) := by decide +kernel
theorem dL_law_332 : decode cL_law 332 = .ok (.aload_n 0, 1) := by decide +kernel
theorem dL_law_333 : decode cL_law 333 = .ok (.iload_n 3, 1) := by decide +kernel
theorem dL_law_334 : decode cL_law 334 = .ok (.iconst 1, 1) := by decide +kernel
theorem dL_law_335 : decode cL_law 335 = .ok (.iadd, 1) := by decide +kernel
theorem dL_law_336 : decode cL_law 336 = .ok (.iaload, 1) := by decide +kernel
theorem dL_law_337 : decode cL_law 337 = .ok (.aload_n 0, 1) := by decide +kernel
theorem dL_law_338 : decode cL_law 338 = .ok (.iload_n 3, 1) := by decide +kernel
theorem dL_law_339 : decode cL_law 339 = .ok (.iconst 2, 1) := by decide +kernel
theorem dL_law_340 : decode cL_law 340 = .ok (.iadd, 1) := by decide +kernel
theorem dL_law_341 : decode cL_law 341 = .ok (.iaload, 1) := by decide +kernel
theorem dL_law_342 : decode cL_law 342 = .ok (.aload_n 0, 1) := by decide +kernel
theorem dL_law_343 : decode cL_law 343 = .ok (.iload_n 3, 1) := by decide +kernel
theorem dL_law_344 : decode cL_law 344 = .ok (.iconst 3, 1) := by decide +kernel
theorem dL_law_345 : decode cL_law 345 = .ok (.iadd, 1) := by decide +kernel
theorem dL_law_346 : decode cL_law 346 = .ok (.iaload, 1) := by decide +kernel
theorem dL_law_347 : decode cL_law 347 = .ok (.ifCond .eq 7, 3) := by decide +kernel
theorem dL_law_350 : decode cL_law 350 = .ok (.iconst 1, 1) := by decide +kernel
theorem dL_law_351 : decode cL_law 351 = .ok (.goto 4, 3) := by decide +kernel
theorem dL_law_354 : decode cL_law 354 = .ok (.iconst 0, 1) := by decide +kernel
theorem dL_law_355 : decode cL_law 355 = .ok (.invokevirtual 31, 3) := by decide +kernel
theorem dL_law_358 : decode cL_law 358 = .ok (.pop, 1) := by decide +kernel
theorem dL_law_359 : decode cL_law 359 = .ok (.goto 853, 3) := by decide +kernel
theorem dL_law_362 : decode cL_law 362 = .ok (.aload_n 1, 1) := by decide +kernel
theorem dL_law_363 : decode cL_law 363 = .ok (.aload_n 0, 1) := by decide +kernel
theorem dL_law_364 : decode cL_law 364 = .ok (.iload_n 3, 1) := by decide +kernel
theorem dL_law_365 : decode cL_law 365 = .ok (.iconst 1, 1) := by decide +kernel
theorem dL_law_366 : decode cL_law 366 = .ok (.iadd, 1) := by decide +kernel
theorem dL_law_367 : decode cL_law 367 = .ok (.iaload, 1) := by decide +kernel
theorem dL_law_368 : decode cL_law 368 = .ok (.aload_n 0, 1) := by decide +kernel
theorem dL_law_369 : decode cL_law 369 = .ok (.iload_n 3, 1) := by decide +kernel
theorem dL_law_370 : decode cL_law 370 = .ok (.iconst 2, 1) := by decide +kernel
theorem dL_law_371 : decode cL_law 371 = .ok (.iadd, 1) := by decide +kernel
theorem dL_law_372 : decode cL_law 372 = .ok (.iaload, 1) := by decide +kernel
theorem dL_law_373 : decode cL_law 373 = .ok (.aload_n 0, 1) := by decide +kernel
theorem dL_law_374 : decode cL_law 374 = .ok (.iload_n 3, 1) := by decide +kernel
theorem dL_law_375 : decode cL_law 375 = .ok (.iconst 3, 1) := by decide +kernel
theorem dL_law_376 : decode cL_law 376 = .ok (.iadd, 1) := by decide +kernel
theorem dL_law_377 : decode cL_law 377 = .ok (.iaload, 1) := by decide +kernel
theorem dL_law_378 : decode cL_law 378 = .ok (.invokevirtual 32, 3) := by decide +kernel
theorem dL_law_381 : decode cL_law 381 = .ok (.pop, 1) := by decide +kernel
theorem dL_law_382 : decode cL_law 382 = .ok (.aload_n 2, 1) := by decide +kernel
theorem dL_law_383 : decode cL_law 383 = .ok (.aload_n 0, 1) := by decide +kernel
theorem dL_law_384 : decode cL_law 384 = .ok (.iload_n 3, 1) := by decide +kernel
theorem dL_law_385 : decode cL_law 385 = .ok (.iconst 1, 1) := by decide +kernel
theorem dL_law_386 : decode cL_law 386 = .ok (.iadd, 1) := by decide +kernel
theorem dL_law_387 : decode cL_law 387 = .ok (.iaload, 1) := by decide +kernel
theorem dL_law_388 : decode cL_law 388 = .ok (.aload_n 0, 1) := by decide +kernel
theorem dL_law_389 : decode cL_law 389 = .ok (.iload_n 3, 1) := by decide +kernel
theorem dL_law_390 : decode cL_law 390 = .ok (.iconst 2, 1) := by decide +kernel
theorem dL_law_391 : decode cL_law 391 = .ok (.iadd, 1) := by decide +kernel
theorem dL_law_392 : decode cL_law 392 = .ok (.iaload, 1) := by decide +kernel
theorem dL_law_393 : decode cL_law 393 = .ok (.aload_n 0, 1) := by decide +kernel
theorem dL_law_394 : decode cL_law 394 = .ok (.iload_n 3, 1) := by decide +kernel
theorem dL_law_395 : decode cL_law 395 = .ok (.iconst 3, 1) := by decide +kernel
theorem dL_law_396 : decode cL_law 396 = .ok (.iadd, 1) := by decide +kernel
theorem dL_law_397 : decode cL_law 397 = .ok (.iaload, 1) := by decide +kernel
theorem dL_law_398 : decode cL_law 398 = .ok (.invokevirtual 36, 3) := by decide +kernel
theorem dL_law_401 : decode cL_law 401 = .ok (.pop, 1) := by decide +kernel
theorem dL_law_402 : decode cL_law 402 = .ok (.goto 810, 3) := by decide +kernel
theorem dL_law_405 : decode cL_law 405 = .ok (.aload_n 1, 1) := by decide +kernel
theorem dL_law_406 : decode cL_law 406 = .ok (.aload_n 0, 1) := by decide +kernel
theorem dL_law_407 : decode cL_law 407 = .ok (.iload_n 3, 1) := by decide +kernel
theorem dL_law_408 : decode cL_law 408 = .ok (.iconst 1, 1) := by decide +kernel
theorem dL_law_409 : decode cL_law 409 = .ok (.iadd, 1) := by decide +kernel
theorem dL_law_410 : decode cL_law 410 = .ok (.iaload, 1) := by decide +kernel
theorem dL_law_411 : decode cL_law 411 = .ok (.aload_n 0, 1) := by decide +kernel
theorem dL_law_412 : decode cL_law 412 = .ok (.iload_n 3, 1) := by decide +kernel
theorem dL_law_413 : decode cL_law 413 = .ok (.iconst 2, 1) := by decide +kernel
theorem dL_law_414 : decode cL_law 414 = .ok (.iadd, 1) := by decide +kernel
theorem dL_law_415 : decode cL_law 415 = .ok (.iaload, 1) := by decide +kernel
theorem dL_law_416 : decode cL_law 416 = .ok (.aload_n 0, 1) := by decide +kernel
theorem dL_law_417 : decode cL_law 417 = .ok (.iload_n 3, 1) := by decide +kernel
theorem dL_law_418 : decode cL_law 418 = .ok (.iconst 3, 1) := by decide +kernel
theorem dL_law_419 : decode cL_law 419 = .ok (.iadd, 1) := by decide +kernel
theorem dL_law_420 : decode cL_law 420 = .ok (.iaload, 1) := by decide +kernel
theorem dL_law_421 : decode cL_law 421 = .ok (.aload_n 0, 1) := by decide +kernel
theorem dL_law_422 : decode cL_law 422 = .ok (.iload_n 3, 1) := by decide +kernel
theorem dL_law_423 : decode cL_law 423 = .ok (.iconst 4, 1) := by decide +kernel
theorem dL_law_424 : decode cL_law 424 = .ok (.iadd, 1) := by decide +kernel
theorem dL_law_425 : decode cL_law 425 = .ok (.iaload, 1) := by decide +kernel
theorem dL_law_426 : decode cL_law 426 = .ok (.aload_n 0, 1) := by decide +kernel
theorem dL_law_427 : decode cL_law 427 = .ok (.iload_n 3, 1) := by decide +kernel
theorem dL_law_428 : decode cL_law 428 = .ok (.iconst 5, 1) := by decide +kernel
theorem dL_law_429 : decode cL_law 429 = .ok (.iadd, 1) := by decide +kernel
theorem dL_law_430 : decode cL_law 430 = .ok (.iaload, 1) := by decide +kernel
theorem dL_law_431 : decode cL_law 431 = .ok (.invokevirtual 37, 3) := by decide +kernel
theorem dL_law_434 : decode cL_law 434 = .ok (.pop, 1) := by decide +kernel
theorem dL_law_435 : decode cL_law 435 = .ok (.aload_n 2, 1) := by decide +kernel
theorem dL_law_436 : decode cL_law 436 = .ok (.aload_n 0, 1) := by decide +kernel
theorem dL_law_437 : decode cL_law 437 = .ok (.iload_n 3, 1) := by decide +kernel
theorem dL_law_438 : decode cL_law 438 = .ok (.iconst 1, 1) := by decide +kernel
theorem dL_law_439 : decode cL_law 439 = .ok (.iadd, 1) := by decide +kernel
theorem dL_law_440 : decode cL_law 440 = .ok (.iaload, 1) := by decide +kernel
theorem dL_law_441 : decode cL_law 441 = .ok (.aload_n 0, 1) := by decide +kernel
theorem dL_law_442 : decode cL_law 442 = .ok (.iload_n 3, 1) := by decide +kernel
theorem dL_law_443 : decode cL_law 443 = .ok (.iconst 2, 1) := by decide +kernel
theorem dL_law_444 : decode cL_law 444 = .ok (.iadd, 1) := by decide +kernel
theorem dL_law_445 : decode cL_law 445 = .ok (.iaload, 1) := by decide +kernel
theorem dL_law_446 : decode cL_law 446 = .ok (.aload_n 0, 1) := by decide +kernel
theorem dL_law_447 : decode cL_law 447 = .ok (.iload_n 3, 1) := by decide +kernel
theorem dL_law_448 : decode cL_law 448 = .ok (.iconst 3, 1) := by decide +kernel
theorem dL_law_449 : decode cL_law 449 = .ok (.iadd, 1) := by decide +kernel
theorem dL_law_450 : decode cL_law 450 = .ok (.iaload, 1) := by decide +kernel
theorem dL_law_451 : decode cL_law 451 = .ok (.aload_n 0, 1) := by decide +kernel
theorem dL_law_452 : decode cL_law 452 = .ok (.iload_n 3, 1) := by decide +kernel
theorem dL_law_453 : decode cL_law 453 = .ok (.iconst 4, 1) := by decide +kernel
theorem dL_law_454 : decode cL_law 454 = .ok (.iadd, 1) := by decide +kernel
theorem dL_law_455 : decode cL_law 455 = .ok (.iaload, 1) := by decide +kernel
theorem dL_law_456 : decode cL_law 456 = .ok (.aload_n 0, 1) := by decide +kernel
theorem dL_law_457 : decode cL_law 457 = .ok (.iload_n 3, 1) := by decide +kernel
theorem dL_law_458 : decode cL_law 458 = .ok (.iconst 5, 1) := by decide +kernel
theorem dL_law_459 : decode cL_law 459 = .ok (.iadd, 1) := by decide +kernel
theorem dL_law_460 : decode cL_law 460 = .ok (.iaload, 1) := by decide +kernel
theorem dL_law_461 : decode cL_law 461 = .ok (.invokevirtual 41, 3) := by decide +kernel
theorem dL_law_464 : decode cL_law 464 = .ok (.pop, 1) := by decide +kernel
theorem dL_law_465 : decode cL_law 465 = .ok (.goto 747, 3) := by decide +kernel
theorem dL_law_468 : decode cL_law 468 = .ok (.aload_n 1, 1) := by decide +kernel
theorem dL_law_469 : decode cL_law 469 = .ok (.aload_n 0, 1) := by decide +kernel
theorem dL_law_470 : decode cL_law 470 = .ok (.iload_n 3, 1) := by decide +kernel
theorem dL_law_471 : decode cL_law 471 = .ok (.iconst 1, 1) := by decide +kernel
theorem dL_law_472 : decode cL_law 472 = .ok (.iadd, 1) := by decide +kernel
theorem dL_law_473 : decode cL_law 473 = .ok (.iaload, 1) := by decide +kernel
theorem dL_law_474 : decode cL_law 474 = .ok (.aload_n 0, 1) := by decide +kernel
theorem dL_law_475 : decode cL_law 475 = .ok (.iload_n 3, 1) := by decide +kernel
theorem dL_law_476 : decode cL_law 476 = .ok (.iconst 2, 1) := by decide +kernel
theorem dL_law_477 : decode cL_law 477 = .ok (.iadd, 1) := by decide +kernel
theorem dL_law_478 : decode cL_law 478 = .ok (.iaload, 1) := by decide +kernel
theorem dL_law_479 : decode cL_law 479 = .ok (.invokevirtual 42, 3) := by decide +kernel
theorem dL_law_482 : decode cL_law 482 = .ok (.pop, 1) := by decide +kernel
theorem dL_law_483 : decode cL_law 483 = .ok (.aload_n 2, 1) := by decide +kernel
theorem dL_law_484 : decode cL_law 484 = .ok (.aload_n 0, 1) := by decide +kernel
theorem dL_law_485 : decode cL_law 485 = .ok (.iload_n 3, 1) := by decide +kernel
theorem dL_law_486 : decode cL_law 486 = .ok (.iconst 1, 1) := by decide +kernel
theorem dL_law_487 : decode cL_law 487 = .ok (.iadd, 1) := by decide +kernel
theorem dL_law_488 : decode cL_law 488 = .ok (.iaload, 1) := by decide +kernel
theorem dL_law_489 : decode cL_law 489 = .ok (.aload_n 0, 1) := by decide +kernel
theorem dL_law_490 : decode cL_law 490 = .ok (.iload_n 3, 1) := by decide +kernel
theorem dL_law_491 : decode cL_law 491 = .ok (.iconst 2, 1) := by decide +kernel
theorem dL_law_492 : decode cL_law 492 = .ok (.iadd, 1) := by decide +kernel
theorem dL_law_493 : decode cL_law 493 = .ok (.iaload, 1) := by decide +kernel
theorem dL_law_494 : decode cL_law 494 = .ok (.invokevirtual 45, 3) := by decide +kernel
theorem dL_law_497 : decode cL_law 497 = .ok (.pop, 1) := by decide +kernel
theorem dL_law_498 : decode cL_law 498 = .ok (.goto 714, 3) := by decide +kernel
theorem dL_law_501 : decode cL_law 501 = .ok (.aload_n 1, 1) := by decide +kernel
theorem dL_law_502 : decode cL_law 502 = .ok (.aload_n 0, 1) := by decide +kernel
theorem dL_law_503 : decode cL_law 503 = .ok (.iload_n 3, 1) := by decide +kernel
theorem dL_law_504 : decode cL_law 504 = .ok (.iconst 1, 1) := by decide +kernel
theorem dL_law_505 : decode cL_law 505 = .ok (.iadd, 1) := by decide +kernel
theorem dL_law_506 : decode cL_law 506 = .ok (.iaload, 1) := by decide +kernel
theorem dL_law_507 : decode cL_law 507 = .ok (.invokevirtual 46, 3) := by decide +kernel
theorem dL_law_510 : decode cL_law 510 = .ok (.pop, 1) := by decide +kernel
theorem dL_law_511 : decode cL_law 511 = .ok (.aload_n 2, 1) := by decide +kernel
theorem dL_law_512 : decode cL_law 512 = .ok (.aload_n 0, 1) := by decide +kernel
theorem dL_law_513 : decode cL_law 513 = .ok (.iload_n 3, 1) := by decide +kernel
theorem dL_law_514 : decode cL_law 514 = .ok (.iconst 1, 1) := by decide +kernel
theorem dL_law_515 : decode cL_law 515 = .ok (.iadd, 1) := by decide +kernel
theorem dL_law_516 : decode cL_law 516 = .ok (.iaload, 1) := by decide +kernel
theorem dL_law_517 : decode cL_law 517 = .ok (.invokevirtual 50, 3) := by decide +kernel
theorem dL_law_520 : decode cL_law 520 = .ok (.pop, 1) := by decide +kernel
theorem dL_law_521 : decode cL_law 521 = .ok (.goto 691, 3) := by decide +kernel
theorem dL_law_524 : decode cL_law 524 = .ok (.aload_n 1, 1) := by decide +kernel
theorem dL_law_525 : decode cL_law 525 = .ok (.aload_n 0, 1) := by decide +kernel
theorem dL_law_526 : decode cL_law 526 = .ok (.iload_n 3, 1) := by decide +kernel
theorem dL_law_527 : decode cL_law 527 = .ok (.iconst 1, 1) := by decide +kernel
theorem dL_law_528 : decode cL_law 528 = .ok (.iadd, 1) := by decide +kernel
theorem dL_law_529 : decode cL_law 529 = .ok (.iaload, 1) := by decide +kernel
theorem dL_law_530 : decode cL_law 530 = .ok (.aload_n 0, 1) := by decide +kernel
theorem dL_law_531 : decode cL_law 531 = .ok (.iload_n 3, 1) := by decide +kernel
theorem dL_law_532 : decode cL_law 532 = .ok (.iconst 2, 1) := by decide +kernel
theorem dL_law_533 : decode cL_law 533 = .ok (.iadd, 1) := by decide +kernel
theorem dL_law_534 : decode cL_law 534 = .ok (.iaload, 1) := by decide +kernel
theorem dL_law_535 : decode cL_law 535 = .ok (.aload_n 0, 1) := by decide +kernel
theorem dL_law_536 : decode cL_law 536 = .ok (.iload_n 3, 1) := by decide +kernel
theorem dL_law_537 : decode cL_law 537 = .ok (.iconst 3, 1) := by decide +kernel
theorem dL_law_538 : decode cL_law 538 = .ok (.iadd, 1) := by decide +kernel
theorem dL_law_539 : decode cL_law 539 = .ok (.iaload, 1) := by decide +kernel
theorem dL_law_540 : decode cL_law 540 = .ok (.invokevirtual 51, 3) := by decide +kernel
theorem dL_law_543 : decode cL_law 543 = .ok (.pop, 1) := by decide +kernel
theorem dL_law_544 : decode cL_law 544 = .ok (.aload_n 2, 1) := by decide +kernel
theorem dL_law_545 : decode cL_law 545 = .ok (.aload_n 0, 1) := by decide +kernel
theorem dL_law_546 : decode cL_law 546 = .ok (.iload_n 3, 1) := by decide +kernel
theorem dL_law_547 : decode cL_law 547 = .ok (.iconst 1, 1) := by decide +kernel
theorem dL_law_548 : decode cL_law 548 = .ok (.iadd, 1) := by decide +kernel
theorem dL_law_549 : decode cL_law 549 = .ok (.iaload, 1) := by decide +kernel
theorem dL_law_550 : decode cL_law 550 = .ok (.aload_n 0, 1) := by decide +kernel
theorem dL_law_551 : decode cL_law 551 = .ok (.iload_n 3, 1) := by decide +kernel
theorem dL_law_552 : decode cL_law 552 = .ok (.iconst 2, 1) := by decide +kernel
theorem dL_law_553 : decode cL_law 553 = .ok (.iadd, 1) := by decide +kernel
theorem dL_law_554 : decode cL_law 554 = .ok (.iaload, 1) := by decide +kernel
theorem dL_law_555 : decode cL_law 555 = .ok (.aload_n 0, 1) := by decide +kernel
theorem dL_law_556 : decode cL_law 556 = .ok (.iload_n 3, 1) := by decide +kernel
theorem dL_law_557 : decode cL_law 557 = .ok (.iconst 3, 1) := by decide +kernel
theorem dL_law_558 : decode cL_law 558 = .ok (.iadd, 1) := by decide +kernel
theorem dL_law_559 : decode cL_law 559 = .ok (.iaload, 1) := by decide +kernel
theorem dL_law_560 : decode cL_law 560 = .ok (.invokevirtual 54, 3) := by decide +kernel
theorem dL_law_563 : decode cL_law 563 = .ok (.pop, 1) := by decide +kernel
theorem dL_law_564 : decode cL_law 564 = .ok (.goto 648, 3) := by decide +kernel
theorem dL_law_567 : decode cL_law 567 = .ok (.aload_n 1, 1) := by decide +kernel
theorem dL_law_568 : decode cL_law 568 = .ok (.aload_n 0, 1) := by decide +kernel
theorem dL_law_569 : decode cL_law 569 = .ok (.iload_n 3, 1) := by decide +kernel
theorem dL_law_570 : decode cL_law 570 = .ok (.iconst 1, 1) := by decide +kernel
theorem dL_law_571 : decode cL_law 571 = .ok (.iadd, 1) := by decide +kernel
theorem dL_law_572 : decode cL_law 572 = .ok (.iaload, 1) := by decide +kernel
theorem dL_law_573 : decode cL_law 573 = .ok (.aload_n 0, 1) := by decide +kernel
theorem dL_law_574 : decode cL_law 574 = .ok (.iload_n 3, 1) := by decide +kernel
theorem dL_law_575 : decode cL_law 575 = .ok (.iconst 2, 1) := by decide +kernel
theorem dL_law_576 : decode cL_law 576 = .ok (.iadd, 1) := by decide +kernel
theorem dL_law_577 : decode cL_law 577 = .ok (.iaload, 1) := by decide +kernel
theorem dL_law_578 : decode cL_law 578 = .ok (.invokevirtual 55, 3) := by decide +kernel
theorem dL_law_581 : decode cL_law 581 = .ok (.pop, 1) := by decide +kernel
theorem dL_law_582 : decode cL_law 582 = .ok (.aload_n 2, 1) := by decide +kernel
theorem dL_law_583 : decode cL_law 583 = .ok (.aload_n 0, 1) := by decide +kernel
theorem dL_law_584 : decode cL_law 584 = .ok (.iload_n 3, 1) := by decide +kernel
theorem dL_law_585 : decode cL_law 585 = .ok (.iconst 1, 1) := by decide +kernel
theorem dL_law_586 : decode cL_law 586 = .ok (.iadd, 1) := by decide +kernel
theorem dL_law_587 : decode cL_law 587 = .ok (.iaload, 1) := by decide +kernel
theorem dL_law_588 : decode cL_law 588 = .ok (.aload_n 0, 1) := by decide +kernel
theorem dL_law_589 : decode cL_law 589 = .ok (.iload_n 3, 1) := by decide +kernel
theorem dL_law_590 : decode cL_law 590 = .ok (.iconst 2, 1) := by decide +kernel
theorem dL_law_591 : decode cL_law 591 = .ok (.iadd, 1) := by decide +kernel
theorem dL_law_592 : decode cL_law 592 = .ok (.iaload, 1) := by decide +kernel
theorem dL_law_593 : decode cL_law 593 = .ok (.invokevirtual 58, 3) := by decide +kernel
theorem dL_law_596 : decode cL_law 596 = .ok (.pop, 1) := by decide +kernel
theorem dL_law_597 : decode cL_law 597 = .ok (.goto 615, 3) := by decide +kernel
theorem dL_law_600 : decode cL_law 600 = .ok (.aload_n 1, 1) := by decide +kernel
theorem dL_law_601 : decode cL_law 601 = .ok (.aload_n 0, 1) := by decide +kernel
theorem dL_law_602 : decode cL_law 602 = .ok (.iload_n 3, 1) := by decide +kernel
theorem dL_law_603 : decode cL_law 603 = .ok (.iconst 1, 1) := by decide +kernel
theorem dL_law_604 : decode cL_law 604 = .ok (.iadd, 1) := by decide +kernel
theorem dL_law_605 : decode cL_law 605 = .ok (.iaload, 1) := by decide +kernel
theorem dL_law_606 : decode cL_law 606 = .ok (.invokevirtual 59, 3) := by decide +kernel
theorem dL_law_609 : decode cL_law 609 = .ok (.pop, 1) := by decide +kernel
theorem dL_law_610 : decode cL_law 610 = .ok (.aload_n 2, 1) := by decide +kernel
theorem dL_law_611 : decode cL_law 611 = .ok (.aload_n 0, 1) := by decide +kernel
theorem dL_law_612 : decode cL_law 612 = .ok (.iload_n 3, 1) := by decide +kernel
theorem dL_law_613 : decode cL_law 613 = .ok (.iconst 1, 1) := by decide +kernel
theorem dL_law_614 : decode cL_law 614 = .ok (.iadd, 1) := by decide +kernel
theorem dL_law_615 : decode cL_law 615 = .ok (.iaload, 1) := by decide +kernel
theorem dL_law_616 : decode cL_law 616 = .ok (.invokevirtual 62, 3) := by decide +kernel
theorem dL_law_619 : decode cL_law 619 = .ok (.pop, 1) := by decide +kernel
theorem dL_law_620 : decode cL_law 620 = .ok (.goto 592, 3) := by decide +kernel
theorem dL_law_623 : decode cL_law 623 = .ok (.aload_n 1, 1) := by decide +kernel
theorem dL_law_624 : decode cL_law 624 = .ok (.aload_n 0, 1) := by decide +kernel
theorem dL_law_625 : decode cL_law 625 = .ok (.iload_n 3, 1) := by decide +kernel
theorem dL_law_626 : decode cL_law 626 = .ok (.iconst 1, 1) := by decide +kernel
theorem dL_law_627 : decode cL_law 627 = .ok (.iadd, 1) := by decide +kernel
theorem dL_law_628 : decode cL_law 628 = .ok (.iaload, 1) := by decide +kernel
theorem dL_law_629 : decode cL_law 629 = .ok (.invokevirtual 63, 3) := by decide +kernel
theorem dL_law_632 : decode cL_law 632 = .ok (.pop, 1) := by decide +kernel
theorem dL_law_633 : decode cL_law 633 = .ok (.aload_n 2, 1) := by decide +kernel
theorem dL_law_634 : decode cL_law 634 = .ok (.aload_n 0, 1) := by decide +kernel
theorem dL_law_635 : decode cL_law 635 = .ok (.iload_n 3, 1) := by decide +kernel
theorem dL_law_636 : decode cL_law 636 = .ok (.iconst 1, 1) := by decide +kernel
theorem dL_law_637 : decode cL_law 637 = .ok (.iadd, 1) := by decide +kernel
theorem dL_law_638 : decode cL_law 638 = .ok (.iaload, 1) := by decide +kernel
theorem dL_law_639 : decode cL_law 639 = .ok (.invokevirtual 66, 3) := by decide +kernel
theorem dL_law_642 : decode cL_law 642 = .ok (.pop, 1) := by decide +kernel
theorem dL_law_643 : decode cL_law 643 = .ok (.goto 569, 3) := by decide +kernel
theorem dL_law_646 : decode cL_law 646 = .ok (.aload_n 1, 1) := by decide +kernel
theorem dL_law_647 : decode cL_law 647 = .ok (.invokevirtual 67, 3) := by decide +kernel
theorem dL_law_650 : decode cL_law 650 = .ok (.pop, 1) := by decide +kernel
theorem dL_law_651 : decode cL_law 651 = .ok (.aload_n 2, 1) := by decide +kernel
theorem dL_law_652 : decode cL_law 652 = .ok (.invokevirtual 71, 3) := by decide +kernel
theorem dL_law_655 : decode cL_law 655 = .ok (.pop, 1) := by decide +kernel
theorem dL_law_656 : decode cL_law 656 = .ok (.goto 556, 3) := by decide +kernel
theorem dL_law_659 : decode cL_law 659 = .ok (.aload_n 1, 1) := by decide +kernel
theorem dL_law_660 : decode cL_law 660 = .ok (.aload_n 0, 1) := by decide +kernel
theorem dL_law_661 : decode cL_law 661 = .ok (.iload_n 3, 1) := by decide +kernel
theorem dL_law_662 : decode cL_law 662 = .ok (.iconst 1, 1) := by decide +kernel
theorem dL_law_663 : decode cL_law 663 = .ok (.iadd, 1) := by decide +kernel
theorem dL_law_664 : decode cL_law 664 = .ok (.iaload, 1) := by decide +kernel
theorem dL_law_665 : decode cL_law 665 = .ok (.invokevirtual 72, 3) := by decide +kernel
theorem dL_law_668 : decode cL_law 668 = .ok (.pop, 1) := by decide +kernel
theorem dL_law_669 : decode cL_law 669 = .ok (.aload_n 2, 1) := by decide +kernel
theorem dL_law_670 : decode cL_law 670 = .ok (.aload_n 0, 1) := by decide +kernel
theorem dL_law_671 : decode cL_law 671 = .ok (.iload_n 3, 1) := by decide +kernel
theorem dL_law_672 : decode cL_law 672 = .ok (.iconst 1, 1) := by decide +kernel
theorem dL_law_673 : decode cL_law 673 = .ok (.iadd, 1) := by decide +kernel
theorem dL_law_674 : decode cL_law 674 = .ok (.iaload, 1) := by decide +kernel
theorem dL_law_675 : decode cL_law 675 = .ok (.invokevirtual 75, 3) := by decide +kernel
theorem dL_law_678 : decode cL_law 678 = .ok (.pop, 1) := by decide +kernel
theorem dL_law_679 : decode cL_law 679 = .ok (.goto 533, 3) := by decide +kernel
theorem dL_law_682 : decode cL_law 682 = .ok (.aload_n 1, 1) := by decide +kernel
theorem dL_law_683 : decode cL_law 683 = .ok (.invokevirtual 76, 3) := by decide +kernel
theorem dL_law_686 : decode cL_law 686 = .ok (.pop, 1) := by decide +kernel
theorem dL_law_687 : decode cL_law 687 = .ok (.aload_n 2, 1) := by decide +kernel
theorem dL_law_688 : decode cL_law 688 = .ok (.invokevirtual 79, 3) := by decide +kernel
theorem dL_law_691 : decode cL_law 691 = .ok (.pop, 1) := by decide +kernel
theorem dL_law_692 : decode cL_law 692 = .ok (.goto 520, 3) := by decide +kernel
theorem dL_law_695 : decode cL_law 695 = .ok (.aload_n 1, 1) := by decide +kernel
theorem dL_law_696 : decode cL_law 696 = .ok (.aload_n 0, 1) := by decide +kernel
theorem dL_law_697 : decode cL_law 697 = .ok (.iload_n 3, 1) := by decide +kernel
theorem dL_law_698 : decode cL_law 698 = .ok (.iconst 1, 1) := by decide +kernel
theorem dL_law_699 : decode cL_law 699 = .ok (.iadd, 1) := by decide +kernel
theorem dL_law_700 : decode cL_law 700 = .ok (.iaload, 1) := by decide +kernel
theorem dL_law_701 : decode cL_law 701 = .ok (.aload_n 0, 1) := by decide +kernel
theorem dL_law_702 : decode cL_law 702 = .ok (.iload_n 3, 1) := by decide +kernel
theorem dL_law_703 : decode cL_law 703 = .ok (.iconst 2, 1) := by decide +kernel
theorem dL_law_704 : decode cL_law 704 = .ok (.iadd, 1) := by decide +kernel
theorem dL_law_705 : decode cL_law 705 = .ok (.iaload, 1) := by decide +kernel
theorem dL_law_706 : decode cL_law 706 = .ok (.invokevirtual 80, 3) := by decide +kernel
theorem dL_law_709 : decode cL_law 709 = .ok (.pop, 1) := by decide +kernel
theorem dL_law_710 : decode cL_law 710 = .ok (.aload_n 2, 1) := by decide +kernel
theorem dL_law_711 : decode cL_law 711 = .ok (.aload_n 0, 1) := by decide +kernel
theorem dL_law_712 : decode cL_law 712 = .ok (.iload_n 3, 1) := by decide +kernel
theorem dL_law_713 : decode cL_law 713 = .ok (.iconst 1, 1) := by decide +kernel
theorem dL_law_714 : decode cL_law 714 = .ok (.iadd, 1) := by decide +kernel
theorem dL_law_715 : decode cL_law 715 = .ok (.iaload, 1) := by decide +kernel
theorem dL_law_716 : decode cL_law 716 = .ok (.aload_n 0, 1) := by decide +kernel
theorem dL_law_717 : decode cL_law 717 = .ok (.iload_n 3, 1) := by decide +kernel
theorem dL_law_718 : decode cL_law 718 = .ok (.iconst 2, 1) := by decide +kernel
theorem dL_law_719 : decode cL_law 719 = .ok (.iadd, 1) := by decide +kernel
theorem dL_law_720 : decode cL_law 720 = .ok (.iaload, 1) := by decide +kernel
theorem dL_law_721 : decode cL_law 721 = .ok (.invokevirtual 83, 3) := by decide +kernel
theorem dL_law_724 : decode cL_law 724 = .ok (.pop, 1) := by decide +kernel
theorem dL_law_725 : decode cL_law 725 = .ok (.goto 487, 3) := by decide +kernel
theorem dL_law_728 : decode cL_law 728 = .ok (.aload_n 1, 1) := by decide +kernel
theorem dL_law_729 : decode cL_law 729 = .ok (.aload_n 0, 1) := by decide +kernel
theorem dL_law_730 : decode cL_law 730 = .ok (.iload_n 3, 1) := by decide +kernel
theorem dL_law_731 : decode cL_law 731 = .ok (.iconst 1, 1) := by decide +kernel
theorem dL_law_732 : decode cL_law 732 = .ok (.iadd, 1) := by decide +kernel
theorem dL_law_733 : decode cL_law 733 = .ok (.iaload, 1) := by decide +kernel
theorem dL_law_734 : decode cL_law 734 = .ok (.invokevirtual 84, 3) := by decide +kernel
theorem dL_law_737 : decode cL_law 737 = .ok (.pop, 1) := by decide +kernel
theorem dL_law_738 : decode cL_law 738 = .ok (.aload_n 2, 1) := by decide +kernel
theorem dL_law_739 : decode cL_law 739 = .ok (.aload_n 0, 1) := by decide +kernel
theorem dL_law_740 : decode cL_law 740 = .ok (.iload_n 3, 1) := by decide +kernel
theorem dL_law_741 : decode cL_law 741 = .ok (.iconst 1, 1) := by decide +kernel
theorem dL_law_742 : decode cL_law 742 = .ok (.iadd, 1) := by decide +kernel
theorem dL_law_743 : decode cL_law 743 = .ok (.iaload, 1) := by decide +kernel
theorem dL_law_744 : decode cL_law 744 = .ok (.invokevirtual 87, 3) := by decide +kernel
theorem dL_law_747 : decode cL_law 747 = .ok (.pop, 1) := by decide +kernel
theorem dL_law_748 : decode cL_law 748 = .ok (.goto 464, 3) := by decide +kernel
theorem dL_law_751 : decode cL_law 751 = .ok (.aload_n 1, 1) := by decide +kernel
theorem dL_law_752 : decode cL_law 752 = .ok (.aload_n 0, 1) := by decide +kernel
theorem dL_law_753 : decode cL_law 753 = .ok (.iload_n 3, 1) := by decide +kernel
theorem dL_law_754 : decode cL_law 754 = .ok (.iconst 1, 1) := by decide +kernel
theorem dL_law_755 : decode cL_law 755 = .ok (.iadd, 1) := by decide +kernel
theorem dL_law_756 : decode cL_law 756 = .ok (.iaload, 1) := by decide +kernel
theorem dL_law_757 : decode cL_law 757 = .ok (.invokevirtual 88, 3) := by decide +kernel
theorem dL_law_760 : decode cL_law 760 = .ok (.pop, 1) := by decide +kernel
theorem dL_law_761 : decode cL_law 761 = .ok (.aload_n 2, 1) := by decide +kernel
theorem dL_law_762 : decode cL_law 762 = .ok (.aload_n 0, 1) := by decide +kernel
theorem dL_law_763 : decode cL_law 763 = .ok (.iload_n 3, 1) := by decide +kernel
theorem dL_law_764 : decode cL_law 764 = .ok (.iconst 1, 1) := by decide +kernel
theorem dL_law_765 : decode cL_law 765 = .ok (.iadd, 1) := by decide +kernel
theorem dL_law_766 : decode cL_law 766 = .ok (.iaload, 1) := by decide +kernel
theorem dL_law_767 : decode cL_law 767 = .ok (.invokevirtual 91, 3) := by decide +kernel
theorem dL_law_770 : decode cL_law 770 = .ok (.pop, 1) := by decide +kernel
theorem dL_law_771 : decode cL_law 771 = .ok (.goto 441, 3) := by decide +kernel
theorem dL_law_774 : decode cL_law 774 = .ok (.aload_n 1, 1) := by decide +kernel
theorem dL_law_775 : decode cL_law 775 = .ok (.aload_n 0, 1) := by decide +kernel
theorem dL_law_776 : decode cL_law 776 = .ok (.iload_n 3, 1) := by decide +kernel
theorem dL_law_777 : decode cL_law 777 = .ok (.iconst 1, 1) := by decide +kernel
theorem dL_law_778 : decode cL_law 778 = .ok (.iadd, 1) := by decide +kernel
theorem dL_law_779 : decode cL_law 779 = .ok (.iaload, 1) := by decide +kernel
theorem dL_law_780 : decode cL_law 780 = .ok (.aload_n 0, 1) := by decide +kernel
theorem dL_law_781 : decode cL_law 781 = .ok (.iload_n 3, 1) := by decide +kernel
theorem dL_law_782 : decode cL_law 782 = .ok (.iconst 2, 1) := by decide +kernel
theorem dL_law_783 : decode cL_law 783 = .ok (.iadd, 1) := by decide +kernel
theorem dL_law_784 : decode cL_law 784 = .ok (.iaload, 1) := by decide +kernel
theorem dL_law_785 : decode cL_law 785 = .ok (.invokevirtual 92, 3) := by decide +kernel
theorem dL_law_788 : decode cL_law 788 = .ok (.pop, 1) := by decide +kernel
theorem dL_law_789 : decode cL_law 789 = .ok (.aload_n 2, 1) := by decide +kernel
theorem dL_law_790 : decode cL_law 790 = .ok (.aload_n 0, 1) := by decide +kernel
theorem dL_law_791 : decode cL_law 791 = .ok (.iload_n 3, 1) := by decide +kernel
theorem dL_law_792 : decode cL_law 792 = .ok (.iconst 1, 1) := by decide +kernel
theorem dL_law_793 : decode cL_law 793 = .ok (.iadd, 1) := by decide +kernel
theorem dL_law_794 : decode cL_law 794 = .ok (.iaload, 1) := by decide +kernel
theorem dL_law_795 : decode cL_law 795 = .ok (.aload_n 0, 1) := by decide +kernel
theorem dL_law_796 : decode cL_law 796 = .ok (.iload_n 3, 1) := by decide +kernel
theorem dL_law_797 : decode cL_law 797 = .ok (.iconst 2, 1) := by decide +kernel
theorem dL_law_798 : decode cL_law 798 = .ok (.iadd, 1) := by decide +kernel
theorem dL_law_799 : decode cL_law 799 = .ok (.iaload, 1) := by decide +kernel
theorem dL_law_800 : decode cL_law 800 = .ok (.invokevirtual 95, 3) := by decide +kernel
theorem dL_law_803 : decode cL_law 803 = .ok (.pop, 1) := by decide +kernel
theorem dL_law_804 : decode cL_law 804 = .ok (.goto 408, 3) := by decide +kernel
theorem dL_law_807 : decode cL_law 807 = .ok (.aload_n 1, 1) := by decide +kernel
theorem dL_law_808 : decode cL_law 808 = .ok (.aload_n 0, 1) := by decide +kernel
theorem dL_law_809 : decode cL_law 809 = .ok (.iload_n 3, 1) := by decide +kernel
theorem dL_law_810 : decode cL_law 810 = .ok (.iconst 1, 1) := by decide +kernel
theorem dL_law_811 : decode cL_law 811 = .ok (.iadd, 1) := by decide +kernel
theorem dL_law_812 : decode cL_law 812 = .ok (.iaload, 1) := by decide +kernel
theorem dL_law_813 : decode cL_law 813 = .ok (.aload_n 0, 1) := by decide +kernel
theorem dL_law_814 : decode cL_law 814 = .ok (.iload_n 3, 1) := by decide +kernel
theorem dL_law_815 : decode cL_law 815 = .ok (.iconst 2, 1) := by decide +kernel
theorem dL_law_816 : decode cL_law 816 = .ok (.iadd, 1) := by decide +kernel
theorem dL_law_817 : decode cL_law 817 = .ok (.iaload, 1) := by decide +kernel
theorem dL_law_818 : decode cL_law 818 = .ok (.invokevirtual 96, 3) := by decide +kernel
theorem dL_law_821 : decode cL_law 821 = .ok (.pop, 1) := by decide +kernel
theorem dL_law_822 : decode cL_law 822 = .ok (.aload_n 2, 1) := by decide +kernel
theorem dL_law_823 : decode cL_law 823 = .ok (.aload_n 0, 1) := by decide +kernel
theorem dL_law_824 : decode cL_law 824 = .ok (.iload_n 3, 1) := by decide +kernel
theorem dL_law_825 : decode cL_law 825 = .ok (.iconst 1, 1) := by decide +kernel
theorem dL_law_826 : decode cL_law 826 = .ok (.iadd, 1) := by decide +kernel
theorem dL_law_827 : decode cL_law 827 = .ok (.iaload, 1) := by decide +kernel
theorem dL_law_828 : decode cL_law 828 = .ok (.aload_n 0, 1) := by decide +kernel
theorem dL_law_829 : decode cL_law 829 = .ok (.iload_n 3, 1) := by decide +kernel
theorem dL_law_830 : decode cL_law 830 = .ok (.iconst 2, 1) := by decide +kernel
theorem dL_law_831 : decode cL_law 831 = .ok (.iadd, 1) := by decide +kernel
theorem dL_law_832 : decode cL_law 832 = .ok (.iaload, 1) := by decide +kernel
theorem dL_law_833 : decode cL_law 833 = .ok (.invokevirtual 99, 3) := by decide +kernel
theorem dL_law_836 : decode cL_law 836 = .ok (.pop, 1) := by decide +kernel
theorem dL_law_837 : decode cL_law 837 = .ok (.goto 375, 3) := by decide +kernel
theorem dL_law_840 : decode cL_law 840 = .ok (.aload_n 1, 1) := by decide +kernel
theorem dL_law_841 : decode cL_law 841 = .ok (.aload_n 0, 1) := by decide +kernel
theorem dL_law_842 : decode cL_law 842 = .ok (.iload_n 3, 1) := by decide +kernel
theorem dL_law_843 : decode cL_law 843 = .ok (.iconst 1, 1) := by decide +kernel
theorem dL_law_844 : decode cL_law 844 = .ok (.iadd, 1) := by decide +kernel
theorem dL_law_845 : decode cL_law 845 = .ok (.iaload, 1) := by decide +kernel
theorem dL_law_846 : decode cL_law 846 = .ok (.invokevirtual 100, 3) := by decide +kernel
theorem dL_law_849 : decode cL_law 849 = .ok (.pop, 1) := by decide +kernel
theorem dL_law_850 : decode cL_law 850 = .ok (.aload_n 2, 1) := by decide +kernel
theorem dL_law_851 : decode cL_law 851 = .ok (.aload_n 0, 1) := by decide +kernel
theorem dL_law_852 : decode cL_law 852 = .ok (.iload_n 3, 1) := by decide +kernel
theorem dL_law_853 : decode cL_law 853 = .ok (.iconst 1, 1) := by decide +kernel
theorem dL_law_854 : decode cL_law 854 = .ok (.iadd, 1) := by decide +kernel
theorem dL_law_855 : decode cL_law 855 = .ok (.iaload, 1) := by decide +kernel
theorem dL_law_856 : decode cL_law 856 = .ok (.invokevirtual 103, 3) := by decide +kernel
theorem dL_law_859 : decode cL_law 859 = .ok (.pop, 1) := by decide +kernel
theorem dL_law_860 : decode cL_law 860 = .ok (.goto 352, 3) := by decide +kernel
theorem dL_law_863 : decode cL_law 863 = .ok (.aload_n 1, 1) := by decide +kernel
theorem dL_law_864 : decode cL_law 864 = .ok (.aload_n 0, 1) := by decide +kernel
theorem dL_law_865 : decode cL_law 865 = .ok (.iload_n 3, 1) := by decide +kernel
theorem dL_law_866 : decode cL_law 866 = .ok (.iconst 1, 1) := by decide +kernel
theorem dL_law_867 : decode cL_law 867 = .ok (.iadd, 1) := by decide +kernel
theorem dL_law_868 : decode cL_law 868 = .ok (.iaload, 1) := by decide +kernel
theorem dL_law_869 : decode cL_law 869 = .ok (.invokevirtual 104, 3) := by decide +kernel
theorem dL_law_872 : decode cL_law 872 = .ok (.pop, 1) := by decide +kernel
theorem dL_law_873 : decode cL_law 873 = .ok (.aload_n 2, 1) := by decide +kernel
theorem dL_law_874 : decode cL_law 874 = .ok (.aload_n 0, 1) := by decide +kernel
theorem dL_law_875 : decode cL_law 875 = .ok (.iload_n 3, 1) := by decide +kernel
theorem dL_law_876 : decode cL_law 876 = .ok (.iconst 1, 1) := by decide +kernel
theorem dL_law_877 : decode cL_law 877 = .ok (.iadd, 1) := by decide +kernel
theorem dL_law_878 : decode cL_law 878 = .ok (.iaload, 1) := by decide +kernel
theorem dL_law_879 : decode cL_law 879 = .ok (.invokevirtual 107, 3) := by decide +kernel
theorem dL_law_882 : decode cL_law 882 = .ok (.pop, 1) := by decide +kernel
theorem dL_law_883 : decode cL_law 883 = .ok (.goto 329, 3) := by decide +kernel
theorem dL_law_886 : decode cL_law 886 = .ok (.aload_n 1, 1) := by decide +kernel
theorem dL_law_887 : decode cL_law 887 = .ok (.aload_n 0, 1) := by decide +kernel
theorem dL_law_888 : decode cL_law 888 = .ok (.iload_n 3, 1) := by decide +kernel
theorem dL_law_889 : decode cL_law 889 = .ok (.iconst 1, 1) := by decide +kernel
theorem dL_law_890 : decode cL_law 890 = .ok (.iadd, 1) := by decide +kernel
theorem dL_law_891 : decode cL_law 891 = .ok (.iaload, 1) := by decide +kernel
theorem dL_law_892 : decode cL_law 892 = .ok (.aload_n 0, 1) := by decide +kernel
theorem dL_law_893 : decode cL_law 893 = .ok (.iload_n 3, 1) := by decide +kernel
theorem dL_law_894 : decode cL_law 894 = .ok (.iconst 2, 1) := by decide +kernel
theorem dL_law_895 : decode cL_law 895 = .ok (.iadd, 1) := by decide +kernel
theorem dL_law_896 : decode cL_law 896 = .ok (.iaload, 1) := by decide +kernel
theorem dL_law_897 : decode cL_law 897 = .ok (.invokevirtual 108, 3) := by decide +kernel
theorem dL_law_900 : decode cL_law 900 = .ok (.pop, 1) := by decide +kernel
theorem dL_law_901 : decode cL_law 901 = .ok (.aload_n 2, 1) := by decide +kernel
theorem dL_law_902 : decode cL_law 902 = .ok (.aload_n 0, 1) := by decide +kernel
theorem dL_law_903 : decode cL_law 903 = .ok (.iload_n 3, 1) := by decide +kernel
theorem dL_law_904 : decode cL_law 904 = .ok (.iconst 1, 1) := by decide +kernel
theorem dL_law_905 : decode cL_law 905 = .ok (.iadd, 1) := by decide +kernel
theorem dL_law_906 : decode cL_law 906 = .ok (.iaload, 1) := by decide +kernel
theorem dL_law_907 : decode cL_law 907 = .ok (.aload_n 0, 1) := by decide +kernel
theorem dL_law_908 : decode cL_law 908 = .ok (.iload_n 3, 1) := by decide +kernel
theorem dL_law_909 : decode cL_law 909 = .ok (.iconst 2, 1) := by decide +kernel
theorem dL_law_910 : decode cL_law 910 = .ok (.iadd, 1) := by decide +kernel
theorem dL_law_911 : decode cL_law 911 = .ok (.iaload, 1) := by decide +kernel
theorem dL_law_912 : decode cL_law 912 = .ok (.invokevirtual 111, 3) := by decide +kernel
theorem dL_law_915 : decode cL_law 915 = .ok (.pop, 1) := by decide +kernel
theorem dL_law_916 : decode cL_law 916 = .ok (.goto 296, 3) := by decide +kernel
theorem dL_law_919 : decode cL_law 919 = .ok (.aload_n 1, 1) := by decide +kernel
theorem dL_law_920 : decode cL_law 920 = .ok (.invokevirtual 112, 3) := by decide +kernel
theorem dL_law_923 : decode cL_law 923 = .ok (.pop, 1) := by decide +kernel
theorem dL_law_924 : decode cL_law 924 = .ok (.aload_n 2, 1) := by decide +kernel
theorem dL_law_925 : decode cL_law 925 = .ok (.invokevirtual 115, 3) := by decide +kernel
theorem dL_law_928 : decode cL_law 928 = .ok (.pop, 1) := by decide +kernel
theorem dL_law_929 : decode cL_law 929 = .ok (.goto 283, 3) := by decide +kernel
theorem dL_law_932 : decode cL_law 932 = .ok (.aload_n 1, 1) := by decide +kernel
theorem dL_law_933 : decode cL_law 933 = .ok (.aload_n 0, 1) := by decide +kernel
theorem dL_law_934 : decode cL_law 934 = .ok (.iload_n 3, 1) := by decide +kernel
theorem dL_law_935 : decode cL_law 935 = .ok (.iconst 1, 1) := by decide +kernel
theorem dL_law_936 : decode cL_law 936 = .ok (.iadd, 1) := by decide +kernel
theorem dL_law_937 : decode cL_law 937 = .ok (.iaload, 1) := by decide +kernel
theorem dL_law_938 : decode cL_law 938 = .ok (.aload_n 0, 1) := by decide +kernel
theorem dL_law_939 : decode cL_law 939 = .ok (.iload_n 3, 1) := by decide +kernel
theorem dL_law_940 : decode cL_law 940 = .ok (.iconst 2, 1) := by decide +kernel
theorem dL_law_941 : decode cL_law 941 = .ok (.iadd, 1) := by decide +kernel
theorem dL_law_942 : decode cL_law 942 = .ok (.iaload, 1) := by decide +kernel
theorem dL_law_943 : decode cL_law 943 = .ok (.aload_n 0, 1) := by decide +kernel
theorem dL_law_944 : decode cL_law 944 = .ok (.iload_n 3, 1) := by decide +kernel
theorem dL_law_945 : decode cL_law 945 = .ok (.iconst 3, 1) := by decide +kernel
theorem dL_law_946 : decode cL_law 946 = .ok (.iadd, 1) := by decide +kernel
theorem dL_law_947 : decode cL_law 947 = .ok (.iaload, 1) := by decide +kernel
theorem dL_law_948 : decode cL_law 948 = .ok (.invokevirtual 116, 3) := by decide +kernel
theorem dL_law_951 : decode cL_law 951 = .ok (.pop, 1) := by decide +kernel
theorem dL_law_952 : decode cL_law 952 = .ok (.aload_n 2, 1) := by decide +kernel
theorem dL_law_953 : decode cL_law 953 = .ok (.aload_n 0, 1) := by decide +kernel
theorem dL_law_954 : decode cL_law 954 = .ok (.iload_n 3, 1) := by decide +kernel
theorem dL_law_955 : decode cL_law 955 = .ok (.iconst 1, 1) := by decide +kernel
theorem dL_law_956 : decode cL_law 956 = .ok (.iadd, 1) := by decide +kernel
theorem dL_law_957 : decode cL_law 957 = .ok (.iaload, 1) := by decide +kernel
theorem dL_law_958 : decode cL_law 958 = .ok (.aload_n 0, 1) := by decide +kernel
theorem dL_law_959 : decode cL_law 959 = .ok (.iload_n 3, 1) := by decide +kernel
theorem dL_law_960 : decode cL_law 960 = .ok (.iconst 2, 1) := by decide +kernel
theorem dL_law_961 : decode cL_law 961 = .ok (.iadd, 1) := by decide +kernel
theorem dL_law_962 : decode cL_law 962 = .ok (.iaload, 1) := by decide +kernel
theorem dL_law_963 : decode cL_law 963 = .ok (.aload_n 0, 1) := by decide +kernel
theorem dL_law_964 : decode cL_law 964 = .ok (.iload_n 3, 1) := by decide +kernel
theorem dL_law_965 : decode cL_law 965 = .ok (.iconst 3, 1) := by decide +kernel
theorem dL_law_966 : decode cL_law 966 = .ok (.iadd, 1) := by decide +kernel
theorem dL_law_967 : decode cL_law 967 = .ok (.iaload, 1) := by decide +kernel
theorem dL_law_968 : decode cL_law 968 = .ok (.invokevirtual 119, 3) := by decide +kernel
theorem dL_law_971 : decode cL_law 971 = .ok (.pop, 1) := by decide +kernel
theorem dL_law_972 : decode cL_law 972 = .ok (.goto 240, 3) := by decide +kernel
theorem dL_law_975 : decode cL_law 975 = .ok (.aload_n 1, 1) := by decide +kernel
theorem dL_law_976 : decode cL_law 976 = .ok (.aload_n 0, 1) := by decide +kernel
theorem dL_law_977 : decode cL_law 977 = .ok (.iload_n 3, 1) := by decide +kernel
theorem dL_law_978 : decode cL_law 978 = .ok (.iconst 1, 1) := by decide +kernel
theorem dL_law_979 : decode cL_law 979 = .ok (.iadd, 1) := by decide +kernel
theorem dL_law_980 : decode cL_law 980 = .ok (.iaload, 1) := by decide +kernel
theorem dL_law_981 : decode cL_law 981 = .ok (.invokevirtual 120, 3) := by decide +kernel
theorem dL_law_984 : decode cL_law 984 = .ok (.pop, 1) := by decide +kernel
theorem dL_law_985 : decode cL_law 985 = .ok (.aload_n 2, 1) := by decide +kernel
theorem dL_law_986 : decode cL_law 986 = .ok (.aload_n 0, 1) := by decide +kernel
theorem dL_law_987 : decode cL_law 987 = .ok (.iload_n 3, 1) := by decide +kernel
theorem dL_law_988 : decode cL_law 988 = .ok (.iconst 1, 1) := by decide +kernel
theorem dL_law_989 : decode cL_law 989 = .ok (.iadd, 1) := by decide +kernel
theorem dL_law_990 : decode cL_law 990 = .ok (.iaload, 1) := by decide +kernel
theorem dL_law_991 : decode cL_law 991 = .ok (.invokevirtual 123, 3) := by decide +kernel
theorem dL_law_994 : decode cL_law 994 = .ok (.pop, 1) := by decide +kernel
theorem dL_law_995 : decode cL_law 995 = .ok (.goto 217, 3) := by decide +kernel
theorem dL_law_998 : decode cL_law 998 = .ok (.aload_n 1, 1) := by decide +kernel
theorem dL_law_999 : decode cL_law 999 = .ok (.aload_n 0, 1) := by decide +kernel
theorem dL_law_1000 : decode cL_law 1000 = .ok (.iload_n 3, 1) := by decide +kernel
theorem dL_law_1001 : decode cL_law 1001 = .ok (.iconst 1, 1) := by decide +kernel
theorem dL_law_1002 : decode cL_law 1002 = .ok (.iadd, 1) := by decide +kernel
theorem dL_law_1003 : decode cL_law 1003 = .ok (.iaload, 1) := by decide +kernel
theorem dL_law_1004 : decode cL_law 1004 = .ok (.aload_n 0, 1) := by decide +kernel
theorem dL_law_1005 : decode cL_law 1005 = .ok (.iload_n 3, 1) := by decide +kernel
theorem dL_law_1006 : decode cL_law 1006 = .ok (.iconst 2, 1) := by decide +kernel
theorem dL_law_1007 : decode cL_law 1007 = .ok (.iadd, 1) := by decide +kernel
theorem dL_law_1008 : decode cL_law 1008 = .ok (.iaload, 1) := by decide +kernel
theorem dL_law_1009 : decode cL_law 1009 = .ok (.aload_n 0, 1) := by decide +kernel
theorem dL_law_1010 : decode cL_law 1010 = .ok (.iload_n 3, 1) := by decide +kernel
theorem dL_law_1011 : decode cL_law 1011 = .ok (.iconst 3, 1) := by decide +kernel
theorem dL_law_1012 : decode cL_law 1012 = .ok (.iadd, 1) := by decide +kernel
theorem dL_law_1013 : decode cL_law 1013 = .ok (.iaload, 1) := by decide +kernel
theorem dL_law_1014 : decode cL_law 1014 = .ok (.invokevirtual 124, 3) := by decide +kernel
theorem dL_law_1017 : decode cL_law 1017 = .ok (.pop, 1) := by decide +kernel
theorem dL_law_1018 : decode cL_law 1018 = .ok (.aload_n 2, 1) := by decide +kernel
theorem dL_law_1019 : decode cL_law 1019 = .ok (.aload_n 0, 1) := by decide +kernel
theorem dL_law_1020 : decode cL_law 1020 = .ok (.iload_n 3, 1) := by decide +kernel
theorem dL_law_1021 : decode cL_law 1021 = .ok (.iconst 1, 1) := by decide +kernel
theorem dL_law_1022 : decode cL_law 1022 = .ok (.iadd, 1) := by decide +kernel
theorem dL_law_1023 : decode cL_law 1023 = .ok (.iaload, 1) := by decide +kernel
theorem dL_law_1024 : decode cL_law 1024 = .ok (.aload_n 0, 1) := by decide +kernel
theorem dL_law_1025 : decode cL_law 1025 = .ok (.iload_n 3, 1) := by decide +kernel
theorem dL_law_1026 : decode cL_law 1026 = .ok (.iconst 2, 1) := by decide +kernel
theorem dL_law_1027 : decode cL_law 1027 = .ok (.iadd, 1) := by decide +kernel
theorem dL_law_1028 : decode cL_law 1028 = .ok (.iaload, 1) := by decide +kernel
theorem dL_law_1029 : decode cL_law 1029 = .ok (.aload_n 0, 1) := by decide +kernel
theorem dL_law_1030 : decode cL_law 1030 = .ok (.iload_n 3, 1) := by decide +kernel
theorem dL_law_1031 : decode cL_law 1031 = .ok (.iconst 3, 1) := by decide +kernel
theorem dL_law_1032 : decode cL_law 1032 = .ok (.iadd, 1) := by decide +kernel
theorem dL_law_1033 : decode cL_law 1033 = .ok (.iaload, 1) := by decide +kernel
theorem dL_law_1034 : decode cL_law 1034 = .ok (.invokevirtual 127, 3) := by decide +kernel
theorem dL_law_1037 : decode cL_law 1037 = .ok (.pop, 1) := by decide +kernel
theorem dL_law_1038 : decode cL_law 1038 = .ok (.goto 174, 3) := by decide +kernel
theorem dL_law_1041 : decode cL_law 1041 = .ok (.aload_n 1, 1) := by decide +kernel
theorem dL_law_1042 : decode cL_law 1042 = .ok (.aload_n 0, 1) := by decide +kernel
theorem dL_law_1043 : decode cL_law 1043 = .ok (.iload_n 3, 1) := by decide +kernel
theorem dL_law_1044 : decode cL_law 1044 = .ok (.iconst 1, 1) := by decide +kernel
theorem dL_law_1045 : decode cL_law 1045 = .ok (.iadd, 1) := by decide +kernel
theorem dL_law_1046 : decode cL_law 1046 = .ok (.iaload, 1) := by decide +kernel
theorem dL_law_1047 : decode cL_law 1047 = .ok (.aload_n 0, 1) := by decide +kernel
theorem dL_law_1048 : decode cL_law 1048 = .ok (.iload_n 3, 1) := by decide +kernel
theorem dL_law_1049 : decode cL_law 1049 = .ok (.iconst 2, 1) := by decide +kernel
theorem dL_law_1050 : decode cL_law 1050 = .ok (.iadd, 1) := by decide +kernel
theorem dL_law_1051 : decode cL_law 1051 = .ok (.iaload, 1) := by decide +kernel
theorem dL_law_1052 : decode cL_law 1052 = .ok (.aload_n 0, 1) := by decide +kernel
theorem dL_law_1053 : decode cL_law 1053 = .ok (.iload_n 3, 1) := by decide +kernel
theorem dL_law_1054 : decode cL_law 1054 = .ok (.iconst 3, 1) := by decide +kernel
theorem dL_law_1055 : decode cL_law 1055 = .ok (.iadd, 1) := by decide +kernel
theorem dL_law_1056 : decode cL_law 1056 = .ok (.iaload, 1) := by decide +kernel
theorem dL_law_1057 : decode cL_law 1057 = .ok (.invokevirtual 128, 3) := by decide +kernel
theorem dL_law_1060 : decode cL_law 1060 = .ok (.pop2, 1) := by decide +kernel
theorem dL_law_1061 : decode cL_law 1061 = .ok (.aload_n 2, 1) := by decide +kernel
theorem dL_law_1062 : decode cL_law 1062 = .ok (.aload_n 0, 1) := by decide +kernel
theorem dL_law_1063 : decode cL_law 1063 = .ok (.iload_n 3, 1) := by decide +kernel
theorem dL_law_1064 : decode cL_law 1064 = .ok (.iconst 1, 1) := by decide +kernel
theorem dL_law_1065 : decode cL_law 1065 = .ok (.iadd, 1) := by decide +kernel
theorem dL_law_1066 : decode cL_law 1066 = .ok (.iaload, 1) := by decide +kernel
theorem dL_law_1067 : decode cL_law 1067 = .ok (.aload_n 0, 1) := by decide +kernel
theorem dL_law_1068 : decode cL_law 1068 = .ok (.iload_n 3, 1) := by decide +kernel
theorem dL_law_1069 : decode cL_law 1069 = .ok (.iconst 2, 1) := by decide +kernel
theorem dL_law_1070 : decode cL_law 1070 = .ok (.iadd, 1) := by decide +kernel
theorem dL_law_1071 : decode cL_law 1071 = .ok (.iaload, 1) := by decide +kernel
theorem dL_law_1072 : decode cL_law 1072 = .ok (.aload_n 0, 1) := by decide +kernel
theorem dL_law_1073 : decode cL_law 1073 = .ok (.iload_n 3, 1) := by decide +kernel
theorem dL_law_1074 : decode cL_law 1074 = .ok (.iconst 3, 1) := by decide +kernel
theorem dL_law_1075 : decode cL_law 1075 = .ok (.iadd, 1) := by decide +kernel
theorem dL_law_1076 : decode cL_law 1076 = .ok (.iaload, 1) := by decide +kernel
theorem dL_law_1077 : decode cL_law 1077 = .ok (.invokevirtual 132, 3) := by decide +kernel
theorem dL_law_1080 : decode cL_law 1080 = .ok (.pop2, 1) := by decide +kernel
theorem dL_law_1081 : decode cL_law 1081 = .ok (.goto 131, 3) := by decide +kernel
theorem dL_law_1084 : decode cL_law 1084 = .ok (.aload_n 1, 1) := by decide +kernel
theorem dL_law_1085 : decode cL_law 1085 = .ok (.aload_n 0, 1) := by decide +kernel
theorem dL_law_1086 : decode cL_law 1086 = .ok (.iload_n 3, 1) := by decide +kernel
theorem dL_law_1087 : decode cL_law 1087 = .ok (.iconst 1, 1) := by decide +kernel
theorem dL_law_1088 : decode cL_law 1088 = .ok (.iadd, 1) := by decide +kernel
theorem dL_law_1089 : decode cL_law 1089 = .ok (.iaload, 1) := by decide +kernel
theorem dL_law_1090 : decode cL_law 1090 = .ok (.invokevirtual 133, 3) := by decide +kernel
theorem dL_law_1093 : decode cL_law 1093 = .ok (.pop, 1) := by decide +kernel
theorem dL_law_1094 : decode cL_law 1094 = .ok (.aload_n 2, 1) := by decide +kernel
theorem dL_law_1095 : decode cL_law 1095 = .ok (.aload_n 0, 1) := by decide +kernel
theorem dL_law_1096 : decode cL_law 1096 = .ok (.iload_n 3, 1) := by decide +kernel
theorem dL_law_1097 : decode cL_law 1097 = .ok (.iconst 1, 1) := by decide +kernel
theorem dL_law_1098 : decode cL_law 1098 = .ok (.iadd, 1) := by decide +kernel
theorem dL_law_1099 : decode cL_law 1099 = .ok (.iaload, 1) := by decide +kernel
theorem dL_law_1100 : decode cL_law 1100 = .ok (.invokevirtual 136, 3) := by decide +kernel
theorem dL_law_1103 : decode cL_law 1103 = .ok (.pop, 1) := by decide +kernel
theorem dL_law_1104 : decode cL_law 1104 = .ok (.goto 108, 3) := by decide +kernel
theorem dL_law_1107 : decode cL_law 1107 = .ok (.aload_n 1, 1) := by decide +kernel
theorem dL_law_1108 : decode cL_law 1108 = .ok (.aload_n 0, 1) := by decide +kernel
theorem dL_law_1109 : decode cL_law 1109 = .ok (.iload_n 3, 1) := by decide +kernel
theorem dL_law_1110 : decode cL_law 1110 = .ok (.iconst 1, 1) := by decide +kernel
theorem dL_law_1111 : decode cL_law 1111 = .ok (.iadd, 1) := by decide +kernel
theorem dL_law_1112 : decode cL_law 1112 = .ok (.iaload, 1) := by decide +kernel
theorem dL_law_1113 : decode cL_law 1113 = .ok (.invokevirtual 137, 3) := by decide +kernel
theorem dL_law_1116 : decode cL_law 1116 = .ok (.pop, 1) := by decide +kernel
theorem dL_law_1117 : decode cL_law 1117 = .ok (.aload_n 2, 1) := by decide +kernel
theorem dL_law_1118 : decode cL_law 1118 = .ok (.aload_n 0, 1) := by decide +kernel
theorem dL_law_1119 : decode cL_law 1119 = .ok (.iload_n 3, 1) := by decide +kernel
theorem dL_law_1120 : decode cL_law 1120 = .ok (.iconst 1, 1) := by decide +kernel
theorem dL_law_1121 : decode cL_law 1121 = .ok (.iadd, 1) := by decide +kernel
theorem dL_law_1122 : decode cL_law 1122 = .ok (.iaload, 1) := by decide +kernel
theorem dL_law_1123 : decode cL_law 1123 = .ok (.invokevirtual 140, 3) := by decide +kernel
theorem dL_law_1126 : decode cL_law 1126 = .ok (.pop, 1) := by decide +kernel
theorem dL_law_1127 : decode cL_law 1127 = .ok (.goto 85, 3) := by decide +kernel
theorem dL_law_1130 : decode cL_law 1130 = .ok (.aload_n 1, 1) := by decide +kernel
theorem dL_law_1131 : decode cL_law 1131 = .ok (.aload_n 0, 1) := by decide +kernel
theorem dL_law_1132 : decode cL_law 1132 = .ok (.iload_n 3, 1) := by decide +kernel
theorem dL_law_1133 : decode cL_law 1133 = .ok (.iconst 1, 1) := by decide +kernel
theorem dL_law_1134 : decode cL_law 1134 = .ok (.iadd, 1) := by decide +kernel
theorem dL_law_1135 : decode cL_law 1135 = .ok (.iaload, 1) := by decide +kernel
theorem dL_law_1136 : decode cL_law 1136 = .ok (.aload_n 0, 1) := by decide +kernel
theorem dL_law_1137 : decode cL_law 1137 = .ok (.iload_n 3, 1) := by decide +kernel
theorem dL_law_1138 : decode cL_law 1138 = .ok (.iconst 2, 1) := by decide +kernel
theorem dL_law_1139 : decode cL_law 1139 = .ok (.iadd, 1) := by decide +kernel
theorem dL_law_1140 : decode cL_law 1140 = .ok (.iaload, 1) := by decide +kernel
theorem dL_law_1141 : decode cL_law 1141 = .ok (.invokevirtual 141, 3) := by decide +kernel
theorem dL_law_1144 : decode cL_law 1144 = .ok (.pop, 1) := by decide +kernel
theorem dL_law_1145 : decode cL_law 1145 = .ok (.aload_n 2, 1) := by decide +kernel
theorem dL_law_1146 : decode cL_law 1146 = .ok (.aload_n 0, 1) := by decide +kernel
theorem dL_law_1147 : decode cL_law 1147 = .ok (.iload_n 3, 1) := by decide +kernel
theorem dL_law_1148 : decode cL_law 1148 = .ok (.iconst 1, 1) := by decide +kernel
theorem dL_law_1149 : decode cL_law 1149 = .ok (.iadd, 1) := by decide +kernel
theorem dL_law_1150 : decode cL_law 1150 = .ok (.iaload, 1) := by decide +kernel
theorem dL_law_1151 : decode cL_law 1151 = .ok (.aload_n 0, 1) := by decide +kernel
theorem dL_law_1152 : decode cL_law 1152 = .ok (.iload_n 3, 1) := by decide +kernel
theorem dL_law_1153 : decode cL_law 1153 = .ok (.iconst 2, 1) := by decide +kernel
theorem dL_law_1154 : decode cL_law 1154 = .ok (.iadd, 1) := by decide +kernel
theorem dL_law_1155 : decode cL_law 1155 = .ok (.iaload, 1) := by decide +kernel
theorem dL_law_1156 : decode cL_law 1156 = .ok (.invokevirtual 144, 3) := by decide +kernel
theorem dL_law_1159 : decode cL_law 1159 = .ok (.pop, 1) := by decide +kernel
theorem dL_law_1160 : decode cL_law 1160 = .ok (.goto 52, 3) := by decide +kernel
theorem dL_law_1163 : decode cL_law 1163 = .ok (.aload_n 1, 1) := by decide +kernel
theorem dL_law_1164 : decode cL_law 1164 = .ok (.invokevirtual 145, 3) := by decide +kernel
theorem dL_law_1167 : decode cL_law 1167 = .ok (.pop, 1) := by decide +kernel
theorem dL_law_1168 : decode cL_law 1168 = .ok (.aload_n 2, 1) := by decide +kernel
theorem dL_law_1169 : decode cL_law 1169 = .ok (.invokevirtual 148, 3) := by decide +kernel
theorem dL_law_1172 : decode cL_law 1172 = .ok (.pop, 1) := by decide +kernel
theorem dL_law_1173 : decode cL_law 1173 = .ok (.goto 39, 3) := by decide +kernel
theorem dL_law_1176 : decode cL_law 1176 = .ok (.aload_n 1, 1) := by decide +kernel
theorem dL_law_1177 : decode cL_law 1177 = .ok (.invokevirtual 149, 3) := by decide +kernel
theorem dL_law_1180 : decode cL_law 1180 = .ok (.pop, 1) := by decide +kernel
theorem dL_law_1181 : decode cL_law 1181 = .ok (.aload_n 2, 1) := by decide +kernel
theorem dL_law_1182 : decode cL_law 1182 = .ok (.invokevirtual 152, 3) := by decide +kernel
theorem dL_law_1185 : decode cL_law 1185 = .ok (.pop, 1) := by decide +kernel
theorem dL_law_1186 : decode cL_law 1186 = .ok (.goto 26, 3) := by decide +kernel
theorem dL_law_1189 : decode cL_law 1189 = .ok (.aload_n 1, 1) := by decide +kernel
theorem dL_law_1190 : decode cL_law 1190 = .ok (.aload_n 0, 1) := by decide +kernel
theorem dL_law_1191 : decode cL_law 1191 = .ok (.iload_n 3, 1) := by decide +kernel
theorem dL_law_1192 : decode cL_law 1192 = .ok (.iconst 1, 1) := by decide +kernel
theorem dL_law_1193 : decode cL_law 1193 = .ok (.iadd, 1) := by decide +kernel
theorem dL_law_1194 : decode cL_law 1194 = .ok (.iaload, 1) := by decide +kernel
theorem dL_law_1195 : decode cL_law 1195 = .ok (.invokevirtual 153, 3) := by decide +kernel
theorem dL_law_1198 : decode cL_law 1198 = .ok (.aload_n 2, 1) := by decide +kernel
theorem dL_law_1199 : decode cL_law 1199 = .ok (.aload_n 0, 1) := by decide +kernel
theorem dL_law_1200 : decode cL_law 1200 = .ok (.iload_n 3, 1) := by decide +kernel
theorem dL_law_1201 : decode cL_law 1201 = .ok (.iconst 1, 1) := by decide +kernel
theorem dL_law_1202 : decode cL_law 1202 = .ok (.iadd, 1) := by decide +kernel
theorem dL_law_1203 : decode cL_law 1203 = .ok (.iaload, 1) := by decide +kernel
theorem dL_law_1204 : decode cL_law 1204 = .ok (.invokevirtual 156, 3) := by decide +kernel
theorem dL_law_1207 : decode cL_law 1207 = .ok (.if_icmp .eq 5, 3) := by decide +kernel
theorem dL_law_1210 : decode cL_law 1210 = .ok (.iconst 0, 1) := by decide +kernel
theorem dL_law_1211 : decode cL_law 1211 = .ok (.ireturn, 1) := by decide +kernel
theorem dL_law_1212 : decode cL_law 1212 = .ok (.iinc 3 6, 3) := by decide +kernel
theorem dL_law_1215 : decode cL_law 1215 = .ok (.goto (-1197), 3) := by decide +kernel
theorem dL_law_1218 : decode cL_law 1218 = .ok (.iconst 1, 1) := by decide +kernel
theorem dL_law_1219 : decode cL_law 1219 = .ok (.ireturn, 1) := by decide +kernel
def L_0 (L : Nat) (xs : Nat → Int32) (P : Int32 → Mem → Mem → Prop) (x3 : Int32) (μX μM : Mem) : Prop :=
  vp_in (x3 + 1) L ∧ vp_in (x3 + 2) L ∧ vp_in (x3 + 3) L ∧ vp_in (x3 + 4) L ∧ T_X11_shop (xs (x3 + 1).toNatClampNeg) (xs (x3 + 2).toNatClampNeg) (xs (x3 + 3).toNatClampNeg) (xs (x3 + 4).toNatClampNeg) μX (fun (u5 : Int32) (μ6 : Mem) => vp_in (x3 + 1) L ∧ vp_in (x3 + 2) L ∧ vp_in (x3 + 3) L ∧ vp_in (x3 + 4) L ∧ T_X12_shop (xs (x3 + 1).toNatClampNeg) (xs (x3 + 2).toNatClampNeg) (xs (x3 + 3).toNatClampNeg) (xs (x3 + 4).toNatClampNeg) μM (fun (u11 : Int32) (μ12 : Mem) => P (x3 + 6) μ6 μ12))
theorem lq_0 {X : Cx} {l : Launch} {D : va_G} {A : Nat → Prop} {b L : Nat} {xs : Nat → Int32} {aX aM : Nat → Nat} {cA cR : ClassId} (g : Gd X (aX, cA, cR, []) RL cL_law 4 room_1) (hX : atX X l D A) (hS : SX X b L xs) (hQ : LQ X b) (P : Int32 → Mem → Mem → Prop) (hP : ∀ (x3 : Int32) (μX μM : Mem), P x3 μX μM → V X 18 [(0, .ref b), (1, .ref (aX 0)), (2, .ref (aM 0)), (3, .int x3)] [] (W2 aX aM cA cR μX μM)) (x3 : Int32) (μX μM : Mem) (h : L_0 L xs P x3 μX μM) : V X 184 [(0, .ref b), (1, .ref (aX 0)), (2, .ref (aM 0)), (3, .int x3)] [] (W2 aX aM cA cR μX μM) := by
  refine r_aload_n (pc := 184) 1 g dL_law_184 rfl ?_
  refine r_aload_n (pc := 185) 0 g dL_law_185 rfl ?_
  refine r_iload_n (pc := 186) 3 g dL_law_186 rfl ?_
  refine r_iconst (pc := 187) g dL_law_187 ci_1 ?_
  refine r_iadd (pc := 188) g dL_law_188 ?_
  obtain ⟨b1, h⟩ := h
  refine r_sld (pc := 189) g hS dL_law_189 b1 ?_
  refine r_aload_n (pc := 190) 0 g dL_law_190 rfl ?_
  refine r_iload_n (pc := 191) 3 g dL_law_191 rfl ?_
  refine r_iconst (pc := 192) g dL_law_192 ci_2 ?_
  refine r_iadd (pc := 193) g dL_law_193 ?_
  obtain ⟨b2, h⟩ := h
  refine r_sld (pc := 194) g hS dL_law_194 b2 ?_
  refine r_aload_n (pc := 195) 0 g dL_law_195 rfl ?_
  refine r_iload_n (pc := 196) 3 g dL_law_196 rfl ?_
  refine r_iconst (pc := 197) g dL_law_197 ci_3 ?_
  refine r_iadd (pc := 198) g dL_law_198 ?_
  obtain ⟨b3, h⟩ := h
  refine r_sld (pc := 199) g hS dL_law_199 b3 ?_
  refine r_aload_n (pc := 200) 0 g dL_law_200 rfl ?_
  refine r_iload_n (pc := 201) 3 g dL_law_201 rfl ?_
  refine r_iconst (pc := 202) g dL_law_202 ci_4 ?_
  refine r_iadd (pc := 203) g dL_law_203 ?_
  obtain ⟨b4, h⟩ := h
  refine r_sld (pc := 204) g hS dL_law_204 b4 ?_
  refine l_callXi (pc := 205) (st := []) g hX dL_law_205 (m_X11_shop (xs (x3 + 1).toNatClampNeg) (xs (x3 + 2).toNatClampNeg) (xs (x3 + 3).toNatClampNeg) (xs (x3 + 4).toNatClampNeg) μX _ h) kb_RL_13 kv_X11_shop sX_0 rfl rfl rfl rfl (fun u5 μ6 h => ?_)
  refine r_pop (pc := 208) g dL_law_208 rfl ?_
  refine r_aload_n (pc := 209) 2 g dL_law_209 rfl ?_
  refine r_aload_n (pc := 210) 0 g dL_law_210 rfl ?_
  refine r_iload_n (pc := 211) 3 g dL_law_211 rfl ?_
  refine r_iconst (pc := 212) g dL_law_212 ci_1 ?_
  refine r_iadd (pc := 213) g dL_law_213 ?_
  obtain ⟨b7, h⟩ := h
  refine r_sld (pc := 214) g hS dL_law_214 b7 ?_
  refine r_aload_n (pc := 215) 0 g dL_law_215 rfl ?_
  refine r_iload_n (pc := 216) 3 g dL_law_216 rfl ?_
  refine r_iconst (pc := 217) g dL_law_217 ci_2 ?_
  refine r_iadd (pc := 218) g dL_law_218 ?_
  obtain ⟨b8, h⟩ := h
  refine r_sld (pc := 219) g hS dL_law_219 b8 ?_
  refine r_aload_n (pc := 220) 0 g dL_law_220 rfl ?_
  refine r_iload_n (pc := 221) 3 g dL_law_221 rfl ?_
  refine r_iconst (pc := 222) g dL_law_222 ci_3 ?_
  refine r_iadd (pc := 223) g dL_law_223 ?_
  obtain ⟨b9, h⟩ := h
  refine r_sld (pc := 224) g hS dL_law_224 b9 ?_
  refine r_aload_n (pc := 225) 0 g dL_law_225 rfl ?_
  refine r_iload_n (pc := 226) 3 g dL_law_226 rfl ?_
  refine r_iconst (pc := 227) g dL_law_227 ci_4 ?_
  refine r_iadd (pc := 228) g dL_law_228 ?_
  obtain ⟨b10, h⟩ := h
  refine r_sld (pc := 229) g hS dL_law_229 b10 ?_
  refine l_callMi (pc := 230) (st := []) g hX dL_law_230 (m_X12_shop (xs (x3 + 1).toNatClampNeg) (xs (x3 + 2).toNatClampNeg) (xs (x3 + 3).toNatClampNeg) (xs (x3 + 4).toNatClampNeg) μM _ h) kb_RL_17 kv_X12_shop sM_0 rfl rfl rfl rfl (fun u11 μ12 h => ?_)
  refine r_pop (pc := 233) g dL_law_233 rfl ?_
  refine r_goto (pc := 234) 1212 g dL_law_234 rfl ?_
  refine r_iinc (pc := 1212) (lv' := [(3, .int (x3 + 6)), (0, .ref b), (1, .ref (aX 0)), (2, .ref (aM 0))]) 3 g dL_law_1212 rfl ci_6 rfl rfl ?_
  refine r_goto (pc := 1215) 18 g dL_law_1215 rfl ?_
  refine r_sub [1, 2, 3, 0] (lv' := [(0, .ref b), (1, .ref (aX 0)), (2, .ref (aM 0)), (3, .int (x3 + 6))]) rfl ?_
  exact hP (x3 + 6) μ6 μ12 h
def L_1 (L : Nat) (xs : Nat → Int32) (P : Int32 → Mem → Mem → Prop) (x3 : Int32) (μX μM : Mem) : Prop :=
  vp_in (x3 + 1) L ∧ vp_in (x3 + 2) L ∧ T_X11_work (xs (x3 + 1).toNatClampNeg) (xs (x3 + 2).toNatClampNeg) μX (fun (u3 : Int32) (μ4 : Mem) => vp_in (x3 + 1) L ∧ vp_in (x3 + 2) L ∧ T_X12_work (xs (x3 + 1).toNatClampNeg) (xs (x3 + 2).toNatClampNeg) μM (fun (u7 : Int32) (μ8 : Mem) => P (x3 + 6) μ4 μ8))
theorem lq_1 {X : Cx} {l : Launch} {D : va_G} {A : Nat → Prop} {b L : Nat} {xs : Nat → Int32} {aX aM : Nat → Nat} {cA cR : ClassId} (g : Gd X (aX, cA, cR, []) RL cL_law 4 room_1) (hX : atX X l D A) (hS : SX X b L xs) (hQ : LQ X b) (P : Int32 → Mem → Mem → Prop) (hP : ∀ (x3 : Int32) (μX μM : Mem), P x3 μX μM → V X 18 [(0, .ref b), (1, .ref (aX 0)), (2, .ref (aM 0)), (3, .int x3)] [] (W2 aX aM cA cR μX μM)) (x3 : Int32) (μX μM : Mem) (h : L_1 L xs P x3 μX μM) : V X 237 [(0, .ref b), (1, .ref (aX 0)), (2, .ref (aM 0)), (3, .int x3)] [] (W2 aX aM cA cR μX μM) := by
  refine r_aload_n (pc := 237) 1 g dL_law_237 rfl ?_
  refine r_aload_n (pc := 238) 0 g dL_law_238 rfl ?_
  refine r_iload_n (pc := 239) 3 g dL_law_239 rfl ?_
  refine r_iconst (pc := 240) g dL_law_240 ci_1 ?_
  refine r_iadd (pc := 241) g dL_law_241 ?_
  obtain ⟨b1, h⟩ := h
  refine r_sld (pc := 242) g hS dL_law_242 b1 ?_
  refine r_aload_n (pc := 243) 0 g dL_law_243 rfl ?_
  refine r_iload_n (pc := 244) 3 g dL_law_244 rfl ?_
  refine r_iconst (pc := 245) g dL_law_245 ci_2 ?_
  refine r_iadd (pc := 246) g dL_law_246 ?_
  obtain ⟨b2, h⟩ := h
  refine r_sld (pc := 247) g hS dL_law_247 b2 ?_
  refine l_callXi (pc := 248) (st := []) g hX dL_law_248 (m_X11_work (xs (x3 + 1).toNatClampNeg) (xs (x3 + 2).toNatClampNeg) μX _ h) kb_RL_18 kv_X11_work sX_0 rfl rfl rfl rfl (fun u3 μ4 h => ?_)
  refine r_pop (pc := 251) g dL_law_251 rfl ?_
  refine r_aload_n (pc := 252) 2 g dL_law_252 rfl ?_
  refine r_aload_n (pc := 253) 0 g dL_law_253 rfl ?_
  refine r_iload_n (pc := 254) 3 g dL_law_254 rfl ?_
  refine r_iconst (pc := 255) g dL_law_255 ci_1 ?_
  refine r_iadd (pc := 256) g dL_law_256 ?_
  obtain ⟨b5, h⟩ := h
  refine r_sld (pc := 257) g hS dL_law_257 b5 ?_
  refine r_aload_n (pc := 258) 0 g dL_law_258 rfl ?_
  refine r_iload_n (pc := 259) 3 g dL_law_259 rfl ?_
  refine r_iconst (pc := 260) g dL_law_260 ci_2 ?_
  refine r_iadd (pc := 261) g dL_law_261 ?_
  obtain ⟨b6, h⟩ := h
  refine r_sld (pc := 262) g hS dL_law_262 b6 ?_
  refine l_callMi (pc := 263) (st := []) g hX dL_law_263 (m_X12_work (xs (x3 + 1).toNatClampNeg) (xs (x3 + 2).toNatClampNeg) μM _ h) kb_RL_22 kv_X12_work sM_0 rfl rfl rfl rfl (fun u7 μ8 h => ?_)
  refine r_pop (pc := 266) g dL_law_266 rfl ?_
  refine r_goto (pc := 267) 1212 g dL_law_267 rfl ?_
  refine r_iinc (pc := 1212) (lv' := [(3, .int (x3 + 6)), (0, .ref b), (1, .ref (aX 0)), (2, .ref (aM 0))]) 3 g dL_law_1212 rfl ci_6 rfl rfl ?_
  refine r_goto (pc := 1215) 18 g dL_law_1215 rfl ?_
  refine r_sub [1, 2, 3, 0] (lv' := [(0, .ref b), (1, .ref (aX 0)), (2, .ref (aM 0)), (3, .int (x3 + 6))]) rfl ?_
  exact hP (x3 + 6) μ4 μ8 h
def L_2 (L : Nat) (xs : Nat → Int32) (P : Int32 → Mem → Mem → Prop) (x3 : Int32) (μX μM : Mem) : Prop :=
  vp_in (x3 + 1) L ∧ vp_in (x3 + 2) L ∧ T_X11_ofWork (xs (x3 + 1).toNatClampNeg) (xs (x3 + 2).toNatClampNeg) μX (fun (u3 : Int32) (μ4 : Mem) => vp_in (x3 + 1) L ∧ vp_in (x3 + 2) L ∧ T_X12_ofWork (xs (x3 + 1).toNatClampNeg) (xs (x3 + 2).toNatClampNeg) μM (fun (u7 : Int32) (μ8 : Mem) => P (x3 + 6) μ4 μ8))
theorem lq_2 {X : Cx} {l : Launch} {D : va_G} {A : Nat → Prop} {b L : Nat} {xs : Nat → Int32} {aX aM : Nat → Nat} {cA cR : ClassId} (g : Gd X (aX, cA, cR, []) RL cL_law 4 room_1) (hX : atX X l D A) (hS : SX X b L xs) (hQ : LQ X b) (P : Int32 → Mem → Mem → Prop) (hP : ∀ (x3 : Int32) (μX μM : Mem), P x3 μX μM → V X 18 [(0, .ref b), (1, .ref (aX 0)), (2, .ref (aM 0)), (3, .int x3)] [] (W2 aX aM cA cR μX μM)) (x3 : Int32) (μX μM : Mem) (h : L_2 L xs P x3 μX μM) : V X 270 [(0, .ref b), (1, .ref (aX 0)), (2, .ref (aM 0)), (3, .int x3)] [] (W2 aX aM cA cR μX μM) := by
  refine r_aload_n (pc := 270) 1 g dL_law_270 rfl ?_
  refine r_aload_n (pc := 271) 0 g dL_law_271 rfl ?_
  refine r_iload_n (pc := 272) 3 g dL_law_272 rfl ?_
  refine r_iconst (pc := 273) g dL_law_273 ci_1 ?_
  refine r_iadd (pc := 274) g dL_law_274 ?_
  obtain ⟨b1, h⟩ := h
  refine r_sld (pc := 275) g hS dL_law_275 b1 ?_
  refine r_aload_n (pc := 276) 0 g dL_law_276 rfl ?_
  refine r_iload_n (pc := 277) 3 g dL_law_277 rfl ?_
  refine r_iconst (pc := 278) g dL_law_278 ci_2 ?_
  refine r_iadd (pc := 279) g dL_law_279 ?_
  obtain ⟨b2, h⟩ := h
  refine r_sld (pc := 280) g hS dL_law_280 b2 ?_
  refine l_callXi (pc := 281) (st := []) g hX dL_law_281 (m_X11_ofWork (xs (x3 + 1).toNatClampNeg) (xs (x3 + 2).toNatClampNeg) μX _ h) kb_RL_23 kv_X11_ofWork sX_0 rfl rfl rfl rfl (fun u3 μ4 h => ?_)
  refine r_pop (pc := 284) g dL_law_284 rfl ?_
  refine r_aload_n (pc := 285) 2 g dL_law_285 rfl ?_
  refine r_aload_n (pc := 286) 0 g dL_law_286 rfl ?_
  refine r_iload_n (pc := 287) 3 g dL_law_287 rfl ?_
  refine r_iconst (pc := 288) g dL_law_288 ci_1 ?_
  refine r_iadd (pc := 289) g dL_law_289 ?_
  obtain ⟨b5, h⟩ := h
  refine r_sld (pc := 290) g hS dL_law_290 b5 ?_
  refine r_aload_n (pc := 291) 0 g dL_law_291 rfl ?_
  refine r_iload_n (pc := 292) 3 g dL_law_292 rfl ?_
  refine r_iconst (pc := 293) g dL_law_293 ci_2 ?_
  refine r_iadd (pc := 294) g dL_law_294 ?_
  obtain ⟨b6, h⟩ := h
  refine r_sld (pc := 295) g hS dL_law_295 b6 ?_
  refine l_callMi (pc := 296) (st := []) g hX dL_law_296 (m_X12_ofWork (xs (x3 + 1).toNatClampNeg) (xs (x3 + 2).toNatClampNeg) μM _ h) kb_RL_26 kv_X12_ofWork sM_0 rfl rfl rfl rfl (fun u7 μ8 h => ?_)
  refine r_pop (pc := 299) g dL_law_299 rfl ?_
  refine r_goto (pc := 300) 1212 g dL_law_300 rfl ?_
  refine r_iinc (pc := 1212) (lv' := [(3, .int (x3 + 6)), (0, .ref b), (1, .ref (aX 0)), (2, .ref (aM 0))]) 3 g dL_law_1212 rfl ci_6 rfl rfl ?_
  refine r_goto (pc := 1215) 18 g dL_law_1215 rfl ?_
  refine r_sub [1, 2, 3, 0] (lv' := [(0, .ref b), (1, .ref (aX 0)), (2, .ref (aM 0)), (3, .int (x3 + 6))]) rfl ?_
  exact hP (x3 + 6) μ4 μ8 h
def L_3 (L : Nat) (xs : Nat → Int32) (P : Int32 → Mem → Mem → Prop) (x3 : Int32) (μX μM : Mem) : Prop :=
  vp_in (x3 + 1) L ∧ vp_in (x3 + 2) L ∧ vp_in (x3 + 3) L ∧ (((xs (x3 + 3).toNatClampNeg) = 0 → T_X11_before (xs (x3 + 1).toNatClampNeg) (xs (x3 + 2).toNatClampNeg) 0 μX (fun (u4 : Int32) (μ5 : Mem) => vp_in (x3 + 1) L ∧ vp_in (x3 + 2) L ∧ vp_in (x3 + 3) L ∧ (((xs (x3 + 3).toNatClampNeg) = 0 → T_X12_before (xs (x3 + 1).toNatClampNeg) (xs (x3 + 2).toNatClampNeg) 0 μM (fun (u9 : Int32) (μ10 : Mem) => P (x3 + 6) μ5 μ10)) ∧ (¬ (xs (x3 + 3).toNatClampNeg) = 0 → T_X12_before (xs (x3 + 1).toNatClampNeg) (xs (x3 + 2).toNatClampNeg) 1 μM (fun (u11 : Int32) (μ12 : Mem) => P (x3 + 6) μ5 μ12))))) ∧ (¬ (xs (x3 + 3).toNatClampNeg) = 0 → T_X11_before (xs (x3 + 1).toNatClampNeg) (xs (x3 + 2).toNatClampNeg) 1 μX (fun (u13 : Int32) (μ14 : Mem) => vp_in (x3 + 1) L ∧ vp_in (x3 + 2) L ∧ vp_in (x3 + 3) L ∧ (((xs (x3 + 3).toNatClampNeg) = 0 → T_X12_before (xs (x3 + 1).toNatClampNeg) (xs (x3 + 2).toNatClampNeg) 0 μM (fun (u18 : Int32) (μ19 : Mem) => P (x3 + 6) μ14 μ19)) ∧ (¬ (xs (x3 + 3).toNatClampNeg) = 0 → T_X12_before (xs (x3 + 1).toNatClampNeg) (xs (x3 + 2).toNatClampNeg) 1 μM (fun (u20 : Int32) (μ21 : Mem) => P (x3 + 6) μ14 μ21))))))
theorem lq_3 {X : Cx} {l : Launch} {D : va_G} {A : Nat → Prop} {b L : Nat} {xs : Nat → Int32} {aX aM : Nat → Nat} {cA cR : ClassId} (g : Gd X (aX, cA, cR, []) RL cL_law 4 room_1) (hX : atX X l D A) (hS : SX X b L xs) (hQ : LQ X b) (P : Int32 → Mem → Mem → Prop) (hP : ∀ (x3 : Int32) (μX μM : Mem), P x3 μX μM → V X 18 [(0, .ref b), (1, .ref (aX 0)), (2, .ref (aM 0)), (3, .int x3)] [] (W2 aX aM cA cR μX μM)) (x3 : Int32) (μX μM : Mem) (h : L_3 L xs P x3 μX μM) : V X 303 [(0, .ref b), (1, .ref (aX 0)), (2, .ref (aM 0)), (3, .int x3)] [] (W2 aX aM cA cR μX μM) := by
  refine r_aload_n (pc := 303) 1 g dL_law_303 rfl ?_
  refine r_aload_n (pc := 304) 0 g dL_law_304 rfl ?_
  refine r_iload_n (pc := 305) 3 g dL_law_305 rfl ?_
  refine r_iconst (pc := 306) g dL_law_306 ci_1 ?_
  refine r_iadd (pc := 307) g dL_law_307 ?_
  obtain ⟨b1, h⟩ := h
  refine r_sld (pc := 308) g hS dL_law_308 b1 ?_
  refine r_aload_n (pc := 309) 0 g dL_law_309 rfl ?_
  refine r_iload_n (pc := 310) 3 g dL_law_310 rfl ?_
  refine r_iconst (pc := 311) g dL_law_311 ci_2 ?_
  refine r_iadd (pc := 312) g dL_law_312 ?_
  obtain ⟨b2, h⟩ := h
  refine r_sld (pc := 313) g hS dL_law_313 b2 ?_
  refine r_aload_n (pc := 314) 0 g dL_law_314 rfl ?_
  refine r_iload_n (pc := 315) 3 g dL_law_315 rfl ?_
  refine r_iconst (pc := 316) g dL_law_316 ci_3 ?_
  refine r_iadd (pc := 317) g dL_law_317 ?_
  obtain ⟨b3, h⟩ := h
  refine r_sld (pc := 318) g hS dL_law_318 b3 ?_
  refine r_if_eq (pc := 319) 326 g dL_law_319 rfl (fun q => ?_) (fun q => ?_)
  · have h := h.1 q
    refine r_iconst (pc := 326) g dL_law_326 ci_0 ?_
    refine l_callXi (pc := 327) (st := []) g hX dL_law_327 (m_X11_before (xs (x3 + 1).toNatClampNeg) (xs (x3 + 2).toNatClampNeg) 0 μX _ h) kb_RL_27 kv_X11_before sX_0 rfl rfl rfl rfl (fun u4 μ5 h => ?_)
    refine r_pop (pc := 330) g dL_law_330 rfl ?_
    refine r_aload_n (pc := 331) 2 g dL_law_331 rfl ?_
    refine r_aload_n (pc := 332) 0 g dL_law_332 rfl ?_
    refine r_iload_n (pc := 333) 3 g dL_law_333 rfl ?_
    refine r_iconst (pc := 334) g dL_law_334 ci_1 ?_
    refine r_iadd (pc := 335) g dL_law_335 ?_
    obtain ⟨b6, h⟩ := h
    refine r_sld (pc := 336) g hS dL_law_336 b6 ?_
    refine r_aload_n (pc := 337) 0 g dL_law_337 rfl ?_
    refine r_iload_n (pc := 338) 3 g dL_law_338 rfl ?_
    refine r_iconst (pc := 339) g dL_law_339 ci_2 ?_
    refine r_iadd (pc := 340) g dL_law_340 ?_
    obtain ⟨b7, h⟩ := h
    refine r_sld (pc := 341) g hS dL_law_341 b7 ?_
    refine r_aload_n (pc := 342) 0 g dL_law_342 rfl ?_
    refine r_iload_n (pc := 343) 3 g dL_law_343 rfl ?_
    refine r_iconst (pc := 344) g dL_law_344 ci_3 ?_
    refine r_iadd (pc := 345) g dL_law_345 ?_
    obtain ⟨b8, h⟩ := h
    refine r_sld (pc := 346) g hS dL_law_346 b8 ?_
    refine r_if_eq (pc := 347) 354 g dL_law_347 rfl (fun q => ?_) (fun q => ?_)
    · have h := h.1 q
      refine r_iconst (pc := 354) g dL_law_354 ci_0 ?_
      refine l_callMi (pc := 355) (st := []) g hX dL_law_355 (m_X12_before (xs (x3 + 1).toNatClampNeg) (xs (x3 + 2).toNatClampNeg) 0 μM _ h) kb_RL_31 kv_X12_before sM_0 rfl rfl rfl rfl (fun u9 μ10 h => ?_)
      refine r_pop (pc := 358) g dL_law_358 rfl ?_
      refine r_goto (pc := 359) 1212 g dL_law_359 rfl ?_
      refine r_iinc (pc := 1212) (lv' := [(3, .int (x3 + 6)), (0, .ref b), (1, .ref (aX 0)), (2, .ref (aM 0))]) 3 g dL_law_1212 rfl ci_6 rfl rfl ?_
      refine r_goto (pc := 1215) 18 g dL_law_1215 rfl ?_
      refine r_sub [1, 2, 3, 0] (lv' := [(0, .ref b), (1, .ref (aX 0)), (2, .ref (aM 0)), (3, .int (x3 + 6))]) rfl ?_
      exact hP (x3 + 6) μ5 μ10 h
    · have h := h.2 q
      refine r_iconst (pc := 350) g dL_law_350 ci_1 ?_
      refine r_goto (pc := 351) 355 g dL_law_351 rfl ?_
      refine l_callMi (pc := 355) (st := []) g hX dL_law_355 (m_X12_before (xs (x3 + 1).toNatClampNeg) (xs (x3 + 2).toNatClampNeg) 1 μM _ h) kb_RL_31 kv_X12_before sM_0 rfl rfl rfl rfl (fun u11 μ12 h => ?_)
      refine r_pop (pc := 358) g dL_law_358 rfl ?_
      refine r_goto (pc := 359) 1212 g dL_law_359 rfl ?_
      refine r_iinc (pc := 1212) (lv' := [(3, .int (x3 + 6)), (0, .ref b), (1, .ref (aX 0)), (2, .ref (aM 0))]) 3 g dL_law_1212 rfl ci_6 rfl rfl ?_
      refine r_goto (pc := 1215) 18 g dL_law_1215 rfl ?_
      refine r_sub [1, 2, 3, 0] (lv' := [(0, .ref b), (1, .ref (aX 0)), (2, .ref (aM 0)), (3, .int (x3 + 6))]) rfl ?_
      exact hP (x3 + 6) μ5 μ12 h
  · have h := h.2 q
    refine r_iconst (pc := 322) g dL_law_322 ci_1 ?_
    refine r_goto (pc := 323) 327 g dL_law_323 rfl ?_
    refine l_callXi (pc := 327) (st := []) g hX dL_law_327 (m_X11_before (xs (x3 + 1).toNatClampNeg) (xs (x3 + 2).toNatClampNeg) 1 μX _ h) kb_RL_27 kv_X11_before sX_0 rfl rfl rfl rfl (fun u13 μ14 h => ?_)
    refine r_pop (pc := 330) g dL_law_330 rfl ?_
    refine r_aload_n (pc := 331) 2 g dL_law_331 rfl ?_
    refine r_aload_n (pc := 332) 0 g dL_law_332 rfl ?_
    refine r_iload_n (pc := 333) 3 g dL_law_333 rfl ?_
    refine r_iconst (pc := 334) g dL_law_334 ci_1 ?_
    refine r_iadd (pc := 335) g dL_law_335 ?_
    obtain ⟨b15, h⟩ := h
    refine r_sld (pc := 336) g hS dL_law_336 b15 ?_
    refine r_aload_n (pc := 337) 0 g dL_law_337 rfl ?_
    refine r_iload_n (pc := 338) 3 g dL_law_338 rfl ?_
    refine r_iconst (pc := 339) g dL_law_339 ci_2 ?_
    refine r_iadd (pc := 340) g dL_law_340 ?_
    obtain ⟨b16, h⟩ := h
    refine r_sld (pc := 341) g hS dL_law_341 b16 ?_
    refine r_aload_n (pc := 342) 0 g dL_law_342 rfl ?_
    refine r_iload_n (pc := 343) 3 g dL_law_343 rfl ?_
    refine r_iconst (pc := 344) g dL_law_344 ci_3 ?_
    refine r_iadd (pc := 345) g dL_law_345 ?_
    obtain ⟨b17, h⟩ := h
    refine r_sld (pc := 346) g hS dL_law_346 b17 ?_
    refine r_if_eq (pc := 347) 354 g dL_law_347 rfl (fun q => ?_) (fun q => ?_)
    · have h := h.1 q
      refine r_iconst (pc := 354) g dL_law_354 ci_0 ?_
      refine l_callMi (pc := 355) (st := []) g hX dL_law_355 (m_X12_before (xs (x3 + 1).toNatClampNeg) (xs (x3 + 2).toNatClampNeg) 0 μM _ h) kb_RL_31 kv_X12_before sM_0 rfl rfl rfl rfl (fun u18 μ19 h => ?_)
      refine r_pop (pc := 358) g dL_law_358 rfl ?_
      refine r_goto (pc := 359) 1212 g dL_law_359 rfl ?_
      refine r_iinc (pc := 1212) (lv' := [(3, .int (x3 + 6)), (0, .ref b), (1, .ref (aX 0)), (2, .ref (aM 0))]) 3 g dL_law_1212 rfl ci_6 rfl rfl ?_
      refine r_goto (pc := 1215) 18 g dL_law_1215 rfl ?_
      refine r_sub [1, 2, 3, 0] (lv' := [(0, .ref b), (1, .ref (aX 0)), (2, .ref (aM 0)), (3, .int (x3 + 6))]) rfl ?_
      exact hP (x3 + 6) μ14 μ19 h
    · have h := h.2 q
      refine r_iconst (pc := 350) g dL_law_350 ci_1 ?_
      refine r_goto (pc := 351) 355 g dL_law_351 rfl ?_
      refine l_callMi (pc := 355) (st := []) g hX dL_law_355 (m_X12_before (xs (x3 + 1).toNatClampNeg) (xs (x3 + 2).toNatClampNeg) 1 μM _ h) kb_RL_31 kv_X12_before sM_0 rfl rfl rfl rfl (fun u20 μ21 h => ?_)
      refine r_pop (pc := 358) g dL_law_358 rfl ?_
      refine r_goto (pc := 359) 1212 g dL_law_359 rfl ?_
      refine r_iinc (pc := 1212) (lv' := [(3, .int (x3 + 6)), (0, .ref b), (1, .ref (aX 0)), (2, .ref (aM 0))]) 3 g dL_law_1212 rfl ci_6 rfl rfl ?_
      refine r_goto (pc := 1215) 18 g dL_law_1215 rfl ?_
      refine r_sub [1, 2, 3, 0] (lv' := [(0, .ref b), (1, .ref (aX 0)), (2, .ref (aM 0)), (3, .int (x3 + 6))]) rfl ?_
      exact hP (x3 + 6) μ14 μ21 h
def L_4 (L : Nat) (xs : Nat → Int32) (P : Int32 → Mem → Mem → Prop) (x3 : Int32) (μX μM : Mem) : Prop :=
  vp_in (x3 + 1) L ∧ vp_in (x3 + 2) L ∧ vp_in (x3 + 3) L ∧ T_X11_thing (xs (x3 + 1).toNatClampNeg) (xs (x3 + 2).toNatClampNeg) (xs (x3 + 3).toNatClampNeg) μX (fun (u4 : Int32) (μ5 : Mem) => vp_in (x3 + 1) L ∧ vp_in (x3 + 2) L ∧ vp_in (x3 + 3) L ∧ T_X12_thing (xs (x3 + 1).toNatClampNeg) (xs (x3 + 2).toNatClampNeg) (xs (x3 + 3).toNatClampNeg) μM (fun (u9 : Int32) (μ10 : Mem) => P (x3 + 6) μ5 μ10))
theorem lq_4 {X : Cx} {l : Launch} {D : va_G} {A : Nat → Prop} {b L : Nat} {xs : Nat → Int32} {aX aM : Nat → Nat} {cA cR : ClassId} (g : Gd X (aX, cA, cR, []) RL cL_law 4 room_1) (hX : atX X l D A) (hS : SX X b L xs) (hQ : LQ X b) (P : Int32 → Mem → Mem → Prop) (hP : ∀ (x3 : Int32) (μX μM : Mem), P x3 μX μM → V X 18 [(0, .ref b), (1, .ref (aX 0)), (2, .ref (aM 0)), (3, .int x3)] [] (W2 aX aM cA cR μX μM)) (x3 : Int32) (μX μM : Mem) (h : L_4 L xs P x3 μX μM) : V X 362 [(0, .ref b), (1, .ref (aX 0)), (2, .ref (aM 0)), (3, .int x3)] [] (W2 aX aM cA cR μX μM) := by
  refine r_aload_n (pc := 362) 1 g dL_law_362 rfl ?_
  refine r_aload_n (pc := 363) 0 g dL_law_363 rfl ?_
  refine r_iload_n (pc := 364) 3 g dL_law_364 rfl ?_
  refine r_iconst (pc := 365) g dL_law_365 ci_1 ?_
  refine r_iadd (pc := 366) g dL_law_366 ?_
  obtain ⟨b1, h⟩ := h
  refine r_sld (pc := 367) g hS dL_law_367 b1 ?_
  refine r_aload_n (pc := 368) 0 g dL_law_368 rfl ?_
  refine r_iload_n (pc := 369) 3 g dL_law_369 rfl ?_
  refine r_iconst (pc := 370) g dL_law_370 ci_2 ?_
  refine r_iadd (pc := 371) g dL_law_371 ?_
  obtain ⟨b2, h⟩ := h
  refine r_sld (pc := 372) g hS dL_law_372 b2 ?_
  refine r_aload_n (pc := 373) 0 g dL_law_373 rfl ?_
  refine r_iload_n (pc := 374) 3 g dL_law_374 rfl ?_
  refine r_iconst (pc := 375) g dL_law_375 ci_3 ?_
  refine r_iadd (pc := 376) g dL_law_376 ?_
  obtain ⟨b3, h⟩ := h
  refine r_sld (pc := 377) g hS dL_law_377 b3 ?_
  refine l_callXi (pc := 378) (st := []) g hX dL_law_378 (m_X11_thing (xs (x3 + 1).toNatClampNeg) (xs (x3 + 2).toNatClampNeg) (xs (x3 + 3).toNatClampNeg) μX _ h) kb_RL_32 kv_X11_thing sX_0 rfl rfl rfl rfl (fun u4 μ5 h => ?_)
  refine r_pop (pc := 381) g dL_law_381 rfl ?_
  refine r_aload_n (pc := 382) 2 g dL_law_382 rfl ?_
  refine r_aload_n (pc := 383) 0 g dL_law_383 rfl ?_
  refine r_iload_n (pc := 384) 3 g dL_law_384 rfl ?_
  refine r_iconst (pc := 385) g dL_law_385 ci_1 ?_
  refine r_iadd (pc := 386) g dL_law_386 ?_
  obtain ⟨b6, h⟩ := h
  refine r_sld (pc := 387) g hS dL_law_387 b6 ?_
  refine r_aload_n (pc := 388) 0 g dL_law_388 rfl ?_
  refine r_iload_n (pc := 389) 3 g dL_law_389 rfl ?_
  refine r_iconst (pc := 390) g dL_law_390 ci_2 ?_
  refine r_iadd (pc := 391) g dL_law_391 ?_
  obtain ⟨b7, h⟩ := h
  refine r_sld (pc := 392) g hS dL_law_392 b7 ?_
  refine r_aload_n (pc := 393) 0 g dL_law_393 rfl ?_
  refine r_iload_n (pc := 394) 3 g dL_law_394 rfl ?_
  refine r_iconst (pc := 395) g dL_law_395 ci_3 ?_
  refine r_iadd (pc := 396) g dL_law_396 ?_
  obtain ⟨b8, h⟩ := h
  refine r_sld (pc := 397) g hS dL_law_397 b8 ?_
  refine l_callMi (pc := 398) (st := []) g hX dL_law_398 (m_X12_thing (xs (x3 + 1).toNatClampNeg) (xs (x3 + 2).toNatClampNeg) (xs (x3 + 3).toNatClampNeg) μM _ h) kb_RL_36 kv_X12_thing sM_0 rfl rfl rfl rfl (fun u9 μ10 h => ?_)
  refine r_pop (pc := 401) g dL_law_401 rfl ?_
  refine r_goto (pc := 402) 1212 g dL_law_402 rfl ?_
  refine r_iinc (pc := 1212) (lv' := [(3, .int (x3 + 6)), (0, .ref b), (1, .ref (aX 0)), (2, .ref (aM 0))]) 3 g dL_law_1212 rfl ci_6 rfl rfl ?_
  refine r_goto (pc := 1215) 18 g dL_law_1215 rfl ?_
  refine r_sub [1, 2, 3, 0] (lv' := [(0, .ref b), (1, .ref (aX 0)), (2, .ref (aM 0)), (3, .int (x3 + 6))]) rfl ?_
  exact hP (x3 + 6) μ5 μ10 h
def L_5 (L : Nat) (xs : Nat → Int32) (P : Int32 → Mem → Mem → Prop) (x3 : Int32) (μX μM : Mem) : Prop :=
  vp_in (x3 + 1) L ∧ vp_in (x3 + 2) L ∧ vp_in (x3 + 3) L ∧ vp_in (x3 + 4) L ∧ vp_in (x3 + 5) L ∧ T_X11_order (xs (x3 + 1).toNatClampNeg) (xs (x3 + 2).toNatClampNeg) (xs (x3 + 3).toNatClampNeg) (xs (x3 + 4).toNatClampNeg) (xs (x3 + 5).toNatClampNeg) μX (fun (u6 : Int32) (μ7 : Mem) => vp_in (x3 + 1) L ∧ vp_in (x3 + 2) L ∧ vp_in (x3 + 3) L ∧ vp_in (x3 + 4) L ∧ vp_in (x3 + 5) L ∧ T_X12_order (xs (x3 + 1).toNatClampNeg) (xs (x3 + 2).toNatClampNeg) (xs (x3 + 3).toNatClampNeg) (xs (x3 + 4).toNatClampNeg) (xs (x3 + 5).toNatClampNeg) μM (fun (u13 : Int32) (μ14 : Mem) => P (x3 + 6) μ7 μ14))
theorem lq_5 {X : Cx} {l : Launch} {D : va_G} {A : Nat → Prop} {b L : Nat} {xs : Nat → Int32} {aX aM : Nat → Nat} {cA cR : ClassId} (g : Gd X (aX, cA, cR, []) RL cL_law 4 room_1) (hX : atX X l D A) (hS : SX X b L xs) (hQ : LQ X b) (P : Int32 → Mem → Mem → Prop) (hP : ∀ (x3 : Int32) (μX μM : Mem), P x3 μX μM → V X 18 [(0, .ref b), (1, .ref (aX 0)), (2, .ref (aM 0)), (3, .int x3)] [] (W2 aX aM cA cR μX μM)) (x3 : Int32) (μX μM : Mem) (h : L_5 L xs P x3 μX μM) : V X 405 [(0, .ref b), (1, .ref (aX 0)), (2, .ref (aM 0)), (3, .int x3)] [] (W2 aX aM cA cR μX μM) := by
  refine r_aload_n (pc := 405) 1 g dL_law_405 rfl ?_
  refine r_aload_n (pc := 406) 0 g dL_law_406 rfl ?_
  refine r_iload_n (pc := 407) 3 g dL_law_407 rfl ?_
  refine r_iconst (pc := 408) g dL_law_408 ci_1 ?_
  refine r_iadd (pc := 409) g dL_law_409 ?_
  obtain ⟨b1, h⟩ := h
  refine r_sld (pc := 410) g hS dL_law_410 b1 ?_
  refine r_aload_n (pc := 411) 0 g dL_law_411 rfl ?_
  refine r_iload_n (pc := 412) 3 g dL_law_412 rfl ?_
  refine r_iconst (pc := 413) g dL_law_413 ci_2 ?_
  refine r_iadd (pc := 414) g dL_law_414 ?_
  obtain ⟨b2, h⟩ := h
  refine r_sld (pc := 415) g hS dL_law_415 b2 ?_
  refine r_aload_n (pc := 416) 0 g dL_law_416 rfl ?_
  refine r_iload_n (pc := 417) 3 g dL_law_417 rfl ?_
  refine r_iconst (pc := 418) g dL_law_418 ci_3 ?_
  refine r_iadd (pc := 419) g dL_law_419 ?_
  obtain ⟨b3, h⟩ := h
  refine r_sld (pc := 420) g hS dL_law_420 b3 ?_
  refine r_aload_n (pc := 421) 0 g dL_law_421 rfl ?_
  refine r_iload_n (pc := 422) 3 g dL_law_422 rfl ?_
  refine r_iconst (pc := 423) g dL_law_423 ci_4 ?_
  refine r_iadd (pc := 424) g dL_law_424 ?_
  obtain ⟨b4, h⟩ := h
  refine r_sld (pc := 425) g hS dL_law_425 b4 ?_
  refine r_aload_n (pc := 426) 0 g dL_law_426 rfl ?_
  refine r_iload_n (pc := 427) 3 g dL_law_427 rfl ?_
  refine r_iconst (pc := 428) g dL_law_428 ci_5 ?_
  refine r_iadd (pc := 429) g dL_law_429 ?_
  obtain ⟨b5, h⟩ := h
  refine r_sld (pc := 430) g hS dL_law_430 b5 ?_
  refine l_callXi (pc := 431) (st := []) g hX dL_law_431 (m_X11_order (xs (x3 + 1).toNatClampNeg) (xs (x3 + 2).toNatClampNeg) (xs (x3 + 3).toNatClampNeg) (xs (x3 + 4).toNatClampNeg) (xs (x3 + 5).toNatClampNeg) μX _ h) kb_RL_37 kv_X11_order sX_0 rfl rfl rfl rfl (fun u6 μ7 h => ?_)
  refine r_pop (pc := 434) g dL_law_434 rfl ?_
  refine r_aload_n (pc := 435) 2 g dL_law_435 rfl ?_
  refine r_aload_n (pc := 436) 0 g dL_law_436 rfl ?_
  refine r_iload_n (pc := 437) 3 g dL_law_437 rfl ?_
  refine r_iconst (pc := 438) g dL_law_438 ci_1 ?_
  refine r_iadd (pc := 439) g dL_law_439 ?_
  obtain ⟨b8, h⟩ := h
  refine r_sld (pc := 440) g hS dL_law_440 b8 ?_
  refine r_aload_n (pc := 441) 0 g dL_law_441 rfl ?_
  refine r_iload_n (pc := 442) 3 g dL_law_442 rfl ?_
  refine r_iconst (pc := 443) g dL_law_443 ci_2 ?_
  refine r_iadd (pc := 444) g dL_law_444 ?_
  obtain ⟨b9, h⟩ := h
  refine r_sld (pc := 445) g hS dL_law_445 b9 ?_
  refine r_aload_n (pc := 446) 0 g dL_law_446 rfl ?_
  refine r_iload_n (pc := 447) 3 g dL_law_447 rfl ?_
  refine r_iconst (pc := 448) g dL_law_448 ci_3 ?_
  refine r_iadd (pc := 449) g dL_law_449 ?_
  obtain ⟨b10, h⟩ := h
  refine r_sld (pc := 450) g hS dL_law_450 b10 ?_
  refine r_aload_n (pc := 451) 0 g dL_law_451 rfl ?_
  refine r_iload_n (pc := 452) 3 g dL_law_452 rfl ?_
  refine r_iconst (pc := 453) g dL_law_453 ci_4 ?_
  refine r_iadd (pc := 454) g dL_law_454 ?_
  obtain ⟨b11, h⟩ := h
  refine r_sld (pc := 455) g hS dL_law_455 b11 ?_
  refine r_aload_n (pc := 456) 0 g dL_law_456 rfl ?_
  refine r_iload_n (pc := 457) 3 g dL_law_457 rfl ?_
  refine r_iconst (pc := 458) g dL_law_458 ci_5 ?_
  refine r_iadd (pc := 459) g dL_law_459 ?_
  obtain ⟨b12, h⟩ := h
  refine r_sld (pc := 460) g hS dL_law_460 b12 ?_
  refine l_callMi (pc := 461) (st := []) g hX dL_law_461 (m_X12_order (xs (x3 + 1).toNatClampNeg) (xs (x3 + 2).toNatClampNeg) (xs (x3 + 3).toNatClampNeg) (xs (x3 + 4).toNatClampNeg) (xs (x3 + 5).toNatClampNeg) μM _ h) kb_RL_41 kv_X12_order sM_0 rfl rfl rfl rfl (fun u13 μ14 h => ?_)
  refine r_pop (pc := 464) g dL_law_464 rfl ?_
  refine r_goto (pc := 465) 1212 g dL_law_465 rfl ?_
  refine r_iinc (pc := 1212) (lv' := [(3, .int (x3 + 6)), (0, .ref b), (1, .ref (aX 0)), (2, .ref (aM 0))]) 3 g dL_law_1212 rfl ci_6 rfl rfl ?_
  refine r_goto (pc := 1215) 18 g dL_law_1215 rfl ?_
  refine r_sub [1, 2, 3, 0] (lv' := [(0, .ref b), (1, .ref (aX 0)), (2, .ref (aM 0)), (3, .int (x3 + 6))]) rfl ?_
  exact hP (x3 + 6) μ7 μ14 h
def L_6 (L : Nat) (xs : Nat → Int32) (P : Int32 → Mem → Mem → Prop) (x3 : Int32) (μX μM : Mem) : Prop :=
  vp_in (x3 + 1) L ∧ vp_in (x3 + 2) L ∧ T_X11_ofOrder (xs (x3 + 1).toNatClampNeg) (xs (x3 + 2).toNatClampNeg) μX (fun (u3 : Int32) (μ4 : Mem) => vp_in (x3 + 1) L ∧ vp_in (x3 + 2) L ∧ T_X12_ofOrder (xs (x3 + 1).toNatClampNeg) (xs (x3 + 2).toNatClampNeg) μM (fun (u7 : Int32) (μ8 : Mem) => P (x3 + 6) μ4 μ8))
theorem lq_6 {X : Cx} {l : Launch} {D : va_G} {A : Nat → Prop} {b L : Nat} {xs : Nat → Int32} {aX aM : Nat → Nat} {cA cR : ClassId} (g : Gd X (aX, cA, cR, []) RL cL_law 4 room_1) (hX : atX X l D A) (hS : SX X b L xs) (hQ : LQ X b) (P : Int32 → Mem → Mem → Prop) (hP : ∀ (x3 : Int32) (μX μM : Mem), P x3 μX μM → V X 18 [(0, .ref b), (1, .ref (aX 0)), (2, .ref (aM 0)), (3, .int x3)] [] (W2 aX aM cA cR μX μM)) (x3 : Int32) (μX μM : Mem) (h : L_6 L xs P x3 μX μM) : V X 468 [(0, .ref b), (1, .ref (aX 0)), (2, .ref (aM 0)), (3, .int x3)] [] (W2 aX aM cA cR μX μM) := by
  refine r_aload_n (pc := 468) 1 g dL_law_468 rfl ?_
  refine r_aload_n (pc := 469) 0 g dL_law_469 rfl ?_
  refine r_iload_n (pc := 470) 3 g dL_law_470 rfl ?_
  refine r_iconst (pc := 471) g dL_law_471 ci_1 ?_
  refine r_iadd (pc := 472) g dL_law_472 ?_
  obtain ⟨b1, h⟩ := h
  refine r_sld (pc := 473) g hS dL_law_473 b1 ?_
  refine r_aload_n (pc := 474) 0 g dL_law_474 rfl ?_
  refine r_iload_n (pc := 475) 3 g dL_law_475 rfl ?_
  refine r_iconst (pc := 476) g dL_law_476 ci_2 ?_
  refine r_iadd (pc := 477) g dL_law_477 ?_
  obtain ⟨b2, h⟩ := h
  refine r_sld (pc := 478) g hS dL_law_478 b2 ?_
  refine l_callXi (pc := 479) (st := []) g hX dL_law_479 (m_X11_ofOrder (xs (x3 + 1).toNatClampNeg) (xs (x3 + 2).toNatClampNeg) μX _ h) kb_RL_42 kv_X11_ofOrder sX_0 rfl rfl rfl rfl (fun u3 μ4 h => ?_)
  refine r_pop (pc := 482) g dL_law_482 rfl ?_
  refine r_aload_n (pc := 483) 2 g dL_law_483 rfl ?_
  refine r_aload_n (pc := 484) 0 g dL_law_484 rfl ?_
  refine r_iload_n (pc := 485) 3 g dL_law_485 rfl ?_
  refine r_iconst (pc := 486) g dL_law_486 ci_1 ?_
  refine r_iadd (pc := 487) g dL_law_487 ?_
  obtain ⟨b5, h⟩ := h
  refine r_sld (pc := 488) g hS dL_law_488 b5 ?_
  refine r_aload_n (pc := 489) 0 g dL_law_489 rfl ?_
  refine r_iload_n (pc := 490) 3 g dL_law_490 rfl ?_
  refine r_iconst (pc := 491) g dL_law_491 ci_2 ?_
  refine r_iadd (pc := 492) g dL_law_492 ?_
  obtain ⟨b6, h⟩ := h
  refine r_sld (pc := 493) g hS dL_law_493 b6 ?_
  refine l_callMi (pc := 494) (st := []) g hX dL_law_494 (m_X12_ofOrder (xs (x3 + 1).toNatClampNeg) (xs (x3 + 2).toNatClampNeg) μM _ h) kb_RL_45 kv_X12_ofOrder sM_0 rfl rfl rfl rfl (fun u7 μ8 h => ?_)
  refine r_pop (pc := 497) g dL_law_497 rfl ?_
  refine r_goto (pc := 498) 1212 g dL_law_498 rfl ?_
  refine r_iinc (pc := 1212) (lv' := [(3, .int (x3 + 6)), (0, .ref b), (1, .ref (aX 0)), (2, .ref (aM 0))]) 3 g dL_law_1212 rfl ci_6 rfl rfl ?_
  refine r_goto (pc := 1215) 18 g dL_law_1215 rfl ?_
  refine r_sub [1, 2, 3, 0] (lv' := [(0, .ref b), (1, .ref (aX 0)), (2, .ref (aM 0)), (3, .int (x3 + 6))]) rfl ?_
  exact hP (x3 + 6) μ4 μ8 h
def L_7 (L : Nat) (xs : Nat → Int32) (P : Int32 → Mem → Mem → Prop) (x3 : Int32) (μX μM : Mem) : Prop :=
  vp_in (x3 + 1) L ∧ T_X11_best (xs (x3 + 1).toNatClampNeg) μX (fun (u2 : Int32) (μ3 : Mem) => vp_in (x3 + 1) L ∧ T_X12_best (xs (x3 + 1).toNatClampNeg) μM (fun (u5 : Int32) (μ6 : Mem) => P (x3 + 6) μ3 μ6))
theorem lq_7 {X : Cx} {l : Launch} {D : va_G} {A : Nat → Prop} {b L : Nat} {xs : Nat → Int32} {aX aM : Nat → Nat} {cA cR : ClassId} (g : Gd X (aX, cA, cR, []) RL cL_law 4 room_1) (hX : atX X l D A) (hS : SX X b L xs) (hQ : LQ X b) (P : Int32 → Mem → Mem → Prop) (hP : ∀ (x3 : Int32) (μX μM : Mem), P x3 μX μM → V X 18 [(0, .ref b), (1, .ref (aX 0)), (2, .ref (aM 0)), (3, .int x3)] [] (W2 aX aM cA cR μX μM)) (x3 : Int32) (μX μM : Mem) (h : L_7 L xs P x3 μX μM) : V X 501 [(0, .ref b), (1, .ref (aX 0)), (2, .ref (aM 0)), (3, .int x3)] [] (W2 aX aM cA cR μX μM) := by
  refine r_aload_n (pc := 501) 1 g dL_law_501 rfl ?_
  refine r_aload_n (pc := 502) 0 g dL_law_502 rfl ?_
  refine r_iload_n (pc := 503) 3 g dL_law_503 rfl ?_
  refine r_iconst (pc := 504) g dL_law_504 ci_1 ?_
  refine r_iadd (pc := 505) g dL_law_505 ?_
  obtain ⟨b1, h⟩ := h
  refine r_sld (pc := 506) g hS dL_law_506 b1 ?_
  refine l_callXi (pc := 507) (st := []) g hX dL_law_507 (m_X11_best (xs (x3 + 1).toNatClampNeg) μX _ h) kb_RL_46 kv_X11_best sX_0 rfl rfl rfl rfl (fun u2 μ3 h => ?_)
  refine r_pop (pc := 510) g dL_law_510 rfl ?_
  refine r_aload_n (pc := 511) 2 g dL_law_511 rfl ?_
  refine r_aload_n (pc := 512) 0 g dL_law_512 rfl ?_
  refine r_iload_n (pc := 513) 3 g dL_law_513 rfl ?_
  refine r_iconst (pc := 514) g dL_law_514 ci_1 ?_
  refine r_iadd (pc := 515) g dL_law_515 ?_
  obtain ⟨b4, h⟩ := h
  refine r_sld (pc := 516) g hS dL_law_516 b4 ?_
  refine l_callMi (pc := 517) (st := []) g hX dL_law_517 (m_X12_best (xs (x3 + 1).toNatClampNeg) μM _ h) kb_RL_50 kv_X12_best sM_0 rfl rfl rfl rfl (fun u5 μ6 h => ?_)
  refine r_pop (pc := 520) g dL_law_520 rfl ?_
  refine r_goto (pc := 521) 1212 g dL_law_521 rfl ?_
  refine r_iinc (pc := 1212) (lv' := [(3, .int (x3 + 6)), (0, .ref b), (1, .ref (aX 0)), (2, .ref (aM 0))]) 3 g dL_law_1212 rfl ci_6 rfl rfl ?_
  refine r_goto (pc := 1215) 18 g dL_law_1215 rfl ?_
  refine r_sub [1, 2, 3, 0] (lv' := [(0, .ref b), (1, .ref (aX 0)), (2, .ref (aM 0)), (3, .int (x3 + 6))]) rfl ?_
  exact hP (x3 + 6) μ3 μ6 h
def L_8 (L : Nat) (xs : Nat → Int32) (P : Int32 → Mem → Mem → Prop) (x3 : Int32) (μX μM : Mem) : Prop :=
  vp_in (x3 + 1) L ∧ vp_in (x3 + 2) L ∧ vp_in (x3 + 3) L ∧ T_X11_from (xs (x3 + 1).toNatClampNeg) (xs (x3 + 2).toNatClampNeg) (xs (x3 + 3).toNatClampNeg) μX (fun (u4 : Int32) (μ5 : Mem) => vp_in (x3 + 1) L ∧ vp_in (x3 + 2) L ∧ vp_in (x3 + 3) L ∧ T_X12_from (xs (x3 + 1).toNatClampNeg) (xs (x3 + 2).toNatClampNeg) (xs (x3 + 3).toNatClampNeg) μM (fun (u9 : Int32) (μ10 : Mem) => P (x3 + 6) μ5 μ10))
theorem lq_8 {X : Cx} {l : Launch} {D : va_G} {A : Nat → Prop} {b L : Nat} {xs : Nat → Int32} {aX aM : Nat → Nat} {cA cR : ClassId} (g : Gd X (aX, cA, cR, []) RL cL_law 4 room_1) (hX : atX X l D A) (hS : SX X b L xs) (hQ : LQ X b) (P : Int32 → Mem → Mem → Prop) (hP : ∀ (x3 : Int32) (μX μM : Mem), P x3 μX μM → V X 18 [(0, .ref b), (1, .ref (aX 0)), (2, .ref (aM 0)), (3, .int x3)] [] (W2 aX aM cA cR μX μM)) (x3 : Int32) (μX μM : Mem) (h : L_8 L xs P x3 μX μM) : V X 524 [(0, .ref b), (1, .ref (aX 0)), (2, .ref (aM 0)), (3, .int x3)] [] (W2 aX aM cA cR μX μM) := by
  refine r_aload_n (pc := 524) 1 g dL_law_524 rfl ?_
  refine r_aload_n (pc := 525) 0 g dL_law_525 rfl ?_
  refine r_iload_n (pc := 526) 3 g dL_law_526 rfl ?_
  refine r_iconst (pc := 527) g dL_law_527 ci_1 ?_
  refine r_iadd (pc := 528) g dL_law_528 ?_
  obtain ⟨b1, h⟩ := h
  refine r_sld (pc := 529) g hS dL_law_529 b1 ?_
  refine r_aload_n (pc := 530) 0 g dL_law_530 rfl ?_
  refine r_iload_n (pc := 531) 3 g dL_law_531 rfl ?_
  refine r_iconst (pc := 532) g dL_law_532 ci_2 ?_
  refine r_iadd (pc := 533) g dL_law_533 ?_
  obtain ⟨b2, h⟩ := h
  refine r_sld (pc := 534) g hS dL_law_534 b2 ?_
  refine r_aload_n (pc := 535) 0 g dL_law_535 rfl ?_
  refine r_iload_n (pc := 536) 3 g dL_law_536 rfl ?_
  refine r_iconst (pc := 537) g dL_law_537 ci_3 ?_
  refine r_iadd (pc := 538) g dL_law_538 ?_
  obtain ⟨b3, h⟩ := h
  refine r_sld (pc := 539) g hS dL_law_539 b3 ?_
  refine l_callXi (pc := 540) (st := []) g hX dL_law_540 (m_X11_from (xs (x3 + 1).toNatClampNeg) (xs (x3 + 2).toNatClampNeg) (xs (x3 + 3).toNatClampNeg) μX _ h) kb_RL_51 kv_X11_from sX_0 rfl rfl rfl rfl (fun u4 μ5 h => ?_)
  refine r_pop (pc := 543) g dL_law_543 rfl ?_
  refine r_aload_n (pc := 544) 2 g dL_law_544 rfl ?_
  refine r_aload_n (pc := 545) 0 g dL_law_545 rfl ?_
  refine r_iload_n (pc := 546) 3 g dL_law_546 rfl ?_
  refine r_iconst (pc := 547) g dL_law_547 ci_1 ?_
  refine r_iadd (pc := 548) g dL_law_548 ?_
  obtain ⟨b6, h⟩ := h
  refine r_sld (pc := 549) g hS dL_law_549 b6 ?_
  refine r_aload_n (pc := 550) 0 g dL_law_550 rfl ?_
  refine r_iload_n (pc := 551) 3 g dL_law_551 rfl ?_
  refine r_iconst (pc := 552) g dL_law_552 ci_2 ?_
  refine r_iadd (pc := 553) g dL_law_553 ?_
  obtain ⟨b7, h⟩ := h
  refine r_sld (pc := 554) g hS dL_law_554 b7 ?_
  refine r_aload_n (pc := 555) 0 g dL_law_555 rfl ?_
  refine r_iload_n (pc := 556) 3 g dL_law_556 rfl ?_
  refine r_iconst (pc := 557) g dL_law_557 ci_3 ?_
  refine r_iadd (pc := 558) g dL_law_558 ?_
  obtain ⟨b8, h⟩ := h
  refine r_sld (pc := 559) g hS dL_law_559 b8 ?_
  refine l_callMi (pc := 560) (st := []) g hX dL_law_560 (m_X12_from (xs (x3 + 1).toNatClampNeg) (xs (x3 + 2).toNatClampNeg) (xs (x3 + 3).toNatClampNeg) μM _ h) kb_RL_54 kv_X12_from sM_0 rfl rfl rfl rfl (fun u9 μ10 h => ?_)
  refine r_pop (pc := 563) g dL_law_563 rfl ?_
  refine r_goto (pc := 564) 1212 g dL_law_564 rfl ?_
  refine r_iinc (pc := 1212) (lv' := [(3, .int (x3 + 6)), (0, .ref b), (1, .ref (aX 0)), (2, .ref (aM 0))]) 3 g dL_law_1212 rfl ci_6 rfl rfl ?_
  refine r_goto (pc := 1215) 18 g dL_law_1215 rfl ?_
  refine r_sub [1, 2, 3, 0] (lv' := [(0, .ref b), (1, .ref (aX 0)), (2, .ref (aM 0)), (3, .int (x3 + 6))]) rfl ?_
  exact hP (x3 + 6) μ5 μ10 h
def L_9 (L : Nat) (xs : Nat → Int32) (P : Int32 → Mem → Mem → Prop) (x3 : Int32) (μX μM : Mem) : Prop :=
  vp_in (x3 + 1) L ∧ vp_in (x3 + 2) L ∧ T_X11_better (xs (x3 + 1).toNatClampNeg) (xs (x3 + 2).toNatClampNeg) μX (fun (u3 : Int32) (μ4 : Mem) => vp_in (x3 + 1) L ∧ vp_in (x3 + 2) L ∧ T_X12_better (xs (x3 + 1).toNatClampNeg) (xs (x3 + 2).toNatClampNeg) μM (fun (u7 : Int32) (μ8 : Mem) => P (x3 + 6) μ4 μ8))
theorem lq_9 {X : Cx} {l : Launch} {D : va_G} {A : Nat → Prop} {b L : Nat} {xs : Nat → Int32} {aX aM : Nat → Nat} {cA cR : ClassId} (g : Gd X (aX, cA, cR, []) RL cL_law 4 room_1) (hX : atX X l D A) (hS : SX X b L xs) (hQ : LQ X b) (P : Int32 → Mem → Mem → Prop) (hP : ∀ (x3 : Int32) (μX μM : Mem), P x3 μX μM → V X 18 [(0, .ref b), (1, .ref (aX 0)), (2, .ref (aM 0)), (3, .int x3)] [] (W2 aX aM cA cR μX μM)) (x3 : Int32) (μX μM : Mem) (h : L_9 L xs P x3 μX μM) : V X 567 [(0, .ref b), (1, .ref (aX 0)), (2, .ref (aM 0)), (3, .int x3)] [] (W2 aX aM cA cR μX μM) := by
  refine r_aload_n (pc := 567) 1 g dL_law_567 rfl ?_
  refine r_aload_n (pc := 568) 0 g dL_law_568 rfl ?_
  refine r_iload_n (pc := 569) 3 g dL_law_569 rfl ?_
  refine r_iconst (pc := 570) g dL_law_570 ci_1 ?_
  refine r_iadd (pc := 571) g dL_law_571 ?_
  obtain ⟨b1, h⟩ := h
  refine r_sld (pc := 572) g hS dL_law_572 b1 ?_
  refine r_aload_n (pc := 573) 0 g dL_law_573 rfl ?_
  refine r_iload_n (pc := 574) 3 g dL_law_574 rfl ?_
  refine r_iconst (pc := 575) g dL_law_575 ci_2 ?_
  refine r_iadd (pc := 576) g dL_law_576 ?_
  obtain ⟨b2, h⟩ := h
  refine r_sld (pc := 577) g hS dL_law_577 b2 ?_
  refine l_callXi (pc := 578) (st := []) g hX dL_law_578 (m_X11_better (xs (x3 + 1).toNatClampNeg) (xs (x3 + 2).toNatClampNeg) μX _ h) kb_RL_55 kv_X11_better sX_0 rfl rfl rfl rfl (fun u3 μ4 h => ?_)
  refine r_pop (pc := 581) g dL_law_581 rfl ?_
  refine r_aload_n (pc := 582) 2 g dL_law_582 rfl ?_
  refine r_aload_n (pc := 583) 0 g dL_law_583 rfl ?_
  refine r_iload_n (pc := 584) 3 g dL_law_584 rfl ?_
  refine r_iconst (pc := 585) g dL_law_585 ci_1 ?_
  refine r_iadd (pc := 586) g dL_law_586 ?_
  obtain ⟨b5, h⟩ := h
  refine r_sld (pc := 587) g hS dL_law_587 b5 ?_
  refine r_aload_n (pc := 588) 0 g dL_law_588 rfl ?_
  refine r_iload_n (pc := 589) 3 g dL_law_589 rfl ?_
  refine r_iconst (pc := 590) g dL_law_590 ci_2 ?_
  refine r_iadd (pc := 591) g dL_law_591 ?_
  obtain ⟨b6, h⟩ := h
  refine r_sld (pc := 592) g hS dL_law_592 b6 ?_
  refine l_callMi (pc := 593) (st := []) g hX dL_law_593 (m_X12_better (xs (x3 + 1).toNatClampNeg) (xs (x3 + 2).toNatClampNeg) μM _ h) kb_RL_58 kv_X12_better sM_0 rfl rfl rfl rfl (fun u7 μ8 h => ?_)
  refine r_pop (pc := 596) g dL_law_596 rfl ?_
  refine r_goto (pc := 597) 1212 g dL_law_597 rfl ?_
  refine r_iinc (pc := 1212) (lv' := [(3, .int (x3 + 6)), (0, .ref b), (1, .ref (aX 0)), (2, .ref (aM 0))]) 3 g dL_law_1212 rfl ci_6 rfl rfl ?_
  refine r_goto (pc := 1215) 18 g dL_law_1215 rfl ?_
  refine r_sub [1, 2, 3, 0] (lv' := [(0, .ref b), (1, .ref (aX 0)), (2, .ref (aM 0)), (3, .int (x3 + 6))]) rfl ?_
  exact hP (x3 + 6) μ4 μ8 h
def L_10 (L : Nat) (xs : Nat → Int32) (P : Int32 → Mem → Mem → Prop) (x3 : Int32) (μX μM : Mem) : Prop :=
  vp_in (x3 + 1) L ∧ T_X11_cross (xs (x3 + 1).toNatClampNeg) μX (fun (u2 : Int32) (μ3 : Mem) => vp_in (x3 + 1) L ∧ T_X12_cross (xs (x3 + 1).toNatClampNeg) μM (fun (u5 : Int32) (μ6 : Mem) => P (x3 + 6) μ3 μ6))
theorem lq_10 {X : Cx} {l : Launch} {D : va_G} {A : Nat → Prop} {b L : Nat} {xs : Nat → Int32} {aX aM : Nat → Nat} {cA cR : ClassId} (g : Gd X (aX, cA, cR, []) RL cL_law 4 room_1) (hX : atX X l D A) (hS : SX X b L xs) (hQ : LQ X b) (P : Int32 → Mem → Mem → Prop) (hP : ∀ (x3 : Int32) (μX μM : Mem), P x3 μX μM → V X 18 [(0, .ref b), (1, .ref (aX 0)), (2, .ref (aM 0)), (3, .int x3)] [] (W2 aX aM cA cR μX μM)) (x3 : Int32) (μX μM : Mem) (h : L_10 L xs P x3 μX μM) : V X 600 [(0, .ref b), (1, .ref (aX 0)), (2, .ref (aM 0)), (3, .int x3)] [] (W2 aX aM cA cR μX μM) := by
  refine r_aload_n (pc := 600) 1 g dL_law_600 rfl ?_
  refine r_aload_n (pc := 601) 0 g dL_law_601 rfl ?_
  refine r_iload_n (pc := 602) 3 g dL_law_602 rfl ?_
  refine r_iconst (pc := 603) g dL_law_603 ci_1 ?_
  refine r_iadd (pc := 604) g dL_law_604 ?_
  obtain ⟨b1, h⟩ := h
  refine r_sld (pc := 605) g hS dL_law_605 b1 ?_
  refine l_callXi (pc := 606) (st := []) g hX dL_law_606 (m_X11_cross (xs (x3 + 1).toNatClampNeg) μX _ h) kb_RL_59 kv_X11_cross sX_0 rfl rfl rfl rfl (fun u2 μ3 h => ?_)
  refine r_pop (pc := 609) g dL_law_609 rfl ?_
  refine r_aload_n (pc := 610) 2 g dL_law_610 rfl ?_
  refine r_aload_n (pc := 611) 0 g dL_law_611 rfl ?_
  refine r_iload_n (pc := 612) 3 g dL_law_612 rfl ?_
  refine r_iconst (pc := 613) g dL_law_613 ci_1 ?_
  refine r_iadd (pc := 614) g dL_law_614 ?_
  obtain ⟨b4, h⟩ := h
  refine r_sld (pc := 615) g hS dL_law_615 b4 ?_
  refine l_callMi (pc := 616) (st := []) g hX dL_law_616 (m_X12_cross (xs (x3 + 1).toNatClampNeg) μM _ h) kb_RL_62 kv_X12_cross sM_0 rfl rfl rfl rfl (fun u5 μ6 h => ?_)
  refine r_pop (pc := 619) g dL_law_619 rfl ?_
  refine r_goto (pc := 620) 1212 g dL_law_620 rfl ?_
  refine r_iinc (pc := 1212) (lv' := [(3, .int (x3 + 6)), (0, .ref b), (1, .ref (aX 0)), (2, .ref (aM 0))]) 3 g dL_law_1212 rfl ci_6 rfl rfl ?_
  refine r_goto (pc := 1215) 18 g dL_law_1215 rfl ?_
  refine r_sub [1, 2, 3, 0] (lv' := [(0, .ref b), (1, .ref (aX 0)), (2, .ref (aM 0)), (3, .int (x3 + 6))]) rfl ?_
  exact hP (x3 + 6) μ3 μ6 h
def L_11 (L : Nat) (xs : Nat → Int32) (P : Int32 → Mem → Mem → Prop) (x3 : Int32) (μX μM : Mem) : Prop :=
  vp_in (x3 + 1) L ∧ T_X11_knot (xs (x3 + 1).toNatClampNeg) μX (fun (u2 : Int32) (μ3 : Mem) => vp_in (x3 + 1) L ∧ T_X12_knot (xs (x3 + 1).toNatClampNeg) μM (fun (u5 : Int32) (μ6 : Mem) => P (x3 + 6) μ3 μ6))
theorem lq_11 {X : Cx} {l : Launch} {D : va_G} {A : Nat → Prop} {b L : Nat} {xs : Nat → Int32} {aX aM : Nat → Nat} {cA cR : ClassId} (g : Gd X (aX, cA, cR, []) RL cL_law 4 room_1) (hX : atX X l D A) (hS : SX X b L xs) (hQ : LQ X b) (P : Int32 → Mem → Mem → Prop) (hP : ∀ (x3 : Int32) (μX μM : Mem), P x3 μX μM → V X 18 [(0, .ref b), (1, .ref (aX 0)), (2, .ref (aM 0)), (3, .int x3)] [] (W2 aX aM cA cR μX μM)) (x3 : Int32) (μX μM : Mem) (h : L_11 L xs P x3 μX μM) : V X 623 [(0, .ref b), (1, .ref (aX 0)), (2, .ref (aM 0)), (3, .int x3)] [] (W2 aX aM cA cR μX μM) := by
  refine r_aload_n (pc := 623) 1 g dL_law_623 rfl ?_
  refine r_aload_n (pc := 624) 0 g dL_law_624 rfl ?_
  refine r_iload_n (pc := 625) 3 g dL_law_625 rfl ?_
  refine r_iconst (pc := 626) g dL_law_626 ci_1 ?_
  refine r_iadd (pc := 627) g dL_law_627 ?_
  obtain ⟨b1, h⟩ := h
  refine r_sld (pc := 628) g hS dL_law_628 b1 ?_
  refine l_callXi (pc := 629) (st := []) g hX dL_law_629 (m_X11_knot (xs (x3 + 1).toNatClampNeg) μX _ h) kb_RL_63 kv_X11_knot sX_0 rfl rfl rfl rfl (fun u2 μ3 h => ?_)
  refine r_pop (pc := 632) g dL_law_632 rfl ?_
  refine r_aload_n (pc := 633) 2 g dL_law_633 rfl ?_
  refine r_aload_n (pc := 634) 0 g dL_law_634 rfl ?_
  refine r_iload_n (pc := 635) 3 g dL_law_635 rfl ?_
  refine r_iconst (pc := 636) g dL_law_636 ci_1 ?_
  refine r_iadd (pc := 637) g dL_law_637 ?_
  obtain ⟨b4, h⟩ := h
  refine r_sld (pc := 638) g hS dL_law_638 b4 ?_
  refine l_callMi (pc := 639) (st := []) g hX dL_law_639 (m_X12_knot (xs (x3 + 1).toNatClampNeg) μM _ h) kb_RL_66 kv_X12_knot sM_0 rfl rfl rfl rfl (fun u5 μ6 h => ?_)
  refine r_pop (pc := 642) g dL_law_642 rfl ?_
  refine r_goto (pc := 643) 1212 g dL_law_643 rfl ?_
  refine r_iinc (pc := 1212) (lv' := [(3, .int (x3 + 6)), (0, .ref b), (1, .ref (aX 0)), (2, .ref (aM 0))]) 3 g dL_law_1212 rfl ci_6 rfl rfl ?_
  refine r_goto (pc := 1215) 18 g dL_law_1215 rfl ?_
  refine r_sub [1, 2, 3, 0] (lv' := [(0, .ref b), (1, .ref (aX 0)), (2, .ref (aM 0)), (3, .int (x3 + 6))]) rfl ?_
  exact hP (x3 + 6) μ3 μ6 h
def L_12 (L : Nat) (xs : Nat → Int32) (P : Int32 → Mem → Mem → Prop) (x3 : Int32) (μX μM : Mem) : Prop :=
  T_X11_bound μX (fun (u1 : Int32) (μ2 : Mem) => T_X12_bound μM (fun (u3 : Int32) (μ4 : Mem) => P (x3 + 6) μ2 μ4))
theorem lq_12 {X : Cx} {l : Launch} {D : va_G} {A : Nat → Prop} {b L : Nat} {xs : Nat → Int32} {aX aM : Nat → Nat} {cA cR : ClassId} (g : Gd X (aX, cA, cR, []) RL cL_law 4 room_1) (hX : atX X l D A) (hS : SX X b L xs) (hQ : LQ X b) (P : Int32 → Mem → Mem → Prop) (hP : ∀ (x3 : Int32) (μX μM : Mem), P x3 μX μM → V X 18 [(0, .ref b), (1, .ref (aX 0)), (2, .ref (aM 0)), (3, .int x3)] [] (W2 aX aM cA cR μX μM)) (x3 : Int32) (μX μM : Mem) (h : L_12 L xs P x3 μX μM) : V X 646 [(0, .ref b), (1, .ref (aX 0)), (2, .ref (aM 0)), (3, .int x3)] [] (W2 aX aM cA cR μX μM) := by
  refine r_aload_n (pc := 646) 1 g dL_law_646 rfl ?_
  refine l_callXi (pc := 647) (st := []) g hX dL_law_647 (m_X11_bound μX _ h) kb_RL_67 kv_X11_bound sX_0 rfl rfl rfl rfl (fun u1 μ2 h => ?_)
  refine r_pop (pc := 650) g dL_law_650 rfl ?_
  refine r_aload_n (pc := 651) 2 g dL_law_651 rfl ?_
  refine l_callMi (pc := 652) (st := []) g hX dL_law_652 (m_X12_bound μM _ h) kb_RL_71 kv_X12_bound sM_0 rfl rfl rfl rfl (fun u3 μ4 h => ?_)
  refine r_pop (pc := 655) g dL_law_655 rfl ?_
  refine r_goto (pc := 656) 1212 g dL_law_656 rfl ?_
  refine r_iinc (pc := 1212) (lv' := [(3, .int (x3 + 6)), (0, .ref b), (1, .ref (aX 0)), (2, .ref (aM 0))]) 3 g dL_law_1212 rfl ci_6 rfl rfl ?_
  refine r_goto (pc := 1215) 18 g dL_law_1215 rfl ?_
  refine r_sub [1, 2, 3, 0] (lv' := [(0, .ref b), (1, .ref (aX 0)), (2, .ref (aM 0)), (3, .int (x3 + 6))]) rfl ?_
  exact hP (x3 + 6) μ2 μ4 h
def L_13 (L : Nat) (xs : Nat → Int32) (P : Int32 → Mem → Mem → Prop) (x3 : Int32) (μX μM : Mem) : Prop :=
  vp_in (x3 + 1) L ∧ T_X11_part (xs (x3 + 1).toNatClampNeg) μX (fun (u2 : Int32) (μ3 : Mem) => vp_in (x3 + 1) L ∧ T_X12_part (xs (x3 + 1).toNatClampNeg) μM (fun (u5 : Int32) (μ6 : Mem) => P (x3 + 6) μ3 μ6))
theorem lq_13 {X : Cx} {l : Launch} {D : va_G} {A : Nat → Prop} {b L : Nat} {xs : Nat → Int32} {aX aM : Nat → Nat} {cA cR : ClassId} (g : Gd X (aX, cA, cR, []) RL cL_law 4 room_1) (hX : atX X l D A) (hS : SX X b L xs) (hQ : LQ X b) (P : Int32 → Mem → Mem → Prop) (hP : ∀ (x3 : Int32) (μX μM : Mem), P x3 μX μM → V X 18 [(0, .ref b), (1, .ref (aX 0)), (2, .ref (aM 0)), (3, .int x3)] [] (W2 aX aM cA cR μX μM)) (x3 : Int32) (μX μM : Mem) (h : L_13 L xs P x3 μX μM) : V X 659 [(0, .ref b), (1, .ref (aX 0)), (2, .ref (aM 0)), (3, .int x3)] [] (W2 aX aM cA cR μX μM) := by
  refine r_aload_n (pc := 659) 1 g dL_law_659 rfl ?_
  refine r_aload_n (pc := 660) 0 g dL_law_660 rfl ?_
  refine r_iload_n (pc := 661) 3 g dL_law_661 rfl ?_
  refine r_iconst (pc := 662) g dL_law_662 ci_1 ?_
  refine r_iadd (pc := 663) g dL_law_663 ?_
  obtain ⟨b1, h⟩ := h
  refine r_sld (pc := 664) g hS dL_law_664 b1 ?_
  refine l_callXi (pc := 665) (st := []) g hX dL_law_665 (m_X11_part (xs (x3 + 1).toNatClampNeg) μX _ h) kb_RL_72 kv_X11_part sX_0 rfl rfl rfl rfl (fun u2 μ3 h => ?_)
  refine r_pop (pc := 668) g dL_law_668 rfl ?_
  refine r_aload_n (pc := 669) 2 g dL_law_669 rfl ?_
  refine r_aload_n (pc := 670) 0 g dL_law_670 rfl ?_
  refine r_iload_n (pc := 671) 3 g dL_law_671 rfl ?_
  refine r_iconst (pc := 672) g dL_law_672 ci_1 ?_
  refine r_iadd (pc := 673) g dL_law_673 ?_
  obtain ⟨b4, h⟩ := h
  refine r_sld (pc := 674) g hS dL_law_674 b4 ?_
  refine l_callMi (pc := 675) (st := []) g hX dL_law_675 (m_X12_part (xs (x3 + 1).toNatClampNeg) μM _ h) kb_RL_75 kv_X12_part sM_0 rfl rfl rfl rfl (fun u5 μ6 h => ?_)
  refine r_pop (pc := 678) g dL_law_678 rfl ?_
  refine r_goto (pc := 679) 1212 g dL_law_679 rfl ?_
  refine r_iinc (pc := 1212) (lv' := [(3, .int (x3 + 6)), (0, .ref b), (1, .ref (aX 0)), (2, .ref (aM 0))]) 3 g dL_law_1212 rfl ci_6 rfl rfl ?_
  refine r_goto (pc := 1215) 18 g dL_law_1215 rfl ?_
  refine r_sub [1, 2, 3, 0] (lv' := [(0, .ref b), (1, .ref (aX 0)), (2, .ref (aM 0)), (3, .int (x3 + 6))]) rfl ?_
  exact hP (x3 + 6) μ3 μ6 h
def L_14 (L : Nat) (xs : Nat → Int32) (P : Int32 → Mem → Mem → Prop) (x3 : Int32) (μX μM : Mem) : Prop :=
  T_X11_within μX (fun (u1 : Int32) (μ2 : Mem) => T_X12_within μM (fun (u3 : Int32) (μ4 : Mem) => P (x3 + 6) μ2 μ4))
theorem lq_14 {X : Cx} {l : Launch} {D : va_G} {A : Nat → Prop} {b L : Nat} {xs : Nat → Int32} {aX aM : Nat → Nat} {cA cR : ClassId} (g : Gd X (aX, cA, cR, []) RL cL_law 4 room_1) (hX : atX X l D A) (hS : SX X b L xs) (hQ : LQ X b) (P : Int32 → Mem → Mem → Prop) (hP : ∀ (x3 : Int32) (μX μM : Mem), P x3 μX μM → V X 18 [(0, .ref b), (1, .ref (aX 0)), (2, .ref (aM 0)), (3, .int x3)] [] (W2 aX aM cA cR μX μM)) (x3 : Int32) (μX μM : Mem) (h : L_14 L xs P x3 μX μM) : V X 682 [(0, .ref b), (1, .ref (aX 0)), (2, .ref (aM 0)), (3, .int x3)] [] (W2 aX aM cA cR μX μM) := by
  refine r_aload_n (pc := 682) 1 g dL_law_682 rfl ?_
  refine l_callXi (pc := 683) (st := []) g hX dL_law_683 (m_X11_within μX _ h) kb_RL_76 kv_X11_within sX_0 rfl rfl rfl rfl (fun u1 μ2 h => ?_)
  refine r_pop (pc := 686) g dL_law_686 rfl ?_
  refine r_aload_n (pc := 687) 2 g dL_law_687 rfl ?_
  refine l_callMi (pc := 688) (st := []) g hX dL_law_688 (m_X12_within μM _ h) kb_RL_79 kv_X12_within sM_0 rfl rfl rfl rfl (fun u3 μ4 h => ?_)
  refine r_pop (pc := 691) g dL_law_691 rfl ?_
  refine r_goto (pc := 692) 1212 g dL_law_692 rfl ?_
  refine r_iinc (pc := 1212) (lv' := [(3, .int (x3 + 6)), (0, .ref b), (1, .ref (aX 0)), (2, .ref (aM 0))]) 3 g dL_law_1212 rfl ci_6 rfl rfl ?_
  refine r_goto (pc := 1215) 18 g dL_law_1215 rfl ?_
  refine r_sub [1, 2, 3, 0] (lv' := [(0, .ref b), (1, .ref (aX 0)), (2, .ref (aM 0)), (3, .int (x3 + 6))]) rfl ?_
  exact hP (x3 + 6) μ2 μ4 h
def L_15 (L : Nat) (xs : Nat → Int32) (P : Int32 → Mem → Mem → Prop) (x3 : Int32) (μX μM : Mem) : Prop :=
  vp_in (x3 + 1) L ∧ vp_in (x3 + 2) L ∧ T_X11_build (xs (x3 + 1).toNatClampNeg) (xs (x3 + 2).toNatClampNeg) μX (fun (u3 : Int32) (μ4 : Mem) => vp_in (x3 + 1) L ∧ vp_in (x3 + 2) L ∧ T_X12_build (xs (x3 + 1).toNatClampNeg) (xs (x3 + 2).toNatClampNeg) μM (fun (u7 : Int32) (μ8 : Mem) => P (x3 + 6) μ4 μ8))
theorem lq_15 {X : Cx} {l : Launch} {D : va_G} {A : Nat → Prop} {b L : Nat} {xs : Nat → Int32} {aX aM : Nat → Nat} {cA cR : ClassId} (g : Gd X (aX, cA, cR, []) RL cL_law 4 room_1) (hX : atX X l D A) (hS : SX X b L xs) (hQ : LQ X b) (P : Int32 → Mem → Mem → Prop) (hP : ∀ (x3 : Int32) (μX μM : Mem), P x3 μX μM → V X 18 [(0, .ref b), (1, .ref (aX 0)), (2, .ref (aM 0)), (3, .int x3)] [] (W2 aX aM cA cR μX μM)) (x3 : Int32) (μX μM : Mem) (h : L_15 L xs P x3 μX μM) : V X 695 [(0, .ref b), (1, .ref (aX 0)), (2, .ref (aM 0)), (3, .int x3)] [] (W2 aX aM cA cR μX μM) := by
  refine r_aload_n (pc := 695) 1 g dL_law_695 rfl ?_
  refine r_aload_n (pc := 696) 0 g dL_law_696 rfl ?_
  refine r_iload_n (pc := 697) 3 g dL_law_697 rfl ?_
  refine r_iconst (pc := 698) g dL_law_698 ci_1 ?_
  refine r_iadd (pc := 699) g dL_law_699 ?_
  obtain ⟨b1, h⟩ := h
  refine r_sld (pc := 700) g hS dL_law_700 b1 ?_
  refine r_aload_n (pc := 701) 0 g dL_law_701 rfl ?_
  refine r_iload_n (pc := 702) 3 g dL_law_702 rfl ?_
  refine r_iconst (pc := 703) g dL_law_703 ci_2 ?_
  refine r_iadd (pc := 704) g dL_law_704 ?_
  obtain ⟨b2, h⟩ := h
  refine r_sld (pc := 705) g hS dL_law_705 b2 ?_
  refine l_callXi (pc := 706) (st := []) g hX dL_law_706 (m_X11_build (xs (x3 + 1).toNatClampNeg) (xs (x3 + 2).toNatClampNeg) μX _ h) kb_RL_80 kv_X11_build sX_0 rfl rfl rfl rfl (fun u3 μ4 h => ?_)
  refine r_pop (pc := 709) g dL_law_709 rfl ?_
  refine r_aload_n (pc := 710) 2 g dL_law_710 rfl ?_
  refine r_aload_n (pc := 711) 0 g dL_law_711 rfl ?_
  refine r_iload_n (pc := 712) 3 g dL_law_712 rfl ?_
  refine r_iconst (pc := 713) g dL_law_713 ci_1 ?_
  refine r_iadd (pc := 714) g dL_law_714 ?_
  obtain ⟨b5, h⟩ := h
  refine r_sld (pc := 715) g hS dL_law_715 b5 ?_
  refine r_aload_n (pc := 716) 0 g dL_law_716 rfl ?_
  refine r_iload_n (pc := 717) 3 g dL_law_717 rfl ?_
  refine r_iconst (pc := 718) g dL_law_718 ci_2 ?_
  refine r_iadd (pc := 719) g dL_law_719 ?_
  obtain ⟨b6, h⟩ := h
  refine r_sld (pc := 720) g hS dL_law_720 b6 ?_
  refine l_callMi (pc := 721) (st := []) g hX dL_law_721 (m_X12_build (xs (x3 + 1).toNatClampNeg) (xs (x3 + 2).toNatClampNeg) μM _ h) kb_RL_83 kv_X12_build sM_0 rfl rfl rfl rfl (fun u7 μ8 h => ?_)
  refine r_pop (pc := 724) g dL_law_724 rfl ?_
  refine r_goto (pc := 725) 1212 g dL_law_725 rfl ?_
  refine r_iinc (pc := 1212) (lv' := [(3, .int (x3 + 6)), (0, .ref b), (1, .ref (aX 0)), (2, .ref (aM 0))]) 3 g dL_law_1212 rfl ci_6 rfl rfl ?_
  refine r_goto (pc := 1215) 18 g dL_law_1215 rfl ?_
  refine r_sub [1, 2, 3, 0] (lv' := [(0, .ref b), (1, .ref (aX 0)), (2, .ref (aM 0)), (3, .int (x3 + 6))]) rfl ?_
  exact hP (x3 + 6) μ4 μ8 h
def L_16 (L : Nat) (xs : Nat → Int32) (P : Int32 → Mem → Mem → Prop) (x3 : Int32) (μX μM : Mem) : Prop :=
  vp_in (x3 + 1) L ∧ T_X11_move (xs (x3 + 1).toNatClampNeg) μX (fun (u2 : Int32) (μ3 : Mem) => vp_in (x3 + 1) L ∧ T_X12_move (xs (x3 + 1).toNatClampNeg) μM (fun (u5 : Int32) (μ6 : Mem) => P (x3 + 6) μ3 μ6))
theorem lq_16 {X : Cx} {l : Launch} {D : va_G} {A : Nat → Prop} {b L : Nat} {xs : Nat → Int32} {aX aM : Nat → Nat} {cA cR : ClassId} (g : Gd X (aX, cA, cR, []) RL cL_law 4 room_1) (hX : atX X l D A) (hS : SX X b L xs) (hQ : LQ X b) (P : Int32 → Mem → Mem → Prop) (hP : ∀ (x3 : Int32) (μX μM : Mem), P x3 μX μM → V X 18 [(0, .ref b), (1, .ref (aX 0)), (2, .ref (aM 0)), (3, .int x3)] [] (W2 aX aM cA cR μX μM)) (x3 : Int32) (μX μM : Mem) (h : L_16 L xs P x3 μX μM) : V X 728 [(0, .ref b), (1, .ref (aX 0)), (2, .ref (aM 0)), (3, .int x3)] [] (W2 aX aM cA cR μX μM) := by
  refine r_aload_n (pc := 728) 1 g dL_law_728 rfl ?_
  refine r_aload_n (pc := 729) 0 g dL_law_729 rfl ?_
  refine r_iload_n (pc := 730) 3 g dL_law_730 rfl ?_
  refine r_iconst (pc := 731) g dL_law_731 ci_1 ?_
  refine r_iadd (pc := 732) g dL_law_732 ?_
  obtain ⟨b1, h⟩ := h
  refine r_sld (pc := 733) g hS dL_law_733 b1 ?_
  refine l_callXi (pc := 734) (st := []) g hX dL_law_734 (m_X11_move (xs (x3 + 1).toNatClampNeg) μX _ h) kb_RL_84 kv_X11_move sX_0 rfl rfl rfl rfl (fun u2 μ3 h => ?_)
  refine r_pop (pc := 737) g dL_law_737 rfl ?_
  refine r_aload_n (pc := 738) 2 g dL_law_738 rfl ?_
  refine r_aload_n (pc := 739) 0 g dL_law_739 rfl ?_
  refine r_iload_n (pc := 740) 3 g dL_law_740 rfl ?_
  refine r_iconst (pc := 741) g dL_law_741 ci_1 ?_
  refine r_iadd (pc := 742) g dL_law_742 ?_
  obtain ⟨b4, h⟩ := h
  refine r_sld (pc := 743) g hS dL_law_743 b4 ?_
  refine l_callMi (pc := 744) (st := []) g hX dL_law_744 (m_X12_move (xs (x3 + 1).toNatClampNeg) μM _ h) kb_RL_87 kv_X12_move sM_0 rfl rfl rfl rfl (fun u5 μ6 h => ?_)
  refine r_pop (pc := 747) g dL_law_747 rfl ?_
  refine r_goto (pc := 748) 1212 g dL_law_748 rfl ?_
  refine r_iinc (pc := 1212) (lv' := [(3, .int (x3 + 6)), (0, .ref b), (1, .ref (aX 0)), (2, .ref (aM 0))]) 3 g dL_law_1212 rfl ci_6 rfl rfl ?_
  refine r_goto (pc := 1215) 18 g dL_law_1215 rfl ?_
  refine r_sub [1, 2, 3, 0] (lv' := [(0, .ref b), (1, .ref (aX 0)), (2, .ref (aM 0)), (3, .int (x3 + 6))]) rfl ?_
  exact hP (x3 + 6) μ3 μ6 h
def L_17 (L : Nat) (xs : Nat → Int32) (P : Int32 → Mem → Mem → Prop) (x3 : Int32) (μX μM : Mem) : Prop :=
  vp_in (x3 + 1) L ∧ T_X11_moves (xs (x3 + 1).toNatClampNeg) μX (fun (u2 : Int32) (μ3 : Mem) => vp_in (x3 + 1) L ∧ T_X12_moves (xs (x3 + 1).toNatClampNeg) μM (fun (u5 : Int32) (μ6 : Mem) => P (x3 + 6) μ3 μ6))
theorem lq_17 {X : Cx} {l : Launch} {D : va_G} {A : Nat → Prop} {b L : Nat} {xs : Nat → Int32} {aX aM : Nat → Nat} {cA cR : ClassId} (g : Gd X (aX, cA, cR, []) RL cL_law 4 room_1) (hX : atX X l D A) (hS : SX X b L xs) (hQ : LQ X b) (P : Int32 → Mem → Mem → Prop) (hP : ∀ (x3 : Int32) (μX μM : Mem), P x3 μX μM → V X 18 [(0, .ref b), (1, .ref (aX 0)), (2, .ref (aM 0)), (3, .int x3)] [] (W2 aX aM cA cR μX μM)) (x3 : Int32) (μX μM : Mem) (h : L_17 L xs P x3 μX μM) : V X 751 [(0, .ref b), (1, .ref (aX 0)), (2, .ref (aM 0)), (3, .int x3)] [] (W2 aX aM cA cR μX μM) := by
  refine r_aload_n (pc := 751) 1 g dL_law_751 rfl ?_
  refine r_aload_n (pc := 752) 0 g dL_law_752 rfl ?_
  refine r_iload_n (pc := 753) 3 g dL_law_753 rfl ?_
  refine r_iconst (pc := 754) g dL_law_754 ci_1 ?_
  refine r_iadd (pc := 755) g dL_law_755 ?_
  obtain ⟨b1, h⟩ := h
  refine r_sld (pc := 756) g hS dL_law_756 b1 ?_
  refine l_callXi (pc := 757) (st := []) g hX dL_law_757 (m_X11_moves (xs (x3 + 1).toNatClampNeg) μX _ h) kb_RL_88 kv_X11_moves sX_0 rfl rfl rfl rfl (fun u2 μ3 h => ?_)
  refine r_pop (pc := 760) g dL_law_760 rfl ?_
  refine r_aload_n (pc := 761) 2 g dL_law_761 rfl ?_
  refine r_aload_n (pc := 762) 0 g dL_law_762 rfl ?_
  refine r_iload_n (pc := 763) 3 g dL_law_763 rfl ?_
  refine r_iconst (pc := 764) g dL_law_764 ci_1 ?_
  refine r_iadd (pc := 765) g dL_law_765 ?_
  obtain ⟨b4, h⟩ := h
  refine r_sld (pc := 766) g hS dL_law_766 b4 ?_
  refine l_callMi (pc := 767) (st := []) g hX dL_law_767 (m_X12_moves (xs (x3 + 1).toNatClampNeg) μM _ h) kb_RL_91 kv_X12_moves sM_0 rfl rfl rfl rfl (fun u5 μ6 h => ?_)
  refine r_pop (pc := 770) g dL_law_770 rfl ?_
  refine r_goto (pc := 771) 1212 g dL_law_771 rfl ?_
  refine r_iinc (pc := 1212) (lv' := [(3, .int (x3 + 6)), (0, .ref b), (1, .ref (aX 0)), (2, .ref (aM 0))]) 3 g dL_law_1212 rfl ci_6 rfl rfl ?_
  refine r_goto (pc := 1215) 18 g dL_law_1215 rfl ?_
  refine r_sub [1, 2, 3, 0] (lv' := [(0, .ref b), (1, .ref (aX 0)), (2, .ref (aM 0)), (3, .int (x3 + 6))]) rfl ?_
  exact hP (x3 + 6) μ3 μ6 h
def L_18 (L : Nat) (xs : Nat → Int32) (P : Int32 → Mem → Mem → Prop) (x3 : Int32) (μX μM : Mem) : Prop :=
  vp_in (x3 + 1) L ∧ vp_in (x3 + 2) L ∧ T_X11_cheapest (xs (x3 + 1).toNatClampNeg) (xs (x3 + 2).toNatClampNeg) μX (fun (u3 : Int32) (μ4 : Mem) => vp_in (x3 + 1) L ∧ vp_in (x3 + 2) L ∧ T_X12_cheapest (xs (x3 + 1).toNatClampNeg) (xs (x3 + 2).toNatClampNeg) μM (fun (u7 : Int32) (μ8 : Mem) => P (x3 + 6) μ4 μ8))
theorem lq_18 {X : Cx} {l : Launch} {D : va_G} {A : Nat → Prop} {b L : Nat} {xs : Nat → Int32} {aX aM : Nat → Nat} {cA cR : ClassId} (g : Gd X (aX, cA, cR, []) RL cL_law 4 room_1) (hX : atX X l D A) (hS : SX X b L xs) (hQ : LQ X b) (P : Int32 → Mem → Mem → Prop) (hP : ∀ (x3 : Int32) (μX μM : Mem), P x3 μX μM → V X 18 [(0, .ref b), (1, .ref (aX 0)), (2, .ref (aM 0)), (3, .int x3)] [] (W2 aX aM cA cR μX μM)) (x3 : Int32) (μX μM : Mem) (h : L_18 L xs P x3 μX μM) : V X 774 [(0, .ref b), (1, .ref (aX 0)), (2, .ref (aM 0)), (3, .int x3)] [] (W2 aX aM cA cR μX μM) := by
  refine r_aload_n (pc := 774) 1 g dL_law_774 rfl ?_
  refine r_aload_n (pc := 775) 0 g dL_law_775 rfl ?_
  refine r_iload_n (pc := 776) 3 g dL_law_776 rfl ?_
  refine r_iconst (pc := 777) g dL_law_777 ci_1 ?_
  refine r_iadd (pc := 778) g dL_law_778 ?_
  obtain ⟨b1, h⟩ := h
  refine r_sld (pc := 779) g hS dL_law_779 b1 ?_
  refine r_aload_n (pc := 780) 0 g dL_law_780 rfl ?_
  refine r_iload_n (pc := 781) 3 g dL_law_781 rfl ?_
  refine r_iconst (pc := 782) g dL_law_782 ci_2 ?_
  refine r_iadd (pc := 783) g dL_law_783 ?_
  obtain ⟨b2, h⟩ := h
  refine r_sld (pc := 784) g hS dL_law_784 b2 ?_
  refine l_callXi (pc := 785) (st := []) g hX dL_law_785 (m_X11_cheapest (xs (x3 + 1).toNatClampNeg) (xs (x3 + 2).toNatClampNeg) μX _ h) kb_RL_92 kv_X11_cheapest sX_0 rfl rfl rfl rfl (fun u3 μ4 h => ?_)
  refine r_pop (pc := 788) g dL_law_788 rfl ?_
  refine r_aload_n (pc := 789) 2 g dL_law_789 rfl ?_
  refine r_aload_n (pc := 790) 0 g dL_law_790 rfl ?_
  refine r_iload_n (pc := 791) 3 g dL_law_791 rfl ?_
  refine r_iconst (pc := 792) g dL_law_792 ci_1 ?_
  refine r_iadd (pc := 793) g dL_law_793 ?_
  obtain ⟨b5, h⟩ := h
  refine r_sld (pc := 794) g hS dL_law_794 b5 ?_
  refine r_aload_n (pc := 795) 0 g dL_law_795 rfl ?_
  refine r_iload_n (pc := 796) 3 g dL_law_796 rfl ?_
  refine r_iconst (pc := 797) g dL_law_797 ci_2 ?_
  refine r_iadd (pc := 798) g dL_law_798 ?_
  obtain ⟨b6, h⟩ := h
  refine r_sld (pc := 799) g hS dL_law_799 b6 ?_
  refine l_callMi (pc := 800) (st := []) g hX dL_law_800 (m_X12_cheapest (xs (x3 + 1).toNatClampNeg) (xs (x3 + 2).toNatClampNeg) μM _ h) kb_RL_95 kv_X12_cheapest sM_0 rfl rfl rfl rfl (fun u7 μ8 h => ?_)
  refine r_pop (pc := 803) g dL_law_803 rfl ?_
  refine r_goto (pc := 804) 1212 g dL_law_804 rfl ?_
  refine r_iinc (pc := 1212) (lv' := [(3, .int (x3 + 6)), (0, .ref b), (1, .ref (aX 0)), (2, .ref (aM 0))]) 3 g dL_law_1212 rfl ci_6 rfl rfl ?_
  refine r_goto (pc := 1215) 18 g dL_law_1215 rfl ?_
  refine r_sub [1, 2, 3, 0] (lv' := [(0, .ref b), (1, .ref (aX 0)), (2, .ref (aM 0)), (3, .int (x3 + 6))]) rfl ?_
  exact hP (x3 + 6) μ4 μ8 h
def L_19 (L : Nat) (xs : Nat → Int32) (P : Int32 → Mem → Mem → Prop) (x3 : Int32) (μX μM : Mem) : Prop :=
  vp_in (x3 + 1) L ∧ vp_in (x3 + 2) L ∧ T_X11_room (xs (x3 + 1).toNatClampNeg) (xs (x3 + 2).toNatClampNeg) μX (fun (u3 : Int32) (μ4 : Mem) => vp_in (x3 + 1) L ∧ vp_in (x3 + 2) L ∧ T_X12_room (xs (x3 + 1).toNatClampNeg) (xs (x3 + 2).toNatClampNeg) μM (fun (u7 : Int32) (μ8 : Mem) => P (x3 + 6) μ4 μ8))
theorem lq_19 {X : Cx} {l : Launch} {D : va_G} {A : Nat → Prop} {b L : Nat} {xs : Nat → Int32} {aX aM : Nat → Nat} {cA cR : ClassId} (g : Gd X (aX, cA, cR, []) RL cL_law 4 room_1) (hX : atX X l D A) (hS : SX X b L xs) (hQ : LQ X b) (P : Int32 → Mem → Mem → Prop) (hP : ∀ (x3 : Int32) (μX μM : Mem), P x3 μX μM → V X 18 [(0, .ref b), (1, .ref (aX 0)), (2, .ref (aM 0)), (3, .int x3)] [] (W2 aX aM cA cR μX μM)) (x3 : Int32) (μX μM : Mem) (h : L_19 L xs P x3 μX μM) : V X 807 [(0, .ref b), (1, .ref (aX 0)), (2, .ref (aM 0)), (3, .int x3)] [] (W2 aX aM cA cR μX μM) := by
  refine r_aload_n (pc := 807) 1 g dL_law_807 rfl ?_
  refine r_aload_n (pc := 808) 0 g dL_law_808 rfl ?_
  refine r_iload_n (pc := 809) 3 g dL_law_809 rfl ?_
  refine r_iconst (pc := 810) g dL_law_810 ci_1 ?_
  refine r_iadd (pc := 811) g dL_law_811 ?_
  obtain ⟨b1, h⟩ := h
  refine r_sld (pc := 812) g hS dL_law_812 b1 ?_
  refine r_aload_n (pc := 813) 0 g dL_law_813 rfl ?_
  refine r_iload_n (pc := 814) 3 g dL_law_814 rfl ?_
  refine r_iconst (pc := 815) g dL_law_815 ci_2 ?_
  refine r_iadd (pc := 816) g dL_law_816 ?_
  obtain ⟨b2, h⟩ := h
  refine r_sld (pc := 817) g hS dL_law_817 b2 ?_
  refine l_callXi (pc := 818) (st := []) g hX dL_law_818 (m_X11_room (xs (x3 + 1).toNatClampNeg) (xs (x3 + 2).toNatClampNeg) μX _ h) kb_RL_96 kv_X11_room sX_0 rfl rfl rfl rfl (fun u3 μ4 h => ?_)
  refine r_pop (pc := 821) g dL_law_821 rfl ?_
  refine r_aload_n (pc := 822) 2 g dL_law_822 rfl ?_
  refine r_aload_n (pc := 823) 0 g dL_law_823 rfl ?_
  refine r_iload_n (pc := 824) 3 g dL_law_824 rfl ?_
  refine r_iconst (pc := 825) g dL_law_825 ci_1 ?_
  refine r_iadd (pc := 826) g dL_law_826 ?_
  obtain ⟨b5, h⟩ := h
  refine r_sld (pc := 827) g hS dL_law_827 b5 ?_
  refine r_aload_n (pc := 828) 0 g dL_law_828 rfl ?_
  refine r_iload_n (pc := 829) 3 g dL_law_829 rfl ?_
  refine r_iconst (pc := 830) g dL_law_830 ci_2 ?_
  refine r_iadd (pc := 831) g dL_law_831 ?_
  obtain ⟨b6, h⟩ := h
  refine r_sld (pc := 832) g hS dL_law_832 b6 ?_
  refine l_callMi (pc := 833) (st := []) g hX dL_law_833 (m_X12_room (xs (x3 + 1).toNatClampNeg) (xs (x3 + 2).toNatClampNeg) μM _ h) kb_RL_99 kv_X12_room sM_0 rfl rfl rfl rfl (fun u7 μ8 h => ?_)
  refine r_pop (pc := 836) g dL_law_836 rfl ?_
  refine r_goto (pc := 837) 1212 g dL_law_837 rfl ?_
  refine r_iinc (pc := 1212) (lv' := [(3, .int (x3 + 6)), (0, .ref b), (1, .ref (aX 0)), (2, .ref (aM 0))]) 3 g dL_law_1212 rfl ci_6 rfl rfl ?_
  refine r_goto (pc := 1215) 18 g dL_law_1215 rfl ?_
  refine r_sub [1, 2, 3, 0] (lv' := [(0, .ref b), (1, .ref (aX 0)), (2, .ref (aM 0)), (3, .int (x3 + 6))]) rfl ?_
  exact hP (x3 + 6) μ4 μ8 h
def L_20 (L : Nat) (xs : Nat → Int32) (P : Int32 → Mem → Mem → Prop) (x3 : Int32) (μX μM : Mem) : Prop :=
  vp_in (x3 + 1) L ∧ T_X11_two (xs (x3 + 1).toNatClampNeg) μX (fun (u2 : Int32) (μ3 : Mem) => vp_in (x3 + 1) L ∧ T_X12_two (xs (x3 + 1).toNatClampNeg) μM (fun (u5 : Int32) (μ6 : Mem) => P (x3 + 6) μ3 μ6))
theorem lq_20 {X : Cx} {l : Launch} {D : va_G} {A : Nat → Prop} {b L : Nat} {xs : Nat → Int32} {aX aM : Nat → Nat} {cA cR : ClassId} (g : Gd X (aX, cA, cR, []) RL cL_law 4 room_1) (hX : atX X l D A) (hS : SX X b L xs) (hQ : LQ X b) (P : Int32 → Mem → Mem → Prop) (hP : ∀ (x3 : Int32) (μX μM : Mem), P x3 μX μM → V X 18 [(0, .ref b), (1, .ref (aX 0)), (2, .ref (aM 0)), (3, .int x3)] [] (W2 aX aM cA cR μX μM)) (x3 : Int32) (μX μM : Mem) (h : L_20 L xs P x3 μX μM) : V X 840 [(0, .ref b), (1, .ref (aX 0)), (2, .ref (aM 0)), (3, .int x3)] [] (W2 aX aM cA cR μX μM) := by
  refine r_aload_n (pc := 840) 1 g dL_law_840 rfl ?_
  refine r_aload_n (pc := 841) 0 g dL_law_841 rfl ?_
  refine r_iload_n (pc := 842) 3 g dL_law_842 rfl ?_
  refine r_iconst (pc := 843) g dL_law_843 ci_1 ?_
  refine r_iadd (pc := 844) g dL_law_844 ?_
  obtain ⟨b1, h⟩ := h
  refine r_sld (pc := 845) g hS dL_law_845 b1 ?_
  refine l_callXi (pc := 846) (st := []) g hX dL_law_846 (m_X11_two (xs (x3 + 1).toNatClampNeg) μX _ h) kb_RL_100 kv_X11_two sX_0 rfl rfl rfl rfl (fun u2 μ3 h => ?_)
  refine r_pop (pc := 849) g dL_law_849 rfl ?_
  refine r_aload_n (pc := 850) 2 g dL_law_850 rfl ?_
  refine r_aload_n (pc := 851) 0 g dL_law_851 rfl ?_
  refine r_iload_n (pc := 852) 3 g dL_law_852 rfl ?_
  refine r_iconst (pc := 853) g dL_law_853 ci_1 ?_
  refine r_iadd (pc := 854) g dL_law_854 ?_
  obtain ⟨b4, h⟩ := h
  refine r_sld (pc := 855) g hS dL_law_855 b4 ?_
  refine l_callMi (pc := 856) (st := []) g hX dL_law_856 (m_X12_two (xs (x3 + 1).toNatClampNeg) μM _ h) kb_RL_103 kv_X12_two sM_0 rfl rfl rfl rfl (fun u5 μ6 h => ?_)
  refine r_pop (pc := 859) g dL_law_859 rfl ?_
  refine r_goto (pc := 860) 1212 g dL_law_860 rfl ?_
  refine r_iinc (pc := 1212) (lv' := [(3, .int (x3 + 6)), (0, .ref b), (1, .ref (aX 0)), (2, .ref (aM 0))]) 3 g dL_law_1212 rfl ci_6 rfl rfl ?_
  refine r_goto (pc := 1215) 18 g dL_law_1215 rfl ?_
  refine r_sub [1, 2, 3, 0] (lv' := [(0, .ref b), (1, .ref (aX 0)), (2, .ref (aM 0)), (3, .int (x3 + 6))]) rfl ?_
  exact hP (x3 + 6) μ3 μ6 h
def L_21 (L : Nat) (xs : Nat → Int32) (P : Int32 → Mem → Mem → Prop) (x3 : Int32) (μX μM : Mem) : Prop :=
  vp_in (x3 + 1) L ∧ T_X11_without (xs (x3 + 1).toNatClampNeg) μX (fun (u2 : Int32) (μ3 : Mem) => vp_in (x3 + 1) L ∧ T_X12_without (xs (x3 + 1).toNatClampNeg) μM (fun (u5 : Int32) (μ6 : Mem) => P (x3 + 6) μ3 μ6))
theorem lq_21 {X : Cx} {l : Launch} {D : va_G} {A : Nat → Prop} {b L : Nat} {xs : Nat → Int32} {aX aM : Nat → Nat} {cA cR : ClassId} (g : Gd X (aX, cA, cR, []) RL cL_law 4 room_1) (hX : atX X l D A) (hS : SX X b L xs) (hQ : LQ X b) (P : Int32 → Mem → Mem → Prop) (hP : ∀ (x3 : Int32) (μX μM : Mem), P x3 μX μM → V X 18 [(0, .ref b), (1, .ref (aX 0)), (2, .ref (aM 0)), (3, .int x3)] [] (W2 aX aM cA cR μX μM)) (x3 : Int32) (μX μM : Mem) (h : L_21 L xs P x3 μX μM) : V X 863 [(0, .ref b), (1, .ref (aX 0)), (2, .ref (aM 0)), (3, .int x3)] [] (W2 aX aM cA cR μX μM) := by
  refine r_aload_n (pc := 863) 1 g dL_law_863 rfl ?_
  refine r_aload_n (pc := 864) 0 g dL_law_864 rfl ?_
  refine r_iload_n (pc := 865) 3 g dL_law_865 rfl ?_
  refine r_iconst (pc := 866) g dL_law_866 ci_1 ?_
  refine r_iadd (pc := 867) g dL_law_867 ?_
  obtain ⟨b1, h⟩ := h
  refine r_sld (pc := 868) g hS dL_law_868 b1 ?_
  refine l_callXi (pc := 869) (st := []) g hX dL_law_869 (m_X11_without (xs (x3 + 1).toNatClampNeg) μX _ h) kb_RL_104 kv_X11_without sX_0 rfl rfl rfl rfl (fun u2 μ3 h => ?_)
  refine r_pop (pc := 872) g dL_law_872 rfl ?_
  refine r_aload_n (pc := 873) 2 g dL_law_873 rfl ?_
  refine r_aload_n (pc := 874) 0 g dL_law_874 rfl ?_
  refine r_iload_n (pc := 875) 3 g dL_law_875 rfl ?_
  refine r_iconst (pc := 876) g dL_law_876 ci_1 ?_
  refine r_iadd (pc := 877) g dL_law_877 ?_
  obtain ⟨b4, h⟩ := h
  refine r_sld (pc := 878) g hS dL_law_878 b4 ?_
  refine l_callMi (pc := 879) (st := []) g hX dL_law_879 (m_X12_without (xs (x3 + 1).toNatClampNeg) μM _ h) kb_RL_107 kv_X12_without sM_0 rfl rfl rfl rfl (fun u5 μ6 h => ?_)
  refine r_pop (pc := 882) g dL_law_882 rfl ?_
  refine r_goto (pc := 883) 1212 g dL_law_883 rfl ?_
  refine r_iinc (pc := 1212) (lv' := [(3, .int (x3 + 6)), (0, .ref b), (1, .ref (aX 0)), (2, .ref (aM 0))]) 3 g dL_law_1212 rfl ci_6 rfl rfl ?_
  refine r_goto (pc := 1215) 18 g dL_law_1215 rfl ?_
  refine r_sub [1, 2, 3, 0] (lv' := [(0, .ref b), (1, .ref (aX 0)), (2, .ref (aM 0)), (3, .int (x3 + 6))]) rfl ?_
  exact hP (x3 + 6) μ3 μ6 h
def L_22 (L : Nat) (xs : Nat → Int32) (P : Int32 → Mem → Mem → Prop) (x3 : Int32) (μX μM : Mem) : Prop :=
  vp_in (x3 + 1) L ∧ vp_in (x3 + 2) L ∧ T_X11_why (xs (x3 + 1).toNatClampNeg) (xs (x3 + 2).toNatClampNeg) μX (fun (u3 : Int32) (μ4 : Mem) => vp_in (x3 + 1) L ∧ vp_in (x3 + 2) L ∧ T_X12_why (xs (x3 + 1).toNatClampNeg) (xs (x3 + 2).toNatClampNeg) μM (fun (u7 : Int32) (μ8 : Mem) => P (x3 + 6) μ4 μ8))
theorem lq_22 {X : Cx} {l : Launch} {D : va_G} {A : Nat → Prop} {b L : Nat} {xs : Nat → Int32} {aX aM : Nat → Nat} {cA cR : ClassId} (g : Gd X (aX, cA, cR, []) RL cL_law 4 room_1) (hX : atX X l D A) (hS : SX X b L xs) (hQ : LQ X b) (P : Int32 → Mem → Mem → Prop) (hP : ∀ (x3 : Int32) (μX μM : Mem), P x3 μX μM → V X 18 [(0, .ref b), (1, .ref (aX 0)), (2, .ref (aM 0)), (3, .int x3)] [] (W2 aX aM cA cR μX μM)) (x3 : Int32) (μX μM : Mem) (h : L_22 L xs P x3 μX μM) : V X 886 [(0, .ref b), (1, .ref (aX 0)), (2, .ref (aM 0)), (3, .int x3)] [] (W2 aX aM cA cR μX μM) := by
  refine r_aload_n (pc := 886) 1 g dL_law_886 rfl ?_
  refine r_aload_n (pc := 887) 0 g dL_law_887 rfl ?_
  refine r_iload_n (pc := 888) 3 g dL_law_888 rfl ?_
  refine r_iconst (pc := 889) g dL_law_889 ci_1 ?_
  refine r_iadd (pc := 890) g dL_law_890 ?_
  obtain ⟨b1, h⟩ := h
  refine r_sld (pc := 891) g hS dL_law_891 b1 ?_
  refine r_aload_n (pc := 892) 0 g dL_law_892 rfl ?_
  refine r_iload_n (pc := 893) 3 g dL_law_893 rfl ?_
  refine r_iconst (pc := 894) g dL_law_894 ci_2 ?_
  refine r_iadd (pc := 895) g dL_law_895 ?_
  obtain ⟨b2, h⟩ := h
  refine r_sld (pc := 896) g hS dL_law_896 b2 ?_
  refine l_callXi (pc := 897) (st := []) g hX dL_law_897 (m_X11_why (xs (x3 + 1).toNatClampNeg) (xs (x3 + 2).toNatClampNeg) μX _ h) kb_RL_108 kv_X11_why sX_0 rfl rfl rfl rfl (fun u3 μ4 h => ?_)
  refine r_pop (pc := 900) g dL_law_900 rfl ?_
  refine r_aload_n (pc := 901) 2 g dL_law_901 rfl ?_
  refine r_aload_n (pc := 902) 0 g dL_law_902 rfl ?_
  refine r_iload_n (pc := 903) 3 g dL_law_903 rfl ?_
  refine r_iconst (pc := 904) g dL_law_904 ci_1 ?_
  refine r_iadd (pc := 905) g dL_law_905 ?_
  obtain ⟨b5, h⟩ := h
  refine r_sld (pc := 906) g hS dL_law_906 b5 ?_
  refine r_aload_n (pc := 907) 0 g dL_law_907 rfl ?_
  refine r_iload_n (pc := 908) 3 g dL_law_908 rfl ?_
  refine r_iconst (pc := 909) g dL_law_909 ci_2 ?_
  refine r_iadd (pc := 910) g dL_law_910 ?_
  obtain ⟨b6, h⟩ := h
  refine r_sld (pc := 911) g hS dL_law_911 b6 ?_
  refine l_callMi (pc := 912) (st := []) g hX dL_law_912 (m_X12_why (xs (x3 + 1).toNatClampNeg) (xs (x3 + 2).toNatClampNeg) μM _ h) kb_RL_111 kv_X12_why sM_0 rfl rfl rfl rfl (fun u7 μ8 h => ?_)
  refine r_pop (pc := 915) g dL_law_915 rfl ?_
  refine r_goto (pc := 916) 1212 g dL_law_916 rfl ?_
  refine r_iinc (pc := 1212) (lv' := [(3, .int (x3 + 6)), (0, .ref b), (1, .ref (aX 0)), (2, .ref (aM 0))]) 3 g dL_law_1212 rfl ci_6 rfl rfl ?_
  refine r_goto (pc := 1215) 18 g dL_law_1215 rfl ?_
  refine r_sub [1, 2, 3, 0] (lv' := [(0, .ref b), (1, .ref (aX 0)), (2, .ref (aM 0)), (3, .int (x3 + 6))]) rfl ?_
  exact hP (x3 + 6) μ4 μ8 h
def L_23 (L : Nat) (xs : Nat → Int32) (P : Int32 → Mem → Mem → Prop) (x3 : Int32) (μX μM : Mem) : Prop :=
  T_X11_widest μX (fun (u1 : Int32) (μ2 : Mem) => T_X12_widest μM (fun (u3 : Int32) (μ4 : Mem) => P (x3 + 6) μ2 μ4))
theorem lq_23 {X : Cx} {l : Launch} {D : va_G} {A : Nat → Prop} {b L : Nat} {xs : Nat → Int32} {aX aM : Nat → Nat} {cA cR : ClassId} (g : Gd X (aX, cA, cR, []) RL cL_law 4 room_1) (hX : atX X l D A) (hS : SX X b L xs) (hQ : LQ X b) (P : Int32 → Mem → Mem → Prop) (hP : ∀ (x3 : Int32) (μX μM : Mem), P x3 μX μM → V X 18 [(0, .ref b), (1, .ref (aX 0)), (2, .ref (aM 0)), (3, .int x3)] [] (W2 aX aM cA cR μX μM)) (x3 : Int32) (μX μM : Mem) (h : L_23 L xs P x3 μX μM) : V X 919 [(0, .ref b), (1, .ref (aX 0)), (2, .ref (aM 0)), (3, .int x3)] [] (W2 aX aM cA cR μX μM) := by
  refine r_aload_n (pc := 919) 1 g dL_law_919 rfl ?_
  refine l_callXi (pc := 920) (st := []) g hX dL_law_920 (m_X11_widest μX _ h) kb_RL_112 kv_X11_widest sX_0 rfl rfl rfl rfl (fun u1 μ2 h => ?_)
  refine r_pop (pc := 923) g dL_law_923 rfl ?_
  refine r_aload_n (pc := 924) 2 g dL_law_924 rfl ?_
  refine l_callMi (pc := 925) (st := []) g hX dL_law_925 (m_X12_widest μM _ h) kb_RL_115 kv_X12_widest sM_0 rfl rfl rfl rfl (fun u3 μ4 h => ?_)
  refine r_pop (pc := 928) g dL_law_928 rfl ?_
  refine r_goto (pc := 929) 1212 g dL_law_929 rfl ?_
  refine r_iinc (pc := 1212) (lv' := [(3, .int (x3 + 6)), (0, .ref b), (1, .ref (aX 0)), (2, .ref (aM 0))]) 3 g dL_law_1212 rfl ci_6 rfl rfl ?_
  refine r_goto (pc := 1215) 18 g dL_law_1215 rfl ?_
  refine r_sub [1, 2, 3, 0] (lv' := [(0, .ref b), (1, .ref (aX 0)), (2, .ref (aM 0)), (3, .int (x3 + 6))]) rfl ?_
  exact hP (x3 + 6) μ2 μ4 h
def L_24 (L : Nat) (xs : Nat → Int32) (P : Int32 → Mem → Mem → Prop) (x3 : Int32) (μX μM : Mem) : Prop :=
  vp_in (x3 + 1) L ∧ vp_in (x3 + 2) L ∧ vp_in (x3 + 3) L ∧ T_X11_sheet (xs (x3 + 1).toNatClampNeg) (xs (x3 + 2).toNatClampNeg) (xs (x3 + 3).toNatClampNeg) μX (fun (u4 : Int32) (μ5 : Mem) => vp_in (x3 + 1) L ∧ vp_in (x3 + 2) L ∧ vp_in (x3 + 3) L ∧ T_X12_sheet (xs (x3 + 1).toNatClampNeg) (xs (x3 + 2).toNatClampNeg) (xs (x3 + 3).toNatClampNeg) μM (fun (u9 : Int32) (μ10 : Mem) => P (x3 + 6) μ5 μ10))
theorem lq_24 {X : Cx} {l : Launch} {D : va_G} {A : Nat → Prop} {b L : Nat} {xs : Nat → Int32} {aX aM : Nat → Nat} {cA cR : ClassId} (g : Gd X (aX, cA, cR, []) RL cL_law 4 room_1) (hX : atX X l D A) (hS : SX X b L xs) (hQ : LQ X b) (P : Int32 → Mem → Mem → Prop) (hP : ∀ (x3 : Int32) (μX μM : Mem), P x3 μX μM → V X 18 [(0, .ref b), (1, .ref (aX 0)), (2, .ref (aM 0)), (3, .int x3)] [] (W2 aX aM cA cR μX μM)) (x3 : Int32) (μX μM : Mem) (h : L_24 L xs P x3 μX μM) : V X 932 [(0, .ref b), (1, .ref (aX 0)), (2, .ref (aM 0)), (3, .int x3)] [] (W2 aX aM cA cR μX μM) := by
  refine r_aload_n (pc := 932) 1 g dL_law_932 rfl ?_
  refine r_aload_n (pc := 933) 0 g dL_law_933 rfl ?_
  refine r_iload_n (pc := 934) 3 g dL_law_934 rfl ?_
  refine r_iconst (pc := 935) g dL_law_935 ci_1 ?_
  refine r_iadd (pc := 936) g dL_law_936 ?_
  obtain ⟨b1, h⟩ := h
  refine r_sld (pc := 937) g hS dL_law_937 b1 ?_
  refine r_aload_n (pc := 938) 0 g dL_law_938 rfl ?_
  refine r_iload_n (pc := 939) 3 g dL_law_939 rfl ?_
  refine r_iconst (pc := 940) g dL_law_940 ci_2 ?_
  refine r_iadd (pc := 941) g dL_law_941 ?_
  obtain ⟨b2, h⟩ := h
  refine r_sld (pc := 942) g hS dL_law_942 b2 ?_
  refine r_aload_n (pc := 943) 0 g dL_law_943 rfl ?_
  refine r_iload_n (pc := 944) 3 g dL_law_944 rfl ?_
  refine r_iconst (pc := 945) g dL_law_945 ci_3 ?_
  refine r_iadd (pc := 946) g dL_law_946 ?_
  obtain ⟨b3, h⟩ := h
  refine r_sld (pc := 947) g hS dL_law_947 b3 ?_
  refine l_callXi (pc := 948) (st := []) g hX dL_law_948 (m_X11_sheet (xs (x3 + 1).toNatClampNeg) (xs (x3 + 2).toNatClampNeg) (xs (x3 + 3).toNatClampNeg) μX _ h) kb_RL_116 kv_X11_sheet sX_0 rfl rfl rfl rfl (fun u4 μ5 h => ?_)
  refine r_pop (pc := 951) g dL_law_951 rfl ?_
  refine r_aload_n (pc := 952) 2 g dL_law_952 rfl ?_
  refine r_aload_n (pc := 953) 0 g dL_law_953 rfl ?_
  refine r_iload_n (pc := 954) 3 g dL_law_954 rfl ?_
  refine r_iconst (pc := 955) g dL_law_955 ci_1 ?_
  refine r_iadd (pc := 956) g dL_law_956 ?_
  obtain ⟨b6, h⟩ := h
  refine r_sld (pc := 957) g hS dL_law_957 b6 ?_
  refine r_aload_n (pc := 958) 0 g dL_law_958 rfl ?_
  refine r_iload_n (pc := 959) 3 g dL_law_959 rfl ?_
  refine r_iconst (pc := 960) g dL_law_960 ci_2 ?_
  refine r_iadd (pc := 961) g dL_law_961 ?_
  obtain ⟨b7, h⟩ := h
  refine r_sld (pc := 962) g hS dL_law_962 b7 ?_
  refine r_aload_n (pc := 963) 0 g dL_law_963 rfl ?_
  refine r_iload_n (pc := 964) 3 g dL_law_964 rfl ?_
  refine r_iconst (pc := 965) g dL_law_965 ci_3 ?_
  refine r_iadd (pc := 966) g dL_law_966 ?_
  obtain ⟨b8, h⟩ := h
  refine r_sld (pc := 967) g hS dL_law_967 b8 ?_
  refine l_callMi (pc := 968) (st := []) g hX dL_law_968 (m_X12_sheet (xs (x3 + 1).toNatClampNeg) (xs (x3 + 2).toNatClampNeg) (xs (x3 + 3).toNatClampNeg) μM _ h) kb_RL_119 kv_X12_sheet sM_0 rfl rfl rfl rfl (fun u9 μ10 h => ?_)
  refine r_pop (pc := 971) g dL_law_971 rfl ?_
  refine r_goto (pc := 972) 1212 g dL_law_972 rfl ?_
  refine r_iinc (pc := 1212) (lv' := [(3, .int (x3 + 6)), (0, .ref b), (1, .ref (aX 0)), (2, .ref (aM 0))]) 3 g dL_law_1212 rfl ci_6 rfl rfl ?_
  refine r_goto (pc := 1215) 18 g dL_law_1215 rfl ?_
  refine r_sub [1, 2, 3, 0] (lv' := [(0, .ref b), (1, .ref (aX 0)), (2, .ref (aM 0)), (3, .int (x3 + 6))]) rfl ?_
  exact hP (x3 + 6) μ5 μ10 h
def L_25 (L : Nat) (xs : Nat → Int32) (P : Int32 → Mem → Mem → Prop) (x3 : Int32) (μX μM : Mem) : Prop :=
  vp_in (x3 + 1) L ∧ T_X11_lose (xs (x3 + 1).toNatClampNeg) μX (fun (u2 : Int32) (μ3 : Mem) => vp_in (x3 + 1) L ∧ T_X12_lose (xs (x3 + 1).toNatClampNeg) μM (fun (u5 : Int32) (μ6 : Mem) => P (x3 + 6) μ3 μ6))
theorem lq_25 {X : Cx} {l : Launch} {D : va_G} {A : Nat → Prop} {b L : Nat} {xs : Nat → Int32} {aX aM : Nat → Nat} {cA cR : ClassId} (g : Gd X (aX, cA, cR, []) RL cL_law 4 room_1) (hX : atX X l D A) (hS : SX X b L xs) (hQ : LQ X b) (P : Int32 → Mem → Mem → Prop) (hP : ∀ (x3 : Int32) (μX μM : Mem), P x3 μX μM → V X 18 [(0, .ref b), (1, .ref (aX 0)), (2, .ref (aM 0)), (3, .int x3)] [] (W2 aX aM cA cR μX μM)) (x3 : Int32) (μX μM : Mem) (h : L_25 L xs P x3 μX μM) : V X 975 [(0, .ref b), (1, .ref (aX 0)), (2, .ref (aM 0)), (3, .int x3)] [] (W2 aX aM cA cR μX μM) := by
  refine r_aload_n (pc := 975) 1 g dL_law_975 rfl ?_
  refine r_aload_n (pc := 976) 0 g dL_law_976 rfl ?_
  refine r_iload_n (pc := 977) 3 g dL_law_977 rfl ?_
  refine r_iconst (pc := 978) g dL_law_978 ci_1 ?_
  refine r_iadd (pc := 979) g dL_law_979 ?_
  obtain ⟨b1, h⟩ := h
  refine r_sld (pc := 980) g hS dL_law_980 b1 ?_
  refine l_callXi (pc := 981) (st := []) g hX dL_law_981 (m_X11_lose (xs (x3 + 1).toNatClampNeg) μX _ h) kb_RL_120 kv_X11_lose sX_0 rfl rfl rfl rfl (fun u2 μ3 h => ?_)
  refine r_pop (pc := 984) g dL_law_984 rfl ?_
  refine r_aload_n (pc := 985) 2 g dL_law_985 rfl ?_
  refine r_aload_n (pc := 986) 0 g dL_law_986 rfl ?_
  refine r_iload_n (pc := 987) 3 g dL_law_987 rfl ?_
  refine r_iconst (pc := 988) g dL_law_988 ci_1 ?_
  refine r_iadd (pc := 989) g dL_law_989 ?_
  obtain ⟨b4, h⟩ := h
  refine r_sld (pc := 990) g hS dL_law_990 b4 ?_
  refine l_callMi (pc := 991) (st := []) g hX dL_law_991 (m_X12_lose (xs (x3 + 1).toNatClampNeg) μM _ h) kb_RL_123 kv_X12_lose sM_0 rfl rfl rfl rfl (fun u5 μ6 h => ?_)
  refine r_pop (pc := 994) g dL_law_994 rfl ?_
  refine r_goto (pc := 995) 1212 g dL_law_995 rfl ?_
  refine r_iinc (pc := 1212) (lv' := [(3, .int (x3 + 6)), (0, .ref b), (1, .ref (aX 0)), (2, .ref (aM 0))]) 3 g dL_law_1212 rfl ci_6 rfl rfl ?_
  refine r_goto (pc := 1215) 18 g dL_law_1215 rfl ?_
  refine r_sub [1, 2, 3, 0] (lv' := [(0, .ref b), (1, .ref (aX 0)), (2, .ref (aM 0)), (3, .int (x3 + 6))]) rfl ?_
  exact hP (x3 + 6) μ3 μ6 h
def L_26 (L : Nat) (xs : Nat → Int32) (P : Int32 → Mem → Mem → Prop) (x3 : Int32) (μX μM : Mem) : Prop :=
  vp_in (x3 + 1) L ∧ vp_in (x3 + 2) L ∧ vp_in (x3 + 3) L ∧ T_X11_put (xs (x3 + 1).toNatClampNeg) (xs (x3 + 2).toNatClampNeg) (xs (x3 + 3).toNatClampNeg) μX (fun (u4 : Int32) (μ5 : Mem) => vp_in (x3 + 1) L ∧ vp_in (x3 + 2) L ∧ vp_in (x3 + 3) L ∧ T_X12_put (xs (x3 + 1).toNatClampNeg) (xs (x3 + 2).toNatClampNeg) (xs (x3 + 3).toNatClampNeg) μM (fun (u9 : Int32) (μ10 : Mem) => P (x3 + 6) μ5 μ10))
theorem lq_26 {X : Cx} {l : Launch} {D : va_G} {A : Nat → Prop} {b L : Nat} {xs : Nat → Int32} {aX aM : Nat → Nat} {cA cR : ClassId} (g : Gd X (aX, cA, cR, []) RL cL_law 4 room_1) (hX : atX X l D A) (hS : SX X b L xs) (hQ : LQ X b) (P : Int32 → Mem → Mem → Prop) (hP : ∀ (x3 : Int32) (μX μM : Mem), P x3 μX μM → V X 18 [(0, .ref b), (1, .ref (aX 0)), (2, .ref (aM 0)), (3, .int x3)] [] (W2 aX aM cA cR μX μM)) (x3 : Int32) (μX μM : Mem) (h : L_26 L xs P x3 μX μM) : V X 998 [(0, .ref b), (1, .ref (aX 0)), (2, .ref (aM 0)), (3, .int x3)] [] (W2 aX aM cA cR μX μM) := by
  refine r_aload_n (pc := 998) 1 g dL_law_998 rfl ?_
  refine r_aload_n (pc := 999) 0 g dL_law_999 rfl ?_
  refine r_iload_n (pc := 1000) 3 g dL_law_1000 rfl ?_
  refine r_iconst (pc := 1001) g dL_law_1001 ci_1 ?_
  refine r_iadd (pc := 1002) g dL_law_1002 ?_
  obtain ⟨b1, h⟩ := h
  refine r_sld (pc := 1003) g hS dL_law_1003 b1 ?_
  refine r_aload_n (pc := 1004) 0 g dL_law_1004 rfl ?_
  refine r_iload_n (pc := 1005) 3 g dL_law_1005 rfl ?_
  refine r_iconst (pc := 1006) g dL_law_1006 ci_2 ?_
  refine r_iadd (pc := 1007) g dL_law_1007 ?_
  obtain ⟨b2, h⟩ := h
  refine r_sld (pc := 1008) g hS dL_law_1008 b2 ?_
  refine r_aload_n (pc := 1009) 0 g dL_law_1009 rfl ?_
  refine r_iload_n (pc := 1010) 3 g dL_law_1010 rfl ?_
  refine r_iconst (pc := 1011) g dL_law_1011 ci_3 ?_
  refine r_iadd (pc := 1012) g dL_law_1012 ?_
  obtain ⟨b3, h⟩ := h
  refine r_sld (pc := 1013) g hS dL_law_1013 b3 ?_
  refine l_callXi (pc := 1014) (st := []) g hX dL_law_1014 (m_X11_put (xs (x3 + 1).toNatClampNeg) (xs (x3 + 2).toNatClampNeg) (xs (x3 + 3).toNatClampNeg) μX _ h) kb_RL_124 kv_X11_put sX_0 rfl rfl rfl rfl (fun u4 μ5 h => ?_)
  refine r_pop (pc := 1017) g dL_law_1017 rfl ?_
  refine r_aload_n (pc := 1018) 2 g dL_law_1018 rfl ?_
  refine r_aload_n (pc := 1019) 0 g dL_law_1019 rfl ?_
  refine r_iload_n (pc := 1020) 3 g dL_law_1020 rfl ?_
  refine r_iconst (pc := 1021) g dL_law_1021 ci_1 ?_
  refine r_iadd (pc := 1022) g dL_law_1022 ?_
  obtain ⟨b6, h⟩ := h
  refine r_sld (pc := 1023) g hS dL_law_1023 b6 ?_
  refine r_aload_n (pc := 1024) 0 g dL_law_1024 rfl ?_
  refine r_iload_n (pc := 1025) 3 g dL_law_1025 rfl ?_
  refine r_iconst (pc := 1026) g dL_law_1026 ci_2 ?_
  refine r_iadd (pc := 1027) g dL_law_1027 ?_
  obtain ⟨b7, h⟩ := h
  refine r_sld (pc := 1028) g hS dL_law_1028 b7 ?_
  refine r_aload_n (pc := 1029) 0 g dL_law_1029 rfl ?_
  refine r_iload_n (pc := 1030) 3 g dL_law_1030 rfl ?_
  refine r_iconst (pc := 1031) g dL_law_1031 ci_3 ?_
  refine r_iadd (pc := 1032) g dL_law_1032 ?_
  obtain ⟨b8, h⟩ := h
  refine r_sld (pc := 1033) g hS dL_law_1033 b8 ?_
  refine l_callMi (pc := 1034) (st := []) g hX dL_law_1034 (m_X12_put (xs (x3 + 1).toNatClampNeg) (xs (x3 + 2).toNatClampNeg) (xs (x3 + 3).toNatClampNeg) μM _ h) kb_RL_127 kv_X12_put sM_0 rfl rfl rfl rfl (fun u9 μ10 h => ?_)
  refine r_pop (pc := 1037) g dL_law_1037 rfl ?_
  refine r_goto (pc := 1038) 1212 g dL_law_1038 rfl ?_
  refine r_iinc (pc := 1212) (lv' := [(3, .int (x3 + 6)), (0, .ref b), (1, .ref (aX 0)), (2, .ref (aM 0))]) 3 g dL_law_1212 rfl ci_6 rfl rfl ?_
  refine r_goto (pc := 1215) 18 g dL_law_1215 rfl ?_
  refine r_sub [1, 2, 3, 0] (lv' := [(0, .ref b), (1, .ref (aX 0)), (2, .ref (aM 0)), (3, .int (x3 + 6))]) rfl ?_
  exact hP (x3 + 6) μ5 μ10 h
def L_27 (L : Nat) (xs : Nat → Int32) (P : Int32 → Mem → Mem → Prop) (x3 : Int32) (μX μM : Mem) : Prop :=
  vp_in (x3 + 1) L ∧ vp_in (x3 + 2) L ∧ vp_in (x3 + 3) L ∧ T_X11_cell (xs (x3 + 1).toNatClampNeg) (xs (x3 + 2).toNatClampNeg) (xs (x3 + 3).toNatClampNeg) μX (fun (u4 : Int64) (μ5 : Mem) => vp_in (x3 + 1) L ∧ vp_in (x3 + 2) L ∧ vp_in (x3 + 3) L ∧ T_X12_cell (xs (x3 + 1).toNatClampNeg) (xs (x3 + 2).toNatClampNeg) (xs (x3 + 3).toNatClampNeg) μM (fun (u9 : Int64) (μ10 : Mem) => P (x3 + 6) μ5 μ10))
theorem lq_27 {X : Cx} {l : Launch} {D : va_G} {A : Nat → Prop} {b L : Nat} {xs : Nat → Int32} {aX aM : Nat → Nat} {cA cR : ClassId} (g : Gd X (aX, cA, cR, []) RL cL_law 4 room_1) (hX : atX X l D A) (hS : SX X b L xs) (hQ : LQ X b) (P : Int32 → Mem → Mem → Prop) (hP : ∀ (x3 : Int32) (μX μM : Mem), P x3 μX μM → V X 18 [(0, .ref b), (1, .ref (aX 0)), (2, .ref (aM 0)), (3, .int x3)] [] (W2 aX aM cA cR μX μM)) (x3 : Int32) (μX μM : Mem) (h : L_27 L xs P x3 μX μM) : V X 1041 [(0, .ref b), (1, .ref (aX 0)), (2, .ref (aM 0)), (3, .int x3)] [] (W2 aX aM cA cR μX μM) := by
  refine r_aload_n (pc := 1041) 1 g dL_law_1041 rfl ?_
  refine r_aload_n (pc := 1042) 0 g dL_law_1042 rfl ?_
  refine r_iload_n (pc := 1043) 3 g dL_law_1043 rfl ?_
  refine r_iconst (pc := 1044) g dL_law_1044 ci_1 ?_
  refine r_iadd (pc := 1045) g dL_law_1045 ?_
  obtain ⟨b1, h⟩ := h
  refine r_sld (pc := 1046) g hS dL_law_1046 b1 ?_
  refine r_aload_n (pc := 1047) 0 g dL_law_1047 rfl ?_
  refine r_iload_n (pc := 1048) 3 g dL_law_1048 rfl ?_
  refine r_iconst (pc := 1049) g dL_law_1049 ci_2 ?_
  refine r_iadd (pc := 1050) g dL_law_1050 ?_
  obtain ⟨b2, h⟩ := h
  refine r_sld (pc := 1051) g hS dL_law_1051 b2 ?_
  refine r_aload_n (pc := 1052) 0 g dL_law_1052 rfl ?_
  refine r_iload_n (pc := 1053) 3 g dL_law_1053 rfl ?_
  refine r_iconst (pc := 1054) g dL_law_1054 ci_3 ?_
  refine r_iadd (pc := 1055) g dL_law_1055 ?_
  obtain ⟨b3, h⟩ := h
  refine r_sld (pc := 1056) g hS dL_law_1056 b3 ?_
  refine l_callXl (pc := 1057) (st := []) g hX dL_law_1057 (m_X11_cell (xs (x3 + 1).toNatClampNeg) (xs (x3 + 2).toNatClampNeg) (xs (x3 + 3).toNatClampNeg) μX _ h) kb_RL_128 kv_X11_cell sX_0 rfl rfl rfl rfl (fun u4 μ5 h => ?_)
  refine r_pop2 (pc := 1060) g dL_law_1060 rfl ?_
  refine r_aload_n (pc := 1061) 2 g dL_law_1061 rfl ?_
  refine r_aload_n (pc := 1062) 0 g dL_law_1062 rfl ?_
  refine r_iload_n (pc := 1063) 3 g dL_law_1063 rfl ?_
  refine r_iconst (pc := 1064) g dL_law_1064 ci_1 ?_
  refine r_iadd (pc := 1065) g dL_law_1065 ?_
  obtain ⟨b6, h⟩ := h
  refine r_sld (pc := 1066) g hS dL_law_1066 b6 ?_
  refine r_aload_n (pc := 1067) 0 g dL_law_1067 rfl ?_
  refine r_iload_n (pc := 1068) 3 g dL_law_1068 rfl ?_
  refine r_iconst (pc := 1069) g dL_law_1069 ci_2 ?_
  refine r_iadd (pc := 1070) g dL_law_1070 ?_
  obtain ⟨b7, h⟩ := h
  refine r_sld (pc := 1071) g hS dL_law_1071 b7 ?_
  refine r_aload_n (pc := 1072) 0 g dL_law_1072 rfl ?_
  refine r_iload_n (pc := 1073) 3 g dL_law_1073 rfl ?_
  refine r_iconst (pc := 1074) g dL_law_1074 ci_3 ?_
  refine r_iadd (pc := 1075) g dL_law_1075 ?_
  obtain ⟨b8, h⟩ := h
  refine r_sld (pc := 1076) g hS dL_law_1076 b8 ?_
  refine l_callMl (pc := 1077) (st := []) g hX dL_law_1077 (m_X12_cell (xs (x3 + 1).toNatClampNeg) (xs (x3 + 2).toNatClampNeg) (xs (x3 + 3).toNatClampNeg) μM _ h) kb_RL_132 kv_X12_cell sM_0 rfl rfl rfl rfl (fun u9 μ10 h => ?_)
  refine r_pop2 (pc := 1080) g dL_law_1080 rfl ?_
  refine r_goto (pc := 1081) 1212 g dL_law_1081 rfl ?_
  refine r_iinc (pc := 1212) (lv' := [(3, .int (x3 + 6)), (0, .ref b), (1, .ref (aX 0)), (2, .ref (aM 0))]) 3 g dL_law_1212 rfl ci_6 rfl rfl ?_
  refine r_goto (pc := 1215) 18 g dL_law_1215 rfl ?_
  refine r_sub [1, 2, 3, 0] (lv' := [(0, .ref b), (1, .ref (aX 0)), (2, .ref (aM 0)), (3, .int (x3 + 6))]) rfl ?_
  exact hP (x3 + 6) μ5 μ10 h
def L_28 (L : Nat) (xs : Nat → Int32) (P : Int32 → Mem → Mem → Prop) (x3 : Int32) (μX μM : Mem) : Prop :=
  vp_in (x3 + 1) L ∧ T_X11_tell (xs (x3 + 1).toNatClampNeg) μX (fun (u2 : Int32) (μ3 : Mem) => vp_in (x3 + 1) L ∧ T_X12_tell (xs (x3 + 1).toNatClampNeg) μM (fun (u5 : Int32) (μ6 : Mem) => P (x3 + 6) μ3 μ6))
theorem lq_28 {X : Cx} {l : Launch} {D : va_G} {A : Nat → Prop} {b L : Nat} {xs : Nat → Int32} {aX aM : Nat → Nat} {cA cR : ClassId} (g : Gd X (aX, cA, cR, []) RL cL_law 4 room_1) (hX : atX X l D A) (hS : SX X b L xs) (hQ : LQ X b) (P : Int32 → Mem → Mem → Prop) (hP : ∀ (x3 : Int32) (μX μM : Mem), P x3 μX μM → V X 18 [(0, .ref b), (1, .ref (aX 0)), (2, .ref (aM 0)), (3, .int x3)] [] (W2 aX aM cA cR μX μM)) (x3 : Int32) (μX μM : Mem) (h : L_28 L xs P x3 μX μM) : V X 1084 [(0, .ref b), (1, .ref (aX 0)), (2, .ref (aM 0)), (3, .int x3)] [] (W2 aX aM cA cR μX μM) := by
  refine r_aload_n (pc := 1084) 1 g dL_law_1084 rfl ?_
  refine r_aload_n (pc := 1085) 0 g dL_law_1085 rfl ?_
  refine r_iload_n (pc := 1086) 3 g dL_law_1086 rfl ?_
  refine r_iconst (pc := 1087) g dL_law_1087 ci_1 ?_
  refine r_iadd (pc := 1088) g dL_law_1088 ?_
  obtain ⟨b1, h⟩ := h
  refine r_sld (pc := 1089) g hS dL_law_1089 b1 ?_
  refine l_callXi (pc := 1090) (st := []) g hX dL_law_1090 (m_X11_tell (xs (x3 + 1).toNatClampNeg) μX _ h) kb_RL_133 kv_X11_tell sX_0 rfl rfl rfl rfl (fun u2 μ3 h => ?_)
  refine r_pop (pc := 1093) g dL_law_1093 rfl ?_
  refine r_aload_n (pc := 1094) 2 g dL_law_1094 rfl ?_
  refine r_aload_n (pc := 1095) 0 g dL_law_1095 rfl ?_
  refine r_iload_n (pc := 1096) 3 g dL_law_1096 rfl ?_
  refine r_iconst (pc := 1097) g dL_law_1097 ci_1 ?_
  refine r_iadd (pc := 1098) g dL_law_1098 ?_
  obtain ⟨b4, h⟩ := h
  refine r_sld (pc := 1099) g hS dL_law_1099 b4 ?_
  refine l_callMi (pc := 1100) (st := []) g hX dL_law_1100 (m_X12_tell (xs (x3 + 1).toNatClampNeg) μM _ h) kb_RL_136 kv_X12_tell sM_0 rfl rfl rfl rfl (fun u5 μ6 h => ?_)
  refine r_pop (pc := 1103) g dL_law_1103 rfl ?_
  refine r_goto (pc := 1104) 1212 g dL_law_1104 rfl ?_
  refine r_iinc (pc := 1212) (lv' := [(3, .int (x3 + 6)), (0, .ref b), (1, .ref (aX 0)), (2, .ref (aM 0))]) 3 g dL_law_1212 rfl ci_6 rfl rfl ?_
  refine r_goto (pc := 1215) 18 g dL_law_1215 rfl ?_
  refine r_sub [1, 2, 3, 0] (lv' := [(0, .ref b), (1, .ref (aX 0)), (2, .ref (aM 0)), (3, .int (x3 + 6))]) rfl ?_
  exact hP (x3 + 6) μ3 μ6 h
def L_29 (L : Nat) (xs : Nat → Int32) (P : Int32 → Mem → Mem → Prop) (x3 : Int32) (μX μM : Mem) : Prop :=
  vp_in (x3 + 1) L ∧ T_X11_show (xs (x3 + 1).toNatClampNeg) μX (fun (u2 : Int32) (μ3 : Mem) => vp_in (x3 + 1) L ∧ T_X12_show (xs (x3 + 1).toNatClampNeg) μM (fun (u5 : Int32) (μ6 : Mem) => P (x3 + 6) μ3 μ6))
theorem lq_29 {X : Cx} {l : Launch} {D : va_G} {A : Nat → Prop} {b L : Nat} {xs : Nat → Int32} {aX aM : Nat → Nat} {cA cR : ClassId} (g : Gd X (aX, cA, cR, []) RL cL_law 4 room_1) (hX : atX X l D A) (hS : SX X b L xs) (hQ : LQ X b) (P : Int32 → Mem → Mem → Prop) (hP : ∀ (x3 : Int32) (μX μM : Mem), P x3 μX μM → V X 18 [(0, .ref b), (1, .ref (aX 0)), (2, .ref (aM 0)), (3, .int x3)] [] (W2 aX aM cA cR μX μM)) (x3 : Int32) (μX μM : Mem) (h : L_29 L xs P x3 μX μM) : V X 1107 [(0, .ref b), (1, .ref (aX 0)), (2, .ref (aM 0)), (3, .int x3)] [] (W2 aX aM cA cR μX μM) := by
  refine r_aload_n (pc := 1107) 1 g dL_law_1107 rfl ?_
  refine r_aload_n (pc := 1108) 0 g dL_law_1108 rfl ?_
  refine r_iload_n (pc := 1109) 3 g dL_law_1109 rfl ?_
  refine r_iconst (pc := 1110) g dL_law_1110 ci_1 ?_
  refine r_iadd (pc := 1111) g dL_law_1111 ?_
  obtain ⟨b1, h⟩ := h
  refine r_sld (pc := 1112) g hS dL_law_1112 b1 ?_
  refine l_callXi (pc := 1113) (st := []) g hX dL_law_1113 (m_X11_show (xs (x3 + 1).toNatClampNeg) μX _ h) kb_RL_137 kv_X11_show sX_0 rfl rfl rfl rfl (fun u2 μ3 h => ?_)
  refine r_pop (pc := 1116) g dL_law_1116 rfl ?_
  refine r_aload_n (pc := 1117) 2 g dL_law_1117 rfl ?_
  refine r_aload_n (pc := 1118) 0 g dL_law_1118 rfl ?_
  refine r_iload_n (pc := 1119) 3 g dL_law_1119 rfl ?_
  refine r_iconst (pc := 1120) g dL_law_1120 ci_1 ?_
  refine r_iadd (pc := 1121) g dL_law_1121 ?_
  obtain ⟨b4, h⟩ := h
  refine r_sld (pc := 1122) g hS dL_law_1122 b4 ?_
  refine l_callMi (pc := 1123) (st := []) g hX dL_law_1123 (m_X12_show (xs (x3 + 1).toNatClampNeg) μM _ h) kb_RL_140 kv_X12_show sM_0 rfl rfl rfl rfl (fun u5 μ6 h => ?_)
  refine r_pop (pc := 1126) g dL_law_1126 rfl ?_
  refine r_goto (pc := 1127) 1212 g dL_law_1127 rfl ?_
  refine r_iinc (pc := 1212) (lv' := [(3, .int (x3 + 6)), (0, .ref b), (1, .ref (aX 0)), (2, .ref (aM 0))]) 3 g dL_law_1212 rfl ci_6 rfl rfl ?_
  refine r_goto (pc := 1215) 18 g dL_law_1215 rfl ?_
  refine r_sub [1, 2, 3, 0] (lv' := [(0, .ref b), (1, .ref (aX 0)), (2, .ref (aM 0)), (3, .int (x3 + 6))]) rfl ?_
  exact hP (x3 + 6) μ3 μ6 h
def L_30 (L : Nat) (xs : Nat → Int32) (P : Int32 → Mem → Mem → Prop) (x3 : Int32) (μX μM : Mem) : Prop :=
  vp_in (x3 + 1) L ∧ vp_in (x3 + 2) L ∧ T_X11_as (xs (x3 + 1).toNatClampNeg) (xs (x3 + 2).toNatClampNeg) μX (fun (u3 : Int32) (μ4 : Mem) => vp_in (x3 + 1) L ∧ vp_in (x3 + 2) L ∧ T_X12_as (xs (x3 + 1).toNatClampNeg) (xs (x3 + 2).toNatClampNeg) μM (fun (u7 : Int32) (μ8 : Mem) => P (x3 + 6) μ4 μ8))
theorem lq_30 {X : Cx} {l : Launch} {D : va_G} {A : Nat → Prop} {b L : Nat} {xs : Nat → Int32} {aX aM : Nat → Nat} {cA cR : ClassId} (g : Gd X (aX, cA, cR, []) RL cL_law 4 room_1) (hX : atX X l D A) (hS : SX X b L xs) (hQ : LQ X b) (P : Int32 → Mem → Mem → Prop) (hP : ∀ (x3 : Int32) (μX μM : Mem), P x3 μX μM → V X 18 [(0, .ref b), (1, .ref (aX 0)), (2, .ref (aM 0)), (3, .int x3)] [] (W2 aX aM cA cR μX μM)) (x3 : Int32) (μX μM : Mem) (h : L_30 L xs P x3 μX μM) : V X 1130 [(0, .ref b), (1, .ref (aX 0)), (2, .ref (aM 0)), (3, .int x3)] [] (W2 aX aM cA cR μX μM) := by
  refine r_aload_n (pc := 1130) 1 g dL_law_1130 rfl ?_
  refine r_aload_n (pc := 1131) 0 g dL_law_1131 rfl ?_
  refine r_iload_n (pc := 1132) 3 g dL_law_1132 rfl ?_
  refine r_iconst (pc := 1133) g dL_law_1133 ci_1 ?_
  refine r_iadd (pc := 1134) g dL_law_1134 ?_
  obtain ⟨b1, h⟩ := h
  refine r_sld (pc := 1135) g hS dL_law_1135 b1 ?_
  refine r_aload_n (pc := 1136) 0 g dL_law_1136 rfl ?_
  refine r_iload_n (pc := 1137) 3 g dL_law_1137 rfl ?_
  refine r_iconst (pc := 1138) g dL_law_1138 ci_2 ?_
  refine r_iadd (pc := 1139) g dL_law_1139 ?_
  obtain ⟨b2, h⟩ := h
  refine r_sld (pc := 1140) g hS dL_law_1140 b2 ?_
  refine l_callXi (pc := 1141) (st := []) g hX dL_law_1141 (m_X11_as (xs (x3 + 1).toNatClampNeg) (xs (x3 + 2).toNatClampNeg) μX _ h) kb_RL_141 kv_X11_as sX_0 rfl rfl rfl rfl (fun u3 μ4 h => ?_)
  refine r_pop (pc := 1144) g dL_law_1144 rfl ?_
  refine r_aload_n (pc := 1145) 2 g dL_law_1145 rfl ?_
  refine r_aload_n (pc := 1146) 0 g dL_law_1146 rfl ?_
  refine r_iload_n (pc := 1147) 3 g dL_law_1147 rfl ?_
  refine r_iconst (pc := 1148) g dL_law_1148 ci_1 ?_
  refine r_iadd (pc := 1149) g dL_law_1149 ?_
  obtain ⟨b5, h⟩ := h
  refine r_sld (pc := 1150) g hS dL_law_1150 b5 ?_
  refine r_aload_n (pc := 1151) 0 g dL_law_1151 rfl ?_
  refine r_iload_n (pc := 1152) 3 g dL_law_1152 rfl ?_
  refine r_iconst (pc := 1153) g dL_law_1153 ci_2 ?_
  refine r_iadd (pc := 1154) g dL_law_1154 ?_
  obtain ⟨b6, h⟩ := h
  refine r_sld (pc := 1155) g hS dL_law_1155 b6 ?_
  refine l_callMi (pc := 1156) (st := []) g hX dL_law_1156 (m_X12_as (xs (x3 + 1).toNatClampNeg) (xs (x3 + 2).toNatClampNeg) μM _ h) kb_RL_144 kv_X12_as sM_0 rfl rfl rfl rfl (fun u7 μ8 h => ?_)
  refine r_pop (pc := 1159) g dL_law_1159 rfl ?_
  refine r_goto (pc := 1160) 1212 g dL_law_1160 rfl ?_
  refine r_iinc (pc := 1212) (lv' := [(3, .int (x3 + 6)), (0, .ref b), (1, .ref (aX 0)), (2, .ref (aM 0))]) 3 g dL_law_1212 rfl ci_6 rfl rfl ?_
  refine r_goto (pc := 1215) 18 g dL_law_1215 rfl ?_
  refine r_sub [1, 2, 3, 0] (lv' := [(0, .ref b), (1, .ref (aX 0)), (2, .ref (aM 0)), (3, .int (x3 + 6))]) rfl ?_
  exact hP (x3 + 6) μ4 μ8 h
def L_31 (L : Nat) (xs : Nat → Int32) (P : Int32 → Mem → Mem → Prop) (x3 : Int32) (μX μM : Mem) : Prop :=
  T_X11_trace μX (fun (u1 : Int32) (μ2 : Mem) => T_X12_trace μM (fun (u3 : Int32) (μ4 : Mem) => P (x3 + 6) μ2 μ4))
theorem lq_31 {X : Cx} {l : Launch} {D : va_G} {A : Nat → Prop} {b L : Nat} {xs : Nat → Int32} {aX aM : Nat → Nat} {cA cR : ClassId} (g : Gd X (aX, cA, cR, []) RL cL_law 4 room_1) (hX : atX X l D A) (hS : SX X b L xs) (hQ : LQ X b) (P : Int32 → Mem → Mem → Prop) (hP : ∀ (x3 : Int32) (μX μM : Mem), P x3 μX μM → V X 18 [(0, .ref b), (1, .ref (aX 0)), (2, .ref (aM 0)), (3, .int x3)] [] (W2 aX aM cA cR μX μM)) (x3 : Int32) (μX μM : Mem) (h : L_31 L xs P x3 μX μM) : V X 1163 [(0, .ref b), (1, .ref (aX 0)), (2, .ref (aM 0)), (3, .int x3)] [] (W2 aX aM cA cR μX μM) := by
  refine r_aload_n (pc := 1163) 1 g dL_law_1163 rfl ?_
  refine l_callXi (pc := 1164) (st := []) g hX dL_law_1164 (m_X11_trace μX _ h) kb_RL_145 kv_X11_trace sX_0 rfl rfl rfl rfl (fun u1 μ2 h => ?_)
  refine r_pop (pc := 1167) g dL_law_1167 rfl ?_
  refine r_aload_n (pc := 1168) 2 g dL_law_1168 rfl ?_
  refine l_callMi (pc := 1169) (st := []) g hX dL_law_1169 (m_X12_trace μM _ h) kb_RL_148 kv_X12_trace sM_0 rfl rfl rfl rfl (fun u3 μ4 h => ?_)
  refine r_pop (pc := 1172) g dL_law_1172 rfl ?_
  refine r_goto (pc := 1173) 1212 g dL_law_1173 rfl ?_
  refine r_iinc (pc := 1212) (lv' := [(3, .int (x3 + 6)), (0, .ref b), (1, .ref (aX 0)), (2, .ref (aM 0))]) 3 g dL_law_1212 rfl ci_6 rfl rfl ?_
  refine r_goto (pc := 1215) 18 g dL_law_1215 rfl ?_
  refine r_sub [1, 2, 3, 0] (lv' := [(0, .ref b), (1, .ref (aX 0)), (2, .ref (aM 0)), (3, .int (x3 + 6))]) rfl ?_
  exact hP (x3 + 6) μ2 μ4 h
def L_32 (L : Nat) (xs : Nat → Int32) (P : Int32 → Mem → Mem → Prop) (x3 : Int32) (μX μM : Mem) : Prop :=
  T_X11_fault μX (fun (u1 : Int32) (μ2 : Mem) => T_X12_fault μM (fun (u3 : Int32) (μ4 : Mem) => P (x3 + 6) μ2 μ4))
theorem lq_32 {X : Cx} {l : Launch} {D : va_G} {A : Nat → Prop} {b L : Nat} {xs : Nat → Int32} {aX aM : Nat → Nat} {cA cR : ClassId} (g : Gd X (aX, cA, cR, []) RL cL_law 4 room_1) (hX : atX X l D A) (hS : SX X b L xs) (hQ : LQ X b) (P : Int32 → Mem → Mem → Prop) (hP : ∀ (x3 : Int32) (μX μM : Mem), P x3 μX μM → V X 18 [(0, .ref b), (1, .ref (aX 0)), (2, .ref (aM 0)), (3, .int x3)] [] (W2 aX aM cA cR μX μM)) (x3 : Int32) (μX μM : Mem) (h : L_32 L xs P x3 μX μM) : V X 1176 [(0, .ref b), (1, .ref (aX 0)), (2, .ref (aM 0)), (3, .int x3)] [] (W2 aX aM cA cR μX μM) := by
  refine r_aload_n (pc := 1176) 1 g dL_law_1176 rfl ?_
  refine l_callXi (pc := 1177) (st := []) g hX dL_law_1177 (m_X11_fault μX _ h) kb_RL_149 kv_X11_fault sX_0 rfl rfl rfl rfl (fun u1 μ2 h => ?_)
  refine r_pop (pc := 1180) g dL_law_1180 rfl ?_
  refine r_aload_n (pc := 1181) 2 g dL_law_1181 rfl ?_
  refine l_callMi (pc := 1182) (st := []) g hX dL_law_1182 (m_X12_fault μM _ h) kb_RL_152 kv_X12_fault sM_0 rfl rfl rfl rfl (fun u3 μ4 h => ?_)
  refine r_pop (pc := 1185) g dL_law_1185 rfl ?_
  refine r_goto (pc := 1186) 1212 g dL_law_1186 rfl ?_
  refine r_iinc (pc := 1212) (lv' := [(3, .int (x3 + 6)), (0, .ref b), (1, .ref (aX 0)), (2, .ref (aM 0))]) 3 g dL_law_1212 rfl ci_6 rfl rfl ?_
  refine r_goto (pc := 1215) 18 g dL_law_1215 rfl ?_
  refine r_sub [1, 2, 3, 0] (lv' := [(0, .ref b), (1, .ref (aX 0)), (2, .ref (aM 0)), (3, .int (x3 + 6))]) rfl ?_
  exact hP (x3 + 6) μ2 μ4 h
def L_33 (L : Nat) (xs : Nat → Int32) (P : Int32 → Mem → Mem → Prop) (x3 : Int32) (μX μM : Mem) : Prop :=
  vp_in (x3 + 1) L ∧ T_X11_many (xs (x3 + 1).toNatClampNeg) μX (fun (u2 : Int32) (μ3 : Mem) => vp_in (x3 + 1) L ∧ T_X12_many (xs (x3 + 1).toNatClampNeg) μM (fun (u5 : Int32) (μ6 : Mem) => ((u2 = u5 → P (x3 + 6) μ3 μ6) ∧ (¬ u2 = u5 → False))))
theorem lq_33 {X : Cx} {l : Launch} {D : va_G} {A : Nat → Prop} {b L : Nat} {xs : Nat → Int32} {aX aM : Nat → Nat} {cA cR : ClassId} (g : Gd X (aX, cA, cR, []) RL cL_law 4 room_1) (hX : atX X l D A) (hS : SX X b L xs) (hQ : LQ X b) (P : Int32 → Mem → Mem → Prop) (hP : ∀ (x3 : Int32) (μX μM : Mem), P x3 μX μM → V X 18 [(0, .ref b), (1, .ref (aX 0)), (2, .ref (aM 0)), (3, .int x3)] [] (W2 aX aM cA cR μX μM)) (x3 : Int32) (μX μM : Mem) (h : L_33 L xs P x3 μX μM) : V X 1189 [(0, .ref b), (1, .ref (aX 0)), (2, .ref (aM 0)), (3, .int x3)] [] (W2 aX aM cA cR μX μM) := by
  refine r_aload_n (pc := 1189) 1 g dL_law_1189 rfl ?_
  refine r_aload_n (pc := 1190) 0 g dL_law_1190 rfl ?_
  refine r_iload_n (pc := 1191) 3 g dL_law_1191 rfl ?_
  refine r_iconst (pc := 1192) g dL_law_1192 ci_1 ?_
  refine r_iadd (pc := 1193) g dL_law_1193 ?_
  obtain ⟨b1, h⟩ := h
  refine r_sld (pc := 1194) g hS dL_law_1194 b1 ?_
  refine l_callXi (pc := 1195) (st := []) g hX dL_law_1195 (m_X11_many (xs (x3 + 1).toNatClampNeg) μX _ h) kb_RL_153 kv_X11_many sX_0 rfl rfl rfl rfl (fun u2 μ3 h => ?_)
  refine r_aload_n (pc := 1198) 2 g dL_law_1198 rfl ?_
  refine r_aload_n (pc := 1199) 0 g dL_law_1199 rfl ?_
  refine r_iload_n (pc := 1200) 3 g dL_law_1200 rfl ?_
  refine r_iconst (pc := 1201) g dL_law_1201 ci_1 ?_
  refine r_iadd (pc := 1202) g dL_law_1202 ?_
  obtain ⟨b4, h⟩ := h
  refine r_sld (pc := 1203) g hS dL_law_1203 b4 ?_
  refine l_callMi (pc := 1204) (st := [.int (u2)]) g hX dL_law_1204 (m_X12_many (xs (x3 + 1).toNatClampNeg) μM _ h) kb_RL_156 kv_X12_many sM_0 rfl rfl rfl rfl (fun u5 μ6 h => ?_)
  refine r_icmp_eq (pc := 1207) 1212 g dL_law_1207 rfl (fun q => ?_) (fun q => ?_)
  · have h := h.1 q
    refine r_iinc (pc := 1212) (lv' := [(3, .int (x3 + 6)), (0, .ref b), (1, .ref (aX 0)), (2, .ref (aM 0))]) 3 g dL_law_1212 rfl ci_6 rfl rfl ?_
    refine r_goto (pc := 1215) 18 g dL_law_1215 rfl ?_
    refine r_sub [1, 2, 3, 0] (lv' := [(0, .ref b), (1, .ref (aX 0)), (2, .ref (aM 0)), (3, .int (x3 + 6))]) rfl ?_
    exact hP (x3 + 6) μ3 μ6 h
  · have h := h.2 q
    refine r_iconst (pc := 1210) g dL_law_1210 ci_0 ?_
    exact h.elim
theorem lq_d {X : Cx} {l : Launch} {D : va_G} {A : Nat → Prop} {b L : Nat} {xs : Nat → Int32} {aX aM : Nat → Nat} {cA cR : ClassId} (g : Gd X (aX, cA, cR, []) RL cL_law 4 room_1) (hX : atX X l D A) (hS : SX X b L xs) (hQ : LQ X b) (P : Int32 → Mem → Mem → Prop) (hP : ∀ (x3 : Int32) (μX μM : Mem), P x3 μX μM → V X 18 [(0, .ref b), (1, .ref (aX 0)), (2, .ref (aM 0)), (3, .int x3)] [] (W2 aX aM cA cR μX μM)) (x3 : Int32) (μX μM : Mem) (h : P (x3 + 6) μX μM) : V X 1212 [(0, .ref b), (1, .ref (aX 0)), (2, .ref (aM 0)), (3, .int x3)] [] (W2 aX aM cA cR μX μM) := by
  refine r_iinc (pc := 1212) (lv' := [(3, .int (x3 + 6)), (0, .ref b), (1, .ref (aX 0)), (2, .ref (aM 0))]) 3 g dL_law_1212 rfl ci_6 rfl rfl ?_
  refine r_goto (pc := 1215) 18 g dL_law_1215 rfl ?_
  refine r_sub [1, 2, 3, 0] (lv' := [(0, .ref b), (1, .ref (aX 0)), (2, .ref (aM 0)), (3, .int (x3 + 6))]) rfl ?_
  exact hP (x3 + 6) μX μM h
/-- one turn of the law's loop, with more to read -/
def L_turn (L : Nat) (xs : Nat → Int32) (P : Int32 → Mem → Mem → Prop) (x3 : Int32) (μX μM : Mem) : Prop :=
  vp_in x3 L ∧ (((xs x3.toNatClampNeg) &&& 63) = 0 → L_0 L xs P x3 μX μM) ∧ (((xs x3.toNatClampNeg) &&& 63) = 1 → L_1 L xs P x3 μX μM) ∧ (((xs x3.toNatClampNeg) &&& 63) = 2 → L_2 L xs P x3 μX μM) ∧ (((xs x3.toNatClampNeg) &&& 63) = 3 → L_3 L xs P x3 μX μM) ∧ (((xs x3.toNatClampNeg) &&& 63) = 4 → L_4 L xs P x3 μX μM) ∧ (((xs x3.toNatClampNeg) &&& 63) = 5 → L_5 L xs P x3 μX μM) ∧ (((xs x3.toNatClampNeg) &&& 63) = 6 → L_6 L xs P x3 μX μM) ∧ (((xs x3.toNatClampNeg) &&& 63) = 7 → L_7 L xs P x3 μX μM) ∧ (((xs x3.toNatClampNeg) &&& 63) = 8 → L_8 L xs P x3 μX μM) ∧ (((xs x3.toNatClampNeg) &&& 63) = 9 → L_9 L xs P x3 μX μM) ∧ (((xs x3.toNatClampNeg) &&& 63) = 10 → L_10 L xs P x3 μX μM) ∧ (((xs x3.toNatClampNeg) &&& 63) = 11 → L_11 L xs P x3 μX μM) ∧ (((xs x3.toNatClampNeg) &&& 63) = 12 → L_12 L xs P x3 μX μM) ∧ (((xs x3.toNatClampNeg) &&& 63) = 13 → L_13 L xs P x3 μX μM) ∧ (((xs x3.toNatClampNeg) &&& 63) = 14 → L_14 L xs P x3 μX μM) ∧ (((xs x3.toNatClampNeg) &&& 63) = 15 → L_15 L xs P x3 μX μM) ∧ (((xs x3.toNatClampNeg) &&& 63) = 16 → L_16 L xs P x3 μX μM) ∧ (((xs x3.toNatClampNeg) &&& 63) = 17 → L_17 L xs P x3 μX μM) ∧ (((xs x3.toNatClampNeg) &&& 63) = 18 → L_18 L xs P x3 μX μM) ∧ (((xs x3.toNatClampNeg) &&& 63) = 19 → L_19 L xs P x3 μX μM) ∧ (((xs x3.toNatClampNeg) &&& 63) = 20 → L_20 L xs P x3 μX μM) ∧ (((xs x3.toNatClampNeg) &&& 63) = 21 → L_21 L xs P x3 μX μM) ∧ (((xs x3.toNatClampNeg) &&& 63) = 22 → L_22 L xs P x3 μX μM) ∧ (((xs x3.toNatClampNeg) &&& 63) = 23 → L_23 L xs P x3 μX μM) ∧ (((xs x3.toNatClampNeg) &&& 63) = 24 → L_24 L xs P x3 μX μM) ∧ (((xs x3.toNatClampNeg) &&& 63) = 25 → L_25 L xs P x3 μX μM) ∧ (((xs x3.toNatClampNeg) &&& 63) = 26 → L_26 L xs P x3 μX μM) ∧ (((xs x3.toNatClampNeg) &&& 63) = 27 → L_27 L xs P x3 μX μM) ∧ (((xs x3.toNatClampNeg) &&& 63) = 28 → L_28 L xs P x3 μX μM) ∧ (((xs x3.toNatClampNeg) &&& 63) = 29 → L_29 L xs P x3 μX μM) ∧ (((xs x3.toNatClampNeg) &&& 63) = 30 → L_30 L xs P x3 μX μM) ∧ (((xs x3.toNatClampNeg) &&& 63) = 31 → L_31 L xs P x3 μX μM) ∧ (((xs x3.toNatClampNeg) &&& 63) = 32 → L_32 L xs P x3 μX μM) ∧ (((xs x3.toNatClampNeg) &&& 63) = 33 → L_33 L xs P x3 μX μM) ∧ P (x3 + 6) μX μM
theorem lq_head {X : Cx} {l : Launch} {D : va_G} {A : Nat → Prop} {b L : Nat} {xs : Nat → Int32} {aX aM : Nat → Nat} {cA cR : ClassId} (g : Gd X (aX, cA, cR, []) RL cL_law 4 room_1) (hX : atX X l D A) (hS : SX X b L xs) (hQ : LQ X b) (P : Int32 → Mem → Mem → Prop) (hP : ∀ (x3 : Int32) (μX μM : Mem), P x3 μX μM → V X 18 [(0, .ref b), (1, .ref (aX 0)), (2, .ref (aM 0)), (3, .int x3)] [] (W2 aX aM cA cR μX μM)) (x3 : Int32) (μX μM : Mem) (h : ¬ (Int32.ofNat L) - 6 < x3 → L_turn L xs P x3 μX μM) : V X 18 [(0, .ref b), (1, .ref (aX 0)), (2, .ref (aM 0)), (3, .int x3)] [] (W2 aX aM cA cR μX μM) := by
  refine r_iload_n (pc := 18) 3 g dL_law_18 rfl ?_
  refine r_aload_n (pc := 19) 0 g dL_law_19 rfl ?_
  refine r_slen (pc := 20) g hS dL_law_20 ?_
  refine r_bipush (pc := 21) g dL_law_21 cb_6 ?_
  refine r_isub (pc := 23) g dL_law_23 ?_
  refine r_icmp_gt (pc := 24) 1218 g dL_law_24 rfl (fun q => ?_) (fun q => ?_)
  · refine r_iconst (pc := 1218) g dL_law_1218 ci_1 ?_
    exact r_ret1 (pc := 1219) g hQ dL_law_1219
  · obtain ⟨b1, hs⟩ := h q
    refine r_aload_n (pc := 27) 0 g dL_law_27 rfl ?_
    refine r_iload_n (pc := 28) 3 g dL_law_28 rfl ?_
    refine r_sld (pc := 29) g hS dL_law_29 b1 ?_
    refine r_bipush (pc := 30) g dL_law_30 cb_63 ?_
    refine r_iand (pc := 32) g dL_law_32 ?_
    by_cases c0 : ((xs x3.toNatClampNeg) &&& 63) = 0
    · refine r_tswK (pc := 33) 0 184 g dL_law_33 c0 ⟨by decide, by decide, rfl, rfl⟩ ?_
      exact lq_0 g hX hS hQ P hP x3 μX μM (hs.1 c0)
    by_cases c1 : ((xs x3.toNatClampNeg) &&& 63) = 1
    · refine r_tswK (pc := 33) 1 237 g dL_law_33 c1 ⟨by decide, by decide, rfl, rfl⟩ ?_
      exact lq_1 g hX hS hQ P hP x3 μX μM (hs.2.1 c1)
    by_cases c2 : ((xs x3.toNatClampNeg) &&& 63) = 2
    · refine r_tswK (pc := 33) 2 270 g dL_law_33 c2 ⟨by decide, by decide, rfl, rfl⟩ ?_
      exact lq_2 g hX hS hQ P hP x3 μX μM (hs.2.2.1 c2)
    by_cases c3 : ((xs x3.toNatClampNeg) &&& 63) = 3
    · refine r_tswK (pc := 33) 3 303 g dL_law_33 c3 ⟨by decide, by decide, rfl, rfl⟩ ?_
      exact lq_3 g hX hS hQ P hP x3 μX μM (hs.2.2.2.1 c3)
    by_cases c4 : ((xs x3.toNatClampNeg) &&& 63) = 4
    · refine r_tswK (pc := 33) 4 362 g dL_law_33 c4 ⟨by decide, by decide, rfl, rfl⟩ ?_
      exact lq_4 g hX hS hQ P hP x3 μX μM (hs.2.2.2.2.1 c4)
    by_cases c5 : ((xs x3.toNatClampNeg) &&& 63) = 5
    · refine r_tswK (pc := 33) 5 405 g dL_law_33 c5 ⟨by decide, by decide, rfl, rfl⟩ ?_
      exact lq_5 g hX hS hQ P hP x3 μX μM (hs.2.2.2.2.2.1 c5)
    by_cases c6 : ((xs x3.toNatClampNeg) &&& 63) = 6
    · refine r_tswK (pc := 33) 6 468 g dL_law_33 c6 ⟨by decide, by decide, rfl, rfl⟩ ?_
      exact lq_6 g hX hS hQ P hP x3 μX μM (hs.2.2.2.2.2.2.1 c6)
    by_cases c7 : ((xs x3.toNatClampNeg) &&& 63) = 7
    · refine r_tswK (pc := 33) 7 501 g dL_law_33 c7 ⟨by decide, by decide, rfl, rfl⟩ ?_
      exact lq_7 g hX hS hQ P hP x3 μX μM (hs.2.2.2.2.2.2.2.1 c7)
    by_cases c8 : ((xs x3.toNatClampNeg) &&& 63) = 8
    · refine r_tswK (pc := 33) 8 524 g dL_law_33 c8 ⟨by decide, by decide, rfl, rfl⟩ ?_
      exact lq_8 g hX hS hQ P hP x3 μX μM (hs.2.2.2.2.2.2.2.2.1 c8)
    by_cases c9 : ((xs x3.toNatClampNeg) &&& 63) = 9
    · refine r_tswK (pc := 33) 9 567 g dL_law_33 c9 ⟨by decide, by decide, rfl, rfl⟩ ?_
      exact lq_9 g hX hS hQ P hP x3 μX μM (hs.2.2.2.2.2.2.2.2.2.1 c9)
    by_cases c10 : ((xs x3.toNatClampNeg) &&& 63) = 10
    · refine r_tswK (pc := 33) 10 600 g dL_law_33 c10 ⟨by decide, by decide, rfl, rfl⟩ ?_
      exact lq_10 g hX hS hQ P hP x3 μX μM (hs.2.2.2.2.2.2.2.2.2.2.1 c10)
    by_cases c11 : ((xs x3.toNatClampNeg) &&& 63) = 11
    · refine r_tswK (pc := 33) 11 623 g dL_law_33 c11 ⟨by decide, by decide, rfl, rfl⟩ ?_
      exact lq_11 g hX hS hQ P hP x3 μX μM (hs.2.2.2.2.2.2.2.2.2.2.2.1 c11)
    by_cases c12 : ((xs x3.toNatClampNeg) &&& 63) = 12
    · refine r_tswK (pc := 33) 12 646 g dL_law_33 c12 ⟨by decide, by decide, rfl, rfl⟩ ?_
      exact lq_12 g hX hS hQ P hP x3 μX μM (hs.2.2.2.2.2.2.2.2.2.2.2.2.1 c12)
    by_cases c13 : ((xs x3.toNatClampNeg) &&& 63) = 13
    · refine r_tswK (pc := 33) 13 659 g dL_law_33 c13 ⟨by decide, by decide, rfl, rfl⟩ ?_
      exact lq_13 g hX hS hQ P hP x3 μX μM (hs.2.2.2.2.2.2.2.2.2.2.2.2.2.1 c13)
    by_cases c14 : ((xs x3.toNatClampNeg) &&& 63) = 14
    · refine r_tswK (pc := 33) 14 682 g dL_law_33 c14 ⟨by decide, by decide, rfl, rfl⟩ ?_
      exact lq_14 g hX hS hQ P hP x3 μX μM (hs.2.2.2.2.2.2.2.2.2.2.2.2.2.2.1 c14)
    by_cases c15 : ((xs x3.toNatClampNeg) &&& 63) = 15
    · refine r_tswK (pc := 33) 15 695 g dL_law_33 c15 ⟨by decide, by decide, rfl, rfl⟩ ?_
      exact lq_15 g hX hS hQ P hP x3 μX μM (hs.2.2.2.2.2.2.2.2.2.2.2.2.2.2.2.1 c15)
    by_cases c16 : ((xs x3.toNatClampNeg) &&& 63) = 16
    · refine r_tswK (pc := 33) 16 728 g dL_law_33 c16 ⟨by decide, by decide, rfl, rfl⟩ ?_
      exact lq_16 g hX hS hQ P hP x3 μX μM (hs.2.2.2.2.2.2.2.2.2.2.2.2.2.2.2.2.1 c16)
    by_cases c17 : ((xs x3.toNatClampNeg) &&& 63) = 17
    · refine r_tswK (pc := 33) 17 751 g dL_law_33 c17 ⟨by decide, by decide, rfl, rfl⟩ ?_
      exact lq_17 g hX hS hQ P hP x3 μX μM (hs.2.2.2.2.2.2.2.2.2.2.2.2.2.2.2.2.2.1 c17)
    by_cases c18 : ((xs x3.toNatClampNeg) &&& 63) = 18
    · refine r_tswK (pc := 33) 18 774 g dL_law_33 c18 ⟨by decide, by decide, rfl, rfl⟩ ?_
      exact lq_18 g hX hS hQ P hP x3 μX μM (hs.2.2.2.2.2.2.2.2.2.2.2.2.2.2.2.2.2.2.1 c18)
    by_cases c19 : ((xs x3.toNatClampNeg) &&& 63) = 19
    · refine r_tswK (pc := 33) 19 807 g dL_law_33 c19 ⟨by decide, by decide, rfl, rfl⟩ ?_
      exact lq_19 g hX hS hQ P hP x3 μX μM (hs.2.2.2.2.2.2.2.2.2.2.2.2.2.2.2.2.2.2.2.1 c19)
    by_cases c20 : ((xs x3.toNatClampNeg) &&& 63) = 20
    · refine r_tswK (pc := 33) 20 840 g dL_law_33 c20 ⟨by decide, by decide, rfl, rfl⟩ ?_
      exact lq_20 g hX hS hQ P hP x3 μX μM (hs.2.2.2.2.2.2.2.2.2.2.2.2.2.2.2.2.2.2.2.2.1 c20)
    by_cases c21 : ((xs x3.toNatClampNeg) &&& 63) = 21
    · refine r_tswK (pc := 33) 21 863 g dL_law_33 c21 ⟨by decide, by decide, rfl, rfl⟩ ?_
      exact lq_21 g hX hS hQ P hP x3 μX μM (hs.2.2.2.2.2.2.2.2.2.2.2.2.2.2.2.2.2.2.2.2.2.1 c21)
    by_cases c22 : ((xs x3.toNatClampNeg) &&& 63) = 22
    · refine r_tswK (pc := 33) 22 886 g dL_law_33 c22 ⟨by decide, by decide, rfl, rfl⟩ ?_
      exact lq_22 g hX hS hQ P hP x3 μX μM (hs.2.2.2.2.2.2.2.2.2.2.2.2.2.2.2.2.2.2.2.2.2.2.1 c22)
    by_cases c23 : ((xs x3.toNatClampNeg) &&& 63) = 23
    · refine r_tswK (pc := 33) 23 919 g dL_law_33 c23 ⟨by decide, by decide, rfl, rfl⟩ ?_
      exact lq_23 g hX hS hQ P hP x3 μX μM (hs.2.2.2.2.2.2.2.2.2.2.2.2.2.2.2.2.2.2.2.2.2.2.2.1 c23)
    by_cases c24 : ((xs x3.toNatClampNeg) &&& 63) = 24
    · refine r_tswK (pc := 33) 24 932 g dL_law_33 c24 ⟨by decide, by decide, rfl, rfl⟩ ?_
      exact lq_24 g hX hS hQ P hP x3 μX μM (hs.2.2.2.2.2.2.2.2.2.2.2.2.2.2.2.2.2.2.2.2.2.2.2.2.1 c24)
    by_cases c25 : ((xs x3.toNatClampNeg) &&& 63) = 25
    · refine r_tswK (pc := 33) 25 975 g dL_law_33 c25 ⟨by decide, by decide, rfl, rfl⟩ ?_
      exact lq_25 g hX hS hQ P hP x3 μX μM (hs.2.2.2.2.2.2.2.2.2.2.2.2.2.2.2.2.2.2.2.2.2.2.2.2.2.1 c25)
    by_cases c26 : ((xs x3.toNatClampNeg) &&& 63) = 26
    · refine r_tswK (pc := 33) 26 998 g dL_law_33 c26 ⟨by decide, by decide, rfl, rfl⟩ ?_
      exact lq_26 g hX hS hQ P hP x3 μX μM (hs.2.2.2.2.2.2.2.2.2.2.2.2.2.2.2.2.2.2.2.2.2.2.2.2.2.2.1 c26)
    by_cases c27 : ((xs x3.toNatClampNeg) &&& 63) = 27
    · refine r_tswK (pc := 33) 27 1041 g dL_law_33 c27 ⟨by decide, by decide, rfl, rfl⟩ ?_
      exact lq_27 g hX hS hQ P hP x3 μX μM (hs.2.2.2.2.2.2.2.2.2.2.2.2.2.2.2.2.2.2.2.2.2.2.2.2.2.2.2.1 c27)
    by_cases c28 : ((xs x3.toNatClampNeg) &&& 63) = 28
    · refine r_tswK (pc := 33) 28 1084 g dL_law_33 c28 ⟨by decide, by decide, rfl, rfl⟩ ?_
      exact lq_28 g hX hS hQ P hP x3 μX μM (hs.2.2.2.2.2.2.2.2.2.2.2.2.2.2.2.2.2.2.2.2.2.2.2.2.2.2.2.2.1 c28)
    by_cases c29 : ((xs x3.toNatClampNeg) &&& 63) = 29
    · refine r_tswK (pc := 33) 29 1107 g dL_law_33 c29 ⟨by decide, by decide, rfl, rfl⟩ ?_
      exact lq_29 g hX hS hQ P hP x3 μX μM (hs.2.2.2.2.2.2.2.2.2.2.2.2.2.2.2.2.2.2.2.2.2.2.2.2.2.2.2.2.2.1 c29)
    by_cases c30 : ((xs x3.toNatClampNeg) &&& 63) = 30
    · refine r_tswK (pc := 33) 30 1130 g dL_law_33 c30 ⟨by decide, by decide, rfl, rfl⟩ ?_
      exact lq_30 g hX hS hQ P hP x3 μX μM (hs.2.2.2.2.2.2.2.2.2.2.2.2.2.2.2.2.2.2.2.2.2.2.2.2.2.2.2.2.2.2.1 c30)
    by_cases c31 : ((xs x3.toNatClampNeg) &&& 63) = 31
    · refine r_tswK (pc := 33) 31 1163 g dL_law_33 c31 ⟨by decide, by decide, rfl, rfl⟩ ?_
      exact lq_31 g hX hS hQ P hP x3 μX μM (hs.2.2.2.2.2.2.2.2.2.2.2.2.2.2.2.2.2.2.2.2.2.2.2.2.2.2.2.2.2.2.2.1 c31)
    by_cases c32 : ((xs x3.toNatClampNeg) &&& 63) = 32
    · refine r_tswK (pc := 33) 32 1176 g dL_law_33 c32 ⟨by decide, by decide, rfl, rfl⟩ ?_
      exact lq_32 g hX hS hQ P hP x3 μX μM (hs.2.2.2.2.2.2.2.2.2.2.2.2.2.2.2.2.2.2.2.2.2.2.2.2.2.2.2.2.2.2.2.2.1 c32)
    by_cases c33 : ((xs x3.toNatClampNeg) &&& 63) = 33
    · refine r_tswK (pc := 33) 33 1189 g dL_law_33 c33 ⟨by decide, by decide, rfl, rfl⟩ ?_
      exact lq_33 g hX hS hQ P hP x3 μX μM (hs.2.2.2.2.2.2.2.2.2.2.2.2.2.2.2.2.2.2.2.2.2.2.2.2.2.2.2.2.2.2.2.2.2.1 c33)
    have ho : (((xs x3.toNatClampNeg) &&& 63)).toInt < 0 ∨ 33 < (((xs x3.toNatClampNeg) &&& 63)).toInt := by
      have e0 := ne_toInt c0 (w := 0) (by decide)
      have e1 := ne_toInt c1 (w := 1) (by decide)
      have e2 := ne_toInt c2 (w := 2) (by decide)
      have e3 := ne_toInt c3 (w := 3) (by decide)
      have e4 := ne_toInt c4 (w := 4) (by decide)
      have e5 := ne_toInt c5 (w := 5) (by decide)
      have e6 := ne_toInt c6 (w := 6) (by decide)
      have e7 := ne_toInt c7 (w := 7) (by decide)
      have e8 := ne_toInt c8 (w := 8) (by decide)
      have e9 := ne_toInt c9 (w := 9) (by decide)
      have e10 := ne_toInt c10 (w := 10) (by decide)
      have e11 := ne_toInt c11 (w := 11) (by decide)
      have e12 := ne_toInt c12 (w := 12) (by decide)
      have e13 := ne_toInt c13 (w := 13) (by decide)
      have e14 := ne_toInt c14 (w := 14) (by decide)
      have e15 := ne_toInt c15 (w := 15) (by decide)
      have e16 := ne_toInt c16 (w := 16) (by decide)
      have e17 := ne_toInt c17 (w := 17) (by decide)
      have e18 := ne_toInt c18 (w := 18) (by decide)
      have e19 := ne_toInt c19 (w := 19) (by decide)
      have e20 := ne_toInt c20 (w := 20) (by decide)
      have e21 := ne_toInt c21 (w := 21) (by decide)
      have e22 := ne_toInt c22 (w := 22) (by decide)
      have e23 := ne_toInt c23 (w := 23) (by decide)
      have e24 := ne_toInt c24 (w := 24) (by decide)
      have e25 := ne_toInt c25 (w := 25) (by decide)
      have e26 := ne_toInt c26 (w := 26) (by decide)
      have e27 := ne_toInt c27 (w := 27) (by decide)
      have e28 := ne_toInt c28 (w := 28) (by decide)
      have e29 := ne_toInt c29 (w := 29) (by decide)
      have e30 := ne_toInt c30 (w := 30) (by decide)
      have e31 := ne_toInt c31 (w := 31) (by decide)
      have e32 := ne_toInt c32 (w := 32) (by decide)
      have e33 := ne_toInt c33 (w := 33) (by decide)
      omega
    refine r_tswD (pc := 33) 1212 g dL_law_33 ho rfl ?_
    exact lq_d g hX hS hQ P hP x3 μX μM (hs.2.2.2.2.2.2.2.2.2.2.2.2.2.2.2.2.2.2.2.2.2.2.2.2.2.2.2.2.2.2.2.2.2.2)
