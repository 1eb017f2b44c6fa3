theorem dL_law_0 : decode code 0 = .ok (.new 7, 3) := by decide +kernel
theorem dL_law_3 : decode code 3 = .ok (.dup, 1) := by decide +kernel
theorem dL_law_4 : decode code 4 = .ok (.invokespecial 9, 3) := by decide +kernel
theorem dL_law_7 : decode code 7 = .ok (.astore_n 1, 1) := by decide +kernel
theorem dL_law_8 : decode code 8 = .ok (.new 10, 3) := by decide +kernel
theorem dL_law_11 : decode code 11 = .ok (.dup, 1) := by decide +kernel
theorem dL_law_12 : decode code 12 = .ok (.invokespecial 12, 3) := by decide +kernel
theorem dL_law_15 : decode code 15 = .ok (.astore_n 2, 1) := by decide +kernel
theorem dL_law_16 : decode code 16 = .ok (.iconst 0, 1) := by decide +kernel
theorem dL_law_17 : decode code 17 = .ok (.istore_n 3, 1) := by decide +kernel
theorem dL_law_18 : decode code 18 = .ok (.iload_n 3, 1) := by decide +kernel
theorem dL_law_19 : decode code 19 = .ok (.aload_n 0, 1) := by decide +kernel
theorem dL_law_20 : decode code 20 = .ok (.arraylength, 1) := by decide +kernel
theorem dL_law_21 : decode code 21 = .ok (.bipush 6, 2) := by decide +kernel
theorem dL_law_23 : decode code 23 = .ok (.isub, 1) := by decide +kernel
theorem dL_law_24 : decode code 24 = .ok (.if_icmp .gt 1117, 3) := by decide +kernel
theorem dL_law_27 : decode code 27 = .ok (.aload_n 0, 1) := by decide +kernel
theorem dL_law_28 : decode code 28 = .ok (.iload_n 3, 1) := by decide +kernel
theorem dL_law_29 : decode code 29 = .ok (.iaload, 1) := by decide +kernel
theorem dL_law_30 : decode code 30 = .ok (.bipush 31, 2) := by decide +kernel
theorem dL_law_32 : decode code 32 = .ok (.iand, 1) := by decide +kernel
theorem dL_law_33 : decode code 33 = .ok (.tableswitch 1102 0 30 #[139, 162, 195, 218, 281, 304, 327, 350, 383, 406, 439, 482, 515, 548, 591, 624, 657, 680, 723, 746, 779, 812, 845, 888, 931, 974, 997, 1020, 1033, 1046, 1079], 139) := by decide +kernel
theorem dL_law_172 : decode code 172 = .ok (.aload_n 1, 1) := by decide +kernel
theorem dL_law_173 : decode code 173 = .ok (.aload_n 0, 1) := by decide +kernel
theorem dL_law_174 : decode code 174 = .ok (.iload_n 3, 1) := by decide +kernel
theorem dL_law_175 : decode code 175 = .ok (.iconst 1, 1) := by decide +kernel
theorem dL_law_176 : decode code 176 = .ok (.iadd, 1) := by decide +kernel
theorem dL_law_177 : decode code 177 = .ok (.iaload, 1) := by decide +kernel
theorem dL_law_178 : decode code 178 = .ok (.invokevirtual 13, 3) := by decide +kernel
theorem dL_law_181 : decode code 181 = .ok (.pop, 1) := by decide +kernel
theorem dL_law_182 : decode code 182 = .ok (.aload_n 2, 1) := by decide +kernel
theorem dL_law_183 : decode code 183 = .ok (.aload_n 0, 1) := by decide +kernel
theorem dL_law_184 : decode code 184 = .ok (.iload_n 3, 1) := by decide +kernel
theorem dL_law_185 : decode code 185 = .ok (.iconst 1, 1) := by decide +kernel
theorem dL_law_186 : decode code 186 = .ok (.iadd, 1) := by decide +kernel
theorem dL_law_187 : decode code 187 = .ok (.iaload, 1) := by decide +kernel
theorem dL_law_188 : decode code 188 = .ok (.invokevirtual 17, 3) := by decide +kernel
theorem dL_law_191 : decode code 191 = .ok (.pop, 1) := by decide +kernel
theorem dL_law_192 : decode code 192 = .ok (.goto 943, 3) := by decide +kernel
theorem dL_law_195 : decode code 195 = .ok (.aload_n 1, 1) := by decide +kernel
theorem dL_law_196 : decode code 196 = .ok (.aload_n 0, 1) := by decide +kernel
theorem dL_law_197 : decode code 197 = .ok (.iload_n 3, 1) := by decide +kernel
theorem dL_law_198 : decode code 198 = .ok (.iconst 1, 1) := by decide +kernel
theorem dL_law_199 : decode code 199 = .ok (.iadd, 1) := by decide +kernel
theorem dL_law_200 : decode code 200 = .ok (.iaload, 1) := by decide +kernel
theorem dL_law_201 : decode code 201 = .ok (.aload_n 0, 1) := by decide +kernel
theorem dL_law_202 : decode code 202 = .ok (.iload_n 3, 1) := by decide +kernel
theorem dL_law_203 : decode code 203 = .ok (.iconst 2, 1) := by decide +kernel
theorem dL_law_204 : decode code 204 = .ok (.iadd, 1) := by decide +kernel
theorem dL_law_205 : decode code 205 = .ok (.iaload, 1) := by decide +kernel
theorem dL_law_206 : decode code 206 = .ok (.invokevirtual 18, 3) := by decide +kernel
theorem dL_law_209 : decode code 209 = .ok (.pop, 1) := by decide +kernel
theorem dL_law_210 : decode code 210 = .ok (.aload_n 2, 1) := by decide +kernel
theorem dL_law_211 : decode code 211 = .ok (.aload_n 0, 1) := by decide +kernel
theorem dL_law_212 : decode code 212 = .ok (.iload_n 3, 1) := by decide +kernel
theorem dL_law_213 : decode code 213 = .ok (.iconst 1, 1) := by decide +kernel
theorem dL_law_214 : decode code 214 = .ok (.iadd, 1) := by decide +kernel
theorem dL_law_215 : decode code 215 = .ok (.iaload, 1) := by decide +kernel
theorem dL_law_216 : decode code 216 = .ok (.aload_n 0, 1) := by decide +kernel
theorem dL_law_217 : decode code 217 = .ok (.iload_n 3, 1) := by decide +kernel
theorem dL_law_218 : decode code 218 = .ok (.iconst 2, 1) := by decide +kernel
theorem dL_law_219 : decode code 219 = .ok (.iadd, 1) := by decide +kernel
theorem dL_law_220 : decode code 220 = .ok (.iaload, 1) := by decide +kernel
theorem dL_law_221 : decode code 221 = .ok (.invokevirtual 22, 3) := by decide +kernel
theorem dL_law_224 : decode code 224 = .ok (.pop, 1) := by decide +kernel
theorem dL_law_225 : decode code 225 = .ok (.goto 910, 3) := by decide +kernel
theorem dL_law_228 : decode code 228 = .ok (.aload_n 1, 1) := by decide +kernel
theorem dL_law_229 : decode code 229 = .ok (.aload_n 0, 1) := by decide +kernel
theorem dL_law_230 : decode code 230 = .ok (.iload_n 3, 1) := by decide +kernel
theorem dL_law_231 : decode code 231 = .ok (.iconst 1, 1) := by decide +kernel
theorem dL_law_232 : decode code 232 = .ok (.iadd, 1) := by decide +kernel
theorem dL_law_233 : decode code 233 = .ok (.iaload, 1) := by decide +kernel
theorem dL_law_234 : decode code 234 = .ok (.invokevirtual 23, 3) := by decide +kernel
theorem dL_law_237 : decode code 237 = .ok (.pop, 1) := by decide +kernel
theorem dL_law_238 : decode code 238 = .ok (.aload_n 2, 1) := by decide +kernel
theorem dL_law_239 : decode code 239 = .ok (.aload_n 0, 1) := by decide +kernel
theorem dL_law_240 : decode code 240 = .ok (.iload_n 3, 1) := by decide +kernel
theorem dL_law_241 : decode code 241 = .ok (.iconst 1, 1) := by decide +kernel
theorem dL_law_242 : decode code 242 = .ok (.iadd, 1) := by decide +kernel
theorem dL_law_243 : decode code 243 = .ok (.iaload, 1) := by decide +kernel
theorem dL_law_244 : decode code 244 = .ok (.invokevirtual 26, 3) := by decide +kernel
theorem dL_law_247 : decode code 247 = .ok (.pop, 1) := by decide +kernel
theorem dL_law_248 : decode code 248 = .ok (.goto 887, 3) := by decide +kernel
theorem dL_law_251 : decode code 251 = .ok (.aload_n 1, 1) := by decide +kernel
theorem dL_law_252 : decode code 252 = .ok (.aload_n 0, 1) := by decide +kernel
theorem dL_law_253 : decode code 253 = .ok (.iload_n 3, 1) := by decide +kernel
theorem dL_law_254 : decode code 254 = .ok (.iconst 1, 1) := by decide +kernel
theorem dL_law_255 : decode code 255 = .ok (.iadd, 1) := by decide +kernel
theorem dL_law_256 : decode code 256 = .ok (.iaload, 1) := by decide +kernel
theorem dL_law_257 : decode code 257 = .ok (.aload_n 0, 1) := by decide +kernel
theorem dL_law_258 : decode code 258 = .ok (.iload_n 3, 1) := by decide +kernel
theorem dL_law_259 : decode code 259 = .ok (.iconst 2, 1) := by decide +kernel
theorem dL_law_260 : decode code 260 = .ok (.iadd, 1) := by decide +kernel
theorem dL_law_261 : decode code 261 = .ok (.iaload, 1) := by decide +kernel
theorem dL_law_262 : decode code 262 = .ok (.aload_n 0, 1) := by decide +kernel
theorem dL_law_263 : decode code 263 = .ok (.iload_n 3, 1) := by decide +kernel
theorem dL_law_264 : decode code 264 = .ok (.iconst 3, 1) := by decide +kernel
theorem dL_law_265 : decode code 265 = .ok (.iadd, 1) := by decide +kernel
theorem dL_law_266 : decode code 266 = .ok (.iaload, 1) := by decide +kernel
theorem dL_law_267 : decode code 267 = .ok (.aload_n 0, 1) := by decide +kernel
theorem dL_law_268 : decode code 268 = .ok (.iload_n 3, 1) := by decide +kernel
theorem dL_law_269 : decode code 269 = .ok (.iconst 4, 1) := by decide +kernel
theorem dL_law_270 : decode code 270 = .ok (.iadd, 1) := by decide +kernel
theorem dL_law_271 : decode code 271 = .ok (.iaload, 1) := by decide +kernel
theorem dL_law_272 : decode code 272 = .ok (.aload_n 0, 1) := by decide +kernel
theorem dL_law_273 : decode code 273 = .ok (.iload_n 3, 1) := by decide +kernel
theorem dL_law_274 : decode code 274 = .ok (.iconst 5, 1) := by decide +kernel
theorem dL_law_275 : decode code 275 = .ok (.iadd, 1) := by decide +kernel
theorem dL_law_276 : decode code 276 = .ok (.iaload, 1) := by decide +kernel
theorem dL_law_277 : decode code 277 = .ok (.invokevirtual 27, 3) := by decide +kernel
theorem dL_law_280 : decode code 280 = .ok (.pop, 1) := by decide +kernel
theorem dL_law_281 : decode code 281 = .ok (.aload_n 2, 1) := by decide +kernel
theorem dL_law_282 : decode code 282 = .ok (.aload_n 0, 1) := by decide +kernel
theorem dL_law_283 : decode code 283 = .ok (.iload_n 3, 1) := by decide +kernel
theorem dL_law_284 : decode code 284 = .ok (.iconst 1, 1) := by decide +kernel
theorem dL_law_285 : decode code 285 = .ok (.iadd, 1) := by decide +kernel
theorem dL_law_286 : decode code 286 = .ok (.iaload, 1) := by decide +kernel
theorem dL_law_287 : decode code 287 = .ok (.aload_n 0, 1) := by decide +kernel
theorem dL_law_288 : decode code 288 = .ok (.iload_n 3, 1) := by decide +kernel
theorem dL_law_289 : decode code 289 = .ok (.iconst 2, 1) := by decide +kernel
theorem dL_law_290 : decode code 290 = .ok (.iadd, 1) := by decide +kernel
theorem dL_law_291 : decode code 291 = .ok (.iaload, 1) := by decide +kernel
theorem dL_law_292 : decode code 292 = .ok (.aload_n 0, 1) := by decide +kernel
theorem dL_law_293 : decode code 293 = .ok (.iload_n 3, 1) := by decide +kernel
theorem dL_law_294 : decode code 294 = .ok (.iconst 3, 1) := by decide +kernel
theorem dL_law_295 : decode code 295 = .ok (.iadd, 1) := by decide +kernel
theorem dL_law_296 : decode code 296 = .ok (.iaload, 1) := by decide +kernel
theorem dL_law_297 : decode code 297 = .ok (.aload_n 0, 1) := by decide +kernel
theorem dL_law_298 : decode code 298 = .ok (.iload_n 3, 1) := by decide +kernel
theorem dL_law_299 : decode code 299 = .ok (.iconst 4, 1) := by decide +kernel
theorem dL_law_300 : decode code 300 = .ok (.iadd, 1) := by decide +kernel
theorem dL_law_301 : decode code 301 = .ok (.iaload, 1) := by decide +kernel
theorem dL_law_302 : decode code 302 = .ok (.aload_n 0, 1) := by decide +kernel
theorem dL_law_303 : decode code 303 = .ok (.iload_n 3, 1) := by decide +kernel
theorem dL_law_304 : decode code 304 = .ok (.iconst 5, 1) := by decide +kernel
theorem dL_law_305 : decode code 305 = .ok (.iadd, 1) := by decide +kernel
theorem dL_law_306 : decode code 306 = .ok (.iaload, 1) := by decide +kernel
theorem dL_law_307 : decode code 307 = .ok (.invokevirtual 31, 3) := by decide +kernel
theorem dL_law_310 : decode code 310 = .ok (.pop, 1) := by decide +kernel
theorem dL_law_311 : decode code 311 = .ok (.goto 824, 3) := by decide +kernel
theorem dL_law_314 : decode code 314 = .ok (.aload_n 1, 1) := by decide +kernel
theorem dL_law_315 : decode code 315 = .ok (.aload_n 0, 1) := by decide +kernel
theorem dL_law_316 : decode code 316 = .ok (.iload_n 3, 1) := by decide +kernel
theorem dL_law_317 : decode code 317 = .ok (.iconst 1, 1) := by decide +kernel
theorem dL_law_318 : decode code 318 = .ok (.iadd, 1) := by decide +kernel
theorem dL_law_319 : decode code 319 = .ok (.iaload, 1) := by decide +kernel
theorem dL_law_320 : decode code 320 = .ok (.invokevirtual 32, 3) := by decide +kernel
theorem dL_law_323 : decode code 323 = .ok (.pop, 1) := by decide +kernel
theorem dL_law_324 : decode code 324 = .ok (.aload_n 2, 1) := by decide +kernel
theorem dL_law_325 : decode code 325 = .ok (.aload_n 0, 1) := by decide +kernel
theorem dL_law_326 : decode code 326 = .ok (.iload_n 3, 1) := by decide +kernel
theorem dL_law_327 : decode code 327 = .ok (.iconst 1, 1) := by decide +kernel
theorem dL_law_328 : decode code 328 = .ok (.iadd, 1) := by decide +kernel
theorem dL_law_329 : decode code 329 = .ok (.iaload, 1) := by decide +kernel
theorem dL_law_330 : decode code 330 = .ok (.invokevirtual 36, 3) := by decide +kernel
theorem dL_law_333 : decode code 333 = .ok (.pop, 1) := by decide +kernel
theorem dL_law_334 : decode code 334 = .ok (.goto 801, 3) := by decide +kernel
theorem dL_law_337 : decode code 337 = .ok (.aload_n 1, 1) := by decide +kernel
theorem dL_law_338 : decode code 338 = .ok (.aload_n 0, 1) := by decide +kernel
theorem dL_law_339 : decode code 339 = .ok (.iload_n 3, 1) := by decide +kernel
theorem dL_law_340 : decode code 340 = .ok (.iconst 1, 1) := by decide +kernel
theorem dL_law_341 : decode code 341 = .ok (.iadd, 1) := by decide +kernel
theorem dL_law_342 : decode code 342 = .ok (.iaload, 1) := by decide +kernel
theorem dL_law_343 : decode code 343 = .ok (.invokevirtual 37, 3) := by decide +kernel
theorem dL_law_346 : decode code 346 = .ok (.pop, 1) := by decide +kernel
theorem dL_law_347 : decode code 347 = .ok (.aload_n 2, 1) := by decide +kernel
theorem dL_law_348 : decode code 348 = .ok (.aload_n 0, 1) := by decide +kernel
theorem dL_law_349 : decode code 349 = .ok (.iload_n 3, 1) := by decide +kernel
theorem dL_law_350 : decode code 350 = .ok (.iconst 1, 1) := by decide +kernel
theorem dL_law_351 : decode code 351 = .ok (.iadd, 1) := by decide +kernel
theorem dL_law_352 : decode code 352 = .ok (.iaload, 1) := by decide +kernel
theorem dL_law_353 : decode code 353 = .ok (.invokevirtual 40, 3) := by decide +kernel
theorem dL_law_356 : decode code 356 = .ok (.pop, 1) := by decide +kernel
theorem dL_law_357 : decode code 357 = .ok (.goto 778, 3) := by decide +kernel
theorem dL_law_360 : decode code 360 = .ok (.aload_n 1, 1) := by decide +kernel
theorem dL_law_361 : decode code 361 = .ok (.aload_n 0, 1) := by decide +kernel
theorem dL_law_362 : decode code 362 = .ok (.iload_n 3, 1) := by decide +kernel
theorem dL_law_363 : decode code 363 = .ok (.iconst 1, 1) := by decide +kernel
theorem dL_law_364 : decode code 364 = .ok (.iadd, 1) := by decide +kernel
theorem dL_law_365 : decode code 365 = .ok (.iaload, 1) := by decide +kernel
theorem dL_law_366 : decode code 366 = .ok (.invokevirtual 41, 3) := by decide +kernel
theorem dL_law_369 : decode code 369 = .ok (.pop, 1) := by decide +kernel
theorem dL_law_370 : decode code 370 = .ok (.aload_n 2, 1) := by decide +kernel
theorem dL_law_371 : decode code 371 = .ok (.aload_n 0, 1) := by decide +kernel
theorem dL_law_372 : decode code 372 = .ok (.iload_n 3, 1) := by decide +kernel
theorem dL_law_373 : decode code 373 = .ok (.iconst 1, 1) := by decide +kernel
theorem dL_law_374 : decode code 374 = .ok (.iadd, 1) := by decide +kernel
theorem dL_law_375 : decode code 375 = .ok (.iaload, 1) := by decide +kernel
theorem dL_law_376 : decode code 376 = .ok (.invokevirtual 44, 3) := by decide +kernel
theorem dL_law_379 : decode code 379 = .ok (.pop, 1) := by decide +kernel
theorem dL_law_380 : decode code 380 = .ok (.goto 755, 3) := by decide +kernel
theorem dL_law_383 : decode code 383 = .ok (.aload_n 1, 1) := by decide +kernel
theorem dL_law_384 : decode code 384 = .ok (.aload_n 0, 1) := by decide +kernel
theorem dL_law_385 : decode code 385 = .ok (.iload_n 3, 1) := by decide +kernel
theorem dL_law_386 : decode code 386 = .ok (.iconst 1, 1) := by decide +kernel
theorem dL_law_387 : decode code 387 = .ok (.iadd, 1) := by decide +kernel
theorem dL_law_388 : decode code 388 = .ok (.iaload, 1) := by decide +kernel
theorem dL_law_389 : decode code 389 = .ok (.aload_n 0, 1) := by decide +kernel
theorem dL_law_390 : decode code 390 = .ok (.iload_n 3, 1) := by decide +kernel
theorem dL_law_391 : decode code 391 = .ok (.iconst 2, 1) := by decide +kernel
theorem dL_law_392 : decode code 392 = .ok (.iadd, 1) := by decide +kernel
theorem dL_law_393 : decode code 393 = .ok (.iaload, 1) := by decide +kernel
theorem dL_law_394 : decode code 394 = .ok (.invokevirtual 45, 3) := by decide +kernel
theorem dL_law_397 : decode code 397 = .ok (.pop, 1) := by decide +kernel
theorem dL_law_398 : decode code 398 = .ok (.aload_n 2, 1) := by decide +kernel
theorem dL_law_399 : decode code 399 = .ok (.aload_n 0, 1) := by decide +kernel
theorem dL_law_400 : decode code 400 = .ok (.iload_n 3, 1) := by decide +kernel
theorem dL_law_401 : decode code 401 = .ok (.iconst 1, 1) := by decide +kernel
theorem dL_law_402 : decode code 402 = .ok (.iadd, 1) := by decide +kernel
theorem dL_law_403 : decode code 403 = .ok (.iaload, 1) := by decide +kernel
theorem dL_law_404 : decode code 404 = .ok (.aload_n 0, 1) := by decide +kernel
theorem dL_law_405 : decode code 405 = .ok (.iload_n 3, 1) := by decide +kernel
theorem dL_law_406 : decode code 406 = .ok (.iconst 2, 1) := by decide +kernel
theorem dL_law_407 : decode code 407 = .ok (.iadd, 1) := by decide +kernel
theorem dL_law_408 : decode code 408 = .ok (.iaload, 1) := by decide +kernel
theorem dL_law_409 : decode code 409 = .ok (.invokevirtual 49, 3) := by decide +kernel
theorem dL_law_412 : decode code 412 = .ok (.pop, 1) := by decide +kernel
theorem dL_law_413 : decode code 413 = .ok (.goto 722, 3) := by decide +kernel
theorem dL_law_416 : decode code 416 = .ok (.aload_n 1, 1) := by decide +kernel
theorem dL_law_417 : decode code 417 = .ok (.aload_n 0, 1) := by decide +kernel
theorem dL_law_418 : decode code 418 = .ok (.iload_n 3, 1) := by decide +kernel
theorem dL_law_419 : decode code 419 = .ok (.iconst 1, 1) := by decide +kernel
theorem dL_law_420 : decode code 420 = .ok (.iadd, 1) := by decide +kernel
theorem dL_law_421 : decode code 421 = .ok (.iaload, 1) := by decide +kernel
theorem dL_law_422 : decode code 422 = .ok (.invokevirtual 50, 3) := by decide +kernel
theorem dL_law_425 : decode code 425 = .ok (.pop, 1) := by decide +kernel
theorem dL_law_426 : decode code 426 = .ok (.aload_n 2, 1) := by decide +kernel
theorem dL_law_427 : decode code 427 = .ok (.aload_n 0, 1) := by decide +kernel
theorem dL_law_428 : decode code 428 = .ok (.iload_n 3, 1) := by decide +kernel
theorem dL_law_429 : decode code 429 = .ok (.iconst 1, 1) := by decide +kernel
theorem dL_law_430 : decode code 430 = .ok (.iadd, 1) := by decide +kernel
theorem dL_law_431 : decode code 431 = .ok (.iaload, 1) := by decide +kernel
theorem dL_law_432 : decode code 432 = .ok (.invokevirtual 53, 3) := by decide +kernel
theorem dL_law_435 : decode code 435 = .ok (.pop, 1) := by decide +kernel
theorem dL_law_436 : decode code 436 = .ok (.goto 699, 3) := by decide +kernel
theorem dL_law_439 : decode code 439 = .ok (.aload_n 1, 1) := by decide +kernel
theorem dL_law_440 : decode code 440 = .ok (.aload_n 0, 1) := by decide +kernel
theorem dL_law_441 : decode code 441 = .ok (.iload_n 3, 1) := by decide +kernel
theorem dL_law_442 : decode code 442 = .ok (.iconst 1, 1) := by decide +kernel
theorem dL_law_443 : decode code 443 = .ok (.iadd, 1) := by decide +kernel
theorem dL_law_444 : decode code 444 = .ok (.iaload, 1) := by decide +kernel
theorem dL_law_445 : decode code 445 = .ok (.aload_n 0, 1) := by decide +kernel
theorem dL_law_446 : decode code 446 = .ok (.iload_n 3, 1) := by decide +kernel
theorem dL_law_447 : decode code 447 = .ok (.iconst 2, 1) := by decide +kernel
theorem dL_law_448 : decode code 448 = .ok (.iadd, 1) := by decide +kernel
theorem dL_law_449 : decode code 449 = .ok (.iaload, 1) := by decide +kernel
theorem dL_law_450 : decode code 450 = .ok (.invokevirtual 54, 3) := by decide +kernel
theorem dL_law_453 : decode code 453 = .ok (.pop, 1) := by decide +kernel
theorem dL_law_454 : decode code 454 = .ok (.aload_n 2, 1) := by decide +kernel
theorem dL_law_455 : decode code 455 = .ok (.aload_n 0, 1) := by decide +kernel
theorem dL_law_456 : decode code 456 = .ok (.iload_n 3, 1) := by decide +kernel
theorem dL_law_457 : decode code 457 = .ok (.iconst 1, 1) := by decide +kernel
theorem dL_law_458 : decode code 458 = .ok (.iadd, 1) := by decide +kernel
theorem dL_law_459 : decode code 459 = .ok (.iaload, 1) := by decide +kernel
theorem dL_law_460 : decode code 460 = .ok (.aload_n 0, 1) := by decide +kernel
theorem dL_law_461 : decode code 461 = .ok (.iload_n 3, 1) := by decide +kernel
theorem dL_law_462 : decode code 462 = .ok (.iconst 2, 1) := by decide +kernel
theorem dL_law_463 : decode code 463 = .ok (.iadd, 1) := by decide +kernel
theorem dL_law_464 : decode code 464 = .ok (.iaload, 1) := by decide +kernel
theorem dL_law_465 : decode code 465 = .ok (.invokevirtual 57, 3) := by decide +kernel
theorem dL_law_468 : decode code 468 = .ok (.pop, 1) := by decide +kernel
theorem dL_law_469 : decode code 469 = .ok (.goto 666, 3) := by decide +kernel
theorem dL_law_472 : decode code 472 = .ok (.aload_n 1, 1) := by decide +kernel
theorem dL_law_473 : decode code 473 = .ok (.aload_n 0, 1) := by decide +kernel
theorem dL_law_474 : decode code 474 = .ok (.iload_n 3, 1) := by decide +kernel
theorem dL_law_475 : decode code 475 = .ok (.iconst 1, 1) := by decide +kernel
theorem dL_law_476 : decode code 476 = .ok (.iadd, 1) := by decide +kernel
theorem dL_law_477 : decode code 477 = .ok (.iaload, 1) := by decide +kernel
theorem dL_law_478 : decode code 478 = .ok (.aload_n 0, 1) := by decide +kernel
theorem dL_law_479 : decode code 479 = .ok (.iload_n 3, 1) := by decide +kernel
theorem dL_law_480 : decode code 480 = .ok (.iconst 2, 1) := by decide +kernel
theorem dL_law_481 : decode code 481 = .ok (.iadd, 1) := by decide +kernel
theorem dL_law_482 : decode code 482 = .ok (.iaload, 1) := by decide +kernel
theorem dL_law_483 : decode code 483 = .ok (.aload_n 0, 1) := by decide +kernel
theorem dL_law_484 : decode code 484 = .ok (.iload_n 3, 1) := by decide +kernel
theorem dL_law_485 : decode code 485 = .ok (.iconst 3, 1) := by decide +kernel
theorem dL_law_486 : decode code 486 = .ok (.iadd, 1) := by decide +kernel
theorem dL_law_487 : decode code 487 = .ok (.iaload, 1) := by decide +kernel
theorem dL_law_488 : decode code 488 = .ok (.invokevirtual 58, 3) := by decide +kernel
theorem dL_law_491 : decode code 491 = .ok (.pop, 1) := by decide +kernel
theorem dL_law_492 : decode code 492 = .ok (.aload_n 2, 1) := by decide +kernel
theorem dL_law_493 : decode code 493 = .ok (.aload_n 0, 1) := by decide +kernel
theorem dL_law_494 : decode code 494 = .ok (.iload_n 3, 1) := by decide +kernel
theorem dL_law_495 : decode code 495 = .ok (.iconst 1, 1) := by decide +kernel
theorem dL_law_496 : decode code 496 = .ok (.iadd, 1) := by decide +kernel
theorem dL_law_497 : decode code 497 = .ok (.iaload, 1) := by decide +kernel
theorem dL_law_498 : decode code 498 = .ok (.aload_n 0, 1) := by decide +kernel
theorem dL_law_499 : decode code 499 = .ok (.iload_n 3, 1) := by decide +kernel
theorem dL_law_500 : decode code 500 = .ok (.iconst 2, 1) := by decide +kernel
theorem dL_law_501 : decode code 501 = .ok (.iadd, 1) := by decide +kernel
theorem dL_law_502 : decode code 502 = .ok (.iaload, 1) := by decide +kernel
theorem dL_law_503 : decode code 503 = .ok (.aload_n 0, 1) := by decide +kernel
theorem dL_law_504 : decode code 504 = .ok (.iload_n 3, 1) := by decide +kernel
theorem dL_law_505 : decode code 505 = .ok (.iconst 3, 1) := by decide +kernel
theorem dL_law_506 : decode code 506 = .ok (.iadd, 1) := by decide +kernel
theorem dL_law_507 : decode code 507 = .ok (.iaload, 1) := by decide +kernel
theorem dL_law_508 : decode code 508 = .ok (.invokevirtual 62, 3) := by decide +kernel
theorem dL_law_511 : decode code 511 = .ok (.pop, 1) := by decide +kernel
theorem dL_law_512 : decode code 512 = .ok (.goto 623, 3) := by decide +kernel
theorem dL_law_515 : decode code 515 = .ok (.aload_n 1, 1) := by decide +kernel
theorem dL_law_516 : decode code 516 = .ok (.aload_n 0, 1) := by decide +kernel
theorem dL_law_517 : decode code 517 = .ok (.iload_n 3, 1) := by decide +kernel
theorem dL_law_518 : decode code 518 = .ok (.iconst 1, 1) := by decide +kernel
theorem dL_law_519 : decode code 519 = .ok (.iadd, 1) := by decide +kernel
theorem dL_law_520 : decode code 520 = .ok (.iaload, 1) := by decide +kernel
theorem dL_law_521 : decode code 521 = .ok (.aload_n 0, 1) := by decide +kernel
theorem dL_law_522 : decode code 522 = .ok (.iload_n 3, 1) := by decide +kernel
theorem dL_law_523 : decode code 523 = .ok (.iconst 2, 1) := by decide +kernel
theorem dL_law_524 : decode code 524 = .ok (.iadd, 1) := by decide +kernel
theorem dL_law_525 : decode code 525 = .ok (.iaload, 1) := by decide +kernel
theorem dL_law_526 : decode code 526 = .ok (.invokevirtual 63, 3) := by decide +kernel
theorem dL_law_529 : decode code 529 = .ok (.pop, 1) := by decide +kernel
theorem dL_law_530 : decode code 530 = .ok (.aload_n 2, 1) := by decide +kernel
theorem dL_law_531 : decode code 531 = .ok (.aload_n 0, 1) := by decide +kernel
theorem dL_law_532 : decode code 532 = .ok (.iload_n 3, 1) := by decide +kernel
theorem dL_law_533 : decode code 533 = .ok (.iconst 1, 1) := by decide +kernel
theorem dL_law_534 : decode code 534 = .ok (.iadd, 1) := by decide +kernel
theorem dL_law_535 : decode code 535 = .ok (.iaload, 1) := by decide +kernel
theorem dL_law_536 : decode code 536 = .ok (.aload_n 0, 1) := by decide +kernel
theorem dL_law_537 : decode code 537 = .ok (.iload_n 3, 1) := by decide +kernel
theorem dL_law_538 : decode code 538 = .ok (.iconst 2, 1) := by decide +kernel
theorem dL_law_539 : decode code 539 = .ok (.iadd, 1) := by decide +kernel
theorem dL_law_540 : decode code 540 = .ok (.iaload, 1) := by decide +kernel
theorem dL_law_541 : decode code 541 = .ok (.invokevirtual 66, 3) := by decide +kernel
theorem dL_law_544 : decode code 544 = .ok (.pop, 1) := by decide +kernel
theorem dL_law_545 : decode code 545 = .ok (.goto 590, 3) := by decide +kernel
theorem dL_law_548 : decode code 548 = .ok (.aload_n 1, 1) := by decide +kernel
theorem dL_law_549 : decode code 549 = .ok (.aload_n 0, 1) := by decide +kernel
theorem dL_law_550 : decode code 550 = .ok (.iload_n 3, 1) := by decide +kernel
theorem dL_law_551 : decode code 551 = .ok (.iconst 1, 1) := by decide +kernel
theorem dL_law_552 : decode code 552 = .ok (.iadd, 1) := by decide +kernel
theorem dL_law_553 : decode code 553 = .ok (.iaload, 1) := by decide +kernel
theorem dL_law_554 : decode code 554 = .ok (.aload_n 0, 1) := by decide +kernel
theorem dL_law_555 : decode code 555 = .ok (.iload_n 3, 1) := by decide +kernel
theorem dL_law_556 : decode code 556 = .ok (.iconst 2, 1) := by decide +kernel
theorem dL_law_557 : decode code 557 = .ok (.iadd, 1) := by decide +kernel
theorem dL_law_558 : decode code 558 = .ok (.iaload, 1) := by decide +kernel
theorem dL_law_559 : decode code 559 = .ok (.invokevirtual 67, 3) := by decide +kernel
theorem dL_law_562 : decode code 562 = .ok (.pop, 1) := by decide +kernel
theorem dL_law_563 : decode code 563 = .ok (.aload_n 2, 1) := by decide +kernel
theorem dL_law_564 : decode code 564 = .ok (.aload_n 0, 1) := by decide +kernel
theorem dL_law_565 : decode code 565 = .ok (.iload_n 3, 1) := by decide +kernel
theorem dL_law_566 : decode code 566 = .ok (.iconst 1, 1) := by decide +kernel
theorem dL_law_567 : decode code 567 = .ok (.iadd, 1) := by decide +kernel
theorem dL_law_568 : decode code 568 = .ok (.iaload, 1) := by decide +kernel
theorem dL_law_569 : decode code 569 = .ok (.aload_n 0, 1) := by decide +kernel
theorem dL_law_570 : decode code 570 = .ok (.iload_n 3, 1) := by decide +kernel
theorem dL_law_571 : decode code 571 = .ok (.iconst 2, 1) := by decide +kernel
theorem dL_law_572 : decode code 572 = .ok (.iadd, 1) := by decide +kernel
theorem dL_law_573 : decode code 573 = .ok (.iaload, 1) := by decide +kernel
theorem dL_law_574 : decode code 574 = .ok (.invokevirtual 70, 3) := by decide +kernel
theorem dL_law_577 : decode code 577 = .ok (.pop, 1) := by decide +kernel
theorem dL_law_578 : decode code 578 = .ok (.goto 557, 3) := by decide +kernel
theorem dL_law_581 : decode code 581 = .ok (.aload_n 1, 1) := by decide +kernel
theorem dL_law_582 : decode code 582 = .ok (.aload_n 0, 1) := by decide +kernel
theorem dL_law_583 : decode code 583 = .ok (.iload_n 3, 1) := by decide +kernel
theorem dL_law_584 : decode code 584 = .ok (.iconst 1, 1) := by decide +kernel
theorem dL_law_585 : decode code 585 = .ok (.iadd, 1) := by decide +kernel
theorem dL_law_586 : decode code 586 = .ok (.iaload, 1) := by decide +kernel
theorem dL_law_587 : decode code 587 = .ok (.aload_n 0, 1) := by decide +kernel
theorem dL_law_588 : decode code 588 = .ok (.iload_n 3, 1) := by decide +kernel
theorem dL_law_589 : decode code 589 = .ok (.iconst 2, 1) := by decide +kernel
theorem dL_law_590 : decode code 590 = .ok (.iadd, 1) := by decide +kernel
theorem dL_law_591 : decode code 591 = .ok (.iaload, 1) := by decide +kernel
theorem dL_law_592 : decode code 592 = .ok (.aload_n 0, 1) := by decide +kernel
theorem dL_law_593 : decode code 593 = .ok (.iload_n 3, 1) := by decide +kernel
theorem dL_law_594 : decode code 594 = .ok (.iconst 3, 1) := by decide +kernel
theorem dL_law_595 : decode code 595 = .ok (.iadd, 1) := by decide +kernel
theorem dL_law_596 : decode code 596 = .ok (.iaload, 1) := by decide +kernel
theorem dL_law_597 : decode code 597 = .ok (.invokevirtual 71, 3) := by decide +kernel
theorem dL_law_600 : decode code 600 = .ok (.pop, 1) := by decide +kernel
theorem dL_law_601 : decode code 601 = .ok (.aload_n 2, 1) := by decide +kernel
theorem dL_law_602 : decode code 602 = .ok (.aload_n 0, 1) := by decide +kernel
theorem dL_law_603 : decode code 603 = .ok (.iload_n 3, 1) := by decide +kernel
theorem dL_law_604 : decode code 604 = .ok (.iconst 1, 1) := by decide +kernel
theorem dL_law_605 : decode code 605 = .ok (.iadd, 1) := by decide +kernel
theorem dL_law_606 : decode code 606 = .ok (.iaload, 1) := by decide +kernel
theorem dL_law_607 : decode code 607 = .ok (.aload_n 0, 1) := by decide +kernel
theorem dL_law_608 : decode code 608 = .ok (.iload_n 3, 1) := by decide +kernel
theorem dL_law_609 : decode code 609 = .ok (.iconst 2, 1) := by decide +kernel
theorem dL_law_610 : decode code 610 = .ok (.iadd, 1) := by decide +kernel
theorem dL_law_611 : decode code 611 = .ok (.iaload, 1) := by decide +kernel
theorem dL_law_612 : decode code 612 = .ok (.aload_n 0, 1) := by decide +kernel
theorem dL_law_613 : decode code 613 = .ok (.iload_n 3, 1) := by decide +kernel
theorem dL_law_614 : decode code 614 = .ok (.iconst 3, 1) := by decide +kernel
theorem dL_law_615 : decode code 615 = .ok (.iadd, 1) := by decide +kernel
theorem dL_law_616 : decode code 616 = .ok (.iaload, 1) := by decide +kernel
theorem dL_law_617 : decode code 617 = .ok (.invokevirtual 74, 3) := by decide +kernel
theorem dL_law_620 : decode code 620 = .ok (.pop, 1) := by decide +kernel
theorem dL_law_621 : decode code 621 = .ok (.goto 514, 3) := by decide +kernel
theorem dL_law_624 : decode code 624 = .ok (.aload_n 1, 1) := by decide +kernel
theorem dL_law_625 : decode code 625 = .ok (.aload_n 0, 1) := by decide +kernel
theorem dL_law_626 : decode code 626 = .ok (.iload_n 3, 1) := by decide +kernel
theorem dL_law_627 : decode code 627 = .ok (.iconst 1, 1) := by decide +kernel
theorem dL_law_628 : decode code 628 = .ok (.iadd, 1) := by decide +kernel
theorem dL_law_629 : decode code 629 = .ok (.iaload, 1) := by decide +kernel
theorem dL_law_630 : decode code 630 = .ok (.aload_n 0, 1) := by decide +kernel
theorem dL_law_631 : decode code 631 = .ok (.iload_n 3, 1) := by decide +kernel
theorem dL_law_632 : decode code 632 = .ok (.iconst 2, 1) := by decide +kernel
theorem dL_law_633 : decode code 633 = .ok (.iadd, 1) := by decide +kernel
theorem dL_law_634 : decode code 634 = .ok (.iaload, 1) := by decide +kernel
theorem dL_law_635 : decode code 635 = .ok (.invokevirtual 75, 3) := by decide +kernel
theorem dL_law_638 : decode code 638 = .ok (.pop, 1) := by decide +kernel
theorem dL_law_639 : decode code 639 = .ok (.aload_n 2, 1) := by decide +kernel
theorem dL_law_640 : decode code 640 = .ok (.aload_n 0, 1) := by decide +kernel
theorem dL_law_641 : decode code 641 = .ok (.iload_n 3, 1) := by decide +kernel
theorem dL_law_642 : decode code 642 = .ok (.iconst 1, 1) := by decide +kernel
theorem dL_law_643 : decode code 643 = .ok (.iadd, 1) := by decide +kernel
theorem dL_law_644 : decode code 644 = .ok (.iaload, 1) := by decide +kernel
theorem dL_law_645 : decode code 645 = .ok (.aload_n 0, 1) := by decide +kernel
theorem dL_law_646 : decode code 646 = .ok (.iload_n 3, 1) := by decide +kernel
theorem dL_law_647 : decode code 647 = .ok (.iconst 2, 1) := by decide +kernel
theorem dL_law_648 : decode code 648 = .ok (.iadd, 1) := by decide +kernel
theorem dL_law_649 : decode code 649 = .ok (.iaload, 1) := by decide +kernel
theorem dL_law_650 : decode code 650 = .ok (.invokevirtual 78, 3) := by decide +kernel
theorem dL_law_653 : decode code 653 = .ok (.pop, 1) := by decide +kernel
theorem dL_law_654 : decode code 654 = .ok (.goto 481, 3) := by decide +kernel
theorem dL_law_657 : decode code 657 = .ok (.aload_n 1, 1) := by decide +kernel
theorem dL_law_658 : decode code 658 = .ok (.aload_n 0, 1) := by decide +kernel
theorem dL_law_659 : decode code 659 = .ok (.iload_n 3, 1) := by decide +kernel
theorem dL_law_660 : decode code 660 = .ok (.iconst 1, 1) := by decide +kernel
theorem dL_law_661 : decode code 661 = .ok (.iadd, 1) := by decide +kernel
theorem dL_law_662 : decode code 662 = .ok (.iaload, 1) := by decide +kernel
theorem dL_law_663 : decode code 663 = .ok (.aload_n 0, 1) := by decide +kernel
theorem dL_law_664 : decode code 664 = .ok (.iload_n 3, 1) := by decide +kernel
theorem dL_law_665 : decode code 665 = .ok (.iconst 2, 1) := by decide +kernel
theorem dL_law_666 : decode code 666 = .ok (.iadd, 1) := by decide +kernel
theorem dL_law_667 : decode code 667 = .ok (.iaload, 1) := by decide +kernel
theorem dL_law_668 : decode code 668 = .ok (.invokevirtual 79, 3) := by decide +kernel
theorem dL_law_671 : decode code 671 = .ok (.pop, 1) := by decide +kernel
theorem dL_law_672 : decode code 672 = .ok (.aload_n 2, 1) := by decide +kernel
theorem dL_law_673 : decode code 673 = .ok (.aload_n 0, 1) := by decide +kernel
theorem dL_law_674 : decode code 674 = .ok (.iload_n 3, 1) := by decide +kernel
theorem dL_law_675 : decode code 675 = .ok (.iconst 1, 1) := by decide +kernel
theorem dL_law_676 : decode code 676 = .ok (.iadd, 1) := by decide +kernel
theorem dL_law_677 : decode code 677 = .ok (.iaload, 1) := by decide +kernel
theorem dL_law_678 : decode code 678 = .ok (.aload_n 0, 1) := by decide +kernel
theorem dL_law_679 : decode code 679 = .ok (.iload_n 3, 1) := by decide +kernel
theorem dL_law_680 : decode code 680 = .ok (.iconst 2, 1) := by decide +kernel
theorem dL_law_681 : decode code 681 = .ok (.iadd, 1) := by decide +kernel
theorem dL_law_682 : decode code 682 = .ok (.iaload, 1) := by decide +kernel
theorem dL_law_683 : decode code 683 = .ok (.invokevirtual 82, 3) := by decide +kernel
theorem dL_law_686 : decode code 686 = .ok (.pop, 1) := by decide +kernel
theorem dL_law_687 : decode code 687 = .ok (.goto 448, 3) := by decide +kernel
theorem dL_law_690 : decode code 690 = .ok (.aload_n 1, 1) := by decide +kernel
theorem dL_law_691 : decode code 691 = .ok (.aload_n 0, 1) := by decide +kernel
theorem dL_law_692 : decode code 692 = .ok (.iload_n 3, 1) := by decide +kernel
theorem dL_law_693 : decode code 693 = .ok (.iconst 1, 1) := by decide +kernel
theorem dL_law_694 : decode code 694 = .ok (.iadd, 1) := by decide +kernel
theorem dL_law_695 : decode code 695 = .ok (.iaload, 1) := by decide +kernel
theorem dL_law_696 : decode code 696 = .ok (.invokevirtual 83, 3) := by decide +kernel
theorem dL_law_699 : decode code 699 = .ok (.pop, 1) := by decide +kernel
theorem dL_law_700 : decode code 700 = .ok (.aload_n 2, 1) := by decide +kernel
theorem dL_law_701 : decode code 701 = .ok (.aload_n 0, 1) := by decide +kernel
theorem dL_law_702 : decode code 702 = .ok (.iload_n 3, 1) := by decide +kernel
theorem dL_law_703 : decode code 703 = .ok (.iconst 1, 1) := by decide +kernel
theorem dL_law_704 : decode code 704 = .ok (.iadd, 1) := by decide +kernel
theorem dL_law_705 : decode code 705 = .ok (.iaload, 1) := by decide +kernel
theorem dL_law_706 : decode code 706 = .ok (.invokevirtual 86, 3) := by decide +kernel
theorem dL_law_709 : decode code 709 = .ok (.pop, 1) := by decide +kernel
theorem dL_law_710 : decode code 710 = .ok (.goto 425, 3) := by decide +kernel
theorem dL_law_713 : decode code 713 = .ok (.aload_n 1, 1) := by decide +kernel
theorem dL_law_714 : decode code 714 = .ok (.aload_n 0, 1) := by decide +kernel
theorem dL_law_715 : decode code 715 = .ok (.iload_n 3, 1) := by decide +kernel
theorem dL_law_716 : decode code 716 = .ok (.iconst 1, 1) := by decide +kernel
theorem dL_law_717 : decode code 717 = .ok (.iadd, 1) := by decide +kernel
theorem dL_law_718 : decode code 718 = .ok (.iaload, 1) := by decide +kernel
theorem dL_law_719 : decode code 719 = .ok (.aload_n 0, 1) := by decide +kernel
theorem dL_law_720 : decode code 720 = .ok (.iload_n 3, 1) := by decide +kernel
theorem dL_law_721 : decode code 721 = .ok (.iconst 2, 1) := by decide +kernel
theorem dL_law_722 : decode code 722 = .ok (.iadd, 1) := by decide +kernel
theorem dL_law_723 : decode code 723 = .ok (.iaload, 1) := by decide +kernel
theorem dL_law_724 : decode code 724 = .ok (.aload_n 0, 1) := by decide +kernel
theorem dL_law_725 : decode code 725 = .ok (.iload_n 3, 1) := by decide +kernel
theorem dL_law_726 : decode code 726 = .ok (.iconst 3, 1) := by decide +kernel
theorem dL_law_727 : decode code 727 = .ok (.iadd, 1) := by decide +kernel
theorem dL_law_728 : decode code 728 = .ok (.iaload, 1) := by decide +kernel
theorem dL_law_729 : decode code 729 = .ok (.invokevirtual 87, 3) := by decide +kernel
theorem dL_law_732 : decode code 732 = .ok (.pop, 1) := by decide +kernel
theorem dL_law_733 : decode code 733 = .ok (.aload_n 2, 1) := by decide +kernel
theorem dL_law_734 : decode code 734 = .ok (.aload_n 0, 1) := by decide +kernel
theorem dL_law_735 : decode code 735 = .ok (.iload_n 3, 1) := by decide +kernel
theorem dL_law_736 : decode code 736 = .ok (.iconst 1, 1) := by decide +kernel
theorem dL_law_737 : decode code 737 = .ok (.iadd, 1) := by decide +kernel
theorem dL_law_738 : decode code 738 = .ok (.iaload, 1) := by decide +kernel
theorem dL_law_739 : decode code 739 = .ok (.aload_n 0, 1) := by decide +kernel
theorem dL_law_740 : decode code 740 = .ok (.iload_n 3, 1) := by decide +kernel
theorem dL_law_741 : decode code 741 = .ok (.iconst 2, 1) := by decide +kernel
theorem dL_law_742 : decode code 742 = .ok (.iadd, 1) := by decide +kernel
theorem dL_law_743 : decode code 743 = .ok (.iaload, 1) := by decide +kernel
theorem dL_law_744 : decode code 744 = .ok (.aload_n 0, 1) := by decide +kernel
theorem dL_law_745 : decode code 745 = .ok (.iload_n 3, 1) := by decide +kernel
theorem dL_law_746 : decode code 746 = .ok (.iconst 3, 1) := by decide +kernel
theorem dL_law_747 : decode code 747 = .ok (.iadd, 1) := by decide +kernel
theorem dL_law_748 : decode code 748 = .ok (.iaload, 1) := by decide +kernel
theorem dL_law_749 : decode code 749 = .ok (.invokevirtual 90, 3) := by decide +kernel
theorem dL_law_752 : decode code 752 = .ok (.pop, 1) := by decide +kernel
theorem dL_law_753 : decode code 753 = .ok (.goto 382, 3) := by decide +kernel
theorem dL_law_756 : decode code 756 = .ok (.aload_n 1, 1) := by decide +kernel
theorem dL_law_757 : decode code 757 = .ok (.aload_n 0, 1) := by decide +kernel
theorem dL_law_758 : decode code 758 = .ok (.iload_n 3, 1) := by decide +kernel
theorem dL_law_759 : decode code 759 = .ok (.iconst 1, 1) := by decide +kernel
theorem dL_law_760 : decode code 760 = .ok (.iadd, 1) := by decide +kernel
theorem dL_law_761 : decode code 761 = .ok (.iaload, 1) := by decide +kernel
theorem dL_law_762 : decode code 762 = .ok (.invokevirtual 91, 3) := by decide +kernel
theorem dL_law_765 : decode code 765 = .ok (.pop, 1) := by decide +kernel
theorem dL_law_766 : decode code 766 = .ok (.aload_n 2, 1) := by decide +kernel
theorem dL_law_767 : decode code 767 = .ok (.aload_n 0, 1) := by decide +kernel
theorem dL_law_768 : decode code 768 = .ok (.iload_n 3, 1) := by decide +kernel
theorem dL_law_769 : decode code 769 = .ok (.iconst 1, 1) := by decide +kernel
theorem dL_law_770 : decode code 770 = .ok (.iadd, 1) := by decide +kernel
theorem dL_law_771 : decode code 771 = .ok (.iaload, 1) := by decide +kernel
theorem dL_law_772 : decode code 772 = .ok (.invokevirtual 94, 3) := by decide +kernel
theorem dL_law_775 : decode code 775 = .ok (.pop, 1) := by decide +kernel
theorem dL_law_776 : decode code 776 = .ok (.goto 359, 3) := by decide +kernel
theorem dL_law_779 : decode code 779 = .ok (.aload_n 1, 1) := by decide +kernel
theorem dL_law_780 : decode code 780 = .ok (.aload_n 0, 1) := by decide +kernel
theorem dL_law_781 : decode code 781 = .ok (.iload_n 3, 1) := by decide +kernel
theorem dL_law_782 : decode code 782 = .ok (.iconst 1, 1) := by decide +kernel
theorem dL_law_783 : decode code 783 = .ok (.iadd, 1) := by decide +kernel
theorem dL_law_784 : decode code 784 = .ok (.iaload, 1) := by decide +kernel
theorem dL_law_785 : decode code 785 = .ok (.aload_n 0, 1) := by decide +kernel
theorem dL_law_786 : decode code 786 = .ok (.iload_n 3, 1) := by decide +kernel
theorem dL_law_787 : decode code 787 = .ok (.iconst 2, 1) := by decide +kernel
theorem dL_law_788 : decode code 788 = .ok (.iadd, 1) := by decide +kernel
theorem dL_law_789 : decode code 789 = .ok (.iaload, 1) := by decide +kernel
theorem dL_law_790 : decode code 790 = .ok (.invokevirtual 95, 3) := by decide +kernel
theorem dL_law_793 : decode code 793 = .ok (.pop, 1) := by decide +kernel
theorem dL_law_794 : decode code 794 = .ok (.aload_n 2, 1) := by decide +kernel
theorem dL_law_795 : decode code 795 = .ok (.aload_n 0, 1) := by decide +kernel
theorem dL_law_796 : decode code 796 = .ok (.iload_n 3, 1) := by decide +kernel
theorem dL_law_797 : decode code 797 = .ok (.iconst 1, 1) := by decide +kernel
theorem dL_law_798 : decode code 798 = .ok (.iadd, 1) := by decide +kernel
theorem dL_law_799 : decode code 799 = .ok (.iaload, 1) := by decide +kernel
theorem dL_law_800 : decode code 800 = .ok (.aload_n 0, 1) := by decide +kernel
theorem dL_law_801 : decode code 801 = .ok (.iload_n 3, 1) := by decide +kernel
theorem dL_law_802 : decode code 802 = .ok (.iconst 2, 1) := by decide +kernel
theorem dL_law_803 : decode code 803 = .ok (.iadd, 1) := by decide +kernel
theorem dL_law_804 : decode code 804 = .ok (.iaload, 1) := by decide +kernel
theorem dL_law_805 : decode code 805 = .ok (.invokevirtual 98, 3) := by decide +kernel
theorem dL_law_808 : decode code 808 = .ok (.pop, 1) := by decide +kernel
theorem dL_law_809 : decode code 809 = .ok (.goto 326, 3) := by decide +kernel
theorem dL_law_812 : decode code 812 = .ok (.aload_n 1, 1) := by decide +kernel
theorem dL_law_813 : decode code 813 = .ok (.aload_n 0, 1) := by decide +kernel
theorem dL_law_814 : decode code 814 = .ok (.iload_n 3, 1) := by decide +kernel
theorem dL_law_815 : decode code 815 = .ok (.iconst 1, 1) := by decide +kernel
theorem dL_law_816 : decode code 816 = .ok (.iadd, 1) := by decide +kernel
theorem dL_law_817 : decode code 817 = .ok (.iaload, 1) := by decide +kernel
theorem dL_law_818 : decode code 818 = .ok (.aload_n 0, 1) := by decide +kernel
theorem dL_law_819 : decode code 819 = .ok (.iload_n 3, 1) := by decide +kernel
theorem dL_law_820 : decode code 820 = .ok (.iconst 2, 1) := by decide +kernel
theorem dL_law_821 : decode code 821 = .ok (.iadd, 1) := by decide +kernel
theorem dL_law_822 : decode code 822 = .ok (.iaload, 1) := by decide +kernel
theorem dL_law_823 : decode code 823 = .ok (.invokevirtual 99, 3) := by decide +kernel
theorem dL_law_826 : decode code 826 = .ok (.pop, 1) := by decide +kernel
theorem dL_law_827 : decode code 827 = .ok (.aload_n 2, 1) := by decide +kernel
theorem dL_law_828 : decode code 828 = .ok (.aload_n 0, 1) := by decide +kernel
theorem dL_law_829 : decode code 829 = .ok (.iload_n 3, 1) := by decide +kernel
theorem dL_law_830 : decode code 830 = .ok (.iconst 1, 1) := by decide +kernel
theorem dL_law_831 : decode code 831 = .ok (.iadd, 1) := by decide +kernel
theorem dL_law_832 : decode code 832 = .ok (.iaload, 1) := by decide +kernel
theorem dL_law_833 : decode code 833 = .ok (.aload_n 0, 1) := by decide +kernel
theorem dL_law_834 : decode code 834 = .ok (.iload_n 3, 1) := by decide +kernel
theorem dL_law_835 : decode code 835 = .ok (.iconst 2, 1) := by decide +kernel
theorem dL_law_836 : decode code 836 = .ok (.iadd, 1) := by decide +kernel
theorem dL_law_837 : decode code 837 = .ok (.iaload, 1) := by decide +kernel
theorem dL_law_838 : decode code 838 = .ok (.invokevirtual 102, 3) := by decide +kernel
theorem dL_law_841 : decode code 841 = .ok (.pop, 1) := by decide +kernel
theorem dL_law_842 : decode code 842 = .ok (.goto 293, 3) := by decide +kernel
theorem dL_law_845 : decode code 845 = .ok (.aload_n 1, 1) := by decide +kernel
theorem dL_law_846 : decode code 846 = .ok (.aload_n 0, 1) := by decide +kernel
theorem dL_law_847 : decode code 847 = .ok (.iload_n 3, 1) := by decide +kernel
theorem dL_law_848 : decode code 848 = .ok (.iconst 1, 1) := by decide +kernel
theorem dL_law_849 : decode code 849 = .ok (.iadd, 1) := by decide +kernel
theorem dL_law_850 : decode code 850 = .ok (.iaload, 1) := by decide +kernel
theorem dL_law_851 : decode code 851 = .ok (.aload_n 0, 1) := by decide +kernel
theorem dL_law_852 : decode code 852 = .ok (.iload_n 3, 1) := by decide +kernel
theorem dL_law_853 : decode code 853 = .ok (.iconst 2, 1) := by decide +kernel
theorem dL_law_854 : decode code 854 = .ok (.iadd, 1) := by decide +kernel
theorem dL_law_855 : decode code 855 = .ok (.iaload, 1) := by decide +kernel
theorem dL_law_856 : decode code 856 = .ok (.invokevirtual 103, 3) := by decide +kernel
theorem dL_law_859 : decode code 859 = .ok (.pop, 1) := by decide +kernel
theorem dL_law_860 : decode code 860 = .ok (.aload_n 2, 1) := by decide +kernel
theorem dL_law_861 : decode code 861 = .ok (.aload_n 0, 1) := by decide +kernel
theorem dL_law_862 : decode code 862 = .ok (.iload_n 3, 1) := by decide +kernel
theorem dL_law_863 : decode code 863 = .ok (.iconst 1, 1) := by decide +kernel
theorem dL_law_864 : decode code 864 = .ok (.iadd, 1) := by decide +kernel
theorem dL_law_865 : decode code 865 = .ok (.iaload, 1) := by decide +kernel
theorem dL_law_866 : decode code 866 = .ok (.aload_n 0, 1) := by decide +kernel
theorem dL_law_867 : decode code 867 = .ok (.iload_n 3, 1) := by decide +kernel
theorem dL_law_868 : decode code 868 = .ok (.iconst 2, 1) := by decide +kernel
theorem dL_law_869 : decode code 869 = .ok (.iadd, 1) := by decide +kernel
theorem dL_law_870 : decode code 870 = .ok (.iaload, 1) := by decide +kernel
theorem dL_law_871 : decode code 871 = .ok (.invokevirtual 106, 3) := by decide +kernel
theorem dL_law_874 : decode code 874 = .ok (.pop, 1) := by decide +kernel
theorem dL_law_875 : decode code 875 = .ok (.goto 260, 3) := by decide +kernel
theorem dL_law_878 : decode code 878 = .ok (.aload_n 1, 1) := by decide +kernel
theorem dL_law_879 : decode code 879 = .ok (.aload_n 0, 1) := by decide +kernel
theorem dL_law_880 : decode code 880 = .ok (.iload_n 3, 1) := by decide +kernel
theorem dL_law_881 : decode code 881 = .ok (.iconst 1, 1) := by decide +kernel
theorem dL_law_882 : decode code 882 = .ok (.iadd, 1) := by decide +kernel
theorem dL_law_883 : decode code 883 = .ok (.iaload, 1) := by decide +kernel
theorem dL_law_884 : decode code 884 = .ok (.aload_n 0, 1) := by decide +kernel
theorem dL_law_885 : decode code 885 = .ok (.iload_n 3, 1) := by decide +kernel
theorem dL_law_886 : decode code 886 = .ok (.iconst 2, 1) := by decide +kernel
theorem dL_law_887 : decode code 887 = .ok (.iadd, 1) := by decide +kernel
theorem dL_law_888 : decode code 888 = .ok (.iaload, 1) := by decide +kernel
theorem dL_law_889 : decode code 889 = .ok (.aload_n 0, 1) := by decide +kernel
theorem dL_law_890 : decode code 890 = .ok (.iload_n 3, 1) := by decide +kernel
theorem dL_law_891 : decode code 891 = .ok (.iconst 3, 1) := by decide +kernel
theorem dL_law_892 : decode code 892 = .ok (.iadd, 1) := by decide +kernel
theorem dL_law_893 : decode code 893 = .ok (.iaload, 1) := by decide +kernel
theorem dL_law_894 : decode code 894 = .ok (.invokevirtual 107, 3) := by decide +kernel
theorem dL_law_897 : decode code 897 = .ok (.pop, 1) := by decide +kernel
theorem dL_law_898 : decode code 898 = .ok (.aload_n 2, 1) := by decide +kernel
theorem dL_law_899 : decode code 899 = .ok (.aload_n 0, 1) := by decide +kernel
theorem dL_law_900 : decode code 900 = .ok (.iload_n 3, 1) := by decide +kernel
theorem dL_law_901 : decode code 901 = .ok (.iconst 1, 1) := by decide +kernel
theorem dL_law_902 : decode code 902 = .ok (.iadd, 1) := by decide +kernel
theorem dL_law_903 : decode code 903 = .ok (.iaload, 1) := by decide +kernel
theorem dL_law_904 : decode code 904 = .ok (.aload_n 0, 1) := by decide +kernel
theorem dL_law_905 : decode code 905 = .ok (.iload_n 3, 1) := by decide +kernel
theorem dL_law_906 : decode code 906 = .ok (.iconst 2, 1) := by decide +kernel
theorem dL_law_907 : decode code 907 = .ok (.iadd, 1) := by decide +kernel
theorem dL_law_908 : decode code 908 = .ok (.iaload, 1) := by decide +kernel
theorem dL_law_909 : decode code 909 = .ok (.aload_n 0, 1) := by decide +kernel
theorem dL_law_910 : decode code 910 = .ok (.iload_n 3, 1) := by decide +kernel
theorem dL_law_911 : decode code 911 = .ok (.iconst 3, 1) := by decide +kernel
theorem dL_law_912 : decode code 912 = .ok (.iadd, 1) := by decide +kernel
theorem dL_law_913 : decode code 913 = .ok (.iaload, 1) := by decide +kernel
theorem dL_law_914 : decode code 914 = .ok (.invokevirtual 110, 3) := by decide +kernel
theorem dL_law_917 : decode code 917 = .ok (.pop, 1) := by decide +kernel
theorem dL_law_918 : decode code 918 = .ok (.goto 217, 3) := by decide +kernel
theorem dL_law_921 : decode code 921 = .ok (.aload_n 1, 1) := by decide +kernel
theorem dL_law_922 : decode code 922 = .ok (.aload_n 0, 1) := by decide +kernel
theorem dL_law_923 : decode code 923 = .ok (.iload_n 3, 1) := by decide +kernel
theorem dL_law_924 : decode code 924 = .ok (.iconst 1, 1) := by decide +kernel
theorem dL_law_925 : decode code 925 = .ok (.iadd, 1) := by decide +kernel
theorem dL_law_926 : decode code 926 = .ok (.iaload, 1) := by decide +kernel
theorem dL_law_927 : decode code 927 = .ok (.aload_n 0, 1) := by decide +kernel
theorem dL_law_928 : decode code 928 = .ok (.iload_n 3, 1) := by decide +kernel
theorem dL_law_929 : decode code 929 = .ok (.iconst 2, 1) := by decide +kernel
theorem dL_law_930 : decode code 930 = .ok (.iadd, 1) := by decide +kernel
theorem dL_law_931 : decode code 931 = .ok (.iaload, 1) := by decide +kernel
theorem dL_law_932 : decode code 932 = .ok (.aload_n 0, 1) := by decide +kernel
theorem dL_law_933 : decode code 933 = .ok (.iload_n 3, 1) := by decide +kernel
theorem dL_law_934 : decode code 934 = .ok (.iconst 3, 1) := by decide +kernel
theorem dL_law_935 : decode code 935 = .ok (.iadd, 1) := by decide +kernel
theorem dL_law_936 : decode code 936 = .ok (.iaload, 1) := by decide +kernel
theorem dL_law_937 : decode code 937 = .ok (.invokevirtual 111, 3) := by decide +kernel
theorem dL_law_940 : decode code 940 = .ok (.pop, 1) := by decide +kernel
theorem dL_law_941 : decode code 941 = .ok (.aload_n 2, 1) := by decide +kernel
theorem dL_law_942 : decode code 942 = .ok (.aload_n 0, 1) := by decide +kernel
theorem dL_law_943 : decode code 943 = .ok (.iload_n 3, 1) := by decide +kernel
theorem dL_law_944 : decode code 944 = .ok (.iconst 1, 1) := by decide +kernel
theorem dL_law_945 : decode code 945 = .ok (.iadd, 1) := by decide +kernel
theorem dL_law_946 : decode code 946 = .ok (.iaload, 1) := by decide +kernel
theorem dL_law_947 : decode code 947 = .ok (.aload_n 0, 1) := by decide +kernel
theorem dL_law_948 : decode code 948 = .ok (.iload_n 3, 1) := by decide +kernel
theorem dL_law_949 : decode code 949 = .ok (.iconst 2, 1) := by decide +kernel
theorem dL_law_950 : decode code 950 = .ok (.iadd, 1) := by decide +kernel
theorem dL_law_951 : decode code 951 = .ok (.iaload, 1) := by decide +kernel
theorem dL_law_952 : decode code 952 = .ok (.aload_n 0, 1) := by decide +kernel
theorem dL_law_953 : decode code 953 = .ok (.iload_n 3, 1) := by decide +kernel
theorem dL_law_954 : decode code 954 = .ok (.iconst 3, 1) := by decide +kernel
theorem dL_law_955 : decode code 955 = .ok (.iadd, 1) := by decide +kernel
theorem dL_law_956 : decode code 956 = .ok (.iaload, 1) := by decide +kernel
theorem dL_law_957 : decode code 957 = .ok (.invokevirtual 114, 3) := by decide +kernel
theorem dL_law_960 : decode code 960 = .ok (.pop, 1) := by decide +kernel
theorem dL_law_961 : decode code 961 = .ok (.goto 174, 3) := by decide +kernel
theorem dL_law_964 : decode code 964 = .ok (.aload_n 1, 1) := by decide +kernel
theorem dL_law_965 : decode code 965 = .ok (.aload_n 0, 1) := by decide +kernel
theorem dL_law_966 : decode code 966 = .ok (.iload_n 3, 1) := by decide +kernel
theorem dL_law_967 : decode code 967 = .ok (.iconst 1, 1) := by decide +kernel
theorem dL_law_968 : decode code 968 = .ok (.iadd, 1) := by decide +kernel
theorem dL_law_969 : decode code 969 = .ok (.iaload, 1) := by decide +kernel
theorem dL_law_970 : decode code 970 = .ok (.aload_n 0, 1) := by decide +kernel
theorem dL_law_971 : decode code 971 = .ok (.iload_n 3, 1) := by decide +kernel
theorem dL_law_972 : decode code 972 = .ok (.iconst 2, 1) := by decide +kernel
theorem dL_law_973 : decode code 973 = .ok (.iadd, 1) := by decide +kernel
theorem dL_law_974 : decode code 974 = .ok (.iaload, 1) := by decide +kernel
theorem dL_law_975 : decode code 975 = .ok (.aload_n 0, 1) := by decide +kernel
theorem dL_law_976 : decode code 976 = .ok (.iload_n 3, 1) := by decide +kernel
theorem dL_law_977 : decode code 977 = .ok (.iconst 3, 1) := by decide +kernel
theorem dL_law_978 : decode code 978 = .ok (.iadd, 1) := by decide +kernel
theorem dL_law_979 : decode code 979 = .ok (.iaload, 1) := by decide +kernel
theorem dL_law_980 : decode code 980 = .ok (.invokevirtual 115, 3) := by decide +kernel
theorem dL_law_983 : decode code 983 = .ok (.pop, 1) := by decide +kernel
theorem dL_law_984 : decode code 984 = .ok (.aload_n 2, 1) := by decide +kernel
theorem dL_law_985 : decode code 985 = .ok (.aload_n 0, 1) := by decide +kernel
theorem dL_law_986 : decode code 986 = .ok (.iload_n 3, 1) := by decide +kernel
theorem dL_law_987 : decode code 987 = .ok (.iconst 1, 1) := by decide +kernel
theorem dL_law_988 : decode code 988 = .ok (.iadd, 1) := by decide +kernel
theorem dL_law_989 : decode code 989 = .ok (.iaload, 1) := by decide +kernel
theorem dL_law_990 : decode code 990 = .ok (.aload_n 0, 1) := by decide +kernel
theorem dL_law_991 : decode code 991 = .ok (.iload_n 3, 1) := by decide +kernel
theorem dL_law_992 : decode code 992 = .ok (.iconst 2, 1) := by decide +kernel
theorem dL_law_993 : decode code 993 = .ok (.iadd, 1) := by decide +kernel
theorem dL_law_994 : decode code 994 = .ok (.iaload, 1) := by decide +kernel
theorem dL_law_995 : decode code 995 = .ok (.aload_n 0, 1) := by decide +kernel
theorem dL_law_996 : decode code 996 = .ok (.iload_n 3, 1) := by decide +kernel
theorem dL_law_997 : decode code 997 = .ok (.iconst 3, 1) := by decide +kernel
theorem dL_law_998 : decode code 998 = .ok (.iadd, 1) := by decide +kernel
theorem dL_law_999 : decode code 999 = .ok (.iaload, 1) := by decide +kernel
theorem dL_law_1000 : decode code 1000 = .ok (.invokevirtual 118, 3) := by decide +kernel
theorem dL_law_1003 : decode code 1003 = .ok (.pop, 1) := by decide +kernel
theorem dL_law_1004 : decode code 1004 = .ok (.goto 131, 3) := by decide +kernel
theorem dL_law_1007 : decode code 1007 = .ok (.aload_n 1, 1) := by decide +kernel
theorem dL_law_1008 : decode code 1008 = .ok (.aload_n 0, 1) := by decide +kernel
theorem dL_law_1009 : decode code 1009 = .ok (.iload_n 3, 1) := by decide +kernel
theorem dL_law_1010 : decode code 1010 = .ok (.iconst 1, 1) := by decide +kernel
theorem dL_law_1011 : decode code 1011 = .ok (.iadd, 1) := by decide +kernel
theorem dL_law_1012 : decode code 1012 = .ok (.iaload, 1) := by decide +kernel
theorem dL_law_1013 : decode code 1013 = .ok (.invokevirtual 119, 3) := by decide +kernel
theorem dL_law_1016 : decode code 1016 = .ok (.pop, 1) := by decide +kernel
theorem dL_law_1017 : decode code 1017 = .ok (.aload_n 2, 1) := by decide +kernel
theorem dL_law_1018 : decode code 1018 = .ok (.aload_n 0, 1) := by decide +kernel
theorem dL_law_1019 : decode code 1019 = .ok (.iload_n 3, 1) := by decide +kernel
theorem dL_law_1020 : decode code 1020 = .ok (.iconst 1, 1) := by decide +kernel
theorem dL_law_1021 : decode code 1021 = .ok (.iadd, 1) := by decide +kernel
theorem dL_law_1022 : decode code 1022 = .ok (.iaload, 1) := by decide +kernel
theorem dL_law_1023 : decode code 1023 = .ok (.invokevirtual 122, 3) := by decide +kernel
theorem dL_law_1026 : decode code 1026 = .ok (.pop, 1) := by decide +kernel
theorem dL_law_1027 : decode code 1027 = .ok (.goto 108, 3) := by decide +kernel
theorem dL_law_1030 : decode code 1030 = .ok (.aload_n 1, 1) := by decide +kernel
theorem dL_law_1031 : decode code 1031 = .ok (.aload_n 0, 1) := by decide +kernel
theorem dL_law_1032 : decode code 1032 = .ok (.iload_n 3, 1) := by decide +kernel
theorem dL_law_1033 : decode code 1033 = .ok (.iconst 1, 1) := by decide +kernel
theorem dL_law_1034 : decode code 1034 = .ok (.iadd, 1) := by decide +kernel
theorem dL_law_1035 : decode code 1035 = .ok (.iaload, 1) := by decide +kernel
theorem dL_law_1036 : decode code 1036 = .ok (.invokevirtual 123, 3) := by decide +kernel
theorem dL_law_1039 : decode code 1039 = .ok (.aload_n 2, 1) := by decide +kernel
theorem dL_law_1040 : decode code 1040 = .ok (.aload_n 0, 1) := by decide +kernel
theorem dL_law_1041 : decode code 1041 = .ok (.iload_n 3, 1) := by decide +kernel
theorem dL_law_1042 : decode code 1042 = .ok (.iconst 1, 1) := by decide +kernel
theorem dL_law_1043 : decode code 1043 = .ok (.iadd, 1) := by decide +kernel
theorem dL_law_1044 : decode code 1044 = .ok (.iaload, 1) := by decide +kernel
theorem dL_law_1045 : decode code 1045 = .ok (.invokevirtual 126, 3) := by decide +kernel
theorem dL_law_1048 : decode code 1048 = .ok (.if_icmp .eq 87, 3) := by decide +kernel
theorem dL_law_1051 : decode code 1051 = .ok (.iconst 0, 1) := by decide +kernel
theorem dL_law_1052 : decode code 1052 = .ok (.ireturn, 1) := by decide +kernel
theorem dL_law_1053 : decode code 1053 = .ok (.aload_n 1, 1) := by decide +kernel
theorem dL_law_1054 : decode code 1054 = .ok (.invokevirtual 127, 3) := by decide +kernel
theorem dL_law_1057 : decode code 1057 = .ok (.pop, 1) := by decide +kernel
theorem dL_law_1058 : decode code 1058 = .ok (.aload_n 2, 1) := by decide +kernel
theorem dL_law_1059 : decode code 1059 = .ok (.invokevirtual 131, 3) := by decide +kernel
theorem dL_law_1062 : decode code 1062 = .ok (.pop, 1) := by decide +kernel
theorem dL_law_1063 : decode code 1063 = .ok (.goto 72, 3) := by decide +kernel
theorem dL_law_1066 : decode code 1066 = .ok (.aload_n 1, 1) := by decide +kernel
theorem dL_law_1067 : decode code 1067 = .ok (.invokevirtual 132, 3) := by decide +kernel
theorem dL_law_1070 : decode code 1070 = .ok (.pop, 1) := by decide +kernel
theorem dL_law_1071 : decode code 1071 = .ok (.aload_n 2, 1) := by decide +kernel
theorem dL_law_1072 : decode code 1072 = .ok (.invokevirtual 136, 3) := by decide +kernel
theorem dL_law_1075 : decode code 1075 = .ok (.pop, 1) := by decide +kernel
theorem dL_law_1076 : decode code 1076 = .ok (.goto 59, 3) := by decide +kernel
theorem dL_law_1079 : decode code 1079 = .ok (.aload_n 1, 1) := by decide +kernel
theorem dL_law_1080 : decode code 1080 = .ok (.aload_n 0, 1) := by decide +kernel
theorem dL_law_1081 : decode code 1081 = .ok (.iload_n 3, 1) := by decide +kernel
theorem dL_law_1082 : decode code 1082 = .ok (.iconst 1, 1) := by decide +kernel
theorem dL_law_1083 : decode code 1083 = .ok (.iadd, 1) := by decide +kernel
theorem dL_law_1084 : decode code 1084 = .ok (.iaload, 1) := by decide +kernel
theorem dL_law_1085 : decode code 1085 = .ok (.aload_n 0, 1) := by decide +kernel
theorem dL_law_1086 : decode code 1086 = .ok (.iload_n 3, 1) := by decide +kernel
theorem dL_law_1087 : decode code 1087 = .ok (.iconst 2, 1) := by decide +kernel
theorem dL_law_1088 : decode code 1088 = .ok (.iadd, 1) := by decide +kernel
theorem dL_law_1089 : decode code 1089 = .ok (.iaload, 1) := by decide +kernel
theorem dL_law_1090 : decode code 1090 = .ok (.invokevirtual 137, 3) := by decide +kernel
theorem dL_law_1093 : decode code 1093 = .ok (.pop, 1) := by decide +kernel
theorem dL_law_1094 : decode code 1094 = .ok (.aload_n 2, 1) := by decide +kernel
theorem dL_law_1095 : decode code 1095 = .ok (.aload_n 0, 1) := by decide +kernel
theorem dL_law_1096 : decode code 1096 = .ok (.iload_n 3, 1) := by decide +kernel
theorem dL_law_1097 : decode code 1097 = .ok (.iconst 1, 1) := by decide +kernel
theorem dL_law_1098 : decode code 1098 = .ok (.iadd, 1) := by decide +kernel
theorem dL_law_1099 : decode code 1099 = .ok (.iaload, 1) := by decide +kernel
theorem dL_law_1100 : decode code 1100 = .ok (.aload_n 0, 1) := by decide +kernel
theorem dL_law_1101 : decode code 1101 = .ok (.iload_n 3, 1) := by decide +kernel
theorem dL_law_1102 : decode code 1102 = .ok (.iconst 2, 1) := by decide +kernel
theorem dL_law_1103 : decode code 1103 = .ok (.iadd, 1) := by decide +kernel
theorem dL_law_1104 : decode code 1104 = .ok (.iaload, 1) := by decide +kernel
theorem dL_law_1105 : decode code 1105 = .ok (.invokevirtual 140, 3) := by decide +kernel
theorem dL_law_1108 : decode code 1108 = .ok (.pop, 1) := by decide +kernel
theorem dL_law_1109 : decode code 1109 = .ok (.goto 26, 3) := by decide +kernel
theorem dL_law_1112 : decode code 1112 = .ok (.aload_n 1, 1) := by decide +kernel
theorem dL_law_1113 : decode code 1113 = .ok (.aload_n 0, 1) := by decide +kernel
theorem dL_law_1114 : decode code 1114 = .ok (.iload_n 3, 1) := by decide +kernel
theorem dL_law_1115 : decode code 1115 = .ok (.iconst 1, 1) := by decide +kernel
theorem dL_law_1116 : decode code 1116 = .ok (.iadd, 1) := by decide +kernel
theorem dL_law_1117 : decode code 1117 = .ok (.iaload, 1) := by decide +kernel
theorem dL_law_1118 : decode code 1118 = .ok (.invokevirtual 141, 3) := by decide +kernel
theorem dL_law_1121 : decode code 1121 = .ok (.pop, 1) := by decide +kernel
theorem dL_law_1122 : decode code 1122 = .ok (.aload_n 2, 1) := by decide +kernel
theorem dL_law_1123 : decode code 1123 = .ok (.aload_n 0, 1) := by decide +kernel
theorem dL_law_1124 : decode code 1124 = .ok (.iload_n 3, 1) := by decide +kernel
theorem dL_law_1125 : decode code 1125 = .ok (.iconst 1, 1) := by decide +kernel
theorem dL_law_1126 : decode code 1126 = .ok (.iadd, 1) := by decide +kernel
theorem dL_law_1127 : decode code 1127 = .ok (.iaload, 1) := by decide +kernel
theorem dL_law_1128 : decode code 1128 = .ok (.invokevirtual 144, 3) := by decide +kernel
theorem dL_law_1131 : decode code 1131 = .ok (.pop, 1) := by decide +kernel
theorem dL_law_1132 : decode code 1132 = .ok (.goto 3, 3) := by decide +kernel
theorem dL_law_1135 : decode code 1135 = .ok (.iinc 3 6, 3) := by decide +kernel
theorem dL_law_1138 : decode code 1138 = .ok (.goto (-1120), 3) := by decide +kernel
theorem dL_law_1141 : decode code 1141 = .ok (.iconst 1, 1) := by decide +kernel
theorem dL_law_1142 : decode code 1142 = .ok (.ireturn, 1) := by decide +kernel
section LLI
variable {xL : Nat} {xs : Nat → Int32} {kc ks pc q : Nat} {L : List (Option mm_V)} {st : List mm_V} {S1 S2 : List mm_C} {M1 M2 M' : mm_M}
theorem l_call1i {J1 : mm_J} {idx ci n d1 : Nat} {fs : List (Option (Option Nat))} (vs : List Int32) {stk : List mm_V} {r : Int32} (hg : mm_CV RL idx ci J1 n) (hS : S1[0]? = some (.inr (ci, fs))) (hd : decode code pc = .ok (.invokevirtual idx, 3)) (hstk : stk = (vs.map Sum.inl).reverse ++ .inr 0 :: st) (hn : vs.length = n) (hav : vs.length + 1 ≤ J1.2.2.1) (hst8 : st.length ≤ 8) (hd1 : d1 ≤ 1000) (hq : pc + 3 = q)
    (hm : mm_Meth J1 d1 0 0 (.inr 0 :: vs.map Sum.inl) S1 M1 (mm_Zi r S1 M')) (kk : ll_Go xL xs kc ks q L (.inl r :: st) S1 M' S2 M2) : ll_Go xL xs kc ks pc L stk S1 M1 S2 M2 := by
  refine l_call1 vs hg hS hd hstk hn hav hst8 hd1 hq hm ?_
  rintro r' S' M'' ⟨rfl, rfl, rfl⟩ _
  exact kk
theorem l_call2i {J1 : mm_J} {idx ci n d1 : Nat} {fs : List (Option (Option Nat))} (vs : List Int32) {stk : List mm_V} {r : Int32} (hg : mm_CV RL idx ci J1 n) (hS : S2[0]? = some (.inr (ci, fs))) (hd : decode code pc = .ok (.invokevirtual idx, 3)) (hstk : stk = (vs.map Sum.inl).reverse ++ .inr 1 :: st) (hn : vs.length = n) (hav : vs.length + 1 ≤ J1.2.2.1) (hst8 : st.length ≤ 8) (hd1 : d1 ≤ 1000) (hq : pc + 3 = q)
    (hm : mm_Meth J1 d1 0 0 (.inr 0 :: vs.map Sum.inl) S2 M2 (mm_Zi r S2 M')) (kk : ll_Go xL xs kc ks q L (.inl r :: st) S1 M1 S2 M') : ll_Go xL xs kc ks pc L stk S1 M1 S2 M2 := by
  refine l_call2 vs hg hS hd hstk hn hav hst8 hd1 hq hm ?_
  rintro r' S' M'' ⟨rfl, rfl, rfl⟩ _
  exact kk
end LLI
theorem ll_in {i L j : Nat} (h : i + 6 ≤ L) (hL : L ≤ 384) (hj : j < 6) : vp_in (nI i + nI j) L := by
  rw [nI_add]
  exact vp_in_nI (by omega) (by omega)
theorem l_pop {xL : Nat} {xs : Nat → Int32} {kc ks pc q : Nat} {L : List (Option mm_V)} {st : List mm_V} {S1 S2 : List mm_C} {M1 M2 : mm_M} {v : mm_V} (hd : decode code pc = .ok (.pop, 1)) (hq : pc + 1 = q) (k : ll_Go xL xs kc ks q L st S1 M1 S2 M2) : ll_Go xL xs kc ks pc L (v :: st) S1 M1 S2 M2 := by
  subst hq
  intro l G cA b ρ σ1 σ2 p e s m below meth c H locs cells slots ls hAt hK hc hs hW hl
  exact lv_pop hAt.1 hAt.2.1 hd (mm_R_cat ρ v) (k l G cA b ρ σ1 σ2 p e s m below meth c H locs cells slots ls hAt hK hc hs hW hl)
set_option maxRecDepth 100000 in
set_option maxHeartbeats 1000000 in
theorem ll_case0 {Rl : mm_M → mm_M → Prop} {xL kc ks : Nat} {xs : Nat → Int32} {x3 : Int32} {M1 M2 : mm_M} (hE : ∀ (x1 : Int32) (M1 M2 : mm_M), Rl M1 M2 → ∃ r r' M1' M2', cl_0 x1 M1 = some (r, M1') ∧ md_0 x1 M2 = some (r', M2') ∧ Rl M1' M2') (hR : Rl M1 M2) (h6 : ∀ j : Nat, j < 6 → vp_in (x3 + nI j) xL) (kk : ∀ M1' M2', Rl M1' M2' → ll_Go xL xs kc ks 1135 [some (.inr 4000), some (.inr 0), some (.inr 1), some (.inl x3)] [] S_c M1' S_m M2') : ll_Go xL xs kc ks 172 [some (.inr 4000), some (.inr 0), some (.inr 1), some (.inl x3)] [] S_c M1 S_m M2 := by
  obtain ⟨r, r2, M1', M2', e1, e2, hR⟩ := hE (xs (Int32.toNatClampNeg (x3 + 1))) M1 M2 hR
  refine l_aload_n (q := 173) dL_law_172 rfl rfl ?_
  refine l_aload_n (q := 174) dL_law_173 rfl rfl ?_
  refine l_iload_n (q := 175) dL_law_174 rfl rfl ?_
  refine l_iconst (v := 1) (q := 176) dL_law_175 (by decide) rfl ?_
  refine l_iadd (q := 177) dL_law_176 rfl ?_
  refine l_sld (v := xs (Int32.toNatClampNeg (x3 + 1))) (q := 178) dL_law_177 (h6 1 (by decide)) rfl rfl ?_
  refine l_call1i (st := []) (q := 181) [(xs (Int32.toNatClampNeg (x3 + 1)))] kc_L_13 sc_c_0 dL_law_178 rfl rfl (Nat.le_of_ble_eq_true rfl) (Nat.le_of_ble_eq_true rfl) (by decide) rfl (t_cl_0 (xs (Int32.toNatClampNeg (x3 + 1))) M1 r M1' e1) ?_
  refine l_pop (q := 182) dL_law_181 rfl ?_
  refine l_aload_n (q := 183) dL_law_182 rfl rfl ?_
  refine l_aload_n (q := 184) dL_law_183 rfl rfl ?_
  refine l_iload_n (q := 185) dL_law_184 rfl rfl ?_
  refine l_iconst (v := 1) (q := 186) dL_law_185 (by decide) rfl ?_
  refine l_iadd (q := 187) dL_law_186 rfl ?_
  refine l_sld (v := xs (Int32.toNatClampNeg (x3 + 1))) (q := 188) dL_law_187 (h6 1 (by decide)) rfl rfl ?_
  refine l_call2i (st := []) (q := 191) [(xs (Int32.toNatClampNeg (x3 + 1)))] kc_L_17 sc_m_0 dL_law_188 rfl rfl (Nat.le_of_ble_eq_true rfl) (Nat.le_of_ble_eq_true rfl) (by decide) rfl (t_md_0 (xs (Int32.toNatClampNeg (x3 + 1))) M2 r2 M2' e2) ?_
  refine l_pop (q := 192) dL_law_191 rfl ?_
  refine l_goto 1135 dL_law_192 (by decide) ?_
  exact kk M1' M2' hR
set_option maxRecDepth 100000 in
set_option maxHeartbeats 1000000 in
theorem ll_case1 {Rl : mm_M → mm_M → Prop} {xL kc ks : Nat} {xs : Nat → Int32} {x3 : Int32} {M1 M2 : mm_M} (hE : ∀ (x1 x2 : Int32) (M1 M2 : mm_M), Rl M1 M2 → ∃ r r' M1' M2', cl_1 x1 x2 M1 = some (r, M1') ∧ md_1 x1 x2 M2 = some (r', M2') ∧ Rl M1' M2') (hR : Rl M1 M2) (h6 : ∀ j : Nat, j < 6 → vp_in (x3 + nI j) xL) (kk : ∀ M1' M2', Rl M1' M2' → ll_Go xL xs kc ks 1135 [some (.inr 4000), some (.inr 0), some (.inr 1), some (.inl x3)] [] S_c M1' S_m M2') : ll_Go xL xs kc ks 195 [some (.inr 4000), some (.inr 0), some (.inr 1), some (.inl x3)] [] S_c M1 S_m M2 := by
  obtain ⟨r, r2, M1', M2', e1, e2, hR⟩ := hE (xs (Int32.toNatClampNeg (x3 + 1))) (xs (Int32.toNatClampNeg (x3 + 2))) M1 M2 hR
  refine l_aload_n (q := 196) dL_law_195 rfl rfl ?_
  refine l_aload_n (q := 197) dL_law_196 rfl rfl ?_
  refine l_iload_n (q := 198) dL_law_197 rfl rfl ?_
  refine l_iconst (v := 1) (q := 199) dL_law_198 (by decide) rfl ?_
  refine l_iadd (q := 200) dL_law_199 rfl ?_
  refine l_sld (v := xs (Int32.toNatClampNeg (x3 + 1))) (q := 201) dL_law_200 (h6 1 (by decide)) rfl rfl ?_
  refine l_aload_n (q := 202) dL_law_201 rfl rfl ?_
  refine l_iload_n (q := 203) dL_law_202 rfl rfl ?_
  refine l_iconst (v := 2) (q := 204) dL_law_203 (by decide) rfl ?_
  refine l_iadd (q := 205) dL_law_204 rfl ?_
  refine l_sld (v := xs (Int32.toNatClampNeg (x3 + 2))) (q := 206) dL_law_205 (h6 2 (by decide)) rfl rfl ?_
  refine l_call1i (st := []) (q := 209) [(xs (Int32.toNatClampNeg (x3 + 1))), (xs (Int32.toNatClampNeg (x3 + 2)))] kc_L_18 sc_c_0 dL_law_206 rfl rfl (Nat.le_of_ble_eq_true rfl) (Nat.le_of_ble_eq_true rfl) (by decide) rfl (t_cl_1 (xs (Int32.toNatClampNeg (x3 + 1))) (xs (Int32.toNatClampNeg (x3 + 2))) M1 r M1' e1) ?_
  refine l_pop (q := 210) dL_law_209 rfl ?_
  refine l_aload_n (q := 211) dL_law_210 rfl rfl ?_
  refine l_aload_n (q := 212) dL_law_211 rfl rfl ?_
  refine l_iload_n (q := 213) dL_law_212 rfl rfl ?_
  refine l_iconst (v := 1) (q := 214) dL_law_213 (by decide) rfl ?_
  refine l_iadd (q := 215) dL_law_214 rfl ?_
  refine l_sld (v := xs (Int32.toNatClampNeg (x3 + 1))) (q := 216) dL_law_215 (h6 1 (by decide)) rfl rfl ?_
  refine l_aload_n (q := 217) dL_law_216 rfl rfl ?_
  refine l_iload_n (q := 218) dL_law_217 rfl rfl ?_
  refine l_iconst (v := 2) (q := 219) dL_law_218 (by decide) rfl ?_
  refine l_iadd (q := 220) dL_law_219 rfl ?_
  refine l_sld (v := xs (Int32.toNatClampNeg (x3 + 2))) (q := 221) dL_law_220 (h6 2 (by decide)) rfl rfl ?_
  refine l_call2i (st := []) (q := 224) [(xs (Int32.toNatClampNeg (x3 + 1))), (xs (Int32.toNatClampNeg (x3 + 2)))] kc_L_22 sc_m_0 dL_law_221 rfl rfl (Nat.le_of_ble_eq_true rfl) (Nat.le_of_ble_eq_true rfl) (by decide) rfl (t_md_1 (xs (Int32.toNatClampNeg (x3 + 1))) (xs (Int32.toNatClampNeg (x3 + 2))) M2 r2 M2' e2) ?_
  refine l_pop (q := 225) dL_law_224 rfl ?_
  refine l_goto 1135 dL_law_225 (by decide) ?_
  exact kk M1' M2' hR
set_option maxRecDepth 100000 in
set_option maxHeartbeats 1000000 in
theorem ll_case2 {Rl : mm_M → mm_M → Prop} {xL kc ks : Nat} {xs : Nat → Int32} {x3 : Int32} {M1 M2 : mm_M} (hE : ∀ (x1 : Int32) (M1 M2 : mm_M), Rl M1 M2 → ∃ r r' M1' M2', cl_2 x1 M1 = some (r, M1') ∧ md_2 x1 M2 = some (r', M2') ∧ Rl M1' M2') (hR : Rl M1 M2) (h6 : ∀ j : Nat, j < 6 → vp_in (x3 + nI j) xL) (kk : ∀ M1' M2', Rl M1' M2' → ll_Go xL xs kc ks 1135 [some (.inr 4000), some (.inr 0), some (.inr 1), some (.inl x3)] [] S_c M1' S_m M2') : ll_Go xL xs kc ks 228 [some (.inr 4000), some (.inr 0), some (.inr 1), some (.inl x3)] [] S_c M1 S_m M2 := by
  obtain ⟨r, r2, M1', M2', e1, e2, hR⟩ := hE (xs (Int32.toNatClampNeg (x3 + 1))) M1 M2 hR
  refine l_aload_n (q := 229) dL_law_228 rfl rfl ?_
  refine l_aload_n (q := 230) dL_law_229 rfl rfl ?_
  refine l_iload_n (q := 231) dL_law_230 rfl rfl ?_
  refine l_iconst (v := 1) (q := 232) dL_law_231 (by decide) rfl ?_
  refine l_iadd (q := 233) dL_law_232 rfl ?_
  refine l_sld (v := xs (Int32.toNatClampNeg (x3 + 1))) (q := 234) dL_law_233 (h6 1 (by decide)) rfl rfl ?_
  refine l_call1i (st := []) (q := 237) [(xs (Int32.toNatClampNeg (x3 + 1)))] kc_L_23 sc_c_0 dL_law_234 rfl rfl (Nat.le_of_ble_eq_true rfl) (Nat.le_of_ble_eq_true rfl) (by decide) rfl (t_cl_2 (xs (Int32.toNatClampNeg (x3 + 1))) M1 r M1' e1) ?_
  refine l_pop (q := 238) dL_law_237 rfl ?_
  refine l_aload_n (q := 239) dL_law_238 rfl rfl ?_
  refine l_aload_n (q := 240) dL_law_239 rfl rfl ?_
  refine l_iload_n (q := 241) dL_law_240 rfl rfl ?_
  refine l_iconst (v := 1) (q := 242) dL_law_241 (by decide) rfl ?_
  refine l_iadd (q := 243) dL_law_242 rfl ?_
  refine l_sld (v := xs (Int32.toNatClampNeg (x3 + 1))) (q := 244) dL_law_243 (h6 1 (by decide)) rfl rfl ?_
  refine l_call2i (st := []) (q := 247) [(xs (Int32.toNatClampNeg (x3 + 1)))] kc_L_26 sc_m_0 dL_law_244 rfl rfl (Nat.le_of_ble_eq_true rfl) (Nat.le_of_ble_eq_true rfl) (by decide) rfl (t_md_2 (xs (Int32.toNatClampNeg (x3 + 1))) M2 r2 M2' e2) ?_
  refine l_pop (q := 248) dL_law_247 rfl ?_
  refine l_goto 1135 dL_law_248 (by decide) ?_
  exact kk M1' M2' hR
set_option maxRecDepth 100000 in
set_option maxHeartbeats 1000000 in
theorem ll_case3 {Rl : mm_M → mm_M → Prop} {xL kc ks : Nat} {xs : Nat → Int32} {x3 : Int32} {M1 M2 : mm_M} (hE : ∀ (x1 x2 x3 x4 x5 : Int32) (M1 M2 : mm_M), Rl M1 M2 → ∃ r r' M1' M2', cl_3 x1 x2 x3 x4 x5 M1 = some (r, M1') ∧ md_3 x1 x2 x3 x4 x5 M2 = some (r', M2') ∧ Rl M1' M2') (hR : Rl M1 M2) (h6 : ∀ j : Nat, j < 6 → vp_in (x3 + nI j) xL) (kk : ∀ M1' M2', Rl M1' M2' → ll_Go xL xs kc ks 1135 [some (.inr 4000), some (.inr 0), some (.inr 1), some (.inl x3)] [] S_c M1' S_m M2') : ll_Go xL xs kc ks 251 [some (.inr 4000), some (.inr 0), some (.inr 1), some (.inl x3)] [] S_c M1 S_m M2 := by
  obtain ⟨r, r2, M1', M2', e1, e2, hR⟩ := hE (xs (Int32.toNatClampNeg (x3 + 1))) (xs (Int32.toNatClampNeg (x3 + 2))) (xs (Int32.toNatClampNeg (x3 + 3))) (xs (Int32.toNatClampNeg (x3 + 4))) (xs (Int32.toNatClampNeg (x3 + 5))) M1 M2 hR
  refine l_aload_n (q := 252) dL_law_251 rfl rfl ?_
  refine l_aload_n (q := 253) dL_law_252 rfl rfl ?_
  refine l_iload_n (q := 254) dL_law_253 rfl rfl ?_
  refine l_iconst (v := 1) (q := 255) dL_law_254 (by decide) rfl ?_
  refine l_iadd (q := 256) dL_law_255 rfl ?_
  refine l_sld (v := xs (Int32.toNatClampNeg (x3 + 1))) (q := 257) dL_law_256 (h6 1 (by decide)) rfl rfl ?_
  refine l_aload_n (q := 258) dL_law_257 rfl rfl ?_
  refine l_iload_n (q := 259) dL_law_258 rfl rfl ?_
  refine l_iconst (v := 2) (q := 260) dL_law_259 (by decide) rfl ?_
  refine l_iadd (q := 261) dL_law_260 rfl ?_
  refine l_sld (v := xs (Int32.toNatClampNeg (x3 + 2))) (q := 262) dL_law_261 (h6 2 (by decide)) rfl rfl ?_
  refine l_aload_n (q := 263) dL_law_262 rfl rfl ?_
  refine l_iload_n (q := 264) dL_law_263 rfl rfl ?_
  refine l_iconst (v := 3) (q := 265) dL_law_264 (by decide) rfl ?_
  refine l_iadd (q := 266) dL_law_265 rfl ?_
  refine l_sld (v := xs (Int32.toNatClampNeg (x3 + 3))) (q := 267) dL_law_266 (h6 3 (by decide)) rfl rfl ?_
  refine l_aload_n (q := 268) dL_law_267 rfl rfl ?_
  refine l_iload_n (q := 269) dL_law_268 rfl rfl ?_
  refine l_iconst (v := 4) (q := 270) dL_law_269 (by decide) rfl ?_
  refine l_iadd (q := 271) dL_law_270 rfl ?_
  refine l_sld (v := xs (Int32.toNatClampNeg (x3 + 4))) (q := 272) dL_law_271 (h6 4 (by decide)) rfl rfl ?_
  refine l_aload_n (q := 273) dL_law_272 rfl rfl ?_
  refine l_iload_n (q := 274) dL_law_273 rfl rfl ?_
  refine l_iconst (v := 5) (q := 275) dL_law_274 (by decide) rfl ?_
  refine l_iadd (q := 276) dL_law_275 rfl ?_
  refine l_sld (v := xs (Int32.toNatClampNeg (x3 + 5))) (q := 277) dL_law_276 (h6 5 (by decide)) rfl rfl ?_
  refine l_call1i (st := []) (q := 280) [(xs (Int32.toNatClampNeg (x3 + 1))), (xs (Int32.toNatClampNeg (x3 + 2))), (xs (Int32.toNatClampNeg (x3 + 3))), (xs (Int32.toNatClampNeg (x3 + 4))), (xs (Int32.toNatClampNeg (x3 + 5)))] kc_L_27 sc_c_0 dL_law_277 rfl rfl (Nat.le_of_ble_eq_true rfl) (Nat.le_of_ble_eq_true rfl) (by decide) rfl (t_cl_3 (xs (Int32.toNatClampNeg (x3 + 1))) (xs (Int32.toNatClampNeg (x3 + 2))) (xs (Int32.toNatClampNeg (x3 + 3))) (xs (Int32.toNatClampNeg (x3 + 4))) (xs (Int32.toNatClampNeg (x3 + 5))) M1 r M1' e1) ?_
  refine l_pop (q := 281) dL_law_280 rfl ?_
  refine l_aload_n (q := 282) dL_law_281 rfl rfl ?_
  refine l_aload_n (q := 283) dL_law_282 rfl rfl ?_
  refine l_iload_n (q := 284) dL_law_283 rfl rfl ?_
  refine l_iconst (v := 1) (q := 285) dL_law_284 (by decide) rfl ?_
  refine l_iadd (q := 286) dL_law_285 rfl ?_
  refine l_sld (v := xs (Int32.toNatClampNeg (x3 + 1))) (q := 287) dL_law_286 (h6 1 (by decide)) rfl rfl ?_
  refine l_aload_n (q := 288) dL_law_287 rfl rfl ?_
  refine l_iload_n (q := 289) dL_law_288 rfl rfl ?_
  refine l_iconst (v := 2) (q := 290) dL_law_289 (by decide) rfl ?_
  refine l_iadd (q := 291) dL_law_290 rfl ?_
  refine l_sld (v := xs (Int32.toNatClampNeg (x3 + 2))) (q := 292) dL_law_291 (h6 2 (by decide)) rfl rfl ?_
  refine l_aload_n (q := 293) dL_law_292 rfl rfl ?_
  refine l_iload_n (q := 294) dL_law_293 rfl rfl ?_
  refine l_iconst (v := 3) (q := 295) dL_law_294 (by decide) rfl ?_
  refine l_iadd (q := 296) dL_law_295 rfl ?_
  refine l_sld (v := xs (Int32.toNatClampNeg (x3 + 3))) (q := 297) dL_law_296 (h6 3 (by decide)) rfl rfl ?_
  refine l_aload_n (q := 298) dL_law_297 rfl rfl ?_
  refine l_iload_n (q := 299) dL_law_298 rfl rfl ?_
  refine l_iconst (v := 4) (q := 300) dL_law_299 (by decide) rfl ?_
  refine l_iadd (q := 301) dL_law_300 rfl ?_
  refine l_sld (v := xs (Int32.toNatClampNeg (x3 + 4))) (q := 302) dL_law_301 (h6 4 (by decide)) rfl rfl ?_
  refine l_aload_n (q := 303) dL_law_302 rfl rfl ?_
  refine l_iload_n (q := 304) dL_law_303 rfl rfl ?_
  refine l_iconst (v := 5) (q := 305) dL_law_304 (by decide) rfl ?_
  refine l_iadd (q := 306) dL_law_305 rfl ?_
  refine l_sld (v := xs (Int32.toNatClampNeg (x3 + 5))) (q := 307) dL_law_306 (h6 5 (by decide)) rfl rfl ?_
  refine l_call2i (st := []) (q := 310) [(xs (Int32.toNatClampNeg (x3 + 1))), (xs (Int32.toNatClampNeg (x3 + 2))), (xs (Int32.toNatClampNeg (x3 + 3))), (xs (Int32.toNatClampNeg (x3 + 4))), (xs (Int32.toNatClampNeg (x3 + 5)))] kc_L_31 sc_m_0 dL_law_307 rfl rfl (Nat.le_of_ble_eq_true rfl) (Nat.le_of_ble_eq_true rfl) (by decide) rfl (t_md_3 (xs (Int32.toNatClampNeg (x3 + 1))) (xs (Int32.toNatClampNeg (x3 + 2))) (xs (Int32.toNatClampNeg (x3 + 3))) (xs (Int32.toNatClampNeg (x3 + 4))) (xs (Int32.toNatClampNeg (x3 + 5))) M2 r2 M2' e2) ?_
  refine l_pop (q := 311) dL_law_310 rfl ?_
  refine l_goto 1135 dL_law_311 (by decide) ?_
  exact kk M1' M2' hR
set_option maxRecDepth 100000 in
set_option maxHeartbeats 1000000 in
theorem ll_case4 {Rl : mm_M → mm_M → Prop} {xL kc ks : Nat} {xs : Nat → Int32} {x3 : Int32} {M1 M2 : mm_M} (hE : ∀ (x1 : Int32) (M1 M2 : mm_M), Rl M1 M2 → ∃ r r' M1' M2', cl_4 x1 M1 = some (r, M1') ∧ md_4 x1 M2 = some (r', M2') ∧ Rl M1' M2') (hR : Rl M1 M2) (h6 : ∀ j : Nat, j < 6 → vp_in (x3 + nI j) xL) (kk : ∀ M1' M2', Rl M1' M2' → ll_Go xL xs kc ks 1135 [some (.inr 4000), some (.inr 0), some (.inr 1), some (.inl x3)] [] S_c M1' S_m M2') : ll_Go xL xs kc ks 314 [some (.inr 4000), some (.inr 0), some (.inr 1), some (.inl x3)] [] S_c M1 S_m M2 := by
  obtain ⟨r, r2, M1', M2', e1, e2, hR⟩ := hE (xs (Int32.toNatClampNeg (x3 + 1))) M1 M2 hR
  refine l_aload_n (q := 315) dL_law_314 rfl rfl ?_
  refine l_aload_n (q := 316) dL_law_315 rfl rfl ?_
  refine l_iload_n (q := 317) dL_law_316 rfl rfl ?_
  refine l_iconst (v := 1) (q := 318) dL_law_317 (by decide) rfl ?_
  refine l_iadd (q := 319) dL_law_318 rfl ?_
  refine l_sld (v := xs (Int32.toNatClampNeg (x3 + 1))) (q := 320) dL_law_319 (h6 1 (by decide)) rfl rfl ?_
  refine l_call1 (st := []) (q := 323) [(xs (Int32.toNatClampNeg (x3 + 1)))] kc_L_32 sc_c_0 dL_law_320 rfl rfl (Nat.le_of_ble_eq_true rfl) (Nat.le_of_ble_eq_true rfl) (by decide) rfl (t_cl_4 (xs (Int32.toNatClampNeg (x3 + 1))) M1 r M1' e1) ?_
  rintro r' S' M'' ⟨rfl, hS⟩ _
  have hgo : ll_Go xL xs kc ks 323 [some (.inr 4000), some (.inr 0), some (.inr 1), some (.inl x3)] (.inl r :: []) S_c M1' S_m M2 → ll_Go xL xs kc ks 323 [some (.inr 4000), some (.inr 0), some (.inr 1), some (.inl x3)] ((some r).toList.map Sum.inl ++ []) S' M'' S_m M2 := by
    intro hh
    rcases hS with ⟨rfl, rfl⟩ | ⟨rfl, rfl⟩
    · exact hh
    · exact l_swap mm_tl mm_tl_perm hh
  refine hgo ?_
  refine l_pop (q := 324) dL_law_323 rfl ?_
  refine l_aload_n (q := 325) dL_law_324 rfl rfl ?_
  refine l_aload_n (q := 326) dL_law_325 rfl rfl ?_
  refine l_iload_n (q := 327) dL_law_326 rfl rfl ?_
  refine l_iconst (v := 1) (q := 328) dL_law_327 (by decide) rfl ?_
  refine l_iadd (q := 329) dL_law_328 rfl ?_
  refine l_sld (v := xs (Int32.toNatClampNeg (x3 + 1))) (q := 330) dL_law_329 (h6 1 (by decide)) rfl rfl ?_
  refine l_call2i (st := []) (q := 333) [(xs (Int32.toNatClampNeg (x3 + 1)))] kc_L_36 sc_m_0 dL_law_330 rfl rfl (Nat.le_of_ble_eq_true rfl) (Nat.le_of_ble_eq_true rfl) (by decide) rfl (t_md_4 (xs (Int32.toNatClampNeg (x3 + 1))) M2 r2 M2' e2) ?_
  refine l_pop (q := 334) dL_law_333 rfl ?_
  refine l_goto 1135 dL_law_334 (by decide) ?_
  exact kk M1' M2' hR
set_option maxRecDepth 100000 in
set_option maxHeartbeats 1000000 in
theorem ll_case5 {Rl : mm_M → mm_M → Prop} {xL kc ks : Nat} {xs : Nat → Int32} {x3 : Int32} {M1 M2 : mm_M} (hE : ∀ (x1 : Int32) (M1 M2 : mm_M), Rl M1 M2 → ∃ r r' M1' M2', cl_5 x1 M1 = some (r, M1') ∧ md_5 x1 M2 = some (r', M2') ∧ Rl M1' M2') (hR : Rl M1 M2) (h6 : ∀ j : Nat, j < 6 → vp_in (x3 + nI j) xL) (kk : ∀ M1' M2', Rl M1' M2' → ll_Go xL xs kc ks 1135 [some (.inr 4000), some (.inr 0), some (.inr 1), some (.inl x3)] [] S_c M1' S_m M2') : ll_Go xL xs kc ks 337 [some (.inr 4000), some (.inr 0), some (.inr 1), some (.inl x3)] [] S_c M1 S_m M2 := by
  obtain ⟨r, r2, M1', M2', e1, e2, hR⟩ := hE (xs (Int32.toNatClampNeg (x3 + 1))) M1 M2 hR
  refine l_aload_n (q := 338) dL_law_337 rfl rfl ?_
  refine l_aload_n (q := 339) dL_law_338 rfl rfl ?_
  refine l_iload_n (q := 340) dL_law_339 rfl rfl ?_
  refine l_iconst (v := 1) (q := 341) dL_law_340 (by decide) rfl ?_
  refine l_iadd (q := 342) dL_law_341 rfl ?_
  refine l_sld (v := xs (Int32.toNatClampNeg (x3 + 1))) (q := 343) dL_law_342 (h6 1 (by decide)) rfl rfl ?_
  refine l_call1 (st := []) (q := 346) [(xs (Int32.toNatClampNeg (x3 + 1)))] kc_L_37 sc_c_0 dL_law_343 rfl rfl (Nat.le_of_ble_eq_true rfl) (Nat.le_of_ble_eq_true rfl) (by decide) rfl (t_cl_5 (xs (Int32.toNatClampNeg (x3 + 1))) M1 r M1' e1) ?_
  rintro r' S' M'' ⟨rfl, hS⟩ _
  have hgo : ll_Go xL xs kc ks 346 [some (.inr 4000), some (.inr 0), some (.inr 1), some (.inl x3)] (.inl r :: []) S_c M1' S_m M2 → ll_Go xL xs kc ks 346 [some (.inr 4000), some (.inr 0), some (.inr 1), some (.inl x3)] ((some r).toList.map Sum.inl ++ []) S' M'' S_m M2 := by
    intro hh
    rcases hS with ⟨rfl, rfl⟩ | ⟨rfl, rfl⟩
    · exact hh
    · exact l_swap mm_tv mm_tv_perm hh
  refine hgo ?_
  refine l_pop (q := 347) dL_law_346 rfl ?_
  refine l_aload_n (q := 348) dL_law_347 rfl rfl ?_
  refine l_aload_n (q := 349) dL_law_348 rfl rfl ?_
  refine l_iload_n (q := 350) dL_law_349 rfl rfl ?_
  refine l_iconst (v := 1) (q := 351) dL_law_350 (by decide) rfl ?_
  refine l_iadd (q := 352) dL_law_351 rfl ?_
  refine l_sld (v := xs (Int32.toNatClampNeg (x3 + 1))) (q := 353) dL_law_352 (h6 1 (by decide)) rfl rfl ?_
  refine l_call2i (st := []) (q := 356) [(xs (Int32.toNatClampNeg (x3 + 1)))] kc_L_40 sc_m_0 dL_law_353 rfl rfl (Nat.le_of_ble_eq_true rfl) (Nat.le_of_ble_eq_true rfl) (by decide) rfl (t_md_5 (xs (Int32.toNatClampNeg (x3 + 1))) M2 r2 M2' e2) ?_
  refine l_pop (q := 357) dL_law_356 rfl ?_
  refine l_goto 1135 dL_law_357 (by decide) ?_
  exact kk M1' M2' hR
set_option maxRecDepth 100000 in
set_option maxHeartbeats 1000000 in
theorem ll_case6 {Rl : mm_M → mm_M → Prop} {xL kc ks : Nat} {xs : Nat → Int32} {x3 : Int32} {M1 M2 : mm_M} (hE : ∀ (x1 : Int32) (M1 M2 : mm_M), Rl M1 M2 → ∃ r r' M1' M2', cl_6 x1 M1 = some (r, M1') ∧ md_6 x1 M2 = some (r', M2') ∧ Rl M1' M2') (hR : Rl M1 M2) (h6 : ∀ j : Nat, j < 6 → vp_in (x3 + nI j) xL) (kk : ∀ M1' M2', Rl M1' M2' → ll_Go xL xs kc ks 1135 [some (.inr 4000), some (.inr 0), some (.inr 1), some (.inl x3)] [] S_c M1' S_m M2') : ll_Go xL xs kc ks 360 [some (.inr 4000), some (.inr 0), some (.inr 1), some (.inl x3)] [] S_c M1 S_m M2 := by
  obtain ⟨r, r2, M1', M2', e1, e2, hR⟩ := hE (xs (Int32.toNatClampNeg (x3 + 1))) M1 M2 hR
  refine l_aload_n (q := 361) dL_law_360 rfl rfl ?_
  refine l_aload_n (q := 362) dL_law_361 rfl rfl ?_
  refine l_iload_n (q := 363) dL_law_362 rfl rfl ?_
  refine l_iconst (v := 1) (q := 364) dL_law_363 (by decide) rfl ?_
  refine l_iadd (q := 365) dL_law_364 rfl ?_
  refine l_sld (v := xs (Int32.toNatClampNeg (x3 + 1))) (q := 366) dL_law_365 (h6 1 (by decide)) rfl rfl ?_
  refine l_call1i (st := []) (q := 369) [(xs (Int32.toNatClampNeg (x3 + 1)))] kc_L_41 sc_c_0 dL_law_366 rfl rfl (Nat.le_of_ble_eq_true rfl) (Nat.le_of_ble_eq_true rfl) (by decide) rfl (t_cl_6 (xs (Int32.toNatClampNeg (x3 + 1))) M1 r M1' e1) ?_
  refine l_pop (q := 370) dL_law_369 rfl ?_
  refine l_aload_n (q := 371) dL_law_370 rfl rfl ?_
  refine l_aload_n (q := 372) dL_law_371 rfl rfl ?_
  refine l_iload_n (q := 373) dL_law_372 rfl rfl ?_
  refine l_iconst (v := 1) (q := 374) dL_law_373 (by decide) rfl ?_
  refine l_iadd (q := 375) dL_law_374 rfl ?_
  refine l_sld (v := xs (Int32.toNatClampNeg (x3 + 1))) (q := 376) dL_law_375 (h6 1 (by decide)) rfl rfl ?_
  refine l_call2i (st := []) (q := 379) [(xs (Int32.toNatClampNeg (x3 + 1)))] kc_L_44 sc_m_0 dL_law_376 rfl rfl (Nat.le_of_ble_eq_true rfl) (Nat.le_of_ble_eq_true rfl) (by decide) rfl (t_md_6 (xs (Int32.toNatClampNeg (x3 + 1))) M2 r2 M2' e2) ?_
  refine l_pop (q := 380) dL_law_379 rfl ?_
  refine l_goto 1135 dL_law_380 (by decide) ?_
  exact kk M1' M2' hR
set_option maxRecDepth 100000 in
set_option maxHeartbeats 1000000 in
theorem ll_case7 {Rl : mm_M → mm_M → Prop} {xL kc ks : Nat} {xs : Nat → Int32} {x3 : Int32} {M1 M2 : mm_M} (hE : ∀ (x1 x2 : Int32) (M1 M2 : mm_M), Rl M1 M2 → ∃ r r' M1' M2', cl_7 x1 x2 M1 = some (r, M1') ∧ md_7 x1 x2 M2 = some (r', M2') ∧ Rl M1' M2') (hR : Rl M1 M2) (h6 : ∀ j : Nat, j < 6 → vp_in (x3 + nI j) xL) (kk : ∀ M1' M2', Rl M1' M2' → ll_Go xL xs kc ks 1135 [some (.inr 4000), some (.inr 0), some (.inr 1), some (.inl x3)] [] S_c M1' S_m M2') : ll_Go xL xs kc ks 383 [some (.inr 4000), some (.inr 0), some (.inr 1), some (.inl x3)] [] S_c M1 S_m M2 := by
  obtain ⟨r, r2, M1', M2', e1, e2, hR⟩ := hE (xs (Int32.toNatClampNeg (x3 + 1))) (xs (Int32.toNatClampNeg (x3 + 2))) M1 M2 hR
  refine l_aload_n (q := 384) dL_law_383 rfl rfl ?_
  refine l_aload_n (q := 385) dL_law_384 rfl rfl ?_
  refine l_iload_n (q := 386) dL_law_385 rfl rfl ?_
  refine l_iconst (v := 1) (q := 387) dL_law_386 (by decide) rfl ?_
  refine l_iadd (q := 388) dL_law_387 rfl ?_
  refine l_sld (v := xs (Int32.toNatClampNeg (x3 + 1))) (q := 389) dL_law_388 (h6 1 (by decide)) rfl rfl ?_
  refine l_aload_n (q := 390) dL_law_389 rfl rfl ?_
  refine l_iload_n (q := 391) dL_law_390 rfl rfl ?_
  refine l_iconst (v := 2) (q := 392) dL_law_391 (by decide) rfl ?_
  refine l_iadd (q := 393) dL_law_392 rfl ?_
  refine l_sld (v := xs (Int32.toNatClampNeg (x3 + 2))) (q := 394) dL_law_393 (h6 2 (by decide)) rfl rfl ?_
  refine l_call1i (st := []) (q := 397) [(xs (Int32.toNatClampNeg (x3 + 1))), (xs (Int32.toNatClampNeg (x3 + 2)))] kc_L_45 sc_c_0 dL_law_394 rfl rfl (Nat.le_of_ble_eq_true rfl) (Nat.le_of_ble_eq_true rfl) (by decide) rfl (t_cl_7 (xs (Int32.toNatClampNeg (x3 + 1))) (xs (Int32.toNatClampNeg (x3 + 2))) M1 r M1' e1) ?_
  refine l_pop (q := 398) dL_law_397 rfl ?_
  refine l_aload_n (q := 399) dL_law_398 rfl rfl ?_
  refine l_aload_n (q := 400) dL_law_399 rfl rfl ?_
  refine l_iload_n (q := 401) dL_law_400 rfl rfl ?_
  refine l_iconst (v := 1) (q := 402) dL_law_401 (by decide) rfl ?_
  refine l_iadd (q := 403) dL_law_402 rfl ?_
  refine l_sld (v := xs (Int32.toNatClampNeg (x3 + 1))) (q := 404) dL_law_403 (h6 1 (by decide)) rfl rfl ?_
  refine l_aload_n (q := 405) dL_law_404 rfl rfl ?_
  refine l_iload_n (q := 406) dL_law_405 rfl rfl ?_
  refine l_iconst (v := 2) (q := 407) dL_law_406 (by decide) rfl ?_
  refine l_iadd (q := 408) dL_law_407 rfl ?_
  refine l_sld (v := xs (Int32.toNatClampNeg (x3 + 2))) (q := 409) dL_law_408 (h6 2 (by decide)) rfl rfl ?_
  refine l_call2i (st := []) (q := 412) [(xs (Int32.toNatClampNeg (x3 + 1))), (xs (Int32.toNatClampNeg (x3 + 2)))] kc_L_49 sc_m_0 dL_law_409 rfl rfl (Nat.le_of_ble_eq_true rfl) (Nat.le_of_ble_eq_true rfl) (by decide) rfl (t_md_7 (xs (Int32.toNatClampNeg (x3 + 1))) (xs (Int32.toNatClampNeg (x3 + 2))) M2 r2 M2' e2) ?_
  refine l_pop (q := 413) dL_law_412 rfl ?_
  refine l_goto 1135 dL_law_413 (by decide) ?_
  exact kk M1' M2' hR
set_option maxRecDepth 100000 in
set_option maxHeartbeats 1000000 in
theorem ll_case8 {Rl : mm_M → mm_M → Prop} {xL kc ks : Nat} {xs : Nat → Int32} {x3 : Int32} {M1 M2 : mm_M} (hE : ∀ (x1 : Int32) (M1 M2 : mm_M), Rl M1 M2 → ∃ r r' M1' M2', cl_8 x1 M1 = some (r, M1') ∧ md_8 x1 M2 = some (r', M2') ∧ Rl M1' M2') (hR : Rl M1 M2) (h6 : ∀ j : Nat, j < 6 → vp_in (x3 + nI j) xL) (kk : ∀ M1' M2', Rl M1' M2' → ll_Go xL xs kc ks 1135 [some (.inr 4000), some (.inr 0), some (.inr 1), some (.inl x3)] [] S_c M1' S_m M2') : ll_Go xL xs kc ks 416 [some (.inr 4000), some (.inr 0), some (.inr 1), some (.inl x3)] [] S_c M1 S_m M2 := by
  obtain ⟨r, r2, M1', M2', e1, e2, hR⟩ := hE (xs (Int32.toNatClampNeg (x3 + 1))) M1 M2 hR
  refine l_aload_n (q := 417) dL_law_416 rfl rfl ?_
  refine l_aload_n (q := 418) dL_law_417 rfl rfl ?_
  refine l_iload_n (q := 419) dL_law_418 rfl rfl ?_
  refine l_iconst (v := 1) (q := 420) dL_law_419 (by decide) rfl ?_
  refine l_iadd (q := 421) dL_law_420 rfl ?_
  refine l_sld (v := xs (Int32.toNatClampNeg (x3 + 1))) (q := 422) dL_law_421 (h6 1 (by decide)) rfl rfl ?_
  refine l_call1i (st := []) (q := 425) [(xs (Int32.toNatClampNeg (x3 + 1)))] kc_L_50 sc_c_0 dL_law_422 rfl rfl (Nat.le_of_ble_eq_true rfl) (Nat.le_of_ble_eq_true rfl) (by decide) rfl (t_cl_8 (xs (Int32.toNatClampNeg (x3 + 1))) M1 r M1' e1) ?_
  refine l_pop (q := 426) dL_law_425 rfl ?_
  refine l_aload_n (q := 427) dL_law_426 rfl rfl ?_
  refine l_aload_n (q := 428) dL_law_427 rfl rfl ?_
  refine l_iload_n (q := 429) dL_law_428 rfl rfl ?_
  refine l_iconst (v := 1) (q := 430) dL_law_429 (by decide) rfl ?_
  refine l_iadd (q := 431) dL_law_430 rfl ?_
  refine l_sld (v := xs (Int32.toNatClampNeg (x3 + 1))) (q := 432) dL_law_431 (h6 1 (by decide)) rfl rfl ?_
  refine l_call2i (st := []) (q := 435) [(xs (Int32.toNatClampNeg (x3 + 1)))] kc_L_53 sc_m_0 dL_law_432 rfl rfl (Nat.le_of_ble_eq_true rfl) (Nat.le_of_ble_eq_true rfl) (by decide) rfl (t_md_8 (xs (Int32.toNatClampNeg (x3 + 1))) M2 r2 M2' e2) ?_
  refine l_pop (q := 436) dL_law_435 rfl ?_
  refine l_goto 1135 dL_law_436 (by decide) ?_
  exact kk M1' M2' hR
set_option maxRecDepth 100000 in
set_option maxHeartbeats 1000000 in
theorem ll_case9 {Rl : mm_M → mm_M → Prop} {xL kc ks : Nat} {xs : Nat → Int32} {x3 : Int32} {M1 M2 : mm_M} (hE : ∀ (x1 x2 : Int32) (M1 M2 : mm_M), Rl M1 M2 → ∃ r r' M1' M2', cl_9 x1 x2 M1 = some (r, M1') ∧ md_9 x1 x2 M2 = some (r', M2') ∧ Rl M1' M2') (hR : Rl M1 M2) (h6 : ∀ j : Nat, j < 6 → vp_in (x3 + nI j) xL) (kk : ∀ M1' M2', Rl M1' M2' → ll_Go xL xs kc ks 1135 [some (.inr 4000), some (.inr 0), some (.inr 1), some (.inl x3)] [] S_c M1' S_m M2') : ll_Go xL xs kc ks 439 [some (.inr 4000), some (.inr 0), some (.inr 1), some (.inl x3)] [] S_c M1 S_m M2 := by
  obtain ⟨r, r2, M1', M2', e1, e2, hR⟩ := hE (xs (Int32.toNatClampNeg (x3 + 1))) (xs (Int32.toNatClampNeg (x3 + 2))) M1 M2 hR
  refine l_aload_n (q := 440) dL_law_439 rfl rfl ?_
  refine l_aload_n (q := 441) dL_law_440 rfl rfl ?_
  refine l_iload_n (q := 442) dL_law_441 rfl rfl ?_
  refine l_iconst (v := 1) (q := 443) dL_law_442 (by decide) rfl ?_
  refine l_iadd (q := 444) dL_law_443 rfl ?_
  refine l_sld (v := xs (Int32.toNatClampNeg (x3 + 1))) (q := 445) dL_law_444 (h6 1 (by decide)) rfl rfl ?_
  refine l_aload_n (q := 446) dL_law_445 rfl rfl ?_
  refine l_iload_n (q := 447) dL_law_446 rfl rfl ?_
  refine l_iconst (v := 2) (q := 448) dL_law_447 (by decide) rfl ?_
  refine l_iadd (q := 449) dL_law_448 rfl ?_
  refine l_sld (v := xs (Int32.toNatClampNeg (x3 + 2))) (q := 450) dL_law_449 (h6 2 (by decide)) rfl rfl ?_
  refine l_call1i (st := []) (q := 453) [(xs (Int32.toNatClampNeg (x3 + 1))), (xs (Int32.toNatClampNeg (x3 + 2)))] kc_L_54 sc_c_0 dL_law_450 rfl rfl (Nat.le_of_ble_eq_true rfl) (Nat.le_of_ble_eq_true rfl) (by decide) rfl (t_cl_9 (xs (Int32.toNatClampNeg (x3 + 1))) (xs (Int32.toNatClampNeg (x3 + 2))) M1 r M1' e1) ?_
  refine l_pop (q := 454) dL_law_453 rfl ?_
  refine l_aload_n (q := 455) dL_law_454 rfl rfl ?_
  refine l_aload_n (q := 456) dL_law_455 rfl rfl ?_
  refine l_iload_n (q := 457) dL_law_456 rfl rfl ?_
  refine l_iconst (v := 1) (q := 458) dL_law_457 (by decide) rfl ?_
  refine l_iadd (q := 459) dL_law_458 rfl ?_
  refine l_sld (v := xs (Int32.toNatClampNeg (x3 + 1))) (q := 460) dL_law_459 (h6 1 (by decide)) rfl rfl ?_
  refine l_aload_n (q := 461) dL_law_460 rfl rfl ?_
  refine l_iload_n (q := 462) dL_law_461 rfl rfl ?_
  refine l_iconst (v := 2) (q := 463) dL_law_462 (by decide) rfl ?_
  refine l_iadd (q := 464) dL_law_463 rfl ?_
  refine l_sld (v := xs (Int32.toNatClampNeg (x3 + 2))) (q := 465) dL_law_464 (h6 2 (by decide)) rfl rfl ?_
  refine l_call2i (st := []) (q := 468) [(xs (Int32.toNatClampNeg (x3 + 1))), (xs (Int32.toNatClampNeg (x3 + 2)))] kc_L_57 sc_m_0 dL_law_465 rfl rfl (Nat.le_of_ble_eq_true rfl) (Nat.le_of_ble_eq_true rfl) (by decide) rfl (t_md_9 (xs (Int32.toNatClampNeg (x3 + 1))) (xs (Int32.toNatClampNeg (x3 + 2))) M2 r2 M2' e2) ?_
  refine l_pop (q := 469) dL_law_468 rfl ?_
  refine l_goto 1135 dL_law_469 (by decide) ?_
  exact kk M1' M2' hR
set_option maxRecDepth 100000 in
set_option maxHeartbeats 1000000 in
theorem ll_case10 {Rl : mm_M → mm_M → Prop} {xL kc ks : Nat} {xs : Nat → Int32} {x3 : Int32} {M1 M2 : mm_M} (hE : ∀ (x1 x2 x3 : Int32) (M1 M2 : mm_M), Rl M1 M2 → ∃ r r' M1' M2', cl_10 x1 x2 x3 M1 = some (r, M1') ∧ md_10 x1 x2 x3 M2 = some (r', M2') ∧ Rl M1' M2') (hR : Rl M1 M2) (h6 : ∀ j : Nat, j < 6 → vp_in (x3 + nI j) xL) (kk : ∀ M1' M2', Rl M1' M2' → ll_Go xL xs kc ks 1135 [some (.inr 4000), some (.inr 0), some (.inr 1), some (.inl x3)] [] S_c M1' S_m M2') : ll_Go xL xs kc ks 472 [some (.inr 4000), some (.inr 0), some (.inr 1), some (.inl x3)] [] S_c M1 S_m M2 := by
  obtain ⟨r, r2, M1', M2', e1, e2, hR⟩ := hE (xs (Int32.toNatClampNeg (x3 + 1))) (xs (Int32.toNatClampNeg (x3 + 2))) (xs (Int32.toNatClampNeg (x3 + 3))) M1 M2 hR
  refine l_aload_n (q := 473) dL_law_472 rfl rfl ?_
  refine l_aload_n (q := 474) dL_law_473 rfl rfl ?_
  refine l_iload_n (q := 475) dL_law_474 rfl rfl ?_
  refine l_iconst (v := 1) (q := 476) dL_law_475 (by decide) rfl ?_
  refine l_iadd (q := 477) dL_law_476 rfl ?_
  refine l_sld (v := xs (Int32.toNatClampNeg (x3 + 1))) (q := 478) dL_law_477 (h6 1 (by decide)) rfl rfl ?_
  refine l_aload_n (q := 479) dL_law_478 rfl rfl ?_
  refine l_iload_n (q := 480) dL_law_479 rfl rfl ?_
  refine l_iconst (v := 2) (q := 481) dL_law_480 (by decide) rfl ?_
  refine l_iadd (q := 482) dL_law_481 rfl ?_
  refine l_sld (v := xs (Int32.toNatClampNeg (x3 + 2))) (q := 483) dL_law_482 (h6 2 (by decide)) rfl rfl ?_
  refine l_aload_n (q := 484) dL_law_483 rfl rfl ?_
  refine l_iload_n (q := 485) dL_law_484 rfl rfl ?_
  refine l_iconst (v := 3) (q := 486) dL_law_485 (by decide) rfl ?_
  refine l_iadd (q := 487) dL_law_486 rfl ?_
  refine l_sld (v := xs (Int32.toNatClampNeg (x3 + 3))) (q := 488) dL_law_487 (h6 3 (by decide)) rfl rfl ?_
  refine l_call1i (st := []) (q := 491) [(xs (Int32.toNatClampNeg (x3 + 1))), (xs (Int32.toNatClampNeg (x3 + 2))), (xs (Int32.toNatClampNeg (x3 + 3)))] kc_L_58 sc_c_0 dL_law_488 rfl rfl (Nat.le_of_ble_eq_true rfl) (Nat.le_of_ble_eq_true rfl) (by decide) rfl (t_cl_10 (xs (Int32.toNatClampNeg (x3 + 1))) (xs (Int32.toNatClampNeg (x3 + 2))) (xs (Int32.toNatClampNeg (x3 + 3))) M1 r M1' e1) ?_
  refine l_pop (q := 492) dL_law_491 rfl ?_
  refine l_aload_n (q := 493) dL_law_492 rfl rfl ?_
  refine l_aload_n (q := 494) dL_law_493 rfl rfl ?_
  refine l_iload_n (q := 495) dL_law_494 rfl rfl ?_
  refine l_iconst (v := 1) (q := 496) dL_law_495 (by decide) rfl ?_
  refine l_iadd (q := 497) dL_law_496 rfl ?_
  refine l_sld (v := xs (Int32.toNatClampNeg (x3 + 1))) (q := 498) dL_law_497 (h6 1 (by decide)) rfl rfl ?_
  refine l_aload_n (q := 499) dL_law_498 rfl rfl ?_
  refine l_iload_n (q := 500) dL_law_499 rfl rfl ?_
  refine l_iconst (v := 2) (q := 501) dL_law_500 (by decide) rfl ?_
  refine l_iadd (q := 502) dL_law_501 rfl ?_
  refine l_sld (v := xs (Int32.toNatClampNeg (x3 + 2))) (q := 503) dL_law_502 (h6 2 (by decide)) rfl rfl ?_
  refine l_aload_n (q := 504) dL_law_503 rfl rfl ?_
  refine l_iload_n (q := 505) dL_law_504 rfl rfl ?_
  refine l_iconst (v := 3) (q := 506) dL_law_505 (by decide) rfl ?_
  refine l_iadd (q := 507) dL_law_506 rfl ?_
  refine l_sld (v := xs (Int32.toNatClampNeg (x3 + 3))) (q := 508) dL_law_507 (h6 3 (by decide)) rfl rfl ?_
  refine l_call2i (st := []) (q := 511) [(xs (Int32.toNatClampNeg (x3 + 1))), (xs (Int32.toNatClampNeg (x3 + 2))), (xs (Int32.toNatClampNeg (x3 + 3)))] kc_L_62 sc_m_0 dL_law_508 rfl rfl (Nat.le_of_ble_eq_true rfl) (Nat.le_of_ble_eq_true rfl) (by decide) rfl (t_md_10 (xs (Int32.toNatClampNeg (x3 + 1))) (xs (Int32.toNatClampNeg (x3 + 2))) (xs (Int32.toNatClampNeg (x3 + 3))) M2 r2 M2' e2) ?_
  refine l_pop (q := 512) dL_law_511 rfl ?_
  refine l_goto 1135 dL_law_512 (by decide) ?_
  exact kk M1' M2' hR
set_option maxRecDepth 100000 in
set_option maxHeartbeats 1000000 in
theorem ll_case11 {Rl : mm_M → mm_M → Prop} {xL kc ks : Nat} {xs : Nat → Int32} {x3 : Int32} {M1 M2 : mm_M} (hE : ∀ (x1 x2 : Int32) (M1 M2 : mm_M), Rl M1 M2 → ∃ r r' M1' M2', cl_11 x1 x2 M1 = some (r, M1') ∧ md_11 x1 x2 M2 = some (r', M2') ∧ Rl M1' M2') (hR : Rl M1 M2) (h6 : ∀ j : Nat, j < 6 → vp_in (x3 + nI j) xL) (kk : ∀ M1' M2', Rl M1' M2' → ll_Go xL xs kc ks 1135 [some (.inr 4000), some (.inr 0), some (.inr 1), some (.inl x3)] [] S_c M1' S_m M2') : ll_Go xL xs kc ks 515 [some (.inr 4000), some (.inr 0), some (.inr 1), some (.inl x3)] [] S_c M1 S_m M2 := by
  obtain ⟨r, r2, M1', M2', e1, e2, hR⟩ := hE (xs (Int32.toNatClampNeg (x3 + 1))) (xs (Int32.toNatClampNeg (x3 + 2))) M1 M2 hR
  refine l_aload_n (q := 516) dL_law_515 rfl rfl ?_
  refine l_aload_n (q := 517) dL_law_516 rfl rfl ?_
  refine l_iload_n (q := 518) dL_law_517 rfl rfl ?_
  refine l_iconst (v := 1) (q := 519) dL_law_518 (by decide) rfl ?_
  refine l_iadd (q := 520) dL_law_519 rfl ?_
  refine l_sld (v := xs (Int32.toNatClampNeg (x3 + 1))) (q := 521) dL_law_520 (h6 1 (by decide)) rfl rfl ?_
  refine l_aload_n (q := 522) dL_law_521 rfl rfl ?_
  refine l_iload_n (q := 523) dL_law_522 rfl rfl ?_
  refine l_iconst (v := 2) (q := 524) dL_law_523 (by decide) rfl ?_
  refine l_iadd (q := 525) dL_law_524 rfl ?_
  refine l_sld (v := xs (Int32.toNatClampNeg (x3 + 2))) (q := 526) dL_law_525 (h6 2 (by decide)) rfl rfl ?_
  refine l_call1i (st := []) (q := 529) [(xs (Int32.toNatClampNeg (x3 + 1))), (xs (Int32.toNatClampNeg (x3 + 2)))] kc_L_63 sc_c_0 dL_law_526 rfl rfl (Nat.le_of_ble_eq_true rfl) (Nat.le_of_ble_eq_true rfl) (by decide) rfl (t_cl_11 (xs (Int32.toNatClampNeg (x3 + 1))) (xs (Int32.toNatClampNeg (x3 + 2))) M1 r M1' e1) ?_
  refine l_pop (q := 530) dL_law_529 rfl ?_
  refine l_aload_n (q := 531) dL_law_530 rfl rfl ?_
  refine l_aload_n (q := 532) dL_law_531 rfl rfl ?_
  refine l_iload_n (q := 533) dL_law_532 rfl rfl ?_
  refine l_iconst (v := 1) (q := 534) dL_law_533 (by decide) rfl ?_
  refine l_iadd (q := 535) dL_law_534 rfl ?_
  refine l_sld (v := xs (Int32.toNatClampNeg (x3 + 1))) (q := 536) dL_law_535 (h6 1 (by decide)) rfl rfl ?_
  refine l_aload_n (q := 537) dL_law_536 rfl rfl ?_
  refine l_iload_n (q := 538) dL_law_537 rfl rfl ?_
  refine l_iconst (v := 2) (q := 539) dL_law_538 (by decide) rfl ?_
  refine l_iadd (q := 540) dL_law_539 rfl ?_
  refine l_sld (v := xs (Int32.toNatClampNeg (x3 + 2))) (q := 541) dL_law_540 (h6 2 (by decide)) rfl rfl ?_
  refine l_call2i (st := []) (q := 544) [(xs (Int32.toNatClampNeg (x3 + 1))), (xs (Int32.toNatClampNeg (x3 + 2)))] kc_L_66 sc_m_0 dL_law_541 rfl rfl (Nat.le_of_ble_eq_true rfl) (Nat.le_of_ble_eq_true rfl) (by decide) rfl (t_md_11 (xs (Int32.toNatClampNeg (x3 + 1))) (xs (Int32.toNatClampNeg (x3 + 2))) M2 r2 M2' e2) ?_
  refine l_pop (q := 545) dL_law_544 rfl ?_
  refine l_goto 1135 dL_law_545 (by decide) ?_
  exact kk M1' M2' hR
set_option maxRecDepth 100000 in
set_option maxHeartbeats 1000000 in
theorem ll_case12 {Rl : mm_M → mm_M → Prop} {xL kc ks : Nat} {xs : Nat → Int32} {x3 : Int32} {M1 M2 : mm_M} (hE : ∀ (x1 x2 : Int32) (M1 M2 : mm_M), Rl M1 M2 → ∃ r r' M1' M2', cl_12 x1 x2 M1 = some (r, M1') ∧ md_12 x1 x2 M2 = some (r', M2') ∧ Rl M1' M2') (hR : Rl M1 M2) (h6 : ∀ j : Nat, j < 6 → vp_in (x3 + nI j) xL) (kk : ∀ M1' M2', Rl M1' M2' → ll_Go xL xs kc ks 1135 [some (.inr 4000), some (.inr 0), some (.inr 1), some (.inl x3)] [] S_c M1' S_m M2') : ll_Go xL xs kc ks 548 [some (.inr 4000), some (.inr 0), some (.inr 1), some (.inl x3)] [] S_c M1 S_m M2 := by
  obtain ⟨r, r2, M1', M2', e1, e2, hR⟩ := hE (xs (Int32.toNatClampNeg (x3 + 1))) (xs (Int32.toNatClampNeg (x3 + 2))) M1 M2 hR
  refine l_aload_n (q := 549) dL_law_548 rfl rfl ?_
  refine l_aload_n (q := 550) dL_law_549 rfl rfl ?_
  refine l_iload_n (q := 551) dL_law_550 rfl rfl ?_
  refine l_iconst (v := 1) (q := 552) dL_law_551 (by decide) rfl ?_
  refine l_iadd (q := 553) dL_law_552 rfl ?_
  refine l_sld (v := xs (Int32.toNatClampNeg (x3 + 1))) (q := 554) dL_law_553 (h6 1 (by decide)) rfl rfl ?_
  refine l_aload_n (q := 555) dL_law_554 rfl rfl ?_
  refine l_iload_n (q := 556) dL_law_555 rfl rfl ?_
  refine l_iconst (v := 2) (q := 557) dL_law_556 (by decide) rfl ?_
  refine l_iadd (q := 558) dL_law_557 rfl ?_
  refine l_sld (v := xs (Int32.toNatClampNeg (x3 + 2))) (q := 559) dL_law_558 (h6 2 (by decide)) rfl rfl ?_
  refine l_call1i (st := []) (q := 562) [(xs (Int32.toNatClampNeg (x3 + 1))), (xs (Int32.toNatClampNeg (x3 + 2)))] kc_L_67 sc_c_0 dL_law_559 rfl rfl (Nat.le_of_ble_eq_true rfl) (Nat.le_of_ble_eq_true rfl) (by decide) rfl (t_cl_12 (xs (Int32.toNatClampNeg (x3 + 1))) (xs (Int32.toNatClampNeg (x3 + 2))) M1 r M1' e1) ?_
  refine l_pop (q := 563) dL_law_562 rfl ?_
  refine l_aload_n (q := 564) dL_law_563 rfl rfl ?_
  refine l_aload_n (q := 565) dL_law_564 rfl rfl ?_
  refine l_iload_n (q := 566) dL_law_565 rfl rfl ?_
  refine l_iconst (v := 1) (q := 567) dL_law_566 (by decide) rfl ?_
  refine l_iadd (q := 568) dL_law_567 rfl ?_
  refine l_sld (v := xs (Int32.toNatClampNeg (x3 + 1))) (q := 569) dL_law_568 (h6 1 (by decide)) rfl rfl ?_
  refine l_aload_n (q := 570) dL_law_569 rfl rfl ?_
  refine l_iload_n (q := 571) dL_law_570 rfl rfl ?_
  refine l_iconst (v := 2) (q := 572) dL_law_571 (by decide) rfl ?_
  refine l_iadd (q := 573) dL_law_572 rfl ?_
  refine l_sld (v := xs (Int32.toNatClampNeg (x3 + 2))) (q := 574) dL_law_573 (h6 2 (by decide)) rfl rfl ?_
  refine l_call2i (st := []) (q := 577) [(xs (Int32.toNatClampNeg (x3 + 1))), (xs (Int32.toNatClampNeg (x3 + 2)))] kc_L_70 sc_m_0 dL_law_574 rfl rfl (Nat.le_of_ble_eq_true rfl) (Nat.le_of_ble_eq_true rfl) (by decide) rfl (t_md_12 (xs (Int32.toNatClampNeg (x3 + 1))) (xs (Int32.toNatClampNeg (x3 + 2))) M2 r2 M2' e2) ?_
  refine l_pop (q := 578) dL_law_577 rfl ?_
  refine l_goto 1135 dL_law_578 (by decide) ?_
  exact kk M1' M2' hR
set_option maxRecDepth 100000 in
set_option maxHeartbeats 1000000 in
theorem ll_case13 {Rl : mm_M → mm_M → Prop} {xL kc ks : Nat} {xs : Nat → Int32} {x3 : Int32} {M1 M2 : mm_M} (hE : ∀ (x1 x2 x3 : Int32) (M1 M2 : mm_M), Rl M1 M2 → ∃ r r' M1' M2', cl_13 x1 x2 x3 M1 = some (r, M1') ∧ md_13 x1 x2 x3 M2 = some (r', M2') ∧ Rl M1' M2') (hR : Rl M1 M2) (h6 : ∀ j : Nat, j < 6 → vp_in (x3 + nI j) xL) (kk : ∀ M1' M2', Rl M1' M2' → ll_Go xL xs kc ks 1135 [some (.inr 4000), some (.inr 0), some (.inr 1), some (.inl x3)] [] S_c M1' S_m M2') : ll_Go xL xs kc ks 581 [some (.inr 4000), some (.inr 0), some (.inr 1), some (.inl x3)] [] S_c M1 S_m M2 := by
  obtain ⟨r, r2, M1', M2', e1, e2, hR⟩ := hE (xs (Int32.toNatClampNeg (x3 + 1))) (xs (Int32.toNatClampNeg (x3 + 2))) (xs (Int32.toNatClampNeg (x3 + 3))) M1 M2 hR
  refine l_aload_n (q := 582) dL_law_581 rfl rfl ?_
  refine l_aload_n (q := 583) dL_law_582 rfl rfl ?_
  refine l_iload_n (q := 584) dL_law_583 rfl rfl ?_
  refine l_iconst (v := 1) (q := 585) dL_law_584 (by decide) rfl ?_
  refine l_iadd (q := 586) dL_law_585 rfl ?_
  refine l_sld (v := xs (Int32.toNatClampNeg (x3 + 1))) (q := 587) dL_law_586 (h6 1 (by decide)) rfl rfl ?_
  refine l_aload_n (q := 588) dL_law_587 rfl rfl ?_
  refine l_iload_n (q := 589) dL_law_588 rfl rfl ?_
  refine l_iconst (v := 2) (q := 590) dL_law_589 (by decide) rfl ?_
  refine l_iadd (q := 591) dL_law_590 rfl ?_
  refine l_sld (v := xs (Int32.toNatClampNeg (x3 + 2))) (q := 592) dL_law_591 (h6 2 (by decide)) rfl rfl ?_
  refine l_aload_n (q := 593) dL_law_592 rfl rfl ?_
  refine l_iload_n (q := 594) dL_law_593 rfl rfl ?_
  refine l_iconst (v := 3) (q := 595) dL_law_594 (by decide) rfl ?_
  refine l_iadd (q := 596) dL_law_595 rfl ?_
  refine l_sld (v := xs (Int32.toNatClampNeg (x3 + 3))) (q := 597) dL_law_596 (h6 3 (by decide)) rfl rfl ?_
  refine l_call1i (st := []) (q := 600) [(xs (Int32.toNatClampNeg (x3 + 1))), (xs (Int32.toNatClampNeg (x3 + 2))), (xs (Int32.toNatClampNeg (x3 + 3)))] kc_L_71 sc_c_0 dL_law_597 rfl rfl (Nat.le_of_ble_eq_true rfl) (Nat.le_of_ble_eq_true rfl) (by decide) rfl (t_cl_13 (xs (Int32.toNatClampNeg (x3 + 1))) (xs (Int32.toNatClampNeg (x3 + 2))) (xs (Int32.toNatClampNeg (x3 + 3))) M1 r M1' e1) ?_
  refine l_pop (q := 601) dL_law_600 rfl ?_
  refine l_aload_n (q := 602) dL_law_601 rfl rfl ?_
  refine l_aload_n (q := 603) dL_law_602 rfl rfl ?_
  refine l_iload_n (q := 604) dL_law_603 rfl rfl ?_
  refine l_iconst (v := 1) (q := 605) dL_law_604 (by decide) rfl ?_
  refine l_iadd (q := 606) dL_law_605 rfl ?_
  refine l_sld (v := xs (Int32.toNatClampNeg (x3 + 1))) (q := 607) dL_law_606 (h6 1 (by decide)) rfl rfl ?_
  refine l_aload_n (q := 608) dL_law_607 rfl rfl ?_
  refine l_iload_n (q := 609) dL_law_608 rfl rfl ?_
  refine l_iconst (v := 2) (q := 610) dL_law_609 (by decide) rfl ?_
  refine l_iadd (q := 611) dL_law_610 rfl ?_
  refine l_sld (v := xs (Int32.toNatClampNeg (x3 + 2))) (q := 612) dL_law_611 (h6 2 (by decide)) rfl rfl ?_
  refine l_aload_n (q := 613) dL_law_612 rfl rfl ?_
  refine l_iload_n (q := 614) dL_law_613 rfl rfl ?_
  refine l_iconst (v := 3) (q := 615) dL_law_614 (by decide) rfl ?_
  refine l_iadd (q := 616) dL_law_615 rfl ?_
  refine l_sld (v := xs (Int32.toNatClampNeg (x3 + 3))) (q := 617) dL_law_616 (h6 3 (by decide)) rfl rfl ?_
  refine l_call2i (st := []) (q := 620) [(xs (Int32.toNatClampNeg (x3 + 1))), (xs (Int32.toNatClampNeg (x3 + 2))), (xs (Int32.toNatClampNeg (x3 + 3)))] kc_L_74 sc_m_0 dL_law_617 rfl rfl (Nat.le_of_ble_eq_true rfl) (Nat.le_of_ble_eq_true rfl) (by decide) rfl (t_md_13 (xs (Int32.toNatClampNeg (x3 + 1))) (xs (Int32.toNatClampNeg (x3 + 2))) (xs (Int32.toNatClampNeg (x3 + 3))) M2 r2 M2' e2) ?_
  refine l_pop (q := 621) dL_law_620 rfl ?_
  refine l_goto 1135 dL_law_621 (by decide) ?_
  exact kk M1' M2' hR
set_option maxRecDepth 100000 in
set_option maxHeartbeats 1000000 in
theorem ll_case14 {Rl : mm_M → mm_M → Prop} {xL kc ks : Nat} {xs : Nat → Int32} {x3 : Int32} {M1 M2 : mm_M} (hE : ∀ (x1 x2 : Int32) (M1 M2 : mm_M), Rl M1 M2 → ∃ r r' M1' M2', cl_14 x1 x2 M1 = some (r, M1') ∧ md_14 x1 x2 M2 = some (r', M2') ∧ Rl M1' M2') (hR : Rl M1 M2) (h6 : ∀ j : Nat, j < 6 → vp_in (x3 + nI j) xL) (kk : ∀ M1' M2', Rl M1' M2' → ll_Go xL xs kc ks 1135 [some (.inr 4000), some (.inr 0), some (.inr 1), some (.inl x3)] [] S_c M1' S_m M2') : ll_Go xL xs kc ks 624 [some (.inr 4000), some (.inr 0), some (.inr 1), some (.inl x3)] [] S_c M1 S_m M2 := by
  obtain ⟨r, r2, M1', M2', e1, e2, hR⟩ := hE (xs (Int32.toNatClampNeg (x3 + 1))) (xs (Int32.toNatClampNeg (x3 + 2))) M1 M2 hR
  refine l_aload_n (q := 625) dL_law_624 rfl rfl ?_
  refine l_aload_n (q := 626) dL_law_625 rfl rfl ?_
  refine l_iload_n (q := 627) dL_law_626 rfl rfl ?_
  refine l_iconst (v := 1) (q := 628) dL_law_627 (by decide) rfl ?_
  refine l_iadd (q := 629) dL_law_628 rfl ?_
  refine l_sld (v := xs (Int32.toNatClampNeg (x3 + 1))) (q := 630) dL_law_629 (h6 1 (by decide)) rfl rfl ?_
  refine l_aload_n (q := 631) dL_law_630 rfl rfl ?_
  refine l_iload_n (q := 632) dL_law_631 rfl rfl ?_
  refine l_iconst (v := 2) (q := 633) dL_law_632 (by decide) rfl ?_
  refine l_iadd (q := 634) dL_law_633 rfl ?_
  refine l_sld (v := xs (Int32.toNatClampNeg (x3 + 2))) (q := 635) dL_law_634 (h6 2 (by decide)) rfl rfl ?_
  refine l_call1i (st := []) (q := 638) [(xs (Int32.toNatClampNeg (x3 + 1))), (xs (Int32.toNatClampNeg (x3 + 2)))] kc_L_75 sc_c_0 dL_law_635 rfl rfl (Nat.le_of_ble_eq_true rfl) (Nat.le_of_ble_eq_true rfl) (by decide) rfl (t_cl_14 (xs (Int32.toNatClampNeg (x3 + 1))) (xs (Int32.toNatClampNeg (x3 + 2))) M1 r M1' e1) ?_
  refine l_pop (q := 639) dL_law_638 rfl ?_
  refine l_aload_n (q := 640) dL_law_639 rfl rfl ?_
  refine l_aload_n (q := 641) dL_law_640 rfl rfl ?_
  refine l_iload_n (q := 642) dL_law_641 rfl rfl ?_
  refine l_iconst (v := 1) (q := 643) dL_law_642 (by decide) rfl ?_
  refine l_iadd (q := 644) dL_law_643 rfl ?_
  refine l_sld (v := xs (Int32.toNatClampNeg (x3 + 1))) (q := 645) dL_law_644 (h6 1 (by decide)) rfl rfl ?_
  refine l_aload_n (q := 646) dL_law_645 rfl rfl ?_
  refine l_iload_n (q := 647) dL_law_646 rfl rfl ?_
  refine l_iconst (v := 2) (q := 648) dL_law_647 (by decide) rfl ?_
  refine l_iadd (q := 649) dL_law_648 rfl ?_
  refine l_sld (v := xs (Int32.toNatClampNeg (x3 + 2))) (q := 650) dL_law_649 (h6 2 (by decide)) rfl rfl ?_
  refine l_call2i (st := []) (q := 653) [(xs (Int32.toNatClampNeg (x3 + 1))), (xs (Int32.toNatClampNeg (x3 + 2)))] kc_L_78 sc_m_0 dL_law_650 rfl rfl (Nat.le_of_ble_eq_true rfl) (Nat.le_of_ble_eq_true rfl) (by decide) rfl (t_md_14 (xs (Int32.toNatClampNeg (x3 + 1))) (xs (Int32.toNatClampNeg (x3 + 2))) M2 r2 M2' e2) ?_
  refine l_pop (q := 654) dL_law_653 rfl ?_
  refine l_goto 1135 dL_law_654 (by decide) ?_
  exact kk M1' M2' hR
set_option maxRecDepth 100000 in
set_option maxHeartbeats 1000000 in
theorem ll_case15 {Rl : mm_M → mm_M → Prop} {xL kc ks : Nat} {xs : Nat → Int32} {x3 : Int32} {M1 M2 : mm_M} (hE : ∀ (x1 x2 : Int32) (M1 M2 : mm_M), Rl M1 M2 → ∃ r r' M1' M2', cl_15 x1 x2 M1 = some (r, M1') ∧ md_15 x1 x2 M2 = some (r', M2') ∧ Rl M1' M2') (hR : Rl M1 M2) (h6 : ∀ j : Nat, j < 6 → vp_in (x3 + nI j) xL) (kk : ∀ M1' M2', Rl M1' M2' → ll_Go xL xs kc ks 1135 [some (.inr 4000), some (.inr 0), some (.inr 1), some (.inl x3)] [] S_c M1' S_m M2') : ll_Go xL xs kc ks 657 [some (.inr 4000), some (.inr 0), some (.inr 1), some (.inl x3)] [] S_c M1 S_m M2 := by
  obtain ⟨r, r2, M1', M2', e1, e2, hR⟩ := hE (xs (Int32.toNatClampNeg (x3 + 1))) (xs (Int32.toNatClampNeg (x3 + 2))) M1 M2 hR
  refine l_aload_n (q := 658) dL_law_657 rfl rfl ?_
  refine l_aload_n (q := 659) dL_law_658 rfl rfl ?_
  refine l_iload_n (q := 660) dL_law_659 rfl rfl ?_
  refine l_iconst (v := 1) (q := 661) dL_law_660 (by decide) rfl ?_
  refine l_iadd (q := 662) dL_law_661 rfl ?_
  refine l_sld (v := xs (Int32.toNatClampNeg (x3 + 1))) (q := 663) dL_law_662 (h6 1 (by decide)) rfl rfl ?_
  refine l_aload_n (q := 664) dL_law_663 rfl rfl ?_
  refine l_iload_n (q := 665) dL_law_664 rfl rfl ?_
  refine l_iconst (v := 2) (q := 666) dL_law_665 (by decide) rfl ?_
  refine l_iadd (q := 667) dL_law_666 rfl ?_
  refine l_sld (v := xs (Int32.toNatClampNeg (x3 + 2))) (q := 668) dL_law_667 (h6 2 (by decide)) rfl rfl ?_
  refine l_call1i (st := []) (q := 671) [(xs (Int32.toNatClampNeg (x3 + 1))), (xs (Int32.toNatClampNeg (x3 + 2)))] kc_L_79 sc_c_0 dL_law_668 rfl rfl (Nat.le_of_ble_eq_true rfl) (Nat.le_of_ble_eq_true rfl) (by decide) rfl (t_cl_15 (xs (Int32.toNatClampNeg (x3 + 1))) (xs (Int32.toNatClampNeg (x3 + 2))) M1 r M1' e1) ?_
  refine l_pop (q := 672) dL_law_671 rfl ?_
  refine l_aload_n (q := 673) dL_law_672 rfl rfl ?_
  refine l_aload_n (q := 674) dL_law_673 rfl rfl ?_
  refine l_iload_n (q := 675) dL_law_674 rfl rfl ?_
  refine l_iconst (v := 1) (q := 676) dL_law_675 (by decide) rfl ?_
  refine l_iadd (q := 677) dL_law_676 rfl ?_
  refine l_sld (v := xs (Int32.toNatClampNeg (x3 + 1))) (q := 678) dL_law_677 (h6 1 (by decide)) rfl rfl ?_
  refine l_aload_n (q := 679) dL_law_678 rfl rfl ?_
  refine l_iload_n (q := 680) dL_law_679 rfl rfl ?_
  refine l_iconst (v := 2) (q := 681) dL_law_680 (by decide) rfl ?_
  refine l_iadd (q := 682) dL_law_681 rfl ?_
  refine l_sld (v := xs (Int32.toNatClampNeg (x3 + 2))) (q := 683) dL_law_682 (h6 2 (by decide)) rfl rfl ?_
  refine l_call2i (st := []) (q := 686) [(xs (Int32.toNatClampNeg (x3 + 1))), (xs (Int32.toNatClampNeg (x3 + 2)))] kc_L_82 sc_m_0 dL_law_683 rfl rfl (Nat.le_of_ble_eq_true rfl) (Nat.le_of_ble_eq_true rfl) (by decide) rfl (t_md_15 (xs (Int32.toNatClampNeg (x3 + 1))) (xs (Int32.toNatClampNeg (x3 + 2))) M2 r2 M2' e2) ?_
  refine l_pop (q := 687) dL_law_686 rfl ?_
  refine l_goto 1135 dL_law_687 (by decide) ?_
  exact kk M1' M2' hR
set_option maxRecDepth 100000 in
set_option maxHeartbeats 1000000 in
theorem ll_case16 {Rl : mm_M → mm_M → Prop} {xL kc ks : Nat} {xs : Nat → Int32} {x3 : Int32} {M1 M2 : mm_M} (hE : ∀ (x1 : Int32) (M1 M2 : mm_M), Rl M1 M2 → ∃ r r' M1' M2', cl_16 x1 M1 = some (r, M1') ∧ md_16 x1 M2 = some (r', M2') ∧ Rl M1' M2') (hR : Rl M1 M2) (h6 : ∀ j : Nat, j < 6 → vp_in (x3 + nI j) xL) (kk : ∀ M1' M2', Rl M1' M2' → ll_Go xL xs kc ks 1135 [some (.inr 4000), some (.inr 0), some (.inr 1), some (.inl x3)] [] S_c M1' S_m M2') : ll_Go xL xs kc ks 690 [some (.inr 4000), some (.inr 0), some (.inr 1), some (.inl x3)] [] S_c M1 S_m M2 := by
  obtain ⟨r, r2, M1', M2', e1, e2, hR⟩ := hE (xs (Int32.toNatClampNeg (x3 + 1))) M1 M2 hR
  refine l_aload_n (q := 691) dL_law_690 rfl rfl ?_
  refine l_aload_n (q := 692) dL_law_691 rfl rfl ?_
  refine l_iload_n (q := 693) dL_law_692 rfl rfl ?_
  refine l_iconst (v := 1) (q := 694) dL_law_693 (by decide) rfl ?_
  refine l_iadd (q := 695) dL_law_694 rfl ?_
  refine l_sld (v := xs (Int32.toNatClampNeg (x3 + 1))) (q := 696) dL_law_695 (h6 1 (by decide)) rfl rfl ?_
  refine l_call1i (st := []) (q := 699) [(xs (Int32.toNatClampNeg (x3 + 1)))] kc_L_83 sc_c_0 dL_law_696 rfl rfl (Nat.le_of_ble_eq_true rfl) (Nat.le_of_ble_eq_true rfl) (by decide) rfl (t_cl_16 (xs (Int32.toNatClampNeg (x3 + 1))) M1 r M1' e1) ?_
  refine l_pop (q := 700) dL_law_699 rfl ?_
  refine l_aload_n (q := 701) dL_law_700 rfl rfl ?_
  refine l_aload_n (q := 702) dL_law_701 rfl rfl ?_
  refine l_iload_n (q := 703) dL_law_702 rfl rfl ?_
  refine l_iconst (v := 1) (q := 704) dL_law_703 (by decide) rfl ?_
  refine l_iadd (q := 705) dL_law_704 rfl ?_
  refine l_sld (v := xs (Int32.toNatClampNeg (x3 + 1))) (q := 706) dL_law_705 (h6 1 (by decide)) rfl rfl ?_
  refine l_call2i (st := []) (q := 709) [(xs (Int32.toNatClampNeg (x3 + 1)))] kc_L_86 sc_m_0 dL_law_706 rfl rfl (Nat.le_of_ble_eq_true rfl) (Nat.le_of_ble_eq_true rfl) (by decide) rfl (t_md_16 (xs (Int32.toNatClampNeg (x3 + 1))) M2 r2 M2' e2) ?_
  refine l_pop (q := 710) dL_law_709 rfl ?_
  refine l_goto 1135 dL_law_710 (by decide) ?_
  exact kk M1' M2' hR
set_option maxRecDepth 100000 in
set_option maxHeartbeats 1000000 in
theorem ll_case17 {Rl : mm_M → mm_M → Prop} {xL kc ks : Nat} {xs : Nat → Int32} {x3 : Int32} {M1 M2 : mm_M} (hE : ∀ (x1 x2 x3 : Int32) (M1 M2 : mm_M), Rl M1 M2 → ∃ r r' M1' M2', cl_17 x1 x2 x3 M1 = some (r, M1') ∧ md_17 x1 x2 x3 M2 = some (r', M2') ∧ Rl M1' M2') (hR : Rl M1 M2) (h6 : ∀ j : Nat, j < 6 → vp_in (x3 + nI j) xL) (kk : ∀ M1' M2', Rl M1' M2' → ll_Go xL xs kc ks 1135 [some (.inr 4000), some (.inr 0), some (.inr 1), some (.inl x3)] [] S_c M1' S_m M2') : ll_Go xL xs kc ks 713 [some (.inr 4000), some (.inr 0), some (.inr 1), some (.inl x3)] [] S_c M1 S_m M2 := by
  obtain ⟨r, r2, M1', M2', e1, e2, hR⟩ := hE (xs (Int32.toNatClampNeg (x3 + 1))) (xs (Int32.toNatClampNeg (x3 + 2))) (xs (Int32.toNatClampNeg (x3 + 3))) M1 M2 hR
  refine l_aload_n (q := 714) dL_law_713 rfl rfl ?_
  refine l_aload_n (q := 715) dL_law_714 rfl rfl ?_
  refine l_iload_n (q := 716) dL_law_715 rfl rfl ?_
  refine l_iconst (v := 1) (q := 717) dL_law_716 (by decide) rfl ?_
  refine l_iadd (q := 718) dL_law_717 rfl ?_
  refine l_sld (v := xs (Int32.toNatClampNeg (x3 + 1))) (q := 719) dL_law_718 (h6 1 (by decide)) rfl rfl ?_
  refine l_aload_n (q := 720) dL_law_719 rfl rfl ?_
  refine l_iload_n (q := 721) dL_law_720 rfl rfl ?_
  refine l_iconst (v := 2) (q := 722) dL_law_721 (by decide) rfl ?_
  refine l_iadd (q := 723) dL_law_722 rfl ?_
  refine l_sld (v := xs (Int32.toNatClampNeg (x3 + 2))) (q := 724) dL_law_723 (h6 2 (by decide)) rfl rfl ?_
  refine l_aload_n (q := 725) dL_law_724 rfl rfl ?_
  refine l_iload_n (q := 726) dL_law_725 rfl rfl ?_
  refine l_iconst (v := 3) (q := 727) dL_law_726 (by decide) rfl ?_
  refine l_iadd (q := 728) dL_law_727 rfl ?_
  refine l_sld (v := xs (Int32.toNatClampNeg (x3 + 3))) (q := 729) dL_law_728 (h6 3 (by decide)) rfl rfl ?_
  refine l_call1i (st := []) (q := 732) [(xs (Int32.toNatClampNeg (x3 + 1))), (xs (Int32.toNatClampNeg (x3 + 2))), (xs (Int32.toNatClampNeg (x3 + 3)))] kc_L_87 sc_c_0 dL_law_729 rfl rfl (Nat.le_of_ble_eq_true rfl) (Nat.le_of_ble_eq_true rfl) (by decide) rfl (t_cl_17 (xs (Int32.toNatClampNeg (x3 + 1))) (xs (Int32.toNatClampNeg (x3 + 2))) (xs (Int32.toNatClampNeg (x3 + 3))) M1 r M1' e1) ?_
  refine l_pop (q := 733) dL_law_732 rfl ?_
  refine l_aload_n (q := 734) dL_law_733 rfl rfl ?_
  refine l_aload_n (q := 735) dL_law_734 rfl rfl ?_
  refine l_iload_n (q := 736) dL_law_735 rfl rfl ?_
  refine l_iconst (v := 1) (q := 737) dL_law_736 (by decide) rfl ?_
  refine l_iadd (q := 738) dL_law_737 rfl ?_
  refine l_sld (v := xs (Int32.toNatClampNeg (x3 + 1))) (q := 739) dL_law_738 (h6 1 (by decide)) rfl rfl ?_
  refine l_aload_n (q := 740) dL_law_739 rfl rfl ?_
  refine l_iload_n (q := 741) dL_law_740 rfl rfl ?_
  refine l_iconst (v := 2) (q := 742) dL_law_741 (by decide) rfl ?_
  refine l_iadd (q := 743) dL_law_742 rfl ?_
  refine l_sld (v := xs (Int32.toNatClampNeg (x3 + 2))) (q := 744) dL_law_743 (h6 2 (by decide)) rfl rfl ?_
  refine l_aload_n (q := 745) dL_law_744 rfl rfl ?_
  refine l_iload_n (q := 746) dL_law_745 rfl rfl ?_
  refine l_iconst (v := 3) (q := 747) dL_law_746 (by decide) rfl ?_
  refine l_iadd (q := 748) dL_law_747 rfl ?_
  refine l_sld (v := xs (Int32.toNatClampNeg (x3 + 3))) (q := 749) dL_law_748 (h6 3 (by decide)) rfl rfl ?_
  refine l_call2i (st := []) (q := 752) [(xs (Int32.toNatClampNeg (x3 + 1))), (xs (Int32.toNatClampNeg (x3 + 2))), (xs (Int32.toNatClampNeg (x3 + 3)))] kc_L_90 sc_m_0 dL_law_749 rfl rfl (Nat.le_of_ble_eq_true rfl) (Nat.le_of_ble_eq_true rfl) (by decide) rfl (t_md_17 (xs (Int32.toNatClampNeg (x3 + 1))) (xs (Int32.toNatClampNeg (x3 + 2))) (xs (Int32.toNatClampNeg (x3 + 3))) M2 r2 M2' e2) ?_
  refine l_pop (q := 753) dL_law_752 rfl ?_
  refine l_goto 1135 dL_law_753 (by decide) ?_
  exact kk M1' M2' hR
set_option maxRecDepth 100000 in
set_option maxHeartbeats 1000000 in
theorem ll_case18 {Rl : mm_M → mm_M → Prop} {xL kc ks : Nat} {xs : Nat → Int32} {x3 : Int32} {M1 M2 : mm_M} (hE : ∀ (x1 : Int32) (M1 M2 : mm_M), Rl M1 M2 → ∃ r r' M1' M2', cl_18 x1 M1 = some (r, M1') ∧ md_18 x1 M2 = some (r', M2') ∧ Rl M1' M2') (hR : Rl M1 M2) (h6 : ∀ j : Nat, j < 6 → vp_in (x3 + nI j) xL) (kk : ∀ M1' M2', Rl M1' M2' → ll_Go xL xs kc ks 1135 [some (.inr 4000), some (.inr 0), some (.inr 1), some (.inl x3)] [] S_c M1' S_m M2') : ll_Go xL xs kc ks 756 [some (.inr 4000), some (.inr 0), some (.inr 1), some (.inl x3)] [] S_c M1 S_m M2 := by
  obtain ⟨r, r2, M1', M2', e1, e2, hR⟩ := hE (xs (Int32.toNatClampNeg (x3 + 1))) M1 M2 hR
  refine l_aload_n (q := 757) dL_law_756 rfl rfl ?_
  refine l_aload_n (q := 758) dL_law_757 rfl rfl ?_
  refine l_iload_n (q := 759) dL_law_758 rfl rfl ?_
  refine l_iconst (v := 1) (q := 760) dL_law_759 (by decide) rfl ?_
  refine l_iadd (q := 761) dL_law_760 rfl ?_
  refine l_sld (v := xs (Int32.toNatClampNeg (x3 + 1))) (q := 762) dL_law_761 (h6 1 (by decide)) rfl rfl ?_
  refine l_call1i (st := []) (q := 765) [(xs (Int32.toNatClampNeg (x3 + 1)))] kc_L_91 sc_c_0 dL_law_762 rfl rfl (Nat.le_of_ble_eq_true rfl) (Nat.le_of_ble_eq_true rfl) (by decide) rfl (t_cl_18 (xs (Int32.toNatClampNeg (x3 + 1))) M1 r M1' e1) ?_
  refine l_pop (q := 766) dL_law_765 rfl ?_
  refine l_aload_n (q := 767) dL_law_766 rfl rfl ?_
  refine l_aload_n (q := 768) dL_law_767 rfl rfl ?_
  refine l_iload_n (q := 769) dL_law_768 rfl rfl ?_
  refine l_iconst (v := 1) (q := 770) dL_law_769 (by decide) rfl ?_
  refine l_iadd (q := 771) dL_law_770 rfl ?_
  refine l_sld (v := xs (Int32.toNatClampNeg (x3 + 1))) (q := 772) dL_law_771 (h6 1 (by decide)) rfl rfl ?_
  refine l_call2i (st := []) (q := 775) [(xs (Int32.toNatClampNeg (x3 + 1)))] kc_L_94 sc_m_0 dL_law_772 rfl rfl (Nat.le_of_ble_eq_true rfl) (Nat.le_of_ble_eq_true rfl) (by decide) rfl (t_md_18 (xs (Int32.toNatClampNeg (x3 + 1))) M2 r2 M2' e2) ?_
  refine l_pop (q := 776) dL_law_775 rfl ?_
  refine l_goto 1135 dL_law_776 (by decide) ?_
  exact kk M1' M2' hR
set_option maxRecDepth 100000 in
set_option maxHeartbeats 1000000 in
theorem ll_case19 {Rl : mm_M → mm_M → Prop} {xL kc ks : Nat} {xs : Nat → Int32} {x3 : Int32} {M1 M2 : mm_M} (hE : ∀ (x1 x2 : Int32) (M1 M2 : mm_M), Rl M1 M2 → ∃ r r' M1' M2', cl_19 x1 x2 M1 = some (r, M1') ∧ md_19 x1 x2 M2 = some (r', M2') ∧ Rl M1' M2') (hR : Rl M1 M2) (h6 : ∀ j : Nat, j < 6 → vp_in (x3 + nI j) xL) (kk : ∀ M1' M2', Rl M1' M2' → ll_Go xL xs kc ks 1135 [some (.inr 4000), some (.inr 0), some (.inr 1), some (.inl x3)] [] S_c M1' S_m M2') : ll_Go xL xs kc ks 779 [some (.inr 4000), some (.inr 0), some (.inr 1), some (.inl x3)] [] S_c M1 S_m M2 := by
  obtain ⟨r, r2, M1', M2', e1, e2, hR⟩ := hE (xs (Int32.toNatClampNeg (x3 + 1))) (xs (Int32.toNatClampNeg (x3 + 2))) M1 M2 hR
  refine l_aload_n (q := 780) dL_law_779 rfl rfl ?_
  refine l_aload_n (q := 781) dL_law_780 rfl rfl ?_
  refine l_iload_n (q := 782) dL_law_781 rfl rfl ?_
  refine l_iconst (v := 1) (q := 783) dL_law_782 (by decide) rfl ?_
  refine l_iadd (q := 784) dL_law_783 rfl ?_
  refine l_sld (v := xs (Int32.toNatClampNeg (x3 + 1))) (q := 785) dL_law_784 (h6 1 (by decide)) rfl rfl ?_
  refine l_aload_n (q := 786) dL_law_785 rfl rfl ?_
  refine l_iload_n (q := 787) dL_law_786 rfl rfl ?_
  refine l_iconst (v := 2) (q := 788) dL_law_787 (by decide) rfl ?_
  refine l_iadd (q := 789) dL_law_788 rfl ?_
  refine l_sld (v := xs (Int32.toNatClampNeg (x3 + 2))) (q := 790) dL_law_789 (h6 2 (by decide)) rfl rfl ?_
  refine l_call1i (st := []) (q := 793) [(xs (Int32.toNatClampNeg (x3 + 1))), (xs (Int32.toNatClampNeg (x3 + 2)))] kc_L_95 sc_c_0 dL_law_790 rfl rfl (Nat.le_of_ble_eq_true rfl) (Nat.le_of_ble_eq_true rfl) (by decide) rfl (t_cl_19 (xs (Int32.toNatClampNeg (x3 + 1))) (xs (Int32.toNatClampNeg (x3 + 2))) M1 r M1' e1) ?_
  refine l_pop (q := 794) dL_law_793 rfl ?_
  refine l_aload_n (q := 795) dL_law_794 rfl rfl ?_
  refine l_aload_n (q := 796) dL_law_795 rfl rfl ?_
  refine l_iload_n (q := 797) dL_law_796 rfl rfl ?_
  refine l_iconst (v := 1) (q := 798) dL_law_797 (by decide) rfl ?_
  refine l_iadd (q := 799) dL_law_798 rfl ?_
  refine l_sld (v := xs (Int32.toNatClampNeg (x3 + 1))) (q := 800) dL_law_799 (h6 1 (by decide)) rfl rfl ?_
  refine l_aload_n (q := 801) dL_law_800 rfl rfl ?_
  refine l_iload_n (q := 802) dL_law_801 rfl rfl ?_
  refine l_iconst (v := 2) (q := 803) dL_law_802 (by decide) rfl ?_
  refine l_iadd (q := 804) dL_law_803 rfl ?_
  refine l_sld (v := xs (Int32.toNatClampNeg (x3 + 2))) (q := 805) dL_law_804 (h6 2 (by decide)) rfl rfl ?_
  refine l_call2i (st := []) (q := 808) [(xs (Int32.toNatClampNeg (x3 + 1))), (xs (Int32.toNatClampNeg (x3 + 2)))] kc_L_98 sc_m_0 dL_law_805 rfl rfl (Nat.le_of_ble_eq_true rfl) (Nat.le_of_ble_eq_true rfl) (by decide) rfl (t_md_19 (xs (Int32.toNatClampNeg (x3 + 1))) (xs (Int32.toNatClampNeg (x3 + 2))) M2 r2 M2' e2) ?_
  refine l_pop (q := 809) dL_law_808 rfl ?_
  refine l_goto 1135 dL_law_809 (by decide) ?_
  exact kk M1' M2' hR
set_option maxRecDepth 100000 in
set_option maxHeartbeats 1000000 in
theorem ll_case20 {Rl : mm_M → mm_M → Prop} {xL kc ks : Nat} {xs : Nat → Int32} {x3 : Int32} {M1 M2 : mm_M} (hE : ∀ (x1 x2 : Int32) (M1 M2 : mm_M), Rl M1 M2 → ∃ r r' M1' M2', cl_20 x1 x2 M1 = some (r, M1') ∧ md_20 x1 x2 M2 = some (r', M2') ∧ Rl M1' M2') (hR : Rl M1 M2) (h6 : ∀ j : Nat, j < 6 → vp_in (x3 + nI j) xL) (kk : ∀ M1' M2', Rl M1' M2' → ll_Go xL xs kc ks 1135 [some (.inr 4000), some (.inr 0), some (.inr 1), some (.inl x3)] [] S_c M1' S_m M2') : ll_Go xL xs kc ks 812 [some (.inr 4000), some (.inr 0), some (.inr 1), some (.inl x3)] [] S_c M1 S_m M2 := by
  obtain ⟨r, r2, M1', M2', e1, e2, hR⟩ := hE (xs (Int32.toNatClampNeg (x3 + 1))) (xs (Int32.toNatClampNeg (x3 + 2))) M1 M2 hR
  refine l_aload_n (q := 813) dL_law_812 rfl rfl ?_
  refine l_aload_n (q := 814) dL_law_813 rfl rfl ?_
  refine l_iload_n (q := 815) dL_law_814 rfl rfl ?_
  refine l_iconst (v := 1) (q := 816) dL_law_815 (by decide) rfl ?_
  refine l_iadd (q := 817) dL_law_816 rfl ?_
  refine l_sld (v := xs (Int32.toNatClampNeg (x3 + 1))) (q := 818) dL_law_817 (h6 1 (by decide)) rfl rfl ?_
  refine l_aload_n (q := 819) dL_law_818 rfl rfl ?_
  refine l_iload_n (q := 820) dL_law_819 rfl rfl ?_
  refine l_iconst (v := 2) (q := 821) dL_law_820 (by decide) rfl ?_
  refine l_iadd (q := 822) dL_law_821 rfl ?_
  refine l_sld (v := xs (Int32.toNatClampNeg (x3 + 2))) (q := 823) dL_law_822 (h6 2 (by decide)) rfl rfl ?_
  refine l_call1i (st := []) (q := 826) [(xs (Int32.toNatClampNeg (x3 + 1))), (xs (Int32.toNatClampNeg (x3 + 2)))] kc_L_99 sc_c_0 dL_law_823 rfl rfl (Nat.le_of_ble_eq_true rfl) (Nat.le_of_ble_eq_true rfl) (by decide) rfl (t_cl_20 (xs (Int32.toNatClampNeg (x3 + 1))) (xs (Int32.toNatClampNeg (x3 + 2))) M1 r M1' e1) ?_
  refine l_pop (q := 827) dL_law_826 rfl ?_
  refine l_aload_n (q := 828) dL_law_827 rfl rfl ?_
  refine l_aload_n (q := 829) dL_law_828 rfl rfl ?_
  refine l_iload_n (q := 830) dL_law_829 rfl rfl ?_
  refine l_iconst (v := 1) (q := 831) dL_law_830 (by decide) rfl ?_
  refine l_iadd (q := 832) dL_law_831 rfl ?_
  refine l_sld (v := xs (Int32.toNatClampNeg (x3 + 1))) (q := 833) dL_law_832 (h6 1 (by decide)) rfl rfl ?_
  refine l_aload_n (q := 834) dL_law_833 rfl rfl ?_
  refine l_iload_n (q := 835) dL_law_834 rfl rfl ?_
  refine l_iconst (v := 2) (q := 836) dL_law_835 (by decide) rfl ?_
  refine l_iadd (q := 837) dL_law_836 rfl ?_
  refine l_sld (v := xs (Int32.toNatClampNeg (x3 + 2))) (q := 838) dL_law_837 (h6 2 (by decide)) rfl rfl ?_
  refine l_call2i (st := []) (q := 841) [(xs (Int32.toNatClampNeg (x3 + 1))), (xs (Int32.toNatClampNeg (x3 + 2)))] kc_L_102 sc_m_0 dL_law_838 rfl rfl (Nat.le_of_ble_eq_true rfl) (Nat.le_of_ble_eq_true rfl) (by decide) rfl (t_md_20 (xs (Int32.toNatClampNeg (x3 + 1))) (xs (Int32.toNatClampNeg (x3 + 2))) M2 r2 M2' e2) ?_
  refine l_pop (q := 842) dL_law_841 rfl ?_
  refine l_goto 1135 dL_law_842 (by decide) ?_
  exact kk M1' M2' hR
set_option maxRecDepth 100000 in
set_option maxHeartbeats 1000000 in
theorem ll_case21 {Rl : mm_M → mm_M → Prop} {xL kc ks : Nat} {xs : Nat → Int32} {x3 : Int32} {M1 M2 : mm_M} (hE : ∀ (x1 x2 : Int32) (M1 M2 : mm_M), Rl M1 M2 → ∃ r r' M1' M2', cl_21 x1 x2 M1 = some (r, M1') ∧ md_21 x1 x2 M2 = some (r', M2') ∧ Rl M1' M2') (hR : Rl M1 M2) (h6 : ∀ j : Nat, j < 6 → vp_in (x3 + nI j) xL) (kk : ∀ M1' M2', Rl M1' M2' → ll_Go xL xs kc ks 1135 [some (.inr 4000), some (.inr 0), some (.inr 1), some (.inl x3)] [] S_c M1' S_m M2') : ll_Go xL xs kc ks 845 [some (.inr 4000), some (.inr 0), some (.inr 1), some (.inl x3)] [] S_c M1 S_m M2 := by
  obtain ⟨r, r2, M1', M2', e1, e2, hR⟩ := hE (xs (Int32.toNatClampNeg (x3 + 1))) (xs (Int32.toNatClampNeg (x3 + 2))) M1 M2 hR
  refine l_aload_n (q := 846) dL_law_845 rfl rfl ?_
  refine l_aload_n (q := 847) dL_law_846 rfl rfl ?_
  refine l_iload_n (q := 848) dL_law_847 rfl rfl ?_
  refine l_iconst (v := 1) (q := 849) dL_law_848 (by decide) rfl ?_
  refine l_iadd (q := 850) dL_law_849 rfl ?_
  refine l_sld (v := xs (Int32.toNatClampNeg (x3 + 1))) (q := 851) dL_law_850 (h6 1 (by decide)) rfl rfl ?_
  refine l_aload_n (q := 852) dL_law_851 rfl rfl ?_
  refine l_iload_n (q := 853) dL_law_852 rfl rfl ?_
  refine l_iconst (v := 2) (q := 854) dL_law_853 (by decide) rfl ?_
  refine l_iadd (q := 855) dL_law_854 rfl ?_
  refine l_sld (v := xs (Int32.toNatClampNeg (x3 + 2))) (q := 856) dL_law_855 (h6 2 (by decide)) rfl rfl ?_
  refine l_call1i (st := []) (q := 859) [(xs (Int32.toNatClampNeg (x3 + 1))), (xs (Int32.toNatClampNeg (x3 + 2)))] kc_L_103 sc_c_0 dL_law_856 rfl rfl (Nat.le_of_ble_eq_true rfl) (Nat.le_of_ble_eq_true rfl) (by decide) rfl (t_cl_21 (xs (Int32.toNatClampNeg (x3 + 1))) (xs (Int32.toNatClampNeg (x3 + 2))) M1 r M1' e1) ?_
  refine l_pop (q := 860) dL_law_859 rfl ?_
  refine l_aload_n (q := 861) dL_law_860 rfl rfl ?_
  refine l_aload_n (q := 862) dL_law_861 rfl rfl ?_
  refine l_iload_n (q := 863) dL_law_862 rfl rfl ?_
  refine l_iconst (v := 1) (q := 864) dL_law_863 (by decide) rfl ?_
  refine l_iadd (q := 865) dL_law_864 rfl ?_
  refine l_sld (v := xs (Int32.toNatClampNeg (x3 + 1))) (q := 866) dL_law_865 (h6 1 (by decide)) rfl rfl ?_
  refine l_aload_n (q := 867) dL_law_866 rfl rfl ?_
  refine l_iload_n (q := 868) dL_law_867 rfl rfl ?_
  refine l_iconst (v := 2) (q := 869) dL_law_868 (by decide) rfl ?_
  refine l_iadd (q := 870) dL_law_869 rfl ?_
  refine l_sld (v := xs (Int32.toNatClampNeg (x3 + 2))) (q := 871) dL_law_870 (h6 2 (by decide)) rfl rfl ?_
  refine l_call2i (st := []) (q := 874) [(xs (Int32.toNatClampNeg (x3 + 1))), (xs (Int32.toNatClampNeg (x3 + 2)))] kc_L_106 sc_m_0 dL_law_871 rfl rfl (Nat.le_of_ble_eq_true rfl) (Nat.le_of_ble_eq_true rfl) (by decide) rfl (t_md_21 (xs (Int32.toNatClampNeg (x3 + 1))) (xs (Int32.toNatClampNeg (x3 + 2))) M2 r2 M2' e2) ?_
  refine l_pop (q := 875) dL_law_874 rfl ?_
  refine l_goto 1135 dL_law_875 (by decide) ?_
  exact kk M1' M2' hR
set_option maxRecDepth 100000 in
set_option maxHeartbeats 1000000 in
theorem ll_case22 {Rl : mm_M → mm_M → Prop} {xL kc ks : Nat} {xs : Nat → Int32} {x3 : Int32} {M1 M2 : mm_M} (hE : ∀ (x1 x2 x3 : Int32) (M1 M2 : mm_M), Rl M1 M2 → ∃ r r' M1' M2', cl_22 x1 x2 x3 M1 = some (r, M1') ∧ md_22 x1 x2 x3 M2 = some (r', M2') ∧ Rl M1' M2') (hR : Rl M1 M2) (h6 : ∀ j : Nat, j < 6 → vp_in (x3 + nI j) xL) (kk : ∀ M1' M2', Rl M1' M2' → ll_Go xL xs kc ks 1135 [some (.inr 4000), some (.inr 0), some (.inr 1), some (.inl x3)] [] S_c M1' S_m M2') : ll_Go xL xs kc ks 878 [some (.inr 4000), some (.inr 0), some (.inr 1), some (.inl x3)] [] S_c M1 S_m M2 := by
  obtain ⟨r, r2, M1', M2', e1, e2, hR⟩ := hE (xs (Int32.toNatClampNeg (x3 + 1))) (xs (Int32.toNatClampNeg (x3 + 2))) (xs (Int32.toNatClampNeg (x3 + 3))) M1 M2 hR
  refine l_aload_n (q := 879) dL_law_878 rfl rfl ?_
  refine l_aload_n (q := 880) dL_law_879 rfl rfl ?_
  refine l_iload_n (q := 881) dL_law_880 rfl rfl ?_
  refine l_iconst (v := 1) (q := 882) dL_law_881 (by decide) rfl ?_
  refine l_iadd (q := 883) dL_law_882 rfl ?_
  refine l_sld (v := xs (Int32.toNatClampNeg (x3 + 1))) (q := 884) dL_law_883 (h6 1 (by decide)) rfl rfl ?_
  refine l_aload_n (q := 885) dL_law_884 rfl rfl ?_
  refine l_iload_n (q := 886) dL_law_885 rfl rfl ?_
  refine l_iconst (v := 2) (q := 887) dL_law_886 (by decide) rfl ?_
  refine l_iadd (q := 888) dL_law_887 rfl ?_
  refine l_sld (v := xs (Int32.toNatClampNeg (x3 + 2))) (q := 889) dL_law_888 (h6 2 (by decide)) rfl rfl ?_
  refine l_aload_n (q := 890) dL_law_889 rfl rfl ?_
  refine l_iload_n (q := 891) dL_law_890 rfl rfl ?_
  refine l_iconst (v := 3) (q := 892) dL_law_891 (by decide) rfl ?_
  refine l_iadd (q := 893) dL_law_892 rfl ?_
  refine l_sld (v := xs (Int32.toNatClampNeg (x3 + 3))) (q := 894) dL_law_893 (h6 3 (by decide)) rfl rfl ?_
  refine l_call1i (st := []) (q := 897) [(xs (Int32.toNatClampNeg (x3 + 1))), (xs (Int32.toNatClampNeg (x3 + 2))), (xs (Int32.toNatClampNeg (x3 + 3)))] kc_L_107 sc_c_0 dL_law_894 rfl rfl (Nat.le_of_ble_eq_true rfl) (Nat.le_of_ble_eq_true rfl) (by decide) rfl (t_cl_22 (xs (Int32.toNatClampNeg (x3 + 1))) (xs (Int32.toNatClampNeg (x3 + 2))) (xs (Int32.toNatClampNeg (x3 + 3))) M1 r M1' e1) ?_
  refine l_pop (q := 898) dL_law_897 rfl ?_
  refine l_aload_n (q := 899) dL_law_898 rfl rfl ?_
  refine l_aload_n (q := 900) dL_law_899 rfl rfl ?_
  refine l_iload_n (q := 901) dL_law_900 rfl rfl ?_
  refine l_iconst (v := 1) (q := 902) dL_law_901 (by decide) rfl ?_
  refine l_iadd (q := 903) dL_law_902 rfl ?_
  refine l_sld (v := xs (Int32.toNatClampNeg (x3 + 1))) (q := 904) dL_law_903 (h6 1 (by decide)) rfl rfl ?_
  refine l_aload_n (q := 905) dL_law_904 rfl rfl ?_
  refine l_iload_n (q := 906) dL_law_905 rfl rfl ?_
  refine l_iconst (v := 2) (q := 907) dL_law_906 (by decide) rfl ?_
  refine l_iadd (q := 908) dL_law_907 rfl ?_
  refine l_sld (v := xs (Int32.toNatClampNeg (x3 + 2))) (q := 909) dL_law_908 (h6 2 (by decide)) rfl rfl ?_
  refine l_aload_n (q := 910) dL_law_909 rfl rfl ?_
  refine l_iload_n (q := 911) dL_law_910 rfl rfl ?_
  refine l_iconst (v := 3) (q := 912) dL_law_911 (by decide) rfl ?_
  refine l_iadd (q := 913) dL_law_912 rfl ?_
  refine l_sld (v := xs (Int32.toNatClampNeg (x3 + 3))) (q := 914) dL_law_913 (h6 3 (by decide)) rfl rfl ?_
  refine l_call2i (st := []) (q := 917) [(xs (Int32.toNatClampNeg (x3 + 1))), (xs (Int32.toNatClampNeg (x3 + 2))), (xs (Int32.toNatClampNeg (x3 + 3)))] kc_L_110 sc_m_0 dL_law_914 rfl rfl (Nat.le_of_ble_eq_true rfl) (Nat.le_of_ble_eq_true rfl) (by decide) rfl (t_md_22 (xs (Int32.toNatClampNeg (x3 + 1))) (xs (Int32.toNatClampNeg (x3 + 2))) (xs (Int32.toNatClampNeg (x3 + 3))) M2 r2 M2' e2) ?_
  refine l_pop (q := 918) dL_law_917 rfl ?_
  refine l_goto 1135 dL_law_918 (by decide) ?_
  exact kk M1' M2' hR
set_option maxRecDepth 100000 in
set_option maxHeartbeats 1000000 in
theorem ll_case23 {Rl : mm_M → mm_M → Prop} {xL kc ks : Nat} {xs : Nat → Int32} {x3 : Int32} {M1 M2 : mm_M} (hE : ∀ (x1 x2 x3 : Int32) (M1 M2 : mm_M), Rl M1 M2 → ∃ r r' M1' M2', cl_23 x1 x2 x3 M1 = some (r, M1') ∧ md_23 x1 x2 x3 M2 = some (r', M2') ∧ Rl M1' M2') (hR : Rl M1 M2) (h6 : ∀ j : Nat, j < 6 → vp_in (x3 + nI j) xL) (kk : ∀ M1' M2', Rl M1' M2' → ll_Go xL xs kc ks 1135 [some (.inr 4000), some (.inr 0), some (.inr 1), some (.inl x3)] [] S_c M1' S_m M2') : ll_Go xL xs kc ks 921 [some (.inr 4000), some (.inr 0), some (.inr 1), some (.inl x3)] [] S_c M1 S_m M2 := by
  obtain ⟨r, r2, M1', M2', e1, e2, hR⟩ := hE (xs (Int32.toNatClampNeg (x3 + 1))) (xs (Int32.toNatClampNeg (x3 + 2))) (xs (Int32.toNatClampNeg (x3 + 3))) M1 M2 hR
  refine l_aload_n (q := 922) dL_law_921 rfl rfl ?_
  refine l_aload_n (q := 923) dL_law_922 rfl rfl ?_
  refine l_iload_n (q := 924) dL_law_923 rfl rfl ?_
  refine l_iconst (v := 1) (q := 925) dL_law_924 (by decide) rfl ?_
  refine l_iadd (q := 926) dL_law_925 rfl ?_
  refine l_sld (v := xs (Int32.toNatClampNeg (x3 + 1))) (q := 927) dL_law_926 (h6 1 (by decide)) rfl rfl ?_
  refine l_aload_n (q := 928) dL_law_927 rfl rfl ?_
  refine l_iload_n (q := 929) dL_law_928 rfl rfl ?_
  refine l_iconst (v := 2) (q := 930) dL_law_929 (by decide) rfl ?_
  refine l_iadd (q := 931) dL_law_930 rfl ?_
  refine l_sld (v := xs (Int32.toNatClampNeg (x3 + 2))) (q := 932) dL_law_931 (h6 2 (by decide)) rfl rfl ?_
  refine l_aload_n (q := 933) dL_law_932 rfl rfl ?_
  refine l_iload_n (q := 934) dL_law_933 rfl rfl ?_
  refine l_iconst (v := 3) (q := 935) dL_law_934 (by decide) rfl ?_
  refine l_iadd (q := 936) dL_law_935 rfl ?_
  refine l_sld (v := xs (Int32.toNatClampNeg (x3 + 3))) (q := 937) dL_law_936 (h6 3 (by decide)) rfl rfl ?_
  refine l_call1i (st := []) (q := 940) [(xs (Int32.toNatClampNeg (x3 + 1))), (xs (Int32.toNatClampNeg (x3 + 2))), (xs (Int32.toNatClampNeg (x3 + 3)))] kc_L_111 sc_c_0 dL_law_937 rfl rfl (Nat.le_of_ble_eq_true rfl) (Nat.le_of_ble_eq_true rfl) (by decide) rfl (t_cl_23 (xs (Int32.toNatClampNeg (x3 + 1))) (xs (Int32.toNatClampNeg (x3 + 2))) (xs (Int32.toNatClampNeg (x3 + 3))) M1 r M1' e1) ?_
  refine l_pop (q := 941) dL_law_940 rfl ?_
  refine l_aload_n (q := 942) dL_law_941 rfl rfl ?_
  refine l_aload_n (q := 943) dL_law_942 rfl rfl ?_
  refine l_iload_n (q := 944) dL_law_943 rfl rfl ?_
  refine l_iconst (v := 1) (q := 945) dL_law_944 (by decide) rfl ?_
  refine l_iadd (q := 946) dL_law_945 rfl ?_
  refine l_sld (v := xs (Int32.toNatClampNeg (x3 + 1))) (q := 947) dL_law_946 (h6 1 (by decide)) rfl rfl ?_
  refine l_aload_n (q := 948) dL_law_947 rfl rfl ?_
  refine l_iload_n (q := 949) dL_law_948 rfl rfl ?_
  refine l_iconst (v := 2) (q := 950) dL_law_949 (by decide) rfl ?_
  refine l_iadd (q := 951) dL_law_950 rfl ?_
  refine l_sld (v := xs (Int32.toNatClampNeg (x3 + 2))) (q := 952) dL_law_951 (h6 2 (by decide)) rfl rfl ?_
  refine l_aload_n (q := 953) dL_law_952 rfl rfl ?_
  refine l_iload_n (q := 954) dL_law_953 rfl rfl ?_
  refine l_iconst (v := 3) (q := 955) dL_law_954 (by decide) rfl ?_
  refine l_iadd (q := 956) dL_law_955 rfl ?_
  refine l_sld (v := xs (Int32.toNatClampNeg (x3 + 3))) (q := 957) dL_law_956 (h6 3 (by decide)) rfl rfl ?_
  refine l_call2i (st := []) (q := 960) [(xs (Int32.toNatClampNeg (x3 + 1))), (xs (Int32.toNatClampNeg (x3 + 2))), (xs (Int32.toNatClampNeg (x3 + 3)))] kc_L_114 sc_m_0 dL_law_957 rfl rfl (Nat.le_of_ble_eq_true rfl) (Nat.le_of_ble_eq_true rfl) (by decide) rfl (t_md_23 (xs (Int32.toNatClampNeg (x3 + 1))) (xs (Int32.toNatClampNeg (x3 + 2))) (xs (Int32.toNatClampNeg (x3 + 3))) M2 r2 M2' e2) ?_
  refine l_pop (q := 961) dL_law_960 rfl ?_
  refine l_goto 1135 dL_law_961 (by decide) ?_
  exact kk M1' M2' hR
set_option maxRecDepth 100000 in
set_option maxHeartbeats 1000000 in
theorem ll_case24 {Rl : mm_M → mm_M → Prop} {xL kc ks : Nat} {xs : Nat → Int32} {x3 : Int32} {M1 M2 : mm_M} (hE : ∀ (x1 x2 x3 : Int32) (M1 M2 : mm_M), Rl M1 M2 → ∃ r r' M1' M2', cl_24 x1 x2 x3 M1 = some (r, M1') ∧ md_24 x1 x2 x3 M2 = some (r', M2') ∧ Rl M1' M2') (hR : Rl M1 M2) (h6 : ∀ j : Nat, j < 6 → vp_in (x3 + nI j) xL) (kk : ∀ M1' M2', Rl M1' M2' → ll_Go xL xs kc ks 1135 [some (.inr 4000), some (.inr 0), some (.inr 1), some (.inl x3)] [] S_c M1' S_m M2') : ll_Go xL xs kc ks 964 [some (.inr 4000), some (.inr 0), some (.inr 1), some (.inl x3)] [] S_c M1 S_m M2 := by
  obtain ⟨r, r2, M1', M2', e1, e2, hR⟩ := hE (xs (Int32.toNatClampNeg (x3 + 1))) (xs (Int32.toNatClampNeg (x3 + 2))) (xs (Int32.toNatClampNeg (x3 + 3))) M1 M2 hR
  refine l_aload_n (q := 965) dL_law_964 rfl rfl ?_
  refine l_aload_n (q := 966) dL_law_965 rfl rfl ?_
  refine l_iload_n (q := 967) dL_law_966 rfl rfl ?_
  refine l_iconst (v := 1) (q := 968) dL_law_967 (by decide) rfl ?_
  refine l_iadd (q := 969) dL_law_968 rfl ?_
  refine l_sld (v := xs (Int32.toNatClampNeg (x3 + 1))) (q := 970) dL_law_969 (h6 1 (by decide)) rfl rfl ?_
  refine l_aload_n (q := 971) dL_law_970 rfl rfl ?_
  refine l_iload_n (q := 972) dL_law_971 rfl rfl ?_
  refine l_iconst (v := 2) (q := 973) dL_law_972 (by decide) rfl ?_
  refine l_iadd (q := 974) dL_law_973 rfl ?_
  refine l_sld (v := xs (Int32.toNatClampNeg (x3 + 2))) (q := 975) dL_law_974 (h6 2 (by decide)) rfl rfl ?_
  refine l_aload_n (q := 976) dL_law_975 rfl rfl ?_
  refine l_iload_n (q := 977) dL_law_976 rfl rfl ?_
  refine l_iconst (v := 3) (q := 978) dL_law_977 (by decide) rfl ?_
  refine l_iadd (q := 979) dL_law_978 rfl ?_
  refine l_sld (v := xs (Int32.toNatClampNeg (x3 + 3))) (q := 980) dL_law_979 (h6 3 (by decide)) rfl rfl ?_
  refine l_call1i (st := []) (q := 983) [(xs (Int32.toNatClampNeg (x3 + 1))), (xs (Int32.toNatClampNeg (x3 + 2))), (xs (Int32.toNatClampNeg (x3 + 3)))] kc_L_115 sc_c_0 dL_law_980 rfl rfl (Nat.le_of_ble_eq_true rfl) (Nat.le_of_ble_eq_true rfl) (by decide) rfl (t_cl_24 (xs (Int32.toNatClampNeg (x3 + 1))) (xs (Int32.toNatClampNeg (x3 + 2))) (xs (Int32.toNatClampNeg (x3 + 3))) M1 r M1' e1) ?_
  refine l_pop (q := 984) dL_law_983 rfl ?_
  refine l_aload_n (q := 985) dL_law_984 rfl rfl ?_
  refine l_aload_n (q := 986) dL_law_985 rfl rfl ?_
  refine l_iload_n (q := 987) dL_law_986 rfl rfl ?_
  refine l_iconst (v := 1) (q := 988) dL_law_987 (by decide) rfl ?_
  refine l_iadd (q := 989) dL_law_988 rfl ?_
  refine l_sld (v := xs (Int32.toNatClampNeg (x3 + 1))) (q := 990) dL_law_989 (h6 1 (by decide)) rfl rfl ?_
  refine l_aload_n (q := 991) dL_law_990 rfl rfl ?_
  refine l_iload_n (q := 992) dL_law_991 rfl rfl ?_
  refine l_iconst (v := 2) (q := 993) dL_law_992 (by decide) rfl ?_
  refine l_iadd (q := 994) dL_law_993 rfl ?_
  refine l_sld (v := xs (Int32.toNatClampNeg (x3 + 2))) (q := 995) dL_law_994 (h6 2 (by decide)) rfl rfl ?_
  refine l_aload_n (q := 996) dL_law_995 rfl rfl ?_
  refine l_iload_n (q := 997) dL_law_996 rfl rfl ?_
  refine l_iconst (v := 3) (q := 998) dL_law_997 (by decide) rfl ?_
  refine l_iadd (q := 999) dL_law_998 rfl ?_
  refine l_sld (v := xs (Int32.toNatClampNeg (x3 + 3))) (q := 1000) dL_law_999 (h6 3 (by decide)) rfl rfl ?_
  refine l_call2i (st := []) (q := 1003) [(xs (Int32.toNatClampNeg (x3 + 1))), (xs (Int32.toNatClampNeg (x3 + 2))), (xs (Int32.toNatClampNeg (x3 + 3)))] kc_L_118 sc_m_0 dL_law_1000 rfl rfl (Nat.le_of_ble_eq_true rfl) (Nat.le_of_ble_eq_true rfl) (by decide) rfl (t_md_24 (xs (Int32.toNatClampNeg (x3 + 1))) (xs (Int32.toNatClampNeg (x3 + 2))) (xs (Int32.toNatClampNeg (x3 + 3))) M2 r2 M2' e2) ?_
  refine l_pop (q := 1004) dL_law_1003 rfl ?_
  refine l_goto 1135 dL_law_1004 (by decide) ?_
  exact kk M1' M2' hR
set_option maxRecDepth 100000 in
set_option maxHeartbeats 1000000 in
theorem ll_case25 {Rl : mm_M → mm_M → Prop} {xL kc ks : Nat} {xs : Nat → Int32} {x3 : Int32} {M1 M2 : mm_M} (hE : ∀ (x1 : Int32) (M1 M2 : mm_M), Rl M1 M2 → ∃ r r' M1' M2', cl_25 x1 M1 = some (r, M1') ∧ md_25 x1 M2 = some (r', M2') ∧ Rl M1' M2') (hR : Rl M1 M2) (h6 : ∀ j : Nat, j < 6 → vp_in (x3 + nI j) xL) (kk : ∀ M1' M2', Rl M1' M2' → ll_Go xL xs kc ks 1135 [some (.inr 4000), some (.inr 0), some (.inr 1), some (.inl x3)] [] S_c M1' S_m M2') : ll_Go xL xs kc ks 1007 [some (.inr 4000), some (.inr 0), some (.inr 1), some (.inl x3)] [] S_c M1 S_m M2 := by
  obtain ⟨r, r2, M1', M2', e1, e2, hR⟩ := hE (xs (Int32.toNatClampNeg (x3 + 1))) M1 M2 hR
  refine l_aload_n (q := 1008) dL_law_1007 rfl rfl ?_
  refine l_aload_n (q := 1009) dL_law_1008 rfl rfl ?_
  refine l_iload_n (q := 1010) dL_law_1009 rfl rfl ?_
  refine l_iconst (v := 1) (q := 1011) dL_law_1010 (by decide) rfl ?_
  refine l_iadd (q := 1012) dL_law_1011 rfl ?_
  refine l_sld (v := xs (Int32.toNatClampNeg (x3 + 1))) (q := 1013) dL_law_1012 (h6 1 (by decide)) rfl rfl ?_
  refine l_call1i (st := []) (q := 1016) [(xs (Int32.toNatClampNeg (x3 + 1)))] kc_L_119 sc_c_0 dL_law_1013 rfl rfl (Nat.le_of_ble_eq_true rfl) (Nat.le_of_ble_eq_true rfl) (by decide) rfl (t_cl_25 (xs (Int32.toNatClampNeg (x3 + 1))) M1 r M1' e1) ?_
  refine l_pop (q := 1017) dL_law_1016 rfl ?_
  refine l_aload_n (q := 1018) dL_law_1017 rfl rfl ?_
  refine l_aload_n (q := 1019) dL_law_1018 rfl rfl ?_
  refine l_iload_n (q := 1020) dL_law_1019 rfl rfl ?_
  refine l_iconst (v := 1) (q := 1021) dL_law_1020 (by decide) rfl ?_
  refine l_iadd (q := 1022) dL_law_1021 rfl ?_
  refine l_sld (v := xs (Int32.toNatClampNeg (x3 + 1))) (q := 1023) dL_law_1022 (h6 1 (by decide)) rfl rfl ?_
  refine l_call2i (st := []) (q := 1026) [(xs (Int32.toNatClampNeg (x3 + 1)))] kc_L_122 sc_m_0 dL_law_1023 rfl rfl (Nat.le_of_ble_eq_true rfl) (Nat.le_of_ble_eq_true rfl) (by decide) rfl (t_md_25 (xs (Int32.toNatClampNeg (x3 + 1))) M2 r2 M2' e2) ?_
  refine l_pop (q := 1027) dL_law_1026 rfl ?_
  refine l_goto 1135 dL_law_1027 (by decide) ?_
  exact kk M1' M2' hR
set_option maxRecDepth 100000 in
set_option maxHeartbeats 1000000 in
theorem ll_case26 {Rl : mm_M → mm_M → Prop} {xL kc ks : Nat} {xs : Nat → Int32} {x3 : Int32} {M1 M2 : mm_M} (hE : ∀ (x1 : Int32) (M1 M2 : mm_M), Rl M1 M2 → ∃ r M1' M2', cl_26 x1 M1 = some (r, M1') ∧ md_26 x1 M2 = some (r, M2') ∧ Rl M1' M2') (hR : Rl M1 M2) (h6 : ∀ j : Nat, j < 6 → vp_in (x3 + nI j) xL) (kk : ∀ M1' M2', Rl M1' M2' → ll_Go xL xs kc ks 1135 [some (.inr 4000), some (.inr 0), some (.inr 1), some (.inl x3)] [] S_c M1' S_m M2') : ll_Go xL xs kc ks 1030 [some (.inr 4000), some (.inr 0), some (.inr 1), some (.inl x3)] [] S_c M1 S_m M2 := by
  obtain ⟨r, M1', M2', e1, e2, hR⟩ := hE (xs (Int32.toNatClampNeg (x3 + 1))) M1 M2 hR
  refine l_aload_n (q := 1031) dL_law_1030 rfl rfl ?_
  refine l_aload_n (q := 1032) dL_law_1031 rfl rfl ?_
  refine l_iload_n (q := 1033) dL_law_1032 rfl rfl ?_
  refine l_iconst (v := 1) (q := 1034) dL_law_1033 (by decide) rfl ?_
  refine l_iadd (q := 1035) dL_law_1034 rfl ?_
  refine l_sld (v := xs (Int32.toNatClampNeg (x3 + 1))) (q := 1036) dL_law_1035 (h6 1 (by decide)) rfl rfl ?_
  refine l_call1i (st := []) (q := 1039) [(xs (Int32.toNatClampNeg (x3 + 1)))] kc_L_123 sc_c_0 dL_law_1036 rfl rfl (Nat.le_of_ble_eq_true rfl) (Nat.le_of_ble_eq_true rfl) (by decide) rfl (t_cl_26 (xs (Int32.toNatClampNeg (x3 + 1))) M1 r M1' e1) ?_
  refine l_aload_n (q := 1040) dL_law_1039 rfl rfl ?_
  refine l_aload_n (q := 1041) dL_law_1040 rfl rfl ?_
  refine l_iload_n (q := 1042) dL_law_1041 rfl rfl ?_
  refine l_iconst (v := 1) (q := 1043) dL_law_1042 (by decide) rfl ?_
  refine l_iadd (q := 1044) dL_law_1043 rfl ?_
  refine l_sld (v := xs (Int32.toNatClampNeg (x3 + 1))) (q := 1045) dL_law_1044 (h6 1 (by decide)) rfl rfl ?_
  refine l_call2i (st := [.inl r]) (q := 1048) [(xs (Int32.toNatClampNeg (x3 + 1)))] kc_L_126 sc_m_0 dL_law_1045 rfl rfl (Nat.le_of_ble_eq_true rfl) (Nat.le_of_ble_eq_true rfl) (by decide) rfl (t_md_26 (xs (Int32.toNatClampNeg (x3 + 1))) M2 r M2' e2) ?_
  refine l_icmp_eq 1135 dL_law_1048 (by decide) rfl ?_
  exact kk M1' M2' hR
set_option maxRecDepth 100000 in
set_option maxHeartbeats 1000000 in
theorem ll_case27 {Rl : mm_M → mm_M → Prop} {xL kc ks : Nat} {xs : Nat → Int32} {x3 : Int32} {M1 M2 : mm_M} (hE : ∀ (M1 M2 : mm_M), Rl M1 M2 → ∃ r r' M1' M2', cl_27 M1 = some (r, M1') ∧ md_27 M2 = some (r', M2') ∧ Rl M1' M2') (hR : Rl M1 M2) (h6 : ∀ j : Nat, j < 6 → vp_in (x3 + nI j) xL) (kk : ∀ M1' M2', Rl M1' M2' → ll_Go xL xs kc ks 1135 [some (.inr 4000), some (.inr 0), some (.inr 1), some (.inl x3)] [] S_c M1' S_m M2') : ll_Go xL xs kc ks 1053 [some (.inr 4000), some (.inr 0), some (.inr 1), some (.inl x3)] [] S_c M1 S_m M2 := by
  obtain ⟨r, r2, M1', M2', e1, e2, hR⟩ := hE M1 M2 hR
  refine l_aload_n (q := 1054) dL_law_1053 rfl rfl ?_
  refine l_call1i (st := []) (q := 1057) [] kc_L_127 sc_c_0 dL_law_1054 rfl rfl (Nat.le_of_ble_eq_true rfl) (Nat.le_of_ble_eq_true rfl) (by decide) rfl (t_cl_27 M1 r M1' e1) ?_
  refine l_pop (q := 1058) dL_law_1057 rfl ?_
  refine l_aload_n (q := 1059) dL_law_1058 rfl rfl ?_
  refine l_call2i (st := []) (q := 1062) [] kc_L_131 sc_m_0 dL_law_1059 rfl rfl (Nat.le_of_ble_eq_true rfl) (Nat.le_of_ble_eq_true rfl) (by decide) rfl (t_md_27 M2 r2 M2' e2) ?_
  refine l_pop (q := 1063) dL_law_1062 rfl ?_
  refine l_goto 1135 dL_law_1063 (by decide) ?_
  exact kk M1' M2' hR
set_option maxRecDepth 100000 in
set_option maxHeartbeats 1000000 in
theorem ll_case28 {Rl : mm_M → mm_M → Prop} {xL kc ks : Nat} {xs : Nat → Int32} {x3 : Int32} {M1 M2 : mm_M} (hE : ∀ (M1 M2 : mm_M), Rl M1 M2 → ∃ r r' M1' M2', cl_28 M1 = some (r, M1') ∧ md_28 M2 = some (r', M2') ∧ Rl M1' M2') (hR : Rl M1 M2) (h6 : ∀ j : Nat, j < 6 → vp_in (x3 + nI j) xL) (kk : ∀ M1' M2', Rl M1' M2' → ll_Go xL xs kc ks 1135 [some (.inr 4000), some (.inr 0), some (.inr 1), some (.inl x3)] [] S_c M1' S_m M2') : ll_Go xL xs kc ks 1066 [some (.inr 4000), some (.inr 0), some (.inr 1), some (.inl x3)] [] S_c M1 S_m M2 := by
  obtain ⟨r, r2, M1', M2', e1, e2, hR⟩ := hE M1 M2 hR
  refine l_aload_n (q := 1067) dL_law_1066 rfl rfl ?_
  refine l_call1i (st := []) (q := 1070) [] kc_L_132 sc_c_0 dL_law_1067 rfl rfl (Nat.le_of_ble_eq_true rfl) (Nat.le_of_ble_eq_true rfl) (by decide) rfl (t_cl_28 M1 r M1' e1) ?_
  refine l_pop (q := 1071) dL_law_1070 rfl ?_
  refine l_aload_n (q := 1072) dL_law_1071 rfl rfl ?_
  refine l_call2i (st := []) (q := 1075) [] kc_L_136 sc_m_0 dL_law_1072 rfl rfl (Nat.le_of_ble_eq_true rfl) (Nat.le_of_ble_eq_true rfl) (by decide) rfl (t_md_28 M2 r2 M2' e2) ?_
  refine l_pop (q := 1076) dL_law_1075 rfl ?_
  refine l_goto 1135 dL_law_1076 (by decide) ?_
  exact kk M1' M2' hR
set_option maxRecDepth 100000 in
set_option maxHeartbeats 1000000 in
theorem ll_case29 {Rl : mm_M → mm_M → Prop} {xL kc ks : Nat} {xs : Nat → Int32} {x3 : Int32} {M1 M2 : mm_M} (hE : ∀ (x1 x2 : Int32) (M1 M2 : mm_M), Rl M1 M2 → ∃ r r' M1' M2', cl_29 x1 x2 M1 = some (r, M1') ∧ md_29 x1 x2 M2 = some (r', M2') ∧ Rl M1' M2') (hR : Rl M1 M2) (h6 : ∀ j : Nat, j < 6 → vp_in (x3 + nI j) xL) (kk : ∀ M1' M2', Rl M1' M2' → ll_Go xL xs kc ks 1135 [some (.inr 4000), some (.inr 0), some (.inr 1), some (.inl x3)] [] S_c M1' S_m M2') : ll_Go xL xs kc ks 1079 [some (.inr 4000), some (.inr 0), some (.inr 1), some (.inl x3)] [] S_c M1 S_m M2 := by
  obtain ⟨r, r2, M1', M2', e1, e2, hR⟩ := hE (xs (Int32.toNatClampNeg (x3 + 1))) (xs (Int32.toNatClampNeg (x3 + 2))) M1 M2 hR
  refine l_aload_n (q := 1080) dL_law_1079 rfl rfl ?_
  refine l_aload_n (q := 1081) dL_law_1080 rfl rfl ?_
  refine l_iload_n (q := 1082) dL_law_1081 rfl rfl ?_
  refine l_iconst (v := 1) (q := 1083) dL_law_1082 (by decide) rfl ?_
  refine l_iadd (q := 1084) dL_law_1083 rfl ?_
  refine l_sld (v := xs (Int32.toNatClampNeg (x3 + 1))) (q := 1085) dL_law_1084 (h6 1 (by decide)) rfl rfl ?_
  refine l_aload_n (q := 1086) dL_law_1085 rfl rfl ?_
  refine l_iload_n (q := 1087) dL_law_1086 rfl rfl ?_
  refine l_iconst (v := 2) (q := 1088) dL_law_1087 (by decide) rfl ?_
  refine l_iadd (q := 1089) dL_law_1088 rfl ?_
  refine l_sld (v := xs (Int32.toNatClampNeg (x3 + 2))) (q := 1090) dL_law_1089 (h6 2 (by decide)) rfl rfl ?_
  refine l_call1i (st := []) (q := 1093) [(xs (Int32.toNatClampNeg (x3 + 1))), (xs (Int32.toNatClampNeg (x3 + 2)))] kc_L_137 sc_c_0 dL_law_1090 rfl rfl (Nat.le_of_ble_eq_true rfl) (Nat.le_of_ble_eq_true rfl) (by decide) rfl (t_cl_29 (xs (Int32.toNatClampNeg (x3 + 1))) (xs (Int32.toNatClampNeg (x3 + 2))) M1 r M1' e1) ?_
  refine l_pop (q := 1094) dL_law_1093 rfl ?_
  refine l_aload_n (q := 1095) dL_law_1094 rfl rfl ?_
  refine l_aload_n (q := 1096) dL_law_1095 rfl rfl ?_
  refine l_iload_n (q := 1097) dL_law_1096 rfl rfl ?_
  refine l_iconst (v := 1) (q := 1098) dL_law_1097 (by decide) rfl ?_
  refine l_iadd (q := 1099) dL_law_1098 rfl ?_
  refine l_sld (v := xs (Int32.toNatClampNeg (x3 + 1))) (q := 1100) dL_law_1099 (h6 1 (by decide)) rfl rfl ?_
  refine l_aload_n (q := 1101) dL_law_1100 rfl rfl ?_
  refine l_iload_n (q := 1102) dL_law_1101 rfl rfl ?_
  refine l_iconst (v := 2) (q := 1103) dL_law_1102 (by decide) rfl ?_
  refine l_iadd (q := 1104) dL_law_1103 rfl ?_
  refine l_sld (v := xs (Int32.toNatClampNeg (x3 + 2))) (q := 1105) dL_law_1104 (h6 2 (by decide)) rfl rfl ?_
  refine l_call2i (st := []) (q := 1108) [(xs (Int32.toNatClampNeg (x3 + 1))), (xs (Int32.toNatClampNeg (x3 + 2)))] kc_L_140 sc_m_0 dL_law_1105 rfl rfl (Nat.le_of_ble_eq_true rfl) (Nat.le_of_ble_eq_true rfl) (by decide) rfl (t_md_29 (xs (Int32.toNatClampNeg (x3 + 1))) (xs (Int32.toNatClampNeg (x3 + 2))) M2 r2 M2' e2) ?_
  refine l_pop (q := 1109) dL_law_1108 rfl ?_
  refine l_goto 1135 dL_law_1109 (by decide) ?_
  exact kk M1' M2' hR
set_option maxRecDepth 100000 in
set_option maxHeartbeats 1000000 in
theorem ll_case30 {Rl : mm_M → mm_M → Prop} {xL kc ks : Nat} {xs : Nat → Int32} {x3 : Int32} {M1 M2 : mm_M} (hE : ∀ (x1 : Int32) (M1 M2 : mm_M), Rl M1 M2 → ∃ r r' M1' M2', cl_30 x1 M1 = some (r, M1') ∧ md_30 x1 M2 = some (r', M2') ∧ Rl M1' M2') (hR : Rl M1 M2) (h6 : ∀ j : Nat, j < 6 → vp_in (x3 + nI j) xL) (kk : ∀ M1' M2', Rl M1' M2' → ll_Go xL xs kc ks 1135 [some (.inr 4000), some (.inr 0), some (.inr 1), some (.inl x3)] [] S_c M1' S_m M2') : ll_Go xL xs kc ks 1112 [some (.inr 4000), some (.inr 0), some (.inr 1), some (.inl x3)] [] S_c M1 S_m M2 := by
  obtain ⟨r, r2, M1', M2', e1, e2, hR⟩ := hE (xs (Int32.toNatClampNeg (x3 + 1))) M1 M2 hR
  refine l_aload_n (q := 1113) dL_law_1112 rfl rfl ?_
  refine l_aload_n (q := 1114) dL_law_1113 rfl rfl ?_
  refine l_iload_n (q := 1115) dL_law_1114 rfl rfl ?_
  refine l_iconst (v := 1) (q := 1116) dL_law_1115 (by decide) rfl ?_
  refine l_iadd (q := 1117) dL_law_1116 rfl ?_
  refine l_sld (v := xs (Int32.toNatClampNeg (x3 + 1))) (q := 1118) dL_law_1117 (h6 1 (by decide)) rfl rfl ?_
  refine l_call1i (st := []) (q := 1121) [(xs (Int32.toNatClampNeg (x3 + 1)))] kc_L_141 sc_c_0 dL_law_1118 rfl rfl (Nat.le_of_ble_eq_true rfl) (Nat.le_of_ble_eq_true rfl) (by decide) rfl (t_cl_30 (xs (Int32.toNatClampNeg (x3 + 1))) M1 r M1' e1) ?_
  refine l_pop (q := 1122) dL_law_1121 rfl ?_
  refine l_aload_n (q := 1123) dL_law_1122 rfl rfl ?_
  refine l_aload_n (q := 1124) dL_law_1123 rfl rfl ?_
  refine l_iload_n (q := 1125) dL_law_1124 rfl rfl ?_
  refine l_iconst (v := 1) (q := 1126) dL_law_1125 (by decide) rfl ?_
  refine l_iadd (q := 1127) dL_law_1126 rfl ?_
  refine l_sld (v := xs (Int32.toNatClampNeg (x3 + 1))) (q := 1128) dL_law_1127 (h6 1 (by decide)) rfl rfl ?_
  refine l_call2i (st := []) (q := 1131) [(xs (Int32.toNatClampNeg (x3 + 1)))] kc_L_144 sc_m_0 dL_law_1128 rfl rfl (Nat.le_of_ble_eq_true rfl) (Nat.le_of_ble_eq_true rfl) (by decide) rfl (t_md_30 (xs (Int32.toNatClampNeg (x3 + 1))) M2 r2 M2' e2) ?_
  refine l_pop (q := 1132) dL_law_1131 rfl ?_
  refine l_goto 1135 dL_law_1132 (by decide) ?_
  exact kk M1' M2' hR
/-- what is asked of a relation between the class's memory and the reference's: every call ends on both sides and keeps it; the one that is compared answers alike -/
def ll_RelP (Rl : mm_M → mm_M → Prop) : Prop :=
  (∀ (x1 : Int32) (M1 M2 : mm_M), Rl M1 M2 → ∃ r r' M1' M2', cl_0 x1 M1 = some (r, M1') ∧ md_0 x1 M2 = some (r', M2') ∧ Rl M1' M2') ∧
  (∀ (x1 x2 : Int32) (M1 M2 : mm_M), Rl M1 M2 → ∃ r r' M1' M2', cl_1 x1 x2 M1 = some (r, M1') ∧ md_1 x1 x2 M2 = some (r', M2') ∧ Rl M1' M2') ∧
  (∀ (x1 : Int32) (M1 M2 : mm_M), Rl M1 M2 → ∃ r r' M1' M2', cl_2 x1 M1 = some (r, M1') ∧ md_2 x1 M2 = some (r', M2') ∧ Rl M1' M2') ∧
  (∀ (x1 x2 x3 x4 x5 : Int32) (M1 M2 : mm_M), Rl M1 M2 → ∃ r r' M1' M2', cl_3 x1 x2 x3 x4 x5 M1 = some (r, M1') ∧ md_3 x1 x2 x3 x4 x5 M2 = some (r', M2') ∧ Rl M1' M2') ∧
  (∀ (x1 : Int32) (M1 M2 : mm_M), Rl M1 M2 → ∃ r r' M1' M2', cl_4 x1 M1 = some (r, M1') ∧ md_4 x1 M2 = some (r', M2') ∧ Rl M1' M2') ∧
  (∀ (x1 : Int32) (M1 M2 : mm_M), Rl M1 M2 → ∃ r r' M1' M2', cl_5 x1 M1 = some (r, M1') ∧ md_5 x1 M2 = some (r', M2') ∧ Rl M1' M2') ∧
  (∀ (x1 : Int32) (M1 M2 : mm_M), Rl M1 M2 → ∃ r r' M1' M2', cl_6 x1 M1 = some (r, M1') ∧ md_6 x1 M2 = some (r', M2') ∧ Rl M1' M2') ∧
  (∀ (x1 x2 : Int32) (M1 M2 : mm_M), Rl M1 M2 → ∃ r r' M1' M2', cl_7 x1 x2 M1 = some (r, M1') ∧ md_7 x1 x2 M2 = some (r', M2') ∧ Rl M1' M2') ∧
  (∀ (x1 : Int32) (M1 M2 : mm_M), Rl M1 M2 → ∃ r r' M1' M2', cl_8 x1 M1 = some (r, M1') ∧ md_8 x1 M2 = some (r', M2') ∧ Rl M1' M2') ∧
  (∀ (x1 x2 : Int32) (M1 M2 : mm_M), Rl M1 M2 → ∃ r r' M1' M2', cl_9 x1 x2 M1 = some (r, M1') ∧ md_9 x1 x2 M2 = some (r', M2') ∧ Rl M1' M2') ∧
  (∀ (x1 x2 x3 : Int32) (M1 M2 : mm_M), Rl M1 M2 → ∃ r r' M1' M2', cl_10 x1 x2 x3 M1 = some (r, M1') ∧ md_10 x1 x2 x3 M2 = some (r', M2') ∧ Rl M1' M2') ∧
  (∀ (x1 x2 : Int32) (M1 M2 : mm_M), Rl M1 M2 → ∃ r r' M1' M2', cl_11 x1 x2 M1 = some (r, M1') ∧ md_11 x1 x2 M2 = some (r', M2') ∧ Rl M1' M2') ∧
  (∀ (x1 x2 : Int32) (M1 M2 : mm_M), Rl M1 M2 → ∃ r r' M1' M2', cl_12 x1 x2 M1 = some (r, M1') ∧ md_12 x1 x2 M2 = some (r', M2') ∧ Rl M1' M2') ∧
  (∀ (x1 x2 x3 : Int32) (M1 M2 : mm_M), Rl M1 M2 → ∃ r r' M1' M2', cl_13 x1 x2 x3 M1 = some (r, M1') ∧ md_13 x1 x2 x3 M2 = some (r', M2') ∧ Rl M1' M2') ∧
  (∀ (x1 x2 : Int32) (M1 M2 : mm_M), Rl M1 M2 → ∃ r r' M1' M2', cl_14 x1 x2 M1 = some (r, M1') ∧ md_14 x1 x2 M2 = some (r', M2') ∧ Rl M1' M2') ∧
  (∀ (x1 x2 : Int32) (M1 M2 : mm_M), Rl M1 M2 → ∃ r r' M1' M2', cl_15 x1 x2 M1 = some (r, M1') ∧ md_15 x1 x2 M2 = some (r', M2') ∧ Rl M1' M2') ∧
  (∀ (x1 : Int32) (M1 M2 : mm_M), Rl M1 M2 → ∃ r r' M1' M2', cl_16 x1 M1 = some (r, M1') ∧ md_16 x1 M2 = some (r', M2') ∧ Rl M1' M2') ∧
  (∀ (x1 x2 x3 : Int32) (M1 M2 : mm_M), Rl M1 M2 → ∃ r r' M1' M2', cl_17 x1 x2 x3 M1 = some (r, M1') ∧ md_17 x1 x2 x3 M2 = some (r', M2') ∧ Rl M1' M2') ∧
  (∀ (x1 : Int32) (M1 M2 : mm_M), Rl M1 M2 → ∃ r r' M1' M2', cl_18 x1 M1 = some (r, M1') ∧ md_18 x1 M2 = some (r', M2') ∧ Rl M1' M2') ∧
  (∀ (x1 x2 : Int32) (M1 M2 : mm_M), Rl M1 M2 → ∃ r r' M1' M2', cl_19 x1 x2 M1 = some (r, M1') ∧ md_19 x1 x2 M2 = some (r', M2') ∧ Rl M1' M2') ∧
  (∀ (x1 x2 : Int32) (M1 M2 : mm_M), Rl M1 M2 → ∃ r r' M1' M2', cl_20 x1 x2 M1 = some (r, M1') ∧ md_20 x1 x2 M2 = some (r', M2') ∧ Rl M1' M2') ∧
  (∀ (x1 x2 : Int32) (M1 M2 : mm_M), Rl M1 M2 → ∃ r r' M1' M2', cl_21 x1 x2 M1 = some (r, M1') ∧ md_21 x1 x2 M2 = some (r', M2') ∧ Rl M1' M2') ∧
  (∀ (x1 x2 x3 : Int32) (M1 M2 : mm_M), Rl M1 M2 → ∃ r r' M1' M2', cl_22 x1 x2 x3 M1 = some (r, M1') ∧ md_22 x1 x2 x3 M2 = some (r', M2') ∧ Rl M1' M2') ∧
  (∀ (x1 x2 x3 : Int32) (M1 M2 : mm_M), Rl M1 M2 → ∃ r r' M1' M2', cl_23 x1 x2 x3 M1 = some (r, M1') ∧ md_23 x1 x2 x3 M2 = some (r', M2') ∧ Rl M1' M2') ∧
  (∀ (x1 x2 x3 : Int32) (M1 M2 : mm_M), Rl M1 M2 → ∃ r r' M1' M2', cl_24 x1 x2 x3 M1 = some (r, M1') ∧ md_24 x1 x2 x3 M2 = some (r', M2') ∧ Rl M1' M2') ∧
  (∀ (x1 : Int32) (M1 M2 : mm_M), Rl M1 M2 → ∃ r r' M1' M2', cl_25 x1 M1 = some (r, M1') ∧ md_25 x1 M2 = some (r', M2') ∧ Rl M1' M2') ∧
  (∀ (x1 : Int32) (M1 M2 : mm_M), Rl M1 M2 → ∃ r M1' M2', cl_26 x1 M1 = some (r, M1') ∧ md_26 x1 M2 = some (r, M2') ∧ Rl M1' M2') ∧
  (∀ (M1 M2 : mm_M), Rl M1 M2 → ∃ r r' M1' M2', cl_27 M1 = some (r, M1') ∧ md_27 M2 = some (r', M2') ∧ Rl M1' M2') ∧
  (∀ (M1 M2 : mm_M), Rl M1 M2 → ∃ r r' M1' M2', cl_28 M1 = some (r, M1') ∧ md_28 M2 = some (r', M2') ∧ Rl M1' M2') ∧
  (∀ (x1 x2 : Int32) (M1 M2 : mm_M), Rl M1 M2 → ∃ r r' M1' M2', cl_29 x1 x2 M1 = some (r, M1') ∧ md_29 x1 x2 M2 = some (r', M2') ∧ Rl M1' M2') ∧
  (∀ (x1 : Int32) (M1 M2 : mm_M), Rl M1 M2 → ∃ r r' M1' M2', cl_30 x1 M1 = some (r, M1') ∧ md_30 x1 M2 = some (r', M2') ∧ Rl M1' M2')
