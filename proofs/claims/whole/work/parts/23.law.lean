section
theorem d_Lw_0 : decode code 0 = .ok (.new 7, 3) := by decide +kernel
theorem d_Lw_3 : decode code 3 = .ok (.dup, 1) := by decide +kernel
theorem d_Lw_4 : decode code 4 = .ok (.invokespecial 9, 3) := by decide +kernel
theorem d_Lw_7 : decode code 7 = .ok (.astore_n 1, 1) := by decide +kernel
theorem d_Lw_8 : decode code 8 = .ok (.new 10, 3) := by decide +kernel
theorem d_Lw_11 : decode code 11 = .ok (.dup, 1) := by decide +kernel
theorem d_Lw_12 : decode code 12 = .ok (.invokespecial 12, 3) := by decide +kernel
theorem d_Lw_15 : decode code 15 = .ok (.astore_n 2, 1) := by decide +kernel
theorem d_Lw_16 : decode code 16 = .ok (.iconst 0, 1) := by decide +kernel
theorem d_Lw_17 : decode code 17 = .ok (.istore_n 3, 1) := by decide +kernel
theorem d_Lw_18 : decode code 18 = .ok (.iload_n 3, 1) := by decide +kernel
theorem d_Lw_19 : decode code 19 = .ok (.aload_n 0, 1) := by decide +kernel
theorem d_Lw_20 : decode code 20 = .ok (.arraylength, 1) := by decide +kernel
theorem d_Lw_21 : decode code 21 = .ok (.bipush 7, 2) := by decide +kernel
theorem d_Lw_23 : decode code 23 = .ok (.isub, 1) := by decide +kernel
theorem d_Lw_24 : decode code 24 = .ok (.if_icmp .gt 1444, 3) := by decide +kernel
theorem d_Lw_27 : decode code 27 = .ok (.aload_n 0, 1) := by decide +kernel
theorem d_Lw_28 : decode code 28 = .ok (.iload_n 3, 1) := by decide +kernel
theorem d_Lw_29 : decode code 29 = .ok (.iaload, 1) := by decide +kernel
theorem d_Lw_30 : decode code 30 = .ok (.bipush 63, 2) := by decide +kernel
theorem d_Lw_32 : decode code 32 = .ok (.iand, 1) := by decide +kernel
theorem d_Lw_33 : decode code 33 = .ok (.tableswitch 1429 0 35 #[159, 202, 235, 298, 311, 344, 377, 410, 453, 486, 529, 604, 627, 670, 713, 746, 779, 822, 875, 908, 921, 954, 977, 1010, 1063, 1086, 1109, 1172, 1225, 1258, 1281, 1314, 1337, 1360, 1383, 1406], 159) := by decide +kernel
theorem d_Lw_192 : decode code 192 = .ok (.aload_n 1, 1) := by decide +kernel
theorem d_Lw_193 : decode code 193 = .ok (.aload_n 0, 1) := by decide +kernel
theorem d_Lw_194 : decode code 194 = .ok (.iload_n 3, 1) := by decide +kernel
theorem d_Lw_195 : decode code 195 = .ok (.iconst 1, 1) := by decide +kernel
theorem d_Lw_196 : decode code 196 = .ok (.iadd, 1) := by decide +kernel
theorem d_Lw_197 : decode code 197 = .ok (.iaload, 1) := by decide +kernel
theorem d_Lw_198 : decode code 198 = .ok (.aload_n 0, 1) := by decide +kernel
theorem d_Lw_199 : decode code 199 = .ok (.iload_n 3, 1) := by decide +kernel
theorem d_Lw_200 : decode code 200 = .ok (.iconst 2, 1) := by decide +kernel
theorem d_Lw_201 : decode code 201 = .ok (.iadd, 1) := by decide +kernel
theorem d_Lw_202 : decode code 202 = .ok (.iaload, 1) := by decide +kernel
theorem d_Lw_203 : decode code 203 = .ok (.aload_n 0, 1) := by decide +kernel
theorem d_Lw_204 : decode code 204 = .ok (.iload_n 3, 1) := by decide +kernel
theorem d_Lw_205 : decode code 205 = .ok (.iconst 3, 1) := by decide +kernel
theorem d_Lw_206 : decode code 206 = .ok (.iadd, 1) := by decide +kernel
theorem d_Lw_207 : decode code 207 = .ok (.iaload, 1) := by decide +kernel
theorem d_Lw_208 : decode code 208 = .ok (.invokevirtual 13, 3) := by decide +kernel
theorem d_Lw_211 : decode code 211 = .ok (.aload_n 2, 1) := by decide +kernel
theorem d_Lw_212 : decode code 212 = .ok (.aload_n 0, 1) := by decide +kernel
theorem d_Lw_213 : decode code 213 = .ok (.iload_n 3, 1) := by decide +kernel
theorem d_Lw_214 : decode code 214 = .ok (.iconst 1, 1) := by decide +kernel
theorem d_Lw_215 : decode code 215 = .ok (.iadd, 1) := by decide +kernel
theorem d_Lw_216 : decode code 216 = .ok (.iaload, 1) := by decide +kernel
theorem d_Lw_217 : decode code 217 = .ok (.aload_n 0, 1) := by decide +kernel
theorem d_Lw_218 : decode code 218 = .ok (.iload_n 3, 1) := by decide +kernel
theorem d_Lw_219 : decode code 219 = .ok (.iconst 2, 1) := by decide +kernel
theorem d_Lw_220 : decode code 220 = .ok (.iadd, 1) := by decide +kernel
theorem d_Lw_221 : decode code 221 = .ok (.iaload, 1) := by decide +kernel
theorem d_Lw_222 : decode code 222 = .ok (.aload_n 0, 1) := by decide +kernel
theorem d_Lw_223 : decode code 223 = .ok (.iload_n 3, 1) := by decide +kernel
theorem d_Lw_224 : decode code 224 = .ok (.iconst 3, 1) := by decide +kernel
theorem d_Lw_225 : decode code 225 = .ok (.iadd, 1) := by decide +kernel
theorem d_Lw_226 : decode code 226 = .ok (.iaload, 1) := by decide +kernel
theorem d_Lw_227 : decode code 227 = .ok (.invokevirtual 17, 3) := by decide +kernel
theorem d_Lw_230 : decode code 230 = .ok (.if_icmp .eq 1232, 3) := by decide +kernel
theorem d_Lw_233 : decode code 233 = .ok (.iconst 0, 1) := by decide +kernel
theorem d_Lw_234 : decode code 234 = .ok (.ireturn, 1) := by decide +kernel
theorem d_Lw_235 : decode code 235 = .ok (.aload_n 1, 1) := by decide +kernel
theorem d_Lw_236 : decode code 236 = .ok (.aload_n 0, 1) := by decide +kernel
theorem d_Lw_237 : decode code 237 = .ok (.iload_n 3, 1) := by decide +kernel
theorem d_Lw_238 : decode code 238 = .ok (.iconst 1, 1) := by decide +kernel
theorem d_Lw_239 : decode code 239 = .ok (.iadd, 1) := by decide +kernel
theorem d_Lw_240 : decode code 240 = .ok (.iaload, 1) := by decide +kernel
theorem d_Lw_241 : decode code 241 = .ok (.aload_n 0, 1) := by decide +kernel
theorem d_Lw_242 : decode code 242 = .ok (.iload_n 3, 1) := by decide +kernel
theorem d_Lw_243 : decode code 243 = .ok (.iconst 2, 1) := by decide +kernel
theorem d_Lw_244 : decode code 244 = .ok (.iadd, 1) := by decide +kernel
theorem d_Lw_245 : decode code 245 = .ok (.iaload, 1) := by decide +kernel
theorem d_Lw_246 : decode code 246 = .ok (.invokevirtual 18, 3) := by decide +kernel
theorem d_Lw_249 : decode code 249 = .ok (.aload_n 2, 1) := by decide +kernel
theorem d_Lw_250 : decode code 250 = .ok (.aload_n 0, 1) := by decide +kernel
theorem d_Lw_251 : decode code 251 = .ok (.iload_n 3, 1) := by decide +kernel
theorem d_Lw_252 : decode code 252 = .ok (.iconst 1, 1) := by decide +kernel
theorem d_Lw_253 : decode code 253 = .ok (.iadd, 1) := by decide +kernel
theorem d_Lw_254 : decode code 254 = .ok (.iaload, 1) := by decide +kernel
theorem d_Lw_255 : decode code 255 = .ok (.aload_n 0, 1) := by decide +kernel
theorem d_Lw_256 : decode code 256 = .ok (.iload_n 3, 1) := by decide +kernel
theorem d_Lw_257 : decode code 257 = .ok (.iconst 2, 1) := by decide +kernel
theorem d_Lw_258 : decode code 258 = .ok (.iadd, 1) := by decide +kernel
theorem d_Lw_259 : decode code 259 = .ok (.iaload, 1) := by decide +kernel
theorem d_Lw_260 : decode code 260 = .ok (.invokevirtual 22, 3) := by decide +kernel
theorem d_Lw_263 : decode code 263 = .ok (.if_icmp .eq 1199, 3) := by decide +kernel
theorem d_Lw_266 : decode code 266 = .ok (.iconst 0, 1) := by decide +kernel
theorem d_Lw_267 : decode code 267 = .ok (.ireturn, 1) := by decide +kernel
theorem d_Lw_268 : decode code 268 = .ok (.aload_n 1, 1) := by decide +kernel
theorem d_Lw_269 : decode code 269 = .ok (.aload_n 0, 1) := by decide +kernel
theorem d_Lw_270 : decode code 270 = .ok (.iload_n 3, 1) := by decide +kernel
theorem d_Lw_271 : decode code 271 = .ok (.iconst 1, 1) := by decide +kernel
theorem d_Lw_272 : decode code 272 = .ok (.iadd, 1) := by decide +kernel
theorem d_Lw_273 : decode code 273 = .ok (.iaload, 1) := by decide +kernel
theorem d_Lw_274 : decode code 274 = .ok (.i2l, 1) := by decide +kernel
theorem d_Lw_275 : decode code 275 = .ok (.bipush 32, 2) := by decide +kernel
theorem d_Lw_277 : decode code 277 = .ok (.lshl, 1) := by decide +kernel
theorem d_Lw_278 : decode code 278 = .ok (.aload_n 0, 1) := by decide +kernel
theorem d_Lw_279 : decode code 279 = .ok (.iload_n 3, 1) := by decide +kernel
theorem d_Lw_280 : decode code 280 = .ok (.iconst 2, 1) := by decide +kernel
theorem d_Lw_281 : decode code 281 = .ok (.iadd, 1) := by decide +kernel
theorem d_Lw_282 : decode code 282 = .ok (.iaload, 1) := by decide +kernel
theorem d_Lw_283 : decode code 283 = .ok (.i2l, 1) := by decide +kernel
theorem d_Lw_284 : decode code 284 = .ok (.ldc2_w 23, 3) := by decide +kernel
theorem d_Lw_287 : decode code 287 = .ok (.land, 1) := by decide +kernel
theorem d_Lw_288 : decode code 288 = .ok (.lor, 1) := by decide +kernel
theorem d_Lw_289 : decode code 289 = .ok (.aload_n 0, 1) := by decide +kernel
theorem d_Lw_290 : decode code 290 = .ok (.iload_n 3, 1) := by decide +kernel
theorem d_Lw_291 : decode code 291 = .ok (.iconst 3, 1) := by decide +kernel
theorem d_Lw_292 : decode code 292 = .ok (.iadd, 1) := by decide +kernel
theorem d_Lw_293 : decode code 293 = .ok (.iaload, 1) := by decide +kernel
theorem d_Lw_294 : decode code 294 = .ok (.invokevirtual 25, 3) := by decide +kernel
theorem d_Lw_297 : decode code 297 = .ok (.aload_n 2, 1) := by decide +kernel
theorem d_Lw_298 : decode code 298 = .ok (.aload_n 0, 1) := by decide +kernel
theorem d_Lw_299 : decode code 299 = .ok (.iload_n 3, 1) := by decide +kernel
theorem d_Lw_300 : decode code 300 = .ok (.iconst 1, 1) := by decide +kernel
theorem d_Lw_301 : decode code 301 = .ok (.iadd, 1) := by decide +kernel
theorem d_Lw_302 : decode code 302 = .ok (.iaload, 1) := by decide +kernel
theorem d_Lw_303 : decode code 303 = .ok (.i2l, 1) := by decide +kernel
theorem d_Lw_304 : decode code 304 = .ok (.bipush 32, 2) := by decide +kernel
theorem d_Lw_306 : decode code 306 = .ok (.lshl, 1) := by decide +kernel
theorem d_Lw_307 : decode code 307 = .ok (.aload_n 0, 1) := by decide +kernel
theorem d_Lw_308 : decode code 308 = .ok (.iload_n 3, 1) := by decide +kernel
theorem d_Lw_309 : decode code 309 = .ok (.iconst 2, 1) := by decide +kernel
theorem d_Lw_310 : decode code 310 = .ok (.iadd, 1) := by decide +kernel
theorem d_Lw_311 : decode code 311 = .ok (.iaload, 1) := by decide +kernel
theorem d_Lw_312 : decode code 312 = .ok (.i2l, 1) := by decide +kernel
theorem d_Lw_313 : decode code 313 = .ok (.ldc2_w 23, 3) := by decide +kernel
theorem d_Lw_316 : decode code 316 = .ok (.land, 1) := by decide +kernel
theorem d_Lw_317 : decode code 317 = .ok (.lor, 1) := by decide +kernel
theorem d_Lw_318 : decode code 318 = .ok (.aload_n 0, 1) := by decide +kernel
theorem d_Lw_319 : decode code 319 = .ok (.iload_n 3, 1) := by decide +kernel
theorem d_Lw_320 : decode code 320 = .ok (.iconst 3, 1) := by decide +kernel
theorem d_Lw_321 : decode code 321 = .ok (.iadd, 1) := by decide +kernel
theorem d_Lw_322 : decode code 322 = .ok (.iaload, 1) := by decide +kernel
theorem d_Lw_323 : decode code 323 = .ok (.invokevirtual 29, 3) := by decide +kernel
theorem d_Lw_326 : decode code 326 = .ok (.if_icmp .eq 1136, 3) := by decide +kernel
theorem d_Lw_329 : decode code 329 = .ok (.iconst 0, 1) := by decide +kernel
theorem d_Lw_330 : decode code 330 = .ok (.ireturn, 1) := by decide +kernel
theorem d_Lw_331 : decode code 331 = .ok (.aload_n 1, 1) := by decide +kernel
theorem d_Lw_332 : decode code 332 = .ok (.invokevirtual 30, 3) := by decide +kernel
theorem d_Lw_335 : decode code 335 = .ok (.aload_n 2, 1) := by decide +kernel
theorem d_Lw_336 : decode code 336 = .ok (.invokevirtual 34, 3) := by decide +kernel
theorem d_Lw_339 : decode code 339 = .ok (.if_icmp .eq 1123, 3) := by decide +kernel
theorem d_Lw_342 : decode code 342 = .ok (.iconst 0, 1) := by decide +kernel
theorem d_Lw_343 : decode code 343 = .ok (.ireturn, 1) := by decide +kernel
theorem d_Lw_344 : decode code 344 = .ok (.aload_n 1, 1) := by decide +kernel
theorem d_Lw_345 : decode code 345 = .ok (.aload_n 0, 1) := by decide +kernel
theorem d_Lw_346 : decode code 346 = .ok (.iload_n 3, 1) := by decide +kernel
theorem d_Lw_347 : decode code 347 = .ok (.iconst 1, 1) := by decide +kernel
theorem d_Lw_348 : decode code 348 = .ok (.iadd, 1) := by decide +kernel
theorem d_Lw_349 : decode code 349 = .ok (.iaload, 1) := by decide +kernel
theorem d_Lw_350 : decode code 350 = .ok (.aload_n 0, 1) := by decide +kernel
theorem d_Lw_351 : decode code 351 = .ok (.iload_n 3, 1) := by decide +kernel
theorem d_Lw_352 : decode code 352 = .ok (.iconst 2, 1) := by decide +kernel
theorem d_Lw_353 : decode code 353 = .ok (.iadd, 1) := by decide +kernel
theorem d_Lw_354 : decode code 354 = .ok (.iaload, 1) := by decide +kernel
theorem d_Lw_355 : decode code 355 = .ok (.invokevirtual 35, 3) := by decide +kernel
theorem d_Lw_358 : decode code 358 = .ok (.aload_n 2, 1) := by decide +kernel
theorem d_Lw_359 : decode code 359 = .ok (.aload_n 0, 1) := by decide +kernel
theorem d_Lw_360 : decode code 360 = .ok (.iload_n 3, 1) := by decide +kernel
theorem d_Lw_361 : decode code 361 = .ok (.iconst 1, 1) := by decide +kernel
theorem d_Lw_362 : decode code 362 = .ok (.iadd, 1) := by decide +kernel
theorem d_Lw_363 : decode code 363 = .ok (.iaload, 1) := by decide +kernel
theorem d_Lw_364 : decode code 364 = .ok (.aload_n 0, 1) := by decide +kernel
theorem d_Lw_365 : decode code 365 = .ok (.iload_n 3, 1) := by decide +kernel
theorem d_Lw_366 : decode code 366 = .ok (.iconst 2, 1) := by decide +kernel
theorem d_Lw_367 : decode code 367 = .ok (.iadd, 1) := by decide +kernel
theorem d_Lw_368 : decode code 368 = .ok (.iaload, 1) := by decide +kernel
theorem d_Lw_369 : decode code 369 = .ok (.invokevirtual 38, 3) := by decide +kernel
theorem d_Lw_372 : decode code 372 = .ok (.if_icmp .eq 1090, 3) := by decide +kernel
theorem d_Lw_375 : decode code 375 = .ok (.iconst 0, 1) := by decide +kernel
theorem d_Lw_376 : decode code 376 = .ok (.ireturn, 1) := by decide +kernel
theorem d_Lw_377 : decode code 377 = .ok (.aload_n 1, 1) := by decide +kernel
theorem d_Lw_378 : decode code 378 = .ok (.aload_n 0, 1) := by decide +kernel
theorem d_Lw_379 : decode code 379 = .ok (.iload_n 3, 1) := by decide +kernel
theorem d_Lw_380 : decode code 380 = .ok (.iconst 1, 1) := by decide +kernel
theorem d_Lw_381 : decode code 381 = .ok (.iadd, 1) := by decide +kernel
theorem d_Lw_382 : decode code 382 = .ok (.iaload, 1) := by decide +kernel
theorem d_Lw_383 : decode code 383 = .ok (.aload_n 0, 1) := by decide +kernel
theorem d_Lw_384 : decode code 384 = .ok (.iload_n 3, 1) := by decide +kernel
theorem d_Lw_385 : decode code 385 = .ok (.iconst 2, 1) := by decide +kernel
theorem d_Lw_386 : decode code 386 = .ok (.iadd, 1) := by decide +kernel
theorem d_Lw_387 : decode code 387 = .ok (.iaload, 1) := by decide +kernel
theorem d_Lw_388 : decode code 388 = .ok (.invokevirtual 39, 3) := by decide +kernel
theorem d_Lw_391 : decode code 391 = .ok (.aload_n 2, 1) := by decide +kernel
theorem d_Lw_392 : decode code 392 = .ok (.aload_n 0, 1) := by decide +kernel
theorem d_Lw_393 : decode code 393 = .ok (.iload_n 3, 1) := by decide +kernel
theorem d_Lw_394 : decode code 394 = .ok (.iconst 1, 1) := by decide +kernel
theorem d_Lw_395 : decode code 395 = .ok (.iadd, 1) := by decide +kernel
theorem d_Lw_396 : decode code 396 = .ok (.iaload, 1) := by decide +kernel
theorem d_Lw_397 : decode code 397 = .ok (.aload_n 0, 1) := by decide +kernel
theorem d_Lw_398 : decode code 398 = .ok (.iload_n 3, 1) := by decide +kernel
theorem d_Lw_399 : decode code 399 = .ok (.iconst 2, 1) := by decide +kernel
theorem d_Lw_400 : decode code 400 = .ok (.iadd, 1) := by decide +kernel
theorem d_Lw_401 : decode code 401 = .ok (.iaload, 1) := by decide +kernel
theorem d_Lw_402 : decode code 402 = .ok (.invokevirtual 42, 3) := by decide +kernel
theorem d_Lw_405 : decode code 405 = .ok (.if_icmp .eq 1057, 3) := by decide +kernel
theorem d_Lw_408 : decode code 408 = .ok (.iconst 0, 1) := by decide +kernel
theorem d_Lw_409 : decode code 409 = .ok (.ireturn, 1) := by decide +kernel
theorem d_Lw_410 : decode code 410 = .ok (.aload_n 1, 1) := by decide +kernel
theorem d_Lw_411 : decode code 411 = .ok (.aload_n 0, 1) := by decide +kernel
theorem d_Lw_412 : decode code 412 = .ok (.iload_n 3, 1) := by decide +kernel
theorem d_Lw_413 : decode code 413 = .ok (.iconst 1, 1) := by decide +kernel
theorem d_Lw_414 : decode code 414 = .ok (.iadd, 1) := by decide +kernel
theorem d_Lw_415 : decode code 415 = .ok (.iaload, 1) := by decide +kernel
theorem d_Lw_416 : decode code 416 = .ok (.aload_n 0, 1) := by decide +kernel
theorem d_Lw_417 : decode code 417 = .ok (.iload_n 3, 1) := by decide +kernel
theorem d_Lw_418 : decode code 418 = .ok (.iconst 2, 1) := by decide +kernel
theorem d_Lw_419 : decode code 419 = .ok (.iadd, 1) := by decide +kernel
theorem d_Lw_420 : decode code 420 = .ok (.iaload, 1) := by decide +kernel
theorem d_Lw_421 : decode code 421 = .ok (.invokevirtual 43, 3) := by decide +kernel
theorem d_Lw_424 : decode code 424 = .ok (.aload_n 2, 1) := by decide +kernel
theorem d_Lw_425 : decode code 425 = .ok (.aload_n 0, 1) := by decide +kernel
theorem d_Lw_426 : decode code 426 = .ok (.iload_n 3, 1) := by decide +kernel
theorem d_Lw_427 : decode code 427 = .ok (.iconst 1, 1) := by decide +kernel
theorem d_Lw_428 : decode code 428 = .ok (.iadd, 1) := by decide +kernel
theorem d_Lw_429 : decode code 429 = .ok (.iaload, 1) := by decide +kernel
theorem d_Lw_430 : decode code 430 = .ok (.aload_n 0, 1) := by decide +kernel
theorem d_Lw_431 : decode code 431 = .ok (.iload_n 3, 1) := by decide +kernel
theorem d_Lw_432 : decode code 432 = .ok (.iconst 2, 1) := by decide +kernel
theorem d_Lw_433 : decode code 433 = .ok (.iadd, 1) := by decide +kernel
theorem d_Lw_434 : decode code 434 = .ok (.iaload, 1) := by decide +kernel
theorem d_Lw_435 : decode code 435 = .ok (.invokevirtual 46, 3) := by decide +kernel
theorem d_Lw_438 : decode code 438 = .ok (.if_icmp .eq 1024, 3) := by decide +kernel
theorem d_Lw_441 : decode code 441 = .ok (.iconst 0, 1) := by decide +kernel
theorem d_Lw_442 : decode code 442 = .ok (.ireturn, 1) := by decide +kernel
theorem d_Lw_443 : decode code 443 = .ok (.aload_n 1, 1) := by decide +kernel
theorem d_Lw_444 : decode code 444 = .ok (.aload_n 0, 1) := by decide +kernel
theorem d_Lw_445 : decode code 445 = .ok (.iload_n 3, 1) := by decide +kernel
theorem d_Lw_446 : decode code 446 = .ok (.iconst 1, 1) := by decide +kernel
theorem d_Lw_447 : decode code 447 = .ok (.iadd, 1) := by decide +kernel
theorem d_Lw_448 : decode code 448 = .ok (.iaload, 1) := by decide +kernel
theorem d_Lw_449 : decode code 449 = .ok (.aload_n 0, 1) := by decide +kernel
theorem d_Lw_450 : decode code 450 = .ok (.iload_n 3, 1) := by decide +kernel
theorem d_Lw_451 : decode code 451 = .ok (.iconst 2, 1) := by decide +kernel
theorem d_Lw_452 : decode code 452 = .ok (.iadd, 1) := by decide +kernel
theorem d_Lw_453 : decode code 453 = .ok (.iaload, 1) := by decide +kernel
theorem d_Lw_454 : decode code 454 = .ok (.aload_n 0, 1) := by decide +kernel
theorem d_Lw_455 : decode code 455 = .ok (.iload_n 3, 1) := by decide +kernel
theorem d_Lw_456 : decode code 456 = .ok (.iconst 3, 1) := by decide +kernel
theorem d_Lw_457 : decode code 457 = .ok (.iadd, 1) := by decide +kernel
theorem d_Lw_458 : decode code 458 = .ok (.iaload, 1) := by decide +kernel
theorem d_Lw_459 : decode code 459 = .ok (.invokevirtual 47, 3) := by decide +kernel
theorem d_Lw_462 : decode code 462 = .ok (.aload_n 2, 1) := by decide +kernel
theorem d_Lw_463 : decode code 463 = .ok (.aload_n 0, 1) := by decide +kernel
theorem d_Lw_464 : decode code 464 = .ok (.iload_n 3, 1) := by decide +kernel
theorem d_Lw_465 : decode code 465 = .ok (.iconst 1, 1) := by decide +kernel
theorem d_Lw_466 : decode code 466 = .ok (.iadd, 1) := by decide +kernel
theorem d_Lw_467 : decode code 467 = .ok (.iaload, 1) := by decide +kernel
theorem d_Lw_468 : decode code 468 = .ok (.aload_n 0, 1) := by decide +kernel
theorem d_Lw_469 : decode code 469 = .ok (.iload_n 3, 1) := by decide +kernel
theorem d_Lw_470 : decode code 470 = .ok (.iconst 2, 1) := by decide +kernel
theorem d_Lw_471 : decode code 471 = .ok (.iadd, 1) := by decide +kernel
theorem d_Lw_472 : decode code 472 = .ok (.iaload, 1) := by decide +kernel
theorem d_Lw_473 : decode code 473 = .ok (.aload_n 0, 1) := by decide +kernel
theorem d_Lw_474 : decode code 474 = .ok (.iload_n 3, 1) := by decide +kernel
theorem d_Lw_475 : decode code 475 = .ok (.iconst 3, 1) := by decide +kernel
theorem d_Lw_476 : decode code 476 = .ok (.iadd, 1) := by decide +kernel
theorem d_Lw_477 : decode code 477 = .ok (.iaload, 1) := by decide +kernel
theorem d_Lw_478 : decode code 478 = .ok (.invokevirtual 50, 3) := by decide +kernel
theorem d_Lw_481 : decode code 481 = .ok (.if_icmp .eq 981, 3) := by decide +kernel
theorem d_Lw_484 : decode code 484 = .ok (.iconst 0, 1) := by decide +kernel
theorem d_Lw_485 : decode code 485 = .ok (.ireturn, 1) := by decide +kernel
theorem d_Lw_486 : decode code 486 = .ok (.aload_n 1, 1) := by decide +kernel
theorem d_Lw_487 : decode code 487 = .ok (.aload_n 0, 1) := by decide +kernel
theorem d_Lw_488 : decode code 488 = .ok (.iload_n 3, 1) := by decide +kernel
theorem d_Lw_489 : decode code 489 = .ok (.iconst 1, 1) := by decide +kernel
theorem d_Lw_490 : decode code 490 = .ok (.iadd, 1) := by decide +kernel
theorem d_Lw_491 : decode code 491 = .ok (.iaload, 1) := by decide +kernel
theorem d_Lw_492 : decode code 492 = .ok (.aload_n 0, 1) := by decide +kernel
theorem d_Lw_493 : decode code 493 = .ok (.iload_n 3, 1) := by decide +kernel
theorem d_Lw_494 : decode code 494 = .ok (.iconst 2, 1) := by decide +kernel
theorem d_Lw_495 : decode code 495 = .ok (.iadd, 1) := by decide +kernel
theorem d_Lw_496 : decode code 496 = .ok (.iaload, 1) := by decide +kernel
theorem d_Lw_497 : decode code 497 = .ok (.invokevirtual 51, 3) := by decide +kernel
theorem d_Lw_500 : decode code 500 = .ok (.aload_n 2, 1) := by decide +kernel
theorem d_Lw_501 : decode code 501 = .ok (.aload_n 0, 1) := by decide +kernel
theorem d_Lw_502 : decode code 502 = .ok (.iload_n 3, 1) := by decide +kernel
theorem d_Lw_503 : decode code 503 = .ok (.iconst 1, 1) := by decide +kernel
theorem d_Lw_504 : decode code 504 = .ok (.iadd, 1) := by decide +kernel
theorem d_Lw_505 : decode code 505 = .ok (.iaload, 1) := by decide +kernel
theorem d_Lw_506 : decode code 506 = .ok (.aload_n 0, 1) := by decide +kernel
theorem d_Lw_507 : decode code 507 = .ok (.iload_n 3, 1) := by decide +kernel
theorem d_Lw_508 : decode code 508 = .ok (.iconst 2, 1) := by decide +kernel
theorem d_Lw_509 : decode code 509 = .ok (.iadd, 1) := by decide +kernel
theorem d_Lw_510 : decode code 510 = .ok (.iaload, 1) := by decide +kernel
theorem d_Lw_511 : decode code 511 = .ok (.invokevirtual 54, 3) := by decide +kernel
theorem d_Lw_514 : decode code 514 = .ok (.if_icmp .eq 948, 3) := by decide +kernel
theorem d_Lw_517 : decode code 517 = .ok (.iconst 0, 1) := by decide +kernel
theorem d_Lw_518 : decode code 518 = .ok (.ireturn, 1) := by decide +kernel
theorem d_Lw_519 : decode code 519 = .ok (.aload_n 1, 1) := by decide +kernel
theorem d_Lw_520 : decode code 520 = .ok (.aload_n 0, 1) := by decide +kernel
theorem d_Lw_521 : decode code 521 = .ok (.iload_n 3, 1) := by decide +kernel
theorem d_Lw_522 : decode code 522 = .ok (.iconst 1, 1) := by decide +kernel
theorem d_Lw_523 : decode code 523 = .ok (.iadd, 1) := by decide +kernel
theorem d_Lw_524 : decode code 524 = .ok (.iaload, 1) := by decide +kernel
theorem d_Lw_525 : decode code 525 = .ok (.aload_n 0, 1) := by decide +kernel
theorem d_Lw_526 : decode code 526 = .ok (.iload_n 3, 1) := by decide +kernel
theorem d_Lw_527 : decode code 527 = .ok (.iconst 2, 1) := by decide +kernel
theorem d_Lw_528 : decode code 528 = .ok (.iadd, 1) := by decide +kernel
theorem d_Lw_529 : decode code 529 = .ok (.iaload, 1) := by decide +kernel
theorem d_Lw_530 : decode code 530 = .ok (.aload_n 0, 1) := by decide +kernel
theorem d_Lw_531 : decode code 531 = .ok (.iload_n 3, 1) := by decide +kernel
theorem d_Lw_532 : decode code 532 = .ok (.iconst 3, 1) := by decide +kernel
theorem d_Lw_533 : decode code 533 = .ok (.iadd, 1) := by decide +kernel
theorem d_Lw_534 : decode code 534 = .ok (.iaload, 1) := by decide +kernel
theorem d_Lw_535 : decode code 535 = .ok (.invokevirtual 55, 3) := by decide +kernel
theorem d_Lw_538 : decode code 538 = .ok (.aload_n 2, 1) := by decide +kernel
theorem d_Lw_539 : decode code 539 = .ok (.aload_n 0, 1) := by decide +kernel
theorem d_Lw_540 : decode code 540 = .ok (.iload_n 3, 1) := by decide +kernel
theorem d_Lw_541 : decode code 541 = .ok (.iconst 1, 1) := by decide +kernel
theorem d_Lw_542 : decode code 542 = .ok (.iadd, 1) := by decide +kernel
theorem d_Lw_543 : decode code 543 = .ok (.iaload, 1) := by decide +kernel
theorem d_Lw_544 : decode code 544 = .ok (.aload_n 0, 1) := by decide +kernel
theorem d_Lw_545 : decode code 545 = .ok (.iload_n 3, 1) := by decide +kernel
theorem d_Lw_546 : decode code 546 = .ok (.iconst 2, 1) := by decide +kernel
theorem d_Lw_547 : decode code 547 = .ok (.iadd, 1) := by decide +kernel
theorem d_Lw_548 : decode code 548 = .ok (.iaload, 1) := by decide +kernel
theorem d_Lw_549 : decode code 549 = .ok (.aload_n 0, 1) := by decide +kernel
theorem d_Lw_550 : decode code 550 = .ok (.iload_n 3, 1) := by decide +kernel
theorem d_Lw_551 : decode code 551 = .ok (.iconst 3, 1) := by decide +kernel
theorem d_Lw_552 : decode code 552 = .ok (.iadd, 1) := by decide +kernel
theorem d_Lw_553 : decode code 553 = .ok (.iaload, 1) := by decide +kernel
theorem d_Lw_554 : decode code 554 = .ok (.invokevirtual 58, 3) := by decide +kernel
theorem d_Lw_557 : decode code 557 = .ok (.if_icmp .eq 905, 3) := by decide +kernel
theorem d_Lw_560 : decode code 560 = .ok (.iconst 0, 1) := by decide +kernel
theorem d_Lw_561 : decode code 561 = .ok (.ireturn, 1) := by decide +kernel
theorem d_Lw_562 : decode code 562 = .ok (.aload_n 1, 1) := by decide +kernel
theorem d_Lw_563 : decode code 563 = .ok (.aload_n 0, 1) := by decide +kernel
theorem d_Lw_564 : decode code 564 = .ok (.iload_n 3, 1) := by decide +kernel
theorem d_Lw_565 : decode code 565 = .ok (.iconst 1, 1) := by decide +kernel
theorem d_Lw_566 : decode code 566 = .ok (.iadd, 1) := by decide +kernel
theorem d_Lw_567 : decode code 567 = .ok (.iaload, 1) := by decide +kernel
theorem d_Lw_568 : decode code 568 = .ok (.aload_n 0, 1) := by decide +kernel
theorem d_Lw_569 : decode code 569 = .ok (.iload_n 3, 1) := by decide +kernel
theorem d_Lw_570 : decode code 570 = .ok (.iconst 2, 1) := by decide +kernel
theorem d_Lw_571 : decode code 571 = .ok (.iadd, 1) := by decide +kernel
theorem d_Lw_572 : decode code 572 = .ok (.iaload, 1) := by decide +kernel
theorem d_Lw_573 : decode code 573 = .ok (.aload_n 0, 1) := by decide +kernel
theorem d_Lw_574 : decode code 574 = .ok (.iload_n 3, 1) := by decide +kernel
theorem d_Lw_575 : decode code 575 = .ok (.iconst 3, 1) := by decide +kernel
theorem d_Lw_576 : decode code 576 = .ok (.iadd, 1) := by decide +kernel
theorem d_Lw_577 : decode code 577 = .ok (.iaload, 1) := by decide +kernel
theorem d_Lw_578 : decode code 578 = .ok (.aload_n 0, 1) := by decide +kernel
theorem d_Lw_579 : decode code 579 = .ok (.iload_n 3, 1) := by decide +kernel
theorem d_Lw_580 : decode code 580 = .ok (.iconst 4, 1) := by decide +kernel
theorem d_Lw_581 : decode code 581 = .ok (.iadd, 1) := by decide +kernel
theorem d_Lw_582 : decode code 582 = .ok (.iaload, 1) := by decide +kernel
theorem d_Lw_583 : decode code 583 = .ok (.aload_n 0, 1) := by decide +kernel
theorem d_Lw_584 : decode code 584 = .ok (.iload_n 3, 1) := by decide +kernel
theorem d_Lw_585 : decode code 585 = .ok (.iconst 5, 1) := by decide +kernel
theorem d_Lw_586 : decode code 586 = .ok (.iadd, 1) := by decide +kernel
theorem d_Lw_587 : decode code 587 = .ok (.iaload, 1) := by decide +kernel
theorem d_Lw_588 : decode code 588 = .ok (.aload_n 0, 1) := by decide +kernel
theorem d_Lw_589 : decode code 589 = .ok (.iload_n 3, 1) := by decide +kernel
theorem d_Lw_590 : decode code 590 = .ok (.bipush 6, 2) := by decide +kernel
theorem d_Lw_592 : decode code 592 = .ok (.iadd, 1) := by decide +kernel
theorem d_Lw_593 : decode code 593 = .ok (.iaload, 1) := by decide +kernel
theorem d_Lw_594 : decode code 594 = .ok (.invokevirtual 59, 3) := by decide +kernel
theorem d_Lw_597 : decode code 597 = .ok (.aload_n 2, 1) := by decide +kernel
theorem d_Lw_598 : decode code 598 = .ok (.aload_n 0, 1) := by decide +kernel
theorem d_Lw_599 : decode code 599 = .ok (.iload_n 3, 1) := by decide +kernel
theorem d_Lw_600 : decode code 600 = .ok (.iconst 1, 1) := by decide +kernel
theorem d_Lw_601 : decode code 601 = .ok (.iadd, 1) := by decide +kernel
theorem d_Lw_602 : decode code 602 = .ok (.iaload, 1) := by decide +kernel
theorem d_Lw_603 : decode code 603 = .ok (.aload_n 0, 1) := by decide +kernel
theorem d_Lw_604 : decode code 604 = .ok (.iload_n 3, 1) := by decide +kernel
theorem d_Lw_605 : decode code 605 = .ok (.iconst 2, 1) := by decide +kernel
theorem d_Lw_606 : decode code 606 = .ok (.iadd, 1) := by decide +kernel
theorem d_Lw_607 : decode code 607 = .ok (.iaload, 1) := by decide +kernel
theorem d_Lw_608 : decode code 608 = .ok (.aload_n 0, 1) := by decide +kernel
theorem d_Lw_609 : decode code 609 = .ok (.iload_n 3, 1) := by decide +kernel
theorem d_Lw_610 : decode code 610 = .ok (.iconst 3, 1) := by decide +kernel
theorem d_Lw_611 : decode code 611 = .ok (.iadd, 1) := by decide +kernel
theorem d_Lw_612 : decode code 612 = .ok (.iaload, 1) := by decide +kernel
theorem d_Lw_613 : decode code 613 = .ok (.aload_n 0, 1) := by decide +kernel
theorem d_Lw_614 : decode code 614 = .ok (.iload_n 3, 1) := by decide +kernel
theorem d_Lw_615 : decode code 615 = .ok (.iconst 4, 1) := by decide +kernel
theorem d_Lw_616 : decode code 616 = .ok (.iadd, 1) := by decide +kernel
theorem d_Lw_617 : decode code 617 = .ok (.iaload, 1) := by decide +kernel
theorem d_Lw_618 : decode code 618 = .ok (.aload_n 0, 1) := by decide +kernel
theorem d_Lw_619 : decode code 619 = .ok (.iload_n 3, 1) := by decide +kernel
theorem d_Lw_620 : decode code 620 = .ok (.iconst 5, 1) := by decide +kernel
theorem d_Lw_621 : decode code 621 = .ok (.iadd, 1) := by decide +kernel
theorem d_Lw_622 : decode code 622 = .ok (.iaload, 1) := by decide +kernel
theorem d_Lw_623 : decode code 623 = .ok (.aload_n 0, 1) := by decide +kernel
theorem d_Lw_624 : decode code 624 = .ok (.iload_n 3, 1) := by decide +kernel
theorem d_Lw_625 : decode code 625 = .ok (.bipush 6, 2) := by decide +kernel
theorem d_Lw_627 : decode code 627 = .ok (.iadd, 1) := by decide +kernel
theorem d_Lw_628 : decode code 628 = .ok (.iaload, 1) := by decide +kernel
theorem d_Lw_629 : decode code 629 = .ok (.invokevirtual 63, 3) := by decide +kernel
theorem d_Lw_632 : decode code 632 = .ok (.if_icmp .eq 830, 3) := by decide +kernel
theorem d_Lw_635 : decode code 635 = .ok (.iconst 0, 1) := by decide +kernel
theorem d_Lw_636 : decode code 636 = .ok (.ireturn, 1) := by decide +kernel
theorem d_Lw_637 : decode code 637 = .ok (.aload_n 1, 1) := by decide +kernel
theorem d_Lw_638 : decode code 638 = .ok (.aload_n 0, 1) := by decide +kernel
theorem d_Lw_639 : decode code 639 = .ok (.iload_n 3, 1) := by decide +kernel
theorem d_Lw_640 : decode code 640 = .ok (.iconst 1, 1) := by decide +kernel
theorem d_Lw_641 : decode code 641 = .ok (.iadd, 1) := by decide +kernel
theorem d_Lw_642 : decode code 642 = .ok (.iaload, 1) := by decide +kernel
theorem d_Lw_643 : decode code 643 = .ok (.invokevirtual 64, 3) := by decide +kernel
theorem d_Lw_646 : decode code 646 = .ok (.aload_n 2, 1) := by decide +kernel
theorem d_Lw_647 : decode code 647 = .ok (.aload_n 0, 1) := by decide +kernel
theorem d_Lw_648 : decode code 648 = .ok (.iload_n 3, 1) := by decide +kernel
theorem d_Lw_649 : decode code 649 = .ok (.iconst 1, 1) := by decide +kernel
theorem d_Lw_650 : decode code 650 = .ok (.iadd, 1) := by decide +kernel
theorem d_Lw_651 : decode code 651 = .ok (.iaload, 1) := by decide +kernel
theorem d_Lw_652 : decode code 652 = .ok (.invokevirtual 68, 3) := by decide +kernel
theorem d_Lw_655 : decode code 655 = .ok (.if_icmp .eq 807, 3) := by decide +kernel
theorem d_Lw_658 : decode code 658 = .ok (.iconst 0, 1) := by decide +kernel
theorem d_Lw_659 : decode code 659 = .ok (.ireturn, 1) := by decide +kernel
theorem d_Lw_660 : decode code 660 = .ok (.aload_n 1, 1) := by decide +kernel
theorem d_Lw_661 : decode code 661 = .ok (.aload_n 0, 1) := by decide +kernel
theorem d_Lw_662 : decode code 662 = .ok (.iload_n 3, 1) := by decide +kernel
theorem d_Lw_663 : decode code 663 = .ok (.iconst 1, 1) := by decide +kernel
theorem d_Lw_664 : decode code 664 = .ok (.iadd, 1) := by decide +kernel
theorem d_Lw_665 : decode code 665 = .ok (.iaload, 1) := by decide +kernel
theorem d_Lw_666 : decode code 666 = .ok (.aload_n 0, 1) := by decide +kernel
theorem d_Lw_667 : decode code 667 = .ok (.iload_n 3, 1) := by decide +kernel
theorem d_Lw_668 : decode code 668 = .ok (.iconst 2, 1) := by decide +kernel
theorem d_Lw_669 : decode code 669 = .ok (.iadd, 1) := by decide +kernel
theorem d_Lw_670 : decode code 670 = .ok (.iaload, 1) := by decide +kernel
theorem d_Lw_671 : decode code 671 = .ok (.aload_n 0, 1) := by decide +kernel
theorem d_Lw_672 : decode code 672 = .ok (.iload_n 3, 1) := by decide +kernel
theorem d_Lw_673 : decode code 673 = .ok (.iconst 3, 1) := by decide +kernel
theorem d_Lw_674 : decode code 674 = .ok (.iadd, 1) := by decide +kernel
theorem d_Lw_675 : decode code 675 = .ok (.iaload, 1) := by decide +kernel
theorem d_Lw_676 : decode code 676 = .ok (.invokevirtual 69, 3) := by decide +kernel
theorem d_Lw_679 : decode code 679 = .ok (.aload_n 2, 1) := by decide +kernel
theorem d_Lw_680 : decode code 680 = .ok (.aload_n 0, 1) := by decide +kernel
theorem d_Lw_681 : decode code 681 = .ok (.iload_n 3, 1) := by decide +kernel
theorem d_Lw_682 : decode code 682 = .ok (.iconst 1, 1) := by decide +kernel
theorem d_Lw_683 : decode code 683 = .ok (.iadd, 1) := by decide +kernel
theorem d_Lw_684 : decode code 684 = .ok (.iaload, 1) := by decide +kernel
theorem d_Lw_685 : decode code 685 = .ok (.aload_n 0, 1) := by decide +kernel
theorem d_Lw_686 : decode code 686 = .ok (.iload_n 3, 1) := by decide +kernel
theorem d_Lw_687 : decode code 687 = .ok (.iconst 2, 1) := by decide +kernel
theorem d_Lw_688 : decode code 688 = .ok (.iadd, 1) := by decide +kernel
theorem d_Lw_689 : decode code 689 = .ok (.iaload, 1) := by decide +kernel
theorem d_Lw_690 : decode code 690 = .ok (.aload_n 0, 1) := by decide +kernel
theorem d_Lw_691 : decode code 691 = .ok (.iload_n 3, 1) := by decide +kernel
theorem d_Lw_692 : decode code 692 = .ok (.iconst 3, 1) := by decide +kernel
theorem d_Lw_693 : decode code 693 = .ok (.iadd, 1) := by decide +kernel
theorem d_Lw_694 : decode code 694 = .ok (.iaload, 1) := by decide +kernel
theorem d_Lw_695 : decode code 695 = .ok (.invokevirtual 72, 3) := by decide +kernel
theorem d_Lw_698 : decode code 698 = .ok (.if_icmp .eq 764, 3) := by decide +kernel
theorem d_Lw_701 : decode code 701 = .ok (.iconst 0, 1) := by decide +kernel
theorem d_Lw_702 : decode code 702 = .ok (.ireturn, 1) := by decide +kernel
theorem d_Lw_703 : decode code 703 = .ok (.aload_n 1, 1) := by decide +kernel
theorem d_Lw_704 : decode code 704 = .ok (.aload_n 0, 1) := by decide +kernel
theorem d_Lw_705 : decode code 705 = .ok (.iload_n 3, 1) := by decide +kernel
theorem d_Lw_706 : decode code 706 = .ok (.iconst 1, 1) := by decide +kernel
theorem d_Lw_707 : decode code 707 = .ok (.iadd, 1) := by decide +kernel
theorem d_Lw_708 : decode code 708 = .ok (.iaload, 1) := by decide +kernel
theorem d_Lw_709 : decode code 709 = .ok (.aload_n 0, 1) := by decide +kernel
theorem d_Lw_710 : decode code 710 = .ok (.iload_n 3, 1) := by decide +kernel
theorem d_Lw_711 : decode code 711 = .ok (.iconst 2, 1) := by decide +kernel
theorem d_Lw_712 : decode code 712 = .ok (.iadd, 1) := by decide +kernel
theorem d_Lw_713 : decode code 713 = .ok (.iaload, 1) := by decide +kernel
theorem d_Lw_714 : decode code 714 = .ok (.aload_n 0, 1) := by decide +kernel
theorem d_Lw_715 : decode code 715 = .ok (.iload_n 3, 1) := by decide +kernel
theorem d_Lw_716 : decode code 716 = .ok (.iconst 3, 1) := by decide +kernel
theorem d_Lw_717 : decode code 717 = .ok (.iadd, 1) := by decide +kernel
theorem d_Lw_718 : decode code 718 = .ok (.iaload, 1) := by decide +kernel
theorem d_Lw_719 : decode code 719 = .ok (.invokevirtual 73, 3) := by decide +kernel
theorem d_Lw_722 : decode code 722 = .ok (.aload_n 2, 1) := by decide +kernel
theorem d_Lw_723 : decode code 723 = .ok (.aload_n 0, 1) := by decide +kernel
theorem d_Lw_724 : decode code 724 = .ok (.iload_n 3, 1) := by decide +kernel
theorem d_Lw_725 : decode code 725 = .ok (.iconst 1, 1) := by decide +kernel
theorem d_Lw_726 : decode code 726 = .ok (.iadd, 1) := by decide +kernel
theorem d_Lw_727 : decode code 727 = .ok (.iaload, 1) := by decide +kernel
theorem d_Lw_728 : decode code 728 = .ok (.aload_n 0, 1) := by decide +kernel
theorem d_Lw_729 : decode code 729 = .ok (.iload_n 3, 1) := by decide +kernel
theorem d_Lw_730 : decode code 730 = .ok (.iconst 2, 1) := by decide +kernel
theorem d_Lw_731 : decode code 731 = .ok (.iadd, 1) := by decide +kernel
theorem d_Lw_732 : decode code 732 = .ok (.iaload, 1) := by decide +kernel
theorem d_Lw_733 : decode code 733 = .ok (.aload_n 0, 1) := by decide +kernel
theorem d_Lw_734 : decode code 734 = .ok (.iload_n 3, 1) := by decide +kernel
theorem d_Lw_735 : decode code 735 = .ok (.iconst 3, 1) := by decide +kernel
theorem d_Lw_736 : decode code 736 = .ok (.iadd, 1) := by decide +kernel
theorem d_Lw_737 : decode code 737 = .ok (.iaload, 1) := by decide +kernel
theorem d_Lw_738 : decode code 738 = .ok (.invokevirtual 76, 3) := by decide +kernel
theorem d_Lw_741 : decode code 741 = .ok (.if_icmp .eq 721, 3) := by decide +kernel
theorem d_Lw_744 : decode code 744 = .ok (.iconst 0, 1) := by decide +kernel
theorem d_Lw_745 : decode code 745 = .ok (.ireturn, 1) := by decide +kernel
theorem d_Lw_746 : decode code 746 = .ok (.aload_n 1, 1) := by decide +kernel
theorem d_Lw_747 : decode code 747 = .ok (.aload_n 0, 1) := by decide +kernel
theorem d_Lw_748 : decode code 748 = .ok (.iload_n 3, 1) := by decide +kernel
theorem d_Lw_749 : decode code 749 = .ok (.iconst 1, 1) := by decide +kernel
theorem d_Lw_750 : decode code 750 = .ok (.iadd, 1) := by decide +kernel
theorem d_Lw_751 : decode code 751 = .ok (.iaload, 1) := by decide +kernel
theorem d_Lw_752 : decode code 752 = .ok (.aload_n 0, 1) := by decide +kernel
theorem d_Lw_753 : decode code 753 = .ok (.iload_n 3, 1) := by decide +kernel
theorem d_Lw_754 : decode code 754 = .ok (.iconst 2, 1) := by decide +kernel
theorem d_Lw_755 : decode code 755 = .ok (.iadd, 1) := by decide +kernel
theorem d_Lw_756 : decode code 756 = .ok (.iaload, 1) := by decide +kernel
theorem d_Lw_757 : decode code 757 = .ok (.invokevirtual 77, 3) := by decide +kernel
theorem d_Lw_760 : decode code 760 = .ok (.aload_n 2, 1) := by decide +kernel
theorem d_Lw_761 : decode code 761 = .ok (.aload_n 0, 1) := by decide +kernel
theorem d_Lw_762 : decode code 762 = .ok (.iload_n 3, 1) := by decide +kernel
theorem d_Lw_763 : decode code 763 = .ok (.iconst 1, 1) := by decide +kernel
theorem d_Lw_764 : decode code 764 = .ok (.iadd, 1) := by decide +kernel
theorem d_Lw_765 : decode code 765 = .ok (.iaload, 1) := by decide +kernel
theorem d_Lw_766 : decode code 766 = .ok (.aload_n 0, 1) := by decide +kernel
theorem d_Lw_767 : decode code 767 = .ok (.iload_n 3, 1) := by decide +kernel
theorem d_Lw_768 : decode code 768 = .ok (.iconst 2, 1) := by decide +kernel
theorem d_Lw_769 : decode code 769 = .ok (.iadd, 1) := by decide +kernel
theorem d_Lw_770 : decode code 770 = .ok (.iaload, 1) := by decide +kernel
theorem d_Lw_771 : decode code 771 = .ok (.invokevirtual 80, 3) := by decide +kernel
theorem d_Lw_774 : decode code 774 = .ok (.if_icmp .eq 688, 3) := by decide +kernel
theorem d_Lw_777 : decode code 777 = .ok (.iconst 0, 1) := by decide +kernel
theorem d_Lw_778 : decode code 778 = .ok (.ireturn, 1) := by decide +kernel
theorem d_Lw_779 : decode code 779 = .ok (.aload_n 1, 1) := by decide +kernel
theorem d_Lw_780 : decode code 780 = .ok (.aload_n 0, 1) := by decide +kernel
theorem d_Lw_781 : decode code 781 = .ok (.iload_n 3, 1) := by decide +kernel
theorem d_Lw_782 : decode code 782 = .ok (.iconst 1, 1) := by decide +kernel
theorem d_Lw_783 : decode code 783 = .ok (.iadd, 1) := by decide +kernel
theorem d_Lw_784 : decode code 784 = .ok (.iaload, 1) := by decide +kernel
theorem d_Lw_785 : decode code 785 = .ok (.aload_n 0, 1) := by decide +kernel
theorem d_Lw_786 : decode code 786 = .ok (.iload_n 3, 1) := by decide +kernel
theorem d_Lw_787 : decode code 787 = .ok (.iconst 2, 1) := by decide +kernel
theorem d_Lw_788 : decode code 788 = .ok (.iadd, 1) := by decide +kernel
theorem d_Lw_789 : decode code 789 = .ok (.iaload, 1) := by decide +kernel
theorem d_Lw_790 : decode code 790 = .ok (.invokevirtual 81, 3) := by decide +kernel
theorem d_Lw_793 : decode code 793 = .ok (.aload_n 2, 1) := by decide +kernel
theorem d_Lw_794 : decode code 794 = .ok (.aload_n 0, 1) := by decide +kernel
theorem d_Lw_795 : decode code 795 = .ok (.iload_n 3, 1) := by decide +kernel
theorem d_Lw_796 : decode code 796 = .ok (.iconst 1, 1) := by decide +kernel
theorem d_Lw_797 : decode code 797 = .ok (.iadd, 1) := by decide +kernel
theorem d_Lw_798 : decode code 798 = .ok (.iaload, 1) := by decide +kernel
theorem d_Lw_799 : decode code 799 = .ok (.aload_n 0, 1) := by decide +kernel
theorem d_Lw_800 : decode code 800 = .ok (.iload_n 3, 1) := by decide +kernel
theorem d_Lw_801 : decode code 801 = .ok (.iconst 2, 1) := by decide +kernel
theorem d_Lw_802 : decode code 802 = .ok (.iadd, 1) := by decide +kernel
theorem d_Lw_803 : decode code 803 = .ok (.iaload, 1) := by decide +kernel
theorem d_Lw_804 : decode code 804 = .ok (.invokevirtual 84, 3) := by decide +kernel
theorem d_Lw_807 : decode code 807 = .ok (.if_icmp .eq 655, 3) := by decide +kernel
theorem d_Lw_810 : decode code 810 = .ok (.iconst 0, 1) := by decide +kernel
theorem d_Lw_811 : decode code 811 = .ok (.ireturn, 1) := by decide +kernel
theorem d_Lw_812 : decode code 812 = .ok (.aload_n 1, 1) := by decide +kernel
theorem d_Lw_813 : decode code 813 = .ok (.aload_n 0, 1) := by decide +kernel
theorem d_Lw_814 : decode code 814 = .ok (.iload_n 3, 1) := by decide +kernel
theorem d_Lw_815 : decode code 815 = .ok (.iconst 1, 1) := by decide +kernel
theorem d_Lw_816 : decode code 816 = .ok (.iadd, 1) := by decide +kernel
theorem d_Lw_817 : decode code 817 = .ok (.iaload, 1) := by decide +kernel
theorem d_Lw_818 : decode code 818 = .ok (.aload_n 0, 1) := by decide +kernel
theorem d_Lw_819 : decode code 819 = .ok (.iload_n 3, 1) := by decide +kernel
theorem d_Lw_820 : decode code 820 = .ok (.iconst 2, 1) := by decide +kernel
theorem d_Lw_821 : decode code 821 = .ok (.iadd, 1) := by decide +kernel
theorem d_Lw_822 : decode code 822 = .ok (.iaload, 1) := by decide +kernel
theorem d_Lw_823 : decode code 823 = .ok (.aload_n 0, 1) := by decide +kernel
theorem d_Lw_824 : decode code 824 = .ok (.iload_n 3, 1) := by decide +kernel
theorem d_Lw_825 : decode code 825 = .ok (.iconst 3, 1) := by decide +kernel
theorem d_Lw_826 : decode code 826 = .ok (.iadd, 1) := by decide +kernel
theorem d_Lw_827 : decode code 827 = .ok (.iaload, 1) := by decide +kernel
theorem d_Lw_828 : decode code 828 = .ok (.invokevirtual 85, 3) := by decide +kernel
theorem d_Lw_831 : decode code 831 = .ok (.aload_n 2, 1) := by decide +kernel
theorem d_Lw_832 : decode code 832 = .ok (.aload_n 0, 1) := by decide +kernel
theorem d_Lw_833 : decode code 833 = .ok (.iload_n 3, 1) := by decide +kernel
theorem d_Lw_834 : decode code 834 = .ok (.iconst 1, 1) := by decide +kernel
theorem d_Lw_835 : decode code 835 = .ok (.iadd, 1) := by decide +kernel
theorem d_Lw_836 : decode code 836 = .ok (.iaload, 1) := by decide +kernel
theorem d_Lw_837 : decode code 837 = .ok (.aload_n 0, 1) := by decide +kernel
theorem d_Lw_838 : decode code 838 = .ok (.iload_n 3, 1) := by decide +kernel
theorem d_Lw_839 : decode code 839 = .ok (.iconst 2, 1) := by decide +kernel
theorem d_Lw_840 : decode code 840 = .ok (.iadd, 1) := by decide +kernel
theorem d_Lw_841 : decode code 841 = .ok (.iaload, 1) := by decide +kernel
theorem d_Lw_842 : decode code 842 = .ok (.aload_n 0, 1) := by decide +kernel
theorem d_Lw_843 : decode code 843 = .ok (.iload_n 3, 1) := by decide +kernel
theorem d_Lw_844 : decode code 844 = .ok (.iconst 3, 1) := by decide +kernel
theorem d_Lw_845 : decode code 845 = .ok (.iadd, 1) := by decide +kernel
theorem d_Lw_846 : decode code 846 = .ok (.iaload, 1) := by decide +kernel
theorem d_Lw_847 : decode code 847 = .ok (.invokevirtual 88, 3) := by decide +kernel
theorem d_Lw_850 : decode code 850 = .ok (.if_icmp .eq 612, 3) := by decide +kernel
theorem d_Lw_853 : decode code 853 = .ok (.iconst 0, 1) := by decide +kernel
theorem d_Lw_854 : decode code 854 = .ok (.ireturn, 1) := by decide +kernel
theorem d_Lw_855 : decode code 855 = .ok (.aload_n 1, 1) := by decide +kernel
theorem d_Lw_856 : decode code 856 = .ok (.aload_n 0, 1) := by decide +kernel
theorem d_Lw_857 : decode code 857 = .ok (.iload_n 3, 1) := by decide +kernel
theorem d_Lw_858 : decode code 858 = .ok (.iconst 1, 1) := by decide +kernel
theorem d_Lw_859 : decode code 859 = .ok (.iadd, 1) := by decide +kernel
theorem d_Lw_860 : decode code 860 = .ok (.iaload, 1) := by decide +kernel
theorem d_Lw_861 : decode code 861 = .ok (.aload_n 0, 1) := by decide +kernel
theorem d_Lw_862 : decode code 862 = .ok (.iload_n 3, 1) := by decide +kernel
theorem d_Lw_863 : decode code 863 = .ok (.iconst 2, 1) := by decide +kernel
theorem d_Lw_864 : decode code 864 = .ok (.iadd, 1) := by decide +kernel
theorem d_Lw_865 : decode code 865 = .ok (.iaload, 1) := by decide +kernel
theorem d_Lw_866 : decode code 866 = .ok (.aload_n 0, 1) := by decide +kernel
theorem d_Lw_867 : decode code 867 = .ok (.iload_n 3, 1) := by decide +kernel
theorem d_Lw_868 : decode code 868 = .ok (.iconst 3, 1) := by decide +kernel
theorem d_Lw_869 : decode code 869 = .ok (.iadd, 1) := by decide +kernel
theorem d_Lw_870 : decode code 870 = .ok (.iaload, 1) := by decide +kernel
theorem d_Lw_871 : decode code 871 = .ok (.aload_n 0, 1) := by decide +kernel
theorem d_Lw_872 : decode code 872 = .ok (.iload_n 3, 1) := by decide +kernel
theorem d_Lw_873 : decode code 873 = .ok (.iconst 4, 1) := by decide +kernel
theorem d_Lw_874 : decode code 874 = .ok (.iadd, 1) := by decide +kernel
theorem d_Lw_875 : decode code 875 = .ok (.iaload, 1) := by decide +kernel
theorem d_Lw_876 : decode code 876 = .ok (.invokevirtual 89, 3) := by decide +kernel
theorem d_Lw_879 : decode code 879 = .ok (.aload_n 2, 1) := by decide +kernel
theorem d_Lw_880 : decode code 880 = .ok (.aload_n 0, 1) := by decide +kernel
theorem d_Lw_881 : decode code 881 = .ok (.iload_n 3, 1) := by decide +kernel
theorem d_Lw_882 : decode code 882 = .ok (.iconst 1, 1) := by decide +kernel
theorem d_Lw_883 : decode code 883 = .ok (.iadd, 1) := by decide +kernel
theorem d_Lw_884 : decode code 884 = .ok (.iaload, 1) := by decide +kernel
theorem d_Lw_885 : decode code 885 = .ok (.aload_n 0, 1) := by decide +kernel
theorem d_Lw_886 : decode code 886 = .ok (.iload_n 3, 1) := by decide +kernel
theorem d_Lw_887 : decode code 887 = .ok (.iconst 2, 1) := by decide +kernel
theorem d_Lw_888 : decode code 888 = .ok (.iadd, 1) := by decide +kernel
theorem d_Lw_889 : decode code 889 = .ok (.iaload, 1) := by decide +kernel
theorem d_Lw_890 : decode code 890 = .ok (.aload_n 0, 1) := by decide +kernel
theorem d_Lw_891 : decode code 891 = .ok (.iload_n 3, 1) := by decide +kernel
theorem d_Lw_892 : decode code 892 = .ok (.iconst 3, 1) := by decide +kernel
theorem d_Lw_893 : decode code 893 = .ok (.iadd, 1) := by decide +kernel
theorem d_Lw_894 : decode code 894 = .ok (.iaload, 1) := by decide +kernel
theorem d_Lw_895 : decode code 895 = .ok (.aload_n 0, 1) := by decide +kernel
theorem d_Lw_896 : decode code 896 = .ok (.iload_n 3, 1) := by decide +kernel
theorem d_Lw_897 : decode code 897 = .ok (.iconst 4, 1) := by decide +kernel
theorem d_Lw_898 : decode code 898 = .ok (.iadd, 1) := by decide +kernel
theorem d_Lw_899 : decode code 899 = .ok (.iaload, 1) := by decide +kernel
theorem d_Lw_900 : decode code 900 = .ok (.invokevirtual 93, 3) := by decide +kernel
theorem d_Lw_903 : decode code 903 = .ok (.if_icmp .eq 559, 3) := by decide +kernel
theorem d_Lw_906 : decode code 906 = .ok (.iconst 0, 1) := by decide +kernel
theorem d_Lw_907 : decode code 907 = .ok (.ireturn, 1) := by decide +kernel
theorem d_Lw_908 : decode code 908 = .ok (.aload_n 1, 1) := by decide +kernel
theorem d_Lw_909 : decode code 909 = .ok (.aload_n 0, 1) := by decide +kernel
theorem d_Lw_910 : decode code 910 = .ok (.iload_n 3, 1) := by decide +kernel
theorem d_Lw_911 : decode code 911 = .ok (.iconst 1, 1) := by decide +kernel
theorem d_Lw_912 : decode code 912 = .ok (.iadd, 1) := by decide +kernel
theorem d_Lw_913 : decode code 913 = .ok (.iaload, 1) := by decide +kernel
theorem d_Lw_914 : decode code 914 = .ok (.aload_n 0, 1) := by decide +kernel
theorem d_Lw_915 : decode code 915 = .ok (.iload_n 3, 1) := by decide +kernel
theorem d_Lw_916 : decode code 916 = .ok (.iconst 2, 1) := by decide +kernel
theorem d_Lw_917 : decode code 917 = .ok (.iadd, 1) := by decide +kernel
theorem d_Lw_918 : decode code 918 = .ok (.iaload, 1) := by decide +kernel
theorem d_Lw_919 : decode code 919 = .ok (.invokevirtual 94, 3) := by decide +kernel
theorem d_Lw_922 : decode code 922 = .ok (.aload_n 2, 1) := by decide +kernel
theorem d_Lw_923 : decode code 923 = .ok (.aload_n 0, 1) := by decide +kernel
theorem d_Lw_924 : decode code 924 = .ok (.iload_n 3, 1) := by decide +kernel
theorem d_Lw_925 : decode code 925 = .ok (.iconst 1, 1) := by decide +kernel
theorem d_Lw_926 : decode code 926 = .ok (.iadd, 1) := by decide +kernel
theorem d_Lw_927 : decode code 927 = .ok (.iaload, 1) := by decide +kernel
theorem d_Lw_928 : decode code 928 = .ok (.aload_n 0, 1) := by decide +kernel
theorem d_Lw_929 : decode code 929 = .ok (.iload_n 3, 1) := by decide +kernel
theorem d_Lw_930 : decode code 930 = .ok (.iconst 2, 1) := by decide +kernel
theorem d_Lw_931 : decode code 931 = .ok (.iadd, 1) := by decide +kernel
theorem d_Lw_932 : decode code 932 = .ok (.iaload, 1) := by decide +kernel
theorem d_Lw_933 : decode code 933 = .ok (.invokevirtual 97, 3) := by decide +kernel
theorem d_Lw_936 : decode code 936 = .ok (.if_icmp .eq 526, 3) := by decide +kernel
theorem d_Lw_939 : decode code 939 = .ok (.iconst 0, 1) := by decide +kernel
theorem d_Lw_940 : decode code 940 = .ok (.ireturn, 1) := by decide +kernel
theorem d_Lw_941 : decode code 941 = .ok (.aload_n 1, 1) := by decide +kernel
theorem d_Lw_942 : decode code 942 = .ok (.invokevirtual 98, 3) := by decide +kernel
theorem d_Lw_945 : decode code 945 = .ok (.aload_n 2, 1) := by decide +kernel
theorem d_Lw_946 : decode code 946 = .ok (.invokevirtual 101, 3) := by decide +kernel
theorem d_Lw_949 : decode code 949 = .ok (.if_icmp .eq 513, 3) := by decide +kernel
theorem d_Lw_952 : decode code 952 = .ok (.iconst 0, 1) := by decide +kernel
theorem d_Lw_953 : decode code 953 = .ok (.ireturn, 1) := by decide +kernel
theorem d_Lw_954 : decode code 954 = .ok (.aload_n 1, 1) := by decide +kernel
theorem d_Lw_955 : decode code 955 = .ok (.aload_n 0, 1) := by decide +kernel
theorem d_Lw_956 : decode code 956 = .ok (.iload_n 3, 1) := by decide +kernel
theorem d_Lw_957 : decode code 957 = .ok (.iconst 1, 1) := by decide +kernel
theorem d_Lw_958 : decode code 958 = .ok (.iadd, 1) := by decide +kernel
theorem d_Lw_959 : decode code 959 = .ok (.iaload, 1) := by decide +kernel
theorem d_Lw_960 : decode code 960 = .ok (.aload_n 0, 1) := by decide +kernel
theorem d_Lw_961 : decode code 961 = .ok (.iload_n 3, 1) := by decide +kernel
theorem d_Lw_962 : decode code 962 = .ok (.iconst 2, 1) := by decide +kernel
theorem d_Lw_963 : decode code 963 = .ok (.iadd, 1) := by decide +kernel
theorem d_Lw_964 : decode code 964 = .ok (.iaload, 1) := by decide +kernel
theorem d_Lw_965 : decode code 965 = .ok (.invokevirtual 102, 3) := by decide +kernel
theorem d_Lw_968 : decode code 968 = .ok (.aload_n 2, 1) := by decide +kernel
theorem d_Lw_969 : decode code 969 = .ok (.aload_n 0, 1) := by decide +kernel
theorem d_Lw_970 : decode code 970 = .ok (.iload_n 3, 1) := by decide +kernel
theorem d_Lw_971 : decode code 971 = .ok (.iconst 1, 1) := by decide +kernel
theorem d_Lw_972 : decode code 972 = .ok (.iadd, 1) := by decide +kernel
theorem d_Lw_973 : decode code 973 = .ok (.iaload, 1) := by decide +kernel
theorem d_Lw_974 : decode code 974 = .ok (.aload_n 0, 1) := by decide +kernel
theorem d_Lw_975 : decode code 975 = .ok (.iload_n 3, 1) := by decide +kernel
theorem d_Lw_976 : decode code 976 = .ok (.iconst 2, 1) := by decide +kernel
theorem d_Lw_977 : decode code 977 = .ok (.iadd, 1) := by decide +kernel
theorem d_Lw_978 : decode code 978 = .ok (.iaload, 1) := by decide +kernel
theorem d_Lw_979 : decode code 979 = .ok (.invokevirtual 105, 3) := by decide +kernel
theorem d_Lw_982 : decode code 982 = .ok (.if_icmp .eq 480, 3) := by decide +kernel
theorem d_Lw_985 : decode code 985 = .ok (.iconst 0, 1) := by decide +kernel
theorem d_Lw_986 : decode code 986 = .ok (.ireturn, 1) := by decide +kernel
theorem d_Lw_987 : decode code 987 = .ok (.aload_n 1, 1) := by decide +kernel
theorem d_Lw_988 : decode code 988 = .ok (.aload_n 0, 1) := by decide +kernel
theorem d_Lw_989 : decode code 989 = .ok (.iload_n 3, 1) := by decide +kernel
theorem d_Lw_990 : decode code 990 = .ok (.iconst 1, 1) := by decide +kernel
theorem d_Lw_991 : decode code 991 = .ok (.iadd, 1) := by decide +kernel
theorem d_Lw_992 : decode code 992 = .ok (.iaload, 1) := by decide +kernel
theorem d_Lw_993 : decode code 993 = .ok (.invokevirtual 106, 3) := by decide +kernel
theorem d_Lw_996 : decode code 996 = .ok (.aload_n 2, 1) := by decide +kernel
theorem d_Lw_997 : decode code 997 = .ok (.aload_n 0, 1) := by decide +kernel
theorem d_Lw_998 : decode code 998 = .ok (.iload_n 3, 1) := by decide +kernel
theorem d_Lw_999 : decode code 999 = .ok (.iconst 1, 1) := by decide +kernel
theorem d_Lw_1000 : decode code 1000 = .ok (.iadd, 1) := by decide +kernel
theorem d_Lw_1001 : decode code 1001 = .ok (.iaload, 1) := by decide +kernel
theorem d_Lw_1002 : decode code 1002 = .ok (.invokevirtual 109, 3) := by decide +kernel
theorem d_Lw_1005 : decode code 1005 = .ok (.if_icmp .eq 457, 3) := by decide +kernel
theorem d_Lw_1008 : decode code 1008 = .ok (.iconst 0, 1) := by decide +kernel
theorem d_Lw_1009 : decode code 1009 = .ok (.ireturn, 1) := by decide +kernel
theorem d_Lw_1010 : decode code 1010 = .ok (.aload_n 1, 1) := by decide +kernel
theorem d_Lw_1011 : decode code 1011 = .ok (.aload_n 0, 1) := by decide +kernel
theorem d_Lw_1012 : decode code 1012 = .ok (.iload_n 3, 1) := by decide +kernel
theorem d_Lw_1013 : decode code 1013 = .ok (.iconst 1, 1) := by decide +kernel
theorem d_Lw_1014 : decode code 1014 = .ok (.iadd, 1) := by decide +kernel
theorem d_Lw_1015 : decode code 1015 = .ok (.iaload, 1) := by decide +kernel
theorem d_Lw_1016 : decode code 1016 = .ok (.aload_n 0, 1) := by decide +kernel
theorem d_Lw_1017 : decode code 1017 = .ok (.iload_n 3, 1) := by decide +kernel
theorem d_Lw_1018 : decode code 1018 = .ok (.iconst 2, 1) := by decide +kernel
theorem d_Lw_1019 : decode code 1019 = .ok (.iadd, 1) := by decide +kernel
theorem d_Lw_1020 : decode code 1020 = .ok (.iaload, 1) := by decide +kernel
theorem d_Lw_1021 : decode code 1021 = .ok (.invokevirtual 110, 3) := by decide +kernel
theorem d_Lw_1024 : decode code 1024 = .ok (.aload_n 2, 1) := by decide +kernel
theorem d_Lw_1025 : decode code 1025 = .ok (.aload_n 0, 1) := by decide +kernel
theorem d_Lw_1026 : decode code 1026 = .ok (.iload_n 3, 1) := by decide +kernel
theorem d_Lw_1027 : decode code 1027 = .ok (.iconst 1, 1) := by decide +kernel
theorem d_Lw_1028 : decode code 1028 = .ok (.iadd, 1) := by decide +kernel
theorem d_Lw_1029 : decode code 1029 = .ok (.iaload, 1) := by decide +kernel
theorem d_Lw_1030 : decode code 1030 = .ok (.aload_n 0, 1) := by decide +kernel
theorem d_Lw_1031 : decode code 1031 = .ok (.iload_n 3, 1) := by decide +kernel
theorem d_Lw_1032 : decode code 1032 = .ok (.iconst 2, 1) := by decide +kernel
theorem d_Lw_1033 : decode code 1033 = .ok (.iadd, 1) := by decide +kernel
theorem d_Lw_1034 : decode code 1034 = .ok (.iaload, 1) := by decide +kernel
theorem d_Lw_1035 : decode code 1035 = .ok (.invokevirtual 113, 3) := by decide +kernel
theorem d_Lw_1038 : decode code 1038 = .ok (.if_icmp .eq 424, 3) := by decide +kernel
theorem d_Lw_1041 : decode code 1041 = .ok (.iconst 0, 1) := by decide +kernel
theorem d_Lw_1042 : decode code 1042 = .ok (.ireturn, 1) := by decide +kernel
theorem d_Lw_1043 : decode code 1043 = .ok (.aload_n 1, 1) := by decide +kernel
theorem d_Lw_1044 : decode code 1044 = .ok (.aload_n 0, 1) := by decide +kernel
theorem d_Lw_1045 : decode code 1045 = .ok (.iload_n 3, 1) := by decide +kernel
theorem d_Lw_1046 : decode code 1046 = .ok (.iconst 1, 1) := by decide +kernel
theorem d_Lw_1047 : decode code 1047 = .ok (.iadd, 1) := by decide +kernel
theorem d_Lw_1048 : decode code 1048 = .ok (.iaload, 1) := by decide +kernel
theorem d_Lw_1049 : decode code 1049 = .ok (.aload_n 0, 1) := by decide +kernel
theorem d_Lw_1050 : decode code 1050 = .ok (.iload_n 3, 1) := by decide +kernel
theorem d_Lw_1051 : decode code 1051 = .ok (.iconst 2, 1) := by decide +kernel
theorem d_Lw_1052 : decode code 1052 = .ok (.iadd, 1) := by decide +kernel
theorem d_Lw_1053 : decode code 1053 = .ok (.iaload, 1) := by decide +kernel
theorem d_Lw_1054 : decode code 1054 = .ok (.aload_n 0, 1) := by decide +kernel
theorem d_Lw_1055 : decode code 1055 = .ok (.iload_n 3, 1) := by decide +kernel
theorem d_Lw_1056 : decode code 1056 = .ok (.iconst 3, 1) := by decide +kernel
theorem d_Lw_1057 : decode code 1057 = .ok (.iadd, 1) := by decide +kernel
theorem d_Lw_1058 : decode code 1058 = .ok (.iaload, 1) := by decide +kernel
theorem d_Lw_1059 : decode code 1059 = .ok (.aload_n 0, 1) := by decide +kernel
theorem d_Lw_1060 : decode code 1060 = .ok (.iload_n 3, 1) := by decide +kernel
theorem d_Lw_1061 : decode code 1061 = .ok (.iconst 4, 1) := by decide +kernel
theorem d_Lw_1062 : decode code 1062 = .ok (.iadd, 1) := by decide +kernel
theorem d_Lw_1063 : decode code 1063 = .ok (.iaload, 1) := by decide +kernel
theorem d_Lw_1064 : decode code 1064 = .ok (.invokevirtual 114, 3) := by decide +kernel
theorem d_Lw_1067 : decode code 1067 = .ok (.aload_n 2, 1) := by decide +kernel
theorem d_Lw_1068 : decode code 1068 = .ok (.aload_n 0, 1) := by decide +kernel
theorem d_Lw_1069 : decode code 1069 = .ok (.iload_n 3, 1) := by decide +kernel
theorem d_Lw_1070 : decode code 1070 = .ok (.iconst 1, 1) := by decide +kernel
theorem d_Lw_1071 : decode code 1071 = .ok (.iadd, 1) := by decide +kernel
theorem d_Lw_1072 : decode code 1072 = .ok (.iaload, 1) := by decide +kernel
theorem d_Lw_1073 : decode code 1073 = .ok (.aload_n 0, 1) := by decide +kernel
theorem d_Lw_1074 : decode code 1074 = .ok (.iload_n 3, 1) := by decide +kernel
theorem d_Lw_1075 : decode code 1075 = .ok (.iconst 2, 1) := by decide +kernel
theorem d_Lw_1076 : decode code 1076 = .ok (.iadd, 1) := by decide +kernel
theorem d_Lw_1077 : decode code 1077 = .ok (.iaload, 1) := by decide +kernel
theorem d_Lw_1078 : decode code 1078 = .ok (.aload_n 0, 1) := by decide +kernel
theorem d_Lw_1079 : decode code 1079 = .ok (.iload_n 3, 1) := by decide +kernel
theorem d_Lw_1080 : decode code 1080 = .ok (.iconst 3, 1) := by decide +kernel
theorem d_Lw_1081 : decode code 1081 = .ok (.iadd, 1) := by decide +kernel
theorem d_Lw_1082 : decode code 1082 = .ok (.iaload, 1) := by decide +kernel
theorem d_Lw_1083 : decode code 1083 = .ok (.aload_n 0, 1) := by decide +kernel
theorem d_Lw_1084 : decode code 1084 = .ok (.iload_n 3, 1) := by decide +kernel
theorem d_Lw_1085 : decode code 1085 = .ok (.iconst 4, 1) := by decide +kernel
theorem d_Lw_1086 : decode code 1086 = .ok (.iadd, 1) := by decide +kernel
theorem d_Lw_1087 : decode code 1087 = .ok (.iaload, 1) := by decide +kernel
theorem d_Lw_1088 : decode code 1088 = .ok (.invokevirtual 117, 3) := by decide +kernel
theorem d_Lw_1091 : decode code 1091 = .ok (.if_icmp .eq 371, 3) := by decide +kernel
theorem d_Lw_1094 : decode code 1094 = .ok (.iconst 0, 1) := by decide +kernel
theorem d_Lw_1095 : decode code 1095 = .ok (.ireturn, 1) := by decide +kernel
theorem d_Lw_1096 : decode code 1096 = .ok (.aload_n 1, 1) := by decide +kernel
theorem d_Lw_1097 : decode code 1097 = .ok (.aload_n 0, 1) := by decide +kernel
theorem d_Lw_1098 : decode code 1098 = .ok (.iload_n 3, 1) := by decide +kernel
theorem d_Lw_1099 : decode code 1099 = .ok (.iconst 1, 1) := by decide +kernel
theorem d_Lw_1100 : decode code 1100 = .ok (.iadd, 1) := by decide +kernel
theorem d_Lw_1101 : decode code 1101 = .ok (.iaload, 1) := by decide +kernel
theorem d_Lw_1102 : decode code 1102 = .ok (.invokevirtual 118, 3) := by decide +kernel
theorem d_Lw_1105 : decode code 1105 = .ok (.aload_n 2, 1) := by decide +kernel
theorem d_Lw_1106 : decode code 1106 = .ok (.aload_n 0, 1) := by decide +kernel
theorem d_Lw_1107 : decode code 1107 = .ok (.iload_n 3, 1) := by decide +kernel
theorem d_Lw_1108 : decode code 1108 = .ok (.iconst 1, 1) := by decide +kernel
theorem d_Lw_1109 : decode code 1109 = .ok (.iadd, 1) := by decide +kernel
theorem d_Lw_1110 : decode code 1110 = .ok (.iaload, 1) := by decide +kernel
theorem d_Lw_1111 : decode code 1111 = .ok (.invokevirtual 121, 3) := by decide +kernel
theorem d_Lw_1114 : decode code 1114 = .ok (.if_icmp .eq 348, 3) := by decide +kernel
theorem d_Lw_1117 : decode code 1117 = .ok (.iconst 0, 1) := by decide +kernel
theorem d_Lw_1118 : decode code 1118 = .ok (.ireturn, 1) := by decide +kernel
theorem d_Lw_1119 : decode code 1119 = .ok (.aload_n 1, 1) := by decide +kernel
theorem d_Lw_1120 : decode code 1120 = .ok (.aload_n 0, 1) := by decide +kernel
theorem d_Lw_1121 : decode code 1121 = .ok (.iload_n 3, 1) := by decide +kernel
theorem d_Lw_1122 : decode code 1122 = .ok (.iconst 1, 1) := by decide +kernel
theorem d_Lw_1123 : decode code 1123 = .ok (.iadd, 1) := by decide +kernel
theorem d_Lw_1124 : decode code 1124 = .ok (.iaload, 1) := by decide +kernel
theorem d_Lw_1125 : decode code 1125 = .ok (.invokevirtual 122, 3) := by decide +kernel
theorem d_Lw_1128 : decode code 1128 = .ok (.aload_n 2, 1) := by decide +kernel
theorem d_Lw_1129 : decode code 1129 = .ok (.aload_n 0, 1) := by decide +kernel
theorem d_Lw_1130 : decode code 1130 = .ok (.iload_n 3, 1) := by decide +kernel
theorem d_Lw_1131 : decode code 1131 = .ok (.iconst 1, 1) := by decide +kernel
theorem d_Lw_1132 : decode code 1132 = .ok (.iadd, 1) := by decide +kernel
theorem d_Lw_1133 : decode code 1133 = .ok (.iaload, 1) := by decide +kernel
theorem d_Lw_1134 : decode code 1134 = .ok (.invokevirtual 125, 3) := by decide +kernel
theorem d_Lw_1137 : decode code 1137 = .ok (.if_icmp .eq 325, 3) := by decide +kernel
theorem d_Lw_1140 : decode code 1140 = .ok (.iconst 0, 1) := by decide +kernel
theorem d_Lw_1141 : decode code 1141 = .ok (.ireturn, 1) := by decide +kernel
theorem d_Lw_1142 : decode code 1142 = .ok (.aload_n 1, 1) := by decide +kernel
theorem d_Lw_1143 : decode code 1143 = .ok (.aload_n 0, 1) := by decide +kernel
theorem d_Lw_1144 : decode code 1144 = .ok (.iload_n 3, 1) := by decide +kernel
theorem d_Lw_1145 : decode code 1145 = .ok (.iconst 1, 1) := by decide +kernel
theorem d_Lw_1146 : decode code 1146 = .ok (.iadd, 1) := by decide +kernel
theorem d_Lw_1147 : decode code 1147 = .ok (.iaload, 1) := by decide +kernel
theorem d_Lw_1148 : decode code 1148 = .ok (.aload_n 0, 1) := by decide +kernel
theorem d_Lw_1149 : decode code 1149 = .ok (.iload_n 3, 1) := by decide +kernel
theorem d_Lw_1150 : decode code 1150 = .ok (.iconst 2, 1) := by decide +kernel
theorem d_Lw_1151 : decode code 1151 = .ok (.iadd, 1) := by decide +kernel
theorem d_Lw_1152 : decode code 1152 = .ok (.iaload, 1) := by decide +kernel
theorem d_Lw_1153 : decode code 1153 = .ok (.aload_n 0, 1) := by decide +kernel
theorem d_Lw_1154 : decode code 1154 = .ok (.iload_n 3, 1) := by decide +kernel
theorem d_Lw_1155 : decode code 1155 = .ok (.iconst 3, 1) := by decide +kernel
theorem d_Lw_1156 : decode code 1156 = .ok (.iadd, 1) := by decide +kernel
theorem d_Lw_1157 : decode code 1157 = .ok (.iaload, 1) := by decide +kernel
theorem d_Lw_1158 : decode code 1158 = .ok (.aload_n 0, 1) := by decide +kernel
theorem d_Lw_1159 : decode code 1159 = .ok (.iload_n 3, 1) := by decide +kernel
theorem d_Lw_1160 : decode code 1160 = .ok (.iconst 4, 1) := by decide +kernel
theorem d_Lw_1161 : decode code 1161 = .ok (.iadd, 1) := by decide +kernel
theorem d_Lw_1162 : decode code 1162 = .ok (.iaload, 1) := by decide +kernel
theorem d_Lw_1163 : decode code 1163 = .ok (.aload_n 0, 1) := by decide +kernel
theorem d_Lw_1164 : decode code 1164 = .ok (.iload_n 3, 1) := by decide +kernel
theorem d_Lw_1165 : decode code 1165 = .ok (.iconst 5, 1) := by decide +kernel
theorem d_Lw_1166 : decode code 1166 = .ok (.iadd, 1) := by decide +kernel
theorem d_Lw_1167 : decode code 1167 = .ok (.iaload, 1) := by decide +kernel
theorem d_Lw_1168 : decode code 1168 = .ok (.invokevirtual 126, 3) := by decide +kernel
theorem d_Lw_1171 : decode code 1171 = .ok (.aload_n 2, 1) := by decide +kernel
theorem d_Lw_1172 : decode code 1172 = .ok (.aload_n 0, 1) := by decide +kernel
theorem d_Lw_1173 : decode code 1173 = .ok (.iload_n 3, 1) := by decide +kernel
theorem d_Lw_1174 : decode code 1174 = .ok (.iconst 1, 1) := by decide +kernel
theorem d_Lw_1175 : decode code 1175 = .ok (.iadd, 1) := by decide +kernel
theorem d_Lw_1176 : decode code 1176 = .ok (.iaload, 1) := by decide +kernel
theorem d_Lw_1177 : decode code 1177 = .ok (.aload_n 0, 1) := by decide +kernel
theorem d_Lw_1178 : decode code 1178 = .ok (.iload_n 3, 1) := by decide +kernel
theorem d_Lw_1179 : decode code 1179 = .ok (.iconst 2, 1) := by decide +kernel
theorem d_Lw_1180 : decode code 1180 = .ok (.iadd, 1) := by decide +kernel
theorem d_Lw_1181 : decode code 1181 = .ok (.iaload, 1) := by decide +kernel
theorem d_Lw_1182 : decode code 1182 = .ok (.aload_n 0, 1) := by decide +kernel
theorem d_Lw_1183 : decode code 1183 = .ok (.iload_n 3, 1) := by decide +kernel
theorem d_Lw_1184 : decode code 1184 = .ok (.iconst 3, 1) := by decide +kernel
theorem d_Lw_1185 : decode code 1185 = .ok (.iadd, 1) := by decide +kernel
theorem d_Lw_1186 : decode code 1186 = .ok (.iaload, 1) := by decide +kernel
theorem d_Lw_1187 : decode code 1187 = .ok (.aload_n 0, 1) := by decide +kernel
theorem d_Lw_1188 : decode code 1188 = .ok (.iload_n 3, 1) := by decide +kernel
theorem d_Lw_1189 : decode code 1189 = .ok (.iconst 4, 1) := by decide +kernel
theorem d_Lw_1190 : decode code 1190 = .ok (.iadd, 1) := by decide +kernel
theorem d_Lw_1191 : decode code 1191 = .ok (.iaload, 1) := by decide +kernel
theorem d_Lw_1192 : decode code 1192 = .ok (.aload_n 0, 1) := by decide +kernel
theorem d_Lw_1193 : decode code 1193 = .ok (.iload_n 3, 1) := by decide +kernel
theorem d_Lw_1194 : decode code 1194 = .ok (.iconst 5, 1) := by decide +kernel
theorem d_Lw_1195 : decode code 1195 = .ok (.iadd, 1) := by decide +kernel
theorem d_Lw_1196 : decode code 1196 = .ok (.iaload, 1) := by decide +kernel
theorem d_Lw_1197 : decode code 1197 = .ok (.invokevirtual 130, 3) := by decide +kernel
theorem d_Lw_1200 : decode code 1200 = .ok (.if_icmp .eq 262, 3) := by decide +kernel
theorem d_Lw_1203 : decode code 1203 = .ok (.iconst 0, 1) := by decide +kernel
theorem d_Lw_1204 : decode code 1204 = .ok (.ireturn, 1) := by decide +kernel
theorem d_Lw_1205 : decode code 1205 = .ok (.aload_n 1, 1) := by decide +kernel
theorem d_Lw_1206 : decode code 1206 = .ok (.aload_n 0, 1) := by decide +kernel
theorem d_Lw_1207 : decode code 1207 = .ok (.iload_n 3, 1) := by decide +kernel
theorem d_Lw_1208 : decode code 1208 = .ok (.iconst 1, 1) := by decide +kernel
theorem d_Lw_1209 : decode code 1209 = .ok (.iadd, 1) := by decide +kernel
theorem d_Lw_1210 : decode code 1210 = .ok (.iaload, 1) := by decide +kernel
theorem d_Lw_1211 : decode code 1211 = .ok (.aload_n 0, 1) := by decide +kernel
theorem d_Lw_1212 : decode code 1212 = .ok (.iload_n 3, 1) := by decide +kernel
theorem d_Lw_1213 : decode code 1213 = .ok (.iconst 2, 1) := by decide +kernel
theorem d_Lw_1214 : decode code 1214 = .ok (.iadd, 1) := by decide +kernel
theorem d_Lw_1215 : decode code 1215 = .ok (.iaload, 1) := by decide +kernel
theorem d_Lw_1216 : decode code 1216 = .ok (.aload_n 0, 1) := by decide +kernel
theorem d_Lw_1217 : decode code 1217 = .ok (.iload_n 3, 1) := by decide +kernel
theorem d_Lw_1218 : decode code 1218 = .ok (.iconst 3, 1) := by decide +kernel
theorem d_Lw_1219 : decode code 1219 = .ok (.iadd, 1) := by decide +kernel
theorem d_Lw_1220 : decode code 1220 = .ok (.iaload, 1) := by decide +kernel
theorem d_Lw_1221 : decode code 1221 = .ok (.aload_n 0, 1) := by decide +kernel
theorem d_Lw_1222 : decode code 1222 = .ok (.iload_n 3, 1) := by decide +kernel
theorem d_Lw_1223 : decode code 1223 = .ok (.iconst 4, 1) := by decide +kernel
theorem d_Lw_1224 : decode code 1224 = .ok (.iadd, 1) := by decide +kernel
theorem d_Lw_1225 : decode code 1225 = .ok (.iaload, 1) := by decide +kernel
theorem d_Lw_1226 : decode code 1226 = .ok (.invokevirtual 131, 3) := by decide +kernel
theorem d_Lw_1229 : decode code 1229 = .ok (.aload_n 2, 1) := by decide +kernel
theorem d_Lw_1230 : decode code 1230 = .ok (.aload_n 0, 1) := by decide +kernel
theorem d_Lw_1231 : decode code 1231 = .ok (.iload_n 3, 1) := by decide +kernel
theorem d_Lw_1232 : decode code 1232 = .ok (.iconst 1, 1) := by decide +kernel
theorem d_Lw_1233 : decode code 1233 = .ok (.iadd, 1) := by decide +kernel
theorem d_Lw_1234 : decode code 1234 = .ok (.iaload, 1) := by decide +kernel
theorem d_Lw_1235 : decode code 1235 = .ok (.aload_n 0, 1) := by decide +kernel
theorem d_Lw_1236 : decode code 1236 = .ok (.iload_n 3, 1) := by decide +kernel
theorem d_Lw_1237 : decode code 1237 = .ok (.iconst 2, 1) := by decide +kernel
theorem d_Lw_1238 : decode code 1238 = .ok (.iadd, 1) := by decide +kernel
theorem d_Lw_1239 : decode code 1239 = .ok (.iaload, 1) := by decide +kernel
theorem d_Lw_1240 : decode code 1240 = .ok (.aload_n 0, 1) := by decide +kernel
theorem d_Lw_1241 : decode code 1241 = .ok (.iload_n 3, 1) := by decide +kernel
theorem d_Lw_1242 : decode code 1242 = .ok (.iconst 3, 1) := by decide +kernel
theorem d_Lw_1243 : decode code 1243 = .ok (.iadd, 1) := by decide +kernel
theorem d_Lw_1244 : decode code 1244 = .ok (.iaload, 1) := by decide +kernel
theorem d_Lw_1245 : decode code 1245 = .ok (.aload_n 0, 1) := by decide +kernel
theorem d_Lw_1246 : decode code 1246 = .ok (.iload_n 3, 1) := by decide +kernel
theorem d_Lw_1247 : decode code 1247 = .ok (.iconst 4, 1) := by decide +kernel
theorem d_Lw_1248 : decode code 1248 = .ok (.iadd, 1) := by decide +kernel
theorem d_Lw_1249 : decode code 1249 = .ok (.iaload, 1) := by decide +kernel
theorem d_Lw_1250 : decode code 1250 = .ok (.invokevirtual 134, 3) := by decide +kernel
theorem d_Lw_1253 : decode code 1253 = .ok (.if_icmp .eq 209, 3) := by decide +kernel
theorem d_Lw_1256 : decode code 1256 = .ok (.iconst 0, 1) := by decide +kernel
theorem d_Lw_1257 : decode code 1257 = .ok (.ireturn, 1) := by decide +kernel
theorem d_Lw_1258 : decode code 1258 = .ok (.aload_n 1, 1) := by decide +kernel
theorem d_Lw_1259 : decode code 1259 = .ok (.aload_n 0, 1) := by decide +kernel
theorem d_Lw_1260 : decode code 1260 = .ok (.iload_n 3, 1) := by decide +kernel
theorem d_Lw_1261 : decode code 1261 = .ok (.iconst 1, 1) := by decide +kernel
theorem d_Lw_1262 : decode code 1262 = .ok (.iadd, 1) := by decide +kernel
theorem d_Lw_1263 : decode code 1263 = .ok (.iaload, 1) := by decide +kernel
theorem d_Lw_1264 : decode code 1264 = .ok (.aload_n 0, 1) := by decide +kernel
theorem d_Lw_1265 : decode code 1265 = .ok (.iload_n 3, 1) := by decide +kernel
theorem d_Lw_1266 : decode code 1266 = .ok (.iconst 2, 1) := by decide +kernel
theorem d_Lw_1267 : decode code 1267 = .ok (.iadd, 1) := by decide +kernel
theorem d_Lw_1268 : decode code 1268 = .ok (.iaload, 1) := by decide +kernel
theorem d_Lw_1269 : decode code 1269 = .ok (.invokevirtual 135, 3) := by decide +kernel
theorem d_Lw_1272 : decode code 1272 = .ok (.aload_n 2, 1) := by decide +kernel
theorem d_Lw_1273 : decode code 1273 = .ok (.aload_n 0, 1) := by decide +kernel
theorem d_Lw_1274 : decode code 1274 = .ok (.iload_n 3, 1) := by decide +kernel
theorem d_Lw_1275 : decode code 1275 = .ok (.iconst 1, 1) := by decide +kernel
theorem d_Lw_1276 : decode code 1276 = .ok (.iadd, 1) := by decide +kernel
theorem d_Lw_1277 : decode code 1277 = .ok (.iaload, 1) := by decide +kernel
theorem d_Lw_1278 : decode code 1278 = .ok (.aload_n 0, 1) := by decide +kernel
theorem d_Lw_1279 : decode code 1279 = .ok (.iload_n 3, 1) := by decide +kernel
theorem d_Lw_1280 : decode code 1280 = .ok (.iconst 2, 1) := by decide +kernel
theorem d_Lw_1281 : decode code 1281 = .ok (.iadd, 1) := by decide +kernel
theorem d_Lw_1282 : decode code 1282 = .ok (.iaload, 1) := by decide +kernel
theorem d_Lw_1283 : decode code 1283 = .ok (.invokevirtual 138, 3) := by decide +kernel
theorem d_Lw_1286 : decode code 1286 = .ok (.if_icmp .eq 176, 3) := by decide +kernel
theorem d_Lw_1289 : decode code 1289 = .ok (.iconst 0, 1) := by decide +kernel
theorem d_Lw_1290 : decode code 1290 = .ok (.ireturn, 1) := by decide +kernel
theorem d_Lw_1291 : decode code 1291 = .ok (.aload_n 1, 1) := by decide +kernel
theorem d_Lw_1292 : decode code 1292 = .ok (.aload_n 0, 1) := by decide +kernel
theorem d_Lw_1293 : decode code 1293 = .ok (.iload_n 3, 1) := by decide +kernel
theorem d_Lw_1294 : decode code 1294 = .ok (.iconst 1, 1) := by decide +kernel
theorem d_Lw_1295 : decode code 1295 = .ok (.iadd, 1) := by decide +kernel
theorem d_Lw_1296 : decode code 1296 = .ok (.iaload, 1) := by decide +kernel
theorem d_Lw_1297 : decode code 1297 = .ok (.invokevirtual 139, 3) := by decide +kernel
theorem d_Lw_1300 : decode code 1300 = .ok (.aload_n 2, 1) := by decide +kernel
theorem d_Lw_1301 : decode code 1301 = .ok (.aload_n 0, 1) := by decide +kernel
theorem d_Lw_1302 : decode code 1302 = .ok (.iload_n 3, 1) := by decide +kernel
theorem d_Lw_1303 : decode code 1303 = .ok (.iconst 1, 1) := by decide +kernel
theorem d_Lw_1304 : decode code 1304 = .ok (.iadd, 1) := by decide +kernel
theorem d_Lw_1305 : decode code 1305 = .ok (.iaload, 1) := by decide +kernel
theorem d_Lw_1306 : decode code 1306 = .ok (.invokevirtual 142, 3) := by decide +kernel
theorem d_Lw_1309 : decode code 1309 = .ok (.if_icmp .eq 153, 3) := by decide +kernel
theorem d_Lw_1312 : decode code 1312 = .ok (.iconst 0, 1) := by decide +kernel
theorem d_Lw_1313 : decode code 1313 = .ok (.ireturn, 1) := by decide +kernel
theorem d_Lw_1314 : decode code 1314 = .ok (.aload_n 1, 1) := by decide +kernel
theorem d_Lw_1315 : decode code 1315 = .ok (.aload_n 0, 1) := by decide +kernel
theorem d_Lw_1316 : decode code 1316 = .ok (.iload_n 3, 1) := by decide +kernel
theorem d_Lw_1317 : decode code 1317 = .ok (.iconst 1, 1) := by decide +kernel
theorem d_Lw_1318 : decode code 1318 = .ok (.iadd, 1) := by decide +kernel
theorem d_Lw_1319 : decode code 1319 = .ok (.iaload, 1) := by decide +kernel
theorem d_Lw_1320 : decode code 1320 = .ok (.aload_n 0, 1) := by decide +kernel
theorem d_Lw_1321 : decode code 1321 = .ok (.iload_n 3, 1) := by decide +kernel
theorem d_Lw_1322 : decode code 1322 = .ok (.iconst 2, 1) := by decide +kernel
theorem d_Lw_1323 : decode code 1323 = .ok (.iadd, 1) := by decide +kernel
theorem d_Lw_1324 : decode code 1324 = .ok (.iaload, 1) := by decide +kernel
theorem d_Lw_1325 : decode code 1325 = .ok (.invokevirtual 143, 3) := by decide +kernel
theorem d_Lw_1328 : decode code 1328 = .ok (.aload_n 2, 1) := by decide +kernel
theorem d_Lw_1329 : decode code 1329 = .ok (.aload_n 0, 1) := by decide +kernel
theorem d_Lw_1330 : decode code 1330 = .ok (.iload_n 3, 1) := by decide +kernel
theorem d_Lw_1331 : decode code 1331 = .ok (.iconst 1, 1) := by decide +kernel
theorem d_Lw_1332 : decode code 1332 = .ok (.iadd, 1) := by decide +kernel
theorem d_Lw_1333 : decode code 1333 = .ok (.iaload, 1) := by decide +kernel
theorem d_Lw_1334 : decode code 1334 = .ok (.aload_n 0, 1) := by decide +kernel
theorem d_Lw_1335 : decode code 1335 = .ok (.iload_n 3, 1) := by decide +kernel
theorem d_Lw_1336 : decode code 1336 = .ok (.iconst 2, 1) := by decide +kernel
theorem d_Lw_1337 : decode code 1337 = .ok (.iadd, 1) := by decide +kernel
theorem d_Lw_1338 : decode code 1338 = .ok (.iaload, 1) := by decide +kernel
theorem d_Lw_1339 : decode code 1339 = .ok (.invokevirtual 146, 3) := by decide +kernel
theorem d_Lw_1342 : decode code 1342 = .ok (.if_icmp .eq 120, 3) := by decide +kernel
theorem d_Lw_1345 : decode code 1345 = .ok (.iconst 0, 1) := by decide +kernel
theorem d_Lw_1346 : decode code 1346 = .ok (.ireturn, 1) := by decide +kernel
theorem d_Lw_1347 : decode code 1347 = .ok (.aload_n 1, 1) := by decide +kernel
theorem d_Lw_1348 : decode code 1348 = .ok (.aload_n 0, 1) := by decide +kernel
theorem d_Lw_1349 : decode code 1349 = .ok (.iload_n 3, 1) := by decide +kernel
theorem d_Lw_1350 : decode code 1350 = .ok (.iconst 1, 1) := by decide +kernel
theorem d_Lw_1351 : decode code 1351 = .ok (.iadd, 1) := by decide +kernel
theorem d_Lw_1352 : decode code 1352 = .ok (.iaload, 1) := by decide +kernel
theorem d_Lw_1353 : decode code 1353 = .ok (.invokevirtual 147, 3) := by decide +kernel
theorem d_Lw_1356 : decode code 1356 = .ok (.aload_n 2, 1) := by decide +kernel
theorem d_Lw_1357 : decode code 1357 = .ok (.aload_n 0, 1) := by decide +kernel
theorem d_Lw_1358 : decode code 1358 = .ok (.iload_n 3, 1) := by decide +kernel
theorem d_Lw_1359 : decode code 1359 = .ok (.iconst 1, 1) := by decide +kernel
theorem d_Lw_1360 : decode code 1360 = .ok (.iadd, 1) := by decide +kernel
theorem d_Lw_1361 : decode code 1361 = .ok (.iaload, 1) := by decide +kernel
theorem d_Lw_1362 : decode code 1362 = .ok (.invokevirtual 150, 3) := by decide +kernel
theorem d_Lw_1365 : decode code 1365 = .ok (.if_icmp .eq 97, 3) := by decide +kernel
theorem d_Lw_1368 : decode code 1368 = .ok (.iconst 0, 1) := by decide +kernel
theorem d_Lw_1369 : decode code 1369 = .ok (.ireturn, 1) := by decide +kernel
theorem d_Lw_1370 : decode code 1370 = .ok (.aload_n 1, 1) := by decide +kernel
theorem d_Lw_1371 : decode code 1371 = .ok (.aload_n 0, 1) := by decide +kernel
theorem d_Lw_1372 : decode code 1372 = .ok (.iload_n 3, 1) := by decide +kernel
theorem d_Lw_1373 : decode code 1373 = .ok (.iconst 1, 1) := by decide +kernel
theorem d_Lw_1374 : decode code 1374 = .ok (.iadd, 1) := by decide +kernel
theorem d_Lw_1375 : decode code 1375 = .ok (.iaload, 1) := by decide +kernel
theorem d_Lw_1376 : decode code 1376 = .ok (.invokevirtual 151, 3) := by decide +kernel
theorem d_Lw_1379 : decode code 1379 = .ok (.aload_n 2, 1) := by decide +kernel
theorem d_Lw_1380 : decode code 1380 = .ok (.aload_n 0, 1) := by decide +kernel
theorem d_Lw_1381 : decode code 1381 = .ok (.iload_n 3, 1) := by decide +kernel
theorem d_Lw_1382 : decode code 1382 = .ok (.iconst 1, 1) := by decide +kernel
theorem d_Lw_1383 : decode code 1383 = .ok (.iadd, 1) := by decide +kernel
theorem d_Lw_1384 : decode code 1384 = .ok (.iaload, 1) := by decide +kernel
theorem d_Lw_1385 : decode code 1385 = .ok (.invokevirtual 154, 3) := by decide +kernel
theorem d_Lw_1388 : decode code 1388 = .ok (.if_icmp .eq 74, 3) := by decide +kernel
theorem d_Lw_1391 : decode code 1391 = .ok (.iconst 0, 1) := by decide +kernel
theorem d_Lw_1392 : decode code 1392 = .ok (.ireturn, 1) := by decide +kernel
theorem d_Lw_1393 : decode code 1393 = .ok (.aload_n 1, 1) := by decide +kernel
theorem d_Lw_1394 : decode code 1394 = .ok (.aload_n 0, 1) := by decide +kernel
theorem d_Lw_1395 : decode code 1395 = .ok (.iload_n 3, 1) := by decide +kernel
theorem d_Lw_1396 : decode code 1396 = .ok (.iconst 1, 1) := by decide +kernel
theorem d_Lw_1397 : decode code 1397 = .ok (.iadd, 1) := by decide +kernel
theorem d_Lw_1398 : decode code 1398 = .ok (.iaload, 1) := by decide +kernel
theorem d_Lw_1399 : decode code 1399 = .ok (.invokevirtual 155, 3) := by decide +kernel
theorem d_Lw_1402 : decode code 1402 = .ok (.aload_n 2, 1) := by decide +kernel
theorem d_Lw_1403 : decode code 1403 = .ok (.aload_n 0, 1) := by decide +kernel
theorem d_Lw_1404 : decode code 1404 = .ok (.iload_n 3, 1) := by decide +kernel
theorem d_Lw_1405 : decode code 1405 = .ok (.iconst 1, 1) := by decide +kernel
theorem d_Lw_1406 : decode code 1406 = .ok (.iadd, 1) := by decide +kernel
theorem d_Lw_1407 : decode code 1407 = .ok (.iaload, 1) := by decide +kernel
theorem d_Lw_1408 : decode code 1408 = .ok (.invokevirtual 158, 3) := by decide +kernel
theorem d_Lw_1411 : decode code 1411 = .ok (.if_icmp .eq 51, 3) := by decide +kernel
theorem d_Lw_1414 : decode code 1414 = .ok (.iconst 0, 1) := by decide +kernel
theorem d_Lw_1415 : decode code 1415 = .ok (.ireturn, 1) := by decide +kernel
theorem d_Lw_1416 : decode code 1416 = .ok (.aload_n 1, 1) := by decide +kernel
theorem d_Lw_1417 : decode code 1417 = .ok (.aload_n 0, 1) := by decide +kernel
theorem d_Lw_1418 : decode code 1418 = .ok (.iload_n 3, 1) := by decide +kernel
theorem d_Lw_1419 : decode code 1419 = .ok (.iconst 1, 1) := by decide +kernel
theorem d_Lw_1420 : decode code 1420 = .ok (.iadd, 1) := by decide +kernel
theorem d_Lw_1421 : decode code 1421 = .ok (.iaload, 1) := by decide +kernel
theorem d_Lw_1422 : decode code 1422 = .ok (.invokevirtual 159, 3) := by decide +kernel
theorem d_Lw_1425 : decode code 1425 = .ok (.aload_n 2, 1) := by decide +kernel
theorem d_Lw_1426 : decode code 1426 = .ok (.aload_n 0, 1) := by decide +kernel
theorem d_Lw_1427 : decode code 1427 = .ok (.iload_n 3, 1) := by decide +kernel
theorem d_Lw_1428 : decode code 1428 = .ok (.iconst 1, 1) := by decide +kernel
theorem d_Lw_1429 : decode code 1429 = .ok (.iadd, 1) := by decide +kernel
theorem d_Lw_1430 : decode code 1430 = .ok (.iaload, 1) := by decide +kernel
theorem d_Lw_1431 : decode code 1431 = .ok (.invokevirtual 162, 3) := by decide +kernel
theorem d_Lw_1434 : decode code 1434 = .ok (.if_icmp .eq 28, 3) := by decide +kernel
theorem d_Lw_1437 : decode code 1437 = .ok (.iconst 0, 1) := by decide +kernel
theorem d_Lw_1438 : decode code 1438 = .ok (.ireturn, 1) := by decide +kernel
theorem d_Lw_1439 : decode code 1439 = .ok (.aload_n 1, 1) := by decide +kernel
theorem d_Lw_1440 : decode code 1440 = .ok (.aload_n 0, 1) := by decide +kernel
theorem d_Lw_1441 : decode code 1441 = .ok (.iload_n 3, 1) := by decide +kernel
theorem d_Lw_1442 : decode code 1442 = .ok (.iconst 1, 1) := by decide +kernel
theorem d_Lw_1443 : decode code 1443 = .ok (.iadd, 1) := by decide +kernel
theorem d_Lw_1444 : decode code 1444 = .ok (.iaload, 1) := by decide +kernel
theorem d_Lw_1445 : decode code 1445 = .ok (.invokevirtual 163, 3) := by decide +kernel
theorem d_Lw_1448 : decode code 1448 = .ok (.aload_n 2, 1) := by decide +kernel
theorem d_Lw_1449 : decode code 1449 = .ok (.aload_n 0, 1) := by decide +kernel
theorem d_Lw_1450 : decode code 1450 = .ok (.iload_n 3, 1) := by decide +kernel
theorem d_Lw_1451 : decode code 1451 = .ok (.iconst 1, 1) := by decide +kernel
theorem d_Lw_1452 : decode code 1452 = .ok (.iadd, 1) := by decide +kernel
theorem d_Lw_1453 : decode code 1453 = .ok (.iaload, 1) := by decide +kernel
theorem d_Lw_1454 : decode code 1454 = .ok (.invokevirtual 166, 3) := by decide +kernel
theorem d_Lw_1457 : decode code 1457 = .ok (.if_icmp .eq 5, 3) := by decide +kernel
theorem d_Lw_1460 : decode code 1460 = .ok (.iconst 0, 1) := by decide +kernel
theorem d_Lw_1461 : decode code 1461 = .ok (.ireturn, 1) := by decide +kernel
theorem d_Lw_1462 : decode code 1462 = .ok (.iinc 3 7, 3) := by decide +kernel
theorem d_Lw_1465 : decode code 1465 = .ok (.goto (-1447), 3) := by decide +kernel
theorem d_Lw_1468 : decode code 1468 = .ok (.iconst 1, 1) := by decide +kernel
theorem d_Lw_1469 : decode code 1469 = .ok (.ireturn, 1) := by decide +kernel
def scF (xs : Nat → Int32) (i : Int) : Int := (xs i.toNat).toInt
def ScF (F : FT) (b L : Nat) (xs : Nat → Int32) : Prop :=
  match F with
  | (l, G, A, p, e, R, s, m, args, below, meth, c, kc, ks, nL, Q) => va_X b L xs s s.heap ∧ b < s.heap.size ∧ ¬ A b
theorem r_slen {F : FT} {cc : ByteArray} {own : String} {rm : Room} {pc : Nat} {lv : List (Nat × Value)} {st : List Value} {σ : SS} (ok : OkF F cc own rm) {b L : Nat} {xs : Nat → Int32} (hsc : ScF F b L xs) (hd : decode cc pc = .ok (.arraylength, 1)) (k : AtS F (pc + 1) lv (vI (L : Int) :: st) σ) : AtS F pc lv (.ref b :: st) σ := by
  obtain ⟨l, G, A, p, e, R, s, m, args, below, meth, c, kc, ks, nL, Q⟩ := F
  obtain ⟨hx, hb, hml, hown, hts, hK, hD, hR, hkc, hks⟩ := ok
  intro H locs ls hP hS hl
  refine va_slen hx hb hsc.1 hsc.2.1 hsc.2.2 hS hd ?_
  rw [show Int32.ofNat L = iI (L : Int) from (Int32.ofInt_eq_ofNat ..).symm]
  exact k H locs ls hP hS hl
theorem r_sald {F : FT} {cc : ByteArray} {own : String} {rm : Room} {pc : Nat} {lv : List (Nat × Value)} {st : List Value} {σ : SS} (ok : OkF F cc own rm) {b L : Nat} {xs : Nat → Int32} (hsc : ScF F b L xs) (hL : L ≤ 3584) {i : Int} (hd : decode cc pc = .ok (.iaload, 1)) (hi : 0 ≤ i ∧ i < (L : Int)) (k : AtS F (pc + 1) lv (vI (scF xs i) :: st) σ) : AtS F pc lv (vI i :: .ref b :: st) σ := by
  obtain ⟨l, G, A, p, e, R, s, m, args, below, meth, c, kc, ks, nL, Q⟩ := F
  obtain ⟨hx, hb, hml, hown, hts, hK, hD, hR, hkc, hks⟩ := ok
  intro H locs ls hP hS hl
  have hc := iI_cl hi.1 hi.2 (by omega)
  refine va_sld hx hb hsc.1 hsc.2.1 hsc.2.2 hS (iI_in hi.1 hi.2 (by omega)) hd ?_
  have e : xs (iI i).toNatClampNeg = iI (scF xs i) := by
    unfold scF
    rw [iI_ti, show i.toNat = (iI i).toNatClampNeg by omega]
  rw [e]
  exact k H locs ls hP hS hl
def B_Lw_18 (L : Nat) (xs : Nat → Int32) (Q : Int → SS → Prop) (X18 : Int → SS → Prop) (x3 : Int) (s : SS) : Prop := rng x3 ∧ rng ((L : Int) - 7) ∧ ((((L : Int) - 7) < x3 → Q 1 s) ∧ (x3 ≤ ((L : Int) - 7) → (0 ≤ x3 ∧ x3 < (L : Int)) ∧ rng (bnd (scF xs x3) 63) ∧ (((bnd (scF xs x3) 63) = 0 → (0 ≤ (x3 + 1) ∧ (x3 + 1) < (L : Int)) ∧ (0 ≤ (x3 + 2) ∧ (x3 + 2) < (L : Int)) ∧ (0 ≤ (x3 + 3) ∧ (x3 + 3) < (L : Int)) ∧ Sp_LS_road (scF xs (x3 + 1)) (scF xs (x3 + 2)) (scF xs (x3 + 3)) s (fun r2 s1 => (0 ≤ (x3 + 1) ∧ (x3 + 1) < (L : Int)) ∧ (0 ≤ (x3 + 2) ∧ (x3 + 2) < (L : Int)) ∧ (0 ≤ (x3 + 3) ∧ (x3 + 3) < (L : Int)) ∧ Sp_Md_road (scF xs (x3 + 1)) (scF xs (x3 + 2)) (scF xs (x3 + 3)) s1 (fun r4 s3 => rng r2 ∧ rng r4 ∧ ((r2 = r4 → X18 (x3 + 7) s3) ∧ (¬ r2 = r4 → Q 0 s3))))) ∧ ((bnd (scF xs x3) 63) = 1 → (0 ≤ (x3 + 1) ∧ (x3 + 1) < (L : Int)) ∧ (0 ≤ (x3 + 2) ∧ (x3 + 2) < (L : Int)) ∧ Sp_LS_far (scF xs (x3 + 1)) (scF xs (x3 + 2)) s (fun r6 s5 => (0 ≤ (x3 + 1) ∧ (x3 + 1) < (L : Int)) ∧ (0 ≤ (x3 + 2) ∧ (x3 + 2) < (L : Int)) ∧ Sp_Md_far (scF xs (x3 + 1)) (scF xs (x3 + 2)) s5 (fun r8 s7 => rng r6 ∧ rng r8 ∧ ((r6 = r8 → X18 (x3 + 7) s7) ∧ (¬ r6 = r8 → Q 0 s7))))) ∧ ((bnd (scF xs x3) 63) = 2 → (0 ≤ (x3 + 1) ∧ (x3 + 1) < (L : Int)) ∧ rng (scF xs (x3 + 1)) ∧ (0 ≤ (x3 + 2) ∧ (x3 + 2) < (L : Int)) ∧ rng (scF xs (x3 + 2)) ∧ (0 ≤ (x3 + 3) ∧ (x3 + 3) < (L : Int)) ∧ Sp_LS_feed (lor_ (lsl (scF xs (x3 + 1)) 32) (lnd (scF xs (x3 + 2)) 4294967295)) (scF xs (x3 + 3)) s (fun r10 s9 => (0 ≤ (x3 + 1) ∧ (x3 + 1) < (L : Int)) ∧ rng (scF xs (x3 + 1)) ∧ (0 ≤ (x3 + 2) ∧ (x3 + 2) < (L : Int)) ∧ rng (scF xs (x3 + 2)) ∧ (0 ≤ (x3 + 3) ∧ (x3 + 3) < (L : Int)) ∧ Sp_Md_feed (lor_ (lsl (scF xs (x3 + 1)) 32) (lnd (scF xs (x3 + 2)) 4294967295)) (scF xs (x3 + 3)) s9 (fun r12 s11 => rng r10 ∧ rng r12 ∧ ((r10 = r12 → X18 (x3 + 7) s11) ∧ (¬ r10 = r12 → Q 0 s11))))) ∧ ((bnd (scF xs x3) 63) = 3 → Sp_LS_name s (fun r14 s13 => Sp_Md_name s13 (fun r16 s15 => rng r14 ∧ rng r16 ∧ ((r14 = r16 → X18 (x3 + 7) s15) ∧ (¬ r14 = r16 → Q 0 s15))))) ∧ ((bnd (scF xs x3) 63) = 4 → (0 ≤ (x3 + 1) ∧ (x3 + 1) < (L : Int)) ∧ (0 ≤ (x3 + 2) ∧ (x3 + 2) < (L : Int)) ∧ Sp_LS_key (scF xs (x3 + 1)) (scF xs (x3 + 2)) s (fun r18 s17 => (0 ≤ (x3 + 1) ∧ (x3 + 1) < (L : Int)) ∧ (0 ≤ (x3 + 2) ∧ (x3 + 2) < (L : Int)) ∧ Sp_Md_key (scF xs (x3 + 1)) (scF xs (x3 + 2)) s17 (fun r20 s19 => rng r18 ∧ rng r20 ∧ ((r18 = r20 → X18 (x3 + 7) s19) ∧ (¬ r18 = r20 → Q 0 s19))))) ∧ ((bnd (scF xs x3) 63) = 5 → (0 ≤ (x3 + 1) ∧ (x3 + 1) < (L : Int)) ∧ (0 ≤ (x3 + 2) ∧ (x3 + 2) < (L : Int)) ∧ Sp_LS_join (scF xs (x3 + 1)) (scF xs (x3 + 2)) s (fun r22 s21 => (0 ≤ (x3 + 1) ∧ (x3 + 1) < (L : Int)) ∧ (0 ≤ (x3 + 2) ∧ (x3 + 2) < (L : Int)) ∧ Sp_Md_join (scF xs (x3 + 1)) (scF xs (x3 + 2)) s21 (fun r24 s23 => rng r22 ∧ rng r24 ∧ ((r22 = r24 → X18 (x3 + 7) s23) ∧ (¬ r22 = r24 → Q 0 s23))))) ∧ ((bnd (scF xs x3) 63) = 6 → (0 ≤ (x3 + 1) ∧ (x3 + 1) < (L : Int)) ∧ (0 ≤ (x3 + 2) ∧ (x3 + 2) < (L : Int)) ∧ Sp_LS_part (scF xs (x3 + 1)) (scF xs (x3 + 2)) s (fun r26 s25 => (0 ≤ (x3 + 1) ∧ (x3 + 1) < (L : Int)) ∧ (0 ≤ (x3 + 2) ∧ (x3 + 2) < (L : Int)) ∧ Sp_Md_part (scF xs (x3 + 1)) (scF xs (x3 + 2)) s25 (fun r28 s27 => rng r26 ∧ rng r28 ∧ ((r26 = r28 → X18 (x3 + 7) s27) ∧ (¬ r26 = r28 → Q 0 s27))))) ∧ ((bnd (scF xs x3) 63) = 7 → (0 ≤ (x3 + 1) ∧ (x3 + 1) < (L : Int)) ∧ (0 ≤ (x3 + 2) ∧ (x3 + 2) < (L : Int)) ∧ (0 ≤ (x3 + 3) ∧ (x3 + 3) < (L : Int)) ∧ Sp_LS_link (scF xs (x3 + 1)) (scF xs (x3 + 2)) (scF xs (x3 + 3)) s (fun r30 s29 => (0 ≤ (x3 + 1) ∧ (x3 + 1) < (L : Int)) ∧ (0 ≤ (x3 + 2) ∧ (x3 + 2) < (L : Int)) ∧ (0 ≤ (x3 + 3) ∧ (x3 + 3) < (L : Int)) ∧ Sp_Md_link (scF xs (x3 + 1)) (scF xs (x3 + 2)) (scF xs (x3 + 3)) s29 (fun r32 s31 => rng r30 ∧ rng r32 ∧ ((r30 = r32 → X18 (x3 + 7) s31) ∧ (¬ r30 = r32 → Q 0 s31))))) ∧ ((bnd (scF xs x3) 63) = 8 → (0 ≤ (x3 + 1) ∧ (x3 + 1) < (L : Int)) ∧ (0 ≤ (x3 + 2) ∧ (x3 + 2) < (L : Int)) ∧ Sp_LS_person (scF xs (x3 + 1)) (scF xs (x3 + 2)) s (fun r34 s33 => (0 ≤ (x3 + 1) ∧ (x3 + 1) < (L : Int)) ∧ (0 ≤ (x3 + 2) ∧ (x3 + 2) < (L : Int)) ∧ Sp_Md_person (scF xs (x3 + 1)) (scF xs (x3 + 2)) s33 (fun r36 s35 => rng r34 ∧ rng r36 ∧ ((r34 = r36 → X18 (x3 + 7) s35) ∧ (¬ r34 = r36 → Q 0 s35))))) ∧ ((bnd (scF xs x3) 63) = 9 → (0 ≤ (x3 + 1) ∧ (x3 + 1) < (L : Int)) ∧ (0 ≤ (x3 + 2) ∧ (x3 + 2) < (L : Int)) ∧ (0 ≤ (x3 + 3) ∧ (x3 + 3) < (L : Int)) ∧ Sp_LS_tie (scF xs (x3 + 1)) (scF xs (x3 + 2)) (scF xs (x3 + 3)) s (fun r38 s37 => (0 ≤ (x3 + 1) ∧ (x3 + 1) < (L : Int)) ∧ (0 ≤ (x3 + 2) ∧ (x3 + 2) < (L : Int)) ∧ (0 ≤ (x3 + 3) ∧ (x3 + 3) < (L : Int)) ∧ Sp_Md_tie (scF xs (x3 + 1)) (scF xs (x3 + 2)) (scF xs (x3 + 3)) s37 (fun r40 s39 => rng r38 ∧ rng r40 ∧ ((r38 = r40 → X18 (x3 + 7) s39) ∧ (¬ r38 = r40 → Q 0 s39))))) ∧ ((bnd (scF xs x3) 63) = 10 → (0 ≤ (x3 + 1) ∧ (x3 + 1) < (L : Int)) ∧ (0 ≤ (x3 + 2) ∧ (x3 + 2) < (L : Int)) ∧ (0 ≤ (x3 + 3) ∧ (x3 + 3) < (L : Int)) ∧ (0 ≤ (x3 + 4) ∧ (x3 + 4) < (L : Int)) ∧ (0 ≤ (x3 + 5) ∧ (x3 + 5) < (L : Int)) ∧ (0 ≤ (x3 + 6) ∧ (x3 + 6) < (L : Int)) ∧ Sp_LS_word (scF xs (x3 + 1)) (scF xs (x3 + 2)) (scF xs (x3 + 3)) (scF xs (x3 + 4)) (scF xs (x3 + 5)) (scF xs (x3 + 6)) s (fun r42 s41 => (0 ≤ (x3 + 1) ∧ (x3 + 1) < (L : Int)) ∧ (0 ≤ (x3 + 2) ∧ (x3 + 2) < (L : Int)) ∧ (0 ≤ (x3 + 3) ∧ (x3 + 3) < (L : Int)) ∧ (0 ≤ (x3 + 4) ∧ (x3 + 4) < (L : Int)) ∧ (0 ≤ (x3 + 5) ∧ (x3 + 5) < (L : Int)) ∧ (0 ≤ (x3 + 6) ∧ (x3 + 6) < (L : Int)) ∧ Sp_Md_word (scF xs (x3 + 1)) (scF xs (x3 + 2)) (scF xs (x3 + 3)) (scF xs (x3 + 4)) (scF xs (x3 + 5)) (scF xs (x3 + 6)) s41 (fun r44 s43 => rng r42 ∧ rng r44 ∧ ((r42 = r44 → X18 (x3 + 7) s43) ∧ (¬ r42 = r44 → Q 0 s43))))) ∧ ((bnd (scF xs x3) 63) = 11 → (0 ≤ (x3 + 1) ∧ (x3 + 1) < (L : Int)) ∧ Sp_LS_withdraw (scF xs (x3 + 1)) s (fun r46 s45 => (0 ≤ (x3 + 1) ∧ (x3 + 1) < (L : Int)) ∧ Sp_Md_withdraw (scF xs (x3 + 1)) s45 (fun r48 s47 => rng r46 ∧ rng r48 ∧ ((r46 = r48 → X18 (x3 + 7) s47) ∧ (¬ r46 = r48 → Q 0 s47))))) ∧ ((bnd (scF xs x3) 63) = 12 → (0 ≤ (x3 + 1) ∧ (x3 + 1) < (L : Int)) ∧ (0 ≤ (x3 + 2) ∧ (x3 + 2) < (L : Int)) ∧ (0 ≤ (x3 + 3) ∧ (x3 + 3) < (L : Int)) ∧ Sp_LS_about (scF xs (x3 + 1)) (scF xs (x3 + 2)) (scF xs (x3 + 3)) s (fun r50 s49 => (0 ≤ (x3 + 1) ∧ (x3 + 1) < (L : Int)) ∧ (0 ≤ (x3 + 2) ∧ (x3 + 2) < (L : Int)) ∧ (0 ≤ (x3 + 3) ∧ (x3 + 3) < (L : Int)) ∧ Sp_Md_about (scF xs (x3 + 1)) (scF xs (x3 + 2)) (scF xs (x3 + 3)) s49 (fun r52 s51 => rng r50 ∧ rng r52 ∧ ((r50 = r52 → X18 (x3 + 7) s51) ∧ (¬ r50 = r52 → Q 0 s51))))) ∧ ((bnd (scF xs x3) 63) = 13 → (0 ≤ (x3 + 1) ∧ (x3 + 1) < (L : Int)) ∧ (0 ≤ (x3 + 2) ∧ (x3 + 2) < (L : Int)) ∧ (0 ≤ (x3 + 3) ∧ (x3 + 3) < (L : Int)) ∧ Sp_LS_root (scF xs (x3 + 1)) (scF xs (x3 + 2)) (scF xs (x3 + 3)) s (fun r54 s53 => (0 ≤ (x3 + 1) ∧ (x3 + 1) < (L : Int)) ∧ (0 ≤ (x3 + 2) ∧ (x3 + 2) < (L : Int)) ∧ (0 ≤ (x3 + 3) ∧ (x3 + 3) < (L : Int)) ∧ Sp_Md_root (scF xs (x3 + 1)) (scF xs (x3 + 2)) (scF xs (x3 + 3)) s53 (fun r56 s55 => rng r54 ∧ rng r56 ∧ ((r54 = r56 → X18 (x3 + 7) s55) ∧ (¬ r54 = r56 → Q 0 s55))))) ∧ ((bnd (scF xs x3) 63) = 14 → (0 ≤ (x3 + 1) ∧ (x3 + 1) < (L : Int)) ∧ (0 ≤ (x3 + 2) ∧ (x3 + 2) < (L : Int)) ∧ Sp_LS_eyes (scF xs (x3 + 1)) (scF xs (x3 + 2)) s (fun r58 s57 => (0 ≤ (x3 + 1) ∧ (x3 + 1) < (L : Int)) ∧ (0 ≤ (x3 + 2) ∧ (x3 + 2) < (L : Int)) ∧ Sp_Md_eyes (scF xs (x3 + 1)) (scF xs (x3 + 2)) s57 (fun r60 s59 => rng r58 ∧ rng r60 ∧ ((r58 = r60 → X18 (x3 + 7) s59) ∧ (¬ r58 = r60 → Q 0 s59))))) ∧ ((bnd (scF xs x3) 63) = 15 → (0 ≤ (x3 + 1) ∧ (x3 + 1) < (L : Int)) ∧ (0 ≤ (x3 + 2) ∧ (x3 + 2) < (L : Int)) ∧ Sp_LS_can (scF xs (x3 + 1)) (scF xs (x3 + 2)) s (fun r62 s61 => (0 ≤ (x3 + 1) ∧ (x3 + 1) < (L : Int)) ∧ (0 ≤ (x3 + 2) ∧ (x3 + 2) < (L : Int)) ∧ Sp_Md_can (scF xs (x3 + 1)) (scF xs (x3 + 2)) s61 (fun r64 s63 => rng r62 ∧ rng r64 ∧ ((r62 = r64 → X18 (x3 + 7) s63) ∧ (¬ r62 = r64 → Q 0 s63))))) ∧ ((bnd (scF xs x3) 63) = 16 → (0 ≤ (x3 + 1) ∧ (x3 + 1) < (L : Int)) ∧ (0 ≤ (x3 + 2) ∧ (x3 + 2) < (L : Int)) ∧ (0 ≤ (x3 + 3) ∧ (x3 + 3) < (L : Int)) ∧ Sp_LS_quarrel (scF xs (x3 + 1)) (scF xs (x3 + 2)) (scF xs (x3 + 3)) s (fun r66 s65 => (0 ≤ (x3 + 1) ∧ (x3 + 1) < (L : Int)) ∧ (0 ≤ (x3 + 2) ∧ (x3 + 2) < (L : Int)) ∧ (0 ≤ (x3 + 3) ∧ (x3 + 3) < (L : Int)) ∧ Sp_Md_quarrel (scF xs (x3 + 1)) (scF xs (x3 + 2)) (scF xs (x3 + 3)) s65 (fun r68 s67 => rng r66 ∧ rng r68 ∧ ((r66 = r68 → X18 (x3 + 7) s67) ∧ (¬ r66 = r68 → Q 0 s67))))) ∧ ((bnd (scF xs x3) 63) = 17 → (0 ≤ (x3 + 1) ∧ (x3 + 1) < (L : Int)) ∧ (0 ≤ (x3 + 2) ∧ (x3 + 2) < (L : Int)) ∧ (0 ≤ (x3 + 3) ∧ (x3 + 3) < (L : Int)) ∧ (0 ≤ (x3 + 4) ∧ (x3 + 4) < (L : Int)) ∧ Sp_LS_could (scF xs (x3 + 1)) (scF xs (x3 + 2)) (scF xs (x3 + 3)) (scF xs (x3 + 4)) s (fun r70 s69 => (0 ≤ (x3 + 1) ∧ (x3 + 1) < (L : Int)) ∧ (0 ≤ (x3 + 2) ∧ (x3 + 2) < (L : Int)) ∧ (0 ≤ (x3 + 3) ∧ (x3 + 3) < (L : Int)) ∧ (0 ≤ (x3 + 4) ∧ (x3 + 4) < (L : Int)) ∧ Sp_Md_could (scF xs (x3 + 1)) (scF xs (x3 + 2)) (scF xs (x3 + 3)) (scF xs (x3 + 4)) s69 (fun r72 s71 => rng r70 ∧ rng r72 ∧ ((r70 = r72 → X18 (x3 + 7) s71) ∧ (¬ r70 = r72 → Q 0 s71))))) ∧ ((bnd (scF xs x3) 63) = 18 → (0 ≤ (x3 + 1) ∧ (x3 + 1) < (L : Int)) ∧ (0 ≤ (x3 + 2) ∧ (x3 + 2) < (L : Int)) ∧ Sp_LS_last (scF xs (x3 + 1)) (scF xs (x3 + 2)) s (fun r74 s73 => (0 ≤ (x3 + 1) ∧ (x3 + 1) < (L : Int)) ∧ (0 ≤ (x3 + 2) ∧ (x3 + 2) < (L : Int)) ∧ Sp_Md_last (scF xs (x3 + 1)) (scF xs (x3 + 2)) s73 (fun r76 s75 => rng r74 ∧ rng r76 ∧ ((r74 = r76 → X18 (x3 + 7) s75) ∧ (¬ r74 = r76 → Q 0 s75))))) ∧ ((bnd (scF xs x3) 63) = 19 → Sp_LS_rule s (fun r78 s77 => Sp_Md_rule s77 (fun r80 s79 => rng r78 ∧ rng r80 ∧ ((r78 = r80 → X18 (x3 + 7) s79) ∧ (¬ r78 = r80 → Q 0 s79))))) ∧ ((bnd (scF xs x3) 63) = 20 → (0 ≤ (x3 + 1) ∧ (x3 + 1) < (L : Int)) ∧ (0 ≤ (x3 + 2) ∧ (x3 + 2) < (L : Int)) ∧ Sp_LS_finding (scF xs (x3 + 1)) (scF xs (x3 + 2)) s (fun r82 s81 => (0 ≤ (x3 + 1) ∧ (x3 + 1) < (L : Int)) ∧ (0 ≤ (x3 + 2) ∧ (x3 + 2) < (L : Int)) ∧ Sp_Md_finding (scF xs (x3 + 1)) (scF xs (x3 + 2)) s81 (fun r84 s83 => rng r82 ∧ rng r84 ∧ ((r82 = r84 → X18 (x3 + 7) s83) ∧ (¬ r82 = r84 → Q 0 s83))))) ∧ ((bnd (scF xs x3) 63) = 21 → (0 ≤ (x3 + 1) ∧ (x3 + 1) < (L : Int)) ∧ Sp_LS_find (scF xs (x3 + 1)) s (fun r86 s85 => (0 ≤ (x3 + 1) ∧ (x3 + 1) < (L : Int)) ∧ Sp_Md_find (scF xs (x3 + 1)) s85 (fun r88 s87 => rng r86 ∧ rng r88 ∧ ((r86 = r88 → X18 (x3 + 7) s87) ∧ (¬ r86 = r88 → Q 0 s87))))) ∧ ((bnd (scF xs x3) 63) = 22 → (0 ≤ (x3 + 1) ∧ (x3 + 1) < (L : Int)) ∧ (0 ≤ (x3 + 2) ∧ (x3 + 2) < (L : Int)) ∧ Sp_LS_found (scF xs (x3 + 1)) (scF xs (x3 + 2)) s (fun r90 s89 => (0 ≤ (x3 + 1) ∧ (x3 + 1) < (L : Int)) ∧ (0 ≤ (x3 + 2) ∧ (x3 + 2) < (L : Int)) ∧ Sp_Md_found (scF xs (x3 + 1)) (scF xs (x3 + 2)) s89 (fun r92 s91 => rng r90 ∧ rng r92 ∧ ((r90 = r92 → X18 (x3 + 7) s91) ∧ (¬ r90 = r92 → Q 0 s91))))) ∧ ((bnd (scF xs x3) 63) = 23 → (0 ≤ (x3 + 1) ∧ (x3 + 1) < (L : Int)) ∧ (0 ≤ (x3 + 2) ∧ (x3 + 2) < (L : Int)) ∧ (0 ≤ (x3 + 3) ∧ (x3 + 3) < (L : Int)) ∧ (0 ≤ (x3 + 4) ∧ (x3 + 4) < (L : Int)) ∧ Sp_LS_bone (scF xs (x3 + 1)) (scF xs (x3 + 2)) (scF xs (x3 + 3)) (scF xs (x3 + 4)) s (fun r94 s93 => (0 ≤ (x3 + 1) ∧ (x3 + 1) < (L : Int)) ∧ (0 ≤ (x3 + 2) ∧ (x3 + 2) < (L : Int)) ∧ (0 ≤ (x3 + 3) ∧ (x3 + 3) < (L : Int)) ∧ (0 ≤ (x3 + 4) ∧ (x3 + 4) < (L : Int)) ∧ Sp_Md_bone (scF xs (x3 + 1)) (scF xs (x3 + 2)) (scF xs (x3 + 3)) (scF xs (x3 + 4)) s93 (fun r96 s95 => rng r94 ∧ rng r96 ∧ ((r94 = r96 → X18 (x3 + 7) s95) ∧ (¬ r94 = r96 → Q 0 s95))))) ∧ ((bnd (scF xs x3) 63) = 24 → (0 ≤ (x3 + 1) ∧ (x3 + 1) < (L : Int)) ∧ Sp_LS_bound (scF xs (x3 + 1)) s (fun r98 s97 => (0 ≤ (x3 + 1) ∧ (x3 + 1) < (L : Int)) ∧ Sp_Md_bound (scF xs (x3 + 1)) s97 (fun r100 s99 => rng r98 ∧ rng r100 ∧ ((r98 = r100 → X18 (x3 + 7) s99) ∧ (¬ r98 = r100 → Q 0 s99))))) ∧ ((bnd (scF xs x3) 63) = 25 → (0 ≤ (x3 + 1) ∧ (x3 + 1) < (L : Int)) ∧ Sp_LS_least (scF xs (x3 + 1)) s (fun r102 s101 => (0 ≤ (x3 + 1) ∧ (x3 + 1) < (L : Int)) ∧ Sp_Md_least (scF xs (x3 + 1)) s101 (fun r104 s103 => rng r102 ∧ rng r104 ∧ ((r102 = r104 → X18 (x3 + 7) s103) ∧ (¬ r102 = r104 → Q 0 s103))))) ∧ ((bnd (scF xs x3) 63) = 26 → (0 ≤ (x3 + 1) ∧ (x3 + 1) < (L : Int)) ∧ (0 ≤ (x3 + 2) ∧ (x3 + 2) < (L : Int)) ∧ (0 ≤ (x3 + 3) ∧ (x3 + 3) < (L : Int)) ∧ (0 ≤ (x3 + 4) ∧ (x3 + 4) < (L : Int)) ∧ (0 ≤ (x3 + 5) ∧ (x3 + 5) < (L : Int)) ∧ Sp_LS_set (scF xs (x3 + 1)) (scF xs (x3 + 2)) (scF xs (x3 + 3)) (scF xs (x3 + 4)) (scF xs (x3 + 5)) s (fun r106 s105 => (0 ≤ (x3 + 1) ∧ (x3 + 1) < (L : Int)) ∧ (0 ≤ (x3 + 2) ∧ (x3 + 2) < (L : Int)) ∧ (0 ≤ (x3 + 3) ∧ (x3 + 3) < (L : Int)) ∧ (0 ≤ (x3 + 4) ∧ (x3 + 4) < (L : Int)) ∧ (0 ≤ (x3 + 5) ∧ (x3 + 5) < (L : Int)) ∧ Sp_Md_set (scF xs (x3 + 1)) (scF xs (x3 + 2)) (scF xs (x3 + 3)) (scF xs (x3 + 4)) (scF xs (x3 + 5)) s105 (fun r108 s107 => rng r106 ∧ rng r108 ∧ ((r106 = r108 → X18 (x3 + 7) s107) ∧ (¬ r106 = r108 → Q 0 s107))))) ∧ ((bnd (scF xs x3) 63) = 27 → (0 ≤ (x3 + 1) ∧ (x3 + 1) < (L : Int)) ∧ (0 ≤ (x3 + 2) ∧ (x3 + 2) < (L : Int)) ∧ (0 ≤ (x3 + 3) ∧ (x3 + 3) < (L : Int)) ∧ (0 ≤ (x3 + 4) ∧ (x3 + 4) < (L : Int)) ∧ Sp_LS_missing (scF xs (x3 + 1)) (scF xs (x3 + 2)) (scF xs (x3 + 3)) (scF xs (x3 + 4)) s (fun r110 s109 => (0 ≤ (x3 + 1) ∧ (x3 + 1) < (L : Int)) ∧ (0 ≤ (x3 + 2) ∧ (x3 + 2) < (L : Int)) ∧ (0 ≤ (x3 + 3) ∧ (x3 + 3) < (L : Int)) ∧ (0 ≤ (x3 + 4) ∧ (x3 + 4) < (L : Int)) ∧ Sp_Md_missing (scF xs (x3 + 1)) (scF xs (x3 + 2)) (scF xs (x3 + 3)) (scF xs (x3 + 4)) s109 (fun r112 s111 => rng r110 ∧ rng r112 ∧ ((r110 = r112 → X18 (x3 + 7) s111) ∧ (¬ r110 = r112 → Q 0 s111))))) ∧ ((bnd (scF xs x3) 63) = 28 → (0 ≤ (x3 + 1) ∧ (x3 + 1) < (L : Int)) ∧ (0 ≤ (x3 + 2) ∧ (x3 + 2) < (L : Int)) ∧ Sp_LS_fit (scF xs (x3 + 1)) (scF xs (x3 + 2)) s (fun r114 s113 => (0 ≤ (x3 + 1) ∧ (x3 + 1) < (L : Int)) ∧ (0 ≤ (x3 + 2) ∧ (x3 + 2) < (L : Int)) ∧ Sp_Md_fit (scF xs (x3 + 1)) (scF xs (x3 + 2)) s113 (fun r116 s115 => rng r114 ∧ rng r116 ∧ ((r114 = r116 → X18 (x3 + 7) s115) ∧ (¬ r114 = r116 → Q 0 s115))))) ∧ ((bnd (scF xs x3) 63) = 29 → (0 ≤ (x3 + 1) ∧ (x3 + 1) < (L : Int)) ∧ Sp_LS_namings (scF xs (x3 + 1)) s (fun r118 s117 => (0 ≤ (x3 + 1) ∧ (x3 + 1) < (L : Int)) ∧ Sp_Md_namings (scF xs (x3 + 1)) s117 (fun r120 s119 => rng r118 ∧ rng r120 ∧ ((r118 = r120 → X18 (x3 + 7) s119) ∧ (¬ r118 = r120 → Q 0 s119))))) ∧ ((bnd (scF xs x3) 63) = 30 → (0 ≤ (x3 + 1) ∧ (x3 + 1) < (L : Int)) ∧ (0 ≤ (x3 + 2) ∧ (x3 + 2) < (L : Int)) ∧ Sp_LS_only (scF xs (x3 + 1)) (scF xs (x3 + 2)) s (fun r122 s121 => (0 ≤ (x3 + 1) ∧ (x3 + 1) < (L : Int)) ∧ (0 ≤ (x3 + 2) ∧ (x3 + 2) < (L : Int)) ∧ Sp_Md_only (scF xs (x3 + 1)) (scF xs (x3 + 2)) s121 (fun r124 s123 => rng r122 ∧ rng r124 ∧ ((r122 = r124 → X18 (x3 + 7) s123) ∧ (¬ r122 = r124 → Q 0 s123))))) ∧ ((bnd (scF xs x3) 63) = 31 → (0 ≤ (x3 + 1) ∧ (x3 + 1) < (L : Int)) ∧ Sp_LS_why (scF xs (x3 + 1)) s (fun r126 s125 => (0 ≤ (x3 + 1) ∧ (x3 + 1) < (L : Int)) ∧ Sp_Md_why (scF xs (x3 + 1)) s125 (fun r128 s127 => rng r126 ∧ rng r128 ∧ ((r126 = r128 → X18 (x3 + 7) s127) ∧ (¬ r126 = r128 → Q 0 s127))))) ∧ ((bnd (scF xs x3) 63) = 32 → (0 ≤ (x3 + 1) ∧ (x3 + 1) < (L : Int)) ∧ Sp_LS_give (scF xs (x3 + 1)) s (fun r130 s129 => (0 ≤ (x3 + 1) ∧ (x3 + 1) < (L : Int)) ∧ Sp_Md_give (scF xs (x3 + 1)) s129 (fun r132 s131 => rng r130 ∧ rng r132 ∧ ((r130 = r132 → X18 (x3 + 7) s131) ∧ (¬ r130 = r132 → Q 0 s131))))) ∧ ((bnd (scF xs x3) 63) = 33 → (0 ≤ (x3 + 1) ∧ (x3 + 1) < (L : Int)) ∧ Sp_LS_take (scF xs (x3 + 1)) s (fun r134 s133 => (0 ≤ (x3 + 1) ∧ (x3 + 1) < (L : Int)) ∧ Sp_Md_take (scF xs (x3 + 1)) s133 (fun r136 s135 => rng r134 ∧ rng r136 ∧ ((r134 = r136 → X18 (x3 + 7) s135) ∧ (¬ r134 = r136 → Q 0 s135))))) ∧ ((bnd (scF xs x3) 63) = 34 → (0 ≤ (x3 + 1) ∧ (x3 + 1) < (L : Int)) ∧ Sp_LS_named (scF xs (x3 + 1)) s (fun r138 s137 => (0 ≤ (x3 + 1) ∧ (x3 + 1) < (L : Int)) ∧ Sp_Md_named (scF xs (x3 + 1)) s137 (fun r140 s139 => rng r138 ∧ rng r140 ∧ ((r138 = r140 → X18 (x3 + 7) s139) ∧ (¬ r138 = r140 → Q 0 s139))))) ∧ ((bnd (scF xs x3) 63) = 35 → (0 ≤ (x3 + 1) ∧ (x3 + 1) < (L : Int)) ∧ Sp_LS_count (scF xs (x3 + 1)) s (fun r142 s141 => (0 ≤ (x3 + 1) ∧ (x3 + 1) < (L : Int)) ∧ Sp_Md_count (scF xs (x3 + 1)) s141 (fun r144 s143 => rng r142 ∧ rng r144 ∧ ((r142 = r144 → X18 (x3 + 7) s143) ∧ (¬ r142 = r144 → Q 0 s143))))) ∧ (¬ (bnd (scF xs x3) 63) = 0 → ¬ (bnd (scF xs x3) 63) = 1 → ¬ (bnd (scF xs x3) 63) = 2 → ¬ (bnd (scF xs x3) 63) = 3 → ¬ (bnd (scF xs x3) 63) = 4 → ¬ (bnd (scF xs x3) 63) = 5 → ¬ (bnd (scF xs x3) 63) = 6 → ¬ (bnd (scF xs x3) 63) = 7 → ¬ (bnd (scF xs x3) 63) = 8 → ¬ (bnd (scF xs x3) 63) = 9 → ¬ (bnd (scF xs x3) 63) = 10 → ¬ (bnd (scF xs x3) 63) = 11 → ¬ (bnd (scF xs x3) 63) = 12 → ¬ (bnd (scF xs x3) 63) = 13 → ¬ (bnd (scF xs x3) 63) = 14 → ¬ (bnd (scF xs x3) 63) = 15 → ¬ (bnd (scF xs x3) 63) = 16 → ¬ (bnd (scF xs x3) 63) = 17 → ¬ (bnd (scF xs x3) 63) = 18 → ¬ (bnd (scF xs x3) 63) = 19 → ¬ (bnd (scF xs x3) 63) = 20 → ¬ (bnd (scF xs x3) 63) = 21 → ¬ (bnd (scF xs x3) 63) = 22 → ¬ (bnd (scF xs x3) 63) = 23 → ¬ (bnd (scF xs x3) 63) = 24 → ¬ (bnd (scF xs x3) 63) = 25 → ¬ (bnd (scF xs x3) 63) = 26 → ¬ (bnd (scF xs x3) 63) = 27 → ¬ (bnd (scF xs x3) 63) = 28 → ¬ (bnd (scF xs x3) 63) = 29 → ¬ (bnd (scF xs x3) 63) = 30 → ¬ (bnd (scF xs x3) 63) = 31 → ¬ (bnd (scF xs x3) 63) = 32 → ¬ (bnd (scF xs x3) 63) = 33 → ¬ (bnd (scF xs x3) 63) = 34 → ¬ (bnd (scF xs x3) 63) = 35 → X18 (x3 + 7) s))))
set_option maxHeartbeats 4000000 in
set_option maxRecDepth 100000 in
theorem K_Lw_18 {F : FT} (hD : ∀ σ, va_D F.2.2.1 (GW F.2.1 σ)) (hm : F.2.2.2.2.2.2.2.2.2.2.2.2.2.2.1 = 4) (ok : OkF F code "LastSeenLaw" room_1) {b L : Nat} {xs : Nat → Int32} (hL : L ≤ 3584) (hsc : ScF F b L xs) {Q : Int → SS → Prop} (hQ : RetZ F Q) {x3 : Int} {s : SS} (h : B_Lw_18 L xs Q (fun x3 s => AtS F 18 [(0, .ref b), (1, .ref (F.2.1.1 0)), (2, .ref (F.2.1.1 10)), (3, vI x3)] [] s) x3 s) : AtS F 18 [(0, .ref b), (1, .ref (F.2.1.1 0)), (2, .ref (F.2.1.1 10)), (3, vI x3)] [] s := by
  unfold B_Lw_18 at h
  refine r_iload_n ok 3 d_Lw_18 rfl rfl ?_
  refine r_aload_n ok 0 d_Lw_19 rfl rfl ?_
  refine r_slen ok hsc d_Lw_20 ?_
  refine r_bipush ok 7 d_Lw_21 (by decide) ?_
  refine r_isub ok d_Lw_23 ?_
  refine r_icmp_gt ok 1468 d_Lw_24 (by decide) h.1 h.2.1 (fun c => ?_) (fun c => ?_)
  · replace h := h.2.2.1 c
    refine r_iconst ok 1 d_Lw_1468 rfl ?_
    exact hQ _ _ _ _ _ (ok_code ok) d_Lw_1469 (by decide) h
  · replace h := h.2.2.2 c
    refine r_aload_n ok 0 d_Lw_27 rfl rfl ?_
    refine r_iload_n ok 3 d_Lw_28 rfl rfl ?_
    refine r_sald ok hsc hL d_Lw_29 h.1 ?_
    replace h := h.2
    refine r_bipush ok 63 d_Lw_30 (by decide) ?_
    refine r_iand ok d_Lw_32 ?_
    have hx := h.1
    replace h := h.2
    rcases Decidable.em ((bnd (scF xs x3) 63) = 0) with c0 | c0
    · replace h := h.1 c0
      refine r_tblIn ok 0 192 d_Lw_33 hx c0 (by decide) rfl (by decide) ?_
      refine r_aload_n ok 1 d_Lw_192 rfl rfl ?_
      refine r_aload_n ok 0 d_Lw_193 rfl rfl ?_
      refine r_iload_n ok 3 d_Lw_194 rfl rfl ?_
      refine r_iconst ok 1 d_Lw_195 rfl ?_
      refine r_iadd ok d_Lw_196 ?_
      refine r_sald ok hsc hL d_Lw_197 h.1 ?_
      replace h := h.2
      refine r_aload_n ok 0 d_Lw_198 rfl rfl ?_
      refine r_iload_n ok 3 d_Lw_199 rfl rfl ?_
      refine r_iconst ok 2 d_Lw_200 rfl ?_
      refine r_iadd ok d_Lw_201 ?_
      refine r_sald ok hsc hL d_Lw_202 h.1 ?_
      replace h := h.2
      refine r_aload_n ok 0 d_Lw_203 rfl rfl ?_
      refine r_iload_n ok 3 d_Lw_204 rfl rfl ?_
      refine r_iconst ok 3 d_Lw_205 rfl ?_
      refine r_iadd ok d_Lw_206 ?_
      refine r_sald ok hsc hL d_Lw_207 h.1 ?_
      replace h := h.2
      refine r_callVi (As := [vI (scF xs (x3 + 1)), vI (scF xs (x3 + 2)), vI (scF xs (x3 + 3))]) (rest := []) ok 0 rfl rfl rfl wl_Lw_13 wi_y_LS_road ws_y_LS_road wn_LS wc_y_LS_road (by decide) (by decide) hh_LS_road (Nat.le_of_ble_eq_true rfl) rfl d_Lw_208 (L_LS_road F.1 F.2.1 F.2.2.1 hD h) (fun r2 s1 h => ?_)
      refine r_aload_n ok 2 d_Lw_211 rfl rfl ?_
      refine r_aload_n ok 0 d_Lw_212 rfl rfl ?_
      refine r_iload_n ok 3 d_Lw_213 rfl rfl ?_
      refine r_iconst ok 1 d_Lw_214 rfl ?_
      refine r_iadd ok d_Lw_215 ?_
      refine r_sald ok hsc hL d_Lw_216 h.1 ?_
      replace h := h.2
      refine r_aload_n ok 0 d_Lw_217 rfl rfl ?_
      refine r_iload_n ok 3 d_Lw_218 rfl rfl ?_
      refine r_iconst ok 2 d_Lw_219 rfl ?_
      refine r_iadd ok d_Lw_220 ?_
      refine r_sald ok hsc hL d_Lw_221 h.1 ?_
      replace h := h.2
      refine r_aload_n ok 0 d_Lw_222 rfl rfl ?_
      refine r_iload_n ok 3 d_Lw_223 rfl rfl ?_
      refine r_iconst ok 3 d_Lw_224 rfl ?_
      refine r_iadd ok d_Lw_225 ?_
      refine r_sald ok hsc hL d_Lw_226 h.1 ?_
      replace h := h.2
      refine r_callVi (As := [vI (scF xs (x3 + 1)), vI (scF xs (x3 + 2)), vI (scF xs (x3 + 3))]) (rest := [vI r2]) ok 10 rfl rfl rfl wl_Lw_17 wi_y_Md_road ws_y_Md_road wn_Md wc_y_Md_road (by decide) (by decide) hh_Md_road (Nat.le_of_ble_eq_true rfl) rfl d_Lw_227 (L_Md_road F.1 F.2.1 F.2.2.1 hD h) (fun r4 s3 h => ?_)
      refine r_icmp_eq ok 1462 d_Lw_230 (by decide) h.1 h.2.1 (fun c => ?_) (fun c => ?_)
      · replace h := h.2.2.1 c
        refine r_iinc ok 3 (x3 + 7) [(3, vI (x3 + 7)), (0, .ref b), (1, .ref (F.2.1.1 0)), (2, .ref (F.2.1.1 10))] d_Lw_1462 rfl rfl hm (by decide) rfl ?_
        refine r_goto ok 18 d_Lw_1465 (by decide) ?_
        exact r_sub [1, 2, 3, 0] rfl h
      · replace h := h.2.2.2 c
        refine r_iconst ok 0 d_Lw_233 rfl ?_
        exact hQ _ _ _ _ _ (ok_code ok) d_Lw_234 (by decide) h
    replace h := h.2
    rcases Decidable.em ((bnd (scF xs x3) 63) = 1) with c1 | c1
    · replace h := h.1 c1
      refine r_tblIn ok 1 235 d_Lw_33 hx c1 (by decide) rfl (by decide) ?_
      refine r_aload_n ok 1 d_Lw_235 rfl rfl ?_
      refine r_aload_n ok 0 d_Lw_236 rfl rfl ?_
      refine r_iload_n ok 3 d_Lw_237 rfl rfl ?_
      refine r_iconst ok 1 d_Lw_238 rfl ?_
      refine r_iadd ok d_Lw_239 ?_
      refine r_sald ok hsc hL d_Lw_240 h.1 ?_
      replace h := h.2
      refine r_aload_n ok 0 d_Lw_241 rfl rfl ?_
      refine r_iload_n ok 3 d_Lw_242 rfl rfl ?_
      refine r_iconst ok 2 d_Lw_243 rfl ?_
      refine r_iadd ok d_Lw_244 ?_
      refine r_sald ok hsc hL d_Lw_245 h.1 ?_
      replace h := h.2
      refine r_callVi (As := [vI (scF xs (x3 + 1)), vI (scF xs (x3 + 2))]) (rest := []) ok 0 rfl rfl rfl wl_Lw_18 wi_y_LS_far ws_y_LS_far wn_LS wc_y_LS_far (by decide) (by decide) hh_LS_far (Nat.le_of_ble_eq_true rfl) rfl d_Lw_246 (L_LS_far F.1 F.2.1 F.2.2.1 hD h) (fun r6 s5 h => ?_)
      refine r_aload_n ok 2 d_Lw_249 rfl rfl ?_
      refine r_aload_n ok 0 d_Lw_250 rfl rfl ?_
      refine r_iload_n ok 3 d_Lw_251 rfl rfl ?_
      refine r_iconst ok 1 d_Lw_252 rfl ?_
      refine r_iadd ok d_Lw_253 ?_
      refine r_sald ok hsc hL d_Lw_254 h.1 ?_
      replace h := h.2
      refine r_aload_n ok 0 d_Lw_255 rfl rfl ?_
      refine r_iload_n ok 3 d_Lw_256 rfl rfl ?_
      refine r_iconst ok 2 d_Lw_257 rfl ?_
      refine r_iadd ok d_Lw_258 ?_
      refine r_sald ok hsc hL d_Lw_259 h.1 ?_
      replace h := h.2
      refine r_callVi (As := [vI (scF xs (x3 + 1)), vI (scF xs (x3 + 2))]) (rest := [vI r6]) ok 10 rfl rfl rfl wl_Lw_22 wi_y_Md_far ws_y_Md_far wn_Md wc_y_Md_far (by decide) (by decide) hh_Md_far (Nat.le_of_ble_eq_true rfl) rfl d_Lw_260 (L_Md_far F.1 F.2.1 F.2.2.1 hD h) (fun r8 s7 h => ?_)
      refine r_icmp_eq ok 1462 d_Lw_263 (by decide) h.1 h.2.1 (fun c => ?_) (fun c => ?_)
      · replace h := h.2.2.1 c
        refine r_iinc ok 3 (x3 + 7) [(3, vI (x3 + 7)), (0, .ref b), (1, .ref (F.2.1.1 0)), (2, .ref (F.2.1.1 10))] d_Lw_1462 rfl rfl hm (by decide) rfl ?_
        refine r_goto ok 18 d_Lw_1465 (by decide) ?_
        exact r_sub [1, 2, 3, 0] rfl h
      · replace h := h.2.2.2 c
        refine r_iconst ok 0 d_Lw_266 rfl ?_
        exact hQ _ _ _ _ _ (ok_code ok) d_Lw_267 (by decide) h
    replace h := h.2
    rcases Decidable.em ((bnd (scF xs x3) 63) = 2) with c2 | c2
    · replace h := h.1 c2
      refine r_tblIn ok 2 268 d_Lw_33 hx c2 (by decide) rfl (by decide) ?_
      refine r_aload_n ok 1 d_Lw_268 rfl rfl ?_
      refine r_aload_n ok 0 d_Lw_269 rfl rfl ?_
      refine r_iload_n ok 3 d_Lw_270 rfl rfl ?_
      refine r_iconst ok 1 d_Lw_271 rfl ?_
      refine r_iadd ok d_Lw_272 ?_
      refine r_sald ok hsc hL d_Lw_273 h.1 ?_
      replace h := h.2
      refine r_i2l ok d_Lw_274 h.1 ?_
      replace h := h.2
      refine r_bipush ok 32 d_Lw_275 (by decide) ?_
      refine r_lshl ok d_Lw_277 ?_
      refine r_aload_n ok 0 d_Lw_278 rfl rfl ?_
      refine r_iload_n ok 3 d_Lw_279 rfl rfl ?_
      refine r_iconst ok 2 d_Lw_280 rfl ?_
      refine r_iadd ok d_Lw_281 ?_
      refine r_sald ok hsc hL d_Lw_282 h.1 ?_
      replace h := h.2
      refine r_i2l ok d_Lw_283 h.1 ?_
      replace h := h.2
      refine r_ldc2 ok 4294967295 wk_Lw_23 d_Lw_284 (by decide) ?_
      refine r_land ok d_Lw_287 ?_
      refine r_lor ok d_Lw_288 ?_
      refine r_aload_n ok 0 d_Lw_289 rfl rfl ?_
      refine r_iload_n ok 3 d_Lw_290 rfl rfl ?_
      refine r_iconst ok 3 d_Lw_291 rfl ?_
      refine r_iadd ok d_Lw_292 ?_
      refine r_sald ok hsc hL d_Lw_293 h.1 ?_
      replace h := h.2
      refine r_callVi (As := [vJ (lor_ (lsl (scF xs (x3 + 1)) 32) (lnd (scF xs (x3 + 2)) 4294967295)), vI (scF xs (x3 + 3))]) (rest := []) ok 0 rfl rfl rfl wl_Lw_25 wi_y_LS_feed ws_y_LS_feed wn_LS wc_y_LS_feed (by decide) (by decide) hh_LS_feed (Nat.le_of_ble_eq_true rfl) rfl d_Lw_294 (L_LS_feed F.1 F.2.1 F.2.2.1 hD h) (fun r10 s9 h => ?_)
      refine r_aload_n ok 2 d_Lw_297 rfl rfl ?_
      refine r_aload_n ok 0 d_Lw_298 rfl rfl ?_
      refine r_iload_n ok 3 d_Lw_299 rfl rfl ?_
      refine r_iconst ok 1 d_Lw_300 rfl ?_
      refine r_iadd ok d_Lw_301 ?_
      refine r_sald ok hsc hL d_Lw_302 h.1 ?_
      replace h := h.2
      refine r_i2l ok d_Lw_303 h.1 ?_
      replace h := h.2
      refine r_bipush ok 32 d_Lw_304 (by decide) ?_
      refine r_lshl ok d_Lw_306 ?_
      refine r_aload_n ok 0 d_Lw_307 rfl rfl ?_
      refine r_iload_n ok 3 d_Lw_308 rfl rfl ?_
      refine r_iconst ok 2 d_Lw_309 rfl ?_
      refine r_iadd ok d_Lw_310 ?_
      refine r_sald ok hsc hL d_Lw_311 h.1 ?_
      replace h := h.2
      refine r_i2l ok d_Lw_312 h.1 ?_
      replace h := h.2
      refine r_ldc2 ok 4294967295 wk_Lw_23 d_Lw_313 (by decide) ?_
      refine r_land ok d_Lw_316 ?_
      refine r_lor ok d_Lw_317 ?_
      refine r_aload_n ok 0 d_Lw_318 rfl rfl ?_
      refine r_iload_n ok 3 d_Lw_319 rfl rfl ?_
      refine r_iconst ok 3 d_Lw_320 rfl ?_
      refine r_iadd ok d_Lw_321 ?_
      refine r_sald ok hsc hL d_Lw_322 h.1 ?_
      replace h := h.2
      refine r_callVi (As := [vJ (lor_ (lsl (scF xs (x3 + 1)) 32) (lnd (scF xs (x3 + 2)) 4294967295)), vI (scF xs (x3 + 3))]) (rest := [vI r10]) ok 10 rfl rfl rfl wl_Lw_29 wi_y_Md_feed ws_y_Md_feed wn_Md wc_y_Md_feed (by decide) (by decide) hh_Md_feed (Nat.le_of_ble_eq_true rfl) rfl d_Lw_323 (L_Md_feed F.1 F.2.1 F.2.2.1 hD h) (fun r12 s11 h => ?_)
      refine r_icmp_eq ok 1462 d_Lw_326 (by decide) h.1 h.2.1 (fun c => ?_) (fun c => ?_)
      · replace h := h.2.2.1 c
        refine r_iinc ok 3 (x3 + 7) [(3, vI (x3 + 7)), (0, .ref b), (1, .ref (F.2.1.1 0)), (2, .ref (F.2.1.1 10))] d_Lw_1462 rfl rfl hm (by decide) rfl ?_
        refine r_goto ok 18 d_Lw_1465 (by decide) ?_
        exact r_sub [1, 2, 3, 0] rfl h
      · replace h := h.2.2.2 c
        refine r_iconst ok 0 d_Lw_329 rfl ?_
        exact hQ _ _ _ _ _ (ok_code ok) d_Lw_330 (by decide) h
    replace h := h.2
    rcases Decidable.em ((bnd (scF xs x3) 63) = 3) with c3 | c3
    · replace h := h.1 c3
      refine r_tblIn ok 3 331 d_Lw_33 hx c3 (by decide) rfl (by decide) ?_
      refine r_aload_n ok 1 d_Lw_331 rfl rfl ?_
      refine r_callVi (As := []) (rest := []) ok 0 rfl rfl rfl wl_Lw_30 wi_y_LS_name ws_y_LS_name wn_LS wc_y_LS_name (by decide) (by decide) hh_LS_name (Nat.le_of_ble_eq_true rfl) rfl d_Lw_332 (L_LS_name F.1 F.2.1 F.2.2.1 hD h) (fun r14 s13 h => ?_)
      refine r_aload_n ok 2 d_Lw_335 rfl rfl ?_
      refine r_callVi (As := []) (rest := [vI r14]) ok 10 rfl rfl rfl wl_Lw_34 wi_y_Md_name ws_y_Md_name wn_Md wc_y_Md_name (by decide) (by decide) hh_Md_name (Nat.le_of_ble_eq_true rfl) rfl d_Lw_336 (L_Md_name F.1 F.2.1 F.2.2.1 hD h) (fun r16 s15 h => ?_)
      refine r_icmp_eq ok 1462 d_Lw_339 (by decide) h.1 h.2.1 (fun c => ?_) (fun c => ?_)
      · replace h := h.2.2.1 c
        refine r_iinc ok 3 (x3 + 7) [(3, vI (x3 + 7)), (0, .ref b), (1, .ref (F.2.1.1 0)), (2, .ref (F.2.1.1 10))] d_Lw_1462 rfl rfl hm (by decide) rfl ?_
        refine r_goto ok 18 d_Lw_1465 (by decide) ?_
        exact r_sub [1, 2, 3, 0] rfl h
      · replace h := h.2.2.2 c
        refine r_iconst ok 0 d_Lw_342 rfl ?_
        exact hQ _ _ _ _ _ (ok_code ok) d_Lw_343 (by decide) h
    replace h := h.2
    rcases Decidable.em ((bnd (scF xs x3) 63) = 4) with c4 | c4
    · replace h := h.1 c4
      refine r_tblIn ok 4 344 d_Lw_33 hx c4 (by decide) rfl (by decide) ?_
      refine r_aload_n ok 1 d_Lw_344 rfl rfl ?_
      refine r_aload_n ok 0 d_Lw_345 rfl rfl ?_
      refine r_iload_n ok 3 d_Lw_346 rfl rfl ?_
      refine r_iconst ok 1 d_Lw_347 rfl ?_
      refine r_iadd ok d_Lw_348 ?_
      refine r_sald ok hsc hL d_Lw_349 h.1 ?_
      replace h := h.2
      refine r_aload_n ok 0 d_Lw_350 rfl rfl ?_
      refine r_iload_n ok 3 d_Lw_351 rfl rfl ?_
      refine r_iconst ok 2 d_Lw_352 rfl ?_
      refine r_iadd ok d_Lw_353 ?_
      refine r_sald ok hsc hL d_Lw_354 h.1 ?_
      replace h := h.2
      refine r_callVi (As := [vI (scF xs (x3 + 1)), vI (scF xs (x3 + 2))]) (rest := []) ok 0 rfl rfl rfl wl_Lw_35 wi_y_LS_key ws_y_LS_key wn_LS wc_y_LS_key (by decide) (by decide) hh_LS_key (Nat.le_of_ble_eq_true rfl) rfl d_Lw_355 (L_LS_key F.1 F.2.1 F.2.2.1 hD h) (fun r18 s17 h => ?_)
      refine r_aload_n ok 2 d_Lw_358 rfl rfl ?_
      refine r_aload_n ok 0 d_Lw_359 rfl rfl ?_
      refine r_iload_n ok 3 d_Lw_360 rfl rfl ?_
      refine r_iconst ok 1 d_Lw_361 rfl ?_
      refine r_iadd ok d_Lw_362 ?_
      refine r_sald ok hsc hL d_Lw_363 h.1 ?_
      replace h := h.2
      refine r_aload_n ok 0 d_Lw_364 rfl rfl ?_
      refine r_iload_n ok 3 d_Lw_365 rfl rfl ?_
      refine r_iconst ok 2 d_Lw_366 rfl ?_
      refine r_iadd ok d_Lw_367 ?_
      refine r_sald ok hsc hL d_Lw_368 h.1 ?_
      replace h := h.2
      refine r_callVi (As := [vI (scF xs (x3 + 1)), vI (scF xs (x3 + 2))]) (rest := [vI r18]) ok 10 rfl rfl rfl wl_Lw_38 wi_y_Md_key ws_y_Md_key wn_Md wc_y_Md_key (by decide) (by decide) hh_Md_key (Nat.le_of_ble_eq_true rfl) rfl d_Lw_369 (L_Md_key F.1 F.2.1 F.2.2.1 hD h) (fun r20 s19 h => ?_)
      refine r_icmp_eq ok 1462 d_Lw_372 (by decide) h.1 h.2.1 (fun c => ?_) (fun c => ?_)
      · replace h := h.2.2.1 c
        refine r_iinc ok 3 (x3 + 7) [(3, vI (x3 + 7)), (0, .ref b), (1, .ref (F.2.1.1 0)), (2, .ref (F.2.1.1 10))] d_Lw_1462 rfl rfl hm (by decide) rfl ?_
        refine r_goto ok 18 d_Lw_1465 (by decide) ?_
        exact r_sub [1, 2, 3, 0] rfl h
      · replace h := h.2.2.2 c
        refine r_iconst ok 0 d_Lw_375 rfl ?_
        exact hQ _ _ _ _ _ (ok_code ok) d_Lw_376 (by decide) h
    replace h := h.2
    rcases Decidable.em ((bnd (scF xs x3) 63) = 5) with c5 | c5
    · replace h := h.1 c5
      refine r_tblIn ok 5 377 d_Lw_33 hx c5 (by decide) rfl (by decide) ?_
      refine r_aload_n ok 1 d_Lw_377 rfl rfl ?_
      refine r_aload_n ok 0 d_Lw_378 rfl rfl ?_
      refine r_iload_n ok 3 d_Lw_379 rfl rfl ?_
      refine r_iconst ok 1 d_Lw_380 rfl ?_
      refine r_iadd ok d_Lw_381 ?_
      refine r_sald ok hsc hL d_Lw_382 h.1 ?_
      replace h := h.2
      refine r_aload_n ok 0 d_Lw_383 rfl rfl ?_
      refine r_iload_n ok 3 d_Lw_384 rfl rfl ?_
      refine r_iconst ok 2 d_Lw_385 rfl ?_
      refine r_iadd ok d_Lw_386 ?_
      refine r_sald ok hsc hL d_Lw_387 h.1 ?_
      replace h := h.2
      refine r_callVi (As := [vI (scF xs (x3 + 1)), vI (scF xs (x3 + 2))]) (rest := []) ok 0 rfl rfl rfl wl_Lw_39 wi_y_LS_join ws_y_LS_join wn_LS wc_y_LS_join (by decide) (by decide) hh_LS_join (Nat.le_of_ble_eq_true rfl) rfl d_Lw_388 (L_LS_join F.1 F.2.1 F.2.2.1 hD h) (fun r22 s21 h => ?_)
      refine r_aload_n ok 2 d_Lw_391 rfl rfl ?_
      refine r_aload_n ok 0 d_Lw_392 rfl rfl ?_
      refine r_iload_n ok 3 d_Lw_393 rfl rfl ?_
      refine r_iconst ok 1 d_Lw_394 rfl ?_
      refine r_iadd ok d_Lw_395 ?_
      refine r_sald ok hsc hL d_Lw_396 h.1 ?_
      replace h := h.2
      refine r_aload_n ok 0 d_Lw_397 rfl rfl ?_
      refine r_iload_n ok 3 d_Lw_398 rfl rfl ?_
      refine r_iconst ok 2 d_Lw_399 rfl ?_
      refine r_iadd ok d_Lw_400 ?_
      refine r_sald ok hsc hL d_Lw_401 h.1 ?_
      replace h := h.2
      refine r_callVi (As := [vI (scF xs (x3 + 1)), vI (scF xs (x3 + 2))]) (rest := [vI r22]) ok 10 rfl rfl rfl wl_Lw_42 wi_y_Md_join ws_y_Md_join wn_Md wc_y_Md_join (by decide) (by decide) hh_Md_join (Nat.le_of_ble_eq_true rfl) rfl d_Lw_402 (L_Md_join F.1 F.2.1 F.2.2.1 hD h) (fun r24 s23 h => ?_)
      refine r_icmp_eq ok 1462 d_Lw_405 (by decide) h.1 h.2.1 (fun c => ?_) (fun c => ?_)
      · replace h := h.2.2.1 c
        refine r_iinc ok 3 (x3 + 7) [(3, vI (x3 + 7)), (0, .ref b), (1, .ref (F.2.1.1 0)), (2, .ref (F.2.1.1 10))] d_Lw_1462 rfl rfl hm (by decide) rfl ?_
        refine r_goto ok 18 d_Lw_1465 (by decide) ?_
        exact r_sub [1, 2, 3, 0] rfl h
      · replace h := h.2.2.2 c
        refine r_iconst ok 0 d_Lw_408 rfl ?_
        exact hQ _ _ _ _ _ (ok_code ok) d_Lw_409 (by decide) h
    replace h := h.2
    rcases Decidable.em ((bnd (scF xs x3) 63) = 6) with c6 | c6
    · replace h := h.1 c6
      refine r_tblIn ok 6 410 d_Lw_33 hx c6 (by decide) rfl (by decide) ?_
      refine r_aload_n ok 1 d_Lw_410 rfl rfl ?_
      refine r_aload_n ok 0 d_Lw_411 rfl rfl ?_
      refine r_iload_n ok 3 d_Lw_412 rfl rfl ?_
      refine r_iconst ok 1 d_Lw_413 rfl ?_
      refine r_iadd ok d_Lw_414 ?_
      refine r_sald ok hsc hL d_Lw_415 h.1 ?_
      replace h := h.2
      refine r_aload_n ok 0 d_Lw_416 rfl rfl ?_
      refine r_iload_n ok 3 d_Lw_417 rfl rfl ?_
      refine r_iconst ok 2 d_Lw_418 rfl ?_
      refine r_iadd ok d_Lw_419 ?_
      refine r_sald ok hsc hL d_Lw_420 h.1 ?_
      replace h := h.2
      refine r_callVi (As := [vI (scF xs (x3 + 1)), vI (scF xs (x3 + 2))]) (rest := []) ok 0 rfl rfl rfl wl_Lw_43 wi_y_LS_part ws_y_LS_part wn_LS wc_y_LS_part (by decide) (by decide) hh_LS_part (Nat.le_of_ble_eq_true rfl) rfl d_Lw_421 (L_LS_part F.1 F.2.1 F.2.2.1 hD h) (fun r26 s25 h => ?_)
      refine r_aload_n ok 2 d_Lw_424 rfl rfl ?_
      refine r_aload_n ok 0 d_Lw_425 rfl rfl ?_
      refine r_iload_n ok 3 d_Lw_426 rfl rfl ?_
      refine r_iconst ok 1 d_Lw_427 rfl ?_
      refine r_iadd ok d_Lw_428 ?_
      refine r_sald ok hsc hL d_Lw_429 h.1 ?_
      replace h := h.2
      refine r_aload_n ok 0 d_Lw_430 rfl rfl ?_
      refine r_iload_n ok 3 d_Lw_431 rfl rfl ?_
      refine r_iconst ok 2 d_Lw_432 rfl ?_
      refine r_iadd ok d_Lw_433 ?_
      refine r_sald ok hsc hL d_Lw_434 h.1 ?_
      replace h := h.2
      refine r_callVi (As := [vI (scF xs (x3 + 1)), vI (scF xs (x3 + 2))]) (rest := [vI r26]) ok 10 rfl rfl rfl wl_Lw_46 wi_y_Md_part ws_y_Md_part wn_Md wc_y_Md_part (by decide) (by decide) hh_Md_part (Nat.le_of_ble_eq_true rfl) rfl d_Lw_435 (L_Md_part F.1 F.2.1 F.2.2.1 hD h) (fun r28 s27 h => ?_)
      refine r_icmp_eq ok 1462 d_Lw_438 (by decide) h.1 h.2.1 (fun c => ?_) (fun c => ?_)
      · replace h := h.2.2.1 c
        refine r_iinc ok 3 (x3 + 7) [(3, vI (x3 + 7)), (0, .ref b), (1, .ref (F.2.1.1 0)), (2, .ref (F.2.1.1 10))] d_Lw_1462 rfl rfl hm (by decide) rfl ?_
        refine r_goto ok 18 d_Lw_1465 (by decide) ?_
        exact r_sub [1, 2, 3, 0] rfl h
      · replace h := h.2.2.2 c
        refine r_iconst ok 0 d_Lw_441 rfl ?_
        exact hQ _ _ _ _ _ (ok_code ok) d_Lw_442 (by decide) h
    replace h := h.2
    rcases Decidable.em ((bnd (scF xs x3) 63) = 7) with c7 | c7
    · replace h := h.1 c7
      refine r_tblIn ok 7 443 d_Lw_33 hx c7 (by decide) rfl (by decide) ?_
      refine r_aload_n ok 1 d_Lw_443 rfl rfl ?_
      refine r_aload_n ok 0 d_Lw_444 rfl rfl ?_
      refine r_iload_n ok 3 d_Lw_445 rfl rfl ?_
      refine r_iconst ok 1 d_Lw_446 rfl ?_
      refine r_iadd ok d_Lw_447 ?_
      refine r_sald ok hsc hL d_Lw_448 h.1 ?_
      replace h := h.2
      refine r_aload_n ok 0 d_Lw_449 rfl rfl ?_
      refine r_iload_n ok 3 d_Lw_450 rfl rfl ?_
      refine r_iconst ok 2 d_Lw_451 rfl ?_
      refine r_iadd ok d_Lw_452 ?_
      refine r_sald ok hsc hL d_Lw_453 h.1 ?_
      replace h := h.2
      refine r_aload_n ok 0 d_Lw_454 rfl rfl ?_
      refine r_iload_n ok 3 d_Lw_455 rfl rfl ?_
      refine r_iconst ok 3 d_Lw_456 rfl ?_
      refine r_iadd ok d_Lw_457 ?_
      refine r_sald ok hsc hL d_Lw_458 h.1 ?_
      replace h := h.2
      refine r_callVi (As := [vI (scF xs (x3 + 1)), vI (scF xs (x3 + 2)), vI (scF xs (x3 + 3))]) (rest := []) ok 0 rfl rfl rfl wl_Lw_47 wi_y_LS_link ws_y_LS_link wn_LS wc_y_LS_link (by decide) (by decide) hh_LS_link (Nat.le_of_ble_eq_true rfl) rfl d_Lw_459 (L_LS_link F.1 F.2.1 F.2.2.1 hD h) (fun r30 s29 h => ?_)
      refine r_aload_n ok 2 d_Lw_462 rfl rfl ?_
      refine r_aload_n ok 0 d_Lw_463 rfl rfl ?_
      refine r_iload_n ok 3 d_Lw_464 rfl rfl ?_
      refine r_iconst ok 1 d_Lw_465 rfl ?_
      refine r_iadd ok d_Lw_466 ?_
      refine r_sald ok hsc hL d_Lw_467 h.1 ?_
      replace h := h.2
      refine r_aload_n ok 0 d_Lw_468 rfl rfl ?_
      refine r_iload_n ok 3 d_Lw_469 rfl rfl ?_
      refine r_iconst ok 2 d_Lw_470 rfl ?_
      refine r_iadd ok d_Lw_471 ?_
      refine r_sald ok hsc hL d_Lw_472 h.1 ?_
      replace h := h.2
      refine r_aload_n ok 0 d_Lw_473 rfl rfl ?_
      refine r_iload_n ok 3 d_Lw_474 rfl rfl ?_
      refine r_iconst ok 3 d_Lw_475 rfl ?_
      refine r_iadd ok d_Lw_476 ?_
      refine r_sald ok hsc hL d_Lw_477 h.1 ?_
      replace h := h.2
      refine r_callVi (As := [vI (scF xs (x3 + 1)), vI (scF xs (x3 + 2)), vI (scF xs (x3 + 3))]) (rest := [vI r30]) ok 10 rfl rfl rfl wl_Lw_50 wi_y_Md_link ws_y_Md_link wn_Md wc_y_Md_link (by decide) (by decide) hh_Md_link (Nat.le_of_ble_eq_true rfl) rfl d_Lw_478 (L_Md_link F.1 F.2.1 F.2.2.1 hD h) (fun r32 s31 h => ?_)
      refine r_icmp_eq ok 1462 d_Lw_481 (by decide) h.1 h.2.1 (fun c => ?_) (fun c => ?_)
      · replace h := h.2.2.1 c
        refine r_iinc ok 3 (x3 + 7) [(3, vI (x3 + 7)), (0, .ref b), (1, .ref (F.2.1.1 0)), (2, .ref (F.2.1.1 10))] d_Lw_1462 rfl rfl hm (by decide) rfl ?_
        refine r_goto ok 18 d_Lw_1465 (by decide) ?_
        exact r_sub [1, 2, 3, 0] rfl h
      · replace h := h.2.2.2 c
        refine r_iconst ok 0 d_Lw_484 rfl ?_
        exact hQ _ _ _ _ _ (ok_code ok) d_Lw_485 (by decide) h
    replace h := h.2
    rcases Decidable.em ((bnd (scF xs x3) 63) = 8) with c8 | c8
    · replace h := h.1 c8
      refine r_tblIn ok 8 486 d_Lw_33 hx c8 (by decide) rfl (by decide) ?_
      refine r_aload_n ok 1 d_Lw_486 rfl rfl ?_
      refine r_aload_n ok 0 d_Lw_487 rfl rfl ?_
      refine r_iload_n ok 3 d_Lw_488 rfl rfl ?_
      refine r_iconst ok 1 d_Lw_489 rfl ?_
      refine r_iadd ok d_Lw_490 ?_
      refine r_sald ok hsc hL d_Lw_491 h.1 ?_
      replace h := h.2
      refine r_aload_n ok 0 d_Lw_492 rfl rfl ?_
      refine r_iload_n ok 3 d_Lw_493 rfl rfl ?_
      refine r_iconst ok 2 d_Lw_494 rfl ?_
      refine r_iadd ok d_Lw_495 ?_
      refine r_sald ok hsc hL d_Lw_496 h.1 ?_
      replace h := h.2
      refine r_callVi (As := [vI (scF xs (x3 + 1)), vI (scF xs (x3 + 2))]) (rest := []) ok 0 rfl rfl rfl wl_Lw_51 wi_y_LS_person ws_y_LS_person wn_LS wc_y_LS_person (by decide) (by decide) hh_LS_person (Nat.le_of_ble_eq_true rfl) rfl d_Lw_497 (L_LS_person F.1 F.2.1 F.2.2.1 hD h) (fun r34 s33 h => ?_)
      refine r_aload_n ok 2 d_Lw_500 rfl rfl ?_
      refine r_aload_n ok 0 d_Lw_501 rfl rfl ?_
      refine r_iload_n ok 3 d_Lw_502 rfl rfl ?_
      refine r_iconst ok 1 d_Lw_503 rfl ?_
      refine r_iadd ok d_Lw_504 ?_
      refine r_sald ok hsc hL d_Lw_505 h.1 ?_
      replace h := h.2
      refine r_aload_n ok 0 d_Lw_506 rfl rfl ?_
      refine r_iload_n ok 3 d_Lw_507 rfl rfl ?_
      refine r_iconst ok 2 d_Lw_508 rfl ?_
      refine r_iadd ok d_Lw_509 ?_
      refine r_sald ok hsc hL d_Lw_510 h.1 ?_
      replace h := h.2
      refine r_callVi (As := [vI (scF xs (x3 + 1)), vI (scF xs (x3 + 2))]) (rest := [vI r34]) ok 10 rfl rfl rfl wl_Lw_54 wi_y_Md_person ws_y_Md_person wn_Md wc_y_Md_person (by decide) (by decide) hh_Md_person (Nat.le_of_ble_eq_true rfl) rfl d_Lw_511 (L_Md_person F.1 F.2.1 F.2.2.1 hD h) (fun r36 s35 h => ?_)
      refine r_icmp_eq ok 1462 d_Lw_514 (by decide) h.1 h.2.1 (fun c => ?_) (fun c => ?_)
      · replace h := h.2.2.1 c
        refine r_iinc ok 3 (x3 + 7) [(3, vI (x3 + 7)), (0, .ref b), (1, .ref (F.2.1.1 0)), (2, .ref (F.2.1.1 10))] d_Lw_1462 rfl rfl hm (by decide) rfl ?_
        refine r_goto ok 18 d_Lw_1465 (by decide) ?_
        exact r_sub [1, 2, 3, 0] rfl h
      · replace h := h.2.2.2 c
        refine r_iconst ok 0 d_Lw_517 rfl ?_
        exact hQ _ _ _ _ _ (ok_code ok) d_Lw_518 (by decide) h
    replace h := h.2
    rcases Decidable.em ((bnd (scF xs x3) 63) = 9) with c9 | c9
    · replace h := h.1 c9
      refine r_tblIn ok 9 519 d_Lw_33 hx c9 (by decide) rfl (by decide) ?_
      refine r_aload_n ok 1 d_Lw_519 rfl rfl ?_
      refine r_aload_n ok 0 d_Lw_520 rfl rfl ?_
      refine r_iload_n ok 3 d_Lw_521 rfl rfl ?_
      refine r_iconst ok 1 d_Lw_522 rfl ?_
      refine r_iadd ok d_Lw_523 ?_
      refine r_sald ok hsc hL d_Lw_524 h.1 ?_
      replace h := h.2
      refine r_aload_n ok 0 d_Lw_525 rfl rfl ?_
      refine r_iload_n ok 3 d_Lw_526 rfl rfl ?_
      refine r_iconst ok 2 d_Lw_527 rfl ?_
      refine r_iadd ok d_Lw_528 ?_
      refine r_sald ok hsc hL d_Lw_529 h.1 ?_
      replace h := h.2
      refine r_aload_n ok 0 d_Lw_530 rfl rfl ?_
      refine r_iload_n ok 3 d_Lw_531 rfl rfl ?_
      refine r_iconst ok 3 d_Lw_532 rfl ?_
      refine r_iadd ok d_Lw_533 ?_
      refine r_sald ok hsc hL d_Lw_534 h.1 ?_
      replace h := h.2
      refine r_callVi (As := [vI (scF xs (x3 + 1)), vI (scF xs (x3 + 2)), vI (scF xs (x3 + 3))]) (rest := []) ok 0 rfl rfl rfl wl_Lw_55 wi_y_LS_tie ws_y_LS_tie wn_LS wc_y_LS_tie (by decide) (by decide) hh_LS_tie (Nat.le_of_ble_eq_true rfl) rfl d_Lw_535 (L_LS_tie F.1 F.2.1 F.2.2.1 hD h) (fun r38 s37 h => ?_)
      refine r_aload_n ok 2 d_Lw_538 rfl rfl ?_
      refine r_aload_n ok 0 d_Lw_539 rfl rfl ?_
      refine r_iload_n ok 3 d_Lw_540 rfl rfl ?_
      refine r_iconst ok 1 d_Lw_541 rfl ?_
      refine r_iadd ok d_Lw_542 ?_
      refine r_sald ok hsc hL d_Lw_543 h.1 ?_
      replace h := h.2
      refine r_aload_n ok 0 d_Lw_544 rfl rfl ?_
      refine r_iload_n ok 3 d_Lw_545 rfl rfl ?_
      refine r_iconst ok 2 d_Lw_546 rfl ?_
      refine r_iadd ok d_Lw_547 ?_
      refine r_sald ok hsc hL d_Lw_548 h.1 ?_
      replace h := h.2
      refine r_aload_n ok 0 d_Lw_549 rfl rfl ?_
      refine r_iload_n ok 3 d_Lw_550 rfl rfl ?_
      refine r_iconst ok 3 d_Lw_551 rfl ?_
      refine r_iadd ok d_Lw_552 ?_
      refine r_sald ok hsc hL d_Lw_553 h.1 ?_
      replace h := h.2
      refine r_callVi (As := [vI (scF xs (x3 + 1)), vI (scF xs (x3 + 2)), vI (scF xs (x3 + 3))]) (rest := [vI r38]) ok 10 rfl rfl rfl wl_Lw_58 wi_y_Md_tie ws_y_Md_tie wn_Md wc_y_Md_tie (by decide) (by decide) hh_Md_tie (Nat.le_of_ble_eq_true rfl) rfl d_Lw_554 (L_Md_tie F.1 F.2.1 F.2.2.1 hD h) (fun r40 s39 h => ?_)
      refine r_icmp_eq ok 1462 d_Lw_557 (by decide) h.1 h.2.1 (fun c => ?_) (fun c => ?_)
      · replace h := h.2.2.1 c
        refine r_iinc ok 3 (x3 + 7) [(3, vI (x3 + 7)), (0, .ref b), (1, .ref (F.2.1.1 0)), (2, .ref (F.2.1.1 10))] d_Lw_1462 rfl rfl hm (by decide) rfl ?_
        refine r_goto ok 18 d_Lw_1465 (by decide) ?_
        exact r_sub [1, 2, 3, 0] rfl h
      · replace h := h.2.2.2 c
        refine r_iconst ok 0 d_Lw_560 rfl ?_
        exact hQ _ _ _ _ _ (ok_code ok) d_Lw_561 (by decide) h
    replace h := h.2
    rcases Decidable.em ((bnd (scF xs x3) 63) = 10) with c10 | c10
    · replace h := h.1 c10
      refine r_tblIn ok 10 562 d_Lw_33 hx c10 (by decide) rfl (by decide) ?_
      refine r_aload_n ok 1 d_Lw_562 rfl rfl ?_
      refine r_aload_n ok 0 d_Lw_563 rfl rfl ?_
      refine r_iload_n ok 3 d_Lw_564 rfl rfl ?_
      refine r_iconst ok 1 d_Lw_565 rfl ?_
      refine r_iadd ok d_Lw_566 ?_
      refine r_sald ok hsc hL d_Lw_567 h.1 ?_
      replace h := h.2
      refine r_aload_n ok 0 d_Lw_568 rfl rfl ?_
      refine r_iload_n ok 3 d_Lw_569 rfl rfl ?_
      refine r_iconst ok 2 d_Lw_570 rfl ?_
      refine r_iadd ok d_Lw_571 ?_
      refine r_sald ok hsc hL d_Lw_572 h.1 ?_
      replace h := h.2
      refine r_aload_n ok 0 d_Lw_573 rfl rfl ?_
      refine r_iload_n ok 3 d_Lw_574 rfl rfl ?_
      refine r_iconst ok 3 d_Lw_575 rfl ?_
      refine r_iadd ok d_Lw_576 ?_
      refine r_sald ok hsc hL d_Lw_577 h.1 ?_
      replace h := h.2
      refine r_aload_n ok 0 d_Lw_578 rfl rfl ?_
      refine r_iload_n ok 3 d_Lw_579 rfl rfl ?_
      refine r_iconst ok 4 d_Lw_580 rfl ?_
      refine r_iadd ok d_Lw_581 ?_
      refine r_sald ok hsc hL d_Lw_582 h.1 ?_
      replace h := h.2
      refine r_aload_n ok 0 d_Lw_583 rfl rfl ?_
      refine r_iload_n ok 3 d_Lw_584 rfl rfl ?_
      refine r_iconst ok 5 d_Lw_585 rfl ?_
      refine r_iadd ok d_Lw_586 ?_
      refine r_sald ok hsc hL d_Lw_587 h.1 ?_
      replace h := h.2
      refine r_aload_n ok 0 d_Lw_588 rfl rfl ?_
      refine r_iload_n ok 3 d_Lw_589 rfl rfl ?_
      refine r_bipush ok 6 d_Lw_590 (by decide) ?_
      refine r_iadd ok d_Lw_592 ?_
      refine r_sald ok hsc hL d_Lw_593 h.1 ?_
      replace h := h.2
      refine r_callVi (As := [vI (scF xs (x3 + 1)), vI (scF xs (x3 + 2)), vI (scF xs (x3 + 3)), vI (scF xs (x3 + 4)), vI (scF xs (x3 + 5)), vI (scF xs (x3 + 6))]) (rest := []) ok 0 rfl rfl rfl wl_Lw_59 wi_y_LS_word ws_y_LS_word wn_LS wc_y_LS_word (by decide) (by decide) hh_LS_word (Nat.le_of_ble_eq_true rfl) rfl d_Lw_594 (L_LS_word F.1 F.2.1 F.2.2.1 hD h) (fun r42 s41 h => ?_)
      refine r_aload_n ok 2 d_Lw_597 rfl rfl ?_
      refine r_aload_n ok 0 d_Lw_598 rfl rfl ?_
      refine r_iload_n ok 3 d_Lw_599 rfl rfl ?_
      refine r_iconst ok 1 d_Lw_600 rfl ?_
      refine r_iadd ok d_Lw_601 ?_
      refine r_sald ok hsc hL d_Lw_602 h.1 ?_
      replace h := h.2
      refine r_aload_n ok 0 d_Lw_603 rfl rfl ?_
      refine r_iload_n ok 3 d_Lw_604 rfl rfl ?_
      refine r_iconst ok 2 d_Lw_605 rfl ?_
      refine r_iadd ok d_Lw_606 ?_
      refine r_sald ok hsc hL d_Lw_607 h.1 ?_
      replace h := h.2
      refine r_aload_n ok 0 d_Lw_608 rfl rfl ?_
      refine r_iload_n ok 3 d_Lw_609 rfl rfl ?_
      refine r_iconst ok 3 d_Lw_610 rfl ?_
      refine r_iadd ok d_Lw_611 ?_
      refine r_sald ok hsc hL d_Lw_612 h.1 ?_
      replace h := h.2
      refine r_aload_n ok 0 d_Lw_613 rfl rfl ?_
      refine r_iload_n ok 3 d_Lw_614 rfl rfl ?_
      refine r_iconst ok 4 d_Lw_615 rfl ?_
      refine r_iadd ok d_Lw_616 ?_
      refine r_sald ok hsc hL d_Lw_617 h.1 ?_
      replace h := h.2
      refine r_aload_n ok 0 d_Lw_618 rfl rfl ?_
      refine r_iload_n ok 3 d_Lw_619 rfl rfl ?_
      refine r_iconst ok 5 d_Lw_620 rfl ?_
      refine r_iadd ok d_Lw_621 ?_
      refine r_sald ok hsc hL d_Lw_622 h.1 ?_
      replace h := h.2
      refine r_aload_n ok 0 d_Lw_623 rfl rfl ?_
      refine r_iload_n ok 3 d_Lw_624 rfl rfl ?_
      refine r_bipush ok 6 d_Lw_625 (by decide) ?_
      refine r_iadd ok d_Lw_627 ?_
      refine r_sald ok hsc hL d_Lw_628 h.1 ?_
      replace h := h.2
      refine r_callVi (As := [vI (scF xs (x3 + 1)), vI (scF xs (x3 + 2)), vI (scF xs (x3 + 3)), vI (scF xs (x3 + 4)), vI (scF xs (x3 + 5)), vI (scF xs (x3 + 6))]) (rest := [vI r42]) ok 10 rfl rfl rfl wl_Lw_63 wi_y_Md_word ws_y_Md_word wn_Md wc_y_Md_word (by decide) (by decide) hh_Md_word (Nat.le_of_ble_eq_true rfl) rfl d_Lw_629 (L_Md_word F.1 F.2.1 F.2.2.1 hD h) (fun r44 s43 h => ?_)
      refine r_icmp_eq ok 1462 d_Lw_632 (by decide) h.1 h.2.1 (fun c => ?_) (fun c => ?_)
      · replace h := h.2.2.1 c
        refine r_iinc ok 3 (x3 + 7) [(3, vI (x3 + 7)), (0, .ref b), (1, .ref (F.2.1.1 0)), (2, .ref (F.2.1.1 10))] d_Lw_1462 rfl rfl hm (by decide) rfl ?_
        refine r_goto ok 18 d_Lw_1465 (by decide) ?_
        exact r_sub [1, 2, 3, 0] rfl h
      · replace h := h.2.2.2 c
        refine r_iconst ok 0 d_Lw_635 rfl ?_
        exact hQ _ _ _ _ _ (ok_code ok) d_Lw_636 (by decide) h
    replace h := h.2
    rcases Decidable.em ((bnd (scF xs x3) 63) = 11) with c11 | c11
    · replace h := h.1 c11
      refine r_tblIn ok 11 637 d_Lw_33 hx c11 (by decide) rfl (by decide) ?_
      refine r_aload_n ok 1 d_Lw_637 rfl rfl ?_
      refine r_aload_n ok 0 d_Lw_638 rfl rfl ?_
      refine r_iload_n ok 3 d_Lw_639 rfl rfl ?_
      refine r_iconst ok 1 d_Lw_640 rfl ?_
      refine r_iadd ok d_Lw_641 ?_
      refine r_sald ok hsc hL d_Lw_642 h.1 ?_
      replace h := h.2
      refine r_callVi (As := [vI (scF xs (x3 + 1))]) (rest := []) ok 0 rfl rfl rfl wl_Lw_64 wi_y_LS_withdraw ws_y_LS_withdraw wn_LS wc_y_LS_withdraw (by decide) (by decide) hh_LS_withdraw (Nat.le_of_ble_eq_true rfl) rfl d_Lw_643 (L_LS_withdraw F.1 F.2.1 F.2.2.1 hD h) (fun r46 s45 h => ?_)
      refine r_aload_n ok 2 d_Lw_646 rfl rfl ?_
      refine r_aload_n ok 0 d_Lw_647 rfl rfl ?_
      refine r_iload_n ok 3 d_Lw_648 rfl rfl ?_
      refine r_iconst ok 1 d_Lw_649 rfl ?_
      refine r_iadd ok d_Lw_650 ?_
      refine r_sald ok hsc hL d_Lw_651 h.1 ?_
      replace h := h.2
      refine r_callVi (As := [vI (scF xs (x3 + 1))]) (rest := [vI r46]) ok 10 rfl rfl rfl wl_Lw_68 wi_y_Md_withdraw ws_y_Md_withdraw wn_Md wc_y_Md_withdraw (by decide) (by decide) hh_Md_withdraw (Nat.le_of_ble_eq_true rfl) rfl d_Lw_652 (L_Md_withdraw F.1 F.2.1 F.2.2.1 hD h) (fun r48 s47 h => ?_)
      refine r_icmp_eq ok 1462 d_Lw_655 (by decide) h.1 h.2.1 (fun c => ?_) (fun c => ?_)
      · replace h := h.2.2.1 c
        refine r_iinc ok 3 (x3 + 7) [(3, vI (x3 + 7)), (0, .ref b), (1, .ref (F.2.1.1 0)), (2, .ref (F.2.1.1 10))] d_Lw_1462 rfl rfl hm (by decide) rfl ?_
        refine r_goto ok 18 d_Lw_1465 (by decide) ?_
        exact r_sub [1, 2, 3, 0] rfl h
      · replace h := h.2.2.2 c
        refine r_iconst ok 0 d_Lw_658 rfl ?_
        exact hQ _ _ _ _ _ (ok_code ok) d_Lw_659 (by decide) h
    replace h := h.2
    rcases Decidable.em ((bnd (scF xs x3) 63) = 12) with c12 | c12
    · replace h := h.1 c12
      refine r_tblIn ok 12 660 d_Lw_33 hx c12 (by decide) rfl (by decide) ?_
      refine r_aload_n ok 1 d_Lw_660 rfl rfl ?_
      refine r_aload_n ok 0 d_Lw_661 rfl rfl ?_
      refine r_iload_n ok 3 d_Lw_662 rfl rfl ?_
      refine r_iconst ok 1 d_Lw_663 rfl ?_
      refine r_iadd ok d_Lw_664 ?_
      refine r_sald ok hsc hL d_Lw_665 h.1 ?_
      replace h := h.2
      refine r_aload_n ok 0 d_Lw_666 rfl rfl ?_
      refine r_iload_n ok 3 d_Lw_667 rfl rfl ?_
      refine r_iconst ok 2 d_Lw_668 rfl ?_
      refine r_iadd ok d_Lw_669 ?_
      refine r_sald ok hsc hL d_Lw_670 h.1 ?_
      replace h := h.2
      refine r_aload_n ok 0 d_Lw_671 rfl rfl ?_
      refine r_iload_n ok 3 d_Lw_672 rfl rfl ?_
      refine r_iconst ok 3 d_Lw_673 rfl ?_
      refine r_iadd ok d_Lw_674 ?_
      refine r_sald ok hsc hL d_Lw_675 h.1 ?_
      replace h := h.2
      refine r_callVi (As := [vI (scF xs (x3 + 1)), vI (scF xs (x3 + 2)), vI (scF xs (x3 + 3))]) (rest := []) ok 0 rfl rfl rfl wl_Lw_69 wi_y_LS_about ws_y_LS_about wn_LS wc_y_LS_about (by decide) (by decide) hh_LS_about (Nat.le_of_ble_eq_true rfl) rfl d_Lw_676 (L_LS_about F.1 F.2.1 F.2.2.1 hD h) (fun r50 s49 h => ?_)
      refine r_aload_n ok 2 d_Lw_679 rfl rfl ?_
      refine r_aload_n ok 0 d_Lw_680 rfl rfl ?_
      refine r_iload_n ok 3 d_Lw_681 rfl rfl ?_
      refine r_iconst ok 1 d_Lw_682 rfl ?_
      refine r_iadd ok d_Lw_683 ?_
      refine r_sald ok hsc hL d_Lw_684 h.1 ?_
      replace h := h.2
      refine r_aload_n ok 0 d_Lw_685 rfl rfl ?_
      refine r_iload_n ok 3 d_Lw_686 rfl rfl ?_
      refine r_iconst ok 2 d_Lw_687 rfl ?_
      refine r_iadd ok d_Lw_688 ?_
      refine r_sald ok hsc hL d_Lw_689 h.1 ?_
      replace h := h.2
      refine r_aload_n ok 0 d_Lw_690 rfl rfl ?_
      refine r_iload_n ok 3 d_Lw_691 rfl rfl ?_
      refine r_iconst ok 3 d_Lw_692 rfl ?_
      refine r_iadd ok d_Lw_693 ?_
      refine r_sald ok hsc hL d_Lw_694 h.1 ?_
      replace h := h.2
      refine r_callVi (As := [vI (scF xs (x3 + 1)), vI (scF xs (x3 + 2)), vI (scF xs (x3 + 3))]) (rest := [vI r50]) ok 10 rfl rfl rfl wl_Lw_72 wi_y_Md_about ws_y_Md_about wn_Md wc_y_Md_about (by decide) (by decide) hh_Md_about (Nat.le_of_ble_eq_true rfl) rfl d_Lw_695 (L_Md_about F.1 F.2.1 F.2.2.1 hD h) (fun r52 s51 h => ?_)
      refine r_icmp_eq ok 1462 d_Lw_698 (by decide) h.1 h.2.1 (fun c => ?_) (fun c => ?_)
      · replace h := h.2.2.1 c
        refine r_iinc ok 3 (x3 + 7) [(3, vI (x3 + 7)), (0, .ref b), (1, .ref (F.2.1.1 0)), (2, .ref (F.2.1.1 10))] d_Lw_1462 rfl rfl hm (by decide) rfl ?_
        refine r_goto ok 18 d_Lw_1465 (by decide) ?_
        exact r_sub [1, 2, 3, 0] rfl h
      · replace h := h.2.2.2 c
        refine r_iconst ok 0 d_Lw_701 rfl ?_
        exact hQ _ _ _ _ _ (ok_code ok) d_Lw_702 (by decide) h
    replace h := h.2
    rcases Decidable.em ((bnd (scF xs x3) 63) = 13) with c13 | c13
    · replace h := h.1 c13
      refine r_tblIn ok 13 703 d_Lw_33 hx c13 (by decide) rfl (by decide) ?_
      refine r_aload_n ok 1 d_Lw_703 rfl rfl ?_
      refine r_aload_n ok 0 d_Lw_704 rfl rfl ?_
      refine r_iload_n ok 3 d_Lw_705 rfl rfl ?_
      refine r_iconst ok 1 d_Lw_706 rfl ?_
      refine r_iadd ok d_Lw_707 ?_
      refine r_sald ok hsc hL d_Lw_708 h.1 ?_
      replace h := h.2
      refine r_aload_n ok 0 d_Lw_709 rfl rfl ?_
      refine r_iload_n ok 3 d_Lw_710 rfl rfl ?_
      refine r_iconst ok 2 d_Lw_711 rfl ?_
      refine r_iadd ok d_Lw_712 ?_
      refine r_sald ok hsc hL d_Lw_713 h.1 ?_
      replace h := h.2
      refine r_aload_n ok 0 d_Lw_714 rfl rfl ?_
      refine r_iload_n ok 3 d_Lw_715 rfl rfl ?_
      refine r_iconst ok 3 d_Lw_716 rfl ?_
      refine r_iadd ok d_Lw_717 ?_
      refine r_sald ok hsc hL d_Lw_718 h.1 ?_
      replace h := h.2
      refine r_callVi (As := [vI (scF xs (x3 + 1)), vI (scF xs (x3 + 2)), vI (scF xs (x3 + 3))]) (rest := []) ok 0 rfl rfl rfl wl_Lw_73 wi_y_LS_root ws_y_LS_root wn_LS wc_y_LS_root (by decide) (by decide) hh_LS_root (Nat.le_of_ble_eq_true rfl) rfl d_Lw_719 (L_LS_root F.1 F.2.1 F.2.2.1 hD h) (fun r54 s53 h => ?_)
      refine r_aload_n ok 2 d_Lw_722 rfl rfl ?_
      refine r_aload_n ok 0 d_Lw_723 rfl rfl ?_
      refine r_iload_n ok 3 d_Lw_724 rfl rfl ?_
      refine r_iconst ok 1 d_Lw_725 rfl ?_
      refine r_iadd ok d_Lw_726 ?_
      refine r_sald ok hsc hL d_Lw_727 h.1 ?_
      replace h := h.2
      refine r_aload_n ok 0 d_Lw_728 rfl rfl ?_
      refine r_iload_n ok 3 d_Lw_729 rfl rfl ?_
      refine r_iconst ok 2 d_Lw_730 rfl ?_
      refine r_iadd ok d_Lw_731 ?_
      refine r_sald ok hsc hL d_Lw_732 h.1 ?_
      replace h := h.2
      refine r_aload_n ok 0 d_Lw_733 rfl rfl ?_
      refine r_iload_n ok 3 d_Lw_734 rfl rfl ?_
      refine r_iconst ok 3 d_Lw_735 rfl ?_
      refine r_iadd ok d_Lw_736 ?_
      refine r_sald ok hsc hL d_Lw_737 h.1 ?_
      replace h := h.2
      refine r_callVi (As := [vI (scF xs (x3 + 1)), vI (scF xs (x3 + 2)), vI (scF xs (x3 + 3))]) (rest := [vI r54]) ok 10 rfl rfl rfl wl_Lw_76 wi_y_Md_root ws_y_Md_root wn_Md wc_y_Md_root (by decide) (by decide) hh_Md_root (Nat.le_of_ble_eq_true rfl) rfl d_Lw_738 (L_Md_root F.1 F.2.1 F.2.2.1 hD h) (fun r56 s55 h => ?_)
      refine r_icmp_eq ok 1462 d_Lw_741 (by decide) h.1 h.2.1 (fun c => ?_) (fun c => ?_)
      · replace h := h.2.2.1 c
        refine r_iinc ok 3 (x3 + 7) [(3, vI (x3 + 7)), (0, .ref b), (1, .ref (F.2.1.1 0)), (2, .ref (F.2.1.1 10))] d_Lw_1462 rfl rfl hm (by decide) rfl ?_
        refine r_goto ok 18 d_Lw_1465 (by decide) ?_
        exact r_sub [1, 2, 3, 0] rfl h
      · replace h := h.2.2.2 c
        refine r_iconst ok 0 d_Lw_744 rfl ?_
        exact hQ _ _ _ _ _ (ok_code ok) d_Lw_745 (by decide) h
    replace h := h.2
    rcases Decidable.em ((bnd (scF xs x3) 63) = 14) with c14 | c14
    · replace h := h.1 c14
      refine r_tblIn ok 14 746 d_Lw_33 hx c14 (by decide) rfl (by decide) ?_
      refine r_aload_n ok 1 d_Lw_746 rfl rfl ?_
      refine r_aload_n ok 0 d_Lw_747 rfl rfl ?_
      refine r_iload_n ok 3 d_Lw_748 rfl rfl ?_
      refine r_iconst ok 1 d_Lw_749 rfl ?_
      refine r_iadd ok d_Lw_750 ?_
      refine r_sald ok hsc hL d_Lw_751 h.1 ?_
      replace h := h.2
      refine r_aload_n ok 0 d_Lw_752 rfl rfl ?_
      refine r_iload_n ok 3 d_Lw_753 rfl rfl ?_
      refine r_iconst ok 2 d_Lw_754 rfl ?_
      refine r_iadd ok d_Lw_755 ?_
      refine r_sald ok hsc hL d_Lw_756 h.1 ?_
      replace h := h.2
      refine r_callVi (As := [vI (scF xs (x3 + 1)), vI (scF xs (x3 + 2))]) (rest := []) ok 0 rfl rfl rfl wl_Lw_77 wi_y_LS_eyes ws_y_LS_eyes wn_LS wc_y_LS_eyes (by decide) (by decide) hh_LS_eyes (Nat.le_of_ble_eq_true rfl) rfl d_Lw_757 (L_LS_eyes F.1 F.2.1 F.2.2.1 hD h) (fun r58 s57 h => ?_)
      refine r_aload_n ok 2 d_Lw_760 rfl rfl ?_
      refine r_aload_n ok 0 d_Lw_761 rfl rfl ?_
      refine r_iload_n ok 3 d_Lw_762 rfl rfl ?_
      refine r_iconst ok 1 d_Lw_763 rfl ?_
      refine r_iadd ok d_Lw_764 ?_
      refine r_sald ok hsc hL d_Lw_765 h.1 ?_
      replace h := h.2
      refine r_aload_n ok 0 d_Lw_766 rfl rfl ?_
      refine r_iload_n ok 3 d_Lw_767 rfl rfl ?_
      refine r_iconst ok 2 d_Lw_768 rfl ?_
      refine r_iadd ok d_Lw_769 ?_
      refine r_sald ok hsc hL d_Lw_770 h.1 ?_
      replace h := h.2
      refine r_callVi (As := [vI (scF xs (x3 + 1)), vI (scF xs (x3 + 2))]) (rest := [vI r58]) ok 10 rfl rfl rfl wl_Lw_80 wi_y_Md_eyes ws_y_Md_eyes wn_Md wc_y_Md_eyes (by decide) (by decide) hh_Md_eyes (Nat.le_of_ble_eq_true rfl) rfl d_Lw_771 (L_Md_eyes F.1 F.2.1 F.2.2.1 hD h) (fun r60 s59 h => ?_)
      refine r_icmp_eq ok 1462 d_Lw_774 (by decide) h.1 h.2.1 (fun c => ?_) (fun c => ?_)
      · replace h := h.2.2.1 c
        refine r_iinc ok 3 (x3 + 7) [(3, vI (x3 + 7)), (0, .ref b), (1, .ref (F.2.1.1 0)), (2, .ref (F.2.1.1 10))] d_Lw_1462 rfl rfl hm (by decide) rfl ?_
        refine r_goto ok 18 d_Lw_1465 (by decide) ?_
        exact r_sub [1, 2, 3, 0] rfl h
      · replace h := h.2.2.2 c
        refine r_iconst ok 0 d_Lw_777 rfl ?_
        exact hQ _ _ _ _ _ (ok_code ok) d_Lw_778 (by decide) h
    replace h := h.2
    rcases Decidable.em ((bnd (scF xs x3) 63) = 15) with c15 | c15
    · replace h := h.1 c15
      refine r_tblIn ok 15 779 d_Lw_33 hx c15 (by decide) rfl (by decide) ?_
      refine r_aload_n ok 1 d_Lw_779 rfl rfl ?_
      refine r_aload_n ok 0 d_Lw_780 rfl rfl ?_
      refine r_iload_n ok 3 d_Lw_781 rfl rfl ?_
      refine r_iconst ok 1 d_Lw_782 rfl ?_
      refine r_iadd ok d_Lw_783 ?_
      refine r_sald ok hsc hL d_Lw_784 h.1 ?_
      replace h := h.2
      refine r_aload_n ok 0 d_Lw_785 rfl rfl ?_
      refine r_iload_n ok 3 d_Lw_786 rfl rfl ?_
      refine r_iconst ok 2 d_Lw_787 rfl ?_
      refine r_iadd ok d_Lw_788 ?_
      refine r_sald ok hsc hL d_Lw_789 h.1 ?_
      replace h := h.2
      refine r_callVi (As := [vI (scF xs (x3 + 1)), vI (scF xs (x3 + 2))]) (rest := []) ok 0 rfl rfl rfl wl_Lw_81 wi_y_LS_can ws_y_LS_can wn_LS wc_y_LS_can (by decide) (by decide) hh_LS_can (Nat.le_of_ble_eq_true rfl) rfl d_Lw_790 (L_LS_can F.1 F.2.1 F.2.2.1 hD h) (fun r62 s61 h => ?_)
      refine r_aload_n ok 2 d_Lw_793 rfl rfl ?_
      refine r_aload_n ok 0 d_Lw_794 rfl rfl ?_
      refine r_iload_n ok 3 d_Lw_795 rfl rfl ?_
      refine r_iconst ok 1 d_Lw_796 rfl ?_
      refine r_iadd ok d_Lw_797 ?_
      refine r_sald ok hsc hL d_Lw_798 h.1 ?_
      replace h := h.2
      refine r_aload_n ok 0 d_Lw_799 rfl rfl ?_
      refine r_iload_n ok 3 d_Lw_800 rfl rfl ?_
      refine r_iconst ok 2 d_Lw_801 rfl ?_
      refine r_iadd ok d_Lw_802 ?_
      refine r_sald ok hsc hL d_Lw_803 h.1 ?_
      replace h := h.2
      refine r_callVi (As := [vI (scF xs (x3 + 1)), vI (scF xs (x3 + 2))]) (rest := [vI r62]) ok 10 rfl rfl rfl wl_Lw_84 wi_y_Md_can ws_y_Md_can wn_Md wc_y_Md_can (by decide) (by decide) hh_Md_can (Nat.le_of_ble_eq_true rfl) rfl d_Lw_804 (L_Md_can F.1 F.2.1 F.2.2.1 hD h) (fun r64 s63 h => ?_)
      refine r_icmp_eq ok 1462 d_Lw_807 (by decide) h.1 h.2.1 (fun c => ?_) (fun c => ?_)
      · replace h := h.2.2.1 c
        refine r_iinc ok 3 (x3 + 7) [(3, vI (x3 + 7)), (0, .ref b), (1, .ref (F.2.1.1 0)), (2, .ref (F.2.1.1 10))] d_Lw_1462 rfl rfl hm (by decide) rfl ?_
        refine r_goto ok 18 d_Lw_1465 (by decide) ?_
        exact r_sub [1, 2, 3, 0] rfl h
      · replace h := h.2.2.2 c
        refine r_iconst ok 0 d_Lw_810 rfl ?_
        exact hQ _ _ _ _ _ (ok_code ok) d_Lw_811 (by decide) h
    replace h := h.2
    rcases Decidable.em ((bnd (scF xs x3) 63) = 16) with c16 | c16
    · replace h := h.1 c16
      refine r_tblIn ok 16 812 d_Lw_33 hx c16 (by decide) rfl (by decide) ?_
      refine r_aload_n ok 1 d_Lw_812 rfl rfl ?_
      refine r_aload_n ok 0 d_Lw_813 rfl rfl ?_
      refine r_iload_n ok 3 d_Lw_814 rfl rfl ?_
      refine r_iconst ok 1 d_Lw_815 rfl ?_
      refine r_iadd ok d_Lw_816 ?_
      refine r_sald ok hsc hL d_Lw_817 h.1 ?_
      replace h := h.2
      refine r_aload_n ok 0 d_Lw_818 rfl rfl ?_
      refine r_iload_n ok 3 d_Lw_819 rfl rfl ?_
      refine r_iconst ok 2 d_Lw_820 rfl ?_
      refine r_iadd ok d_Lw_821 ?_
      refine r_sald ok hsc hL d_Lw_822 h.1 ?_
      replace h := h.2
      refine r_aload_n ok 0 d_Lw_823 rfl rfl ?_
      refine r_iload_n ok 3 d_Lw_824 rfl rfl ?_
      refine r_iconst ok 3 d_Lw_825 rfl ?_
      refine r_iadd ok d_Lw_826 ?_
      refine r_sald ok hsc hL d_Lw_827 h.1 ?_
      replace h := h.2
      refine r_callVi (As := [vI (scF xs (x3 + 1)), vI (scF xs (x3 + 2)), vI (scF xs (x3 + 3))]) (rest := []) ok 0 rfl rfl rfl wl_Lw_85 wi_y_LS_quarrel ws_y_LS_quarrel wn_LS wc_y_LS_quarrel (by decide) (by decide) hh_LS_quarrel (Nat.le_of_ble_eq_true rfl) rfl d_Lw_828 (L_LS_quarrel F.1 F.2.1 F.2.2.1 hD h) (fun r66 s65 h => ?_)
      refine r_aload_n ok 2 d_Lw_831 rfl rfl ?_
      refine r_aload_n ok 0 d_Lw_832 rfl rfl ?_
      refine r_iload_n ok 3 d_Lw_833 rfl rfl ?_
      refine r_iconst ok 1 d_Lw_834 rfl ?_
      refine r_iadd ok d_Lw_835 ?_
      refine r_sald ok hsc hL d_Lw_836 h.1 ?_
      replace h := h.2
      refine r_aload_n ok 0 d_Lw_837 rfl rfl ?_
      refine r_iload_n ok 3 d_Lw_838 rfl rfl ?_
      refine r_iconst ok 2 d_Lw_839 rfl ?_
      refine r_iadd ok d_Lw_840 ?_
      refine r_sald ok hsc hL d_Lw_841 h.1 ?_
      replace h := h.2
      refine r_aload_n ok 0 d_Lw_842 rfl rfl ?_
      refine r_iload_n ok 3 d_Lw_843 rfl rfl ?_
      refine r_iconst ok 3 d_Lw_844 rfl ?_
      refine r_iadd ok d_Lw_845 ?_
      refine r_sald ok hsc hL d_Lw_846 h.1 ?_
      replace h := h.2
      refine r_callVi (As := [vI (scF xs (x3 + 1)), vI (scF xs (x3 + 2)), vI (scF xs (x3 + 3))]) (rest := [vI r66]) ok 10 rfl rfl rfl wl_Lw_88 wi_y_Md_quarrel ws_y_Md_quarrel wn_Md wc_y_Md_quarrel (by decide) (by decide) hh_Md_quarrel (Nat.le_of_ble_eq_true rfl) rfl d_Lw_847 (L_Md_quarrel F.1 F.2.1 F.2.2.1 hD h) (fun r68 s67 h => ?_)
      refine r_icmp_eq ok 1462 d_Lw_850 (by decide) h.1 h.2.1 (fun c => ?_) (fun c => ?_)
      · replace h := h.2.2.1 c
        refine r_iinc ok 3 (x3 + 7) [(3, vI (x3 + 7)), (0, .ref b), (1, .ref (F.2.1.1 0)), (2, .ref (F.2.1.1 10))] d_Lw_1462 rfl rfl hm (by decide) rfl ?_
        refine r_goto ok 18 d_Lw_1465 (by decide) ?_
        exact r_sub [1, 2, 3, 0] rfl h
      · replace h := h.2.2.2 c
        refine r_iconst ok 0 d_Lw_853 rfl ?_
        exact hQ _ _ _ _ _ (ok_code ok) d_Lw_854 (by decide) h
    replace h := h.2
    rcases Decidable.em ((bnd (scF xs x3) 63) = 17) with c17 | c17
    · replace h := h.1 c17
      refine r_tblIn ok 17 855 d_Lw_33 hx c17 (by decide) rfl (by decide) ?_
      refine r_aload_n ok 1 d_Lw_855 rfl rfl ?_
      refine r_aload_n ok 0 d_Lw_856 rfl rfl ?_
      refine r_iload_n ok 3 d_Lw_857 rfl rfl ?_
      refine r_iconst ok 1 d_Lw_858 rfl ?_
      refine r_iadd ok d_Lw_859 ?_
      refine r_sald ok hsc hL d_Lw_860 h.1 ?_
      replace h := h.2
      refine r_aload_n ok 0 d_Lw_861 rfl rfl ?_
      refine r_iload_n ok 3 d_Lw_862 rfl rfl ?_
      refine r_iconst ok 2 d_Lw_863 rfl ?_
      refine r_iadd ok d_Lw_864 ?_
      refine r_sald ok hsc hL d_Lw_865 h.1 ?_
      replace h := h.2
      refine r_aload_n ok 0 d_Lw_866 rfl rfl ?_
      refine r_iload_n ok 3 d_Lw_867 rfl rfl ?_
      refine r_iconst ok 3 d_Lw_868 rfl ?_
      refine r_iadd ok d_Lw_869 ?_
      refine r_sald ok hsc hL d_Lw_870 h.1 ?_
      replace h := h.2
      refine r_aload_n ok 0 d_Lw_871 rfl rfl ?_
      refine r_iload_n ok 3 d_Lw_872 rfl rfl ?_
      refine r_iconst ok 4 d_Lw_873 rfl ?_
      refine r_iadd ok d_Lw_874 ?_
      refine r_sald ok hsc hL d_Lw_875 h.1 ?_
      replace h := h.2
      refine r_callVi (As := [vI (scF xs (x3 + 1)), vI (scF xs (x3 + 2)), vI (scF xs (x3 + 3)), vI (scF xs (x3 + 4))]) (rest := []) ok 0 rfl rfl rfl wl_Lw_89 wi_y_LS_could ws_y_LS_could wn_LS wc_y_LS_could (by decide) (by decide) hh_LS_could (Nat.le_of_ble_eq_true rfl) rfl d_Lw_876 (L_LS_could F.1 F.2.1 F.2.2.1 hD h) (fun r70 s69 h => ?_)
      refine r_aload_n ok 2 d_Lw_879 rfl rfl ?_
      refine r_aload_n ok 0 d_Lw_880 rfl rfl ?_
      refine r_iload_n ok 3 d_Lw_881 rfl rfl ?_
      refine r_iconst ok 1 d_Lw_882 rfl ?_
      refine r_iadd ok d_Lw_883 ?_
      refine r_sald ok hsc hL d_Lw_884 h.1 ?_
      replace h := h.2
      refine r_aload_n ok 0 d_Lw_885 rfl rfl ?_
      refine r_iload_n ok 3 d_Lw_886 rfl rfl ?_
      refine r_iconst ok 2 d_Lw_887 rfl ?_
      refine r_iadd ok d_Lw_888 ?_
      refine r_sald ok hsc hL d_Lw_889 h.1 ?_
      replace h := h.2
      refine r_aload_n ok 0 d_Lw_890 rfl rfl ?_
      refine r_iload_n ok 3 d_Lw_891 rfl rfl ?_
      refine r_iconst ok 3 d_Lw_892 rfl ?_
      refine r_iadd ok d_Lw_893 ?_
      refine r_sald ok hsc hL d_Lw_894 h.1 ?_
      replace h := h.2
      refine r_aload_n ok 0 d_Lw_895 rfl rfl ?_
      refine r_iload_n ok 3 d_Lw_896 rfl rfl ?_
      refine r_iconst ok 4 d_Lw_897 rfl ?_
      refine r_iadd ok d_Lw_898 ?_
      refine r_sald ok hsc hL d_Lw_899 h.1 ?_
      replace h := h.2
      refine r_callVi (As := [vI (scF xs (x3 + 1)), vI (scF xs (x3 + 2)), vI (scF xs (x3 + 3)), vI (scF xs (x3 + 4))]) (rest := [vI r70]) ok 10 rfl rfl rfl wl_Lw_93 wi_y_Md_could ws_y_Md_could wn_Md wc_y_Md_could (by decide) (by decide) hh_Md_could (Nat.le_of_ble_eq_true rfl) rfl d_Lw_900 (L_Md_could F.1 F.2.1 F.2.2.1 hD h) (fun r72 s71 h => ?_)
      refine r_icmp_eq ok 1462 d_Lw_903 (by decide) h.1 h.2.1 (fun c => ?_) (fun c => ?_)
      · replace h := h.2.2.1 c
        refine r_iinc ok 3 (x3 + 7) [(3, vI (x3 + 7)), (0, .ref b), (1, .ref (F.2.1.1 0)), (2, .ref (F.2.1.1 10))] d_Lw_1462 rfl rfl hm (by decide) rfl ?_
        refine r_goto ok 18 d_Lw_1465 (by decide) ?_
        exact r_sub [1, 2, 3, 0] rfl h
      · replace h := h.2.2.2 c
        refine r_iconst ok 0 d_Lw_906 rfl ?_
        exact hQ _ _ _ _ _ (ok_code ok) d_Lw_907 (by decide) h
    replace h := h.2
    rcases Decidable.em ((bnd (scF xs x3) 63) = 18) with c18 | c18
    · replace h := h.1 c18
      refine r_tblIn ok 18 908 d_Lw_33 hx c18 (by decide) rfl (by decide) ?_
      refine r_aload_n ok 1 d_Lw_908 rfl rfl ?_
      refine r_aload_n ok 0 d_Lw_909 rfl rfl ?_
      refine r_iload_n ok 3 d_Lw_910 rfl rfl ?_
      refine r_iconst ok 1 d_Lw_911 rfl ?_
      refine r_iadd ok d_Lw_912 ?_
      refine r_sald ok hsc hL d_Lw_913 h.1 ?_
      replace h := h.2
      refine r_aload_n ok 0 d_Lw_914 rfl rfl ?_
      refine r_iload_n ok 3 d_Lw_915 rfl rfl ?_
      refine r_iconst ok 2 d_Lw_916 rfl ?_
      refine r_iadd ok d_Lw_917 ?_
      refine r_sald ok hsc hL d_Lw_918 h.1 ?_
      replace h := h.2
      refine r_callVi (As := [vI (scF xs (x3 + 1)), vI (scF xs (x3 + 2))]) (rest := []) ok 0 rfl rfl rfl wl_Lw_94 wi_y_LS_last ws_y_LS_last wn_LS wc_y_LS_last (by decide) (by decide) hh_LS_last (Nat.le_of_ble_eq_true rfl) rfl d_Lw_919 (L_LS_last F.1 F.2.1 F.2.2.1 hD h) (fun r74 s73 h => ?_)
      refine r_aload_n ok 2 d_Lw_922 rfl rfl ?_
      refine r_aload_n ok 0 d_Lw_923 rfl rfl ?_
      refine r_iload_n ok 3 d_Lw_924 rfl rfl ?_
      refine r_iconst ok 1 d_Lw_925 rfl ?_
      refine r_iadd ok d_Lw_926 ?_
      refine r_sald ok hsc hL d_Lw_927 h.1 ?_
      replace h := h.2
      refine r_aload_n ok 0 d_Lw_928 rfl rfl ?_
      refine r_iload_n ok 3 d_Lw_929 rfl rfl ?_
      refine r_iconst ok 2 d_Lw_930 rfl ?_
      refine r_iadd ok d_Lw_931 ?_
      refine r_sald ok hsc hL d_Lw_932 h.1 ?_
      replace h := h.2
      refine r_callVi (As := [vI (scF xs (x3 + 1)), vI (scF xs (x3 + 2))]) (rest := [vI r74]) ok 10 rfl rfl rfl wl_Lw_97 wi_y_Md_last ws_y_Md_last wn_Md wc_y_Md_last (by decide) (by decide) hh_Md_last (Nat.le_of_ble_eq_true rfl) rfl d_Lw_933 (L_Md_last F.1 F.2.1 F.2.2.1 hD h) (fun r76 s75 h => ?_)
      refine r_icmp_eq ok 1462 d_Lw_936 (by decide) h.1 h.2.1 (fun c => ?_) (fun c => ?_)
      · replace h := h.2.2.1 c
        refine r_iinc ok 3 (x3 + 7) [(3, vI (x3 + 7)), (0, .ref b), (1, .ref (F.2.1.1 0)), (2, .ref (F.2.1.1 10))] d_Lw_1462 rfl rfl hm (by decide) rfl ?_
        refine r_goto ok 18 d_Lw_1465 (by decide) ?_
        exact r_sub [1, 2, 3, 0] rfl h
      · replace h := h.2.2.2 c
        refine r_iconst ok 0 d_Lw_939 rfl ?_
        exact hQ _ _ _ _ _ (ok_code ok) d_Lw_940 (by decide) h
    replace h := h.2
    rcases Decidable.em ((bnd (scF xs x3) 63) = 19) with c19 | c19
    · replace h := h.1 c19
      refine r_tblIn ok 19 941 d_Lw_33 hx c19 (by decide) rfl (by decide) ?_
      refine r_aload_n ok 1 d_Lw_941 rfl rfl ?_
      refine r_callVi (As := []) (rest := []) ok 0 rfl rfl rfl wl_Lw_98 wi_y_LS_rule ws_y_LS_rule wn_LS wc_y_LS_rule (by decide) (by decide) hh_LS_rule (Nat.le_of_ble_eq_true rfl) rfl d_Lw_942 (L_LS_rule F.1 F.2.1 F.2.2.1 hD h) (fun r78 s77 h => ?_)
      refine r_aload_n ok 2 d_Lw_945 rfl rfl ?_
      refine r_callVi (As := []) (rest := [vI r78]) ok 10 rfl rfl rfl wl_Lw_101 wi_y_Md_rule ws_y_Md_rule wn_Md wc_y_Md_rule (by decide) (by decide) hh_Md_rule (Nat.le_of_ble_eq_true rfl) rfl d_Lw_946 (L_Md_rule F.1 F.2.1 F.2.2.1 hD h) (fun r80 s79 h => ?_)
      refine r_icmp_eq ok 1462 d_Lw_949 (by decide) h.1 h.2.1 (fun c => ?_) (fun c => ?_)
      · replace h := h.2.2.1 c
        refine r_iinc ok 3 (x3 + 7) [(3, vI (x3 + 7)), (0, .ref b), (1, .ref (F.2.1.1 0)), (2, .ref (F.2.1.1 10))] d_Lw_1462 rfl rfl hm (by decide) rfl ?_
        refine r_goto ok 18 d_Lw_1465 (by decide) ?_
        exact r_sub [1, 2, 3, 0] rfl h
      · replace h := h.2.2.2 c
        refine r_iconst ok 0 d_Lw_952 rfl ?_
        exact hQ _ _ _ _ _ (ok_code ok) d_Lw_953 (by decide) h
    replace h := h.2
    rcases Decidable.em ((bnd (scF xs x3) 63) = 20) with c20 | c20
    · replace h := h.1 c20
      refine r_tblIn ok 20 954 d_Lw_33 hx c20 (by decide) rfl (by decide) ?_
      refine r_aload_n ok 1 d_Lw_954 rfl rfl ?_
      refine r_aload_n ok 0 d_Lw_955 rfl rfl ?_
      refine r_iload_n ok 3 d_Lw_956 rfl rfl ?_
      refine r_iconst ok 1 d_Lw_957 rfl ?_
      refine r_iadd ok d_Lw_958 ?_
      refine r_sald ok hsc hL d_Lw_959 h.1 ?_
      replace h := h.2
      refine r_aload_n ok 0 d_Lw_960 rfl rfl ?_
      refine r_iload_n ok 3 d_Lw_961 rfl rfl ?_
      refine r_iconst ok 2 d_Lw_962 rfl ?_
      refine r_iadd ok d_Lw_963 ?_
      refine r_sald ok hsc hL d_Lw_964 h.1 ?_
      replace h := h.2
      refine r_callVi (As := [vI (scF xs (x3 + 1)), vI (scF xs (x3 + 2))]) (rest := []) ok 0 rfl rfl rfl wl_Lw_102 wi_y_LS_finding ws_y_LS_finding wn_LS wc_y_LS_finding (by decide) (by decide) hh_LS_finding (Nat.le_of_ble_eq_true rfl) rfl d_Lw_965 (L_LS_finding F.1 F.2.1 F.2.2.1 hD h) (fun r82 s81 h => ?_)
      refine r_aload_n ok 2 d_Lw_968 rfl rfl ?_
      refine r_aload_n ok 0 d_Lw_969 rfl rfl ?_
      refine r_iload_n ok 3 d_Lw_970 rfl rfl ?_
      refine r_iconst ok 1 d_Lw_971 rfl ?_
      refine r_iadd ok d_Lw_972 ?_
      refine r_sald ok hsc hL d_Lw_973 h.1 ?_
      replace h := h.2
      refine r_aload_n ok 0 d_Lw_974 rfl rfl ?_
      refine r_iload_n ok 3 d_Lw_975 rfl rfl ?_
      refine r_iconst ok 2 d_Lw_976 rfl ?_
      refine r_iadd ok d_Lw_977 ?_
      refine r_sald ok hsc hL d_Lw_978 h.1 ?_
      replace h := h.2
      refine r_callVi (As := [vI (scF xs (x3 + 1)), vI (scF xs (x3 + 2))]) (rest := [vI r82]) ok 10 rfl rfl rfl wl_Lw_105 wi_y_Md_finding ws_y_Md_finding wn_Md wc_y_Md_finding (by decide) (by decide) hh_Md_finding (Nat.le_of_ble_eq_true rfl) rfl d_Lw_979 (L_Md_finding F.1 F.2.1 F.2.2.1 hD h) (fun r84 s83 h => ?_)
      refine r_icmp_eq ok 1462 d_Lw_982 (by decide) h.1 h.2.1 (fun c => ?_) (fun c => ?_)
      · replace h := h.2.2.1 c
        refine r_iinc ok 3 (x3 + 7) [(3, vI (x3 + 7)), (0, .ref b), (1, .ref (F.2.1.1 0)), (2, .ref (F.2.1.1 10))] d_Lw_1462 rfl rfl hm (by decide) rfl ?_
        refine r_goto ok 18 d_Lw_1465 (by decide) ?_
        exact r_sub [1, 2, 3, 0] rfl h
      · replace h := h.2.2.2 c
        refine r_iconst ok 0 d_Lw_985 rfl ?_
        exact hQ _ _ _ _ _ (ok_code ok) d_Lw_986 (by decide) h
    replace h := h.2
    rcases Decidable.em ((bnd (scF xs x3) 63) = 21) with c21 | c21
    · replace h := h.1 c21
      refine r_tblIn ok 21 987 d_Lw_33 hx c21 (by decide) rfl (by decide) ?_
      refine r_aload_n ok 1 d_Lw_987 rfl rfl ?_
      refine r_aload_n ok 0 d_Lw_988 rfl rfl ?_
      refine r_iload_n ok 3 d_Lw_989 rfl rfl ?_
      refine r_iconst ok 1 d_Lw_990 rfl ?_
      refine r_iadd ok d_Lw_991 ?_
      refine r_sald ok hsc hL d_Lw_992 h.1 ?_
      replace h := h.2
      refine r_callVi (As := [vI (scF xs (x3 + 1))]) (rest := []) ok 0 rfl rfl rfl wl_Lw_106 wi_y_LS_find ws_y_LS_find wn_LS wc_y_LS_find (by decide) (by decide) hh_LS_find (Nat.le_of_ble_eq_true rfl) rfl d_Lw_993 (L_LS_find F.1 F.2.1 F.2.2.1 hD h) (fun r86 s85 h => ?_)
      refine r_aload_n ok 2 d_Lw_996 rfl rfl ?_
      refine r_aload_n ok 0 d_Lw_997 rfl rfl ?_
      refine r_iload_n ok 3 d_Lw_998 rfl rfl ?_
      refine r_iconst ok 1 d_Lw_999 rfl ?_
      refine r_iadd ok d_Lw_1000 ?_
      refine r_sald ok hsc hL d_Lw_1001 h.1 ?_
      replace h := h.2
      refine r_callVi (As := [vI (scF xs (x3 + 1))]) (rest := [vI r86]) ok 10 rfl rfl rfl wl_Lw_109 wi_y_Md_find ws_y_Md_find wn_Md wc_y_Md_find (by decide) (by decide) hh_Md_find (Nat.le_of_ble_eq_true rfl) rfl d_Lw_1002 (L_Md_find F.1 F.2.1 F.2.2.1 hD h) (fun r88 s87 h => ?_)
      refine r_icmp_eq ok 1462 d_Lw_1005 (by decide) h.1 h.2.1 (fun c => ?_) (fun c => ?_)
      · replace h := h.2.2.1 c
        refine r_iinc ok 3 (x3 + 7) [(3, vI (x3 + 7)), (0, .ref b), (1, .ref (F.2.1.1 0)), (2, .ref (F.2.1.1 10))] d_Lw_1462 rfl rfl hm (by decide) rfl ?_
        refine r_goto ok 18 d_Lw_1465 (by decide) ?_
        exact r_sub [1, 2, 3, 0] rfl h
      · replace h := h.2.2.2 c
        refine r_iconst ok 0 d_Lw_1008 rfl ?_
        exact hQ _ _ _ _ _ (ok_code ok) d_Lw_1009 (by decide) h
    replace h := h.2
    rcases Decidable.em ((bnd (scF xs x3) 63) = 22) with c22 | c22
    · replace h := h.1 c22
      refine r_tblIn ok 22 1010 d_Lw_33 hx c22 (by decide) rfl (by decide) ?_
      refine r_aload_n ok 1 d_Lw_1010 rfl rfl ?_
      refine r_aload_n ok 0 d_Lw_1011 rfl rfl ?_
      refine r_iload_n ok 3 d_Lw_1012 rfl rfl ?_
      refine r_iconst ok 1 d_Lw_1013 rfl ?_
      refine r_iadd ok d_Lw_1014 ?_
      refine r_sald ok hsc hL d_Lw_1015 h.1 ?_
      replace h := h.2
      refine r_aload_n ok 0 d_Lw_1016 rfl rfl ?_
      refine r_iload_n ok 3 d_Lw_1017 rfl rfl ?_
      refine r_iconst ok 2 d_Lw_1018 rfl ?_
      refine r_iadd ok d_Lw_1019 ?_
      refine r_sald ok hsc hL d_Lw_1020 h.1 ?_
      replace h := h.2
      refine r_callVi (As := [vI (scF xs (x3 + 1)), vI (scF xs (x3 + 2))]) (rest := []) ok 0 rfl rfl rfl wl_Lw_110 wi_y_LS_found ws_y_LS_found wn_LS wc_y_LS_found (by decide) (by decide) hh_LS_found (Nat.le_of_ble_eq_true rfl) rfl d_Lw_1021 (L_LS_found F.1 F.2.1 F.2.2.1 hD h) (fun r90 s89 h => ?_)
      refine r_aload_n ok 2 d_Lw_1024 rfl rfl ?_
      refine r_aload_n ok 0 d_Lw_1025 rfl rfl ?_
      refine r_iload_n ok 3 d_Lw_1026 rfl rfl ?_
      refine r_iconst ok 1 d_Lw_1027 rfl ?_
      refine r_iadd ok d_Lw_1028 ?_
      refine r_sald ok hsc hL d_Lw_1029 h.1 ?_
      replace h := h.2
      refine r_aload_n ok 0 d_Lw_1030 rfl rfl ?_
      refine r_iload_n ok 3 d_Lw_1031 rfl rfl ?_
      refine r_iconst ok 2 d_Lw_1032 rfl ?_
      refine r_iadd ok d_Lw_1033 ?_
      refine r_sald ok hsc hL d_Lw_1034 h.1 ?_
      replace h := h.2
      refine r_callVi (As := [vI (scF xs (x3 + 1)), vI (scF xs (x3 + 2))]) (rest := [vI r90]) ok 10 rfl rfl rfl wl_Lw_113 wi_y_Md_found ws_y_Md_found wn_Md wc_y_Md_found (by decide) (by decide) hh_Md_found (Nat.le_of_ble_eq_true rfl) rfl d_Lw_1035 (L_Md_found F.1 F.2.1 F.2.2.1 hD h) (fun r92 s91 h => ?_)
      refine r_icmp_eq ok 1462 d_Lw_1038 (by decide) h.1 h.2.1 (fun c => ?_) (fun c => ?_)
      · replace h := h.2.2.1 c
        refine r_iinc ok 3 (x3 + 7) [(3, vI (x3 + 7)), (0, .ref b), (1, .ref (F.2.1.1 0)), (2, .ref (F.2.1.1 10))] d_Lw_1462 rfl rfl hm (by decide) rfl ?_
        refine r_goto ok 18 d_Lw_1465 (by decide) ?_
        exact r_sub [1, 2, 3, 0] rfl h
      · replace h := h.2.2.2 c
        refine r_iconst ok 0 d_Lw_1041 rfl ?_
        exact hQ _ _ _ _ _ (ok_code ok) d_Lw_1042 (by decide) h
    replace h := h.2
    rcases Decidable.em ((bnd (scF xs x3) 63) = 23) with c23 | c23
    · replace h := h.1 c23
      refine r_tblIn ok 23 1043 d_Lw_33 hx c23 (by decide) rfl (by decide) ?_
      refine r_aload_n ok 1 d_Lw_1043 rfl rfl ?_
      refine r_aload_n ok 0 d_Lw_1044 rfl rfl ?_
      refine r_iload_n ok 3 d_Lw_1045 rfl rfl ?_
      refine r_iconst ok 1 d_Lw_1046 rfl ?_
      refine r_iadd ok d_Lw_1047 ?_
      refine r_sald ok hsc hL d_Lw_1048 h.1 ?_
      replace h := h.2
      refine r_aload_n ok 0 d_Lw_1049 rfl rfl ?_
      refine r_iload_n ok 3 d_Lw_1050 rfl rfl ?_
      refine r_iconst ok 2 d_Lw_1051 rfl ?_
      refine r_iadd ok d_Lw_1052 ?_
      refine r_sald ok hsc hL d_Lw_1053 h.1 ?_
      replace h := h.2
      refine r_aload_n ok 0 d_Lw_1054 rfl rfl ?_
      refine r_iload_n ok 3 d_Lw_1055 rfl rfl ?_
      refine r_iconst ok 3 d_Lw_1056 rfl ?_
      refine r_iadd ok d_Lw_1057 ?_
      refine r_sald ok hsc hL d_Lw_1058 h.1 ?_
      replace h := h.2
      refine r_aload_n ok 0 d_Lw_1059 rfl rfl ?_
      refine r_iload_n ok 3 d_Lw_1060 rfl rfl ?_
      refine r_iconst ok 4 d_Lw_1061 rfl ?_
      refine r_iadd ok d_Lw_1062 ?_
      refine r_sald ok hsc hL d_Lw_1063 h.1 ?_
      replace h := h.2
      refine r_callVi (As := [vI (scF xs (x3 + 1)), vI (scF xs (x3 + 2)), vI (scF xs (x3 + 3)), vI (scF xs (x3 + 4))]) (rest := []) ok 0 rfl rfl rfl wl_Lw_114 wi_y_LS_bone ws_y_LS_bone wn_LS wc_y_LS_bone (by decide) (by decide) hh_LS_bone (Nat.le_of_ble_eq_true rfl) rfl d_Lw_1064 (L_LS_bone F.1 F.2.1 F.2.2.1 hD h) (fun r94 s93 h => ?_)
      refine r_aload_n ok 2 d_Lw_1067 rfl rfl ?_
      refine r_aload_n ok 0 d_Lw_1068 rfl rfl ?_
      refine r_iload_n ok 3 d_Lw_1069 rfl rfl ?_
      refine r_iconst ok 1 d_Lw_1070 rfl ?_
      refine r_iadd ok d_Lw_1071 ?_
      refine r_sald ok hsc hL d_Lw_1072 h.1 ?_
      replace h := h.2
      refine r_aload_n ok 0 d_Lw_1073 rfl rfl ?_
      refine r_iload_n ok 3 d_Lw_1074 rfl rfl ?_
      refine r_iconst ok 2 d_Lw_1075 rfl ?_
      refine r_iadd ok d_Lw_1076 ?_
      refine r_sald ok hsc hL d_Lw_1077 h.1 ?_
      replace h := h.2
      refine r_aload_n ok 0 d_Lw_1078 rfl rfl ?_
      refine r_iload_n ok 3 d_Lw_1079 rfl rfl ?_
      refine r_iconst ok 3 d_Lw_1080 rfl ?_
      refine r_iadd ok d_Lw_1081 ?_
      refine r_sald ok hsc hL d_Lw_1082 h.1 ?_
      replace h := h.2
      refine r_aload_n ok 0 d_Lw_1083 rfl rfl ?_
      refine r_iload_n ok 3 d_Lw_1084 rfl rfl ?_
      refine r_iconst ok 4 d_Lw_1085 rfl ?_
      refine r_iadd ok d_Lw_1086 ?_
      refine r_sald ok hsc hL d_Lw_1087 h.1 ?_
      replace h := h.2
      refine r_callVi (As := [vI (scF xs (x3 + 1)), vI (scF xs (x3 + 2)), vI (scF xs (x3 + 3)), vI (scF xs (x3 + 4))]) (rest := [vI r94]) ok 10 rfl rfl rfl wl_Lw_117 wi_y_Md_bone ws_y_Md_bone wn_Md wc_y_Md_bone (by decide) (by decide) hh_Md_bone (Nat.le_of_ble_eq_true rfl) rfl d_Lw_1088 (L_Md_bone F.1 F.2.1 F.2.2.1 hD h) (fun r96 s95 h => ?_)
      refine r_icmp_eq ok 1462 d_Lw_1091 (by decide) h.1 h.2.1 (fun c => ?_) (fun c => ?_)
      · replace h := h.2.2.1 c
        refine r_iinc ok 3 (x3 + 7) [(3, vI (x3 + 7)), (0, .ref b), (1, .ref (F.2.1.1 0)), (2, .ref (F.2.1.1 10))] d_Lw_1462 rfl rfl hm (by decide) rfl ?_
        refine r_goto ok 18 d_Lw_1465 (by decide) ?_
        exact r_sub [1, 2, 3, 0] rfl h
      · replace h := h.2.2.2 c
        refine r_iconst ok 0 d_Lw_1094 rfl ?_
        exact hQ _ _ _ _ _ (ok_code ok) d_Lw_1095 (by decide) h
    replace h := h.2
    rcases Decidable.em ((bnd (scF xs x3) 63) = 24) with c24 | c24
    · replace h := h.1 c24
      refine r_tblIn ok 24 1096 d_Lw_33 hx c24 (by decide) rfl (by decide) ?_
      refine r_aload_n ok 1 d_Lw_1096 rfl rfl ?_
      refine r_aload_n ok 0 d_Lw_1097 rfl rfl ?_
      refine r_iload_n ok 3 d_Lw_1098 rfl rfl ?_
      refine r_iconst ok 1 d_Lw_1099 rfl ?_
      refine r_iadd ok d_Lw_1100 ?_
      refine r_sald ok hsc hL d_Lw_1101 h.1 ?_
      replace h := h.2
      refine r_callVi (As := [vI (scF xs (x3 + 1))]) (rest := []) ok 0 rfl rfl rfl wl_Lw_118 wi_y_LS_bound ws_y_LS_bound wn_LS wc_y_LS_bound (by decide) (by decide) hh_LS_bound (Nat.le_of_ble_eq_true rfl) rfl d_Lw_1102 (L_LS_bound F.1 F.2.1 F.2.2.1 hD h) (fun r98 s97 h => ?_)
      refine r_aload_n ok 2 d_Lw_1105 rfl rfl ?_
      refine r_aload_n ok 0 d_Lw_1106 rfl rfl ?_
      refine r_iload_n ok 3 d_Lw_1107 rfl rfl ?_
      refine r_iconst ok 1 d_Lw_1108 rfl ?_
      refine r_iadd ok d_Lw_1109 ?_
      refine r_sald ok hsc hL d_Lw_1110 h.1 ?_
      replace h := h.2
      refine r_callVi (As := [vI (scF xs (x3 + 1))]) (rest := [vI r98]) ok 10 rfl rfl rfl wl_Lw_121 wi_y_Md_bound ws_y_Md_bound wn_Md wc_y_Md_bound (by decide) (by decide) hh_Md_bound (Nat.le_of_ble_eq_true rfl) rfl d_Lw_1111 (L_Md_bound F.1 F.2.1 F.2.2.1 hD h) (fun r100 s99 h => ?_)
      refine r_icmp_eq ok 1462 d_Lw_1114 (by decide) h.1 h.2.1 (fun c => ?_) (fun c => ?_)
      · replace h := h.2.2.1 c
        refine r_iinc ok 3 (x3 + 7) [(3, vI (x3 + 7)), (0, .ref b), (1, .ref (F.2.1.1 0)), (2, .ref (F.2.1.1 10))] d_Lw_1462 rfl rfl hm (by decide) rfl ?_
        refine r_goto ok 18 d_Lw_1465 (by decide) ?_
        exact r_sub [1, 2, 3, 0] rfl h
      · replace h := h.2.2.2 c
        refine r_iconst ok 0 d_Lw_1117 rfl ?_
        exact hQ _ _ _ _ _ (ok_code ok) d_Lw_1118 (by decide) h
    replace h := h.2
    rcases Decidable.em ((bnd (scF xs x3) 63) = 25) with c25 | c25
    · replace h := h.1 c25
      refine r_tblIn ok 25 1119 d_Lw_33 hx c25 (by decide) rfl (by decide) ?_
      refine r_aload_n ok 1 d_Lw_1119 rfl rfl ?_
      refine r_aload_n ok 0 d_Lw_1120 rfl rfl ?_
      refine r_iload_n ok 3 d_Lw_1121 rfl rfl ?_
      refine r_iconst ok 1 d_Lw_1122 rfl ?_
      refine r_iadd ok d_Lw_1123 ?_
      refine r_sald ok hsc hL d_Lw_1124 h.1 ?_
      replace h := h.2
      refine r_callVi (As := [vI (scF xs (x3 + 1))]) (rest := []) ok 0 rfl rfl rfl wl_Lw_122 wi_y_LS_least ws_y_LS_least wn_LS wc_y_LS_least (by decide) (by decide) hh_LS_least (Nat.le_of_ble_eq_true rfl) rfl d_Lw_1125 (L_LS_least F.1 F.2.1 F.2.2.1 hD h) (fun r102 s101 h => ?_)
      refine r_aload_n ok 2 d_Lw_1128 rfl rfl ?_
      refine r_aload_n ok 0 d_Lw_1129 rfl rfl ?_
      refine r_iload_n ok 3 d_Lw_1130 rfl rfl ?_
      refine r_iconst ok 1 d_Lw_1131 rfl ?_
      refine r_iadd ok d_Lw_1132 ?_
      refine r_sald ok hsc hL d_Lw_1133 h.1 ?_
      replace h := h.2
      refine r_callVi (As := [vI (scF xs (x3 + 1))]) (rest := [vI r102]) ok 10 rfl rfl rfl wl_Lw_125 wi_y_Md_least ws_y_Md_least wn_Md wc_y_Md_least (by decide) (by decide) hh_Md_least (Nat.le_of_ble_eq_true rfl) rfl d_Lw_1134 (L_Md_least F.1 F.2.1 F.2.2.1 hD h) (fun r104 s103 h => ?_)
      refine r_icmp_eq ok 1462 d_Lw_1137 (by decide) h.1 h.2.1 (fun c => ?_) (fun c => ?_)
      · replace h := h.2.2.1 c
        refine r_iinc ok 3 (x3 + 7) [(3, vI (x3 + 7)), (0, .ref b), (1, .ref (F.2.1.1 0)), (2, .ref (F.2.1.1 10))] d_Lw_1462 rfl rfl hm (by decide) rfl ?_
        refine r_goto ok 18 d_Lw_1465 (by decide) ?_
        exact r_sub [1, 2, 3, 0] rfl h
      · replace h := h.2.2.2 c
        refine r_iconst ok 0 d_Lw_1140 rfl ?_
        exact hQ _ _ _ _ _ (ok_code ok) d_Lw_1141 (by decide) h
    replace h := h.2
    rcases Decidable.em ((bnd (scF xs x3) 63) = 26) with c26 | c26
    · replace h := h.1 c26
      refine r_tblIn ok 26 1142 d_Lw_33 hx c26 (by decide) rfl (by decide) ?_
      refine r_aload_n ok 1 d_Lw_1142 rfl rfl ?_
      refine r_aload_n ok 0 d_Lw_1143 rfl rfl ?_
      refine r_iload_n ok 3 d_Lw_1144 rfl rfl ?_
      refine r_iconst ok 1 d_Lw_1145 rfl ?_
      refine r_iadd ok d_Lw_1146 ?_
      refine r_sald ok hsc hL d_Lw_1147 h.1 ?_
      replace h := h.2
      refine r_aload_n ok 0 d_Lw_1148 rfl rfl ?_
      refine r_iload_n ok 3 d_Lw_1149 rfl rfl ?_
      refine r_iconst ok 2 d_Lw_1150 rfl ?_
      refine r_iadd ok d_Lw_1151 ?_
      refine r_sald ok hsc hL d_Lw_1152 h.1 ?_
      replace h := h.2
      refine r_aload_n ok 0 d_Lw_1153 rfl rfl ?_
      refine r_iload_n ok 3 d_Lw_1154 rfl rfl ?_
      refine r_iconst ok 3 d_Lw_1155 rfl ?_
      refine r_iadd ok d_Lw_1156 ?_
      refine r_sald ok hsc hL d_Lw_1157 h.1 ?_
      replace h := h.2
      refine r_aload_n ok 0 d_Lw_1158 rfl rfl ?_
      refine r_iload_n ok 3 d_Lw_1159 rfl rfl ?_
      refine r_iconst ok 4 d_Lw_1160 rfl ?_
      refine r_iadd ok d_Lw_1161 ?_
      refine r_sald ok hsc hL d_Lw_1162 h.1 ?_
      replace h := h.2
      refine r_aload_n ok 0 d_Lw_1163 rfl rfl ?_
      refine r_iload_n ok 3 d_Lw_1164 rfl rfl ?_
      refine r_iconst ok 5 d_Lw_1165 rfl ?_
      refine r_iadd ok d_Lw_1166 ?_
      refine r_sald ok hsc hL d_Lw_1167 h.1 ?_
      replace h := h.2
      refine r_callVi (As := [vI (scF xs (x3 + 1)), vI (scF xs (x3 + 2)), vI (scF xs (x3 + 3)), vI (scF xs (x3 + 4)), vI (scF xs (x3 + 5))]) (rest := []) ok 0 rfl rfl rfl wl_Lw_126 wi_y_LS_set ws_y_LS_set wn_LS wc_y_LS_set (by decide) (by decide) hh_LS_set (Nat.le_of_ble_eq_true rfl) rfl d_Lw_1168 (L_LS_set F.1 F.2.1 F.2.2.1 hD h) (fun r106 s105 h => ?_)
      refine r_aload_n ok 2 d_Lw_1171 rfl rfl ?_
      refine r_aload_n ok 0 d_Lw_1172 rfl rfl ?_
      refine r_iload_n ok 3 d_Lw_1173 rfl rfl ?_
      refine r_iconst ok 1 d_Lw_1174 rfl ?_
      refine r_iadd ok d_Lw_1175 ?_
      refine r_sald ok hsc hL d_Lw_1176 h.1 ?_
      replace h := h.2
      refine r_aload_n ok 0 d_Lw_1177 rfl rfl ?_
      refine r_iload_n ok 3 d_Lw_1178 rfl rfl ?_
      refine r_iconst ok 2 d_Lw_1179 rfl ?_
      refine r_iadd ok d_Lw_1180 ?_
      refine r_sald ok hsc hL d_Lw_1181 h.1 ?_
      replace h := h.2
      refine r_aload_n ok 0 d_Lw_1182 rfl rfl ?_
      refine r_iload_n ok 3 d_Lw_1183 rfl rfl ?_
      refine r_iconst ok 3 d_Lw_1184 rfl ?_
      refine r_iadd ok d_Lw_1185 ?_
      refine r_sald ok hsc hL d_Lw_1186 h.1 ?_
      replace h := h.2
      refine r_aload_n ok 0 d_Lw_1187 rfl rfl ?_
      refine r_iload_n ok 3 d_Lw_1188 rfl rfl ?_
      refine r_iconst ok 4 d_Lw_1189 rfl ?_
      refine r_iadd ok d_Lw_1190 ?_
      refine r_sald ok hsc hL d_Lw_1191 h.1 ?_
      replace h := h.2
      refine r_aload_n ok 0 d_Lw_1192 rfl rfl ?_
      refine r_iload_n ok 3 d_Lw_1193 rfl rfl ?_
      refine r_iconst ok 5 d_Lw_1194 rfl ?_
      refine r_iadd ok d_Lw_1195 ?_
      refine r_sald ok hsc hL d_Lw_1196 h.1 ?_
      replace h := h.2
      refine r_callVi (As := [vI (scF xs (x3 + 1)), vI (scF xs (x3 + 2)), vI (scF xs (x3 + 3)), vI (scF xs (x3 + 4)), vI (scF xs (x3 + 5))]) (rest := [vI r106]) ok 10 rfl rfl rfl wl_Lw_130 wi_y_Md_set ws_y_Md_set wn_Md wc_y_Md_set (by decide) (by decide) hh_Md_set (Nat.le_of_ble_eq_true rfl) rfl d_Lw_1197 (L_Md_set F.1 F.2.1 F.2.2.1 hD h) (fun r108 s107 h => ?_)
      refine r_icmp_eq ok 1462 d_Lw_1200 (by decide) h.1 h.2.1 (fun c => ?_) (fun c => ?_)
      · replace h := h.2.2.1 c
        refine r_iinc ok 3 (x3 + 7) [(3, vI (x3 + 7)), (0, .ref b), (1, .ref (F.2.1.1 0)), (2, .ref (F.2.1.1 10))] d_Lw_1462 rfl rfl hm (by decide) rfl ?_
        refine r_goto ok 18 d_Lw_1465 (by decide) ?_
        exact r_sub [1, 2, 3, 0] rfl h
      · replace h := h.2.2.2 c
        refine r_iconst ok 0 d_Lw_1203 rfl ?_
        exact hQ _ _ _ _ _ (ok_code ok) d_Lw_1204 (by decide) h
    replace h := h.2
    rcases Decidable.em ((bnd (scF xs x3) 63) = 27) with c27 | c27
    · replace h := h.1 c27
      refine r_tblIn ok 27 1205 d_Lw_33 hx c27 (by decide) rfl (by decide) ?_
      refine r_aload_n ok 1 d_Lw_1205 rfl rfl ?_
      refine r_aload_n ok 0 d_Lw_1206 rfl rfl ?_
      refine r_iload_n ok 3 d_Lw_1207 rfl rfl ?_
      refine r_iconst ok 1 d_Lw_1208 rfl ?_
      refine r_iadd ok d_Lw_1209 ?_
      refine r_sald ok hsc hL d_Lw_1210 h.1 ?_
      replace h := h.2
      refine r_aload_n ok 0 d_Lw_1211 rfl rfl ?_
      refine r_iload_n ok 3 d_Lw_1212 rfl rfl ?_
      refine r_iconst ok 2 d_Lw_1213 rfl ?_
      refine r_iadd ok d_Lw_1214 ?_
      refine r_sald ok hsc hL d_Lw_1215 h.1 ?_
      replace h := h.2
      refine r_aload_n ok 0 d_Lw_1216 rfl rfl ?_
      refine r_iload_n ok 3 d_Lw_1217 rfl rfl ?_
      refine r_iconst ok 3 d_Lw_1218 rfl ?_
      refine r_iadd ok d_Lw_1219 ?_
      refine r_sald ok hsc hL d_Lw_1220 h.1 ?_
      replace h := h.2
      refine r_aload_n ok 0 d_Lw_1221 rfl rfl ?_
      refine r_iload_n ok 3 d_Lw_1222 rfl rfl ?_
      refine r_iconst ok 4 d_Lw_1223 rfl ?_
      refine r_iadd ok d_Lw_1224 ?_
      refine r_sald ok hsc hL d_Lw_1225 h.1 ?_
      replace h := h.2
      refine r_callVi (As := [vI (scF xs (x3 + 1)), vI (scF xs (x3 + 2)), vI (scF xs (x3 + 3)), vI (scF xs (x3 + 4))]) (rest := []) ok 0 rfl rfl rfl wl_Lw_131 wi_y_LS_missing ws_y_LS_missing wn_LS wc_y_LS_missing (by decide) (by decide) hh_LS_missing (Nat.le_of_ble_eq_true rfl) rfl d_Lw_1226 (L_LS_missing F.1 F.2.1 F.2.2.1 hD h) (fun r110 s109 h => ?_)
      refine r_aload_n ok 2 d_Lw_1229 rfl rfl ?_
      refine r_aload_n ok 0 d_Lw_1230 rfl rfl ?_
      refine r_iload_n ok 3 d_Lw_1231 rfl rfl ?_
      refine r_iconst ok 1 d_Lw_1232 rfl ?_
      refine r_iadd ok d_Lw_1233 ?_
      refine r_sald ok hsc hL d_Lw_1234 h.1 ?_
      replace h := h.2
      refine r_aload_n ok 0 d_Lw_1235 rfl rfl ?_
      refine r_iload_n ok 3 d_Lw_1236 rfl rfl ?_
      refine r_iconst ok 2 d_Lw_1237 rfl ?_
      refine r_iadd ok d_Lw_1238 ?_
      refine r_sald ok hsc hL d_Lw_1239 h.1 ?_
      replace h := h.2
      refine r_aload_n ok 0 d_Lw_1240 rfl rfl ?_
      refine r_iload_n ok 3 d_Lw_1241 rfl rfl ?_
      refine r_iconst ok 3 d_Lw_1242 rfl ?_
      refine r_iadd ok d_Lw_1243 ?_
      refine r_sald ok hsc hL d_Lw_1244 h.1 ?_
      replace h := h.2
      refine r_aload_n ok 0 d_Lw_1245 rfl rfl ?_
      refine r_iload_n ok 3 d_Lw_1246 rfl rfl ?_
      refine r_iconst ok 4 d_Lw_1247 rfl ?_
      refine r_iadd ok d_Lw_1248 ?_
      refine r_sald ok hsc hL d_Lw_1249 h.1 ?_
      replace h := h.2
      refine r_callVi (As := [vI (scF xs (x3 + 1)), vI (scF xs (x3 + 2)), vI (scF xs (x3 + 3)), vI (scF xs (x3 + 4))]) (rest := [vI r110]) ok 10 rfl rfl rfl wl_Lw_134 wi_y_Md_missing ws_y_Md_missing wn_Md wc_y_Md_missing (by decide) (by decide) hh_Md_missing (Nat.le_of_ble_eq_true rfl) rfl d_Lw_1250 (L_Md_missing F.1 F.2.1 F.2.2.1 hD h) (fun r112 s111 h => ?_)
      refine r_icmp_eq ok 1462 d_Lw_1253 (by decide) h.1 h.2.1 (fun c => ?_) (fun c => ?_)
      · replace h := h.2.2.1 c
        refine r_iinc ok 3 (x3 + 7) [(3, vI (x3 + 7)), (0, .ref b), (1, .ref (F.2.1.1 0)), (2, .ref (F.2.1.1 10))] d_Lw_1462 rfl rfl hm (by decide) rfl ?_
        refine r_goto ok 18 d_Lw_1465 (by decide) ?_
        exact r_sub [1, 2, 3, 0] rfl h
      · replace h := h.2.2.2 c
        refine r_iconst ok 0 d_Lw_1256 rfl ?_
        exact hQ _ _ _ _ _ (ok_code ok) d_Lw_1257 (by decide) h
    replace h := h.2
    rcases Decidable.em ((bnd (scF xs x3) 63) = 28) with c28 | c28
    · replace h := h.1 c28
      refine r_tblIn ok 28 1258 d_Lw_33 hx c28 (by decide) rfl (by decide) ?_
      refine r_aload_n ok 1 d_Lw_1258 rfl rfl ?_
      refine r_aload_n ok 0 d_Lw_1259 rfl rfl ?_
      refine r_iload_n ok 3 d_Lw_1260 rfl rfl ?_
      refine r_iconst ok 1 d_Lw_1261 rfl ?_
      refine r_iadd ok d_Lw_1262 ?_
      refine r_sald ok hsc hL d_Lw_1263 h.1 ?_
      replace h := h.2
      refine r_aload_n ok 0 d_Lw_1264 rfl rfl ?_
      refine r_iload_n ok 3 d_Lw_1265 rfl rfl ?_
      refine r_iconst ok 2 d_Lw_1266 rfl ?_
      refine r_iadd ok d_Lw_1267 ?_
      refine r_sald ok hsc hL d_Lw_1268 h.1 ?_
      replace h := h.2
      refine r_callVi (As := [vI (scF xs (x3 + 1)), vI (scF xs (x3 + 2))]) (rest := []) ok 0 rfl rfl rfl wl_Lw_135 wi_y_LS_fit ws_y_LS_fit wn_LS wc_y_LS_fit (by decide) (by decide) hh_LS_fit (Nat.le_of_ble_eq_true rfl) rfl d_Lw_1269 (L_LS_fit F.1 F.2.1 F.2.2.1 hD h) (fun r114 s113 h => ?_)
      refine r_aload_n ok 2 d_Lw_1272 rfl rfl ?_
      refine r_aload_n ok 0 d_Lw_1273 rfl rfl ?_
      refine r_iload_n ok 3 d_Lw_1274 rfl rfl ?_
      refine r_iconst ok 1 d_Lw_1275 rfl ?_
      refine r_iadd ok d_Lw_1276 ?_
      refine r_sald ok hsc hL d_Lw_1277 h.1 ?_
      replace h := h.2
      refine r_aload_n ok 0 d_Lw_1278 rfl rfl ?_
      refine r_iload_n ok 3 d_Lw_1279 rfl rfl ?_
      refine r_iconst ok 2 d_Lw_1280 rfl ?_
      refine r_iadd ok d_Lw_1281 ?_
      refine r_sald ok hsc hL d_Lw_1282 h.1 ?_
      replace h := h.2
      refine r_callVi (As := [vI (scF xs (x3 + 1)), vI (scF xs (x3 + 2))]) (rest := [vI r114]) ok 10 rfl rfl rfl wl_Lw_138 wi_y_Md_fit ws_y_Md_fit wn_Md wc_y_Md_fit (by decide) (by decide) hh_Md_fit (Nat.le_of_ble_eq_true rfl) rfl d_Lw_1283 (L_Md_fit F.1 F.2.1 F.2.2.1 hD h) (fun r116 s115 h => ?_)
      refine r_icmp_eq ok 1462 d_Lw_1286 (by decide) h.1 h.2.1 (fun c => ?_) (fun c => ?_)
      · replace h := h.2.2.1 c
        refine r_iinc ok 3 (x3 + 7) [(3, vI (x3 + 7)), (0, .ref b), (1, .ref (F.2.1.1 0)), (2, .ref (F.2.1.1 10))] d_Lw_1462 rfl rfl hm (by decide) rfl ?_
        refine r_goto ok 18 d_Lw_1465 (by decide) ?_
        exact r_sub [1, 2, 3, 0] rfl h
      · replace h := h.2.2.2 c
        refine r_iconst ok 0 d_Lw_1289 rfl ?_
        exact hQ _ _ _ _ _ (ok_code ok) d_Lw_1290 (by decide) h
    replace h := h.2
    rcases Decidable.em ((bnd (scF xs x3) 63) = 29) with c29 | c29
    · replace h := h.1 c29
      refine r_tblIn ok 29 1291 d_Lw_33 hx c29 (by decide) rfl (by decide) ?_
      refine r_aload_n ok 1 d_Lw_1291 rfl rfl ?_
      refine r_aload_n ok 0 d_Lw_1292 rfl rfl ?_
      refine r_iload_n ok 3 d_Lw_1293 rfl rfl ?_
      refine r_iconst ok 1 d_Lw_1294 rfl ?_
      refine r_iadd ok d_Lw_1295 ?_
      refine r_sald ok hsc hL d_Lw_1296 h.1 ?_
      replace h := h.2
      refine r_callVi (As := [vI (scF xs (x3 + 1))]) (rest := []) ok 0 rfl rfl rfl wl_Lw_139 wi_y_LS_namings ws_y_LS_namings wn_LS wc_y_LS_namings (by decide) (by decide) hh_LS_namings (Nat.le_of_ble_eq_true rfl) rfl d_Lw_1297 (L_LS_namings F.1 F.2.1 F.2.2.1 hD h) (fun r118 s117 h => ?_)
      refine r_aload_n ok 2 d_Lw_1300 rfl rfl ?_
      refine r_aload_n ok 0 d_Lw_1301 rfl rfl ?_
      refine r_iload_n ok 3 d_Lw_1302 rfl rfl ?_
      refine r_iconst ok 1 d_Lw_1303 rfl ?_
      refine r_iadd ok d_Lw_1304 ?_
      refine r_sald ok hsc hL d_Lw_1305 h.1 ?_
      replace h := h.2
      refine r_callVi (As := [vI (scF xs (x3 + 1))]) (rest := [vI r118]) ok 10 rfl rfl rfl wl_Lw_142 wi_y_Md_namings ws_y_Md_namings wn_Md wc_y_Md_namings (by decide) (by decide) hh_Md_namings (Nat.le_of_ble_eq_true rfl) rfl d_Lw_1306 (L_Md_namings F.1 F.2.1 F.2.2.1 hD h) (fun r120 s119 h => ?_)
      refine r_icmp_eq ok 1462 d_Lw_1309 (by decide) h.1 h.2.1 (fun c => ?_) (fun c => ?_)
      · replace h := h.2.2.1 c
        refine r_iinc ok 3 (x3 + 7) [(3, vI (x3 + 7)), (0, .ref b), (1, .ref (F.2.1.1 0)), (2, .ref (F.2.1.1 10))] d_Lw_1462 rfl rfl hm (by decide) rfl ?_
        refine r_goto ok 18 d_Lw_1465 (by decide) ?_
        exact r_sub [1, 2, 3, 0] rfl h
      · replace h := h.2.2.2 c
        refine r_iconst ok 0 d_Lw_1312 rfl ?_
        exact hQ _ _ _ _ _ (ok_code ok) d_Lw_1313 (by decide) h
    replace h := h.2
    rcases Decidable.em ((bnd (scF xs x3) 63) = 30) with c30 | c30
    · replace h := h.1 c30
      refine r_tblIn ok 30 1314 d_Lw_33 hx c30 (by decide) rfl (by decide) ?_
      refine r_aload_n ok 1 d_Lw_1314 rfl rfl ?_
      refine r_aload_n ok 0 d_Lw_1315 rfl rfl ?_
      refine r_iload_n ok 3 d_Lw_1316 rfl rfl ?_
      refine r_iconst ok 1 d_Lw_1317 rfl ?_
      refine r_iadd ok d_Lw_1318 ?_
      refine r_sald ok hsc hL d_Lw_1319 h.1 ?_
      replace h := h.2
      refine r_aload_n ok 0 d_Lw_1320 rfl rfl ?_
      refine r_iload_n ok 3 d_Lw_1321 rfl rfl ?_
      refine r_iconst ok 2 d_Lw_1322 rfl ?_
      refine r_iadd ok d_Lw_1323 ?_
      refine r_sald ok hsc hL d_Lw_1324 h.1 ?_
      replace h := h.2
      refine r_callVi (As := [vI (scF xs (x3 + 1)), vI (scF xs (x3 + 2))]) (rest := []) ok 0 rfl rfl rfl wl_Lw_143 wi_y_LS_only ws_y_LS_only wn_LS wc_y_LS_only (by decide) (by decide) hh_LS_only (Nat.le_of_ble_eq_true rfl) rfl d_Lw_1325 (L_LS_only F.1 F.2.1 F.2.2.1 hD h) (fun r122 s121 h => ?_)
      refine r_aload_n ok 2 d_Lw_1328 rfl rfl ?_
      refine r_aload_n ok 0 d_Lw_1329 rfl rfl ?_
      refine r_iload_n ok 3 d_Lw_1330 rfl rfl ?_
      refine r_iconst ok 1 d_Lw_1331 rfl ?_
      refine r_iadd ok d_Lw_1332 ?_
      refine r_sald ok hsc hL d_Lw_1333 h.1 ?_
      replace h := h.2
      refine r_aload_n ok 0 d_Lw_1334 rfl rfl ?_
      refine r_iload_n ok 3 d_Lw_1335 rfl rfl ?_
      refine r_iconst ok 2 d_Lw_1336 rfl ?_
      refine r_iadd ok d_Lw_1337 ?_
      refine r_sald ok hsc hL d_Lw_1338 h.1 ?_
      replace h := h.2
      refine r_callVi (As := [vI (scF xs (x3 + 1)), vI (scF xs (x3 + 2))]) (rest := [vI r122]) ok 10 rfl rfl rfl wl_Lw_146 wi_y_Md_only ws_y_Md_only wn_Md wc_y_Md_only (by decide) (by decide) hh_Md_only (Nat.le_of_ble_eq_true rfl) rfl d_Lw_1339 (L_Md_only F.1 F.2.1 F.2.2.1 hD h) (fun r124 s123 h => ?_)
      refine r_icmp_eq ok 1462 d_Lw_1342 (by decide) h.1 h.2.1 (fun c => ?_) (fun c => ?_)
      · replace h := h.2.2.1 c
        refine r_iinc ok 3 (x3 + 7) [(3, vI (x3 + 7)), (0, .ref b), (1, .ref (F.2.1.1 0)), (2, .ref (F.2.1.1 10))] d_Lw_1462 rfl rfl hm (by decide) rfl ?_
        refine r_goto ok 18 d_Lw_1465 (by decide) ?_
        exact r_sub [1, 2, 3, 0] rfl h
      · replace h := h.2.2.2 c
        refine r_iconst ok 0 d_Lw_1345 rfl ?_
        exact hQ _ _ _ _ _ (ok_code ok) d_Lw_1346 (by decide) h
    replace h := h.2
    rcases Decidable.em ((bnd (scF xs x3) 63) = 31) with c31 | c31
    · replace h := h.1 c31
      refine r_tblIn ok 31 1347 d_Lw_33 hx c31 (by decide) rfl (by decide) ?_
      refine r_aload_n ok 1 d_Lw_1347 rfl rfl ?_
      refine r_aload_n ok 0 d_Lw_1348 rfl rfl ?_
      refine r_iload_n ok 3 d_Lw_1349 rfl rfl ?_
      refine r_iconst ok 1 d_Lw_1350 rfl ?_
      refine r_iadd ok d_Lw_1351 ?_
      refine r_sald ok hsc hL d_Lw_1352 h.1 ?_
      replace h := h.2
      refine r_callVi (As := [vI (scF xs (x3 + 1))]) (rest := []) ok 0 rfl rfl rfl wl_Lw_147 wi_y_LS_why ws_y_LS_why wn_LS wc_y_LS_why (by decide) (by decide) hh_LS_why (Nat.le_of_ble_eq_true rfl) rfl d_Lw_1353 (L_LS_why F.1 F.2.1 F.2.2.1 hD h) (fun r126 s125 h => ?_)
      refine r_aload_n ok 2 d_Lw_1356 rfl rfl ?_
      refine r_aload_n ok 0 d_Lw_1357 rfl rfl ?_
      refine r_iload_n ok 3 d_Lw_1358 rfl rfl ?_
      refine r_iconst ok 1 d_Lw_1359 rfl ?_
      refine r_iadd ok d_Lw_1360 ?_
      refine r_sald ok hsc hL d_Lw_1361 h.1 ?_
      replace h := h.2
      refine r_callVi (As := [vI (scF xs (x3 + 1))]) (rest := [vI r126]) ok 10 rfl rfl rfl wl_Lw_150 wi_y_Md_why ws_y_Md_why wn_Md wc_y_Md_why (by decide) (by decide) hh_Md_why (Nat.le_of_ble_eq_true rfl) rfl d_Lw_1362 (L_Md_why F.1 F.2.1 F.2.2.1 hD h) (fun r128 s127 h => ?_)
      refine r_icmp_eq ok 1462 d_Lw_1365 (by decide) h.1 h.2.1 (fun c => ?_) (fun c => ?_)
      · replace h := h.2.2.1 c
        refine r_iinc ok 3 (x3 + 7) [(3, vI (x3 + 7)), (0, .ref b), (1, .ref (F.2.1.1 0)), (2, .ref (F.2.1.1 10))] d_Lw_1462 rfl rfl hm (by decide) rfl ?_
        refine r_goto ok 18 d_Lw_1465 (by decide) ?_
        exact r_sub [1, 2, 3, 0] rfl h
      · replace h := h.2.2.2 c
        refine r_iconst ok 0 d_Lw_1368 rfl ?_
        exact hQ _ _ _ _ _ (ok_code ok) d_Lw_1369 (by decide) h
    replace h := h.2
    rcases Decidable.em ((bnd (scF xs x3) 63) = 32) with c32 | c32
    · replace h := h.1 c32
      refine r_tblIn ok 32 1370 d_Lw_33 hx c32 (by decide) rfl (by decide) ?_
      refine r_aload_n ok 1 d_Lw_1370 rfl rfl ?_
      refine r_aload_n ok 0 d_Lw_1371 rfl rfl ?_
      refine r_iload_n ok 3 d_Lw_1372 rfl rfl ?_
      refine r_iconst ok 1 d_Lw_1373 rfl ?_
      refine r_iadd ok d_Lw_1374 ?_
      refine r_sald ok hsc hL d_Lw_1375 h.1 ?_
      replace h := h.2
      refine r_callVi (As := [vI (scF xs (x3 + 1))]) (rest := []) ok 0 rfl rfl rfl wl_Lw_151 wi_y_LS_give ws_y_LS_give wn_LS wc_y_LS_give (by decide) (by decide) hh_LS_give (Nat.le_of_ble_eq_true rfl) rfl d_Lw_1376 (L_LS_give F.1 F.2.1 F.2.2.1 hD h) (fun r130 s129 h => ?_)
      refine r_aload_n ok 2 d_Lw_1379 rfl rfl ?_
      refine r_aload_n ok 0 d_Lw_1380 rfl rfl ?_
      refine r_iload_n ok 3 d_Lw_1381 rfl rfl ?_
      refine r_iconst ok 1 d_Lw_1382 rfl ?_
      refine r_iadd ok d_Lw_1383 ?_
      refine r_sald ok hsc hL d_Lw_1384 h.1 ?_
      replace h := h.2
      refine r_callVi (As := [vI (scF xs (x3 + 1))]) (rest := [vI r130]) ok 10 rfl rfl rfl wl_Lw_154 wi_y_Md_give ws_y_Md_give wn_Md wc_y_Md_give (by decide) (by decide) hh_Md_give (Nat.le_of_ble_eq_true rfl) rfl d_Lw_1385 (L_Md_give F.1 F.2.1 F.2.2.1 hD h) (fun r132 s131 h => ?_)
      refine r_icmp_eq ok 1462 d_Lw_1388 (by decide) h.1 h.2.1 (fun c => ?_) (fun c => ?_)
      · replace h := h.2.2.1 c
        refine r_iinc ok 3 (x3 + 7) [(3, vI (x3 + 7)), (0, .ref b), (1, .ref (F.2.1.1 0)), (2, .ref (F.2.1.1 10))] d_Lw_1462 rfl rfl hm (by decide) rfl ?_
        refine r_goto ok 18 d_Lw_1465 (by decide) ?_
        exact r_sub [1, 2, 3, 0] rfl h
      · replace h := h.2.2.2 c
        refine r_iconst ok 0 d_Lw_1391 rfl ?_
        exact hQ _ _ _ _ _ (ok_code ok) d_Lw_1392 (by decide) h
    replace h := h.2
    rcases Decidable.em ((bnd (scF xs x3) 63) = 33) with c33 | c33
    · replace h := h.1 c33
      refine r_tblIn ok 33 1393 d_Lw_33 hx c33 (by decide) rfl (by decide) ?_
      refine r_aload_n ok 1 d_Lw_1393 rfl rfl ?_
      refine r_aload_n ok 0 d_Lw_1394 rfl rfl ?_
      refine r_iload_n ok 3 d_Lw_1395 rfl rfl ?_
      refine r_iconst ok 1 d_Lw_1396 rfl ?_
      refine r_iadd ok d_Lw_1397 ?_
      refine r_sald ok hsc hL d_Lw_1398 h.1 ?_
      replace h := h.2
      refine r_callVi (As := [vI (scF xs (x3 + 1))]) (rest := []) ok 0 rfl rfl rfl wl_Lw_155 wi_y_LS_take ws_y_LS_take wn_LS wc_y_LS_take (by decide) (by decide) hh_LS_take (Nat.le_of_ble_eq_true rfl) rfl d_Lw_1399 (L_LS_take F.1 F.2.1 F.2.2.1 hD h) (fun r134 s133 h => ?_)
      refine r_aload_n ok 2 d_Lw_1402 rfl rfl ?_
      refine r_aload_n ok 0 d_Lw_1403 rfl rfl ?_
      refine r_iload_n ok 3 d_Lw_1404 rfl rfl ?_
      refine r_iconst ok 1 d_Lw_1405 rfl ?_
      refine r_iadd ok d_Lw_1406 ?_
      refine r_sald ok hsc hL d_Lw_1407 h.1 ?_
      replace h := h.2
      refine r_callVi (As := [vI (scF xs (x3 + 1))]) (rest := [vI r134]) ok 10 rfl rfl rfl wl_Lw_158 wi_y_Md_take ws_y_Md_take wn_Md wc_y_Md_take (by decide) (by decide) hh_Md_take (Nat.le_of_ble_eq_true rfl) rfl d_Lw_1408 (L_Md_take F.1 F.2.1 F.2.2.1 hD h) (fun r136 s135 h => ?_)
      refine r_icmp_eq ok 1462 d_Lw_1411 (by decide) h.1 h.2.1 (fun c => ?_) (fun c => ?_)
      · replace h := h.2.2.1 c
        refine r_iinc ok 3 (x3 + 7) [(3, vI (x3 + 7)), (0, .ref b), (1, .ref (F.2.1.1 0)), (2, .ref (F.2.1.1 10))] d_Lw_1462 rfl rfl hm (by decide) rfl ?_
        refine r_goto ok 18 d_Lw_1465 (by decide) ?_
        exact r_sub [1, 2, 3, 0] rfl h
      · replace h := h.2.2.2 c
        refine r_iconst ok 0 d_Lw_1414 rfl ?_
        exact hQ _ _ _ _ _ (ok_code ok) d_Lw_1415 (by decide) h
    replace h := h.2
    rcases Decidable.em ((bnd (scF xs x3) 63) = 34) with c34 | c34
    · replace h := h.1 c34
      refine r_tblIn ok 34 1416 d_Lw_33 hx c34 (by decide) rfl (by decide) ?_
      refine r_aload_n ok 1 d_Lw_1416 rfl rfl ?_
      refine r_aload_n ok 0 d_Lw_1417 rfl rfl ?_
      refine r_iload_n ok 3 d_Lw_1418 rfl rfl ?_
      refine r_iconst ok 1 d_Lw_1419 rfl ?_
      refine r_iadd ok d_Lw_1420 ?_
      refine r_sald ok hsc hL d_Lw_1421 h.1 ?_
      replace h := h.2
      refine r_callVi (As := [vI (scF xs (x3 + 1))]) (rest := []) ok 0 rfl rfl rfl wl_Lw_159 wi_y_LS_named ws_y_LS_named wn_LS wc_y_LS_named (by decide) (by decide) hh_LS_named (Nat.le_of_ble_eq_true rfl) rfl d_Lw_1422 (L_LS_named F.1 F.2.1 F.2.2.1 hD h) (fun r138 s137 h => ?_)
      refine r_aload_n ok 2 d_Lw_1425 rfl rfl ?_
      refine r_aload_n ok 0 d_Lw_1426 rfl rfl ?_
      refine r_iload_n ok 3 d_Lw_1427 rfl rfl ?_
      refine r_iconst ok 1 d_Lw_1428 rfl ?_
      refine r_iadd ok d_Lw_1429 ?_
      refine r_sald ok hsc hL d_Lw_1430 h.1 ?_
      replace h := h.2
      refine r_callVi (As := [vI (scF xs (x3 + 1))]) (rest := [vI r138]) ok 10 rfl rfl rfl wl_Lw_162 wi_y_Md_named ws_y_Md_named wn_Md wc_y_Md_named (by decide) (by decide) hh_Md_named (Nat.le_of_ble_eq_true rfl) rfl d_Lw_1431 (L_Md_named F.1 F.2.1 F.2.2.1 hD h) (fun r140 s139 h => ?_)
      refine r_icmp_eq ok 1462 d_Lw_1434 (by decide) h.1 h.2.1 (fun c => ?_) (fun c => ?_)
      · replace h := h.2.2.1 c
        refine r_iinc ok 3 (x3 + 7) [(3, vI (x3 + 7)), (0, .ref b), (1, .ref (F.2.1.1 0)), (2, .ref (F.2.1.1 10))] d_Lw_1462 rfl rfl hm (by decide) rfl ?_
        refine r_goto ok 18 d_Lw_1465 (by decide) ?_
        exact r_sub [1, 2, 3, 0] rfl h
      · replace h := h.2.2.2 c
        refine r_iconst ok 0 d_Lw_1437 rfl ?_
        exact hQ _ _ _ _ _ (ok_code ok) d_Lw_1438 (by decide) h
    replace h := h.2
    rcases Decidable.em ((bnd (scF xs x3) 63) = 35) with c35 | c35
    · replace h := h.1 c35
      refine r_tblIn ok 35 1439 d_Lw_33 hx c35 (by decide) rfl (by decide) ?_
      refine r_aload_n ok 1 d_Lw_1439 rfl rfl ?_
      refine r_aload_n ok 0 d_Lw_1440 rfl rfl ?_
      refine r_iload_n ok 3 d_Lw_1441 rfl rfl ?_
      refine r_iconst ok 1 d_Lw_1442 rfl ?_
      refine r_iadd ok d_Lw_1443 ?_
      refine r_sald ok hsc hL d_Lw_1444 h.1 ?_
      replace h := h.2
      refine r_callVi (As := [vI (scF xs (x3 + 1))]) (rest := []) ok 0 rfl rfl rfl wl_Lw_163 wi_y_LS_count ws_y_LS_count wn_LS wc_y_LS_count (by decide) (by decide) hh_LS_count (Nat.le_of_ble_eq_true rfl) rfl d_Lw_1445 (L_LS_count F.1 F.2.1 F.2.2.1 hD h) (fun r142 s141 h => ?_)
      refine r_aload_n ok 2 d_Lw_1448 rfl rfl ?_
      refine r_aload_n ok 0 d_Lw_1449 rfl rfl ?_
      refine r_iload_n ok 3 d_Lw_1450 rfl rfl ?_
      refine r_iconst ok 1 d_Lw_1451 rfl ?_
      refine r_iadd ok d_Lw_1452 ?_
      refine r_sald ok hsc hL d_Lw_1453 h.1 ?_
      replace h := h.2
      refine r_callVi (As := [vI (scF xs (x3 + 1))]) (rest := [vI r142]) ok 10 rfl rfl rfl wl_Lw_166 wi_y_Md_count ws_y_Md_count wn_Md wc_y_Md_count (by decide) (by decide) hh_Md_count (Nat.le_of_ble_eq_true rfl) rfl d_Lw_1454 (L_Md_count F.1 F.2.1 F.2.2.1 hD h) (fun r144 s143 h => ?_)
      refine r_icmp_eq ok 1462 d_Lw_1457 (by decide) h.1 h.2.1 (fun c => ?_) (fun c => ?_)
      · replace h := h.2.2.1 c
        refine r_iinc ok 3 (x3 + 7) [(3, vI (x3 + 7)), (0, .ref b), (1, .ref (F.2.1.1 0)), (2, .ref (F.2.1.1 10))] d_Lw_1462 rfl rfl hm (by decide) rfl ?_
        refine r_goto ok 18 d_Lw_1465 (by decide) ?_
        exact r_sub [1, 2, 3, 0] rfl h
      · replace h := h.2.2.2 c
        refine r_iconst ok 0 d_Lw_1460 rfl ?_
        exact hQ _ _ _ _ _ (ok_code ok) d_Lw_1461 (by decide) h
    replace h := h.2
    replace h := h c0 c1 c2 c3 c4 c5 c6 c7 c8 c9 c10 c11 c12 c13 c14 c15 c16 c17 c18 c19 c20 c21 c22 c23 c24 c25 c26 c27 c28 c29 c30 c31 c32 c33 c34 c35
    refine r_tblOut ok 1462 d_Lw_33 hx (by omega) (by decide) ?_
    refine r_iinc ok 3 (x3 + 7) [(3, vI (x3 + 7)), (0, .ref b), (1, .ref (F.2.1.1 0)), (2, .ref (F.2.1.1 10))] d_Lw_1462 rfl rfl hm (by decide) rfl ?_
    refine r_goto ok 18 d_Lw_1465 (by decide) ?_
    exact r_sub [1, 2, 3, 0] rfl h
end
