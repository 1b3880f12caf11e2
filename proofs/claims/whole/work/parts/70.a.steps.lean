/-! the law's steps (printed by wip/gen/law.py) -/
theorem dl_0 : decode code 0 = .ok (.new 7, 3) := by decide +kernel
theorem dl_3 : decode code 3 = .ok (.dup, 1) := by decide +kernel
theorem dl_4 : decode code 4 = .ok (.invokespecial 9, 3) := by decide +kernel
theorem dl_7 : decode code 7 = .ok (.astore_n 1, 1) := by decide +kernel
theorem dl_8 : decode code 8 = .ok (.new 10, 3) := by decide +kernel
theorem dl_11 : decode code 11 = .ok (.dup, 1) := by decide +kernel
theorem dl_12 : decode code 12 = .ok (.invokespecial 12, 3) := by decide +kernel
theorem dl_15 : decode code 15 = .ok (.astore_n 2, 1) := by decide +kernel
theorem dl_16 : decode code 16 = .ok (.iconst 0, 1) := by decide +kernel
theorem dl_17 : decode code 17 = .ok (.istore_n 3, 1) := by decide +kernel
theorem dl_18 : decode code 18 = .ok (.iload_n 3, 1) := by decide +kernel
theorem dl_19 : decode code 19 = .ok (.aload_n 0, 1) := by decide +kernel
theorem dl_20 : decode code 20 = .ok (.arraylength, 1) := by decide +kernel
theorem dl_21 : decode code 21 = .ok (.bipush 6, 2) := by decide +kernel
theorem dl_23 : decode code 23 = .ok (.isub, 1) := by decide +kernel
theorem dl_24 : decode code 24 = .ok (.if_icmp .gt 1178, 3) := by decide +kernel
theorem dl_27 : decode code 27 = .ok (.aload_n 0, 1) := by decide +kernel
theorem dl_28 : decode code 28 = .ok (.iload_n 3, 1) := by decide +kernel
theorem dl_29 : decode code 29 = .ok (.iaload, 1) := by decide +kernel
theorem dl_30 : decode code 30 = .ok (.bipush 31, 2) := by decide +kernel
theorem dl_32 : decode code 32 = .ok (.iand, 1) := by decide +kernel
theorem dl_33 : decode code 33 = .ok (.tableswitch 1163 0 27 #[127, 170, 213, 246, 289, 312, 325, 348, 391, 434, 467, 500, 533, 576, 619, 642, 676, 729, 782, 815, 879, 892, 905, 928, 971, 1014, 1077, 1130], 127) := by decide +kernel
theorem dl_160 : decode code 160 = .ok (.aload_n 1, 1) := by decide +kernel
theorem dl_161 : decode code 161 = .ok (.aload_n 0, 1) := by decide +kernel
theorem dl_162 : decode code 162 = .ok (.iload_n 3, 1) := by decide +kernel
theorem dl_163 : decode code 163 = .ok (.iconst 1, 1) := by decide +kernel
theorem dl_164 : decode code 164 = .ok (.iadd, 1) := by decide +kernel
theorem dl_165 : decode code 165 = .ok (.iaload, 1) := by decide +kernel
theorem dl_166 : decode code 166 = .ok (.aload_n 0, 1) := by decide +kernel
theorem dl_167 : decode code 167 = .ok (.iload_n 3, 1) := by decide +kernel
theorem dl_168 : decode code 168 = .ok (.iconst 2, 1) := by decide +kernel
theorem dl_169 : decode code 169 = .ok (.iadd, 1) := by decide +kernel
theorem dl_170 : decode code 170 = .ok (.iaload, 1) := by decide +kernel
theorem dl_171 : decode code 171 = .ok (.aload_n 0, 1) := by decide +kernel
theorem dl_172 : decode code 172 = .ok (.iload_n 3, 1) := by decide +kernel
theorem dl_173 : decode code 173 = .ok (.iconst 3, 1) := by decide +kernel
theorem dl_174 : decode code 174 = .ok (.iadd, 1) := by decide +kernel
theorem dl_175 : decode code 175 = .ok (.iaload, 1) := by decide +kernel
theorem dl_176 : decode code 176 = .ok (.invokevirtual 13, 3) := by decide +kernel
theorem dl_179 : decode code 179 = .ok (.aload_n 2, 1) := by decide +kernel
theorem dl_180 : decode code 180 = .ok (.aload_n 0, 1) := by decide +kernel
theorem dl_181 : decode code 181 = .ok (.iload_n 3, 1) := by decide +kernel
theorem dl_182 : decode code 182 = .ok (.iconst 1, 1) := by decide +kernel
theorem dl_183 : decode code 183 = .ok (.iadd, 1) := by decide +kernel
theorem dl_184 : decode code 184 = .ok (.iaload, 1) := by decide +kernel
theorem dl_185 : decode code 185 = .ok (.aload_n 0, 1) := by decide +kernel
theorem dl_186 : decode code 186 = .ok (.iload_n 3, 1) := by decide +kernel
theorem dl_187 : decode code 187 = .ok (.iconst 2, 1) := by decide +kernel
theorem dl_188 : decode code 188 = .ok (.iadd, 1) := by decide +kernel
theorem dl_189 : decode code 189 = .ok (.iaload, 1) := by decide +kernel
theorem dl_190 : decode code 190 = .ok (.aload_n 0, 1) := by decide +kernel
theorem dl_191 : decode code 191 = .ok (.iload_n 3, 1) := by decide +kernel
theorem dl_192 : decode code 192 = .ok (.iconst 3, 1) := by decide +kernel
theorem dl_193 : decode code 193 = .ok (.iadd, 1) := by decide +kernel
theorem dl_194 : decode code 194 = .ok (.iaload, 1) := by decide +kernel
theorem dl_195 : decode code 195 = .ok (.invokevirtual 17, 3) := by decide +kernel
theorem dl_198 : decode code 198 = .ok (.if_icmp .eq 998, 3) := by decide +kernel
theorem dl_201 : decode code 201 = .ok (.iconst 0, 1) := by decide +kernel
theorem dl_202 : decode code 202 = .ok (.ireturn, 1) := by decide +kernel
theorem dl_203 : decode code 203 = .ok (.aload_n 1, 1) := by decide +kernel
theorem dl_204 : decode code 204 = .ok (.aload_n 0, 1) := by decide +kernel
theorem dl_205 : decode code 205 = .ok (.iload_n 3, 1) := by decide +kernel
theorem dl_206 : decode code 206 = .ok (.iconst 1, 1) := by decide +kernel
theorem dl_207 : decode code 207 = .ok (.iadd, 1) := by decide +kernel
theorem dl_208 : decode code 208 = .ok (.iaload, 1) := by decide +kernel
theorem dl_209 : decode code 209 = .ok (.aload_n 0, 1) := by decide +kernel
theorem dl_210 : decode code 210 = .ok (.iload_n 3, 1) := by decide +kernel
theorem dl_211 : decode code 211 = .ok (.iconst 2, 1) := by decide +kernel
theorem dl_212 : decode code 212 = .ok (.iadd, 1) := by decide +kernel
theorem dl_213 : decode code 213 = .ok (.iaload, 1) := by decide +kernel
theorem dl_214 : decode code 214 = .ok (.aload_n 0, 1) := by decide +kernel
theorem dl_215 : decode code 215 = .ok (.iload_n 3, 1) := by decide +kernel
theorem dl_216 : decode code 216 = .ok (.iconst 3, 1) := by decide +kernel
theorem dl_217 : decode code 217 = .ok (.iadd, 1) := by decide +kernel
theorem dl_218 : decode code 218 = .ok (.iaload, 1) := by decide +kernel
theorem dl_219 : decode code 219 = .ok (.invokevirtual 18, 3) := by decide +kernel
theorem dl_222 : decode code 222 = .ok (.aload_n 2, 1) := by decide +kernel
theorem dl_223 : decode code 223 = .ok (.aload_n 0, 1) := by decide +kernel
theorem dl_224 : decode code 224 = .ok (.iload_n 3, 1) := by decide +kernel
theorem dl_225 : decode code 225 = .ok (.iconst 1, 1) := by decide +kernel
theorem dl_226 : decode code 226 = .ok (.iadd, 1) := by decide +kernel
theorem dl_227 : decode code 227 = .ok (.iaload, 1) := by decide +kernel
theorem dl_228 : decode code 228 = .ok (.aload_n 0, 1) := by decide +kernel
theorem dl_229 : decode code 229 = .ok (.iload_n 3, 1) := by decide +kernel
theorem dl_230 : decode code 230 = .ok (.iconst 2, 1) := by decide +kernel
theorem dl_231 : decode code 231 = .ok (.iadd, 1) := by decide +kernel
theorem dl_232 : decode code 232 = .ok (.iaload, 1) := by decide +kernel
theorem dl_233 : decode code 233 = .ok (.aload_n 0, 1) := by decide +kernel
theorem dl_234 : decode code 234 = .ok (.iload_n 3, 1) := by decide +kernel
theorem dl_235 : decode code 235 = .ok (.iconst 3, 1) := by decide +kernel
theorem dl_236 : decode code 236 = .ok (.iadd, 1) := by decide +kernel
theorem dl_237 : decode code 237 = .ok (.iaload, 1) := by decide +kernel
theorem dl_238 : decode code 238 = .ok (.invokevirtual 21, 3) := by decide +kernel
theorem dl_241 : decode code 241 = .ok (.if_icmp .eq 955, 3) := by decide +kernel
theorem dl_244 : decode code 244 = .ok (.iconst 0, 1) := by decide +kernel
theorem dl_245 : decode code 245 = .ok (.ireturn, 1) := by decide +kernel
theorem dl_246 : decode code 246 = .ok (.aload_n 1, 1) := by decide +kernel
theorem dl_247 : decode code 247 = .ok (.aload_n 0, 1) := by decide +kernel
theorem dl_248 : decode code 248 = .ok (.iload_n 3, 1) := by decide +kernel
theorem dl_249 : decode code 249 = .ok (.iconst 1, 1) := by decide +kernel
theorem dl_250 : decode code 250 = .ok (.iadd, 1) := by decide +kernel
theorem dl_251 : decode code 251 = .ok (.iaload, 1) := by decide +kernel
theorem dl_252 : decode code 252 = .ok (.aload_n 0, 1) := by decide +kernel
theorem dl_253 : decode code 253 = .ok (.iload_n 3, 1) := by decide +kernel
theorem dl_254 : decode code 254 = .ok (.iconst 2, 1) := by decide +kernel
theorem dl_255 : decode code 255 = .ok (.iadd, 1) := by decide +kernel
theorem dl_256 : decode code 256 = .ok (.iaload, 1) := by decide +kernel
theorem dl_257 : decode code 257 = .ok (.invokevirtual 22, 3) := by decide +kernel
theorem dl_260 : decode code 260 = .ok (.aload_n 2, 1) := by decide +kernel
theorem dl_261 : decode code 261 = .ok (.aload_n 0, 1) := by decide +kernel
theorem dl_262 : decode code 262 = .ok (.iload_n 3, 1) := by decide +kernel
theorem dl_263 : decode code 263 = .ok (.iconst 1, 1) := by decide +kernel
theorem dl_264 : decode code 264 = .ok (.iadd, 1) := by decide +kernel
theorem dl_265 : decode code 265 = .ok (.iaload, 1) := by decide +kernel
theorem dl_266 : decode code 266 = .ok (.aload_n 0, 1) := by decide +kernel
theorem dl_267 : decode code 267 = .ok (.iload_n 3, 1) := by decide +kernel
theorem dl_268 : decode code 268 = .ok (.iconst 2, 1) := by decide +kernel
theorem dl_269 : decode code 269 = .ok (.iadd, 1) := by decide +kernel
theorem dl_270 : decode code 270 = .ok (.iaload, 1) := by decide +kernel
theorem dl_271 : decode code 271 = .ok (.invokevirtual 26, 3) := by decide +kernel
theorem dl_274 : decode code 274 = .ok (.if_icmp .eq 922, 3) := by decide +kernel
theorem dl_277 : decode code 277 = .ok (.iconst 0, 1) := by decide +kernel
theorem dl_278 : decode code 278 = .ok (.ireturn, 1) := by decide +kernel
theorem dl_279 : decode code 279 = .ok (.aload_n 1, 1) := by decide +kernel
theorem dl_280 : decode code 280 = .ok (.aload_n 0, 1) := by decide +kernel
theorem dl_281 : decode code 281 = .ok (.iload_n 3, 1) := by decide +kernel
theorem dl_282 : decode code 282 = .ok (.iconst 1, 1) := by decide +kernel
theorem dl_283 : decode code 283 = .ok (.iadd, 1) := by decide +kernel
theorem dl_284 : decode code 284 = .ok (.iaload, 1) := by decide +kernel
theorem dl_285 : decode code 285 = .ok (.aload_n 0, 1) := by decide +kernel
theorem dl_286 : decode code 286 = .ok (.iload_n 3, 1) := by decide +kernel
theorem dl_287 : decode code 287 = .ok (.iconst 2, 1) := by decide +kernel
theorem dl_288 : decode code 288 = .ok (.iadd, 1) := by decide +kernel
theorem dl_289 : decode code 289 = .ok (.iaload, 1) := by decide +kernel
theorem dl_290 : decode code 290 = .ok (.aload_n 0, 1) := by decide +kernel
theorem dl_291 : decode code 291 = .ok (.iload_n 3, 1) := by decide +kernel
theorem dl_292 : decode code 292 = .ok (.iconst 3, 1) := by decide +kernel
theorem dl_293 : decode code 293 = .ok (.iadd, 1) := by decide +kernel
theorem dl_294 : decode code 294 = .ok (.iaload, 1) := by decide +kernel
theorem dl_295 : decode code 295 = .ok (.invokevirtual 27, 3) := by decide +kernel
theorem dl_298 : decode code 298 = .ok (.aload_n 2, 1) := by decide +kernel
theorem dl_299 : decode code 299 = .ok (.aload_n 0, 1) := by decide +kernel
theorem dl_300 : decode code 300 = .ok (.iload_n 3, 1) := by decide +kernel
theorem dl_301 : decode code 301 = .ok (.iconst 1, 1) := by decide +kernel
theorem dl_302 : decode code 302 = .ok (.iadd, 1) := by decide +kernel
theorem dl_303 : decode code 303 = .ok (.iaload, 1) := by decide +kernel
theorem dl_304 : decode code 304 = .ok (.aload_n 0, 1) := by decide +kernel
theorem dl_305 : decode code 305 = .ok (.iload_n 3, 1) := by decide +kernel
theorem dl_306 : decode code 306 = .ok (.iconst 2, 1) := by decide +kernel
theorem dl_307 : decode code 307 = .ok (.iadd, 1) := by decide +kernel
theorem dl_308 : decode code 308 = .ok (.iaload, 1) := by decide +kernel
theorem dl_309 : decode code 309 = .ok (.aload_n 0, 1) := by decide +kernel
theorem dl_310 : decode code 310 = .ok (.iload_n 3, 1) := by decide +kernel
theorem dl_311 : decode code 311 = .ok (.iconst 3, 1) := by decide +kernel
theorem dl_312 : decode code 312 = .ok (.iadd, 1) := by decide +kernel
theorem dl_313 : decode code 313 = .ok (.iaload, 1) := by decide +kernel
theorem dl_314 : decode code 314 = .ok (.invokevirtual 30, 3) := by decide +kernel
theorem dl_317 : decode code 317 = .ok (.if_icmp .eq 879, 3) := by decide +kernel
theorem dl_320 : decode code 320 = .ok (.iconst 0, 1) := by decide +kernel
theorem dl_321 : decode code 321 = .ok (.ireturn, 1) := by decide +kernel
theorem dl_322 : decode code 322 = .ok (.aload_n 1, 1) := by decide +kernel
theorem dl_323 : decode code 323 = .ok (.aload_n 0, 1) := by decide +kernel
theorem dl_324 : decode code 324 = .ok (.iload_n 3, 1) := by decide +kernel
theorem dl_325 : decode code 325 = .ok (.iconst 1, 1) := by decide +kernel
theorem dl_326 : decode code 326 = .ok (.iadd, 1) := by decide +kernel
theorem dl_327 : decode code 327 = .ok (.iaload, 1) := by decide +kernel
theorem dl_328 : decode code 328 = .ok (.invokevirtual 31, 3) := by decide +kernel
theorem dl_331 : decode code 331 = .ok (.aload_n 2, 1) := by decide +kernel
theorem dl_332 : decode code 332 = .ok (.aload_n 0, 1) := by decide +kernel
theorem dl_333 : decode code 333 = .ok (.iload_n 3, 1) := by decide +kernel
theorem dl_334 : decode code 334 = .ok (.iconst 1, 1) := by decide +kernel
theorem dl_335 : decode code 335 = .ok (.iadd, 1) := by decide +kernel
theorem dl_336 : decode code 336 = .ok (.iaload, 1) := by decide +kernel
theorem dl_337 : decode code 337 = .ok (.invokevirtual 35, 3) := by decide +kernel
theorem dl_340 : decode code 340 = .ok (.if_icmp .eq 856, 3) := by decide +kernel
theorem dl_343 : decode code 343 = .ok (.iconst 0, 1) := by decide +kernel
theorem dl_344 : decode code 344 = .ok (.ireturn, 1) := by decide +kernel
theorem dl_345 : decode code 345 = .ok (.aload_n 1, 1) := by decide +kernel
theorem dl_346 : decode code 346 = .ok (.invokevirtual 36, 3) := by decide +kernel
theorem dl_349 : decode code 349 = .ok (.aload_n 2, 1) := by decide +kernel
theorem dl_350 : decode code 350 = .ok (.invokevirtual 40, 3) := by decide +kernel
theorem dl_353 : decode code 353 = .ok (.if_icmp .eq 843, 3) := by decide +kernel
theorem dl_356 : decode code 356 = .ok (.iconst 0, 1) := by decide +kernel
theorem dl_357 : decode code 357 = .ok (.ireturn, 1) := by decide +kernel
theorem dl_358 : decode code 358 = .ok (.aload_n 1, 1) := by decide +kernel
theorem dl_359 : decode code 359 = .ok (.aload_n 0, 1) := by decide +kernel
theorem dl_360 : decode code 360 = .ok (.iload_n 3, 1) := by decide +kernel
theorem dl_361 : decode code 361 = .ok (.iconst 1, 1) := by decide +kernel
theorem dl_362 : decode code 362 = .ok (.iadd, 1) := by decide +kernel
theorem dl_363 : decode code 363 = .ok (.iaload, 1) := by decide +kernel
theorem dl_364 : decode code 364 = .ok (.invokevirtual 41, 3) := by decide +kernel
theorem dl_367 : decode code 367 = .ok (.aload_n 2, 1) := by decide +kernel
theorem dl_368 : decode code 368 = .ok (.aload_n 0, 1) := by decide +kernel
theorem dl_369 : decode code 369 = .ok (.iload_n 3, 1) := by decide +kernel
theorem dl_370 : decode code 370 = .ok (.iconst 1, 1) := by decide +kernel
theorem dl_371 : decode code 371 = .ok (.iadd, 1) := by decide +kernel
theorem dl_372 : decode code 372 = .ok (.iaload, 1) := by decide +kernel
theorem dl_373 : decode code 373 = .ok (.invokevirtual 44, 3) := by decide +kernel
theorem dl_376 : decode code 376 = .ok (.if_icmp .eq 820, 3) := by decide +kernel
theorem dl_379 : decode code 379 = .ok (.iconst 0, 1) := by decide +kernel
theorem dl_380 : decode code 380 = .ok (.ireturn, 1) := by decide +kernel
theorem dl_381 : decode code 381 = .ok (.aload_n 1, 1) := by decide +kernel
theorem dl_382 : decode code 382 = .ok (.aload_n 0, 1) := by decide +kernel
theorem dl_383 : decode code 383 = .ok (.iload_n 3, 1) := by decide +kernel
theorem dl_384 : decode code 384 = .ok (.iconst 1, 1) := by decide +kernel
theorem dl_385 : decode code 385 = .ok (.iadd, 1) := by decide +kernel
theorem dl_386 : decode code 386 = .ok (.iaload, 1) := by decide +kernel
theorem dl_387 : decode code 387 = .ok (.aload_n 0, 1) := by decide +kernel
theorem dl_388 : decode code 388 = .ok (.iload_n 3, 1) := by decide +kernel
theorem dl_389 : decode code 389 = .ok (.iconst 2, 1) := by decide +kernel
theorem dl_390 : decode code 390 = .ok (.iadd, 1) := by decide +kernel
theorem dl_391 : decode code 391 = .ok (.iaload, 1) := by decide +kernel
theorem dl_392 : decode code 392 = .ok (.aload_n 0, 1) := by decide +kernel
theorem dl_393 : decode code 393 = .ok (.iload_n 3, 1) := by decide +kernel
theorem dl_394 : decode code 394 = .ok (.iconst 3, 1) := by decide +kernel
theorem dl_395 : decode code 395 = .ok (.iadd, 1) := by decide +kernel
theorem dl_396 : decode code 396 = .ok (.iaload, 1) := by decide +kernel
theorem dl_397 : decode code 397 = .ok (.invokevirtual 45, 3) := by decide +kernel
theorem dl_400 : decode code 400 = .ok (.aload_n 2, 1) := by decide +kernel
theorem dl_401 : decode code 401 = .ok (.aload_n 0, 1) := by decide +kernel
theorem dl_402 : decode code 402 = .ok (.iload_n 3, 1) := by decide +kernel
theorem dl_403 : decode code 403 = .ok (.iconst 1, 1) := by decide +kernel
theorem dl_404 : decode code 404 = .ok (.iadd, 1) := by decide +kernel
theorem dl_405 : decode code 405 = .ok (.iaload, 1) := by decide +kernel
theorem dl_406 : decode code 406 = .ok (.aload_n 0, 1) := by decide +kernel
theorem dl_407 : decode code 407 = .ok (.iload_n 3, 1) := by decide +kernel
theorem dl_408 : decode code 408 = .ok (.iconst 2, 1) := by decide +kernel
theorem dl_409 : decode code 409 = .ok (.iadd, 1) := by decide +kernel
theorem dl_410 : decode code 410 = .ok (.iaload, 1) := by decide +kernel
theorem dl_411 : decode code 411 = .ok (.aload_n 0, 1) := by decide +kernel
theorem dl_412 : decode code 412 = .ok (.iload_n 3, 1) := by decide +kernel
theorem dl_413 : decode code 413 = .ok (.iconst 3, 1) := by decide +kernel
theorem dl_414 : decode code 414 = .ok (.iadd, 1) := by decide +kernel
theorem dl_415 : decode code 415 = .ok (.iaload, 1) := by decide +kernel
theorem dl_416 : decode code 416 = .ok (.invokevirtual 48, 3) := by decide +kernel
theorem dl_419 : decode code 419 = .ok (.if_icmp .eq 777, 3) := by decide +kernel
theorem dl_422 : decode code 422 = .ok (.iconst 0, 1) := by decide +kernel
theorem dl_423 : decode code 423 = .ok (.ireturn, 1) := by decide +kernel
theorem dl_424 : decode code 424 = .ok (.aload_n 1, 1) := by decide +kernel
theorem dl_425 : decode code 425 = .ok (.aload_n 0, 1) := by decide +kernel
theorem dl_426 : decode code 426 = .ok (.iload_n 3, 1) := by decide +kernel
theorem dl_427 : decode code 427 = .ok (.iconst 1, 1) := by decide +kernel
theorem dl_428 : decode code 428 = .ok (.iadd, 1) := by decide +kernel
theorem dl_429 : decode code 429 = .ok (.iaload, 1) := by decide +kernel
theorem dl_430 : decode code 430 = .ok (.aload_n 0, 1) := by decide +kernel
theorem dl_431 : decode code 431 = .ok (.iload_n 3, 1) := by decide +kernel
theorem dl_432 : decode code 432 = .ok (.iconst 2, 1) := by decide +kernel
theorem dl_433 : decode code 433 = .ok (.iadd, 1) := by decide +kernel
theorem dl_434 : decode code 434 = .ok (.iaload, 1) := by decide +kernel
theorem dl_435 : decode code 435 = .ok (.aload_n 0, 1) := by decide +kernel
theorem dl_436 : decode code 436 = .ok (.iload_n 3, 1) := by decide +kernel
theorem dl_437 : decode code 437 = .ok (.iconst 3, 1) := by decide +kernel
theorem dl_438 : decode code 438 = .ok (.iadd, 1) := by decide +kernel
theorem dl_439 : decode code 439 = .ok (.iaload, 1) := by decide +kernel
theorem dl_440 : decode code 440 = .ok (.invokevirtual 49, 3) := by decide +kernel
theorem dl_443 : decode code 443 = .ok (.aload_n 2, 1) := by decide +kernel
theorem dl_444 : decode code 444 = .ok (.aload_n 0, 1) := by decide +kernel
theorem dl_445 : decode code 445 = .ok (.iload_n 3, 1) := by decide +kernel
theorem dl_446 : decode code 446 = .ok (.iconst 1, 1) := by decide +kernel
theorem dl_447 : decode code 447 = .ok (.iadd, 1) := by decide +kernel
theorem dl_448 : decode code 448 = .ok (.iaload, 1) := by decide +kernel
theorem dl_449 : decode code 449 = .ok (.aload_n 0, 1) := by decide +kernel
theorem dl_450 : decode code 450 = .ok (.iload_n 3, 1) := by decide +kernel
theorem dl_451 : decode code 451 = .ok (.iconst 2, 1) := by decide +kernel
theorem dl_452 : decode code 452 = .ok (.iadd, 1) := by decide +kernel
theorem dl_453 : decode code 453 = .ok (.iaload, 1) := by decide +kernel
theorem dl_454 : decode code 454 = .ok (.aload_n 0, 1) := by decide +kernel
theorem dl_455 : decode code 455 = .ok (.iload_n 3, 1) := by decide +kernel
theorem dl_456 : decode code 456 = .ok (.iconst 3, 1) := by decide +kernel
theorem dl_457 : decode code 457 = .ok (.iadd, 1) := by decide +kernel
theorem dl_458 : decode code 458 = .ok (.iaload, 1) := by decide +kernel
theorem dl_459 : decode code 459 = .ok (.invokevirtual 52, 3) := by decide +kernel
theorem dl_462 : decode code 462 = .ok (.if_icmp .eq 734, 3) := by decide +kernel
theorem dl_465 : decode code 465 = .ok (.iconst 0, 1) := by decide +kernel
theorem dl_466 : decode code 466 = .ok (.ireturn, 1) := by decide +kernel
theorem dl_467 : decode code 467 = .ok (.aload_n 1, 1) := by decide +kernel
theorem dl_468 : decode code 468 = .ok (.aload_n 0, 1) := by decide +kernel
theorem dl_469 : decode code 469 = .ok (.iload_n 3, 1) := by decide +kernel
theorem dl_470 : decode code 470 = .ok (.iconst 1, 1) := by decide +kernel
theorem dl_471 : decode code 471 = .ok (.iadd, 1) := by decide +kernel
theorem dl_472 : decode code 472 = .ok (.iaload, 1) := by decide +kernel
theorem dl_473 : decode code 473 = .ok (.aload_n 0, 1) := by decide +kernel
theorem dl_474 : decode code 474 = .ok (.iload_n 3, 1) := by decide +kernel
theorem dl_475 : decode code 475 = .ok (.iconst 2, 1) := by decide +kernel
theorem dl_476 : decode code 476 = .ok (.iadd, 1) := by decide +kernel
theorem dl_477 : decode code 477 = .ok (.iaload, 1) := by decide +kernel
theorem dl_478 : decode code 478 = .ok (.invokevirtual 53, 3) := by decide +kernel
theorem dl_481 : decode code 481 = .ok (.aload_n 2, 1) := by decide +kernel
theorem dl_482 : decode code 482 = .ok (.aload_n 0, 1) := by decide +kernel
theorem dl_483 : decode code 483 = .ok (.iload_n 3, 1) := by decide +kernel
theorem dl_484 : decode code 484 = .ok (.iconst 1, 1) := by decide +kernel
theorem dl_485 : decode code 485 = .ok (.iadd, 1) := by decide +kernel
theorem dl_486 : decode code 486 = .ok (.iaload, 1) := by decide +kernel
theorem dl_487 : decode code 487 = .ok (.aload_n 0, 1) := by decide +kernel
theorem dl_488 : decode code 488 = .ok (.iload_n 3, 1) := by decide +kernel
theorem dl_489 : decode code 489 = .ok (.iconst 2, 1) := by decide +kernel
theorem dl_490 : decode code 490 = .ok (.iadd, 1) := by decide +kernel
theorem dl_491 : decode code 491 = .ok (.iaload, 1) := by decide +kernel
theorem dl_492 : decode code 492 = .ok (.invokevirtual 56, 3) := by decide +kernel
theorem dl_495 : decode code 495 = .ok (.if_icmp .eq 701, 3) := by decide +kernel
