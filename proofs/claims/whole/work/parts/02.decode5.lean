/-! decode rows (by program) -/
theorem dd_La_law_145 : decode code 145 = .ok (.iadd, 1) := by decide +kernel
theorem dd_La_law_146 : decode code 146 = .ok (.iaload, 1) := by decide +kernel
theorem dd_La_law_147 : decode code 147 = .ok (.aload_n 0, 1) := by decide +kernel
theorem dd_La_law_148 : decode code 148 = .ok (.iload_n 3, 1) := by decide +kernel
theorem dd_La_law_149 : decode code 149 = .ok (.iconst 3, 1) := by decide +kernel
theorem dd_La_law_150 : decode code 150 = .ok (.iadd, 1) := by decide +kernel
theorem dd_La_law_151 : decode code 151 = .ok (.iaload, 1) := by decide +kernel
theorem dd_La_law_152 : decode code 152 = .ok (.ifCond .eq 7, 3) := by decide +kernel
theorem dd_La_law_155 : decode code 155 = .ok (.iconst 1, 1) := by decide +kernel
theorem dd_La_law_156 : decode code 156 = .ok (.goto 4, 3) := by decide +kernel
theorem dd_La_law_159 : decode code 159 = .ok (.iconst 0, 1) := by decide +kernel
theorem dd_La_law_160 : decode code 160 = .ok (.invokevirtual 21, 3) := by decide +kernel
theorem dd_La_law_163 : decode code 163 = .ok (.aload_n 2, 1) := by decide +kernel
theorem dd_La_law_164 : decode code 164 = .ok (.aload_n 0, 1) := by decide +kernel
theorem dd_La_law_165 : decode code 165 = .ok (.iload_n 3, 1) := by decide +kernel
theorem dd_La_law_166 : decode code 166 = .ok (.iconst 1, 1) := by decide +kernel
theorem dd_La_law_167 : decode code 167 = .ok (.iadd, 1) := by decide +kernel
theorem dd_La_law_168 : decode code 168 = .ok (.iaload, 1) := by decide +kernel
theorem dd_La_law_169 : decode code 169 = .ok (.aload_n 0, 1) := by decide +kernel
theorem dd_La_law_170 : decode code 170 = .ok (.iload_n 3, 1) := by decide +kernel
theorem dd_La_law_171 : decode code 171 = .ok (.iconst 2, 1) := by decide +kernel
theorem dd_La_law_172 : decode code 172 = .ok (.iadd, 1) := by decide +kernel
theorem dd_La_law_173 : decode code 173 = .ok (.iaload, 1) := by decide +kernel
theorem dd_La_law_174 : decode code 174 = .ok (.aload_n 0, 1) := by decide +kernel
theorem dd_La_law_175 : decode code 175 = .ok (.iload_n 3, 1) := by decide +kernel
theorem dd_La_law_176 : decode code 176 = .ok (.iconst 3, 1) := by decide +kernel
theorem dd_La_law_177 : decode code 177 = .ok (.iadd, 1) := by decide +kernel
theorem dd_La_law_178 : decode code 178 = .ok (.iaload, 1) := by decide +kernel
theorem dd_La_law_179 : decode code 179 = .ok (.ifCond .eq 7, 3) := by decide +kernel
theorem dd_La_law_182 : decode code 182 = .ok (.iconst 1, 1) := by decide +kernel
theorem dd_La_law_183 : decode code 183 = .ok (.goto 4, 3) := by decide +kernel
theorem dd_La_law_186 : decode code 186 = .ok (.iconst 0, 1) := by decide +kernel
theorem dd_La_law_187 : decode code 187 = .ok (.invokevirtual 25, 3) := by decide +kernel
theorem dd_La_law_190 : decode code 190 = .ok (.if_icmp .eq 638, 3) := by decide +kernel
theorem dd_La_law_193 : decode code 193 = .ok (.iconst 0, 1) := by decide +kernel
theorem dd_La_law_194 : decode code 194 = .ok (.ireturn, 1) := by decide +kernel
theorem dd_La_law_195 : decode code 195 = .ok (.aload_n 1, 1) := by decide +kernel
theorem dd_La_law_196 : decode code 196 = .ok (.aload_n 0, 1) := by decide +kernel
theorem dd_La_law_197 : decode code 197 = .ok (.iload_n 3, 1) := by decide +kernel
theorem dd_La_law_198 : decode code 198 = .ok (.iconst 1, 1) := by decide +kernel
theorem dd_La_law_199 : decode code 199 = .ok (.iadd, 1) := by decide +kernel
theorem dd_La_law_200 : decode code 200 = .ok (.iaload, 1) := by decide +kernel
theorem dd_La_law_201 : decode code 201 = .ok (.invokevirtual 26, 3) := by decide +kernel
theorem dd_La_law_204 : decode code 204 = .ok (.aload_n 2, 1) := by decide +kernel
theorem dd_La_law_205 : decode code 205 = .ok (.aload_n 0, 1) := by decide +kernel
theorem dd_La_law_206 : decode code 206 = .ok (.iload_n 3, 1) := by decide +kernel
theorem dd_La_law_207 : decode code 207 = .ok (.iconst 1, 1) := by decide +kernel
theorem dd_La_law_208 : decode code 208 = .ok (.iadd, 1) := by decide +kernel
theorem dd_La_law_209 : decode code 209 = .ok (.iaload, 1) := by decide +kernel
theorem dd_La_law_210 : decode code 210 = .ok (.invokevirtual 30, 3) := by decide +kernel
theorem dd_La_law_213 : decode code 213 = .ok (.if_icmp .eq 615, 3) := by decide +kernel
theorem dd_La_law_216 : decode code 216 = .ok (.iconst 0, 1) := by decide +kernel
theorem dd_La_law_217 : decode code 217 = .ok (.ireturn, 1) := by decide +kernel
theorem dd_La_law_218 : decode code 218 = .ok (.aload_n 1, 1) := by decide +kernel
theorem dd_La_law_219 : decode code 219 = .ok (.aload_n 0, 1) := by decide +kernel
theorem dd_La_law_220 : decode code 220 = .ok (.iload_n 3, 1) := by decide +kernel
theorem dd_La_law_221 : decode code 221 = .ok (.iconst 1, 1) := by decide +kernel
theorem dd_La_law_222 : decode code 222 = .ok (.iadd, 1) := by decide +kernel
theorem dd_La_law_223 : decode code 223 = .ok (.iaload, 1) := by decide +kernel
theorem dd_La_law_224 : decode code 224 = .ok (.aload_n 0, 1) := by decide +kernel
theorem dd_La_law_225 : decode code 225 = .ok (.iload_n 3, 1) := by decide +kernel
theorem dd_La_law_226 : decode code 226 = .ok (.iconst 2, 1) := by decide +kernel
theorem dd_La_law_227 : decode code 227 = .ok (.iadd, 1) := by decide +kernel
theorem dd_La_law_228 : decode code 228 = .ok (.iaload, 1) := by decide +kernel
theorem dd_La_law_229 : decode code 229 = .ok (.ifCond .eq 7, 3) := by decide +kernel
theorem dd_La_law_232 : decode code 232 = .ok (.iconst 1, 1) := by decide +kernel
theorem dd_La_law_233 : decode code 233 = .ok (.goto 4, 3) := by decide +kernel
theorem dd_La_law_236 : decode code 236 = .ok (.iconst 0, 1) := by decide +kernel
theorem dd_La_law_237 : decode code 237 = .ok (.invokevirtual 31, 3) := by decide +kernel
theorem dd_La_law_240 : decode code 240 = .ok (.aload_n 2, 1) := by decide +kernel
theorem dd_La_law_241 : decode code 241 = .ok (.aload_n 0, 1) := by decide +kernel
theorem dd_La_law_242 : decode code 242 = .ok (.iload_n 3, 1) := by decide +kernel
theorem dd_La_law_243 : decode code 243 = .ok (.iconst 1, 1) := by decide +kernel
theorem dd_La_law_244 : decode code 244 = .ok (.iadd, 1) := by decide +kernel
theorem dd_La_law_245 : decode code 245 = .ok (.iaload, 1) := by decide +kernel
theorem dd_La_law_246 : decode code 246 = .ok (.aload_n 0, 1) := by decide +kernel
theorem dd_La_law_247 : decode code 247 = .ok (.iload_n 3, 1) := by decide +kernel
theorem dd_La_law_248 : decode code 248 = .ok (.iconst 2, 1) := by decide +kernel
theorem dd_La_law_249 : decode code 249 = .ok (.iadd, 1) := by decide +kernel
theorem dd_La_law_250 : decode code 250 = .ok (.iaload, 1) := by decide +kernel
theorem dd_La_law_251 : decode code 251 = .ok (.ifCond .eq 7, 3) := by decide +kernel
theorem dd_La_law_254 : decode code 254 = .ok (.iconst 1, 1) := by decide +kernel
theorem dd_La_law_255 : decode code 255 = .ok (.goto 4, 3) := by decide +kernel
theorem dd_La_law_258 : decode code 258 = .ok (.iconst 0, 1) := by decide +kernel
theorem dd_La_law_259 : decode code 259 = .ok (.invokevirtual 35, 3) := by decide +kernel
theorem dd_La_law_262 : decode code 262 = .ok (.if_icmp .eq 566, 3) := by decide +kernel
theorem dd_La_law_265 : decode code 265 = .ok (.iconst 0, 1) := by decide +kernel
theorem dd_La_law_266 : decode code 266 = .ok (.ireturn, 1) := by decide +kernel
theorem dd_La_law_267 : decode code 267 = .ok (.aload_n 1, 1) := by decide +kernel
theorem dd_La_law_268 : decode code 268 = .ok (.aload_n 0, 1) := by decide +kernel
theorem dd_La_law_269 : decode code 269 = .ok (.iload_n 3, 1) := by decide +kernel
theorem dd_La_law_270 : decode code 270 = .ok (.iconst 1, 1) := by decide +kernel
theorem dd_La_law_271 : decode code 271 = .ok (.iadd, 1) := by decide +kernel
theorem dd_La_law_272 : decode code 272 = .ok (.iaload, 1) := by decide +kernel
theorem dd_La_law_273 : decode code 273 = .ok (.aload_n 0, 1) := by decide +kernel
theorem dd_La_law_274 : decode code 274 = .ok (.iload_n 3, 1) := by decide +kernel
theorem dd_La_law_275 : decode code 275 = .ok (.iconst 2, 1) := by decide +kernel
theorem dd_La_law_276 : decode code 276 = .ok (.iadd, 1) := by decide +kernel
theorem dd_La_law_277 : decode code 277 = .ok (.iaload, 1) := by decide +kernel
theorem dd_La_law_278 : decode code 278 = .ok (.aload_n 0, 1) := by decide +kernel
theorem dd_La_law_279 : decode code 279 = .ok (.iload_n 3, 1) := by decide +kernel
theorem dd_La_law_280 : decode code 280 = .ok (.iconst 3, 1) := by decide +kernel
theorem dd_La_law_281 : decode code 281 = .ok (.iadd, 1) := by decide +kernel
theorem dd_La_law_282 : decode code 282 = .ok (.iaload, 1) := by decide +kernel
theorem dd_La_law_283 : decode code 283 = .ok (.aload_n 0, 1) := by decide +kernel
theorem dd_La_law_284 : decode code 284 = .ok (.iload_n 3, 1) := by decide +kernel
theorem dd_La_law_285 : decode code 285 = .ok (.iconst 4, 1) := by decide +kernel
theorem dd_La_law_286 : decode code 286 = .ok (.iadd, 1) := by decide +kernel
theorem dd_La_law_287 : decode code 287 = .ok (.iaload, 1) := by decide +kernel
theorem dd_La_law_288 : decode code 288 = .ok (.invokevirtual 36, 3) := by decide +kernel
theorem dd_La_law_291 : decode code 291 = .ok (.aload_n 2, 1) := by decide +kernel
theorem dd_La_law_292 : decode code 292 = .ok (.aload_n 0, 1) := by decide +kernel
theorem dd_La_law_293 : decode code 293 = .ok (.iload_n 3, 1) := by decide +kernel
theorem dd_La_law_294 : decode code 294 = .ok (.iconst 1, 1) := by decide +kernel
theorem dd_La_law_295 : decode code 295 = .ok (.iadd, 1) := by decide +kernel
theorem dd_La_law_296 : decode code 296 = .ok (.iaload, 1) := by decide +kernel
theorem dd_La_law_297 : decode code 297 = .ok (.aload_n 0, 1) := by decide +kernel
theorem dd_La_law_298 : decode code 298 = .ok (.iload_n 3, 1) := by decide +kernel
theorem dd_La_law_299 : decode code 299 = .ok (.iconst 2, 1) := by decide +kernel
theorem dd_La_law_300 : decode code 300 = .ok (.iadd, 1) := by decide +kernel
theorem dd_La_law_301 : decode code 301 = .ok (.iaload, 1) := by decide +kernel
theorem dd_La_law_302 : decode code 302 = .ok (.aload_n 0, 1) := by decide +kernel
theorem dd_La_law_303 : decode code 303 = .ok (.iload_n 3, 1) := by decide +kernel
theorem dd_La_law_304 : decode code 304 = .ok (.iconst 3, 1) := by decide +kernel
theorem dd_La_law_305 : decode code 305 = .ok (.iadd, 1) := by decide +kernel
theorem dd_La_law_306 : decode code 306 = .ok (.iaload, 1) := by decide +kernel
theorem dd_La_law_307 : decode code 307 = .ok (.aload_n 0, 1) := by decide +kernel
theorem dd_La_law_308 : decode code 308 = .ok (.iload_n 3, 1) := by decide +kernel
theorem dd_La_law_309 : decode code 309 = .ok (.iconst 4, 1) := by decide +kernel
theorem dd_La_law_310 : decode code 310 = .ok (.iadd, 1) := by decide +kernel
theorem dd_La_law_311 : decode code 311 = .ok (.iaload, 1) := by decide +kernel
theorem dd_La_law_312 : decode code 312 = .ok (.invokevirtual 40, 3) := by decide +kernel
theorem dd_La_law_315 : decode code 315 = .ok (.if_icmp .eq 513, 3) := by decide +kernel
theorem dd_La_law_318 : decode code 318 = .ok (.iconst 0, 1) := by decide +kernel
theorem dd_La_law_319 : decode code 319 = .ok (.ireturn, 1) := by decide +kernel
theorem dd_La_law_320 : decode code 320 = .ok (.aload_n 1, 1) := by decide +kernel
theorem dd_La_law_321 : decode code 321 = .ok (.aload_n 0, 1) := by decide +kernel
theorem dd_La_law_322 : decode code 322 = .ok (.iload_n 3, 1) := by decide +kernel
theorem dd_La_law_323 : decode code 323 = .ok (.iconst 1, 1) := by decide +kernel
theorem dd_La_law_324 : decode code 324 = .ok (.iadd, 1) := by decide +kernel
theorem dd_La_law_325 : decode code 325 = .ok (.iaload, 1) := by decide +kernel
theorem dd_La_law_326 : decode code 326 = .ok (.aload_n 0, 1) := by decide +kernel
theorem dd_La_law_327 : decode code 327 = .ok (.iload_n 3, 1) := by decide +kernel
theorem dd_La_law_328 : decode code 328 = .ok (.iconst 2, 1) := by decide +kernel
theorem dd_La_law_329 : decode code 329 = .ok (.iadd, 1) := by decide +kernel
theorem dd_La_law_330 : decode code 330 = .ok (.iaload, 1) := by decide +kernel
theorem dd_La_law_331 : decode code 331 = .ok (.aload_n 0, 1) := by decide +kernel
theorem dd_La_law_332 : decode code 332 = .ok (.iload_n 3, 1) := by decide +kernel
theorem dd_La_law_333 : decode code 333 = .ok (.iconst 3, 1) := by decide +kernel
theorem dd_La_law_334 : decode code 334 = .ok (.iadd, 1) := by decide +kernel
theorem dd_La_law_335 : decode code 335 = .ok (.iaload, 1) := by decide +kernel
theorem dd_La_law_336 : decode code 336 = .ok (.aload_n 0, 1) := by decide +kernel
theorem dd_La_law_337 : decode code 337 = .ok (.iload_n 3, 1) := by decide +kernel
theorem dd_La_law_338 : decode code 338 = .ok (.iconst 4, 1) := by decide +kernel
theorem dd_La_law_339 : decode code 339 = .ok (.iadd, 1) := by decide +kernel
theorem dd_La_law_340 : decode code 340 = .ok (.iaload, 1) := by decide +kernel
theorem dd_La_law_341 : decode code 341 = .ok (.invokevirtual 41, 3) := by decide +kernel
theorem dd_La_law_344 : decode code 344 = .ok (.aload_n 2, 1) := by decide +kernel
theorem dd_La_law_345 : decode code 345 = .ok (.aload_n 0, 1) := by decide +kernel
theorem dd_La_law_346 : decode code 346 = .ok (.iload_n 3, 1) := by decide +kernel
theorem dd_La_law_347 : decode code 347 = .ok (.iconst 1, 1) := by decide +kernel
theorem dd_La_law_348 : decode code 348 = .ok (.iadd, 1) := by decide +kernel
theorem dd_La_law_349 : decode code 349 = .ok (.iaload, 1) := by decide +kernel
theorem dd_La_law_350 : decode code 350 = .ok (.aload_n 0, 1) := by decide +kernel
theorem dd_La_law_351 : decode code 351 = .ok (.iload_n 3, 1) := by decide +kernel
theorem dd_La_law_352 : decode code 352 = .ok (.iconst 2, 1) := by decide +kernel
theorem dd_La_law_353 : decode code 353 = .ok (.iadd, 1) := by decide +kernel
theorem dd_La_law_354 : decode code 354 = .ok (.iaload, 1) := by decide +kernel
theorem dd_La_law_355 : decode code 355 = .ok (.aload_n 0, 1) := by decide +kernel
theorem dd_La_law_356 : decode code 356 = .ok (.iload_n 3, 1) := by decide +kernel
theorem dd_La_law_357 : decode code 357 = .ok (.iconst 3, 1) := by decide +kernel
theorem dd_La_law_358 : decode code 358 = .ok (.iadd, 1) := by decide +kernel
theorem dd_La_law_359 : decode code 359 = .ok (.iaload, 1) := by decide +kernel
theorem dd_La_law_360 : decode code 360 = .ok (.aload_n 0, 1) := by decide +kernel
theorem dd_La_law_361 : decode code 361 = .ok (.iload_n 3, 1) := by decide +kernel
theorem dd_La_law_362 : decode code 362 = .ok (.iconst 4, 1) := by decide +kernel
theorem dd_La_law_363 : decode code 363 = .ok (.iadd, 1) := by decide +kernel
theorem dd_La_law_364 : decode code 364 = .ok (.iaload, 1) := by decide +kernel
theorem dd_La_law_365 : decode code 365 = .ok (.invokevirtual 44, 3) := by decide +kernel
theorem dd_La_law_368 : decode code 368 = .ok (.if_icmp .eq 460, 3) := by decide +kernel
theorem dd_La_law_371 : decode code 371 = .ok (.iconst 0, 1) := by decide +kernel
theorem dd_La_law_372 : decode code 372 = .ok (.ireturn, 1) := by decide +kernel
theorem dd_La_law_373 : decode code 373 = .ok (.aload_n 1, 1) := by decide +kernel
theorem dd_La_law_374 : decode code 374 = .ok (.aload_n 0, 1) := by decide +kernel
theorem dd_La_law_375 : decode code 375 = .ok (.iload_n 3, 1) := by decide +kernel
theorem dd_La_law_376 : decode code 376 = .ok (.iconst 1, 1) := by decide +kernel
theorem dd_La_law_377 : decode code 377 = .ok (.iadd, 1) := by decide +kernel
theorem dd_La_law_378 : decode code 378 = .ok (.iaload, 1) := by decide +kernel
theorem dd_La_law_379 : decode code 379 = .ok (.aload_n 0, 1) := by decide +kernel
theorem dd_La_law_380 : decode code 380 = .ok (.iload_n 3, 1) := by decide +kernel
theorem dd_La_law_381 : decode code 381 = .ok (.iconst 2, 1) := by decide +kernel
theorem dd_La_law_382 : decode code 382 = .ok (.iadd, 1) := by decide +kernel
theorem dd_La_law_383 : decode code 383 = .ok (.iaload, 1) := by decide +kernel
theorem dd_La_law_384 : decode code 384 = .ok (.aload_n 0, 1) := by decide +kernel
theorem dd_La_law_385 : decode code 385 = .ok (.iload_n 3, 1) := by decide +kernel
theorem dd_La_law_386 : decode code 386 = .ok (.iconst 3, 1) := by decide +kernel
theorem dd_La_law_387 : decode code 387 = .ok (.iadd, 1) := by decide +kernel
theorem dd_La_law_388 : decode code 388 = .ok (.iaload, 1) := by decide +kernel
theorem dd_La_law_389 : decode code 389 = .ok (.aload_n 0, 1) := by decide +kernel
theorem dd_La_law_390 : decode code 390 = .ok (.iload_n 3, 1) := by decide +kernel
theorem dd_La_law_391 : decode code 391 = .ok (.iconst 4, 1) := by decide +kernel
theorem dd_La_law_392 : decode code 392 = .ok (.iadd, 1) := by decide +kernel
theorem dd_La_law_393 : decode code 393 = .ok (.iaload, 1) := by decide +kernel
theorem dd_La_law_394 : decode code 394 = .ok (.invokevirtual 45, 3) := by decide +kernel
theorem dd_La_law_397 : decode code 397 = .ok (.aload_n 2, 1) := by decide +kernel
theorem dd_La_law_398 : decode code 398 = .ok (.aload_n 0, 1) := by decide +kernel
theorem dd_La_law_399 : decode code 399 = .ok (.iload_n 3, 1) := by decide +kernel
theorem dd_La_law_400 : decode code 400 = .ok (.iconst 1, 1) := by decide +kernel
theorem dd_La_law_401 : decode code 401 = .ok (.iadd, 1) := by decide +kernel
theorem dd_La_law_402 : decode code 402 = .ok (.iaload, 1) := by decide +kernel
theorem dd_La_law_403 : decode code 403 = .ok (.aload_n 0, 1) := by decide +kernel
theorem dd_La_law_404 : decode code 404 = .ok (.iload_n 3, 1) := by decide +kernel
theorem dd_La_law_405 : decode code 405 = .ok (.iconst 2, 1) := by decide +kernel
theorem dd_La_law_406 : decode code 406 = .ok (.iadd, 1) := by decide +kernel
theorem dd_La_law_407 : decode code 407 = .ok (.iaload, 1) := by decide +kernel
theorem dd_La_law_408 : decode code 408 = .ok (.aload_n 0, 1) := by decide +kernel
theorem dd_La_law_409 : decode code 409 = .ok (.iload_n 3, 1) := by decide +kernel
theorem dd_La_law_410 : decode code 410 = .ok (.iconst 3, 1) := by decide +kernel
theorem dd_La_law_411 : decode code 411 = .ok (.iadd, 1) := by decide +kernel
theorem dd_La_law_412 : decode code 412 = .ok (.iaload, 1) := by decide +kernel
theorem dd_La_law_413 : decode code 413 = .ok (.aload_n 0, 1) := by decide +kernel
theorem dd_La_law_414 : decode code 414 = .ok (.iload_n 3, 1) := by decide +kernel
theorem dd_La_law_415 : decode code 415 = .ok (.iconst 4, 1) := by decide +kernel
theorem dd_La_law_416 : decode code 416 = .ok (.iadd, 1) := by decide +kernel
theorem dd_La_law_417 : decode code 417 = .ok (.iaload, 1) := by decide +kernel
theorem dd_La_law_418 : decode code 418 = .ok (.invokevirtual 48, 3) := by decide +kernel
theorem dd_La_law_421 : decode code 421 = .ok (.if_icmp .eq 407, 3) := by decide +kernel
theorem dd_La_law_424 : decode code 424 = .ok (.iconst 0, 1) := by decide +kernel
theorem dd_La_law_425 : decode code 425 = .ok (.ireturn, 1) := by decide +kernel
theorem dd_La_law_426 : decode code 426 = .ok (.aload_n 1, 1) := by decide +kernel
theorem dd_La_law_427 : decode code 427 = .ok (.aload_n 0, 1) := by decide +kernel
theorem dd_La_law_428 : decode code 428 = .ok (.iload_n 3, 1) := by decide +kernel
theorem dd_La_law_429 : decode code 429 = .ok (.iconst 1, 1) := by decide +kernel
theorem dd_La_law_430 : decode code 430 = .ok (.iadd, 1) := by decide +kernel
theorem dd_La_law_431 : decode code 431 = .ok (.iaload, 1) := by decide +kernel
theorem dd_La_law_432 : decode code 432 = .ok (.aload_n 0, 1) := by decide +kernel
theorem dd_La_law_433 : decode code 433 = .ok (.iload_n 3, 1) := by decide +kernel
theorem dd_La_law_434 : decode code 434 = .ok (.iconst 2, 1) := by decide +kernel
theorem dd_La_law_435 : decode code 435 = .ok (.iadd, 1) := by decide +kernel
theorem dd_La_law_436 : decode code 436 = .ok (.iaload, 1) := by decide +kernel
theorem dd_La_law_437 : decode code 437 = .ok (.aload_n 0, 1) := by decide +kernel
theorem dd_La_law_438 : decode code 438 = .ok (.iload_n 3, 1) := by decide +kernel
theorem dd_La_law_439 : decode code 439 = .ok (.iconst 3, 1) := by decide +kernel
theorem dd_La_law_440 : decode code 440 = .ok (.iadd, 1) := by decide +kernel
theorem dd_La_law_441 : decode code 441 = .ok (.iaload, 1) := by decide +kernel
theorem dd_La_law_442 : decode code 442 = .ok (.invokevirtual 49, 3) := by decide +kernel
theorem dd_La_law_445 : decode code 445 = .ok (.aload_n 2, 1) := by decide +kernel
theorem dd_La_law_446 : decode code 446 = .ok (.aload_n 0, 1) := by decide +kernel
theorem dd_La_law_447 : decode code 447 = .ok (.iload_n 3, 1) := by decide +kernel
theorem dd_La_law_448 : decode code 448 = .ok (.iconst 1, 1) := by decide +kernel
theorem dd_La_law_449 : decode code 449 = .ok (.iadd, 1) := by decide +kernel
theorem dd_La_law_450 : decode code 450 = .ok (.iaload, 1) := by decide +kernel
theorem dd_La_law_451 : decode code 451 = .ok (.aload_n 0, 1) := by decide +kernel
theorem dd_La_law_452 : decode code 452 = .ok (.iload_n 3, 1) := by decide +kernel
theorem dd_La_law_453 : decode code 453 = .ok (.iconst 2, 1) := by decide +kernel
theorem dd_La_law_454 : decode code 454 = .ok (.iadd, 1) := by decide +kernel
theorem dd_La_law_455 : decode code 455 = .ok (.iaload, 1) := by decide +kernel
theorem dd_La_law_456 : decode code 456 = .ok (.aload_n 0, 1) := by decide +kernel
theorem dd_La_law_457 : decode code 457 = .ok (.iload_n 3, 1) := by decide +kernel
theorem dd_La_law_458 : decode code 458 = .ok (.iconst 3, 1) := by decide +kernel
theorem dd_La_law_459 : decode code 459 = .ok (.iadd, 1) := by decide +kernel
theorem dd_La_law_460 : decode code 460 = .ok (.iaload, 1) := by decide +kernel
theorem dd_La_law_461 : decode code 461 = .ok (.invokevirtual 53, 3) := by decide +kernel
theorem dd_La_law_464 : decode code 464 = .ok (.if_icmp .eq 364, 3) := by decide +kernel
theorem dd_La_law_467 : decode code 467 = .ok (.iconst 0, 1) := by decide +kernel
theorem dd_La_law_468 : decode code 468 = .ok (.ireturn, 1) := by decide +kernel
theorem dd_La_law_469 : decode code 469 = .ok (.aload_n 1, 1) := by decide +kernel
theorem dd_La_law_470 : decode code 470 = .ok (.aload_n 0, 1) := by decide +kernel
theorem dd_La_law_471 : decode code 471 = .ok (.iload_n 3, 1) := by decide +kernel
theorem dd_La_law_472 : decode code 472 = .ok (.iconst 1, 1) := by decide +kernel
theorem dd_La_law_473 : decode code 473 = .ok (.iadd, 1) := by decide +kernel
theorem dd_La_law_474 : decode code 474 = .ok (.iaload, 1) := by decide +kernel
theorem dd_La_law_475 : decode code 475 = .ok (.invokevirtual 54, 3) := by decide +kernel
theorem dd_La_law_478 : decode code 478 = .ok (.aload_n 2, 1) := by decide +kernel
theorem dd_La_law_479 : decode code 479 = .ok (.aload_n 0, 1) := by decide +kernel
theorem dd_La_law_480 : decode code 480 = .ok (.iload_n 3, 1) := by decide +kernel
theorem dd_La_law_481 : decode code 481 = .ok (.iconst 1, 1) := by decide +kernel
theorem dd_La_law_482 : decode code 482 = .ok (.iadd, 1) := by decide +kernel
theorem dd_La_law_483 : decode code 483 = .ok (.iaload, 1) := by decide +kernel
theorem dd_La_law_484 : decode code 484 = .ok (.invokevirtual 58, 3) := by decide +kernel
theorem dd_La_law_487 : decode code 487 = .ok (.if_icmp .eq 341, 3) := by decide +kernel
theorem dd_La_law_490 : decode code 490 = .ok (.iconst 0, 1) := by decide +kernel
theorem dd_La_law_491 : decode code 491 = .ok (.ireturn, 1) := by decide +kernel
theorem dd_La_law_492 : decode code 492 = .ok (.aload_n 1, 1) := by decide +kernel
theorem dd_La_law_493 : decode code 493 = .ok (.aload_n 0, 1) := by decide +kernel
theorem dd_La_law_494 : decode code 494 = .ok (.iload_n 3, 1) := by decide +kernel
theorem dd_La_law_495 : decode code 495 = .ok (.iconst 1, 1) := by decide +kernel
theorem dd_La_law_496 : decode code 496 = .ok (.iadd, 1) := by decide +kernel
theorem dd_La_law_497 : decode code 497 = .ok (.iaload, 1) := by decide +kernel
theorem dd_La_law_498 : decode code 498 = .ok (.aload_n 0, 1) := by decide +kernel
theorem dd_La_law_499 : decode code 499 = .ok (.iload_n 3, 1) := by decide +kernel
theorem dd_La_law_500 : decode code 500 = .ok (.iconst 2, 1) := by decide +kernel
theorem dd_La_law_501 : decode code 501 = .ok (.iadd, 1) := by decide +kernel
theorem dd_La_law_502 : decode code 502 = .ok (.iaload, 1) := by decide +kernel
theorem dd_La_law_503 : decode code 503 = .ok (.invokevirtual 59, 3) := by decide +kernel
theorem dd_La_law_506 : decode code 506 = .ok (.aload_n 2, 1) := by decide +kernel
theorem dd_La_law_507 : decode code 507 = .ok (.aload_n 0, 1) := by decide +kernel
theorem dd_La_law_508 : decode code 508 = .ok (.iload_n 3, 1) := by decide +kernel
theorem dd_La_law_509 : decode code 509 = .ok (.iconst 1, 1) := by decide +kernel
theorem dd_La_law_510 : decode code 510 = .ok (.iadd, 1) := by decide +kernel
theorem dd_La_law_511 : decode code 511 = .ok (.iaload, 1) := by decide +kernel
theorem dd_La_law_512 : decode code 512 = .ok (.aload_n 0, 1) := by decide +kernel
theorem dd_La_law_513 : decode code 513 = .ok (.iload_n 3, 1) := by decide +kernel
theorem dd_La_law_514 : decode code 514 = .ok (.iconst 2, 1) := by decide +kernel
theorem dd_La_law_515 : decode code 515 = .ok (.iadd, 1) := by decide +kernel
theorem dd_La_law_516 : decode code 516 = .ok (.iaload, 1) := by decide +kernel
theorem dd_La_law_517 : decode code 517 = .ok (.invokevirtual 63, 3) := by decide +kernel
theorem dd_La_law_520 : decode code 520 = .ok (.if_icmp .eq 308, 3) := by decide +kernel
theorem dd_La_law_523 : decode code 523 = .ok (.iconst 0, 1) := by decide +kernel
theorem dd_La_law_524 : decode code 524 = .ok (.ireturn, 1) := by decide +kernel
theorem dd_La_law_525 : decode code 525 = .ok (.aload_n 1, 1) := by decide +kernel
theorem dd_La_law_526 : decode code 526 = .ok (.aload_n 0, 1) := by decide +kernel
theorem dd_La_law_527 : decode code 527 = .ok (.iload_n 3, 1) := by decide +kernel
theorem dd_La_law_528 : decode code 528 = .ok (.iconst 1, 1) := by decide +kernel
theorem dd_La_law_529 : decode code 529 = .ok (.iadd, 1) := by decide +kernel
theorem dd_La_law_530 : decode code 530 = .ok (.iaload, 1) := by decide +kernel
theorem dd_La_law_531 : decode code 531 = .ok (.aload_n 0, 1) := by decide +kernel
theorem dd_La_law_532 : decode code 532 = .ok (.iload_n 3, 1) := by decide +kernel
theorem dd_La_law_533 : decode code 533 = .ok (.iconst 2, 1) := by decide +kernel
theorem dd_La_law_534 : decode code 534 = .ok (.iadd, 1) := by decide +kernel
theorem dd_La_law_535 : decode code 535 = .ok (.iaload, 1) := by decide +kernel
theorem dd_La_law_536 : decode code 536 = .ok (.aload_n 0, 1) := by decide +kernel
theorem dd_La_law_537 : decode code 537 = .ok (.iload_n 3, 1) := by decide +kernel
theorem dd_La_law_538 : decode code 538 = .ok (.iconst 3, 1) := by decide +kernel
theorem dd_La_law_539 : decode code 539 = .ok (.iadd, 1) := by decide +kernel
theorem dd_La_law_540 : decode code 540 = .ok (.iaload, 1) := by decide +kernel
theorem dd_La_law_541 : decode code 541 = .ok (.invokevirtual 64, 3) := by decide +kernel
theorem dd_La_law_544 : decode code 544 = .ok (.aload_n 2, 1) := by decide +kernel
theorem dd_La_law_545 : decode code 545 = .ok (.aload_n 0, 1) := by decide +kernel
theorem dd_La_law_546 : decode code 546 = .ok (.iload_n 3, 1) := by decide +kernel
theorem dd_La_law_547 : decode code 547 = .ok (.iconst 1, 1) := by decide +kernel
theorem dd_La_law_548 : decode code 548 = .ok (.iadd, 1) := by decide +kernel
theorem dd_La_law_549 : decode code 549 = .ok (.iaload, 1) := by decide +kernel
theorem dd_La_law_550 : decode code 550 = .ok (.aload_n 0, 1) := by decide +kernel
theorem dd_La_law_551 : decode code 551 = .ok (.iload_n 3, 1) := by decide +kernel
theorem dd_La_law_552 : decode code 552 = .ok (.iconst 2, 1) := by decide +kernel
theorem dd_La_law_553 : decode code 553 = .ok (.iadd, 1) := by decide +kernel
theorem dd_La_law_554 : decode code 554 = .ok (.iaload, 1) := by decide +kernel
theorem dd_La_law_555 : decode code 555 = .ok (.aload_n 0, 1) := by decide +kernel
theorem dd_La_law_556 : decode code 556 = .ok (.iload_n 3, 1) := by decide +kernel
theorem dd_La_law_557 : decode code 557 = .ok (.iconst 3, 1) := by decide +kernel
theorem dd_La_law_558 : decode code 558 = .ok (.iadd, 1) := by decide +kernel
theorem dd_La_law_559 : decode code 559 = .ok (.iaload, 1) := by decide +kernel
theorem dd_La_law_560 : decode code 560 = .ok (.invokevirtual 68, 3) := by decide +kernel
theorem dd_La_law_563 : decode code 563 = .ok (.if_icmp .eq 265, 3) := by decide +kernel
theorem dd_La_law_566 : decode code 566 = .ok (.iconst 0, 1) := by decide +kernel
theorem dd_La_law_567 : decode code 567 = .ok (.ireturn, 1) := by decide +kernel
theorem dd_La_law_568 : decode code 568 = .ok (.aload_n 1, 1) := by decide +kernel
theorem dd_La_law_569 : decode code 569 = .ok (.aload_n 0, 1) := by decide +kernel
theorem dd_La_law_570 : decode code 570 = .ok (.iload_n 3, 1) := by decide +kernel
theorem dd_La_law_571 : decode code 571 = .ok (.iconst 1, 1) := by decide +kernel
theorem dd_La_law_572 : decode code 572 = .ok (.iadd, 1) := by decide +kernel
theorem dd_La_law_573 : decode code 573 = .ok (.iaload, 1) := by decide +kernel
theorem dd_La_law_574 : decode code 574 = .ok (.invokevirtual 69, 3) := by decide +kernel
theorem dd_La_law_577 : decode code 577 = .ok (.aload_n 2, 1) := by decide +kernel
theorem dd_La_law_578 : decode code 578 = .ok (.aload_n 0, 1) := by decide +kernel
theorem dd_La_law_579 : decode code 579 = .ok (.iload_n 3, 1) := by decide +kernel
theorem dd_La_law_580 : decode code 580 = .ok (.iconst 1, 1) := by decide +kernel
theorem dd_La_law_581 : decode code 581 = .ok (.iadd, 1) := by decide +kernel
theorem dd_La_law_582 : decode code 582 = .ok (.iaload, 1) := by decide +kernel
theorem dd_La_law_583 : decode code 583 = .ok (.invokevirtual 72, 3) := by decide +kernel
theorem dd_La_law_586 : decode code 586 = .ok (.if_icmp .eq 242, 3) := by decide +kernel
theorem dd_La_law_589 : decode code 589 = .ok (.iconst 0, 1) := by decide +kernel
theorem dd_La_law_590 : decode code 590 = .ok (.ireturn, 1) := by decide +kernel
theorem dd_La_law_591 : decode code 591 = .ok (.aload_n 1, 1) := by decide +kernel
theorem dd_La_law_592 : decode code 592 = .ok (.aload_n 0, 1) := by decide +kernel
theorem dd_La_law_593 : decode code 593 = .ok (.iload_n 3, 1) := by decide +kernel
theorem dd_La_law_594 : decode code 594 = .ok (.iconst 1, 1) := by decide +kernel
theorem dd_La_law_595 : decode code 595 = .ok (.iadd, 1) := by decide +kernel
theorem dd_La_law_596 : decode code 596 = .ok (.iaload, 1) := by decide +kernel
theorem dd_La_law_597 : decode code 597 = .ok (.invokevirtual 73, 3) := by decide +kernel
theorem dd_La_law_600 : decode code 600 = .ok (.aload_n 2, 1) := by decide +kernel
theorem dd_La_law_601 : decode code 601 = .ok (.aload_n 0, 1) := by decide +kernel
theorem dd_La_law_602 : decode code 602 = .ok (.iload_n 3, 1) := by decide +kernel
theorem dd_La_law_603 : decode code 603 = .ok (.iconst 1, 1) := by decide +kernel
theorem dd_La_law_604 : decode code 604 = .ok (.iadd, 1) := by decide +kernel
theorem dd_La_law_605 : decode code 605 = .ok (.iaload, 1) := by decide +kernel
theorem dd_La_law_606 : decode code 606 = .ok (.invokevirtual 76, 3) := by decide +kernel
theorem dd_La_law_609 : decode code 609 = .ok (.if_icmp .eq 219, 3) := by decide +kernel
theorem dd_La_law_612 : decode code 612 = .ok (.iconst 0, 1) := by decide +kernel
theorem dd_La_law_613 : decode code 613 = .ok (.ireturn, 1) := by decide +kernel
theorem dd_La_law_614 : decode code 614 = .ok (.aload_n 1, 1) := by decide +kernel
theorem dd_La_law_615 : decode code 615 = .ok (.aload_n 0, 1) := by decide +kernel
theorem dd_La_law_616 : decode code 616 = .ok (.iload_n 3, 1) := by decide +kernel
theorem dd_La_law_617 : decode code 617 = .ok (.iconst 1, 1) := by decide +kernel
theorem dd_La_law_618 : decode code 618 = .ok (.iadd, 1) := by decide +kernel
theorem dd_La_law_619 : decode code 619 = .ok (.iaload, 1) := by decide +kernel
theorem dd_La_law_620 : decode code 620 = .ok (.invokevirtual 77, 3) := by decide +kernel
theorem dd_La_law_623 : decode code 623 = .ok (.aload_n 2, 1) := by decide +kernel
theorem dd_La_law_624 : decode code 624 = .ok (.aload_n 0, 1) := by decide +kernel
theorem dd_La_law_625 : decode code 625 = .ok (.iload_n 3, 1) := by decide +kernel
theorem dd_La_law_626 : decode code 626 = .ok (.iconst 1, 1) := by decide +kernel
theorem dd_La_law_627 : decode code 627 = .ok (.iadd, 1) := by decide +kernel
theorem dd_La_law_628 : decode code 628 = .ok (.iaload, 1) := by decide +kernel
theorem dd_La_law_629 : decode code 629 = .ok (.invokevirtual 80, 3) := by decide +kernel
theorem dd_La_law_632 : decode code 632 = .ok (.if_icmp .eq 196, 3) := by decide +kernel
theorem dd_La_law_635 : decode code 635 = .ok (.iconst 0, 1) := by decide +kernel
theorem dd_La_law_636 : decode code 636 = .ok (.ireturn, 1) := by decide +kernel
theorem dd_La_law_637 : decode code 637 = .ok (.aload_n 1, 1) := by decide +kernel
theorem dd_La_law_638 : decode code 638 = .ok (.aload_n 0, 1) := by decide +kernel
theorem dd_La_law_639 : decode code 639 = .ok (.iload_n 3, 1) := by decide +kernel
theorem dd_La_law_640 : decode code 640 = .ok (.iconst 1, 1) := by decide +kernel
theorem dd_La_law_641 : decode code 641 = .ok (.iadd, 1) := by decide +kernel
theorem dd_La_law_642 : decode code 642 = .ok (.iaload, 1) := by decide +kernel
theorem dd_La_law_643 : decode code 643 = .ok (.invokevirtual 81, 3) := by decide +kernel
theorem dd_La_law_646 : decode code 646 = .ok (.aload_n 2, 1) := by decide +kernel
theorem dd_La_law_647 : decode code 647 = .ok (.aload_n 0, 1) := by decide +kernel
theorem dd_La_law_648 : decode code 648 = .ok (.iload_n 3, 1) := by decide +kernel
theorem dd_La_law_649 : decode code 649 = .ok (.iconst 1, 1) := by decide +kernel
theorem dd_La_law_650 : decode code 650 = .ok (.iadd, 1) := by decide +kernel
theorem dd_La_law_651 : decode code 651 = .ok (.iaload, 1) := by decide +kernel
theorem dd_La_law_652 : decode code 652 = .ok (.invokevirtual 84, 3) := by decide +kernel
theorem dd_La_law_655 : decode code 655 = .ok (.if_icmp .eq 173, 3) := by decide +kernel
theorem dd_La_law_658 : decode code 658 = .ok (.iconst 0, 1) := by decide +kernel
theorem dd_La_law_659 : decode code 659 = .ok (.ireturn, 1) := by decide +kernel
theorem dd_La_law_660 : decode code 660 = .ok (.aload_n 1, 1) := by decide +kernel
theorem dd_La_law_661 : decode code 661 = .ok (.aload_n 0, 1) := by decide +kernel
theorem dd_La_law_662 : decode code 662 = .ok (.iload_n 3, 1) := by decide +kernel
theorem dd_La_law_663 : decode code 663 = .ok (.iconst 1, 1) := by decide +kernel
theorem dd_La_law_664 : decode code 664 = .ok (.iadd, 1) := by decide +kernel
theorem dd_La_law_665 : decode code 665 = .ok (.iaload, 1) := by decide +kernel
theorem dd_La_law_666 : decode code 666 = .ok (.invokevirtual 85, 3) := by decide +kernel
theorem dd_La_law_669 : decode code 669 = .ok (.aload_n 2, 1) := by decide +kernel
theorem dd_La_law_670 : decode code 670 = .ok (.aload_n 0, 1) := by decide +kernel
theorem dd_La_law_671 : decode code 671 = .ok (.iload_n 3, 1) := by decide +kernel
theorem dd_La_law_672 : decode code 672 = .ok (.iconst 1, 1) := by decide +kernel
theorem dd_La_law_673 : decode code 673 = .ok (.iadd, 1) := by decide +kernel
theorem dd_La_law_674 : decode code 674 = .ok (.iaload, 1) := by decide +kernel
theorem dd_La_law_675 : decode code 675 = .ok (.invokevirtual 88, 3) := by decide +kernel
theorem dd_La_law_678 : decode code 678 = .ok (.if_icmp .eq 150, 3) := by decide +kernel
theorem dd_La_law_681 : decode code 681 = .ok (.iconst 0, 1) := by decide +kernel
theorem dd_La_law_682 : decode code 682 = .ok (.ireturn, 1) := by decide +kernel
theorem dd_La_law_683 : decode code 683 = .ok (.aload_n 1, 1) := by decide +kernel
theorem dd_La_law_684 : decode code 684 = .ok (.aload_n 0, 1) := by decide +kernel
theorem dd_La_law_685 : decode code 685 = .ok (.iload_n 3, 1) := by decide +kernel
theorem dd_La_law_686 : decode code 686 = .ok (.iconst 1, 1) := by decide +kernel
theorem dd_La_law_687 : decode code 687 = .ok (.iadd, 1) := by decide +kernel
theorem dd_La_law_688 : decode code 688 = .ok (.iaload, 1) := by decide +kernel
theorem dd_La_law_689 : decode code 689 = .ok (.invokevirtual 89, 3) := by decide +kernel
theorem dd_La_law_692 : decode code 692 = .ok (.aload_n 2, 1) := by decide +kernel
theorem dd_La_law_693 : decode code 693 = .ok (.aload_n 0, 1) := by decide +kernel
theorem dd_La_law_694 : decode code 694 = .ok (.iload_n 3, 1) := by decide +kernel
theorem dd_La_law_695 : decode code 695 = .ok (.iconst 1, 1) := by decide +kernel
theorem dd_La_law_696 : decode code 696 = .ok (.iadd, 1) := by decide +kernel
theorem dd_La_law_697 : decode code 697 = .ok (.iaload, 1) := by decide +kernel
theorem dd_La_law_698 : decode code 698 = .ok (.invokevirtual 92, 3) := by decide +kernel
theorem dd_La_law_701 : decode code 701 = .ok (.if_icmp .eq 127, 3) := by decide +kernel
theorem dd_La_law_704 : decode code 704 = .ok (.iconst 0, 1) := by decide +kernel
theorem dd_La_law_705 : decode code 705 = .ok (.ireturn, 1) := by decide +kernel
theorem dd_La_law_706 : decode code 706 = .ok (.aload_n 1, 1) := by decide +kernel
theorem dd_La_law_707 : decode code 707 = .ok (.aload_n 0, 1) := by decide +kernel
theorem dd_La_law_708 : decode code 708 = .ok (.iload_n 3, 1) := by decide +kernel
theorem dd_La_law_709 : decode code 709 = .ok (.iconst 1, 1) := by decide +kernel
theorem dd_La_law_710 : decode code 710 = .ok (.iadd, 1) := by decide +kernel
theorem dd_La_law_711 : decode code 711 = .ok (.iaload, 1) := by decide +kernel
theorem dd_La_law_712 : decode code 712 = .ok (.invokevirtual 93, 3) := by decide +kernel
theorem dd_La_law_715 : decode code 715 = .ok (.aload_n 2, 1) := by decide +kernel
theorem dd_La_law_716 : decode code 716 = .ok (.aload_n 0, 1) := by decide +kernel
theorem dd_La_law_717 : decode code 717 = .ok (.iload_n 3, 1) := by decide +kernel
theorem dd_La_law_718 : decode code 718 = .ok (.iconst 1, 1) := by decide +kernel
theorem dd_La_law_719 : decode code 719 = .ok (.iadd, 1) := by decide +kernel
theorem dd_La_law_720 : decode code 720 = .ok (.iaload, 1) := by decide +kernel
theorem dd_La_law_721 : decode code 721 = .ok (.invokevirtual 96, 3) := by decide +kernel
theorem dd_La_law_724 : decode code 724 = .ok (.if_icmp .eq 104, 3) := by decide +kernel
theorem dd_La_law_727 : decode code 727 = .ok (.iconst 0, 1) := by decide +kernel
theorem dd_La_law_728 : decode code 728 = .ok (.ireturn, 1) := by decide +kernel
theorem dd_La_law_729 : decode code 729 = .ok (.aload_n 1, 1) := by decide +kernel
theorem dd_La_law_730 : decode code 730 = .ok (.aload_n 0, 1) := by decide +kernel
theorem dd_La_law_731 : decode code 731 = .ok (.iload_n 3, 1) := by decide +kernel
theorem dd_La_law_732 : decode code 732 = .ok (.iconst 1, 1) := by decide +kernel
theorem dd_La_law_733 : decode code 733 = .ok (.iadd, 1) := by decide +kernel
theorem dd_La_law_734 : decode code 734 = .ok (.iaload, 1) := by decide +kernel
theorem dd_La_law_735 : decode code 735 = .ok (.aload_n 0, 1) := by decide +kernel
theorem dd_La_law_736 : decode code 736 = .ok (.iload_n 3, 1) := by decide +kernel
theorem dd_La_law_737 : decode code 737 = .ok (.iconst 2, 1) := by decide +kernel
theorem dd_La_law_738 : decode code 738 = .ok (.iadd, 1) := by decide +kernel
theorem dd_La_law_739 : decode code 739 = .ok (.iaload, 1) := by decide +kernel
theorem dd_La_law_740 : decode code 740 = .ok (.invokevirtual 97, 3) := by decide +kernel
theorem dd_La_law_743 : decode code 743 = .ok (.aload_n 2, 1) := by decide +kernel
theorem dd_La_law_744 : decode code 744 = .ok (.aload_n 0, 1) := by decide +kernel
theorem dd_La_law_745 : decode code 745 = .ok (.iload_n 3, 1) := by decide +kernel
theorem dd_La_law_746 : decode code 746 = .ok (.iconst 1, 1) := by decide +kernel
theorem dd_La_law_747 : decode code 747 = .ok (.iadd, 1) := by decide +kernel
theorem dd_La_law_748 : decode code 748 = .ok (.iaload, 1) := by decide +kernel
theorem dd_La_law_749 : decode code 749 = .ok (.aload_n 0, 1) := by decide +kernel
theorem dd_La_law_750 : decode code 750 = .ok (.iload_n 3, 1) := by decide +kernel
theorem dd_La_law_751 : decode code 751 = .ok (.iconst 2, 1) := by decide +kernel
theorem dd_La_law_752 : decode code 752 = .ok (.iadd, 1) := by decide +kernel
theorem dd_La_law_753 : decode code 753 = .ok (.iaload, 1) := by decide +kernel
theorem dd_La_law_754 : decode code 754 = .ok (.invokevirtual 101, 3) := by decide +kernel
theorem dd_La_law_757 : decode code 757 = .ok (.if_icmp .eq 71, 3) := by decide +kernel
theorem dd_La_law_760 : decode code 760 = .ok (.iconst 0, 1) := by decide +kernel
theorem dd_La_law_761 : decode code 761 = .ok (.ireturn, 1) := by decide +kernel
theorem dd_La_law_762 : decode code 762 = .ok (.aload_n 1, 1) := by decide +kernel
theorem dd_La_law_763 : decode code 763 = .ok (.aload_n 0, 1) := by decide +kernel
theorem dd_La_law_764 : decode code 764 = .ok (.iload_n 3, 1) := by decide +kernel
theorem dd_La_law_765 : decode code 765 = .ok (.iconst 1, 1) := by decide +kernel
theorem dd_La_law_766 : decode code 766 = .ok (.iadd, 1) := by decide +kernel
theorem dd_La_law_767 : decode code 767 = .ok (.iaload, 1) := by decide +kernel
theorem dd_La_law_768 : decode code 768 = .ok (.aload_n 0, 1) := by decide +kernel
theorem dd_La_law_769 : decode code 769 = .ok (.iload_n 3, 1) := by decide +kernel
theorem dd_La_law_770 : decode code 770 = .ok (.iconst 2, 1) := by decide +kernel
theorem dd_La_law_771 : decode code 771 = .ok (.iadd, 1) := by decide +kernel
theorem dd_La_law_772 : decode code 772 = .ok (.iaload, 1) := by decide +kernel
theorem dd_La_law_773 : decode code 773 = .ok (.invokevirtual 102, 3) := by decide +kernel
theorem dd_La_law_776 : decode code 776 = .ok (.aload_n 2, 1) := by decide +kernel
theorem dd_La_law_777 : decode code 777 = .ok (.aload_n 0, 1) := by decide +kernel
theorem dd_La_law_778 : decode code 778 = .ok (.iload_n 3, 1) := by decide +kernel
theorem dd_La_law_779 : decode code 779 = .ok (.iconst 1, 1) := by decide +kernel
theorem dd_La_law_780 : decode code 780 = .ok (.iadd, 1) := by decide +kernel
theorem dd_La_law_781 : decode code 781 = .ok (.iaload, 1) := by decide +kernel
theorem dd_La_law_782 : decode code 782 = .ok (.aload_n 0, 1) := by decide +kernel
theorem dd_La_law_783 : decode code 783 = .ok (.iload_n 3, 1) := by decide +kernel
theorem dd_La_law_784 : decode code 784 = .ok (.iconst 2, 1) := by decide +kernel
theorem dd_La_law_785 : decode code 785 = .ok (.iadd, 1) := by decide +kernel
theorem dd_La_law_786 : decode code 786 = .ok (.iaload, 1) := by decide +kernel
theorem dd_La_law_787 : decode code 787 = .ok (.invokevirtual 105, 3) := by decide +kernel
theorem dd_La_law_790 : decode code 790 = .ok (.if_icmp .eq 38, 3) := by decide +kernel
theorem dd_La_law_793 : decode code 793 = .ok (.iconst 0, 1) := by decide +kernel
theorem dd_La_law_794 : decode code 794 = .ok (.ireturn, 1) := by decide +kernel
theorem dd_La_law_795 : decode code 795 = .ok (.aload_n 1, 1) := by decide +kernel
theorem dd_La_law_796 : decode code 796 = .ok (.aload_n 0, 1) := by decide +kernel
theorem dd_La_law_797 : decode code 797 = .ok (.iload_n 3, 1) := by decide +kernel
theorem dd_La_law_798 : decode code 798 = .ok (.iconst 1, 1) := by decide +kernel
theorem dd_La_law_799 : decode code 799 = .ok (.iadd, 1) := by decide +kernel
theorem dd_La_law_800 : decode code 800 = .ok (.iaload, 1) := by decide +kernel
theorem dd_La_law_801 : decode code 801 = .ok (.aload_n 0, 1) := by decide +kernel
theorem dd_La_law_802 : decode code 802 = .ok (.iload_n 3, 1) := by decide +kernel
theorem dd_La_law_803 : decode code 803 = .ok (.iconst 2, 1) := by decide +kernel
theorem dd_La_law_804 : decode code 804 = .ok (.iadd, 1) := by decide +kernel
theorem dd_La_law_805 : decode code 805 = .ok (.iaload, 1) := by decide +kernel
theorem dd_La_law_806 : decode code 806 = .ok (.invokevirtual 106, 3) := by decide +kernel
theorem dd_La_law_809 : decode code 809 = .ok (.aload_n 2, 1) := by decide +kernel
theorem dd_La_law_810 : decode code 810 = .ok (.aload_n 0, 1) := by decide +kernel
theorem dd_La_law_811 : decode code 811 = .ok (.iload_n 3, 1) := by decide +kernel
theorem dd_La_law_812 : decode code 812 = .ok (.iconst 1, 1) := by decide +kernel
theorem dd_La_law_813 : decode code 813 = .ok (.iadd, 1) := by decide +kernel
theorem dd_La_law_814 : decode code 814 = .ok (.iaload, 1) := by decide +kernel
theorem dd_La_law_815 : decode code 815 = .ok (.aload_n 0, 1) := by decide +kernel
theorem dd_La_law_816 : decode code 816 = .ok (.iload_n 3, 1) := by decide +kernel
theorem dd_La_law_817 : decode code 817 = .ok (.iconst 2, 1) := by decide +kernel
theorem dd_La_law_818 : decode code 818 = .ok (.iadd, 1) := by decide +kernel
theorem dd_La_law_819 : decode code 819 = .ok (.iaload, 1) := by decide +kernel
theorem dd_La_law_820 : decode code 820 = .ok (.invokevirtual 109, 3) := by decide +kernel
theorem dd_La_law_823 : decode code 823 = .ok (.if_icmp .eq 5, 3) := by decide +kernel
theorem dd_La_law_826 : decode code 826 = .ok (.iconst 0, 1) := by decide +kernel
theorem dd_La_law_827 : decode code 827 = .ok (.ireturn, 1) := by decide +kernel
theorem dd_La_law_828 : decode code 828 = .ok (.iinc 3 5, 3) := by decide +kernel
theorem dd_La_law_831 : decode code 831 = .ok (.goto (-803), 3) := by decide +kernel
theorem dd_La_law_834 : decode code 834 = .ok (.iconst 1, 1) := by decide +kernel
theorem dd_La_law_835 : decode code 835 = .ok (.ireturn, 1) := by decide +kernel
