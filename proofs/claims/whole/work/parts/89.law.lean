/-! the law: decode rows, links (printed by program) -/
theorem d_law_0 : decode code 0 = .ok (.new 7, 3) := by decide +kernel
theorem d_law_3 : decode code 3 = .ok (.dup, 1) := by decide +kernel
theorem d_law_4 : decode code 4 = .ok (.invokespecial 9, 3) := by decide +kernel
theorem d_law_7 : decode code 7 = .ok (.astore_n 1, 1) := by decide +kernel
theorem d_law_8 : decode code 8 = .ok (.new 10, 3) := by decide +kernel
theorem d_law_11 : decode code 11 = .ok (.dup, 1) := by decide +kernel
theorem d_law_12 : decode code 12 = .ok (.invokespecial 12, 3) := by decide +kernel
theorem d_law_15 : decode code 15 = .ok (.astore_n 2, 1) := by decide +kernel
theorem d_law_16 : decode code 16 = .ok (.iconst 0, 1) := by decide +kernel
theorem d_law_17 : decode code 17 = .ok (.istore_n 3, 1) := by decide +kernel
theorem d_law_18 : decode code 18 = .ok (.iload_n 3, 1) := by decide +kernel
theorem d_law_19 : decode code 19 = .ok (.aload_n 0, 1) := by decide +kernel
theorem d_law_20 : decode code 20 = .ok (.arraylength, 1) := by decide +kernel
theorem d_law_21 : decode code 21 = .ok (.bipush 6, 2) := by decide +kernel
theorem d_law_23 : decode code 23 = .ok (.isub, 1) := by decide +kernel
theorem d_law_24 : decode code 24 = .ok (.if_icmp .gt 1046, 3) := by decide +kernel
theorem d_law_27 : decode code 27 = .ok (.aload_n 0, 1) := by decide +kernel
theorem d_law_28 : decode code 28 = .ok (.iload_n 3, 1) := by decide +kernel
theorem d_law_29 : decode code 29 = .ok (.iaload, 1) := by decide +kernel
theorem d_law_30 : decode code 30 = .ok (.bipush 31, 2) := by decide +kernel
theorem d_law_32 : decode code 32 = .ok (.iand, 1) := by decide +kernel
theorem d_law_33 : decode code 33 = .ok (.tableswitch 1031 0 27 #[127, 190, 233, 282, 315, 338, 361, 404, 447, 481, 515, 538, 551, 574, 597, 620, 664, 697, 730, 763, 796, 839, 863, 896, 919, 962, 975, 1008], 127) := by decide +kernel
theorem d_law_160 : decode code 160 = .ok (.aload_n 1, 1) := by decide +kernel
theorem d_law_161 : decode code 161 = .ok (.aload_n 0, 1) := by decide +kernel
theorem d_law_162 : decode code 162 = .ok (.iload_n 3, 1) := by decide +kernel
theorem d_law_163 : decode code 163 = .ok (.iconst 1, 1) := by decide +kernel
theorem d_law_164 : decode code 164 = .ok (.iadd, 1) := by decide +kernel
theorem d_law_165 : decode code 165 = .ok (.iaload, 1) := by decide +kernel
theorem d_law_166 : decode code 166 = .ok (.aload_n 0, 1) := by decide +kernel
theorem d_law_167 : decode code 167 = .ok (.iload_n 3, 1) := by decide +kernel
theorem d_law_168 : decode code 168 = .ok (.iconst 2, 1) := by decide +kernel
theorem d_law_169 : decode code 169 = .ok (.iadd, 1) := by decide +kernel
theorem d_law_170 : decode code 170 = .ok (.iaload, 1) := by decide +kernel
theorem d_law_171 : decode code 171 = .ok (.aload_n 0, 1) := by decide +kernel
theorem d_law_172 : decode code 172 = .ok (.iload_n 3, 1) := by decide +kernel
theorem d_law_173 : decode code 173 = .ok (.iconst 3, 1) := by decide +kernel
theorem d_law_174 : decode code 174 = .ok (.iadd, 1) := by decide +kernel
theorem d_law_175 : decode code 175 = .ok (.iaload, 1) := by decide +kernel
theorem d_law_176 : decode code 176 = .ok (.aload_n 0, 1) := by decide +kernel
theorem d_law_177 : decode code 177 = .ok (.iload_n 3, 1) := by decide +kernel
theorem d_law_178 : decode code 178 = .ok (.iconst 4, 1) := by decide +kernel
theorem d_law_179 : decode code 179 = .ok (.iadd, 1) := by decide +kernel
theorem d_law_180 : decode code 180 = .ok (.iaload, 1) := by decide +kernel
theorem d_law_181 : decode code 181 = .ok (.aload_n 0, 1) := by decide +kernel
theorem d_law_182 : decode code 182 = .ok (.iload_n 3, 1) := by decide +kernel
theorem d_law_183 : decode code 183 = .ok (.iconst 5, 1) := by decide +kernel
theorem d_law_184 : decode code 184 = .ok (.iadd, 1) := by decide +kernel
theorem d_law_185 : decode code 185 = .ok (.iaload, 1) := by decide +kernel
theorem d_law_186 : decode code 186 = .ok (.invokevirtual 13, 3) := by decide +kernel
theorem d_law_189 : decode code 189 = .ok (.aload_n 2, 1) := by decide +kernel
theorem d_law_190 : decode code 190 = .ok (.aload_n 0, 1) := by decide +kernel
theorem d_law_191 : decode code 191 = .ok (.iload_n 3, 1) := by decide +kernel
theorem d_law_192 : decode code 192 = .ok (.iconst 1, 1) := by decide +kernel
theorem d_law_193 : decode code 193 = .ok (.iadd, 1) := by decide +kernel
theorem d_law_194 : decode code 194 = .ok (.iaload, 1) := by decide +kernel
theorem d_law_195 : decode code 195 = .ok (.aload_n 0, 1) := by decide +kernel
theorem d_law_196 : decode code 196 = .ok (.iload_n 3, 1) := by decide +kernel
theorem d_law_197 : decode code 197 = .ok (.iconst 2, 1) := by decide +kernel
theorem d_law_198 : decode code 198 = .ok (.iadd, 1) := by decide +kernel
theorem d_law_199 : decode code 199 = .ok (.iaload, 1) := by decide +kernel
theorem d_law_200 : decode code 200 = .ok (.aload_n 0, 1) := by decide +kernel
theorem d_law_201 : decode code 201 = .ok (.iload_n 3, 1) := by decide +kernel
theorem d_law_202 : decode code 202 = .ok (.iconst 3, 1) := by decide +kernel
theorem d_law_203 : decode code 203 = .ok (.iadd, 1) := by decide +kernel
theorem d_law_204 : decode code 204 = .ok (.iaload, 1) := by decide +kernel
theorem d_law_205 : decode code 205 = .ok (.aload_n 0, 1) := by decide +kernel
theorem d_law_206 : decode code 206 = .ok (.iload_n 3, 1) := by decide +kernel
theorem d_law_207 : decode code 207 = .ok (.iconst 4, 1) := by decide +kernel
theorem d_law_208 : decode code 208 = .ok (.iadd, 1) := by decide +kernel
theorem d_law_209 : decode code 209 = .ok (.iaload, 1) := by decide +kernel
theorem d_law_210 : decode code 210 = .ok (.aload_n 0, 1) := by decide +kernel
theorem d_law_211 : decode code 211 = .ok (.iload_n 3, 1) := by decide +kernel
theorem d_law_212 : decode code 212 = .ok (.iconst 5, 1) := by decide +kernel
theorem d_law_213 : decode code 213 = .ok (.iadd, 1) := by decide +kernel
theorem d_law_214 : decode code 214 = .ok (.iaload, 1) := by decide +kernel
theorem d_law_215 : decode code 215 = .ok (.invokevirtual 17, 3) := by decide +kernel
theorem d_law_218 : decode code 218 = .ok (.if_icmp .eq 846, 3) := by decide +kernel
theorem d_law_221 : decode code 221 = .ok (.iconst 0, 1) := by decide +kernel
theorem d_law_222 : decode code 222 = .ok (.ireturn, 1) := by decide +kernel
theorem d_law_223 : decode code 223 = .ok (.aload_n 1, 1) := by decide +kernel
theorem d_law_224 : decode code 224 = .ok (.aload_n 0, 1) := by decide +kernel
theorem d_law_225 : decode code 225 = .ok (.iload_n 3, 1) := by decide +kernel
theorem d_law_226 : decode code 226 = .ok (.iconst 1, 1) := by decide +kernel
theorem d_law_227 : decode code 227 = .ok (.iadd, 1) := by decide +kernel
theorem d_law_228 : decode code 228 = .ok (.iaload, 1) := by decide +kernel
theorem d_law_229 : decode code 229 = .ok (.aload_n 0, 1) := by decide +kernel
theorem d_law_230 : decode code 230 = .ok (.iload_n 3, 1) := by decide +kernel
theorem d_law_231 : decode code 231 = .ok (.iconst 2, 1) := by decide +kernel
theorem d_law_232 : decode code 232 = .ok (.iadd, 1) := by decide +kernel
theorem d_law_233 : decode code 233 = .ok (.iaload, 1) := by decide +kernel
theorem d_law_234 : decode code 234 = .ok (.aload_n 0, 1) := by decide +kernel
theorem d_law_235 : decode code 235 = .ok (.iload_n 3, 1) := by decide +kernel
theorem d_law_236 : decode code 236 = .ok (.iconst 3, 1) := by decide +kernel
theorem d_law_237 : decode code 237 = .ok (.iadd, 1) := by decide +kernel
theorem d_law_238 : decode code 238 = .ok (.iaload, 1) := by decide +kernel
theorem d_law_239 : decode code 239 = .ok (.invokevirtual 18, 3) := by decide +kernel
theorem d_law_242 : decode code 242 = .ok (.aload_n 2, 1) := by decide +kernel
theorem d_law_243 : decode code 243 = .ok (.aload_n 0, 1) := by decide +kernel
theorem d_law_244 : decode code 244 = .ok (.iload_n 3, 1) := by decide +kernel
theorem d_law_245 : decode code 245 = .ok (.iconst 1, 1) := by decide +kernel
theorem d_law_246 : decode code 246 = .ok (.iadd, 1) := by decide +kernel
theorem d_law_247 : decode code 247 = .ok (.iaload, 1) := by decide +kernel
theorem d_law_248 : decode code 248 = .ok (.aload_n 0, 1) := by decide +kernel
theorem d_law_249 : decode code 249 = .ok (.iload_n 3, 1) := by decide +kernel
theorem d_law_250 : decode code 250 = .ok (.iconst 2, 1) := by decide +kernel
theorem d_law_251 : decode code 251 = .ok (.iadd, 1) := by decide +kernel
theorem d_law_252 : decode code 252 = .ok (.iaload, 1) := by decide +kernel
theorem d_law_253 : decode code 253 = .ok (.aload_n 0, 1) := by decide +kernel
theorem d_law_254 : decode code 254 = .ok (.iload_n 3, 1) := by decide +kernel
theorem d_law_255 : decode code 255 = .ok (.iconst 3, 1) := by decide +kernel
theorem d_law_256 : decode code 256 = .ok (.iadd, 1) := by decide +kernel
theorem d_law_257 : decode code 257 = .ok (.iaload, 1) := by decide +kernel
theorem d_law_258 : decode code 258 = .ok (.invokevirtual 22, 3) := by decide +kernel
theorem d_law_261 : decode code 261 = .ok (.if_icmp .eq 803, 3) := by decide +kernel
theorem d_law_264 : decode code 264 = .ok (.iconst 0, 1) := by decide +kernel
theorem d_law_265 : decode code 265 = .ok (.ireturn, 1) := by decide +kernel
theorem d_law_266 : decode code 266 = .ok (.aload_n 1, 1) := by decide +kernel
theorem d_law_267 : decode code 267 = .ok (.aload_n 0, 1) := by decide +kernel
theorem d_law_268 : decode code 268 = .ok (.iload_n 3, 1) := by decide +kernel
theorem d_law_269 : decode code 269 = .ok (.iconst 1, 1) := by decide +kernel
theorem d_law_270 : decode code 270 = .ok (.iadd, 1) := by decide +kernel
theorem d_law_271 : decode code 271 = .ok (.iaload, 1) := by decide +kernel
theorem d_law_272 : decode code 272 = .ok (.aload_n 0, 1) := by decide +kernel
theorem d_law_273 : decode code 273 = .ok (.iload_n 3, 1) := by decide +kernel
theorem d_law_274 : decode code 274 = .ok (.iconst 2, 1) := by decide +kernel
theorem d_law_275 : decode code 275 = .ok (.iadd, 1) := by decide +kernel
theorem d_law_276 : decode code 276 = .ok (.iaload, 1) := by decide +kernel
theorem d_law_277 : decode code 277 = .ok (.ifCond .eq 7, 3) := by decide +kernel
theorem d_law_280 : decode code 280 = .ok (.iconst 1, 1) := by decide +kernel
theorem d_law_281 : decode code 281 = .ok (.goto 4, 3) := by decide +kernel
theorem d_law_284 : decode code 284 = .ok (.iconst 0, 1) := by decide +kernel
theorem d_law_285 : decode code 285 = .ok (.invokevirtual 23, 3) := by decide +kernel
theorem d_law_288 : decode code 288 = .ok (.aload_n 2, 1) := by decide +kernel
theorem d_law_289 : decode code 289 = .ok (.aload_n 0, 1) := by decide +kernel
theorem d_law_290 : decode code 290 = .ok (.iload_n 3, 1) := by decide +kernel
theorem d_law_291 : decode code 291 = .ok (.iconst 1, 1) := by decide +kernel
theorem d_law_292 : decode code 292 = .ok (.iadd, 1) := by decide +kernel
theorem d_law_293 : decode code 293 = .ok (.iaload, 1) := by decide +kernel
theorem d_law_294 : decode code 294 = .ok (.aload_n 0, 1) := by decide +kernel
theorem d_law_295 : decode code 295 = .ok (.iload_n 3, 1) := by decide +kernel
theorem d_law_296 : decode code 296 = .ok (.iconst 2, 1) := by decide +kernel
theorem d_law_297 : decode code 297 = .ok (.iadd, 1) := by decide +kernel
theorem d_law_298 : decode code 298 = .ok (.iaload, 1) := by decide +kernel
theorem d_law_299 : decode code 299 = .ok (.ifCond .eq 7, 3) := by decide +kernel
theorem d_law_302 : decode code 302 = .ok (.iconst 1, 1) := by decide +kernel
theorem d_law_303 : decode code 303 = .ok (.goto 4, 3) := by decide +kernel
theorem d_law_306 : decode code 306 = .ok (.iconst 0, 1) := by decide +kernel
theorem d_law_307 : decode code 307 = .ok (.invokevirtual 27, 3) := by decide +kernel
theorem d_law_310 : decode code 310 = .ok (.if_icmp .eq 754, 3) := by decide +kernel
theorem d_law_313 : decode code 313 = .ok (.iconst 0, 1) := by decide +kernel
theorem d_law_314 : decode code 314 = .ok (.ireturn, 1) := by decide +kernel
theorem d_law_315 : decode code 315 = .ok (.aload_n 1, 1) := by decide +kernel
theorem d_law_316 : decode code 316 = .ok (.aload_n 0, 1) := by decide +kernel
theorem d_law_317 : decode code 317 = .ok (.iload_n 3, 1) := by decide +kernel
theorem d_law_318 : decode code 318 = .ok (.iconst 1, 1) := by decide +kernel
theorem d_law_319 : decode code 319 = .ok (.iadd, 1) := by decide +kernel
theorem d_law_320 : decode code 320 = .ok (.iaload, 1) := by decide +kernel
theorem d_law_321 : decode code 321 = .ok (.aload_n 0, 1) := by decide +kernel
theorem d_law_322 : decode code 322 = .ok (.iload_n 3, 1) := by decide +kernel
theorem d_law_323 : decode code 323 = .ok (.iconst 2, 1) := by decide +kernel
theorem d_law_324 : decode code 324 = .ok (.iadd, 1) := by decide +kernel
theorem d_law_325 : decode code 325 = .ok (.iaload, 1) := by decide +kernel
theorem d_law_326 : decode code 326 = .ok (.invokevirtual 28, 3) := by decide +kernel
theorem d_law_329 : decode code 329 = .ok (.aload_n 2, 1) := by decide +kernel
theorem d_law_330 : decode code 330 = .ok (.aload_n 0, 1) := by decide +kernel
theorem d_law_331 : decode code 331 = .ok (.iload_n 3, 1) := by decide +kernel
theorem d_law_332 : decode code 332 = .ok (.iconst 1, 1) := by decide +kernel
theorem d_law_333 : decode code 333 = .ok (.iadd, 1) := by decide +kernel
theorem d_law_334 : decode code 334 = .ok (.iaload, 1) := by decide +kernel
theorem d_law_335 : decode code 335 = .ok (.aload_n 0, 1) := by decide +kernel
theorem d_law_336 : decode code 336 = .ok (.iload_n 3, 1) := by decide +kernel
theorem d_law_337 : decode code 337 = .ok (.iconst 2, 1) := by decide +kernel
theorem d_law_338 : decode code 338 = .ok (.iadd, 1) := by decide +kernel
theorem d_law_339 : decode code 339 = .ok (.iaload, 1) := by decide +kernel
theorem d_law_340 : decode code 340 = .ok (.invokevirtual 32, 3) := by decide +kernel
theorem d_law_343 : decode code 343 = .ok (.if_icmp .eq 721, 3) := by decide +kernel
theorem d_law_346 : decode code 346 = .ok (.iconst 0, 1) := by decide +kernel
theorem d_law_347 : decode code 347 = .ok (.ireturn, 1) := by decide +kernel
theorem d_law_348 : decode code 348 = .ok (.aload_n 1, 1) := by decide +kernel
theorem d_law_349 : decode code 349 = .ok (.aload_n 0, 1) := by decide +kernel
theorem d_law_350 : decode code 350 = .ok (.iload_n 3, 1) := by decide +kernel
theorem d_law_351 : decode code 351 = .ok (.iconst 1, 1) := by decide +kernel
theorem d_law_352 : decode code 352 = .ok (.iadd, 1) := by decide +kernel
theorem d_law_353 : decode code 353 = .ok (.iaload, 1) := by decide +kernel
theorem d_law_354 : decode code 354 = .ok (.invokevirtual 33, 3) := by decide +kernel
theorem d_law_357 : decode code 357 = .ok (.aload_n 2, 1) := by decide +kernel
theorem d_law_358 : decode code 358 = .ok (.aload_n 0, 1) := by decide +kernel
theorem d_law_359 : decode code 359 = .ok (.iload_n 3, 1) := by decide +kernel
theorem d_law_360 : decode code 360 = .ok (.iconst 1, 1) := by decide +kernel
theorem d_law_361 : decode code 361 = .ok (.iadd, 1) := by decide +kernel
theorem d_law_362 : decode code 362 = .ok (.iaload, 1) := by decide +kernel
theorem d_law_363 : decode code 363 = .ok (.invokevirtual 37, 3) := by decide +kernel
theorem d_law_366 : decode code 366 = .ok (.if_icmp .eq 698, 3) := by decide +kernel
theorem d_law_369 : decode code 369 = .ok (.iconst 0, 1) := by decide +kernel
theorem d_law_370 : decode code 370 = .ok (.ireturn, 1) := by decide +kernel
theorem d_law_371 : decode code 371 = .ok (.aload_n 1, 1) := by decide +kernel
theorem d_law_372 : decode code 372 = .ok (.aload_n 0, 1) := by decide +kernel
theorem d_law_373 : decode code 373 = .ok (.iload_n 3, 1) := by decide +kernel
theorem d_law_374 : decode code 374 = .ok (.iconst 1, 1) := by decide +kernel
theorem d_law_375 : decode code 375 = .ok (.iadd, 1) := by decide +kernel
theorem d_law_376 : decode code 376 = .ok (.iaload, 1) := by decide +kernel
theorem d_law_377 : decode code 377 = .ok (.invokevirtual 38, 3) := by decide +kernel
theorem d_law_380 : decode code 380 = .ok (.aload_n 2, 1) := by decide +kernel
theorem d_law_381 : decode code 381 = .ok (.aload_n 0, 1) := by decide +kernel
theorem d_law_382 : decode code 382 = .ok (.iload_n 3, 1) := by decide +kernel
theorem d_law_383 : decode code 383 = .ok (.iconst 1, 1) := by decide +kernel
theorem d_law_384 : decode code 384 = .ok (.iadd, 1) := by decide +kernel
theorem d_law_385 : decode code 385 = .ok (.iaload, 1) := by decide +kernel
theorem d_law_386 : decode code 386 = .ok (.invokevirtual 42, 3) := by decide +kernel
theorem d_law_389 : decode code 389 = .ok (.if_icmp .eq 675, 3) := by decide +kernel
theorem d_law_392 : decode code 392 = .ok (.iconst 0, 1) := by decide +kernel
theorem d_law_393 : decode code 393 = .ok (.ireturn, 1) := by decide +kernel
theorem d_law_394 : decode code 394 = .ok (.aload_n 1, 1) := by decide +kernel
theorem d_law_395 : decode code 395 = .ok (.aload_n 0, 1) := by decide +kernel
theorem d_law_396 : decode code 396 = .ok (.iload_n 3, 1) := by decide +kernel
theorem d_law_397 : decode code 397 = .ok (.iconst 1, 1) := by decide +kernel
theorem d_law_398 : decode code 398 = .ok (.iadd, 1) := by decide +kernel
theorem d_law_399 : decode code 399 = .ok (.iaload, 1) := by decide +kernel
theorem d_law_400 : decode code 400 = .ok (.aload_n 0, 1) := by decide +kernel
theorem d_law_401 : decode code 401 = .ok (.iload_n 3, 1) := by decide +kernel
theorem d_law_402 : decode code 402 = .ok (.iconst 2, 1) := by decide +kernel
theorem d_law_403 : decode code 403 = .ok (.iadd, 1) := by decide +kernel
theorem d_law_404 : decode code 404 = .ok (.iaload, 1) := by decide +kernel
theorem d_law_405 : decode code 405 = .ok (.aload_n 0, 1) := by decide +kernel
theorem d_law_406 : decode code 406 = .ok (.iload_n 3, 1) := by decide +kernel
theorem d_law_407 : decode code 407 = .ok (.iconst 3, 1) := by decide +kernel
theorem d_law_408 : decode code 408 = .ok (.iadd, 1) := by decide +kernel
theorem d_law_409 : decode code 409 = .ok (.iaload, 1) := by decide +kernel
theorem d_law_410 : decode code 410 = .ok (.invokevirtual 43, 3) := by decide +kernel
theorem d_law_413 : decode code 413 = .ok (.aload_n 2, 1) := by decide +kernel
theorem d_law_414 : decode code 414 = .ok (.aload_n 0, 1) := by decide +kernel
theorem d_law_415 : decode code 415 = .ok (.iload_n 3, 1) := by decide +kernel
theorem d_law_416 : decode code 416 = .ok (.iconst 1, 1) := by decide +kernel
theorem d_law_417 : decode code 417 = .ok (.iadd, 1) := by decide +kernel
theorem d_law_418 : decode code 418 = .ok (.iaload, 1) := by decide +kernel
theorem d_law_419 : decode code 419 = .ok (.aload_n 0, 1) := by decide +kernel
theorem d_law_420 : decode code 420 = .ok (.iload_n 3, 1) := by decide +kernel
theorem d_law_421 : decode code 421 = .ok (.iconst 2, 1) := by decide +kernel
theorem d_law_422 : decode code 422 = .ok (.iadd, 1) := by decide +kernel
theorem d_law_423 : decode code 423 = .ok (.iaload, 1) := by decide +kernel
theorem d_law_424 : decode code 424 = .ok (.aload_n 0, 1) := by decide +kernel
theorem d_law_425 : decode code 425 = .ok (.iload_n 3, 1) := by decide +kernel
theorem d_law_426 : decode code 426 = .ok (.iconst 3, 1) := by decide +kernel
theorem d_law_427 : decode code 427 = .ok (.iadd, 1) := by decide +kernel
theorem d_law_428 : decode code 428 = .ok (.iaload, 1) := by decide +kernel
theorem d_law_429 : decode code 429 = .ok (.invokevirtual 46, 3) := by decide +kernel
theorem d_law_432 : decode code 432 = .ok (.if_icmp .eq 632, 3) := by decide +kernel
theorem d_law_435 : decode code 435 = .ok (.iconst 0, 1) := by decide +kernel
theorem d_law_436 : decode code 436 = .ok (.ireturn, 1) := by decide +kernel
theorem d_law_437 : decode code 437 = .ok (.aload_n 1, 1) := by decide +kernel
theorem d_law_438 : decode code 438 = .ok (.aload_n 0, 1) := by decide +kernel
theorem d_law_439 : decode code 439 = .ok (.iload_n 3, 1) := by decide +kernel
theorem d_law_440 : decode code 440 = .ok (.iconst 1, 1) := by decide +kernel
theorem d_law_441 : decode code 441 = .ok (.iadd, 1) := by decide +kernel
theorem d_law_442 : decode code 442 = .ok (.iaload, 1) := by decide +kernel
theorem d_law_443 : decode code 443 = .ok (.aload_n 0, 1) := by decide +kernel
theorem d_law_444 : decode code 444 = .ok (.iload_n 3, 1) := by decide +kernel
theorem d_law_445 : decode code 445 = .ok (.iconst 2, 1) := by decide +kernel
theorem d_law_446 : decode code 446 = .ok (.iadd, 1) := by decide +kernel
theorem d_law_447 : decode code 447 = .ok (.iaload, 1) := by decide +kernel
theorem d_law_448 : decode code 448 = .ok (.aload_n 0, 1) := by decide +kernel
theorem d_law_449 : decode code 449 = .ok (.iload_n 3, 1) := by decide +kernel
theorem d_law_450 : decode code 450 = .ok (.iconst 3, 1) := by decide +kernel
theorem d_law_451 : decode code 451 = .ok (.iadd, 1) := by decide +kernel
theorem d_law_452 : decode code 452 = .ok (.iaload, 1) := by decide +kernel
theorem d_law_453 : decode code 453 = .ok (.invokevirtual 47, 3) := by decide +kernel
theorem d_law_456 : decode code 456 = .ok (.aload_n 2, 1) := by decide +kernel
theorem d_law_457 : decode code 457 = .ok (.aload_n 0, 1) := by decide +kernel
theorem d_law_458 : decode code 458 = .ok (.iload_n 3, 1) := by decide +kernel
theorem d_law_459 : decode code 459 = .ok (.iconst 1, 1) := by decide +kernel
theorem d_law_460 : decode code 460 = .ok (.iadd, 1) := by decide +kernel
theorem d_law_461 : decode code 461 = .ok (.iaload, 1) := by decide +kernel
theorem d_law_462 : decode code 462 = .ok (.aload_n 0, 1) := by decide +kernel
theorem d_law_463 : decode code 463 = .ok (.iload_n 3, 1) := by decide +kernel
theorem d_law_464 : decode code 464 = .ok (.iconst 2, 1) := by decide +kernel
theorem d_law_465 : decode code 465 = .ok (.iadd, 1) := by decide +kernel
theorem d_law_466 : decode code 466 = .ok (.iaload, 1) := by decide +kernel
theorem d_law_467 : decode code 467 = .ok (.aload_n 0, 1) := by decide +kernel
theorem d_law_468 : decode code 468 = .ok (.iload_n 3, 1) := by decide +kernel
theorem d_law_469 : decode code 469 = .ok (.iconst 3, 1) := by decide +kernel
theorem d_law_470 : decode code 470 = .ok (.iadd, 1) := by decide +kernel
theorem d_law_471 : decode code 471 = .ok (.iaload, 1) := by decide +kernel
theorem d_law_472 : decode code 472 = .ok (.invokevirtual 50, 3) := by decide +kernel
theorem d_law_475 : decode code 475 = .ok (.if_icmp .eq 589, 3) := by decide +kernel
theorem d_law_478 : decode code 478 = .ok (.iconst 0, 1) := by decide +kernel
theorem d_law_479 : decode code 479 = .ok (.ireturn, 1) := by decide +kernel
theorem d_law_480 : decode code 480 = .ok (.aload_n 1, 1) := by decide +kernel
theorem d_law_481 : decode code 481 = .ok (.aload_n 0, 1) := by decide +kernel
theorem d_law_482 : decode code 482 = .ok (.iload_n 3, 1) := by decide +kernel
theorem d_law_483 : decode code 483 = .ok (.iconst 1, 1) := by decide +kernel
theorem d_law_484 : decode code 484 = .ok (.iadd, 1) := by decide +kernel
theorem d_law_485 : decode code 485 = .ok (.iaload, 1) := by decide +kernel
theorem d_law_486 : decode code 486 = .ok (.aload_n 0, 1) := by decide +kernel
theorem d_law_487 : decode code 487 = .ok (.iload_n 3, 1) := by decide +kernel
theorem d_law_488 : decode code 488 = .ok (.iconst 2, 1) := by decide +kernel
theorem d_law_489 : decode code 489 = .ok (.iadd, 1) := by decide +kernel
theorem d_law_490 : decode code 490 = .ok (.iaload, 1) := by decide +kernel
theorem d_law_491 : decode code 491 = .ok (.invokevirtual 51, 3) := by decide +kernel
theorem d_law_494 : decode code 494 = .ok (.aload_n 2, 1) := by decide +kernel
theorem d_law_495 : decode code 495 = .ok (.aload_n 0, 1) := by decide +kernel
theorem d_law_496 : decode code 496 = .ok (.iload_n 3, 1) := by decide +kernel
theorem d_law_497 : decode code 497 = .ok (.iconst 1, 1) := by decide +kernel
theorem d_law_498 : decode code 498 = .ok (.iadd, 1) := by decide +kernel
theorem d_law_499 : decode code 499 = .ok (.iaload, 1) := by decide +kernel
theorem d_law_500 : decode code 500 = .ok (.aload_n 0, 1) := by decide +kernel
theorem d_law_501 : decode code 501 = .ok (.iload_n 3, 1) := by decide +kernel
theorem d_law_502 : decode code 502 = .ok (.iconst 2, 1) := by decide +kernel
theorem d_law_503 : decode code 503 = .ok (.iadd, 1) := by decide +kernel
theorem d_law_504 : decode code 504 = .ok (.iaload, 1) := by decide +kernel
theorem d_law_505 : decode code 505 = .ok (.invokevirtual 55, 3) := by decide +kernel
theorem d_law_508 : decode code 508 = .ok (.lcmp, 1) := by decide +kernel
theorem d_law_509 : decode code 509 = .ok (.ifCond .eq 555, 3) := by decide +kernel
theorem d_law_512 : decode code 512 = .ok (.iconst 0, 1) := by decide +kernel
theorem d_law_513 : decode code 513 = .ok (.ireturn, 1) := by decide +kernel
theorem d_law_514 : decode code 514 = .ok (.aload_n 1, 1) := by decide +kernel
theorem d_law_515 : decode code 515 = .ok (.aload_n 0, 1) := by decide +kernel
theorem d_law_516 : decode code 516 = .ok (.iload_n 3, 1) := by decide +kernel
theorem d_law_517 : decode code 517 = .ok (.iconst 1, 1) := by decide +kernel
theorem d_law_518 : decode code 518 = .ok (.iadd, 1) := by decide +kernel
theorem d_law_519 : decode code 519 = .ok (.iaload, 1) := by decide +kernel
theorem d_law_520 : decode code 520 = .ok (.aload_n 0, 1) := by decide +kernel
theorem d_law_521 : decode code 521 = .ok (.iload_n 3, 1) := by decide +kernel
theorem d_law_522 : decode code 522 = .ok (.iconst 2, 1) := by decide +kernel
theorem d_law_523 : decode code 523 = .ok (.iadd, 1) := by decide +kernel
theorem d_law_524 : decode code 524 = .ok (.iaload, 1) := by decide +kernel
theorem d_law_525 : decode code 525 = .ok (.invokevirtual 56, 3) := by decide +kernel
theorem d_law_528 : decode code 528 = .ok (.aload_n 2, 1) := by decide +kernel
theorem d_law_529 : decode code 529 = .ok (.aload_n 0, 1) := by decide +kernel
theorem d_law_530 : decode code 530 = .ok (.iload_n 3, 1) := by decide +kernel
theorem d_law_531 : decode code 531 = .ok (.iconst 1, 1) := by decide +kernel
theorem d_law_532 : decode code 532 = .ok (.iadd, 1) := by decide +kernel
theorem d_law_533 : decode code 533 = .ok (.iaload, 1) := by decide +kernel
theorem d_law_534 : decode code 534 = .ok (.aload_n 0, 1) := by decide +kernel
theorem d_law_535 : decode code 535 = .ok (.iload_n 3, 1) := by decide +kernel
theorem d_law_536 : decode code 536 = .ok (.iconst 2, 1) := by decide +kernel
theorem d_law_537 : decode code 537 = .ok (.iadd, 1) := by decide +kernel
theorem d_law_538 : decode code 538 = .ok (.iaload, 1) := by decide +kernel
theorem d_law_539 : decode code 539 = .ok (.invokevirtual 59, 3) := by decide +kernel
theorem d_law_542 : decode code 542 = .ok (.lcmp, 1) := by decide +kernel
theorem d_law_543 : decode code 543 = .ok (.ifCond .eq 521, 3) := by decide +kernel
theorem d_law_546 : decode code 546 = .ok (.iconst 0, 1) := by decide +kernel
theorem d_law_547 : decode code 547 = .ok (.ireturn, 1) := by decide +kernel
theorem d_law_548 : decode code 548 = .ok (.aload_n 1, 1) := by decide +kernel
theorem d_law_549 : decode code 549 = .ok (.aload_n 0, 1) := by decide +kernel
theorem d_law_550 : decode code 550 = .ok (.iload_n 3, 1) := by decide +kernel
theorem d_law_551 : decode code 551 = .ok (.iconst 1, 1) := by decide +kernel
theorem d_law_552 : decode code 552 = .ok (.iadd, 1) := by decide +kernel
theorem d_law_553 : decode code 553 = .ok (.iaload, 1) := by decide +kernel
theorem d_law_554 : decode code 554 = .ok (.invokevirtual 60, 3) := by decide +kernel
theorem d_law_557 : decode code 557 = .ok (.aload_n 2, 1) := by decide +kernel
theorem d_law_558 : decode code 558 = .ok (.aload_n 0, 1) := by decide +kernel
theorem d_law_559 : decode code 559 = .ok (.iload_n 3, 1) := by decide +kernel
theorem d_law_560 : decode code 560 = .ok (.iconst 1, 1) := by decide +kernel
theorem d_law_561 : decode code 561 = .ok (.iadd, 1) := by decide +kernel
theorem d_law_562 : decode code 562 = .ok (.iaload, 1) := by decide +kernel
theorem d_law_563 : decode code 563 = .ok (.invokevirtual 63, 3) := by decide +kernel
theorem d_law_566 : decode code 566 = .ok (.if_icmp .eq 498, 3) := by decide +kernel
theorem d_law_569 : decode code 569 = .ok (.iconst 0, 1) := by decide +kernel
theorem d_law_570 : decode code 570 = .ok (.ireturn, 1) := by decide +kernel
theorem d_law_571 : decode code 571 = .ok (.aload_n 1, 1) := by decide +kernel
theorem d_law_572 : decode code 572 = .ok (.invokevirtual 64, 3) := by decide +kernel
theorem d_law_575 : decode code 575 = .ok (.aload_n 2, 1) := by decide +kernel
theorem d_law_576 : decode code 576 = .ok (.invokevirtual 68, 3) := by decide +kernel
theorem d_law_579 : decode code 579 = .ok (.if_icmp .eq 485, 3) := by decide +kernel
theorem d_law_582 : decode code 582 = .ok (.iconst 0, 1) := by decide +kernel
theorem d_law_583 : decode code 583 = .ok (.ireturn, 1) := by decide +kernel
theorem d_law_584 : decode code 584 = .ok (.aload_n 1, 1) := by decide +kernel
theorem d_law_585 : decode code 585 = .ok (.aload_n 0, 1) := by decide +kernel
theorem d_law_586 : decode code 586 = .ok (.iload_n 3, 1) := by decide +kernel
theorem d_law_587 : decode code 587 = .ok (.iconst 1, 1) := by decide +kernel
theorem d_law_588 : decode code 588 = .ok (.iadd, 1) := by decide +kernel
theorem d_law_589 : decode code 589 = .ok (.iaload, 1) := by decide +kernel
theorem d_law_590 : decode code 590 = .ok (.invokevirtual 69, 3) := by decide +kernel
theorem d_law_593 : decode code 593 = .ok (.aload_n 2, 1) := by decide +kernel
theorem d_law_594 : decode code 594 = .ok (.aload_n 0, 1) := by decide +kernel
theorem d_law_595 : decode code 595 = .ok (.iload_n 3, 1) := by decide +kernel
theorem d_law_596 : decode code 596 = .ok (.iconst 1, 1) := by decide +kernel
theorem d_law_597 : decode code 597 = .ok (.iadd, 1) := by decide +kernel
theorem d_law_598 : decode code 598 = .ok (.iaload, 1) := by decide +kernel
theorem d_law_599 : decode code 599 = .ok (.invokevirtual 72, 3) := by decide +kernel
theorem d_law_602 : decode code 602 = .ok (.if_icmp .eq 462, 3) := by decide +kernel
theorem d_law_605 : decode code 605 = .ok (.iconst 0, 1) := by decide +kernel
theorem d_law_606 : decode code 606 = .ok (.ireturn, 1) := by decide +kernel
theorem d_law_607 : decode code 607 = .ok (.aload_n 1, 1) := by decide +kernel
theorem d_law_608 : decode code 608 = .ok (.aload_n 0, 1) := by decide +kernel
theorem d_law_609 : decode code 609 = .ok (.iload_n 3, 1) := by decide +kernel
theorem d_law_610 : decode code 610 = .ok (.iconst 1, 1) := by decide +kernel
theorem d_law_611 : decode code 611 = .ok (.iadd, 1) := by decide +kernel
theorem d_law_612 : decode code 612 = .ok (.iaload, 1) := by decide +kernel
theorem d_law_613 : decode code 613 = .ok (.invokevirtual 73, 3) := by decide +kernel
theorem d_law_616 : decode code 616 = .ok (.aload_n 2, 1) := by decide +kernel
theorem d_law_617 : decode code 617 = .ok (.aload_n 0, 1) := by decide +kernel
theorem d_law_618 : decode code 618 = .ok (.iload_n 3, 1) := by decide +kernel
theorem d_law_619 : decode code 619 = .ok (.iconst 1, 1) := by decide +kernel
theorem d_law_620 : decode code 620 = .ok (.iadd, 1) := by decide +kernel
theorem d_law_621 : decode code 621 = .ok (.iaload, 1) := by decide +kernel
theorem d_law_622 : decode code 622 = .ok (.invokevirtual 76, 3) := by decide +kernel
theorem d_law_625 : decode code 625 = .ok (.if_icmp .eq 439, 3) := by decide +kernel
theorem d_law_628 : decode code 628 = .ok (.iconst 0, 1) := by decide +kernel
theorem d_law_629 : decode code 629 = .ok (.ireturn, 1) := by decide +kernel
theorem d_law_630 : decode code 630 = .ok (.aload_n 1, 1) := by decide +kernel
theorem d_law_631 : decode code 631 = .ok (.aload_n 0, 1) := by decide +kernel
theorem d_law_632 : decode code 632 = .ok (.iload_n 3, 1) := by decide +kernel
theorem d_law_633 : decode code 633 = .ok (.iconst 1, 1) := by decide +kernel
theorem d_law_634 : decode code 634 = .ok (.iadd, 1) := by decide +kernel
theorem d_law_635 : decode code 635 = .ok (.iaload, 1) := by decide +kernel
theorem d_law_636 : decode code 636 = .ok (.invokevirtual 77, 3) := by decide +kernel
theorem d_law_639 : decode code 639 = .ok (.aload_n 2, 1) := by decide +kernel
theorem d_law_640 : decode code 640 = .ok (.aload_n 0, 1) := by decide +kernel
theorem d_law_641 : decode code 641 = .ok (.iload_n 3, 1) := by decide +kernel
theorem d_law_642 : decode code 642 = .ok (.iconst 1, 1) := by decide +kernel
theorem d_law_643 : decode code 643 = .ok (.iadd, 1) := by decide +kernel
theorem d_law_644 : decode code 644 = .ok (.iaload, 1) := by decide +kernel
theorem d_law_645 : decode code 645 = .ok (.invokevirtual 80, 3) := by decide +kernel
theorem d_law_648 : decode code 648 = .ok (.if_icmp .eq 416, 3) := by decide +kernel
theorem d_law_651 : decode code 651 = .ok (.iconst 0, 1) := by decide +kernel
theorem d_law_652 : decode code 652 = .ok (.ireturn, 1) := by decide +kernel
theorem d_law_653 : decode code 653 = .ok (.aload_n 1, 1) := by decide +kernel
theorem d_law_654 : decode code 654 = .ok (.aload_n 0, 1) := by decide +kernel
theorem d_law_655 : decode code 655 = .ok (.iload_n 3, 1) := by decide +kernel
theorem d_law_656 : decode code 656 = .ok (.iconst 1, 1) := by decide +kernel
theorem d_law_657 : decode code 657 = .ok (.iadd, 1) := by decide +kernel
theorem d_law_658 : decode code 658 = .ok (.iaload, 1) := by decide +kernel
theorem d_law_659 : decode code 659 = .ok (.aload_n 0, 1) := by decide +kernel
theorem d_law_660 : decode code 660 = .ok (.iload_n 3, 1) := by decide +kernel
theorem d_law_661 : decode code 661 = .ok (.iconst 2, 1) := by decide +kernel
theorem d_law_662 : decode code 662 = .ok (.iadd, 1) := by decide +kernel
theorem d_law_663 : decode code 663 = .ok (.iaload, 1) := by decide +kernel
theorem d_law_664 : decode code 664 = .ok (.aload_n 0, 1) := by decide +kernel
theorem d_law_665 : decode code 665 = .ok (.iload_n 3, 1) := by decide +kernel
theorem d_law_666 : decode code 666 = .ok (.iconst 3, 1) := by decide +kernel
theorem d_law_667 : decode code 667 = .ok (.iadd, 1) := by decide +kernel
theorem d_law_668 : decode code 668 = .ok (.iaload, 1) := by decide +kernel
theorem d_law_669 : decode code 669 = .ok (.invokevirtual 81, 3) := by decide +kernel
theorem d_law_672 : decode code 672 = .ok (.aload_n 2, 1) := by decide +kernel
theorem d_law_673 : decode code 673 = .ok (.aload_n 0, 1) := by decide +kernel
theorem d_law_674 : decode code 674 = .ok (.iload_n 3, 1) := by decide +kernel
theorem d_law_675 : decode code 675 = .ok (.iconst 1, 1) := by decide +kernel
theorem d_law_676 : decode code 676 = .ok (.iadd, 1) := by decide +kernel
theorem d_law_677 : decode code 677 = .ok (.iaload, 1) := by decide +kernel
theorem d_law_678 : decode code 678 = .ok (.aload_n 0, 1) := by decide +kernel
theorem d_law_679 : decode code 679 = .ok (.iload_n 3, 1) := by decide +kernel
theorem d_law_680 : decode code 680 = .ok (.iconst 2, 1) := by decide +kernel
theorem d_law_681 : decode code 681 = .ok (.iadd, 1) := by decide +kernel
theorem d_law_682 : decode code 682 = .ok (.iaload, 1) := by decide +kernel
theorem d_law_683 : decode code 683 = .ok (.aload_n 0, 1) := by decide +kernel
theorem d_law_684 : decode code 684 = .ok (.iload_n 3, 1) := by decide +kernel
theorem d_law_685 : decode code 685 = .ok (.iconst 3, 1) := by decide +kernel
theorem d_law_686 : decode code 686 = .ok (.iadd, 1) := by decide +kernel
theorem d_law_687 : decode code 687 = .ok (.iaload, 1) := by decide +kernel
theorem d_law_688 : decode code 688 = .ok (.invokevirtual 85, 3) := by decide +kernel
theorem d_law_691 : decode code 691 = .ok (.lcmp, 1) := by decide +kernel
theorem d_law_692 : decode code 692 = .ok (.ifCond .eq 372, 3) := by decide +kernel
theorem d_law_695 : decode code 695 = .ok (.iconst 0, 1) := by decide +kernel
theorem d_law_696 : decode code 696 = .ok (.ireturn, 1) := by decide +kernel
theorem d_law_697 : decode code 697 = .ok (.aload_n 1, 1) := by decide +kernel
theorem d_law_698 : decode code 698 = .ok (.aload_n 0, 1) := by decide +kernel
theorem d_law_699 : decode code 699 = .ok (.iload_n 3, 1) := by decide +kernel
theorem d_law_700 : decode code 700 = .ok (.iconst 1, 1) := by decide +kernel
theorem d_law_701 : decode code 701 = .ok (.iadd, 1) := by decide +kernel
theorem d_law_702 : decode code 702 = .ok (.iaload, 1) := by decide +kernel
theorem d_law_703 : decode code 703 = .ok (.aload_n 0, 1) := by decide +kernel
theorem d_law_704 : decode code 704 = .ok (.iload_n 3, 1) := by decide +kernel
theorem d_law_705 : decode code 705 = .ok (.iconst 2, 1) := by decide +kernel
theorem d_law_706 : decode code 706 = .ok (.iadd, 1) := by decide +kernel
theorem d_law_707 : decode code 707 = .ok (.iaload, 1) := by decide +kernel
theorem d_law_708 : decode code 708 = .ok (.invokevirtual 86, 3) := by decide +kernel
theorem d_law_711 : decode code 711 = .ok (.aload_n 2, 1) := by decide +kernel
theorem d_law_712 : decode code 712 = .ok (.aload_n 0, 1) := by decide +kernel
theorem d_law_713 : decode code 713 = .ok (.iload_n 3, 1) := by decide +kernel
theorem d_law_714 : decode code 714 = .ok (.iconst 1, 1) := by decide +kernel
theorem d_law_715 : decode code 715 = .ok (.iadd, 1) := by decide +kernel
theorem d_law_716 : decode code 716 = .ok (.iaload, 1) := by decide +kernel
theorem d_law_717 : decode code 717 = .ok (.aload_n 0, 1) := by decide +kernel
theorem d_law_718 : decode code 718 = .ok (.iload_n 3, 1) := by decide +kernel
theorem d_law_719 : decode code 719 = .ok (.iconst 2, 1) := by decide +kernel
theorem d_law_720 : decode code 720 = .ok (.iadd, 1) := by decide +kernel
theorem d_law_721 : decode code 721 = .ok (.iaload, 1) := by decide +kernel
theorem d_law_722 : decode code 722 = .ok (.invokevirtual 90, 3) := by decide +kernel
theorem d_law_725 : decode code 725 = .ok (.if_icmp .eq 339, 3) := by decide +kernel
theorem d_law_728 : decode code 728 = .ok (.iconst 0, 1) := by decide +kernel
theorem d_law_729 : decode code 729 = .ok (.ireturn, 1) := by decide +kernel
theorem d_law_730 : decode code 730 = .ok (.aload_n 1, 1) := by decide +kernel
theorem d_law_731 : decode code 731 = .ok (.aload_n 0, 1) := by decide +kernel
theorem d_law_732 : decode code 732 = .ok (.iload_n 3, 1) := by decide +kernel
theorem d_law_733 : decode code 733 = .ok (.iconst 1, 1) := by decide +kernel
theorem d_law_734 : decode code 734 = .ok (.iadd, 1) := by decide +kernel
theorem d_law_735 : decode code 735 = .ok (.iaload, 1) := by decide +kernel
theorem d_law_736 : decode code 736 = .ok (.aload_n 0, 1) := by decide +kernel
theorem d_law_737 : decode code 737 = .ok (.iload_n 3, 1) := by decide +kernel
theorem d_law_738 : decode code 738 = .ok (.iconst 2, 1) := by decide +kernel
theorem d_law_739 : decode code 739 = .ok (.iadd, 1) := by decide +kernel
theorem d_law_740 : decode code 740 = .ok (.iaload, 1) := by decide +kernel
theorem d_law_741 : decode code 741 = .ok (.invokevirtual 91, 3) := by decide +kernel
theorem d_law_744 : decode code 744 = .ok (.aload_n 2, 1) := by decide +kernel
theorem d_law_745 : decode code 745 = .ok (.aload_n 0, 1) := by decide +kernel
theorem d_law_746 : decode code 746 = .ok (.iload_n 3, 1) := by decide +kernel
theorem d_law_747 : decode code 747 = .ok (.iconst 1, 1) := by decide +kernel
theorem d_law_748 : decode code 748 = .ok (.iadd, 1) := by decide +kernel
theorem d_law_749 : decode code 749 = .ok (.iaload, 1) := by decide +kernel
theorem d_law_750 : decode code 750 = .ok (.aload_n 0, 1) := by decide +kernel
theorem d_law_751 : decode code 751 = .ok (.iload_n 3, 1) := by decide +kernel
theorem d_law_752 : decode code 752 = .ok (.iconst 2, 1) := by decide +kernel
theorem d_law_753 : decode code 753 = .ok (.iadd, 1) := by decide +kernel
theorem d_law_754 : decode code 754 = .ok (.iaload, 1) := by decide +kernel
theorem d_law_755 : decode code 755 = .ok (.invokevirtual 94, 3) := by decide +kernel
theorem d_law_758 : decode code 758 = .ok (.if_icmp .eq 306, 3) := by decide +kernel
theorem d_law_761 : decode code 761 = .ok (.iconst 0, 1) := by decide +kernel
theorem d_law_762 : decode code 762 = .ok (.ireturn, 1) := by decide +kernel
theorem d_law_763 : decode code 763 = .ok (.aload_n 1, 1) := by decide +kernel
theorem d_law_764 : decode code 764 = .ok (.aload_n 0, 1) := by decide +kernel
theorem d_law_765 : decode code 765 = .ok (.iload_n 3, 1) := by decide +kernel
theorem d_law_766 : decode code 766 = .ok (.iconst 1, 1) := by decide +kernel
theorem d_law_767 : decode code 767 = .ok (.iadd, 1) := by decide +kernel
theorem d_law_768 : decode code 768 = .ok (.iaload, 1) := by decide +kernel
theorem d_law_769 : decode code 769 = .ok (.aload_n 0, 1) := by decide +kernel
theorem d_law_770 : decode code 770 = .ok (.iload_n 3, 1) := by decide +kernel
theorem d_law_771 : decode code 771 = .ok (.iconst 2, 1) := by decide +kernel
theorem d_law_772 : decode code 772 = .ok (.iadd, 1) := by decide +kernel
theorem d_law_773 : decode code 773 = .ok (.iaload, 1) := by decide +kernel
theorem d_law_774 : decode code 774 = .ok (.invokevirtual 95, 3) := by decide +kernel
theorem d_law_777 : decode code 777 = .ok (.aload_n 2, 1) := by decide +kernel
theorem d_law_778 : decode code 778 = .ok (.aload_n 0, 1) := by decide +kernel
theorem d_law_779 : decode code 779 = .ok (.iload_n 3, 1) := by decide +kernel
theorem d_law_780 : decode code 780 = .ok (.iconst 1, 1) := by decide +kernel
theorem d_law_781 : decode code 781 = .ok (.iadd, 1) := by decide +kernel
theorem d_law_782 : decode code 782 = .ok (.iaload, 1) := by decide +kernel
theorem d_law_783 : decode code 783 = .ok (.aload_n 0, 1) := by decide +kernel
theorem d_law_784 : decode code 784 = .ok (.iload_n 3, 1) := by decide +kernel
theorem d_law_785 : decode code 785 = .ok (.iconst 2, 1) := by decide +kernel
theorem d_law_786 : decode code 786 = .ok (.iadd, 1) := by decide +kernel
theorem d_law_787 : decode code 787 = .ok (.iaload, 1) := by decide +kernel
theorem d_law_788 : decode code 788 = .ok (.invokevirtual 98, 3) := by decide +kernel
theorem d_law_791 : decode code 791 = .ok (.if_icmp .eq 273, 3) := by decide +kernel
theorem d_law_794 : decode code 794 = .ok (.iconst 0, 1) := by decide +kernel
theorem d_law_795 : decode code 795 = .ok (.ireturn, 1) := by decide +kernel
theorem d_law_796 : decode code 796 = .ok (.aload_n 1, 1) := by decide +kernel
theorem d_law_797 : decode code 797 = .ok (.aload_n 0, 1) := by decide +kernel
theorem d_law_798 : decode code 798 = .ok (.iload_n 3, 1) := by decide +kernel
theorem d_law_799 : decode code 799 = .ok (.iconst 1, 1) := by decide +kernel
theorem d_law_800 : decode code 800 = .ok (.iadd, 1) := by decide +kernel
theorem d_law_801 : decode code 801 = .ok (.iaload, 1) := by decide +kernel
theorem d_law_802 : decode code 802 = .ok (.aload_n 0, 1) := by decide +kernel
theorem d_law_803 : decode code 803 = .ok (.iload_n 3, 1) := by decide +kernel
theorem d_law_804 : decode code 804 = .ok (.iconst 2, 1) := by decide +kernel
theorem d_law_805 : decode code 805 = .ok (.iadd, 1) := by decide +kernel
theorem d_law_806 : decode code 806 = .ok (.iaload, 1) := by decide +kernel
theorem d_law_807 : decode code 807 = .ok (.invokevirtual 99, 3) := by decide +kernel
theorem d_law_810 : decode code 810 = .ok (.aload_n 2, 1) := by decide +kernel
theorem d_law_811 : decode code 811 = .ok (.aload_n 0, 1) := by decide +kernel
theorem d_law_812 : decode code 812 = .ok (.iload_n 3, 1) := by decide +kernel
theorem d_law_813 : decode code 813 = .ok (.iconst 1, 1) := by decide +kernel
theorem d_law_814 : decode code 814 = .ok (.iadd, 1) := by decide +kernel
theorem d_law_815 : decode code 815 = .ok (.iaload, 1) := by decide +kernel
theorem d_law_816 : decode code 816 = .ok (.aload_n 0, 1) := by decide +kernel
theorem d_law_817 : decode code 817 = .ok (.iload_n 3, 1) := by decide +kernel
theorem d_law_818 : decode code 818 = .ok (.iconst 2, 1) := by decide +kernel
theorem d_law_819 : decode code 819 = .ok (.iadd, 1) := by decide +kernel
theorem d_law_820 : decode code 820 = .ok (.iaload, 1) := by decide +kernel
theorem d_law_821 : decode code 821 = .ok (.invokevirtual 102, 3) := by decide +kernel
theorem d_law_824 : decode code 824 = .ok (.if_icmp .eq 240, 3) := by decide +kernel
theorem d_law_827 : decode code 827 = .ok (.iconst 0, 1) := by decide +kernel
theorem d_law_828 : decode code 828 = .ok (.ireturn, 1) := by decide +kernel
theorem d_law_829 : decode code 829 = .ok (.aload_n 1, 1) := by decide +kernel
theorem d_law_830 : decode code 830 = .ok (.aload_n 0, 1) := by decide +kernel
theorem d_law_831 : decode code 831 = .ok (.iload_n 3, 1) := by decide +kernel
theorem d_law_832 : decode code 832 = .ok (.iconst 1, 1) := by decide +kernel
theorem d_law_833 : decode code 833 = .ok (.iadd, 1) := by decide +kernel
theorem d_law_834 : decode code 834 = .ok (.iaload, 1) := by decide +kernel
theorem d_law_835 : decode code 835 = .ok (.aload_n 0, 1) := by decide +kernel
theorem d_law_836 : decode code 836 = .ok (.iload_n 3, 1) := by decide +kernel
theorem d_law_837 : decode code 837 = .ok (.iconst 2, 1) := by decide +kernel
theorem d_law_838 : decode code 838 = .ok (.iadd, 1) := by decide +kernel
theorem d_law_839 : decode code 839 = .ok (.iaload, 1) := by decide +kernel
theorem d_law_840 : decode code 840 = .ok (.aload_n 0, 1) := by decide +kernel
theorem d_law_841 : decode code 841 = .ok (.iload_n 3, 1) := by decide +kernel
theorem d_law_842 : decode code 842 = .ok (.iconst 3, 1) := by decide +kernel
theorem d_law_843 : decode code 843 = .ok (.iadd, 1) := by decide +kernel
theorem d_law_844 : decode code 844 = .ok (.iaload, 1) := by decide +kernel
theorem d_law_845 : decode code 845 = .ok (.invokevirtual 103, 3) := by decide +kernel
theorem d_law_848 : decode code 848 = .ok (.aload_n 2, 1) := by decide +kernel
theorem d_law_849 : decode code 849 = .ok (.aload_n 0, 1) := by decide +kernel
theorem d_law_850 : decode code 850 = .ok (.iload_n 3, 1) := by decide +kernel
theorem d_law_851 : decode code 851 = .ok (.iconst 1, 1) := by decide +kernel
theorem d_law_852 : decode code 852 = .ok (.iadd, 1) := by decide +kernel
theorem d_law_853 : decode code 853 = .ok (.iaload, 1) := by decide +kernel
theorem d_law_854 : decode code 854 = .ok (.aload_n 0, 1) := by decide +kernel
theorem d_law_855 : decode code 855 = .ok (.iload_n 3, 1) := by decide +kernel
theorem d_law_856 : decode code 856 = .ok (.iconst 2, 1) := by decide +kernel
theorem d_law_857 : decode code 857 = .ok (.iadd, 1) := by decide +kernel
theorem d_law_858 : decode code 858 = .ok (.iaload, 1) := by decide +kernel
theorem d_law_859 : decode code 859 = .ok (.aload_n 0, 1) := by decide +kernel
theorem d_law_860 : decode code 860 = .ok (.iload_n 3, 1) := by decide +kernel
theorem d_law_861 : decode code 861 = .ok (.iconst 3, 1) := by decide +kernel
theorem d_law_862 : decode code 862 = .ok (.iadd, 1) := by decide +kernel
theorem d_law_863 : decode code 863 = .ok (.iaload, 1) := by decide +kernel
theorem d_law_864 : decode code 864 = .ok (.invokevirtual 106, 3) := by decide +kernel
theorem d_law_867 : decode code 867 = .ok (.if_icmp .eq 197, 3) := by decide +kernel
theorem d_law_870 : decode code 870 = .ok (.iconst 0, 1) := by decide +kernel
theorem d_law_871 : decode code 871 = .ok (.ireturn, 1) := by decide +kernel
theorem d_law_872 : decode code 872 = .ok (.aload_n 1, 1) := by decide +kernel
theorem d_law_873 : decode code 873 = .ok (.aload_n 0, 1) := by decide +kernel
theorem d_law_874 : decode code 874 = .ok (.iload_n 3, 1) := by decide +kernel
theorem d_law_875 : decode code 875 = .ok (.iconst 1, 1) := by decide +kernel
theorem d_law_876 : decode code 876 = .ok (.iadd, 1) := by decide +kernel
theorem d_law_877 : decode code 877 = .ok (.iaload, 1) := by decide +kernel
theorem d_law_878 : decode code 878 = .ok (.invokevirtual 107, 3) := by decide +kernel
theorem d_law_881 : decode code 881 = .ok (.aload_n 2, 1) := by decide +kernel
theorem d_law_882 : decode code 882 = .ok (.aload_n 0, 1) := by decide +kernel
theorem d_law_883 : decode code 883 = .ok (.iload_n 3, 1) := by decide +kernel
theorem d_law_884 : decode code 884 = .ok (.iconst 1, 1) := by decide +kernel
theorem d_law_885 : decode code 885 = .ok (.iadd, 1) := by decide +kernel
theorem d_law_886 : decode code 886 = .ok (.iaload, 1) := by decide +kernel
theorem d_law_887 : decode code 887 = .ok (.invokevirtual 111, 3) := by decide +kernel
theorem d_law_890 : decode code 890 = .ok (.lcmp, 1) := by decide +kernel
theorem d_law_891 : decode code 891 = .ok (.ifCond .eq 173, 3) := by decide +kernel
theorem d_law_894 : decode code 894 = .ok (.iconst 0, 1) := by decide +kernel
theorem d_law_895 : decode code 895 = .ok (.ireturn, 1) := by decide +kernel
theorem d_law_896 : decode code 896 = .ok (.aload_n 1, 1) := by decide +kernel
theorem d_law_897 : decode code 897 = .ok (.aload_n 0, 1) := by decide +kernel
theorem d_law_898 : decode code 898 = .ok (.iload_n 3, 1) := by decide +kernel
theorem d_law_899 : decode code 899 = .ok (.iconst 1, 1) := by decide +kernel
theorem d_law_900 : decode code 900 = .ok (.iadd, 1) := by decide +kernel
theorem d_law_901 : decode code 901 = .ok (.iaload, 1) := by decide +kernel
theorem d_law_902 : decode code 902 = .ok (.aload_n 0, 1) := by decide +kernel
theorem d_law_903 : decode code 903 = .ok (.iload_n 3, 1) := by decide +kernel
theorem d_law_904 : decode code 904 = .ok (.iconst 2, 1) := by decide +kernel
theorem d_law_905 : decode code 905 = .ok (.iadd, 1) := by decide +kernel
theorem d_law_906 : decode code 906 = .ok (.iaload, 1) := by decide +kernel
theorem d_law_907 : decode code 907 = .ok (.invokevirtual 112, 3) := by decide +kernel
theorem d_law_910 : decode code 910 = .ok (.aload_n 2, 1) := by decide +kernel
theorem d_law_911 : decode code 911 = .ok (.aload_n 0, 1) := by decide +kernel
theorem d_law_912 : decode code 912 = .ok (.iload_n 3, 1) := by decide +kernel
theorem d_law_913 : decode code 913 = .ok (.iconst 1, 1) := by decide +kernel
theorem d_law_914 : decode code 914 = .ok (.iadd, 1) := by decide +kernel
theorem d_law_915 : decode code 915 = .ok (.iaload, 1) := by decide +kernel
theorem d_law_916 : decode code 916 = .ok (.aload_n 0, 1) := by decide +kernel
theorem d_law_917 : decode code 917 = .ok (.iload_n 3, 1) := by decide +kernel
theorem d_law_918 : decode code 918 = .ok (.iconst 2, 1) := by decide +kernel
theorem d_law_919 : decode code 919 = .ok (.iadd, 1) := by decide +kernel
theorem d_law_920 : decode code 920 = .ok (.iaload, 1) := by decide +kernel
theorem d_law_921 : decode code 921 = .ok (.invokevirtual 115, 3) := by decide +kernel
theorem d_law_924 : decode code 924 = .ok (.if_icmp .eq 140, 3) := by decide +kernel
theorem d_law_927 : decode code 927 = .ok (.iconst 0, 1) := by decide +kernel
theorem d_law_928 : decode code 928 = .ok (.ireturn, 1) := by decide +kernel
theorem d_law_929 : decode code 929 = .ok (.aload_n 1, 1) := by decide +kernel
theorem d_law_930 : decode code 930 = .ok (.aload_n 0, 1) := by decide +kernel
theorem d_law_931 : decode code 931 = .ok (.iload_n 3, 1) := by decide +kernel
theorem d_law_932 : decode code 932 = .ok (.iconst 1, 1) := by decide +kernel
theorem d_law_933 : decode code 933 = .ok (.iadd, 1) := by decide +kernel
theorem d_law_934 : decode code 934 = .ok (.iaload, 1) := by decide +kernel
theorem d_law_935 : decode code 935 = .ok (.invokevirtual 116, 3) := by decide +kernel
theorem d_law_938 : decode code 938 = .ok (.aload_n 2, 1) := by decide +kernel
theorem d_law_939 : decode code 939 = .ok (.aload_n 0, 1) := by decide +kernel
theorem d_law_940 : decode code 940 = .ok (.iload_n 3, 1) := by decide +kernel
theorem d_law_941 : decode code 941 = .ok (.iconst 1, 1) := by decide +kernel
theorem d_law_942 : decode code 942 = .ok (.iadd, 1) := by decide +kernel
theorem d_law_943 : decode code 943 = .ok (.iaload, 1) := by decide +kernel
theorem d_law_944 : decode code 944 = .ok (.invokevirtual 119, 3) := by decide +kernel
theorem d_law_947 : decode code 947 = .ok (.if_icmp .eq 117, 3) := by decide +kernel
theorem d_law_950 : decode code 950 = .ok (.iconst 0, 1) := by decide +kernel
theorem d_law_951 : decode code 951 = .ok (.ireturn, 1) := by decide +kernel
theorem d_law_952 : decode code 952 = .ok (.aload_n 1, 1) := by decide +kernel
theorem d_law_953 : decode code 953 = .ok (.aload_n 0, 1) := by decide +kernel
theorem d_law_954 : decode code 954 = .ok (.iload_n 3, 1) := by decide +kernel
theorem d_law_955 : decode code 955 = .ok (.iconst 1, 1) := by decide +kernel
theorem d_law_956 : decode code 956 = .ok (.iadd, 1) := by decide +kernel
theorem d_law_957 : decode code 957 = .ok (.iaload, 1) := by decide +kernel
theorem d_law_958 : decode code 958 = .ok (.aload_n 0, 1) := by decide +kernel
theorem d_law_959 : decode code 959 = .ok (.iload_n 3, 1) := by decide +kernel
theorem d_law_960 : decode code 960 = .ok (.iconst 2, 1) := by decide +kernel
theorem d_law_961 : decode code 961 = .ok (.iadd, 1) := by decide +kernel
theorem d_law_962 : decode code 962 = .ok (.iaload, 1) := by decide +kernel
theorem d_law_963 : decode code 963 = .ok (.aload_n 0, 1) := by decide +kernel
theorem d_law_964 : decode code 964 = .ok (.iload_n 3, 1) := by decide +kernel
theorem d_law_965 : decode code 965 = .ok (.iconst 3, 1) := by decide +kernel
theorem d_law_966 : decode code 966 = .ok (.iadd, 1) := by decide +kernel
theorem d_law_967 : decode code 967 = .ok (.iaload, 1) := by decide +kernel
theorem d_law_968 : decode code 968 = .ok (.invokevirtual 120, 3) := by decide +kernel
theorem d_law_971 : decode code 971 = .ok (.aload_n 2, 1) := by decide +kernel
theorem d_law_972 : decode code 972 = .ok (.aload_n 0, 1) := by decide +kernel
theorem d_law_973 : decode code 973 = .ok (.iload_n 3, 1) := by decide +kernel
theorem d_law_974 : decode code 974 = .ok (.iconst 1, 1) := by decide +kernel
theorem d_law_975 : decode code 975 = .ok (.iadd, 1) := by decide +kernel
theorem d_law_976 : decode code 976 = .ok (.iaload, 1) := by decide +kernel
theorem d_law_977 : decode code 977 = .ok (.aload_n 0, 1) := by decide +kernel
theorem d_law_978 : decode code 978 = .ok (.iload_n 3, 1) := by decide +kernel
theorem d_law_979 : decode code 979 = .ok (.iconst 2, 1) := by decide +kernel
theorem d_law_980 : decode code 980 = .ok (.iadd, 1) := by decide +kernel
theorem d_law_981 : decode code 981 = .ok (.iaload, 1) := by decide +kernel
theorem d_law_982 : decode code 982 = .ok (.aload_n 0, 1) := by decide +kernel
theorem d_law_983 : decode code 983 = .ok (.iload_n 3, 1) := by decide +kernel
theorem d_law_984 : decode code 984 = .ok (.iconst 3, 1) := by decide +kernel
theorem d_law_985 : decode code 985 = .ok (.iadd, 1) := by decide +kernel
theorem d_law_986 : decode code 986 = .ok (.iaload, 1) := by decide +kernel
theorem d_law_987 : decode code 987 = .ok (.invokevirtual 123, 3) := by decide +kernel
theorem d_law_990 : decode code 990 = .ok (.if_icmp .eq 74, 3) := by decide +kernel
theorem d_law_993 : decode code 993 = .ok (.iconst 0, 1) := by decide +kernel
theorem d_law_994 : decode code 994 = .ok (.ireturn, 1) := by decide +kernel
theorem d_law_995 : decode code 995 = .ok (.aload_n 1, 1) := by decide +kernel
theorem d_law_996 : decode code 996 = .ok (.invokevirtual 124, 3) := by decide +kernel
theorem d_law_999 : decode code 999 = .ok (.aload_n 2, 1) := by decide +kernel
theorem d_law_1000 : decode code 1000 = .ok (.invokevirtual 127, 3) := by decide +kernel
theorem d_law_1003 : decode code 1003 = .ok (.if_icmp .eq 61, 3) := by decide +kernel
theorem d_law_1006 : decode code 1006 = .ok (.iconst 0, 1) := by decide +kernel
theorem d_law_1007 : decode code 1007 = .ok (.ireturn, 1) := by decide +kernel
theorem d_law_1008 : decode code 1008 = .ok (.aload_n 1, 1) := by decide +kernel
theorem d_law_1009 : decode code 1009 = .ok (.aload_n 0, 1) := by decide +kernel
theorem d_law_1010 : decode code 1010 = .ok (.iload_n 3, 1) := by decide +kernel
theorem d_law_1011 : decode code 1011 = .ok (.iconst 1, 1) := by decide +kernel
theorem d_law_1012 : decode code 1012 = .ok (.iadd, 1) := by decide +kernel
theorem d_law_1013 : decode code 1013 = .ok (.iaload, 1) := by decide +kernel
theorem d_law_1014 : decode code 1014 = .ok (.aload_n 0, 1) := by decide +kernel
theorem d_law_1015 : decode code 1015 = .ok (.iload_n 3, 1) := by decide +kernel
theorem d_law_1016 : decode code 1016 = .ok (.iconst 2, 1) := by decide +kernel
theorem d_law_1017 : decode code 1017 = .ok (.iadd, 1) := by decide +kernel
theorem d_law_1018 : decode code 1018 = .ok (.iaload, 1) := by decide +kernel
theorem d_law_1019 : decode code 1019 = .ok (.invokevirtual 128, 3) := by decide +kernel
theorem d_law_1022 : decode code 1022 = .ok (.aload_n 2, 1) := by decide +kernel
theorem d_law_1023 : decode code 1023 = .ok (.aload_n 0, 1) := by decide +kernel
theorem d_law_1024 : decode code 1024 = .ok (.iload_n 3, 1) := by decide +kernel
theorem d_law_1025 : decode code 1025 = .ok (.iconst 1, 1) := by decide +kernel
theorem d_law_1026 : decode code 1026 = .ok (.iadd, 1) := by decide +kernel
theorem d_law_1027 : decode code 1027 = .ok (.iaload, 1) := by decide +kernel
theorem d_law_1028 : decode code 1028 = .ok (.aload_n 0, 1) := by decide +kernel
theorem d_law_1029 : decode code 1029 = .ok (.iload_n 3, 1) := by decide +kernel
theorem d_law_1030 : decode code 1030 = .ok (.iconst 2, 1) := by decide +kernel
theorem d_law_1031 : decode code 1031 = .ok (.iadd, 1) := by decide +kernel
theorem d_law_1032 : decode code 1032 = .ok (.iaload, 1) := by decide +kernel
theorem d_law_1033 : decode code 1033 = .ok (.invokevirtual 131, 3) := by decide +kernel
theorem d_law_1036 : decode code 1036 = .ok (.if_icmp .eq 28, 3) := by decide +kernel
theorem d_law_1039 : decode code 1039 = .ok (.iconst 0, 1) := by decide +kernel
theorem d_law_1040 : decode code 1040 = .ok (.ireturn, 1) := by decide +kernel
theorem d_law_1041 : decode code 1041 = .ok (.aload_n 1, 1) := by decide +kernel
theorem d_law_1042 : decode code 1042 = .ok (.aload_n 0, 1) := by decide +kernel
theorem d_law_1043 : decode code 1043 = .ok (.iload_n 3, 1) := by decide +kernel
theorem d_law_1044 : decode code 1044 = .ok (.iconst 1, 1) := by decide +kernel
theorem d_law_1045 : decode code 1045 = .ok (.iadd, 1) := by decide +kernel
theorem d_law_1046 : decode code 1046 = .ok (.iaload, 1) := by decide +kernel
theorem d_law_1047 : decode code 1047 = .ok (.invokevirtual 132, 3) := by decide +kernel
theorem d_law_1050 : decode code 1050 = .ok (.aload_n 2, 1) := by decide +kernel
theorem d_law_1051 : decode code 1051 = .ok (.aload_n 0, 1) := by decide +kernel
theorem d_law_1052 : decode code 1052 = .ok (.iload_n 3, 1) := by decide +kernel
theorem d_law_1053 : decode code 1053 = .ok (.iconst 1, 1) := by decide +kernel
theorem d_law_1054 : decode code 1054 = .ok (.iadd, 1) := by decide +kernel
theorem d_law_1055 : decode code 1055 = .ok (.iaload, 1) := by decide +kernel
theorem d_law_1056 : decode code 1056 = .ok (.invokevirtual 135, 3) := by decide +kernel
theorem d_law_1059 : decode code 1059 = .ok (.if_icmp .eq 5, 3) := by decide +kernel
theorem d_law_1062 : decode code 1062 = .ok (.iconst 0, 1) := by decide +kernel
theorem d_law_1063 : decode code 1063 = .ok (.ireturn, 1) := by decide +kernel
theorem d_law_1064 : decode code 1064 = .ok (.iinc 3 6, 3) := by decide +kernel
theorem d_law_1067 : decode code 1067 = .ok (.goto (-1049), 3) := by decide +kernel
theorem d_law_1070 : decode code 1070 = .ok (.iconst 1, 1) := by decide +kernel
theorem d_law_1071 : decode code 1071 = .ok (.ireturn, 1) := by decide +kernel
theorem lk_law_13 : LV "LetterHeapsLaw" 13 M_L_feed 5 10 := ⟨⟨tb_mem (i := 615) (by decide +kernel) rfl, tb_mem (i := 616) (by decide +kernel) rfl, tb_mem (i := 617) (by decide +kernel) rfl, tb_mem (i := 133) (by decide +kernel) rfl, tb_mem (i := 618) (by decide +kernel) rfl⟩, ⟨by decide +kernel, by decide +kernel, by decide +kernel⟩, by decide, ⟨_, rfl, rfl⟩⟩
theorem lk_law_17 : LV "LetterHeapsLaw" 17 M_M_feed 5 11 := ⟨⟨tb_mem (i := 1575) (by decide +kernel) rfl, tb_mem (i := 1576) (by decide +kernel) rfl, tb_mem (i := 1577) (by decide +kernel) rfl, tb_mem (i := 144) (by decide +kernel) rfl, tb_mem (i := 1578) (by decide +kernel) rfl⟩, ⟨by decide +kernel, by decide +kernel, by decide +kernel⟩, by decide, ⟨_, rfl, rfl⟩⟩
theorem lk_law_18 : LV "LetterHeapsLaw" 18 M_L_word 3 10 := ⟨⟨tb_mem (i := 627) (by decide +kernel) rfl, tb_mem (i := 628) (by decide +kernel) rfl, tb_mem (i := 629) (by decide +kernel) rfl, tb_mem (i := 133) (by decide +kernel) rfl, tb_mem (i := 630) (by decide +kernel) rfl⟩, ⟨by decide +kernel, by decide +kernel, by decide +kernel⟩, by decide, ⟨_, rfl, rfl⟩⟩
theorem lk_law_22 : LV "LetterHeapsLaw" 22 M_M_word 3 11 := ⟨⟨tb_mem (i := 1536) (by decide +kernel) rfl, tb_mem (i := 1537) (by decide +kernel) rfl, tb_mem (i := 1538) (by decide +kernel) rfl, tb_mem (i := 144) (by decide +kernel) rfl, tb_mem (i := 1539) (by decide +kernel) rfl⟩, ⟨by decide +kernel, by decide +kernel, by decide +kernel⟩, by decide, ⟨_, rfl, rfl⟩⟩
theorem lk_law_23 : LV "LetterHeapsLaw" 23 M_L_bar 2 10 := ⟨⟨tb_mem (i := 709) (by decide +kernel) rfl, tb_mem (i := 710) (by decide +kernel) rfl, tb_mem (i := 711) (by decide +kernel) rfl, tb_mem (i := 133) (by decide +kernel) rfl, tb_mem (i := 712) (by decide +kernel) rfl⟩, ⟨by decide +kernel, by decide +kernel, by decide +kernel⟩, by decide, ⟨_, rfl, rfl⟩⟩
theorem lk_law_27 : LV "LetterHeapsLaw" 27 M_M_bar 2 11 := ⟨⟨tb_mem (i := 1555) (by decide +kernel) rfl, tb_mem (i := 1556) (by decide +kernel) rfl, tb_mem (i := 1557) (by decide +kernel) rfl, tb_mem (i := 144) (by decide +kernel) rfl, tb_mem (i := 1558) (by decide +kernel) rfl⟩, ⟨by decide +kernel, by decide +kernel, by decide +kernel⟩, by decide, ⟨_, rfl, rfl⟩⟩
theorem lk_law_28 : LV "LetterHeapsLaw" 28 M_L_know 2 10 := ⟨⟨tb_mem (i := 721) (by decide +kernel) rfl, tb_mem (i := 722) (by decide +kernel) rfl, tb_mem (i := 723) (by decide +kernel) rfl, tb_mem (i := 133) (by decide +kernel) rfl, tb_mem (i := 724) (by decide +kernel) rfl⟩, ⟨by decide +kernel, by decide +kernel, by decide +kernel⟩, by decide, ⟨_, rfl, rfl⟩⟩
theorem lk_law_32 : LV "LetterHeapsLaw" 32 M_M_know 2 11 := ⟨⟨tb_mem (i := 1563) (by decide +kernel) rfl, tb_mem (i := 1564) (by decide +kernel) rfl, tb_mem (i := 1565) (by decide +kernel) rfl, tb_mem (i := 144) (by decide +kernel) rfl, tb_mem (i := 1566) (by decide +kernel) rfl⟩, ⟨by decide +kernel, by decide +kernel, by decide +kernel⟩, by decide, ⟨_, rfl, rfl⟩⟩
theorem lk_law_33 : LV "LetterHeapsLaw" 33 M_L_speak 1 10 := ⟨⟨tb_mem (i := 729) (by decide +kernel) rfl, tb_mem (i := 730) (by decide +kernel) rfl, tb_mem (i := 731) (by decide +kernel) rfl, tb_mem (i := 133) (by decide +kernel) rfl, tb_mem (i := 732) (by decide +kernel) rfl⟩, ⟨by decide +kernel, by decide +kernel, by decide +kernel⟩, by decide, ⟨_, rfl, rfl⟩⟩
theorem lk_law_37 : LV "LetterHeapsLaw" 37 M_M_speak 1 11 := ⟨⟨tb_mem (i := 1567) (by decide +kernel) rfl, tb_mem (i := 1568) (by decide +kernel) rfl, tb_mem (i := 1569) (by decide +kernel) rfl, tb_mem (i := 144) (by decide +kernel) rfl, tb_mem (i := 1570) (by decide +kernel) rfl⟩, ⟨by decide +kernel, by decide +kernel, by decide +kernel⟩, by decide, ⟨_, rfl, rfl⟩⟩
theorem lk_law_38 : LV "LetterHeapsLaw" 38 M_L_law 1 10 := ⟨⟨tb_mem (i := 737) (by decide +kernel) rfl, tb_mem (i := 738) (by decide +kernel) rfl, tb_mem (i := 739) (by decide +kernel) rfl, tb_mem (i := 133) (by decide +kernel) rfl, tb_mem (i := 740) (by decide +kernel) rfl⟩, ⟨by decide +kernel, by decide +kernel, by decide +kernel⟩, by decide, ⟨_, rfl, rfl⟩⟩
theorem lk_law_42 : LV "LetterHeapsLaw" 42 M_M_law 1 11 := ⟨⟨tb_mem (i := 1583) (by decide +kernel) rfl, tb_mem (i := 1584) (by decide +kernel) rfl, tb_mem (i := 1585) (by decide +kernel) rfl, tb_mem (i := 144) (by decide +kernel) rfl, tb_mem (i := 1586) (by decide +kernel) rfl⟩, ⟨by decide +kernel, by decide +kernel, by decide +kernel⟩, by decide, ⟨_, rfl, rfl⟩⟩
theorem lk_law_43 : LV "LetterHeapsLaw" 43 M_L_step 3 10 := ⟨⟨tb_mem (i := 918) (by decide +kernel) rfl, tb_mem (i := 919) (by decide +kernel) rfl, tb_mem (i := 920) (by decide +kernel) rfl, tb_mem (i := 133) (by decide +kernel) rfl, tb_mem (i := 921) (by decide +kernel) rfl⟩, ⟨by decide +kernel, by decide +kernel, by decide +kernel⟩, by decide, ⟨_, rfl, rfl⟩⟩
theorem lk_law_46 : LV "LetterHeapsLaw" 46 M_M_step 3 11 := ⟨⟨tb_mem (i := 1666) (by decide +kernel) rfl, tb_mem (i := 1667) (by decide +kernel) rfl, tb_mem (i := 1668) (by decide +kernel) rfl, tb_mem (i := 144) (by decide +kernel) rfl, tb_mem (i := 1669) (by decide +kernel) rfl⟩, ⟨by decide +kernel, by decide +kernel, by decide +kernel⟩, by decide, ⟨_, rfl, rfl⟩⟩
theorem lk_law_47 : LV "LetterHeapsLaw" 47 M_L_least 3 10 := ⟨⟨tb_mem (i := 978) (by decide +kernel) rfl, tb_mem (i := 979) (by decide +kernel) rfl, tb_mem (i := 980) (by decide +kernel) rfl, tb_mem (i := 133) (by decide +kernel) rfl, tb_mem (i := 981) (by decide +kernel) rfl⟩, ⟨by decide +kernel, by decide +kernel, by decide +kernel⟩, by decide, ⟨_, rfl, rfl⟩⟩
theorem lk_law_50 : LV "LetterHeapsLaw" 50 M_M_least 3 11 := ⟨⟨tb_mem (i := 1722) (by decide +kernel) rfl, tb_mem (i := 1723) (by decide +kernel) rfl, tb_mem (i := 1724) (by decide +kernel) rfl, tb_mem (i := 144) (by decide +kernel) rfl, tb_mem (i := 1725) (by decide +kernel) rfl⟩, ⟨by decide +kernel, by decide +kernel, by decide +kernel⟩, by decide, ⟨_, rfl, rfl⟩⟩
theorem lk_law_51 : LV "LetterHeapsLaw" 51 M_L_howMany 2 10 := ⟨⟨tb_mem (i := 1023) (by decide +kernel) rfl, tb_mem (i := 1024) (by decide +kernel) rfl, tb_mem (i := 1025) (by decide +kernel) rfl, tb_mem (i := 133) (by decide +kernel) rfl, tb_mem (i := 1026) (by decide +kernel) rfl⟩, ⟨by decide +kernel, by decide +kernel, by decide +kernel⟩, by decide, ⟨_, rfl, rfl⟩⟩
theorem lk_law_55 : LV "LetterHeapsLaw" 55 M_M_howMany 2 11 := ⟨⟨tb_mem (i := 1744) (by decide +kernel) rfl, tb_mem (i := 1745) (by decide +kernel) rfl, tb_mem (i := 1746) (by decide +kernel) rfl, tb_mem (i := 144) (by decide +kernel) rfl, tb_mem (i := 1747) (by decide +kernel) rfl⟩, ⟨by decide +kernel, by decide +kernel, by decide +kernel⟩, by decide, ⟨_, rfl, rfl⟩⟩
theorem lk_law_56 : LV "LetterHeapsLaw" 56 M_L_without 2 10 := ⟨⟨tb_mem (i := 1040) (by decide +kernel) rfl, tb_mem (i := 1041) (by decide +kernel) rfl, tb_mem (i := 1042) (by decide +kernel) rfl, tb_mem (i := 133) (by decide +kernel) rfl, tb_mem (i := 1043) (by decide +kernel) rfl⟩, ⟨by decide +kernel, by decide +kernel, by decide +kernel⟩, by decide, ⟨_, rfl, rfl⟩⟩
theorem lk_law_59 : LV "LetterHeapsLaw" 59 M_M_without 2 11 := ⟨⟨tb_mem (i := 1757) (by decide +kernel) rfl, tb_mem (i := 1758) (by decide +kernel) rfl, tb_mem (i := 1759) (by decide +kernel) rfl, tb_mem (i := 144) (by decide +kernel) rfl, tb_mem (i := 1760) (by decide +kernel) rfl⟩, ⟨by decide +kernel, by decide +kernel, by decide +kernel⟩, by decide, ⟨_, rfl, rfl⟩⟩
theorem lk_law_60 : LV "LetterHeapsLaw" 60 M_L_heap 1 10 := ⟨⟨tb_mem (i := 1067) (by decide +kernel) rfl, tb_mem (i := 1068) (by decide +kernel) rfl, tb_mem (i := 1069) (by decide +kernel) rfl, tb_mem (i := 133) (by decide +kernel) rfl, tb_mem (i := 1070) (by decide +kernel) rfl⟩, ⟨by decide +kernel, by decide +kernel, by decide +kernel⟩, by decide, ⟨_, rfl, rfl⟩⟩
theorem lk_law_63 : LV "LetterHeapsLaw" 63 M_M_heap 1 11 := ⟨⟨tb_mem (i := 1766) (by decide +kernel) rfl, tb_mem (i := 1767) (by decide +kernel) rfl, tb_mem (i := 1768) (by decide +kernel) rfl, tb_mem (i := 144) (by decide +kernel) rfl, tb_mem (i := 1769) (by decide +kernel) rfl⟩, ⟨by decide +kernel, by decide +kernel, by decide +kernel⟩, by decide, ⟨_, rfl, rfl⟩⟩
theorem lk_law_64 : LV "LetterHeapsLaw" 64 M_L_heaps 0 10 := ⟨⟨tb_mem (i := 1072) (by decide +kernel) rfl, tb_mem (i := 1073) (by decide +kernel) rfl, tb_mem (i := 1074) (by decide +kernel) rfl, tb_mem (i := 133) (by decide +kernel) rfl, tb_mem (i := 1075) (by decide +kernel) rfl⟩, ⟨by decide +kernel, by decide +kernel, by decide +kernel⟩, by decide, ⟨_, rfl, rfl⟩⟩
theorem lk_law_68 : LV "LetterHeapsLaw" 68 M_M_heaps 0 11 := ⟨⟨tb_mem (i := 1774) (by decide +kernel) rfl, tb_mem (i := 1775) (by decide +kernel) rfl, tb_mem (i := 1776) (by decide +kernel) rfl, tb_mem (i := 144) (by decide +kernel) rfl, tb_mem (i := 1777) (by decide +kernel) rfl⟩, ⟨by decide +kernel, by decide +kernel, by decide +kernel⟩, by decide, ⟨_, rfl, rfl⟩⟩
theorem lk_law_69 : LV "LetterHeapsLaw" 69 M_L_far 1 10 := ⟨⟨tb_mem (i := 1076) (by decide +kernel) rfl, tb_mem (i := 1077) (by decide +kernel) rfl, tb_mem (i := 1078) (by decide +kernel) rfl, tb_mem (i := 133) (by decide +kernel) rfl, tb_mem (i := 1079) (by decide +kernel) rfl⟩, ⟨by decide +kernel, by decide +kernel, by decide +kernel⟩, by decide, ⟨_, rfl, rfl⟩⟩
theorem lk_law_72 : LV "LetterHeapsLaw" 72 M_M_far 1 11 := ⟨⟨tb_mem (i := 1778) (by decide +kernel) rfl, tb_mem (i := 1779) (by decide +kernel) rfl, tb_mem (i := 1780) (by decide +kernel) rfl, tb_mem (i := 144) (by decide +kernel) rfl, tb_mem (i := 1781) (by decide +kernel) rfl⟩, ⟨by decide +kernel, by decide +kernel, by decide +kernel⟩, by decide, ⟨_, rfl, rfl⟩⟩
theorem lk_law_73 : LV "LetterHeapsLaw" 73 M_L_between 1 10 := ⟨⟨tb_mem (i := 1080) (by decide +kernel) rfl, tb_mem (i := 1081) (by decide +kernel) rfl, tb_mem (i := 1082) (by decide +kernel) rfl, tb_mem (i := 133) (by decide +kernel) rfl, tb_mem (i := 1083) (by decide +kernel) rfl⟩, ⟨by decide +kernel, by decide +kernel, by decide +kernel⟩, by decide, ⟨_, rfl, rfl⟩⟩
theorem lk_law_76 : LV "LetterHeapsLaw" 76 M_M_between 1 11 := ⟨⟨tb_mem (i := 1782) (by decide +kernel) rfl, tb_mem (i := 1783) (by decide +kernel) rfl, tb_mem (i := 1784) (by decide +kernel) rfl, tb_mem (i := 144) (by decide +kernel) rfl, tb_mem (i := 1785) (by decide +kernel) rfl⟩, ⟨by decide +kernel, by decide +kernel, by decide +kernel⟩, by decide, ⟨_, rfl, rfl⟩⟩
theorem lk_law_77 : LV "LetterHeapsLaw" 77 M_L_newWord 1 10 := ⟨⟨tb_mem (i := 1092) (by decide +kernel) rfl, tb_mem (i := 1093) (by decide +kernel) rfl, tb_mem (i := 1094) (by decide +kernel) rfl, tb_mem (i := 133) (by decide +kernel) rfl, tb_mem (i := 1095) (by decide +kernel) rfl⟩, ⟨by decide +kernel, by decide +kernel, by decide +kernel⟩, by decide, ⟨_, rfl, rfl⟩⟩
theorem lk_law_80 : LV "LetterHeapsLaw" 80 M_M_newWord 1 11 := ⟨⟨tb_mem (i := 1790) (by decide +kernel) rfl, tb_mem (i := 1791) (by decide +kernel) rfl, tb_mem (i := 1792) (by decide +kernel) rfl, tb_mem (i := 144) (by decide +kernel) rfl, tb_mem (i := 1793) (by decide +kernel) rfl⟩, ⟨by decide +kernel, by decide +kernel, by decide +kernel⟩, by decide, ⟨_, rfl, rfl⟩⟩
theorem lk_law_81 : LV "LetterHeapsLaw" 81 M_L_walks 3 10 := ⟨⟨tb_mem (i := 1160) (by decide +kernel) rfl, tb_mem (i := 1161) (by decide +kernel) rfl, tb_mem (i := 1162) (by decide +kernel) rfl, tb_mem (i := 133) (by decide +kernel) rfl, tb_mem (i := 1163) (by decide +kernel) rfl⟩, ⟨by decide +kernel, by decide +kernel, by decide +kernel⟩, by decide, ⟨_, rfl, rfl⟩⟩
theorem lk_law_85 : LV "LetterHeapsLaw" 85 M_M_walks 3 11 := ⟨⟨tb_mem (i := 1830) (by decide +kernel) rfl, tb_mem (i := 1831) (by decide +kernel) rfl, tb_mem (i := 1832) (by decide +kernel) rfl, tb_mem (i := 144) (by decide +kernel) rfl, tb_mem (i := 1833) (by decide +kernel) rfl⟩, ⟨by decide +kernel, by decide +kernel, by decide +kernel⟩, by decide, ⟨_, rfl, rfl⟩⟩
theorem lk_law_86 : LV "LetterHeapsLaw" 86 M_L_row 2 10 := ⟨⟨tb_mem (i := 1173) (by decide +kernel) rfl, tb_mem (i := 1174) (by decide +kernel) rfl, tb_mem (i := 1175) (by decide +kernel) rfl, tb_mem (i := 133) (by decide +kernel) rfl, tb_mem (i := 1176) (by decide +kernel) rfl⟩, ⟨by decide +kernel, by decide +kernel, by decide +kernel⟩, by decide, ⟨_, rfl, rfl⟩⟩
theorem lk_law_90 : LV "LetterHeapsLaw" 90 M_M_row 2 11 := ⟨⟨tb_mem (i := 1834) (by decide +kernel) rfl, tb_mem (i := 1835) (by decide +kernel) rfl, tb_mem (i := 1836) (by decide +kernel) rfl, tb_mem (i := 144) (by decide +kernel) rfl, tb_mem (i := 1837) (by decide +kernel) rfl⟩, ⟨by decide +kernel, by decide +kernel, by decide +kernel⟩, by decide, ⟨_, rfl, rfl⟩⟩
theorem lk_law_91 : LV "LetterHeapsLaw" 91 M_L_game 2 10 := ⟨⟨tb_mem (i := 1211) (by decide +kernel) rfl, tb_mem (i := 1212) (by decide +kernel) rfl, tb_mem (i := 1213) (by decide +kernel) rfl, tb_mem (i := 133) (by decide +kernel) rfl, tb_mem (i := 1214) (by decide +kernel) rfl⟩, ⟨by decide +kernel, by decide +kernel, by decide +kernel⟩, by decide, ⟨_, rfl, rfl⟩⟩
theorem lk_law_94 : LV "LetterHeapsLaw" 94 M_M_game 2 11 := ⟨⟨tb_mem (i := 1858) (by decide +kernel) rfl, tb_mem (i := 1859) (by decide +kernel) rfl, tb_mem (i := 1860) (by decide +kernel) rfl, tb_mem (i := 144) (by decide +kernel) rfl, tb_mem (i := 1861) (by decide +kernel) rfl⟩, ⟨by decide +kernel, by decide +kernel, by decide +kernel⟩, by decide, ⟨_, rfl, rfl⟩⟩
theorem lk_law_95 : LV "LetterHeapsLaw" 95 M_L_farBy 2 10 := ⟨⟨tb_mem (i := 1232) (by decide +kernel) rfl, tb_mem (i := 1233) (by decide +kernel) rfl, tb_mem (i := 1234) (by decide +kernel) rfl, tb_mem (i := 133) (by decide +kernel) rfl, tb_mem (i := 1235) (by decide +kernel) rfl⟩, ⟨by decide +kernel, by decide +kernel, by decide +kernel⟩, by decide, ⟨_, rfl, rfl⟩⟩
theorem lk_law_98 : LV "LetterHeapsLaw" 98 M_M_farBy 2 11 := ⟨⟨tb_mem (i := 1866) (by decide +kernel) rfl, tb_mem (i := 1867) (by decide +kernel) rfl, tb_mem (i := 1868) (by decide +kernel) rfl, tb_mem (i := 144) (by decide +kernel) rfl, tb_mem (i := 1869) (by decide +kernel) rfl⟩, ⟨by decide +kernel, by decide +kernel, by decide +kernel⟩, by decide, ⟨_, rfl, rfl⟩⟩
theorem lk_law_99 : LV "LetterHeapsLaw" 99 M_L_near 2 10 := ⟨⟨tb_mem (i := 1245) (by decide +kernel) rfl, tb_mem (i := 1246) (by decide +kernel) rfl, tb_mem (i := 1247) (by decide +kernel) rfl, tb_mem (i := 133) (by decide +kernel) rfl, tb_mem (i := 1248) (by decide +kernel) rfl⟩, ⟨by decide +kernel, by decide +kernel, by decide +kernel⟩, by decide, ⟨_, rfl, rfl⟩⟩
theorem lk_law_102 : LV "LetterHeapsLaw" 102 M_M_near 2 11 := ⟨⟨tb_mem (i := 1878) (by decide +kernel) rfl, tb_mem (i := 1879) (by decide +kernel) rfl, tb_mem (i := 1880) (by decide +kernel) rfl, tb_mem (i := 144) (by decide +kernel) rfl, tb_mem (i := 1881) (by decide +kernel) rfl⟩, ⟨by decide +kernel, by decide +kernel, by decide +kernel⟩, by decide, ⟨_, rfl, rfl⟩⟩
theorem lk_law_103 : LV "LetterHeapsLaw" 103 M_L_clear 3 10 := ⟨⟨tb_mem (i := 1255) (by decide +kernel) rfl, tb_mem (i := 1256) (by decide +kernel) rfl, tb_mem (i := 1257) (by decide +kernel) rfl, tb_mem (i := 133) (by decide +kernel) rfl, tb_mem (i := 1258) (by decide +kernel) rfl⟩, ⟨by decide +kernel, by decide +kernel, by decide +kernel⟩, by decide, ⟨_, rfl, rfl⟩⟩
theorem lk_law_106 : LV "LetterHeapsLaw" 106 M_M_clear 3 11 := ⟨⟨tb_mem (i := 1882) (by decide +kernel) rfl, tb_mem (i := 1883) (by decide +kernel) rfl, tb_mem (i := 1884) (by decide +kernel) rfl, tb_mem (i := 144) (by decide +kernel) rfl, tb_mem (i := 1885) (by decide +kernel) rfl⟩, ⟨by decide +kernel, by decide +kernel, by decide +kernel⟩, by decide, ⟨_, rfl, rfl⟩⟩
theorem lk_law_107 : LV "LetterHeapsLaw" 107 M_L_rubbed 1 10 := ⟨⟨tb_mem (i := 1275) (by decide +kernel) rfl, tb_mem (i := 1276) (by decide +kernel) rfl, tb_mem (i := 1277) (by decide +kernel) rfl, tb_mem (i := 133) (by decide +kernel) rfl, tb_mem (i := 1278) (by decide +kernel) rfl⟩, ⟨by decide +kernel, by decide +kernel, by decide +kernel⟩, by decide, ⟨_, rfl, rfl⟩⟩
theorem lk_law_111 : LV "LetterHeapsLaw" 111 M_M_rubbed 1 11 := ⟨⟨tb_mem (i := 1893) (by decide +kernel) rfl, tb_mem (i := 1894) (by decide +kernel) rfl, tb_mem (i := 1895) (by decide +kernel) rfl, tb_mem (i := 144) (by decide +kernel) rfl, tb_mem (i := 1896) (by decide +kernel) rfl⟩, ⟨by decide +kernel, by decide +kernel, by decide +kernel⟩, by decide, ⟨_, rfl, rfl⟩⟩
theorem lk_law_112 : LV "LetterHeapsLaw" 112 M_L_square 2 10 := ⟨⟨tb_mem (i := 1292) (by decide +kernel) rfl, tb_mem (i := 1293) (by decide +kernel) rfl, tb_mem (i := 1294) (by decide +kernel) rfl, tb_mem (i := 133) (by decide +kernel) rfl, tb_mem (i := 1295) (by decide +kernel) rfl⟩, ⟨by decide +kernel, by decide +kernel, by decide +kernel⟩, by decide, ⟨_, rfl, rfl⟩⟩
theorem lk_law_115 : LV "LetterHeapsLaw" 115 M_M_square 2 11 := ⟨⟨tb_mem (i := 1901) (by decide +kernel) rfl, tb_mem (i := 1902) (by decide +kernel) rfl, tb_mem (i := 1903) (by decide +kernel) rfl, tb_mem (i := 144) (by decide +kernel) rfl, tb_mem (i := 1904) (by decide +kernel) rfl⟩, ⟨by decide +kernel, by decide +kernel, by decide +kernel⟩, by decide, ⟨_, rfl, rfl⟩⟩
theorem lk_law_116 : LV "LetterHeapsLaw" 116 M_L_seed 1 10 := ⟨⟨tb_mem (i := 1325) (by decide +kernel) rfl, tb_mem (i := 1326) (by decide +kernel) rfl, tb_mem (i := 1327) (by decide +kernel) rfl, tb_mem (i := 133) (by decide +kernel) rfl, tb_mem (i := 1328) (by decide +kernel) rfl⟩, ⟨by decide +kernel, by decide +kernel, by decide +kernel⟩, by decide, ⟨_, rfl, rfl⟩⟩
theorem lk_law_119 : LV "LetterHeapsLaw" 119 M_M_seed 1 11 := ⟨⟨tb_mem (i := 1921) (by decide +kernel) rfl, tb_mem (i := 1922) (by decide +kernel) rfl, tb_mem (i := 1923) (by decide +kernel) rfl, tb_mem (i := 144) (by decide +kernel) rfl, tb_mem (i := 1924) (by decide +kernel) rfl⟩, ⟨by decide +kernel, by decide +kernel, by decide +kernel⟩, by decide, ⟨_, rfl, rfl⟩⟩
theorem lk_law_120 : LV "LetterHeapsLaw" 120 M_L_draw 3 10 := ⟨⟨tb_mem (i := 1330) (by decide +kernel) rfl, tb_mem (i := 1331) (by decide +kernel) rfl, tb_mem (i := 1332) (by decide +kernel) rfl, tb_mem (i := 133) (by decide +kernel) rfl, tb_mem (i := 1333) (by decide +kernel) rfl⟩, ⟨by decide +kernel, by decide +kernel, by decide +kernel⟩, by decide, ⟨_, rfl, rfl⟩⟩
theorem lk_law_123 : LV "LetterHeapsLaw" 123 M_M_draw 3 11 := ⟨⟨tb_mem (i := 1926) (by decide +kernel) rfl, tb_mem (i := 1927) (by decide +kernel) rfl, tb_mem (i := 1928) (by decide +kernel) rfl, tb_mem (i := 144) (by decide +kernel) rfl, tb_mem (i := 1929) (by decide +kernel) rfl⟩, ⟨by decide +kernel, by decide +kernel, by decide +kernel⟩, by decide, ⟨_, rfl, rfl⟩⟩
theorem lk_law_124 : LV "LetterHeapsLaw" 124 M_L_off 0 10 := ⟨⟨tb_mem (i := 1341) (by decide +kernel) rfl, tb_mem (i := 1342) (by decide +kernel) rfl, tb_mem (i := 1343) (by decide +kernel) rfl, tb_mem (i := 133) (by decide +kernel) rfl, tb_mem (i := 1344) (by decide +kernel) rfl⟩, ⟨by decide +kernel, by decide +kernel, by decide +kernel⟩, by decide, ⟨_, rfl, rfl⟩⟩
theorem lk_law_127 : LV "LetterHeapsLaw" 127 M_M_off 0 11 := ⟨⟨tb_mem (i := 1571) (by decide +kernel) rfl, tb_mem (i := 1572) (by decide +kernel) rfl, tb_mem (i := 1573) (by decide +kernel) rfl, tb_mem (i := 144) (by decide +kernel) rfl, tb_mem (i := 1574) (by decide +kernel) rfl⟩, ⟨by decide +kernel, by decide +kernel, by decide +kernel⟩, by decide, ⟨_, rfl, rfl⟩⟩
theorem lk_law_128 : LV "LetterHeapsLaw" 128 M_L_check 2 10 := ⟨⟨tb_mem (i := 1349) (by decide +kernel) rfl, tb_mem (i := 1350) (by decide +kernel) rfl, tb_mem (i := 1351) (by decide +kernel) rfl, tb_mem (i := 133) (by decide +kernel) rfl, tb_mem (i := 1352) (by decide +kernel) rfl⟩, ⟨by decide +kernel, by decide +kernel, by decide +kernel⟩, by decide, ⟨_, rfl, rfl⟩⟩
theorem lk_law_131 : LV "LetterHeapsLaw" 131 M_M_check 2 11 := ⟨⟨tb_mem (i := 1939) (by decide +kernel) rfl, tb_mem (i := 1940) (by decide +kernel) rfl, tb_mem (i := 1941) (by decide +kernel) rfl, tb_mem (i := 144) (by decide +kernel) rfl, tb_mem (i := 1942) (by decide +kernel) rfl⟩, ⟨by decide +kernel, by decide +kernel, by decide +kernel⟩, by decide, ⟨_, rfl, rfl⟩⟩
theorem lk_law_132 : LV "LetterHeapsLaw" 132 M_L_count 1 10 := ⟨⟨tb_mem (i := 1358) (by decide +kernel) rfl, tb_mem (i := 1359) (by decide +kernel) rfl, tb_mem (i := 1360) (by decide +kernel) rfl, tb_mem (i := 133) (by decide +kernel) rfl, tb_mem (i := 1361) (by decide +kernel) rfl⟩, ⟨by decide +kernel, by decide +kernel, by decide +kernel⟩, by decide, ⟨_, rfl, rfl⟩⟩
theorem lk_law_135 : LV "LetterHeapsLaw" 135 M_M_count 1 11 := ⟨⟨tb_mem (i := 1947) (by decide +kernel) rfl, tb_mem (i := 1948) (by decide +kernel) rfl, tb_mem (i := 1949) (by decide +kernel) rfl, tb_mem (i := 144) (by decide +kernel) rfl, tb_mem (i := 1950) (by decide +kernel) rfl⟩, ⟨by decide +kernel, by decide +kernel, by decide +kernel⟩, by decide, ⟨_, rfl, rfl⟩⟩
/-! the law's own loop: rows over its world -/
abbrev MLaw : Mi := (x, code, 4, ret)
def KLc (p : Program) (s : State) (m : MethodId) (args : Array Value) (meth : Method) (c : Code) (dC : Nat → ClassId) (dI : Nat → Nat → Nat) (cA : Nat → ClassId) (A : Nat → Prop) (b L : Nat) (xs : Nat → Int32) : Prop := KC p s m args meth c MLaw dC dI cA A ∧ va_X b L xs s s.heap ∧ b < s.heap.size ∧ ¬ A b ∧ SC A s
/-- the k-th int of the call that begins at i -/
def sArg (xs : Nat → Int32) (i : Int32) (k : Int) : Int := (xs (i + Int32.ofInt k).toNatClampNeg).toInt
section KLW
variable {p : Program} {l : Launch} {e : Env} {s : State} {m : MethodId} {args : Array Value} {below : List Frame} {meth : Method} {c : Code} {dC : Nat → ClassId} {dI : Nat → Nat → Nat} {cA : Nat → ClassId} {A : Nat → Prop} {Q : State → Prop} {cells slots pc : Nat} {ls : Array Slot} {st : List Value} {ws : va_W} {b L : Nat} {xs : Nat → Int32} {ad : Nat → Int → Nat} {h : AH} {i : Int32} {y1 y2 : Nat}
theorem kl_arg {k : Int} (K : KLc p s m args meth c dC dI cA A b L xs) (hl : lv_has ls 4 [(3, .int i), (2, .ref y2), (1, .ref y1), (0, .ref b)]) (hi : vp_in (i + Int32.ofInt k) L) (d0 : decode code pc = .ok (.aload_n 0, 1)) (d1 : decode code (pc + 1) = .ok (.iload_n 3, 1)) (d2 : decode code (pc + 2) = .ok (.iconst k, 1)) (d3 : decode code (pc + 3) = .ok (.iadd, 1)) (d4 : decode code (pc + 4) = .ok (.iaload, 1)) (kk : KJ p l e room_1 s m args below meth c dC dI A Q cells slots (pc + 5) ls (.int (Int32.ofInt (sArg xs i k)) :: st) ws) : KJ p l e room_1 s m args below meth c dC dI A Q cells slots pc ls st ws := by
  intro H locs hP hD hS
  obtain ⟨K1, hX, hbl, hbA, -⟩ := K
  refine lv_aload_n K1.1 K1.2.1 d0 rfl (lv_at hl 3 rfl) ?_
  refine lv_iload_n K1.1 K1.2.1 d1 rfl (lv_at hl 0 rfl) ?_
  refine lv_iconst (v := Int32.ofInt k) K1.1 K1.2.1 d2 rfl ?_
  refine lv_iadd K1.1 K1.2.1 d3 ?_
  refine va_sld K1.1 K1.2.1 hX hbl hbA hS hi d4 ?_
  have := kk H locs hP hD hS
  rw [show Int32.ofInt (sArg xs i k) = xs (i + Int32.ofInt k).toNatClampNeg from Int32.ofInt_toInt _] at this
  exact this
theorem kl_arg0 (K : KLc p s m args meth c dC dI cA A b L xs) (hl : lv_has ls 4 [(3, .int i), (2, .ref y2), (1, .ref y1), (0, .ref b)]) (hi : vp_in i L) (d0 : decode code pc = .ok (.aload_n 0, 1)) (d1 : decode code (pc + 1) = .ok (.iload_n 3, 1)) (d4 : decode code (pc + 2) = .ok (.iaload, 1)) (kk : KJ p l e room_1 s m args below meth c dC dI A Q cells slots (pc + 3) ls (.int (xs i.toNatClampNeg) :: st) ws) : KJ p l e room_1 s m args below meth c dC dI A Q cells slots pc ls st ws := by
  intro H locs hP hD hS
  obtain ⟨K1, hX, hbl, hbA, -⟩ := K
  refine lv_aload_n K1.1 K1.2.1 d0 rfl (lv_at hl 3 rfl) ?_
  refine lv_iload_n K1.1 K1.2.1 d1 rfl (lv_at hl 0 rfl) ?_
  exact va_sld K1.1 K1.2.1 hX hbl hbA hS hi d4 (kk H locs hP hD hS)
/-- an int that says whether one isn't 0 -/
theorem kl_bool {x : Int} (K : KLc p s m args meth c dC dI cA A b L xs) (hx : inI x) (d0 : decode code pc = .ok (.ifCond .eq 7, 3)) (d1 : decode code (pc + 3) = .ok (.iconst 1, 1)) (d2 : decode code (pc + 4) = .ok (.goto 4, 3)) (d3 : decode code (pc + 7) = .ok (.iconst 0, 1)) (kk : KJ p l e room_1 s m args below meth c dC dI A Q cells slots (pc + 8) ls (.int (Int32.ofInt (if x = 0 then 0 else 1)) :: st) ws) : KJ p l e room_1 s m args below meth c dC dI A Q cells slots pc ls (.int (Int32.ofInt x) :: st) ws := by
  intro H locs hP hD hS
  have K1 := K.1
  have z0 : Int32.ofInt x = 0 ↔ x = 0 := inI_eq (y := 0) hx ⟨by decide, by decide⟩
  have k2 := kk H locs hP hD hS
  refine lv_if_eq (tgt := pc + 7) K1.1 K1.2.1 d0 (by omega) (fun z => ?_) (fun z => ?_)
  · rw [if_pos (z0.mp z)] at k2
    exact lv_iconst K1.1 K1.2.1 d3 rfl k2
  · rw [if_neg (fun y => z (z0.mpr y))] at k2
    exact lv_iconst K1.1 K1.2.1 d1 rfl (lv_goto (tgt := pc + 8) K1.1 K1.2.1 d2 (by omega) k2)
theorem kl_recv {k : Fin 4} {j y : Nat} (K : KLc p s m args meth c dC dI cA A b L xs) (hd : decode code pc = .ok (.aload_n k, 1)) (hi : (k : Nat) = j) (hl : ls[j]? = some (.val (.ref y))) (kk : KJ p l e room_1 s m args below meth c dC dI A Q cells slots (pc + 1) ls (.ref y :: st) ws) : KJ p l e room_1 s m args below meth c dC dI A Q cells slots pc ls st ws := kj_aload K.1 hd hi hl kk
/-- a call of a method of either object -/
theorem kl_run {μ' : Mi} {idx ci o n : Nat} {l0 : List Nat} {as : List AV} {Kp : Int → AH → Prop} {H : Heap} {locs : List Loc} (K : KLc p s m args meth c dC dI cA A b L xs) (hP : va_P (dC, dI) vwCl (wsOf ad cA h) H) (hD : va_D A (wsOf ad cA h)) (hS : va_S A s.heap H locs) (hO : OkH h) (hls : ls.size = 4) (hc : cells ≤ 600000) (hsl : slots ≤ 7302250) (hd : decode code pc = .ok (.invokevirtual idx, 3)) (lk : LV "LetterHeapsLaw" idx μ' n ci) (sk : skl[o]? = some (5, ci, l0)) (hv : vid o (-1)) (hn : as.length = n) (hok : ∀ v ∈ as, Okv v) (hroom : (st.map fun v => v.category).sum ≤ 8) (k : Call 60 μ' (vR o (-1) :: as) h Kp) :
    va_Run p l e room_1 s m args below meth c H locs cells slots 0 0 (F0 m pc ls ((as.map (cv ad)).reverse ++ .ref (ad o (-1)) :: st)) st (QA ad dC dI cA (va_A (wsOf ad cA h) H.size) μ'.2.2.2 Kp (Value.ref (ad o (-1)) :: as.map (cv ad)).toArray) (va_A (wsOf ad cA h) H.size) := by
  obtain ⟨K1, hX, hbl, hbA, hSC⟩ := K
  obtain ⟨d', hdd, hB⟩ := k
  have hr0 : ∀ v ∈ (vR o (-1) :: as), Okv v := fun v hv' => by
    rcases List.mem_cons.mp hv' with rfl | hv'
    · exact hv
    · exact hok v hv'
  have hM := hB hr0 hO l ad dC dI cA H.size
  have lk2 := lk
  obtain ⟨-, ⟨hm1, hm2, hm3⟩, hmL, q, hq, hqc⟩ := lk2
  have he := ws_at (ad := ad) (cA := cA) (h := h) (o := o) (r := -1) hv
  rw [enc_at sk] at he
  have hrecv := va_recv K1.2.2.2.2.2.2.1 hP hq he
  rw [hqc] at hrecv
  have hR : (rmA d').frames + 1 ≤ room_1.frames ∧ 8 + (μ'.2.2.1 + 11) + (rmA d').locals ≤ room_1.locals := by
    show d' + 1 ≤ 2048 ∧ 8 + (μ'.2.2.1 + 11) + 60 * d' ≤ 84000
    omega
  have hw : s.vm.findClass "LetterHeapsLaw" = some m.cls := K1.2.2.2.2.1
  exact va_runV (p := p) (e := e) (below := below) (meth := meth) (locs := locs) (cells := cells) (slots := slots) (g := F0 m pc ls ((as.map (cv ad)).reverse ++ .ref (ad o (-1)) :: st)) (R := room_1) (As := as.map (cv ad)) (rest := st) (b := ad o (-1)) (C := μ'.1.cls) (n := n) ⟨K1.1, K1.2.1, K1.2.2.1, hw, K1.2.2.2.2.2.1⟩ hM (cwV n K1.2.2.2.2.2.1 (lv_good lk) rfl rfl rfl ⟨rfl, hm1, hm2, hm3⟩ hR)
    ⟨FB_Pc, hrecv, fun U hU hW => ⟨rfl, by rw [hU], by rw [hU]; exact hP, va_K.moved hW.alike K1.2.2.2.2.2.2.1, hD.weaken (fun _ _ _ _ => trivial), hSC.to hS (cells_pd hD hS K1.2.2.2.2.2.2.2.1) hU hW⟩⟩ rfl (by rw [List.length_map]; exact hn) hls rfl (lv_room hroom) hd ⟨hc, hsl⟩
theorem kl_calli {μ' : Mi} {idx ci o n : Nat} {l0 : List Nat} {as : List AV} {Kp : Int → AH → Prop} {stk : List Value} (K : KLc p s m args meth c dC dI cA A b L xs) (hO : OkH h) (hls : ls.size = 4) (hc : cells ≤ 600000) (hsl : slots ≤ 7302250) (hd : decode code pc = .ok (.invokevirtual idx, 3)) (lk : LV "LetterHeapsLaw" idx μ' n ci) (sk : skl[o]? = some (5, ci, l0)) (hv : vid o (-1)) (hn : as.length = n) (hok : ∀ v ∈ as, Okv v) (hroom : (st.map fun v => v.category).sum ≤ 8) (hret : μ'.2.2.2 = some .int ∨ μ'.2.2.2 = some .boolean) (k : Call 60 μ' (vR o (-1) :: as) h Kp) (hstk : stk = (as.map (cv ad)).reverse ++ .ref (ad o (-1)) :: st)
    (kk : ∀ (r : Int) (h' : AH), inI r → OkH h' → Kp r h' → KJ p l e room_1 s m args below meth c dC dI A Q cells slots (pc + 3) ls (.int (Int32.ofInt r) :: st) (wsOf ad cA h')) : KJ p l e room_1 s m args below meth c dC dI A Q cells slots pc ls stk (wsOf ad cA h) := by
  subst hstk
  intro H locs hP hD hS
  have hrun := kl_run (l := l) (e := e) (below := below) (pc := pc) (ls := ls) (cells := cells) (slots := slots) (st := st) K hP hD hS hO hls hc hsl hd lk sk hv hn hok hroom k
  have hF := cells_pd hD hS K.1.2.2.2.2.2.2.2.1
  have hrun2 : va_Run p l e room_1 s m args below meth c H locs cells slots 0 0 (F0 m pc ls ((as.map (cv ad)).reverse ++ .ref (ad o (-1)) :: st)) st (va_Qi (S := AH) (fun r h => Kp r.toInt h) (BP ad dC dI cA (va_A (wsOf ad cA h) H.size)) (va_A (wsOf ad cA h) H.size) (Value.ref (ad o (-1)) :: as.map (cv ad)).toArray) (va_A (wsOf ad cA h) H.size) := by
    rcases hret with z | z <;> rw [z] at hrun <;> exact hrun
  refine va_calli (S := AH) hrun2 hS (fun q _ z => hF q z) hF (fun r h' t H1 locs1 ht hvm hw hb hz1 hk1 hS1 => ?_)
  have := kk r.toInt h' (inI_32 _) hb.2.2.2 hw H1 locs1 (by rw [← ht]; exact hb.1) (hb.2.2.1.weaken (fun _ _ _ z => hF _ z)) hS1
  rw [Int32.ofInt_toInt] at this
  exact this
theorem kl_calll {μ' : Mi} {idx ci o n : Nat} {l0 : List Nat} {as : List AV} {Kp : Int → AH → Prop} {stk : List Value} (K : KLc p s m args meth c dC dI cA A b L xs) (hO : OkH h) (hls : ls.size = 4) (hc : cells ≤ 600000) (hsl : slots ≤ 7302250) (hd : decode code pc = .ok (.invokevirtual idx, 3)) (lk : LV "LetterHeapsLaw" idx μ' n ci) (sk : skl[o]? = some (5, ci, l0)) (hv : vid o (-1)) (hn : as.length = n) (hok : ∀ v ∈ as, Okv v) (hroom : (st.map fun v => v.category).sum ≤ 8) (hret : μ'.2.2.2 = some .long) (k : Call 60 μ' (vR o (-1) :: as) h Kp) (hstk : stk = (as.map (cv ad)).reverse ++ .ref (ad o (-1)) :: st)
    (kk : ∀ (r : Int) (h' : AH), inL r → OkH h' → Kp r h' → KJ p l e room_1 s m args below meth c dC dI A Q cells slots (pc + 3) ls (.long (Int64.ofInt r) :: st) (wsOf ad cA h')) : KJ p l e room_1 s m args below meth c dC dI A Q cells slots pc ls stk (wsOf ad cA h) := by
  subst hstk
  intro H locs hP hD hS
  have hrun := kl_run (l := l) (e := e) (below := below) (pc := pc) (ls := ls) (cells := cells) (slots := slots) (st := st) K hP hD hS hO hls hc hsl hd lk sk hv hn hok hroom k
  have hF := cells_pd hD hS K.1.2.2.2.2.2.2.2.1
  have hrun2 : va_Run p l e room_1 s m args below meth c H locs cells slots 0 0 (F0 m pc ls ((as.map (cv ad)).reverse ++ .ref (ad o (-1)) :: st)) st (va_Ql (S := AH) (fun r h => Kp r.toInt h) (BP ad dC dI cA (va_A (wsOf ad cA h) H.size)) (va_A (wsOf ad cA h) H.size) (Value.ref (ad o (-1)) :: as.map (cv ad)).toArray) (va_A (wsOf ad cA h) H.size) := by
    rw [hret] at hrun; exact hrun
  refine va_calll (S := AH) hrun2 hS (fun q _ z => hF q z) hF (fun r h' t H1 locs1 ht hvm hw hb hz1 hk1 hS1 => ?_)
  have := kk r.toInt h' (inL_64 _) hb.2.2.2 hw H1 locs1 (by rw [← ht]; exact hb.1) (hb.2.2.1.weaken (fun _ _ _ z => hF _ z)) hS1
  rw [Int64.ofInt_toInt] at this
  exact this
theorem kl_cmp {x y : Int} {off : Int} (K : KLc p s m args meth c dC dI cA A b L xs) (hd : decode code pc = .ok (.if_icmp .eq off, 3)) (ht : (pc : Int) + off = ((1064 : Nat) : Int)) (he : x = y) (kk : KJ p l e room_1 s m args below meth c dC dI A Q cells slots 1064 ls st ws) : KJ p l e room_1 s m args below meth c dC dI A Q cells slots pc ls (.int (Int32.ofInt y) :: .int (Int32.ofInt x) :: st) ws := by
  intro H locs hP hD hS
  exact lv_icmp_eq (tgt := 1064) K.1.1 K.1.2.1 hd ht (fun _ => kk H locs hP hD hS) (fun z => absurd (by rw [he]) z)
theorem kl_cmpl {x y : Int} {off : Int} (K : KLc p s m args meth c dC dI cA A b L xs) (h0 : decode code pc = .ok (.lcmp, 1)) (hd : decode code (pc + 1) = .ok (.ifCond .eq off, 3)) (ht : ((pc + 1 : Nat) : Int) + off = ((1064 : Nat) : Int)) (he : x = y) (kk : KJ p l e room_1 s m args below meth c dC dI A Q cells slots 1064 ls st ws) : KJ p l e room_1 s m args below meth c dC dI A Q cells slots pc ls (.long (Int64.ofInt y) :: .long (Int64.ofInt x) :: st) ws := by
  intro H locs hP hD hS
  subst he
  have z : lg_cmp (Int64.ofInt x) (Int64.ofInt x) = 0 := by
    have h1 := (lg_cmp_ge (Int64.ofInt x) (Int64.ofInt x)).mpr (Int64.le_refl _)
    have h2 := (lg_cmp_le (Int64.ofInt x) (Int64.ofInt x)).mpr (Int64.le_refl _)
    exact Int32.le_antisymm h2 h1
  refine W.lcmp K.1.1 K.1.2.1 h0 ?_
  rw [z]
  exact lv_if_eq (tgt := 1064) K.1.1 K.1.2.1 hd ht (fun _ => kk H locs hP hD hS) (fun z => absurd rfl z)
end KLW
theorem vid_0 : vid 0 (-1) := by unfold vid; decide +kernel
theorem vid_12 : vid 12 (-1) := by unfold vid; decide +kernel
section KCASES
variable {p : Program} {l : Launch} {e : Env} {s : State} {m : MethodId} {args : Array Value} {below : List Frame} {meth : Method} {c : Code} {dC : Nat → ClassId} {dI : Nat → Nat → Nat} {cA : Nat → ClassId} {A : Nat → Prop} {Q : State → Prop} {cells slots : Nat} {ls : Array Slot} {b L : Nat} {xs : Nat → Int32} {ad : Nat → Int → Nat} {h : AH} {i : Int32} {t : Int}
theorem law_0 (K : KLc p s m args meth c dC dI cA A b L xs) (hl : lv_has ls 4 [(3, .int i), (2, .ref (ad 12 (-1))), (1, .ref (ad 0 (-1))), (0, .ref b)]) (hi : ∀ k : Int, 1 ≤ k → k ≤ 5 → vp_in (i + Int32.ofInt k) L) (hc : cells ≤ 600000) (hsl : slots ≤ 7302250) (hO : OkH h) (I : Inv t h) (ht : t ≤ 600) (next : ∀ h', OkH h' → Inv (t + 1) h' → KJ p l e room_1 s m args below meth c dC dI A Q cells slots 1064 ls [] (wsOf ad cA h')) : KJ p l e room_1 s m args below meth c dC dI A Q cells slots 160 ls [] (wsOf ad cA h) := by
  refine kl_recv (y := ad 0 (-1)) K d_law_160 rfl (lv_at hl 2 rfl) ?_
  refine kl_arg (k := 1) K hl (hi 1 (by decide) (by decide)) d_law_161 d_law_162 d_law_163 d_law_164 d_law_165 ?_
  refine kl_arg (k := 2) K hl (hi 2 (by decide) (by decide)) d_law_166 d_law_167 d_law_168 d_law_169 d_law_170 ?_
  refine kl_arg (k := 3) K hl (hi 3 (by decide) (by decide)) d_law_171 d_law_172 d_law_173 d_law_174 d_law_175 ?_
  refine kl_arg (k := 4) K hl (hi 4 (by decide) (by decide)) d_law_176 d_law_177 d_law_178 d_law_179 d_law_180 ?_
  refine kl_arg (k := 5) K hl (hi 5 (by decide) (by decide)) d_law_181 d_law_182 d_law_183 d_law_184 d_law_185 ?_
  refine kl_calli (ad := ad) (as := [vI (sArg xs i 1), vI (sArg xs i 2), vI (sArg xs i 3), vI (sArg xs i 4), vI (sArg xs i 5)]) (st := []) K hO hl.1 hc hsl d_law_186 lk_law_13 sk_0 vid_0 rfl (okS_cons (v := vI (sArg xs i 1)) (inI_32 _) (okS_cons (v := vI (sArg xs i 2)) (inI_32 _) (okS_cons (v := vI (sArg xs i 3)) (inI_32 _) (okS_cons (v := vI (sArg xs i 4)) (inI_32 _) (okS_cons (v := vI (sArg xs i 5)) (inI_32 _) (fun _ hv => by cases hv)))))) (Nat.le_of_ble_eq_true rfl) (Or.inl rfl) (op_feed I ht (inI_32 _) (inI_32 _) (inI_32 _) (inI_32 _) (inI_32 _)) rfl (fun r h1 _ hO1 k1 => ?_)
  refine kl_recv (y := ad 12 (-1)) K d_law_189 rfl (lv_at hl 1 rfl) ?_
  refine kl_arg (k := 1) K hl (hi 1 (by decide) (by decide)) d_law_190 d_law_191 d_law_192 d_law_193 d_law_194 ?_
  refine kl_arg (k := 2) K hl (hi 2 (by decide) (by decide)) d_law_195 d_law_196 d_law_197 d_law_198 d_law_199 ?_
  refine kl_arg (k := 3) K hl (hi 3 (by decide) (by decide)) d_law_200 d_law_201 d_law_202 d_law_203 d_law_204 ?_
  refine kl_arg (k := 4) K hl (hi 4 (by decide) (by decide)) d_law_205 d_law_206 d_law_207 d_law_208 d_law_209 ?_
  refine kl_arg (k := 5) K hl (hi 5 (by decide) (by decide)) d_law_210 d_law_211 d_law_212 d_law_213 d_law_214 ?_
  refine kl_calli (ad := ad) (as := [vI (sArg xs i 1), vI (sArg xs i 2), vI (sArg xs i 3), vI (sArg xs i 4), vI (sArg xs i 5)]) (st := [.int (Int32.ofInt r)]) K hO1 hl.1 hc hsl d_law_215 lk_law_17 sk_12 vid_12 rfl (okS_cons (v := vI (sArg xs i 1)) (inI_32 _) (okS_cons (v := vI (sArg xs i 2)) (inI_32 _) (okS_cons (v := vI (sArg xs i 3)) (inI_32 _) (okS_cons (v := vI (sArg xs i 4)) (inI_32 _) (okS_cons (v := vI (sArg xs i 5)) (inI_32 _) (fun _ hv => by cases hv)))))) (Nat.le_of_ble_eq_true rfl) (Or.inl rfl) k1 rfl (fun r2 h2 _ hO2 k2 => ?_)
  exact kl_cmp K d_law_218 (by decide) k2.1 (next h2 hO2 k2.2)
theorem law_1 (K : KLc p s m args meth c dC dI cA A b L xs) (hl : lv_has ls 4 [(3, .int i), (2, .ref (ad 12 (-1))), (1, .ref (ad 0 (-1))), (0, .ref b)]) (hi : ∀ k : Int, 1 ≤ k → k ≤ 5 → vp_in (i + Int32.ofInt k) L) (hc : cells ≤ 600000) (hsl : slots ≤ 7302250) (hO : OkH h) (I : Inv t h) (ht : t ≤ 600) (next : ∀ h', OkH h' → Inv (t + 1) h' → KJ p l e room_1 s m args below meth c dC dI A Q cells slots 1064 ls [] (wsOf ad cA h')) : KJ p l e room_1 s m args below meth c dC dI A Q cells slots 223 ls [] (wsOf ad cA h) := by
  refine kl_recv (y := ad 0 (-1)) K d_law_223 rfl (lv_at hl 2 rfl) ?_
  refine kl_arg (k := 1) K hl (hi 1 (by decide) (by decide)) d_law_224 d_law_225 d_law_226 d_law_227 d_law_228 ?_
  refine kl_arg (k := 2) K hl (hi 2 (by decide) (by decide)) d_law_229 d_law_230 d_law_231 d_law_232 d_law_233 ?_
  refine kl_arg (k := 3) K hl (hi 3 (by decide) (by decide)) d_law_234 d_law_235 d_law_236 d_law_237 d_law_238 ?_
  refine kl_calli (ad := ad) (as := [vI (sArg xs i 1), vI (sArg xs i 2), vI (sArg xs i 3)]) (st := []) K hO hl.1 hc hsl d_law_239 lk_law_18 sk_0 vid_0 rfl (okS_cons (v := vI (sArg xs i 1)) (inI_32 _) (okS_cons (v := vI (sArg xs i 2)) (inI_32 _) (okS_cons (v := vI (sArg xs i 3)) (inI_32 _) (fun _ hv => by cases hv)))) (Nat.le_of_ble_eq_true rfl) (Or.inl rfl) (op_word I ht) rfl (fun r h1 _ hO1 k1 => ?_)
  refine kl_recv (y := ad 12 (-1)) K d_law_242 rfl (lv_at hl 1 rfl) ?_
  refine kl_arg (k := 1) K hl (hi 1 (by decide) (by decide)) d_law_243 d_law_244 d_law_245 d_law_246 d_law_247 ?_
  refine kl_arg (k := 2) K hl (hi 2 (by decide) (by decide)) d_law_248 d_law_249 d_law_250 d_law_251 d_law_252 ?_
  refine kl_arg (k := 3) K hl (hi 3 (by decide) (by decide)) d_law_253 d_law_254 d_law_255 d_law_256 d_law_257 ?_
  refine kl_calli (ad := ad) (as := [vI (sArg xs i 1), vI (sArg xs i 2), vI (sArg xs i 3)]) (st := [.int (Int32.ofInt r)]) K hO1 hl.1 hc hsl d_law_258 lk_law_22 sk_12 vid_12 rfl (okS_cons (v := vI (sArg xs i 1)) (inI_32 _) (okS_cons (v := vI (sArg xs i 2)) (inI_32 _) (okS_cons (v := vI (sArg xs i 3)) (inI_32 _) (fun _ hv => by cases hv)))) (Nat.le_of_ble_eq_true rfl) (Or.inl rfl) k1 rfl (fun r2 h2 _ hO2 k2 => ?_)
  exact kl_cmp K d_law_261 (by decide) k2.1 (next h2 hO2 k2.2)
theorem law_2 (K : KLc p s m args meth c dC dI cA A b L xs) (hl : lv_has ls 4 [(3, .int i), (2, .ref (ad 12 (-1))), (1, .ref (ad 0 (-1))), (0, .ref b)]) (hi : ∀ k : Int, 1 ≤ k → k ≤ 5 → vp_in (i + Int32.ofInt k) L) (hc : cells ≤ 600000) (hsl : slots ≤ 7302250) (hO : OkH h) (I : Inv t h) (ht : t ≤ 600) (next : ∀ h', OkH h' → Inv (t + 1) h' → KJ p l e room_1 s m args below meth c dC dI A Q cells slots 1064 ls [] (wsOf ad cA h')) : KJ p l e room_1 s m args below meth c dC dI A Q cells slots 266 ls [] (wsOf ad cA h) := by
  refine kl_recv (y := ad 0 (-1)) K d_law_266 rfl (lv_at hl 2 rfl) ?_
  refine kl_arg (k := 1) K hl (hi 1 (by decide) (by decide)) d_law_267 d_law_268 d_law_269 d_law_270 d_law_271 ?_
  refine kl_arg (k := 2) K hl (hi 2 (by decide) (by decide)) d_law_272 d_law_273 d_law_274 d_law_275 d_law_276 ?_
  refine kl_bool K (inI_32 _) d_law_277 d_law_280 d_law_281 d_law_284 ?_
  refine kl_calli (ad := ad) (as := [vI (sArg xs i 1), vI (if sArg xs i 2 = 0 then 0 else 1)]) (st := []) K hO hl.1 hc hsl d_law_285 lk_law_23 sk_0 vid_0 rfl (okS_cons (v := vI (sArg xs i 1)) (inI_32 _) (okS_cons (v := vI (if sArg xs i 2 = 0 then 0 else 1)) (by split <;> exact ⟨by decide, by decide⟩) (fun _ hv => by cases hv))) (Nat.le_of_ble_eq_true rfl) (Or.inr rfl) (op_bar I ht (by split <;> simp)) rfl (fun r h1 _ hO1 k1 => ?_)
  refine kl_recv (y := ad 12 (-1)) K d_law_288 rfl (lv_at hl 1 rfl) ?_
  refine kl_arg (k := 1) K hl (hi 1 (by decide) (by decide)) d_law_289 d_law_290 d_law_291 d_law_292 d_law_293 ?_
  refine kl_arg (k := 2) K hl (hi 2 (by decide) (by decide)) d_law_294 d_law_295 d_law_296 d_law_297 d_law_298 ?_
  refine kl_bool K (inI_32 _) d_law_299 d_law_302 d_law_303 d_law_306 ?_
  refine kl_calli (ad := ad) (as := [vI (sArg xs i 1), vI (if sArg xs i 2 = 0 then 0 else 1)]) (st := [.int (Int32.ofInt r)]) K hO1 hl.1 hc hsl d_law_307 lk_law_27 sk_12 vid_12 rfl (okS_cons (v := vI (sArg xs i 1)) (inI_32 _) (okS_cons (v := vI (if sArg xs i 2 = 0 then 0 else 1)) (by split <;> exact ⟨by decide, by decide⟩) (fun _ hv => by cases hv))) (Nat.le_of_ble_eq_true rfl) (Or.inr rfl) k1 rfl (fun r2 h2 _ hO2 k2 => ?_)
  exact kl_cmp K d_law_310 (by decide) k2.1 (next h2 hO2 k2.2)
theorem law_3 (K : KLc p s m args meth c dC dI cA A b L xs) (hl : lv_has ls 4 [(3, .int i), (2, .ref (ad 12 (-1))), (1, .ref (ad 0 (-1))), (0, .ref b)]) (hi : ∀ k : Int, 1 ≤ k → k ≤ 5 → vp_in (i + Int32.ofInt k) L) (hc : cells ≤ 600000) (hsl : slots ≤ 7302250) (hO : OkH h) (I : Inv t h) (ht : t ≤ 600) (next : ∀ h', OkH h' → Inv (t + 1) h' → KJ p l e room_1 s m args below meth c dC dI A Q cells slots 1064 ls [] (wsOf ad cA h')) : KJ p l e room_1 s m args below meth c dC dI A Q cells slots 315 ls [] (wsOf ad cA h) := by
  refine kl_recv (y := ad 0 (-1)) K d_law_315 rfl (lv_at hl 2 rfl) ?_
  refine kl_arg (k := 1) K hl (hi 1 (by decide) (by decide)) d_law_316 d_law_317 d_law_318 d_law_319 d_law_320 ?_
  refine kl_arg (k := 2) K hl (hi 2 (by decide) (by decide)) d_law_321 d_law_322 d_law_323 d_law_324 d_law_325 ?_
  refine kl_calli (ad := ad) (as := [vI (sArg xs i 1), vI (sArg xs i 2)]) (st := []) K hO hl.1 hc hsl d_law_326 lk_law_28 sk_0 vid_0 rfl (okS_cons (v := vI (sArg xs i 1)) (inI_32 _) (okS_cons (v := vI (sArg xs i 2)) (inI_32 _) (fun _ hv => by cases hv))) (Nat.le_of_ble_eq_true rfl) (Or.inr rfl) (op_know I ht) rfl (fun r h1 _ hO1 k1 => ?_)
  refine kl_recv (y := ad 12 (-1)) K d_law_329 rfl (lv_at hl 1 rfl) ?_
  refine kl_arg (k := 1) K hl (hi 1 (by decide) (by decide)) d_law_330 d_law_331 d_law_332 d_law_333 d_law_334 ?_
  refine kl_arg (k := 2) K hl (hi 2 (by decide) (by decide)) d_law_335 d_law_336 d_law_337 d_law_338 d_law_339 ?_
  refine kl_calli (ad := ad) (as := [vI (sArg xs i 1), vI (sArg xs i 2)]) (st := [.int (Int32.ofInt r)]) K hO1 hl.1 hc hsl d_law_340 lk_law_32 sk_12 vid_12 rfl (okS_cons (v := vI (sArg xs i 1)) (inI_32 _) (okS_cons (v := vI (sArg xs i 2)) (inI_32 _) (fun _ hv => by cases hv))) (Nat.le_of_ble_eq_true rfl) (Or.inr rfl) k1 rfl (fun r2 h2 _ hO2 k2 => ?_)
  exact kl_cmp K d_law_343 (by decide) k2.1 (next h2 hO2 k2.2)
theorem law_4 (K : KLc p s m args meth c dC dI cA A b L xs) (hl : lv_has ls 4 [(3, .int i), (2, .ref (ad 12 (-1))), (1, .ref (ad 0 (-1))), (0, .ref b)]) (hi : ∀ k : Int, 1 ≤ k → k ≤ 5 → vp_in (i + Int32.ofInt k) L) (hc : cells ≤ 600000) (hsl : slots ≤ 7302250) (hO : OkH h) (I : Inv t h) (ht : t ≤ 600) (next : ∀ h', OkH h' → Inv (t + 1) h' → KJ p l e room_1 s m args below meth c dC dI A Q cells slots 1064 ls [] (wsOf ad cA h')) : KJ p l e room_1 s m args below meth c dC dI A Q cells slots 348 ls [] (wsOf ad cA h) := by
  refine kl_recv (y := ad 0 (-1)) K d_law_348 rfl (lv_at hl 2 rfl) ?_
  refine kl_arg (k := 1) K hl (hi 1 (by decide) (by decide)) d_law_349 d_law_350 d_law_351 d_law_352 d_law_353 ?_
  refine kl_calli (ad := ad) (as := [vI (sArg xs i 1)]) (st := []) K hO hl.1 hc hsl d_law_354 lk_law_33 sk_0 vid_0 rfl (okS_cons (v := vI (sArg xs i 1)) (inI_32 _) (fun _ hv => by cases hv)) (Nat.le_of_ble_eq_true rfl) (Or.inr rfl) (op_speak I ht) rfl (fun r h1 _ hO1 k1 => ?_)
  refine kl_recv (y := ad 12 (-1)) K d_law_357 rfl (lv_at hl 1 rfl) ?_
  refine kl_arg (k := 1) K hl (hi 1 (by decide) (by decide)) d_law_358 d_law_359 d_law_360 d_law_361 d_law_362 ?_
  refine kl_calli (ad := ad) (as := [vI (sArg xs i 1)]) (st := [.int (Int32.ofInt r)]) K hO1 hl.1 hc hsl d_law_363 lk_law_37 sk_12 vid_12 rfl (okS_cons (v := vI (sArg xs i 1)) (inI_32 _) (fun _ hv => by cases hv)) (Nat.le_of_ble_eq_true rfl) (Or.inr rfl) k1 rfl (fun r2 h2 _ hO2 k2 => ?_)
  exact kl_cmp K d_law_366 (by decide) k2.1 (next h2 hO2 k2.2)
theorem law_5 (K : KLc p s m args meth c dC dI cA A b L xs) (hl : lv_has ls 4 [(3, .int i), (2, .ref (ad 12 (-1))), (1, .ref (ad 0 (-1))), (0, .ref b)]) (hi : ∀ k : Int, 1 ≤ k → k ≤ 5 → vp_in (i + Int32.ofInt k) L) (hc : cells ≤ 600000) (hsl : slots ≤ 7302250) (hO : OkH h) (I : Inv t h) (ht : t ≤ 600) (next : ∀ h', OkH h' → Inv (t + 1) h' → KJ p l e room_1 s m args below meth c dC dI A Q cells slots 1064 ls [] (wsOf ad cA h')) : KJ p l e room_1 s m args below meth c dC dI A Q cells slots 371 ls [] (wsOf ad cA h) := by
  refine kl_recv (y := ad 0 (-1)) K d_law_371 rfl (lv_at hl 2 rfl) ?_
  refine kl_arg (k := 1) K hl (hi 1 (by decide) (by decide)) d_law_372 d_law_373 d_law_374 d_law_375 d_law_376 ?_
  refine kl_calli (ad := ad) (as := [vI (sArg xs i 1)]) (st := []) K hO hl.1 hc hsl d_law_377 lk_law_38 sk_0 vid_0 rfl (okS_cons (v := vI (sArg xs i 1)) (inI_32 _) (fun _ hv => by cases hv)) (Nat.le_of_ble_eq_true rfl) (Or.inl rfl) (op_law I ht) rfl (fun r h1 _ hO1 k1 => ?_)
  refine kl_recv (y := ad 12 (-1)) K d_law_380 rfl (lv_at hl 1 rfl) ?_
  refine kl_arg (k := 1) K hl (hi 1 (by decide) (by decide)) d_law_381 d_law_382 d_law_383 d_law_384 d_law_385 ?_
  refine kl_calli (ad := ad) (as := [vI (sArg xs i 1)]) (st := [.int (Int32.ofInt r)]) K hO1 hl.1 hc hsl d_law_386 lk_law_42 sk_12 vid_12 rfl (okS_cons (v := vI (sArg xs i 1)) (inI_32 _) (fun _ hv => by cases hv)) (Nat.le_of_ble_eq_true rfl) (Or.inl rfl) k1 rfl (fun r2 h2 _ hO2 k2 => ?_)
  exact kl_cmp K d_law_389 (by decide) k2.1 (next h2 hO2 k2.2)
theorem law_6 (K : KLc p s m args meth c dC dI cA A b L xs) (hl : lv_has ls 4 [(3, .int i), (2, .ref (ad 12 (-1))), (1, .ref (ad 0 (-1))), (0, .ref b)]) (hi : ∀ k : Int, 1 ≤ k → k ≤ 5 → vp_in (i + Int32.ofInt k) L) (hc : cells ≤ 600000) (hsl : slots ≤ 7302250) (hO : OkH h) (I : Inv t h) (ht : t ≤ 600) (next : ∀ h', OkH h' → Inv (t + 1) h' → KJ p l e room_1 s m args below meth c dC dI A Q cells slots 1064 ls [] (wsOf ad cA h')) : KJ p l e room_1 s m args below meth c dC dI A Q cells slots 394 ls [] (wsOf ad cA h) := by
  refine kl_recv (y := ad 0 (-1)) K d_law_394 rfl (lv_at hl 2 rfl) ?_
  refine kl_arg (k := 1) K hl (hi 1 (by decide) (by decide)) d_law_395 d_law_396 d_law_397 d_law_398 d_law_399 ?_
  refine kl_arg (k := 2) K hl (hi 2 (by decide) (by decide)) d_law_400 d_law_401 d_law_402 d_law_403 d_law_404 ?_
  refine kl_arg (k := 3) K hl (hi 3 (by decide) (by decide)) d_law_405 d_law_406 d_law_407 d_law_408 d_law_409 ?_
  refine kl_calli (ad := ad) (as := [vI (sArg xs i 1), vI (sArg xs i 2), vI (sArg xs i 3)]) (st := []) K hO hl.1 hc hsl d_law_410 lk_law_43 sk_0 vid_0 rfl (okS_cons (v := vI (sArg xs i 1)) (inI_32 _) (okS_cons (v := vI (sArg xs i 2)) (inI_32 _) (okS_cons (v := vI (sArg xs i 3)) (inI_32 _) (fun _ hv => by cases hv)))) (Nat.le_of_ble_eq_true rfl) (Or.inl rfl) (op_step I ht) rfl (fun r h1 _ hO1 k1 => ?_)
  refine kl_recv (y := ad 12 (-1)) K d_law_413 rfl (lv_at hl 1 rfl) ?_
  refine kl_arg (k := 1) K hl (hi 1 (by decide) (by decide)) d_law_414 d_law_415 d_law_416 d_law_417 d_law_418 ?_
  refine kl_arg (k := 2) K hl (hi 2 (by decide) (by decide)) d_law_419 d_law_420 d_law_421 d_law_422 d_law_423 ?_
  refine kl_arg (k := 3) K hl (hi 3 (by decide) (by decide)) d_law_424 d_law_425 d_law_426 d_law_427 d_law_428 ?_
  refine kl_calli (ad := ad) (as := [vI (sArg xs i 1), vI (sArg xs i 2), vI (sArg xs i 3)]) (st := [.int (Int32.ofInt r)]) K hO1 hl.1 hc hsl d_law_429 lk_law_46 sk_12 vid_12 rfl (okS_cons (v := vI (sArg xs i 1)) (inI_32 _) (okS_cons (v := vI (sArg xs i 2)) (inI_32 _) (okS_cons (v := vI (sArg xs i 3)) (inI_32 _) (fun _ hv => by cases hv)))) (Nat.le_of_ble_eq_true rfl) (Or.inl rfl) k1 rfl (fun r2 h2 _ hO2 k2 => ?_)
  exact kl_cmp K d_law_432 (by decide) k2.1 (next h2 hO2 k2.2)
theorem law_7 (K : KLc p s m args meth c dC dI cA A b L xs) (hl : lv_has ls 4 [(3, .int i), (2, .ref (ad 12 (-1))), (1, .ref (ad 0 (-1))), (0, .ref b)]) (hi : ∀ k : Int, 1 ≤ k → k ≤ 5 → vp_in (i + Int32.ofInt k) L) (hc : cells ≤ 600000) (hsl : slots ≤ 7302250) (hO : OkH h) (I : Inv t h) (ht : t ≤ 600) (next : ∀ h', OkH h' → Inv (t + 1) h' → KJ p l e room_1 s m args below meth c dC dI A Q cells slots 1064 ls [] (wsOf ad cA h')) : KJ p l e room_1 s m args below meth c dC dI A Q cells slots 437 ls [] (wsOf ad cA h) := by
  refine kl_recv (y := ad 0 (-1)) K d_law_437 rfl (lv_at hl 2 rfl) ?_
  refine kl_arg (k := 1) K hl (hi 1 (by decide) (by decide)) d_law_438 d_law_439 d_law_440 d_law_441 d_law_442 ?_
  refine kl_arg (k := 2) K hl (hi 2 (by decide) (by decide)) d_law_443 d_law_444 d_law_445 d_law_446 d_law_447 ?_
  refine kl_arg (k := 3) K hl (hi 3 (by decide) (by decide)) d_law_448 d_law_449 d_law_450 d_law_451 d_law_452 ?_
  refine kl_calli (ad := ad) (as := [vI (sArg xs i 1), vI (sArg xs i 2), vI (sArg xs i 3)]) (st := []) K hO hl.1 hc hsl d_law_453 lk_law_47 sk_0 vid_0 rfl (okS_cons (v := vI (sArg xs i 1)) (inI_32 _) (okS_cons (v := vI (sArg xs i 2)) (inI_32 _) (okS_cons (v := vI (sArg xs i 3)) (inI_32 _) (fun _ hv => by cases hv)))) (Nat.le_of_ble_eq_true rfl) (Or.inl rfl) (op_least I ht) rfl (fun r h1 _ hO1 k1 => ?_)
  refine kl_recv (y := ad 12 (-1)) K d_law_456 rfl (lv_at hl 1 rfl) ?_
  refine kl_arg (k := 1) K hl (hi 1 (by decide) (by decide)) d_law_457 d_law_458 d_law_459 d_law_460 d_law_461 ?_
  refine kl_arg (k := 2) K hl (hi 2 (by decide) (by decide)) d_law_462 d_law_463 d_law_464 d_law_465 d_law_466 ?_
  refine kl_arg (k := 3) K hl (hi 3 (by decide) (by decide)) d_law_467 d_law_468 d_law_469 d_law_470 d_law_471 ?_
  refine kl_calli (ad := ad) (as := [vI (sArg xs i 1), vI (sArg xs i 2), vI (sArg xs i 3)]) (st := [.int (Int32.ofInt r)]) K hO1 hl.1 hc hsl d_law_472 lk_law_50 sk_12 vid_12 rfl (okS_cons (v := vI (sArg xs i 1)) (inI_32 _) (okS_cons (v := vI (sArg xs i 2)) (inI_32 _) (okS_cons (v := vI (sArg xs i 3)) (inI_32 _) (fun _ hv => by cases hv)))) (Nat.le_of_ble_eq_true rfl) (Or.inl rfl) k1 rfl (fun r2 h2 _ hO2 k2 => ?_)
  exact kl_cmp K d_law_475 (by decide) k2.1 (next h2 hO2 k2.2)
theorem law_8 (K : KLc p s m args meth c dC dI cA A b L xs) (hl : lv_has ls 4 [(3, .int i), (2, .ref (ad 12 (-1))), (1, .ref (ad 0 (-1))), (0, .ref b)]) (hi : ∀ k : Int, 1 ≤ k → k ≤ 5 → vp_in (i + Int32.ofInt k) L) (hc : cells ≤ 600000) (hsl : slots ≤ 7302250) (hO : OkH h) (I : Inv t h) (ht : t ≤ 600) (next : ∀ h', OkH h' → Inv (t + 1) h' → KJ p l e room_1 s m args below meth c dC dI A Q cells slots 1064 ls [] (wsOf ad cA h')) : KJ p l e room_1 s m args below meth c dC dI A Q cells slots 480 ls [] (wsOf ad cA h) := by
  refine kl_recv (y := ad 0 (-1)) K d_law_480 rfl (lv_at hl 2 rfl) ?_
  refine kl_arg (k := 1) K hl (hi 1 (by decide) (by decide)) d_law_481 d_law_482 d_law_483 d_law_484 d_law_485 ?_
  refine kl_arg (k := 2) K hl (hi 2 (by decide) (by decide)) d_law_486 d_law_487 d_law_488 d_law_489 d_law_490 ?_
  refine kl_calll (ad := ad) (as := [vI (sArg xs i 1), vI (sArg xs i 2)]) (st := []) K hO hl.1 hc hsl d_law_491 lk_law_51 sk_0 vid_0 rfl (okS_cons (v := vI (sArg xs i 1)) (inI_32 _) (okS_cons (v := vI (sArg xs i 2)) (inI_32 _) (fun _ hv => by cases hv))) (Nat.le_of_ble_eq_true rfl) rfl (op_howMany I ht) rfl (fun r h1 _ hO1 k1 => ?_)
  refine kl_recv (y := ad 12 (-1)) K d_law_494 rfl (lv_at hl 1 rfl) ?_
  refine kl_arg (k := 1) K hl (hi 1 (by decide) (by decide)) d_law_495 d_law_496 d_law_497 d_law_498 d_law_499 ?_
  refine kl_arg (k := 2) K hl (hi 2 (by decide) (by decide)) d_law_500 d_law_501 d_law_502 d_law_503 d_law_504 ?_
  refine kl_calll (ad := ad) (as := [vI (sArg xs i 1), vI (sArg xs i 2)]) (st := [.long (Int64.ofInt r)]) K hO1 hl.1 hc hsl d_law_505 lk_law_55 sk_12 vid_12 rfl (okS_cons (v := vI (sArg xs i 1)) (inI_32 _) (okS_cons (v := vI (sArg xs i 2)) (inI_32 _) (fun _ hv => by cases hv))) (Nat.le_of_ble_eq_true rfl) rfl k1 rfl (fun r2 h2 _ hO2 k2 => ?_)
  exact kl_cmpl K d_law_508 d_law_509 (by decide) k2.1 (next h2 hO2 k2.2)
theorem law_9 (K : KLc p s m args meth c dC dI cA A b L xs) (hl : lv_has ls 4 [(3, .int i), (2, .ref (ad 12 (-1))), (1, .ref (ad 0 (-1))), (0, .ref b)]) (hi : ∀ k : Int, 1 ≤ k → k ≤ 5 → vp_in (i + Int32.ofInt k) L) (hc : cells ≤ 600000) (hsl : slots ≤ 7302250) (hO : OkH h) (I : Inv t h) (ht : t ≤ 600) (next : ∀ h', OkH h' → Inv (t + 1) h' → KJ p l e room_1 s m args below meth c dC dI A Q cells slots 1064 ls [] (wsOf ad cA h')) : KJ p l e room_1 s m args below meth c dC dI A Q cells slots 514 ls [] (wsOf ad cA h) := by
  refine kl_recv (y := ad 0 (-1)) K d_law_514 rfl (lv_at hl 2 rfl) ?_
  refine kl_arg (k := 1) K hl (hi 1 (by decide) (by decide)) d_law_515 d_law_516 d_law_517 d_law_518 d_law_519 ?_
  refine kl_arg (k := 2) K hl (hi 2 (by decide) (by decide)) d_law_520 d_law_521 d_law_522 d_law_523 d_law_524 ?_
  refine kl_calll (ad := ad) (as := [vI (sArg xs i 1), vI (sArg xs i 2)]) (st := []) K hO hl.1 hc hsl d_law_525 lk_law_56 sk_0 vid_0 rfl (okS_cons (v := vI (sArg xs i 1)) (inI_32 _) (okS_cons (v := vI (sArg xs i 2)) (inI_32 _) (fun _ hv => by cases hv))) (Nat.le_of_ble_eq_true rfl) rfl (op_without I ht) rfl (fun r h1 _ hO1 k1 => ?_)
  refine kl_recv (y := ad 12 (-1)) K d_law_528 rfl (lv_at hl 1 rfl) ?_
  refine kl_arg (k := 1) K hl (hi 1 (by decide) (by decide)) d_law_529 d_law_530 d_law_531 d_law_532 d_law_533 ?_
  refine kl_arg (k := 2) K hl (hi 2 (by decide) (by decide)) d_law_534 d_law_535 d_law_536 d_law_537 d_law_538 ?_
  refine kl_calll (ad := ad) (as := [vI (sArg xs i 1), vI (sArg xs i 2)]) (st := [.long (Int64.ofInt r)]) K hO1 hl.1 hc hsl d_law_539 lk_law_59 sk_12 vid_12 rfl (okS_cons (v := vI (sArg xs i 1)) (inI_32 _) (okS_cons (v := vI (sArg xs i 2)) (inI_32 _) (fun _ hv => by cases hv))) (Nat.le_of_ble_eq_true rfl) rfl k1 rfl (fun r2 h2 _ hO2 k2 => ?_)
  exact kl_cmpl K d_law_542 d_law_543 (by decide) k2.1 (next h2 hO2 k2.2)
theorem law_10 (K : KLc p s m args meth c dC dI cA A b L xs) (hl : lv_has ls 4 [(3, .int i), (2, .ref (ad 12 (-1))), (1, .ref (ad 0 (-1))), (0, .ref b)]) (hi : ∀ k : Int, 1 ≤ k → k ≤ 5 → vp_in (i + Int32.ofInt k) L) (hc : cells ≤ 600000) (hsl : slots ≤ 7302250) (hO : OkH h) (I : Inv t h) (ht : t ≤ 600) (next : ∀ h', OkH h' → Inv (t + 1) h' → KJ p l e room_1 s m args below meth c dC dI A Q cells slots 1064 ls [] (wsOf ad cA h')) : KJ p l e room_1 s m args below meth c dC dI A Q cells slots 548 ls [] (wsOf ad cA h) := by
  refine kl_recv (y := ad 0 (-1)) K d_law_548 rfl (lv_at hl 2 rfl) ?_
  refine kl_arg (k := 1) K hl (hi 1 (by decide) (by decide)) d_law_549 d_law_550 d_law_551 d_law_552 d_law_553 ?_
  refine kl_calli (ad := ad) (as := [vI (sArg xs i 1)]) (st := []) K hO hl.1 hc hsl d_law_554 lk_law_60 sk_0 vid_0 rfl (okS_cons (v := vI (sArg xs i 1)) (inI_32 _) (fun _ hv => by cases hv)) (Nat.le_of_ble_eq_true rfl) (Or.inl rfl) (op_heap I ht) rfl (fun r h1 _ hO1 k1 => ?_)
  refine kl_recv (y := ad 12 (-1)) K d_law_557 rfl (lv_at hl 1 rfl) ?_
  refine kl_arg (k := 1) K hl (hi 1 (by decide) (by decide)) d_law_558 d_law_559 d_law_560 d_law_561 d_law_562 ?_
  refine kl_calli (ad := ad) (as := [vI (sArg xs i 1)]) (st := [.int (Int32.ofInt r)]) K hO1 hl.1 hc hsl d_law_563 lk_law_63 sk_12 vid_12 rfl (okS_cons (v := vI (sArg xs i 1)) (inI_32 _) (fun _ hv => by cases hv)) (Nat.le_of_ble_eq_true rfl) (Or.inl rfl) k1 rfl (fun r2 h2 _ hO2 k2 => ?_)
  exact kl_cmp K d_law_566 (by decide) k2.1 (next h2 hO2 k2.2)
theorem law_11 (K : KLc p s m args meth c dC dI cA A b L xs) (hl : lv_has ls 4 [(3, .int i), (2, .ref (ad 12 (-1))), (1, .ref (ad 0 (-1))), (0, .ref b)]) (hi : ∀ k : Int, 1 ≤ k → k ≤ 5 → vp_in (i + Int32.ofInt k) L) (hc : cells ≤ 600000) (hsl : slots ≤ 7302250) (hO : OkH h) (I : Inv t h) (ht : t ≤ 600) (next : ∀ h', OkH h' → Inv (t + 1) h' → KJ p l e room_1 s m args below meth c dC dI A Q cells slots 1064 ls [] (wsOf ad cA h')) : KJ p l e room_1 s m args below meth c dC dI A Q cells slots 571 ls [] (wsOf ad cA h) := by
  refine kl_recv (y := ad 0 (-1)) K d_law_571 rfl (lv_at hl 2 rfl) ?_
  refine kl_calli (ad := ad) (as := []) (st := []) K hO hl.1 hc hsl d_law_572 lk_law_64 sk_0 vid_0 rfl (fun _ hv => by cases hv) (Nat.le_of_ble_eq_true rfl) (Or.inl rfl) (op_heaps I ht) rfl (fun r h1 _ hO1 k1 => ?_)
  refine kl_recv (y := ad 12 (-1)) K d_law_575 rfl (lv_at hl 1 rfl) ?_
  refine kl_calli (ad := ad) (as := []) (st := [.int (Int32.ofInt r)]) K hO1 hl.1 hc hsl d_law_576 lk_law_68 sk_12 vid_12 rfl (fun _ hv => by cases hv) (Nat.le_of_ble_eq_true rfl) (Or.inl rfl) k1 rfl (fun r2 h2 _ hO2 k2 => ?_)
  exact kl_cmp K d_law_579 (by decide) k2.1 (next h2 hO2 k2.2)
theorem law_12 (K : KLc p s m args meth c dC dI cA A b L xs) (hl : lv_has ls 4 [(3, .int i), (2, .ref (ad 12 (-1))), (1, .ref (ad 0 (-1))), (0, .ref b)]) (hi : ∀ k : Int, 1 ≤ k → k ≤ 5 → vp_in (i + Int32.ofInt k) L) (hc : cells ≤ 600000) (hsl : slots ≤ 7302250) (hO : OkH h) (I : Inv t h) (ht : t ≤ 600) (next : ∀ h', OkH h' → Inv (t + 1) h' → KJ p l e room_1 s m args below meth c dC dI A Q cells slots 1064 ls [] (wsOf ad cA h')) : KJ p l e room_1 s m args below meth c dC dI A Q cells slots 584 ls [] (wsOf ad cA h) := by
  refine kl_recv (y := ad 0 (-1)) K d_law_584 rfl (lv_at hl 2 rfl) ?_
  refine kl_arg (k := 1) K hl (hi 1 (by decide) (by decide)) d_law_585 d_law_586 d_law_587 d_law_588 d_law_589 ?_
  refine kl_calli (ad := ad) (as := [vI (sArg xs i 1)]) (st := []) K hO hl.1 hc hsl d_law_590 lk_law_69 sk_0 vid_0 rfl (okS_cons (v := vI (sArg xs i 1)) (inI_32 _) (fun _ hv => by cases hv)) (Nat.le_of_ble_eq_true rfl) (Or.inl rfl) (op_far I ht) rfl (fun r h1 _ hO1 k1 => ?_)
  refine kl_recv (y := ad 12 (-1)) K d_law_593 rfl (lv_at hl 1 rfl) ?_
  refine kl_arg (k := 1) K hl (hi 1 (by decide) (by decide)) d_law_594 d_law_595 d_law_596 d_law_597 d_law_598 ?_
  refine kl_calli (ad := ad) (as := [vI (sArg xs i 1)]) (st := [.int (Int32.ofInt r)]) K hO1 hl.1 hc hsl d_law_599 lk_law_72 sk_12 vid_12 rfl (okS_cons (v := vI (sArg xs i 1)) (inI_32 _) (fun _ hv => by cases hv)) (Nat.le_of_ble_eq_true rfl) (Or.inl rfl) k1 rfl (fun r2 h2 _ hO2 k2 => ?_)
  exact kl_cmp K d_law_602 (by decide) k2.1 (next h2 hO2 k2.2)
theorem law_13 (K : KLc p s m args meth c dC dI cA A b L xs) (hl : lv_has ls 4 [(3, .int i), (2, .ref (ad 12 (-1))), (1, .ref (ad 0 (-1))), (0, .ref b)]) (hi : ∀ k : Int, 1 ≤ k → k ≤ 5 → vp_in (i + Int32.ofInt k) L) (hc : cells ≤ 600000) (hsl : slots ≤ 7302250) (hO : OkH h) (I : Inv t h) (ht : t ≤ 600) (next : ∀ h', OkH h' → Inv (t + 1) h' → KJ p l e room_1 s m args below meth c dC dI A Q cells slots 1064 ls [] (wsOf ad cA h')) : KJ p l e room_1 s m args below meth c dC dI A Q cells slots 607 ls [] (wsOf ad cA h) := by
  refine kl_recv (y := ad 0 (-1)) K d_law_607 rfl (lv_at hl 2 rfl) ?_
  refine kl_arg (k := 1) K hl (hi 1 (by decide) (by decide)) d_law_608 d_law_609 d_law_610 d_law_611 d_law_612 ?_
  refine kl_calli (ad := ad) (as := [vI (sArg xs i 1)]) (st := []) K hO hl.1 hc hsl d_law_613 lk_law_73 sk_0 vid_0 rfl (okS_cons (v := vI (sArg xs i 1)) (inI_32 _) (fun _ hv => by cases hv)) (Nat.le_of_ble_eq_true rfl) (Or.inl rfl) (op_between I ht) rfl (fun r h1 _ hO1 k1 => ?_)
  refine kl_recv (y := ad 12 (-1)) K d_law_616 rfl (lv_at hl 1 rfl) ?_
  refine kl_arg (k := 1) K hl (hi 1 (by decide) (by decide)) d_law_617 d_law_618 d_law_619 d_law_620 d_law_621 ?_
  refine kl_calli (ad := ad) (as := [vI (sArg xs i 1)]) (st := [.int (Int32.ofInt r)]) K hO1 hl.1 hc hsl d_law_622 lk_law_76 sk_12 vid_12 rfl (okS_cons (v := vI (sArg xs i 1)) (inI_32 _) (fun _ hv => by cases hv)) (Nat.le_of_ble_eq_true rfl) (Or.inl rfl) k1 rfl (fun r2 h2 _ hO2 k2 => ?_)
  exact kl_cmp K d_law_625 (by decide) k2.1 (next h2 hO2 k2.2)
theorem law_14 (K : KLc p s m args meth c dC dI cA A b L xs) (hl : lv_has ls 4 [(3, .int i), (2, .ref (ad 12 (-1))), (1, .ref (ad 0 (-1))), (0, .ref b)]) (hi : ∀ k : Int, 1 ≤ k → k ≤ 5 → vp_in (i + Int32.ofInt k) L) (hc : cells ≤ 600000) (hsl : slots ≤ 7302250) (hO : OkH h) (I : Inv t h) (ht : t ≤ 600) (next : ∀ h', OkH h' → Inv (t + 1) h' → KJ p l e room_1 s m args below meth c dC dI A Q cells slots 1064 ls [] (wsOf ad cA h')) : KJ p l e room_1 s m args below meth c dC dI A Q cells slots 630 ls [] (wsOf ad cA h) := by
  refine kl_recv (y := ad 0 (-1)) K d_law_630 rfl (lv_at hl 2 rfl) ?_
  refine kl_arg (k := 1) K hl (hi 1 (by decide) (by decide)) d_law_631 d_law_632 d_law_633 d_law_634 d_law_635 ?_
  refine kl_calli (ad := ad) (as := [vI (sArg xs i 1)]) (st := []) K hO hl.1 hc hsl d_law_636 lk_law_77 sk_0 vid_0 rfl (okS_cons (v := vI (sArg xs i 1)) (inI_32 _) (fun _ hv => by cases hv)) (Nat.le_of_ble_eq_true rfl) (Or.inl rfl) (op_newWord I ht) rfl (fun r h1 _ hO1 k1 => ?_)
  refine kl_recv (y := ad 12 (-1)) K d_law_639 rfl (lv_at hl 1 rfl) ?_
  refine kl_arg (k := 1) K hl (hi 1 (by decide) (by decide)) d_law_640 d_law_641 d_law_642 d_law_643 d_law_644 ?_
  refine kl_calli (ad := ad) (as := [vI (sArg xs i 1)]) (st := [.int (Int32.ofInt r)]) K hO1 hl.1 hc hsl d_law_645 lk_law_80 sk_12 vid_12 rfl (okS_cons (v := vI (sArg xs i 1)) (inI_32 _) (fun _ hv => by cases hv)) (Nat.le_of_ble_eq_true rfl) (Or.inl rfl) k1 rfl (fun r2 h2 _ hO2 k2 => ?_)
  exact kl_cmp K d_law_648 (by decide) k2.1 (next h2 hO2 k2.2)
theorem law_15 (K : KLc p s m args meth c dC dI cA A b L xs) (hl : lv_has ls 4 [(3, .int i), (2, .ref (ad 12 (-1))), (1, .ref (ad 0 (-1))), (0, .ref b)]) (hi : ∀ k : Int, 1 ≤ k → k ≤ 5 → vp_in (i + Int32.ofInt k) L) (hc : cells ≤ 600000) (hsl : slots ≤ 7302250) (hO : OkH h) (I : Inv t h) (ht : t ≤ 600) (next : ∀ h', OkH h' → Inv (t + 1) h' → KJ p l e room_1 s m args below meth c dC dI A Q cells slots 1064 ls [] (wsOf ad cA h')) : KJ p l e room_1 s m args below meth c dC dI A Q cells slots 653 ls [] (wsOf ad cA h) := by
  refine kl_recv (y := ad 0 (-1)) K d_law_653 rfl (lv_at hl 2 rfl) ?_
  refine kl_arg (k := 1) K hl (hi 1 (by decide) (by decide)) d_law_654 d_law_655 d_law_656 d_law_657 d_law_658 ?_
  refine kl_arg (k := 2) K hl (hi 2 (by decide) (by decide)) d_law_659 d_law_660 d_law_661 d_law_662 d_law_663 ?_
  refine kl_arg (k := 3) K hl (hi 3 (by decide) (by decide)) d_law_664 d_law_665 d_law_666 d_law_667 d_law_668 ?_
  refine kl_calll (ad := ad) (as := [vI (sArg xs i 1), vI (sArg xs i 2), vI (sArg xs i 3)]) (st := []) K hO hl.1 hc hsl d_law_669 lk_law_81 sk_0 vid_0 rfl (okS_cons (v := vI (sArg xs i 1)) (inI_32 _) (okS_cons (v := vI (sArg xs i 2)) (inI_32 _) (okS_cons (v := vI (sArg xs i 3)) (inI_32 _) (fun _ hv => by cases hv)))) (Nat.le_of_ble_eq_true rfl) rfl (op_walks I ht) rfl (fun r h1 _ hO1 k1 => ?_)
  refine kl_recv (y := ad 12 (-1)) K d_law_672 rfl (lv_at hl 1 rfl) ?_
  refine kl_arg (k := 1) K hl (hi 1 (by decide) (by decide)) d_law_673 d_law_674 d_law_675 d_law_676 d_law_677 ?_
  refine kl_arg (k := 2) K hl (hi 2 (by decide) (by decide)) d_law_678 d_law_679 d_law_680 d_law_681 d_law_682 ?_
  refine kl_arg (k := 3) K hl (hi 3 (by decide) (by decide)) d_law_683 d_law_684 d_law_685 d_law_686 d_law_687 ?_
  refine kl_calll (ad := ad) (as := [vI (sArg xs i 1), vI (sArg xs i 2), vI (sArg xs i 3)]) (st := [.long (Int64.ofInt r)]) K hO1 hl.1 hc hsl d_law_688 lk_law_85 sk_12 vid_12 rfl (okS_cons (v := vI (sArg xs i 1)) (inI_32 _) (okS_cons (v := vI (sArg xs i 2)) (inI_32 _) (okS_cons (v := vI (sArg xs i 3)) (inI_32 _) (fun _ hv => by cases hv)))) (Nat.le_of_ble_eq_true rfl) rfl k1 rfl (fun r2 h2 _ hO2 k2 => ?_)
  exact kl_cmpl K d_law_691 d_law_692 (by decide) k2.1 (next h2 hO2 k2.2)
theorem law_16 (K : KLc p s m args meth c dC dI cA A b L xs) (hl : lv_has ls 4 [(3, .int i), (2, .ref (ad 12 (-1))), (1, .ref (ad 0 (-1))), (0, .ref b)]) (hi : ∀ k : Int, 1 ≤ k → k ≤ 5 → vp_in (i + Int32.ofInt k) L) (hc : cells ≤ 600000) (hsl : slots ≤ 7302250) (hO : OkH h) (I : Inv t h) (ht : t ≤ 600) (next : ∀ h', OkH h' → Inv (t + 1) h' → KJ p l e room_1 s m args below meth c dC dI A Q cells slots 1064 ls [] (wsOf ad cA h')) : KJ p l e room_1 s m args below meth c dC dI A Q cells slots 697 ls [] (wsOf ad cA h) := by
  refine kl_recv (y := ad 0 (-1)) K d_law_697 rfl (lv_at hl 2 rfl) ?_
  refine kl_arg (k := 1) K hl (hi 1 (by decide) (by decide)) d_law_698 d_law_699 d_law_700 d_law_701 d_law_702 ?_
  refine kl_arg (k := 2) K hl (hi 2 (by decide) (by decide)) d_law_703 d_law_704 d_law_705 d_law_706 d_law_707 ?_
  refine kl_calli (ad := ad) (as := [vI (sArg xs i 1), vI (sArg xs i 2)]) (st := []) K hO hl.1 hc hsl d_law_708 lk_law_86 sk_0 vid_0 rfl (okS_cons (v := vI (sArg xs i 1)) (inI_32 _) (okS_cons (v := vI (sArg xs i 2)) (inI_32 _) (fun _ hv => by cases hv))) (Nat.le_of_ble_eq_true rfl) (Or.inl rfl) (op_row I ht) rfl (fun r h1 _ hO1 k1 => ?_)
  refine kl_recv (y := ad 12 (-1)) K d_law_711 rfl (lv_at hl 1 rfl) ?_
  refine kl_arg (k := 1) K hl (hi 1 (by decide) (by decide)) d_law_712 d_law_713 d_law_714 d_law_715 d_law_716 ?_
  refine kl_arg (k := 2) K hl (hi 2 (by decide) (by decide)) d_law_717 d_law_718 d_law_719 d_law_720 d_law_721 ?_
  refine kl_calli (ad := ad) (as := [vI (sArg xs i 1), vI (sArg xs i 2)]) (st := [.int (Int32.ofInt r)]) K hO1 hl.1 hc hsl d_law_722 lk_law_90 sk_12 vid_12 rfl (okS_cons (v := vI (sArg xs i 1)) (inI_32 _) (okS_cons (v := vI (sArg xs i 2)) (inI_32 _) (fun _ hv => by cases hv))) (Nat.le_of_ble_eq_true rfl) (Or.inl rfl) k1 rfl (fun r2 h2 _ hO2 k2 => ?_)
  exact kl_cmp K d_law_725 (by decide) k2.1 (next h2 hO2 k2.2)
theorem law_17 (K : KLc p s m args meth c dC dI cA A b L xs) (hl : lv_has ls 4 [(3, .int i), (2, .ref (ad 12 (-1))), (1, .ref (ad 0 (-1))), (0, .ref b)]) (hi : ∀ k : Int, 1 ≤ k → k ≤ 5 → vp_in (i + Int32.ofInt k) L) (hc : cells ≤ 600000) (hsl : slots ≤ 7302250) (hO : OkH h) (I : Inv t h) (ht : t ≤ 600) (next : ∀ h', OkH h' → Inv (t + 1) h' → KJ p l e room_1 s m args below meth c dC dI A Q cells slots 1064 ls [] (wsOf ad cA h')) : KJ p l e room_1 s m args below meth c dC dI A Q cells slots 730 ls [] (wsOf ad cA h) := by
  refine kl_recv (y := ad 0 (-1)) K d_law_730 rfl (lv_at hl 2 rfl) ?_
  refine kl_arg (k := 1) K hl (hi 1 (by decide) (by decide)) d_law_731 d_law_732 d_law_733 d_law_734 d_law_735 ?_
  refine kl_arg (k := 2) K hl (hi 2 (by decide) (by decide)) d_law_736 d_law_737 d_law_738 d_law_739 d_law_740 ?_
  refine kl_calli (ad := ad) (as := [vI (sArg xs i 1), vI (sArg xs i 2)]) (st := []) K hO hl.1 hc hsl d_law_741 lk_law_91 sk_0 vid_0 rfl (okS_cons (v := vI (sArg xs i 1)) (inI_32 _) (okS_cons (v := vI (sArg xs i 2)) (inI_32 _) (fun _ hv => by cases hv))) (Nat.le_of_ble_eq_true rfl) (Or.inl rfl) (op_game I ht) rfl (fun r h1 _ hO1 k1 => ?_)
  refine kl_recv (y := ad 12 (-1)) K d_law_744 rfl (lv_at hl 1 rfl) ?_
  refine kl_arg (k := 1) K hl (hi 1 (by decide) (by decide)) d_law_745 d_law_746 d_law_747 d_law_748 d_law_749 ?_
  refine kl_arg (k := 2) K hl (hi 2 (by decide) (by decide)) d_law_750 d_law_751 d_law_752 d_law_753 d_law_754 ?_
  refine kl_calli (ad := ad) (as := [vI (sArg xs i 1), vI (sArg xs i 2)]) (st := [.int (Int32.ofInt r)]) K hO1 hl.1 hc hsl d_law_755 lk_law_94 sk_12 vid_12 rfl (okS_cons (v := vI (sArg xs i 1)) (inI_32 _) (okS_cons (v := vI (sArg xs i 2)) (inI_32 _) (fun _ hv => by cases hv))) (Nat.le_of_ble_eq_true rfl) (Or.inl rfl) k1 rfl (fun r2 h2 _ hO2 k2 => ?_)
  exact kl_cmp K d_law_758 (by decide) k2.1 (next h2 hO2 k2.2)
theorem law_18 (K : KLc p s m args meth c dC dI cA A b L xs) (hl : lv_has ls 4 [(3, .int i), (2, .ref (ad 12 (-1))), (1, .ref (ad 0 (-1))), (0, .ref b)]) (hi : ∀ k : Int, 1 ≤ k → k ≤ 5 → vp_in (i + Int32.ofInt k) L) (hc : cells ≤ 600000) (hsl : slots ≤ 7302250) (hO : OkH h) (I : Inv t h) (ht : t ≤ 600) (next : ∀ h', OkH h' → Inv (t + 1) h' → KJ p l e room_1 s m args below meth c dC dI A Q cells slots 1064 ls [] (wsOf ad cA h')) : KJ p l e room_1 s m args below meth c dC dI A Q cells slots 763 ls [] (wsOf ad cA h) := by
  refine kl_recv (y := ad 0 (-1)) K d_law_763 rfl (lv_at hl 2 rfl) ?_
  refine kl_arg (k := 1) K hl (hi 1 (by decide) (by decide)) d_law_764 d_law_765 d_law_766 d_law_767 d_law_768 ?_
  refine kl_arg (k := 2) K hl (hi 2 (by decide) (by decide)) d_law_769 d_law_770 d_law_771 d_law_772 d_law_773 ?_
  refine kl_calli (ad := ad) (as := [vI (sArg xs i 1), vI (sArg xs i 2)]) (st := []) K hO hl.1 hc hsl d_law_774 lk_law_95 sk_0 vid_0 rfl (okS_cons (v := vI (sArg xs i 1)) (inI_32 _) (okS_cons (v := vI (sArg xs i 2)) (inI_32 _) (fun _ hv => by cases hv))) (Nat.le_of_ble_eq_true rfl) (Or.inl rfl) (op_farBy I ht) rfl (fun r h1 _ hO1 k1 => ?_)
  refine kl_recv (y := ad 12 (-1)) K d_law_777 rfl (lv_at hl 1 rfl) ?_
  refine kl_arg (k := 1) K hl (hi 1 (by decide) (by decide)) d_law_778 d_law_779 d_law_780 d_law_781 d_law_782 ?_
  refine kl_arg (k := 2) K hl (hi 2 (by decide) (by decide)) d_law_783 d_law_784 d_law_785 d_law_786 d_law_787 ?_
  refine kl_calli (ad := ad) (as := [vI (sArg xs i 1), vI (sArg xs i 2)]) (st := [.int (Int32.ofInt r)]) K hO1 hl.1 hc hsl d_law_788 lk_law_98 sk_12 vid_12 rfl (okS_cons (v := vI (sArg xs i 1)) (inI_32 _) (okS_cons (v := vI (sArg xs i 2)) (inI_32 _) (fun _ hv => by cases hv))) (Nat.le_of_ble_eq_true rfl) (Or.inl rfl) k1 rfl (fun r2 h2 _ hO2 k2 => ?_)
  exact kl_cmp K d_law_791 (by decide) k2.1 (next h2 hO2 k2.2)
theorem law_19 (K : KLc p s m args meth c dC dI cA A b L xs) (hl : lv_has ls 4 [(3, .int i), (2, .ref (ad 12 (-1))), (1, .ref (ad 0 (-1))), (0, .ref b)]) (hi : ∀ k : Int, 1 ≤ k → k ≤ 5 → vp_in (i + Int32.ofInt k) L) (hc : cells ≤ 600000) (hsl : slots ≤ 7302250) (hO : OkH h) (I : Inv t h) (ht : t ≤ 600) (next : ∀ h', OkH h' → Inv (t + 1) h' → KJ p l e room_1 s m args below meth c dC dI A Q cells slots 1064 ls [] (wsOf ad cA h')) : KJ p l e room_1 s m args below meth c dC dI A Q cells slots 796 ls [] (wsOf ad cA h) := by
  refine kl_recv (y := ad 0 (-1)) K d_law_796 rfl (lv_at hl 2 rfl) ?_
  refine kl_arg (k := 1) K hl (hi 1 (by decide) (by decide)) d_law_797 d_law_798 d_law_799 d_law_800 d_law_801 ?_
  refine kl_arg (k := 2) K hl (hi 2 (by decide) (by decide)) d_law_802 d_law_803 d_law_804 d_law_805 d_law_806 ?_
  refine kl_calli (ad := ad) (as := [vI (sArg xs i 1), vI (sArg xs i 2)]) (st := []) K hO hl.1 hc hsl d_law_807 lk_law_99 sk_0 vid_0 rfl (okS_cons (v := vI (sArg xs i 1)) (inI_32 _) (okS_cons (v := vI (sArg xs i 2)) (inI_32 _) (fun _ hv => by cases hv))) (Nat.le_of_ble_eq_true rfl) (Or.inl rfl) (op_near I ht) rfl (fun r h1 _ hO1 k1 => ?_)
  refine kl_recv (y := ad 12 (-1)) K d_law_810 rfl (lv_at hl 1 rfl) ?_
  refine kl_arg (k := 1) K hl (hi 1 (by decide) (by decide)) d_law_811 d_law_812 d_law_813 d_law_814 d_law_815 ?_
  refine kl_arg (k := 2) K hl (hi 2 (by decide) (by decide)) d_law_816 d_law_817 d_law_818 d_law_819 d_law_820 ?_
  refine kl_calli (ad := ad) (as := [vI (sArg xs i 1), vI (sArg xs i 2)]) (st := [.int (Int32.ofInt r)]) K hO1 hl.1 hc hsl d_law_821 lk_law_102 sk_12 vid_12 rfl (okS_cons (v := vI (sArg xs i 1)) (inI_32 _) (okS_cons (v := vI (sArg xs i 2)) (inI_32 _) (fun _ hv => by cases hv))) (Nat.le_of_ble_eq_true rfl) (Or.inl rfl) k1 rfl (fun r2 h2 _ hO2 k2 => ?_)
  exact kl_cmp K d_law_824 (by decide) k2.1 (next h2 hO2 k2.2)
theorem law_20 (K : KLc p s m args meth c dC dI cA A b L xs) (hl : lv_has ls 4 [(3, .int i), (2, .ref (ad 12 (-1))), (1, .ref (ad 0 (-1))), (0, .ref b)]) (hi : ∀ k : Int, 1 ≤ k → k ≤ 5 → vp_in (i + Int32.ofInt k) L) (hc : cells ≤ 600000) (hsl : slots ≤ 7302250) (hO : OkH h) (I : Inv t h) (ht : t ≤ 600) (next : ∀ h', OkH h' → Inv (t + 1) h' → KJ p l e room_1 s m args below meth c dC dI A Q cells slots 1064 ls [] (wsOf ad cA h')) : KJ p l e room_1 s m args below meth c dC dI A Q cells slots 829 ls [] (wsOf ad cA h) := by
  refine kl_recv (y := ad 0 (-1)) K d_law_829 rfl (lv_at hl 2 rfl) ?_
  refine kl_arg (k := 1) K hl (hi 1 (by decide) (by decide)) d_law_830 d_law_831 d_law_832 d_law_833 d_law_834 ?_
  refine kl_arg (k := 2) K hl (hi 2 (by decide) (by decide)) d_law_835 d_law_836 d_law_837 d_law_838 d_law_839 ?_
  refine kl_arg (k := 3) K hl (hi 3 (by decide) (by decide)) d_law_840 d_law_841 d_law_842 d_law_843 d_law_844 ?_
  refine kl_calli (ad := ad) (as := [vI (sArg xs i 1), vI (sArg xs i 2), vI (sArg xs i 3)]) (st := []) K hO hl.1 hc hsl d_law_845 lk_law_103 sk_0 vid_0 rfl (okS_cons (v := vI (sArg xs i 1)) (inI_32 _) (okS_cons (v := vI (sArg xs i 2)) (inI_32 _) (okS_cons (v := vI (sArg xs i 3)) (inI_32 _) (fun _ hv => by cases hv)))) (Nat.le_of_ble_eq_true rfl) (Or.inl rfl) (op_clear I ht) rfl (fun r h1 _ hO1 k1 => ?_)
  refine kl_recv (y := ad 12 (-1)) K d_law_848 rfl (lv_at hl 1 rfl) ?_
  refine kl_arg (k := 1) K hl (hi 1 (by decide) (by decide)) d_law_849 d_law_850 d_law_851 d_law_852 d_law_853 ?_
  refine kl_arg (k := 2) K hl (hi 2 (by decide) (by decide)) d_law_854 d_law_855 d_law_856 d_law_857 d_law_858 ?_
  refine kl_arg (k := 3) K hl (hi 3 (by decide) (by decide)) d_law_859 d_law_860 d_law_861 d_law_862 d_law_863 ?_
  refine kl_calli (ad := ad) (as := [vI (sArg xs i 1), vI (sArg xs i 2), vI (sArg xs i 3)]) (st := [.int (Int32.ofInt r)]) K hO1 hl.1 hc hsl d_law_864 lk_law_106 sk_12 vid_12 rfl (okS_cons (v := vI (sArg xs i 1)) (inI_32 _) (okS_cons (v := vI (sArg xs i 2)) (inI_32 _) (okS_cons (v := vI (sArg xs i 3)) (inI_32 _) (fun _ hv => by cases hv)))) (Nat.le_of_ble_eq_true rfl) (Or.inl rfl) k1 rfl (fun r2 h2 _ hO2 k2 => ?_)
  exact kl_cmp K d_law_867 (by decide) k2.1 (next h2 hO2 k2.2)
theorem law_21 (K : KLc p s m args meth c dC dI cA A b L xs) (hl : lv_has ls 4 [(3, .int i), (2, .ref (ad 12 (-1))), (1, .ref (ad 0 (-1))), (0, .ref b)]) (hi : ∀ k : Int, 1 ≤ k → k ≤ 5 → vp_in (i + Int32.ofInt k) L) (hc : cells ≤ 600000) (hsl : slots ≤ 7302250) (hO : OkH h) (I : Inv t h) (ht : t ≤ 600) (next : ∀ h', OkH h' → Inv (t + 1) h' → KJ p l e room_1 s m args below meth c dC dI A Q cells slots 1064 ls [] (wsOf ad cA h')) : KJ p l e room_1 s m args below meth c dC dI A Q cells slots 872 ls [] (wsOf ad cA h) := by
  refine kl_recv (y := ad 0 (-1)) K d_law_872 rfl (lv_at hl 2 rfl) ?_
  refine kl_arg (k := 1) K hl (hi 1 (by decide) (by decide)) d_law_873 d_law_874 d_law_875 d_law_876 d_law_877 ?_
  refine kl_calll (ad := ad) (as := [vI (sArg xs i 1)]) (st := []) K hO hl.1 hc hsl d_law_878 lk_law_107 sk_0 vid_0 rfl (okS_cons (v := vI (sArg xs i 1)) (inI_32 _) (fun _ hv => by cases hv)) (Nat.le_of_ble_eq_true rfl) rfl (op_rubbed I ht) rfl (fun r h1 _ hO1 k1 => ?_)
  refine kl_recv (y := ad 12 (-1)) K d_law_881 rfl (lv_at hl 1 rfl) ?_
  refine kl_arg (k := 1) K hl (hi 1 (by decide) (by decide)) d_law_882 d_law_883 d_law_884 d_law_885 d_law_886 ?_
  refine kl_calll (ad := ad) (as := [vI (sArg xs i 1)]) (st := [.long (Int64.ofInt r)]) K hO1 hl.1 hc hsl d_law_887 lk_law_111 sk_12 vid_12 rfl (okS_cons (v := vI (sArg xs i 1)) (inI_32 _) (fun _ hv => by cases hv)) (Nat.le_of_ble_eq_true rfl) rfl k1 rfl (fun r2 h2 _ hO2 k2 => ?_)
  exact kl_cmpl K d_law_890 d_law_891 (by decide) k2.1 (next h2 hO2 k2.2)
theorem law_22 (K : KLc p s m args meth c dC dI cA A b L xs) (hl : lv_has ls 4 [(3, .int i), (2, .ref (ad 12 (-1))), (1, .ref (ad 0 (-1))), (0, .ref b)]) (hi : ∀ k : Int, 1 ≤ k → k ≤ 5 → vp_in (i + Int32.ofInt k) L) (hc : cells ≤ 600000) (hsl : slots ≤ 7302250) (hO : OkH h) (I : Inv t h) (ht : t ≤ 600) (next : ∀ h', OkH h' → Inv (t + 1) h' → KJ p l e room_1 s m args below meth c dC dI A Q cells slots 1064 ls [] (wsOf ad cA h')) : KJ p l e room_1 s m args below meth c dC dI A Q cells slots 896 ls [] (wsOf ad cA h) := by
  refine kl_recv (y := ad 0 (-1)) K d_law_896 rfl (lv_at hl 2 rfl) ?_
  refine kl_arg (k := 1) K hl (hi 1 (by decide) (by decide)) d_law_897 d_law_898 d_law_899 d_law_900 d_law_901 ?_
  refine kl_arg (k := 2) K hl (hi 2 (by decide) (by decide)) d_law_902 d_law_903 d_law_904 d_law_905 d_law_906 ?_
  refine kl_calli (ad := ad) (as := [vI (sArg xs i 1), vI (sArg xs i 2)]) (st := []) K hO hl.1 hc hsl d_law_907 lk_law_112 sk_0 vid_0 rfl (okS_cons (v := vI (sArg xs i 1)) (inI_32 _) (okS_cons (v := vI (sArg xs i 2)) (inI_32 _) (fun _ hv => by cases hv))) (Nat.le_of_ble_eq_true rfl) (Or.inl rfl) (op_square I ht) rfl (fun r h1 _ hO1 k1 => ?_)
  refine kl_recv (y := ad 12 (-1)) K d_law_910 rfl (lv_at hl 1 rfl) ?_
  refine kl_arg (k := 1) K hl (hi 1 (by decide) (by decide)) d_law_911 d_law_912 d_law_913 d_law_914 d_law_915 ?_
  refine kl_arg (k := 2) K hl (hi 2 (by decide) (by decide)) d_law_916 d_law_917 d_law_918 d_law_919 d_law_920 ?_
  refine kl_calli (ad := ad) (as := [vI (sArg xs i 1), vI (sArg xs i 2)]) (st := [.int (Int32.ofInt r)]) K hO1 hl.1 hc hsl d_law_921 lk_law_115 sk_12 vid_12 rfl (okS_cons (v := vI (sArg xs i 1)) (inI_32 _) (okS_cons (v := vI (sArg xs i 2)) (inI_32 _) (fun _ hv => by cases hv))) (Nat.le_of_ble_eq_true rfl) (Or.inl rfl) k1 rfl (fun r2 h2 _ hO2 k2 => ?_)
  exact kl_cmp K d_law_924 (by decide) k2.1 (next h2 hO2 k2.2)
theorem law_23 (K : KLc p s m args meth c dC dI cA A b L xs) (hl : lv_has ls 4 [(3, .int i), (2, .ref (ad 12 (-1))), (1, .ref (ad 0 (-1))), (0, .ref b)]) (hi : ∀ k : Int, 1 ≤ k → k ≤ 5 → vp_in (i + Int32.ofInt k) L) (hc : cells ≤ 600000) (hsl : slots ≤ 7302250) (hO : OkH h) (I : Inv t h) (ht : t ≤ 600) (next : ∀ h', OkH h' → Inv (t + 1) h' → KJ p l e room_1 s m args below meth c dC dI A Q cells slots 1064 ls [] (wsOf ad cA h')) : KJ p l e room_1 s m args below meth c dC dI A Q cells slots 929 ls [] (wsOf ad cA h) := by
  refine kl_recv (y := ad 0 (-1)) K d_law_929 rfl (lv_at hl 2 rfl) ?_
  refine kl_arg (k := 1) K hl (hi 1 (by decide) (by decide)) d_law_930 d_law_931 d_law_932 d_law_933 d_law_934 ?_
  refine kl_calli (ad := ad) (as := [vI (sArg xs i 1)]) (st := []) K hO hl.1 hc hsl d_law_935 lk_law_116 sk_0 vid_0 rfl (okS_cons (v := vI (sArg xs i 1)) (inI_32 _) (fun _ hv => by cases hv)) (Nat.le_of_ble_eq_true rfl) (Or.inr rfl) (op_seed I ht) rfl (fun r h1 _ hO1 k1 => ?_)
  refine kl_recv (y := ad 12 (-1)) K d_law_938 rfl (lv_at hl 1 rfl) ?_
  refine kl_arg (k := 1) K hl (hi 1 (by decide) (by decide)) d_law_939 d_law_940 d_law_941 d_law_942 d_law_943 ?_
  refine kl_calli (ad := ad) (as := [vI (sArg xs i 1)]) (st := [.int (Int32.ofInt r)]) K hO1 hl.1 hc hsl d_law_944 lk_law_119 sk_12 vid_12 rfl (okS_cons (v := vI (sArg xs i 1)) (inI_32 _) (fun _ hv => by cases hv)) (Nat.le_of_ble_eq_true rfl) (Or.inr rfl) k1 rfl (fun r2 h2 _ hO2 k2 => ?_)
  exact kl_cmp K d_law_947 (by decide) k2.1 (next h2 hO2 k2.2)
theorem law_24 (K : KLc p s m args meth c dC dI cA A b L xs) (hl : lv_has ls 4 [(3, .int i), (2, .ref (ad 12 (-1))), (1, .ref (ad 0 (-1))), (0, .ref b)]) (hi : ∀ k : Int, 1 ≤ k → k ≤ 5 → vp_in (i + Int32.ofInt k) L) (hc : cells ≤ 600000) (hsl : slots ≤ 7302250) (hO : OkH h) (I : Inv t h) (ht : t ≤ 600) (next : ∀ h', OkH h' → Inv (t + 1) h' → KJ p l e room_1 s m args below meth c dC dI A Q cells slots 1064 ls [] (wsOf ad cA h')) : KJ p l e room_1 s m args below meth c dC dI A Q cells slots 952 ls [] (wsOf ad cA h) := by
  refine kl_recv (y := ad 0 (-1)) K d_law_952 rfl (lv_at hl 2 rfl) ?_
  refine kl_arg (k := 1) K hl (hi 1 (by decide) (by decide)) d_law_953 d_law_954 d_law_955 d_law_956 d_law_957 ?_
  refine kl_arg (k := 2) K hl (hi 2 (by decide) (by decide)) d_law_958 d_law_959 d_law_960 d_law_961 d_law_962 ?_
  refine kl_arg (k := 3) K hl (hi 3 (by decide) (by decide)) d_law_963 d_law_964 d_law_965 d_law_966 d_law_967 ?_
  refine kl_calli (ad := ad) (as := [vI (sArg xs i 1), vI (sArg xs i 2), vI (sArg xs i 3)]) (st := []) K hO hl.1 hc hsl d_law_968 lk_law_120 sk_0 vid_0 rfl (okS_cons (v := vI (sArg xs i 1)) (inI_32 _) (okS_cons (v := vI (sArg xs i 2)) (inI_32 _) (okS_cons (v := vI (sArg xs i 3)) (inI_32 _) (fun _ hv => by cases hv)))) (Nat.le_of_ble_eq_true rfl) (Or.inl rfl) (op_draw I ht) rfl (fun r h1 _ hO1 k1 => ?_)
  refine kl_recv (y := ad 12 (-1)) K d_law_971 rfl (lv_at hl 1 rfl) ?_
  refine kl_arg (k := 1) K hl (hi 1 (by decide) (by decide)) d_law_972 d_law_973 d_law_974 d_law_975 d_law_976 ?_
  refine kl_arg (k := 2) K hl (hi 2 (by decide) (by decide)) d_law_977 d_law_978 d_law_979 d_law_980 d_law_981 ?_
  refine kl_arg (k := 3) K hl (hi 3 (by decide) (by decide)) d_law_982 d_law_983 d_law_984 d_law_985 d_law_986 ?_
  refine kl_calli (ad := ad) (as := [vI (sArg xs i 1), vI (sArg xs i 2), vI (sArg xs i 3)]) (st := [.int (Int32.ofInt r)]) K hO1 hl.1 hc hsl d_law_987 lk_law_123 sk_12 vid_12 rfl (okS_cons (v := vI (sArg xs i 1)) (inI_32 _) (okS_cons (v := vI (sArg xs i 2)) (inI_32 _) (okS_cons (v := vI (sArg xs i 3)) (inI_32 _) (fun _ hv => by cases hv)))) (Nat.le_of_ble_eq_true rfl) (Or.inl rfl) k1 rfl (fun r2 h2 _ hO2 k2 => ?_)
  exact kl_cmp K d_law_990 (by decide) k2.1 (next h2 hO2 k2.2)
theorem law_25 (K : KLc p s m args meth c dC dI cA A b L xs) (hl : lv_has ls 4 [(3, .int i), (2, .ref (ad 12 (-1))), (1, .ref (ad 0 (-1))), (0, .ref b)]) (hi : ∀ k : Int, 1 ≤ k → k ≤ 5 → vp_in (i + Int32.ofInt k) L) (hc : cells ≤ 600000) (hsl : slots ≤ 7302250) (hO : OkH h) (I : Inv t h) (ht : t ≤ 600) (next : ∀ h', OkH h' → Inv (t + 1) h' → KJ p l e room_1 s m args below meth c dC dI A Q cells slots 1064 ls [] (wsOf ad cA h')) : KJ p l e room_1 s m args below meth c dC dI A Q cells slots 995 ls [] (wsOf ad cA h) := by
  refine kl_recv (y := ad 0 (-1)) K d_law_995 rfl (lv_at hl 2 rfl) ?_
  refine kl_calli (ad := ad) (as := []) (st := []) K hO hl.1 hc hsl d_law_996 lk_law_124 sk_0 vid_0 rfl (fun _ hv => by cases hv) (Nat.le_of_ble_eq_true rfl) (Or.inl rfl) (op_off I ht) rfl (fun r h1 _ hO1 k1 => ?_)
  refine kl_recv (y := ad 12 (-1)) K d_law_999 rfl (lv_at hl 1 rfl) ?_
  refine kl_calli (ad := ad) (as := []) (st := [.int (Int32.ofInt r)]) K hO1 hl.1 hc hsl d_law_1000 lk_law_127 sk_12 vid_12 rfl (fun _ hv => by cases hv) (Nat.le_of_ble_eq_true rfl) (Or.inl rfl) k1 rfl (fun r2 h2 _ hO2 k2 => ?_)
  exact kl_cmp K d_law_1003 (by decide) k2.1 (next h2 hO2 k2.2)
theorem law_26 (K : KLc p s m args meth c dC dI cA A b L xs) (hl : lv_has ls 4 [(3, .int i), (2, .ref (ad 12 (-1))), (1, .ref (ad 0 (-1))), (0, .ref b)]) (hi : ∀ k : Int, 1 ≤ k → k ≤ 5 → vp_in (i + Int32.ofInt k) L) (hc : cells ≤ 600000) (hsl : slots ≤ 7302250) (hO : OkH h) (I : Inv t h) (ht : t ≤ 600) (next : ∀ h', OkH h' → Inv (t + 1) h' → KJ p l e room_1 s m args below meth c dC dI A Q cells slots 1064 ls [] (wsOf ad cA h')) : KJ p l e room_1 s m args below meth c dC dI A Q cells slots 1008 ls [] (wsOf ad cA h) := by
  refine kl_recv (y := ad 0 (-1)) K d_law_1008 rfl (lv_at hl 2 rfl) ?_
  refine kl_arg (k := 1) K hl (hi 1 (by decide) (by decide)) d_law_1009 d_law_1010 d_law_1011 d_law_1012 d_law_1013 ?_
  refine kl_arg (k := 2) K hl (hi 2 (by decide) (by decide)) d_law_1014 d_law_1015 d_law_1016 d_law_1017 d_law_1018 ?_
  refine kl_calli (ad := ad) (as := [vI (sArg xs i 1), vI (sArg xs i 2)]) (st := []) K hO hl.1 hc hsl d_law_1019 lk_law_128 sk_0 vid_0 rfl (okS_cons (v := vI (sArg xs i 1)) (inI_32 _) (okS_cons (v := vI (sArg xs i 2)) (inI_32 _) (fun _ hv => by cases hv))) (Nat.le_of_ble_eq_true rfl) (Or.inl rfl) (op_check I ht) rfl (fun r h1 _ hO1 k1 => ?_)
  refine kl_recv (y := ad 12 (-1)) K d_law_1022 rfl (lv_at hl 1 rfl) ?_
  refine kl_arg (k := 1) K hl (hi 1 (by decide) (by decide)) d_law_1023 d_law_1024 d_law_1025 d_law_1026 d_law_1027 ?_
  refine kl_arg (k := 2) K hl (hi 2 (by decide) (by decide)) d_law_1028 d_law_1029 d_law_1030 d_law_1031 d_law_1032 ?_
  refine kl_calli (ad := ad) (as := [vI (sArg xs i 1), vI (sArg xs i 2)]) (st := [.int (Int32.ofInt r)]) K hO1 hl.1 hc hsl d_law_1033 lk_law_131 sk_12 vid_12 rfl (okS_cons (v := vI (sArg xs i 1)) (inI_32 _) (okS_cons (v := vI (sArg xs i 2)) (inI_32 _) (fun _ hv => by cases hv))) (Nat.le_of_ble_eq_true rfl) (Or.inl rfl) k1 rfl (fun r2 h2 _ hO2 k2 => ?_)
  exact kl_cmp K d_law_1036 (by decide) k2.1 (next h2 hO2 k2.2)
theorem law_27 (K : KLc p s m args meth c dC dI cA A b L xs) (hl : lv_has ls 4 [(3, .int i), (2, .ref (ad 12 (-1))), (1, .ref (ad 0 (-1))), (0, .ref b)]) (hi : ∀ k : Int, 1 ≤ k → k ≤ 5 → vp_in (i + Int32.ofInt k) L) (hc : cells ≤ 600000) (hsl : slots ≤ 7302250) (hO : OkH h) (I : Inv t h) (ht : t ≤ 600) (next : ∀ h', OkH h' → Inv (t + 1) h' → KJ p l e room_1 s m args below meth c dC dI A Q cells slots 1064 ls [] (wsOf ad cA h')) : KJ p l e room_1 s m args below meth c dC dI A Q cells slots 1041 ls [] (wsOf ad cA h) := by
  refine kl_recv (y := ad 0 (-1)) K d_law_1041 rfl (lv_at hl 2 rfl) ?_
  refine kl_arg (k := 1) K hl (hi 1 (by decide) (by decide)) d_law_1042 d_law_1043 d_law_1044 d_law_1045 d_law_1046 ?_
  refine kl_calli (ad := ad) (as := [vI (sArg xs i 1)]) (st := []) K hO hl.1 hc hsl d_law_1047 lk_law_132 sk_0 vid_0 rfl (okS_cons (v := vI (sArg xs i 1)) (inI_32 _) (fun _ hv => by cases hv)) (Nat.le_of_ble_eq_true rfl) (Or.inl rfl) (op_count I ht (inI_32 _)) rfl (fun r h1 _ hO1 k1 => ?_)
  refine kl_recv (y := ad 12 (-1)) K d_law_1050 rfl (lv_at hl 1 rfl) ?_
  refine kl_arg (k := 1) K hl (hi 1 (by decide) (by decide)) d_law_1051 d_law_1052 d_law_1053 d_law_1054 d_law_1055 ?_
  refine kl_calli (ad := ad) (as := [vI (sArg xs i 1)]) (st := [.int (Int32.ofInt r)]) K hO1 hl.1 hc hsl d_law_1056 lk_law_135 sk_12 vid_12 rfl (okS_cons (v := vI (sArg xs i 1)) (inI_32 _) (fun _ hv => by cases hv)) (Nat.le_of_ble_eq_true rfl) (Or.inl rfl) k1 rfl (fun r2 h2 _ hO2 k2 => ?_)
  exact kl_cmp K d_law_1059 (by decide) k2.1 (next h2 hO2 k2.2)
end KCASES
