theorem d_law_0 : decode code 0 = .ok (.new 7, 3) := by decide +kernel
theorem d_law_3 : decode code 3 = .ok (.dup, 1) := by decide +kernel
theorem d_law_4 : decode code 4 = .ok (.invokespecial 9, 3) := by decide +kernel
theorem d_law_7 : decode code 7 = .ok (.astore_n 1, 1) := by decide +kernel
theorem d_law_8 : decode code 8 = .ok (.new 10, 3) := by decide +kernel
theorem d_law_11 : decode code 11 = .ok (.dup, 1) := by decide +kernel
theorem d_law_12 : decode code 12 = .ok (.invokespecial 12, 3) := by decide +kernel
theorem d_law_15 : decode code 15 = .ok (.astore_n 2, 1) := by decide +kernel
theorem d_law_16 : decode code 16 = .ok (.iconst 0, 1) := by decide +kernel
theorem d_law_17 : decode code 17 = .ok (.istore_n 3, 1) := by decide +kernel
theorem d_law_18 : decode code 18 = .ok (.iload_n 3, 1) := by decide +kernel
theorem d_law_19 : decode code 19 = .ok (.aload_n 0, 1) := by decide +kernel
theorem d_law_20 : decode code 20 = .ok (.arraylength, 1) := by decide +kernel
theorem d_law_21 : decode code 21 = .ok (.iconst 4, 1) := by decide +kernel
theorem d_law_22 : decode code 22 = .ok (.isub, 1) := by decide +kernel
theorem d_law_23 : decode code 23 = .ok (.if_icmp .gt 675, 3) := by decide +kernel
theorem d_law_26 : decode code 26 = .ok (.aload_n 0, 1) := by decide +kernel
theorem d_law_27 : decode code 27 = .ok (.iload_n 3, 1) := by decide +kernel
theorem d_law_28 : decode code 28 = .ok (.iaload, 1) := by decide +kernel
theorem d_law_29 : decode code 29 = .ok (.bipush 31, 2) := by decide +kernel
theorem d_law_31 : decode code 31 = .ok (.iand, 1) := by decide +kernel
theorem d_law_32 : decode code 32 = .ok (.tableswitch 660 0 21 #[104, 127, 150, 163, 176, 209, 232, 255, 288, 301, 324, 337, 360, 403, 436, 459, 492, 525, 538, 561, 594, 637], 104) := by decide +kernel
theorem d_law_136 : decode code 136 = .ok (.aload_n 1, 1) := by decide +kernel
theorem d_law_137 : decode code 137 = .ok (.aload_n 0, 1) := by decide +kernel
theorem d_law_138 : decode code 138 = .ok (.iload_n 3, 1) := by decide +kernel
theorem d_law_139 : decode code 139 = .ok (.iconst 1, 1) := by decide +kernel
theorem d_law_140 : decode code 140 = .ok (.iadd, 1) := by decide +kernel
theorem d_law_141 : decode code 141 = .ok (.iaload, 1) := by decide +kernel
theorem d_law_142 : decode code 142 = .ok (.invokevirtual 13, 3) := by decide +kernel
theorem d_law_145 : decode code 145 = .ok (.aload_n 2, 1) := by decide +kernel
theorem d_law_146 : decode code 146 = .ok (.aload_n 0, 1) := by decide +kernel
theorem d_law_147 : decode code 147 = .ok (.iload_n 3, 1) := by decide +kernel
theorem d_law_148 : decode code 148 = .ok (.iconst 1, 1) := by decide +kernel
theorem d_law_149 : decode code 149 = .ok (.iadd, 1) := by decide +kernel
theorem d_law_150 : decode code 150 = .ok (.iaload, 1) := by decide +kernel
theorem d_law_151 : decode code 151 = .ok (.invokevirtual 17, 3) := by decide +kernel
theorem d_law_154 : decode code 154 = .ok (.if_icmp .eq 538, 3) := by decide +kernel
theorem d_law_157 : decode code 157 = .ok (.iconst 0, 1) := by decide +kernel
theorem d_law_158 : decode code 158 = .ok (.ireturn, 1) := by decide +kernel
theorem d_law_159 : decode code 159 = .ok (.aload_n 1, 1) := by decide +kernel
theorem d_law_160 : decode code 160 = .ok (.aload_n 0, 1) := by decide +kernel
theorem d_law_161 : decode code 161 = .ok (.iload_n 3, 1) := by decide +kernel
theorem d_law_162 : decode code 162 = .ok (.iconst 1, 1) := by decide +kernel
theorem d_law_163 : decode code 163 = .ok (.iadd, 1) := by decide +kernel
theorem d_law_164 : decode code 164 = .ok (.iaload, 1) := by decide +kernel
theorem d_law_165 : decode code 165 = .ok (.invokevirtual 18, 3) := by decide +kernel
theorem d_law_168 : decode code 168 = .ok (.aload_n 2, 1) := by decide +kernel
theorem d_law_169 : decode code 169 = .ok (.aload_n 0, 1) := by decide +kernel
theorem d_law_170 : decode code 170 = .ok (.iload_n 3, 1) := by decide +kernel
theorem d_law_171 : decode code 171 = .ok (.iconst 1, 1) := by decide +kernel
theorem d_law_172 : decode code 172 = .ok (.iadd, 1) := by decide +kernel
theorem d_law_173 : decode code 173 = .ok (.iaload, 1) := by decide +kernel
theorem d_law_174 : decode code 174 = .ok (.invokevirtual 21, 3) := by decide +kernel
theorem d_law_177 : decode code 177 = .ok (.if_icmp .eq 515, 3) := by decide +kernel
theorem d_law_180 : decode code 180 = .ok (.iconst 0, 1) := by decide +kernel
theorem d_law_181 : decode code 181 = .ok (.ireturn, 1) := by decide +kernel
theorem d_law_182 : decode code 182 = .ok (.aload_n 1, 1) := by decide +kernel
theorem d_law_183 : decode code 183 = .ok (.invokevirtual 22, 3) := by decide +kernel
theorem d_law_186 : decode code 186 = .ok (.aload_n 2, 1) := by decide +kernel
theorem d_law_187 : decode code 187 = .ok (.invokevirtual 26, 3) := by decide +kernel
theorem d_law_190 : decode code 190 = .ok (.if_icmp .eq 502, 3) := by decide +kernel
theorem d_law_193 : decode code 193 = .ok (.iconst 0, 1) := by decide +kernel
theorem d_law_194 : decode code 194 = .ok (.ireturn, 1) := by decide +kernel
theorem d_law_195 : decode code 195 = .ok (.aload_n 1, 1) := by decide +kernel
theorem d_law_196 : decode code 196 = .ok (.invokevirtual 27, 3) := by decide +kernel
theorem d_law_199 : decode code 199 = .ok (.aload_n 2, 1) := by decide +kernel
theorem d_law_200 : decode code 200 = .ok (.invokevirtual 30, 3) := by decide +kernel
theorem d_law_203 : decode code 203 = .ok (.if_icmp .eq 489, 3) := by decide +kernel
theorem d_law_206 : decode code 206 = .ok (.iconst 0, 1) := by decide +kernel
theorem d_law_207 : decode code 207 = .ok (.ireturn, 1) := by decide +kernel
theorem d_law_208 : decode code 208 = .ok (.aload_n 1, 1) := by decide +kernel
theorem d_law_209 : decode code 209 = .ok (.aload_n 0, 1) := by decide +kernel
theorem d_law_210 : decode code 210 = .ok (.iload_n 3, 1) := by decide +kernel
theorem d_law_211 : decode code 211 = .ok (.iconst 1, 1) := by decide +kernel
theorem d_law_212 : decode code 212 = .ok (.iadd, 1) := by decide +kernel
theorem d_law_213 : decode code 213 = .ok (.iaload, 1) := by decide +kernel
theorem d_law_214 : decode code 214 = .ok (.aload_n 0, 1) := by decide +kernel
theorem d_law_215 : decode code 215 = .ok (.iload_n 3, 1) := by decide +kernel
theorem d_law_216 : decode code 216 = .ok (.iconst 2, 1) := by decide +kernel
theorem d_law_217 : decode code 217 = .ok (.iadd, 1) := by decide +kernel
theorem d_law_218 : decode code 218 = .ok (.iaload, 1) := by decide +kernel
theorem d_law_219 : decode code 219 = .ok (.invokevirtual 31, 3) := by decide +kernel
theorem d_law_222 : decode code 222 = .ok (.aload_n 2, 1) := by decide +kernel
theorem d_law_223 : decode code 223 = .ok (.aload_n 0, 1) := by decide +kernel
theorem d_law_224 : decode code 224 = .ok (.iload_n 3, 1) := by decide +kernel
theorem d_law_225 : decode code 225 = .ok (.iconst 1, 1) := by decide +kernel
theorem d_law_226 : decode code 226 = .ok (.iadd, 1) := by decide +kernel
theorem d_law_227 : decode code 227 = .ok (.iaload, 1) := by decide +kernel
theorem d_law_228 : decode code 228 = .ok (.aload_n 0, 1) := by decide +kernel
theorem d_law_229 : decode code 229 = .ok (.iload_n 3, 1) := by decide +kernel
theorem d_law_230 : decode code 230 = .ok (.iconst 2, 1) := by decide +kernel
theorem d_law_231 : decode code 231 = .ok (.iadd, 1) := by decide +kernel
theorem d_law_232 : decode code 232 = .ok (.iaload, 1) := by decide +kernel
theorem d_law_233 : decode code 233 = .ok (.invokevirtual 35, 3) := by decide +kernel
theorem d_law_236 : decode code 236 = .ok (.if_icmp .eq 456, 3) := by decide +kernel
theorem d_law_239 : decode code 239 = .ok (.iconst 0, 1) := by decide +kernel
theorem d_law_240 : decode code 240 = .ok (.ireturn, 1) := by decide +kernel
theorem d_law_241 : decode code 241 = .ok (.aload_n 1, 1) := by decide +kernel
theorem d_law_242 : decode code 242 = .ok (.aload_n 0, 1) := by decide +kernel
theorem d_law_243 : decode code 243 = .ok (.iload_n 3, 1) := by decide +kernel
theorem d_law_244 : decode code 244 = .ok (.iconst 1, 1) := by decide +kernel
theorem d_law_245 : decode code 245 = .ok (.iadd, 1) := by decide +kernel
theorem d_law_246 : decode code 246 = .ok (.iaload, 1) := by decide +kernel
theorem d_law_247 : decode code 247 = .ok (.invokevirtual 36, 3) := by decide +kernel
theorem d_law_250 : decode code 250 = .ok (.aload_n 2, 1) := by decide +kernel
theorem d_law_251 : decode code 251 = .ok (.aload_n 0, 1) := by decide +kernel
theorem d_law_252 : decode code 252 = .ok (.iload_n 3, 1) := by decide +kernel
theorem d_law_253 : decode code 253 = .ok (.iconst 1, 1) := by decide +kernel
theorem d_law_254 : decode code 254 = .ok (.iadd, 1) := by decide +kernel
theorem d_law_255 : decode code 255 = .ok (.iaload, 1) := by decide +kernel
theorem d_law_256 : decode code 256 = .ok (.invokevirtual 39, 3) := by decide +kernel
theorem d_law_259 : decode code 259 = .ok (.if_icmp .eq 433, 3) := by decide +kernel
theorem d_law_262 : decode code 262 = .ok (.iconst 0, 1) := by decide +kernel
theorem d_law_263 : decode code 263 = .ok (.ireturn, 1) := by decide +kernel
theorem d_law_264 : decode code 264 = .ok (.aload_n 1, 1) := by decide +kernel
theorem d_law_265 : decode code 265 = .ok (.aload_n 0, 1) := by decide +kernel
theorem d_law_266 : decode code 266 = .ok (.iload_n 3, 1) := by decide +kernel
theorem d_law_267 : decode code 267 = .ok (.iconst 1, 1) := by decide +kernel
theorem d_law_268 : decode code 268 = .ok (.iadd, 1) := by decide +kernel
theorem d_law_269 : decode code 269 = .ok (.iaload, 1) := by decide +kernel
theorem d_law_270 : decode code 270 = .ok (.invokevirtual 40, 3) := by decide +kernel
theorem d_law_273 : decode code 273 = .ok (.aload_n 2, 1) := by decide +kernel
theorem d_law_274 : decode code 274 = .ok (.aload_n 0, 1) := by decide +kernel
theorem d_law_275 : decode code 275 = .ok (.iload_n 3, 1) := by decide +kernel
theorem d_law_276 : decode code 276 = .ok (.iconst 1, 1) := by decide +kernel
theorem d_law_277 : decode code 277 = .ok (.iadd, 1) := by decide +kernel
theorem d_law_278 : decode code 278 = .ok (.iaload, 1) := by decide +kernel
theorem d_law_279 : decode code 279 = .ok (.invokevirtual 43, 3) := by decide +kernel
theorem d_law_282 : decode code 282 = .ok (.if_icmp .eq 410, 3) := by decide +kernel
theorem d_law_285 : decode code 285 = .ok (.iconst 0, 1) := by decide +kernel
theorem d_law_286 : decode code 286 = .ok (.ireturn, 1) := by decide +kernel
theorem d_law_287 : decode code 287 = .ok (.aload_n 1, 1) := by decide +kernel
theorem d_law_288 : decode code 288 = .ok (.aload_n 0, 1) := by decide +kernel
theorem d_law_289 : decode code 289 = .ok (.iload_n 3, 1) := by decide +kernel
theorem d_law_290 : decode code 290 = .ok (.iconst 1, 1) := by decide +kernel
theorem d_law_291 : decode code 291 = .ok (.iadd, 1) := by decide +kernel
theorem d_law_292 : decode code 292 = .ok (.iaload, 1) := by decide +kernel
theorem d_law_293 : decode code 293 = .ok (.aload_n 0, 1) := by decide +kernel
theorem d_law_294 : decode code 294 = .ok (.iload_n 3, 1) := by decide +kernel
theorem d_law_295 : decode code 295 = .ok (.iconst 2, 1) := by decide +kernel
theorem d_law_296 : decode code 296 = .ok (.iadd, 1) := by decide +kernel
theorem d_law_297 : decode code 297 = .ok (.iaload, 1) := by decide +kernel
theorem d_law_298 : decode code 298 = .ok (.invokevirtual 44, 3) := by decide +kernel
theorem d_law_301 : decode code 301 = .ok (.aload_n 2, 1) := by decide +kernel
theorem d_law_302 : decode code 302 = .ok (.aload_n 0, 1) := by decide +kernel
theorem d_law_303 : decode code 303 = .ok (.iload_n 3, 1) := by decide +kernel
theorem d_law_304 : decode code 304 = .ok (.iconst 1, 1) := by decide +kernel
theorem d_law_305 : decode code 305 = .ok (.iadd, 1) := by decide +kernel
theorem d_law_306 : decode code 306 = .ok (.iaload, 1) := by decide +kernel
theorem d_law_307 : decode code 307 = .ok (.aload_n 0, 1) := by decide +kernel
theorem d_law_308 : decode code 308 = .ok (.iload_n 3, 1) := by decide +kernel
theorem d_law_309 : decode code 309 = .ok (.iconst 2, 1) := by decide +kernel
theorem d_law_310 : decode code 310 = .ok (.iadd, 1) := by decide +kernel
theorem d_law_311 : decode code 311 = .ok (.iaload, 1) := by decide +kernel
theorem d_law_312 : decode code 312 = .ok (.invokevirtual 47, 3) := by decide +kernel
theorem d_law_315 : decode code 315 = .ok (.if_icmp .eq 377, 3) := by decide +kernel
theorem d_law_318 : decode code 318 = .ok (.iconst 0, 1) := by decide +kernel
theorem d_law_319 : decode code 319 = .ok (.ireturn, 1) := by decide +kernel
theorem d_law_320 : decode code 320 = .ok (.aload_n 1, 1) := by decide +kernel
theorem d_law_321 : decode code 321 = .ok (.invokevirtual 48, 3) := by decide +kernel
theorem d_law_324 : decode code 324 = .ok (.aload_n 2, 1) := by decide +kernel
theorem d_law_325 : decode code 325 = .ok (.invokevirtual 51, 3) := by decide +kernel
theorem d_law_328 : decode code 328 = .ok (.if_icmp .eq 364, 3) := by decide +kernel
theorem d_law_331 : decode code 331 = .ok (.iconst 0, 1) := by decide +kernel
theorem d_law_332 : decode code 332 = .ok (.ireturn, 1) := by decide +kernel
theorem d_law_333 : decode code 333 = .ok (.aload_n 1, 1) := by decide +kernel
theorem d_law_334 : decode code 334 = .ok (.aload_n 0, 1) := by decide +kernel
theorem d_law_335 : decode code 335 = .ok (.iload_n 3, 1) := by decide +kernel
theorem d_law_336 : decode code 336 = .ok (.iconst 1, 1) := by decide +kernel
theorem d_law_337 : decode code 337 = .ok (.iadd, 1) := by decide +kernel
theorem d_law_338 : decode code 338 = .ok (.iaload, 1) := by decide +kernel
theorem d_law_339 : decode code 339 = .ok (.invokevirtual 52, 3) := by decide +kernel
theorem d_law_342 : decode code 342 = .ok (.aload_n 2, 1) := by decide +kernel
theorem d_law_343 : decode code 343 = .ok (.aload_n 0, 1) := by decide +kernel
theorem d_law_344 : decode code 344 = .ok (.iload_n 3, 1) := by decide +kernel
theorem d_law_345 : decode code 345 = .ok (.iconst 1, 1) := by decide +kernel
theorem d_law_346 : decode code 346 = .ok (.iadd, 1) := by decide +kernel
theorem d_law_347 : decode code 347 = .ok (.iaload, 1) := by decide +kernel
theorem d_law_348 : decode code 348 = .ok (.invokevirtual 55, 3) := by decide +kernel
theorem d_law_351 : decode code 351 = .ok (.if_icmp .eq 341, 3) := by decide +kernel
theorem d_law_354 : decode code 354 = .ok (.iconst 0, 1) := by decide +kernel
theorem d_law_355 : decode code 355 = .ok (.ireturn, 1) := by decide +kernel
theorem d_law_356 : decode code 356 = .ok (.aload_n 1, 1) := by decide +kernel
theorem d_law_357 : decode code 357 = .ok (.invokevirtual 56, 3) := by decide +kernel
theorem d_law_360 : decode code 360 = .ok (.aload_n 2, 1) := by decide +kernel
theorem d_law_361 : decode code 361 = .ok (.invokevirtual 59, 3) := by decide +kernel
theorem d_law_364 : decode code 364 = .ok (.if_icmp .eq 328, 3) := by decide +kernel
theorem d_law_367 : decode code 367 = .ok (.iconst 0, 1) := by decide +kernel
theorem d_law_368 : decode code 368 = .ok (.ireturn, 1) := by decide +kernel
theorem d_law_369 : decode code 369 = .ok (.aload_n 1, 1) := by decide +kernel
theorem d_law_370 : decode code 370 = .ok (.aload_n 0, 1) := by decide +kernel
theorem d_law_371 : decode code 371 = .ok (.iload_n 3, 1) := by decide +kernel
theorem d_law_372 : decode code 372 = .ok (.iconst 1, 1) := by decide +kernel
theorem d_law_373 : decode code 373 = .ok (.iadd, 1) := by decide +kernel
theorem d_law_374 : decode code 374 = .ok (.iaload, 1) := by decide +kernel
theorem d_law_375 : decode code 375 = .ok (.invokevirtual 60, 3) := by decide +kernel
theorem d_law_378 : decode code 378 = .ok (.aload_n 2, 1) := by decide +kernel
theorem d_law_379 : decode code 379 = .ok (.aload_n 0, 1) := by decide +kernel
theorem d_law_380 : decode code 380 = .ok (.iload_n 3, 1) := by decide +kernel
theorem d_law_381 : decode code 381 = .ok (.iconst 1, 1) := by decide +kernel
theorem d_law_382 : decode code 382 = .ok (.iadd, 1) := by decide +kernel
theorem d_law_383 : decode code 383 = .ok (.iaload, 1) := by decide +kernel
theorem d_law_384 : decode code 384 = .ok (.invokevirtual 63, 3) := by decide +kernel
theorem d_law_387 : decode code 387 = .ok (.if_icmp .eq 305, 3) := by decide +kernel
theorem d_law_390 : decode code 390 = .ok (.iconst 0, 1) := by decide +kernel
theorem d_law_391 : decode code 391 = .ok (.ireturn, 1) := by decide +kernel
theorem d_law_392 : decode code 392 = .ok (.aload_n 1, 1) := by decide +kernel
theorem d_law_393 : decode code 393 = .ok (.aload_n 0, 1) := by decide +kernel
theorem d_law_394 : decode code 394 = .ok (.iload_n 3, 1) := by decide +kernel
theorem d_law_395 : decode code 395 = .ok (.iconst 1, 1) := by decide +kernel
theorem d_law_396 : decode code 396 = .ok (.iadd, 1) := by decide +kernel
theorem d_law_397 : decode code 397 = .ok (.iaload, 1) := by decide +kernel
theorem d_law_398 : decode code 398 = .ok (.aload_n 0, 1) := by decide +kernel
theorem d_law_399 : decode code 399 = .ok (.iload_n 3, 1) := by decide +kernel
theorem d_law_400 : decode code 400 = .ok (.iconst 2, 1) := by decide +kernel
theorem d_law_401 : decode code 401 = .ok (.iadd, 1) := by decide +kernel
theorem d_law_402 : decode code 402 = .ok (.iaload, 1) := by decide +kernel
theorem d_law_403 : decode code 403 = .ok (.aload_n 0, 1) := by decide +kernel
theorem d_law_404 : decode code 404 = .ok (.iload_n 3, 1) := by decide +kernel
theorem d_law_405 : decode code 405 = .ok (.iconst 3, 1) := by decide +kernel
theorem d_law_406 : decode code 406 = .ok (.iadd, 1) := by decide +kernel
theorem d_law_407 : decode code 407 = .ok (.iaload, 1) := by decide +kernel
theorem d_law_408 : decode code 408 = .ok (.invokevirtual 64, 3) := by decide +kernel
theorem d_law_411 : decode code 411 = .ok (.aload_n 2, 1) := by decide +kernel
theorem d_law_412 : decode code 412 = .ok (.aload_n 0, 1) := by decide +kernel
theorem d_law_413 : decode code 413 = .ok (.iload_n 3, 1) := by decide +kernel
theorem d_law_414 : decode code 414 = .ok (.iconst 1, 1) := by decide +kernel
theorem d_law_415 : decode code 415 = .ok (.iadd, 1) := by decide +kernel
theorem d_law_416 : decode code 416 = .ok (.iaload, 1) := by decide +kernel
theorem d_law_417 : decode code 417 = .ok (.aload_n 0, 1) := by decide +kernel
theorem d_law_418 : decode code 418 = .ok (.iload_n 3, 1) := by decide +kernel
theorem d_law_419 : decode code 419 = .ok (.iconst 2, 1) := by decide +kernel
theorem d_law_420 : decode code 420 = .ok (.iadd, 1) := by decide +kernel
theorem d_law_421 : decode code 421 = .ok (.iaload, 1) := by decide +kernel
theorem d_law_422 : decode code 422 = .ok (.aload_n 0, 1) := by decide +kernel
theorem d_law_423 : decode code 423 = .ok (.iload_n 3, 1) := by decide +kernel
theorem d_law_424 : decode code 424 = .ok (.iconst 3, 1) := by decide +kernel
theorem d_law_425 : decode code 425 = .ok (.iadd, 1) := by decide +kernel
theorem d_law_426 : decode code 426 = .ok (.iaload, 1) := by decide +kernel
theorem d_law_427 : decode code 427 = .ok (.invokevirtual 68, 3) := by decide +kernel
theorem d_law_430 : decode code 430 = .ok (.if_icmp .eq 262, 3) := by decide +kernel
theorem d_law_433 : decode code 433 = .ok (.iconst 0, 1) := by decide +kernel
theorem d_law_434 : decode code 434 = .ok (.ireturn, 1) := by decide +kernel
theorem d_law_435 : decode code 435 = .ok (.aload_n 1, 1) := by decide +kernel
theorem d_law_436 : decode code 436 = .ok (.aload_n 0, 1) := by decide +kernel
theorem d_law_437 : decode code 437 = .ok (.iload_n 3, 1) := by decide +kernel
theorem d_law_438 : decode code 438 = .ok (.iconst 1, 1) := by decide +kernel
theorem d_law_439 : decode code 439 = .ok (.iadd, 1) := by decide +kernel
theorem d_law_440 : decode code 440 = .ok (.iaload, 1) := by decide +kernel
theorem d_law_441 : decode code 441 = .ok (.aload_n 0, 1) := by decide +kernel
theorem d_law_442 : decode code 442 = .ok (.iload_n 3, 1) := by decide +kernel
theorem d_law_443 : decode code 443 = .ok (.iconst 2, 1) := by decide +kernel
theorem d_law_444 : decode code 444 = .ok (.iadd, 1) := by decide +kernel
theorem d_law_445 : decode code 445 = .ok (.iaload, 1) := by decide +kernel
theorem d_law_446 : decode code 446 = .ok (.invokevirtual 69, 3) := by decide +kernel
theorem d_law_449 : decode code 449 = .ok (.aload_n 2, 1) := by decide +kernel
theorem d_law_450 : decode code 450 = .ok (.aload_n 0, 1) := by decide +kernel
theorem d_law_451 : decode code 451 = .ok (.iload_n 3, 1) := by decide +kernel
theorem d_law_452 : decode code 452 = .ok (.iconst 1, 1) := by decide +kernel
theorem d_law_453 : decode code 453 = .ok (.iadd, 1) := by decide +kernel
theorem d_law_454 : decode code 454 = .ok (.iaload, 1) := by decide +kernel
theorem d_law_455 : decode code 455 = .ok (.aload_n 0, 1) := by decide +kernel
theorem d_law_456 : decode code 456 = .ok (.iload_n 3, 1) := by decide +kernel
theorem d_law_457 : decode code 457 = .ok (.iconst 2, 1) := by decide +kernel
theorem d_law_458 : decode code 458 = .ok (.iadd, 1) := by decide +kernel
theorem d_law_459 : decode code 459 = .ok (.iaload, 1) := by decide +kernel
theorem d_law_460 : decode code 460 = .ok (.invokevirtual 72, 3) := by decide +kernel
theorem d_law_463 : decode code 463 = .ok (.if_icmp .eq 229, 3) := by decide +kernel
theorem d_law_466 : decode code 466 = .ok (.iconst 0, 1) := by decide +kernel
theorem d_law_467 : decode code 467 = .ok (.ireturn, 1) := by decide +kernel
theorem d_law_468 : decode code 468 = .ok (.aload_n 1, 1) := by decide +kernel
theorem d_law_469 : decode code 469 = .ok (.aload_n 0, 1) := by decide +kernel
theorem d_law_470 : decode code 470 = .ok (.iload_n 3, 1) := by decide +kernel
theorem d_law_471 : decode code 471 = .ok (.iconst 1, 1) := by decide +kernel
theorem d_law_472 : decode code 472 = .ok (.iadd, 1) := by decide +kernel
theorem d_law_473 : decode code 473 = .ok (.iaload, 1) := by decide +kernel
theorem d_law_474 : decode code 474 = .ok (.invokevirtual 73, 3) := by decide +kernel
theorem d_law_477 : decode code 477 = .ok (.aload_n 2, 1) := by decide +kernel
theorem d_law_478 : decode code 478 = .ok (.aload_n 0, 1) := by decide +kernel
theorem d_law_479 : decode code 479 = .ok (.iload_n 3, 1) := by decide +kernel
theorem d_law_480 : decode code 480 = .ok (.iconst 1, 1) := by decide +kernel
theorem d_law_481 : decode code 481 = .ok (.iadd, 1) := by decide +kernel
theorem d_law_482 : decode code 482 = .ok (.iaload, 1) := by decide +kernel
theorem d_law_483 : decode code 483 = .ok (.invokevirtual 76, 3) := by decide +kernel
theorem d_law_486 : decode code 486 = .ok (.if_icmp .eq 206, 3) := by decide +kernel
theorem d_law_489 : decode code 489 = .ok (.iconst 0, 1) := by decide +kernel
theorem d_law_490 : decode code 490 = .ok (.ireturn, 1) := by decide +kernel
theorem d_law_491 : decode code 491 = .ok (.aload_n 1, 1) := by decide +kernel
theorem d_law_492 : decode code 492 = .ok (.aload_n 0, 1) := by decide +kernel
theorem d_law_493 : decode code 493 = .ok (.iload_n 3, 1) := by decide +kernel
theorem d_law_494 : decode code 494 = .ok (.iconst 1, 1) := by decide +kernel
theorem d_law_495 : decode code 495 = .ok (.iadd, 1) := by decide +kernel
theorem d_law_496 : decode code 496 = .ok (.iaload, 1) := by decide +kernel
theorem d_law_497 : decode code 497 = .ok (.aload_n 0, 1) := by decide +kernel
theorem d_law_498 : decode code 498 = .ok (.iload_n 3, 1) := by decide +kernel
theorem d_law_499 : decode code 499 = .ok (.iconst 2, 1) := by decide +kernel
theorem d_law_500 : decode code 500 = .ok (.iadd, 1) := by decide +kernel
theorem d_law_501 : decode code 501 = .ok (.iaload, 1) := by decide +kernel
theorem d_law_502 : decode code 502 = .ok (.invokevirtual 77, 3) := by decide +kernel
theorem d_law_505 : decode code 505 = .ok (.aload_n 2, 1) := by decide +kernel
theorem d_law_506 : decode code 506 = .ok (.aload_n 0, 1) := by decide +kernel
theorem d_law_507 : decode code 507 = .ok (.iload_n 3, 1) := by decide +kernel
theorem d_law_508 : decode code 508 = .ok (.iconst 1, 1) := by decide +kernel
theorem d_law_509 : decode code 509 = .ok (.iadd, 1) := by decide +kernel
theorem d_law_510 : decode code 510 = .ok (.iaload, 1) := by decide +kernel
theorem d_law_511 : decode code 511 = .ok (.aload_n 0, 1) := by decide +kernel
theorem d_law_512 : decode code 512 = .ok (.iload_n 3, 1) := by decide +kernel
theorem d_law_513 : decode code 513 = .ok (.iconst 2, 1) := by decide +kernel
theorem d_law_514 : decode code 514 = .ok (.iadd, 1) := by decide +kernel
theorem d_law_515 : decode code 515 = .ok (.iaload, 1) := by decide +kernel
theorem d_law_516 : decode code 516 = .ok (.invokevirtual 80, 3) := by decide +kernel
theorem d_law_519 : decode code 519 = .ok (.if_icmp .eq 173, 3) := by decide +kernel
theorem d_law_522 : decode code 522 = .ok (.iconst 0, 1) := by decide +kernel
theorem d_law_523 : decode code 523 = .ok (.ireturn, 1) := by decide +kernel
theorem d_law_524 : decode code 524 = .ok (.aload_n 1, 1) := by decide +kernel
theorem d_law_525 : decode code 525 = .ok (.aload_n 0, 1) := by decide +kernel
theorem d_law_526 : decode code 526 = .ok (.iload_n 3, 1) := by decide +kernel
theorem d_law_527 : decode code 527 = .ok (.iconst 1, 1) := by decide +kernel
theorem d_law_528 : decode code 528 = .ok (.iadd, 1) := by decide +kernel
theorem d_law_529 : decode code 529 = .ok (.iaload, 1) := by decide +kernel
theorem d_law_530 : decode code 530 = .ok (.aload_n 0, 1) := by decide +kernel
theorem d_law_531 : decode code 531 = .ok (.iload_n 3, 1) := by decide +kernel
theorem d_law_532 : decode code 532 = .ok (.iconst 2, 1) := by decide +kernel
theorem d_law_533 : decode code 533 = .ok (.iadd, 1) := by decide +kernel
theorem d_law_534 : decode code 534 = .ok (.iaload, 1) := by decide +kernel
theorem d_law_535 : decode code 535 = .ok (.invokevirtual 81, 3) := by decide +kernel
theorem d_law_538 : decode code 538 = .ok (.aload_n 2, 1) := by decide +kernel
theorem d_law_539 : decode code 539 = .ok (.aload_n 0, 1) := by decide +kernel
theorem d_law_540 : decode code 540 = .ok (.iload_n 3, 1) := by decide +kernel
theorem d_law_541 : decode code 541 = .ok (.iconst 1, 1) := by decide +kernel
theorem d_law_542 : decode code 542 = .ok (.iadd, 1) := by decide +kernel
theorem d_law_543 : decode code 543 = .ok (.iaload, 1) := by decide +kernel
theorem d_law_544 : decode code 544 = .ok (.aload_n 0, 1) := by decide +kernel
theorem d_law_545 : decode code 545 = .ok (.iload_n 3, 1) := by decide +kernel
theorem d_law_546 : decode code 546 = .ok (.iconst 2, 1) := by decide +kernel
theorem d_law_547 : decode code 547 = .ok (.iadd, 1) := by decide +kernel
theorem d_law_548 : decode code 548 = .ok (.iaload, 1) := by decide +kernel
theorem d_law_549 : decode code 549 = .ok (.invokevirtual 84, 3) := by decide +kernel
theorem d_law_552 : decode code 552 = .ok (.if_icmp .eq 140, 3) := by decide +kernel
theorem d_law_555 : decode code 555 = .ok (.iconst 0, 1) := by decide +kernel
theorem d_law_556 : decode code 556 = .ok (.ireturn, 1) := by decide +kernel
theorem d_law_557 : decode code 557 = .ok (.aload_n 1, 1) := by decide +kernel
theorem d_law_558 : decode code 558 = .ok (.invokevirtual 85, 3) := by decide +kernel
theorem d_law_561 : decode code 561 = .ok (.aload_n 2, 1) := by decide +kernel
theorem d_law_562 : decode code 562 = .ok (.invokevirtual 88, 3) := by decide +kernel
theorem d_law_565 : decode code 565 = .ok (.if_icmp .eq 127, 3) := by decide +kernel
theorem d_law_568 : decode code 568 = .ok (.iconst 0, 1) := by decide +kernel
theorem d_law_569 : decode code 569 = .ok (.ireturn, 1) := by decide +kernel
theorem d_law_570 : decode code 570 = .ok (.aload_n 1, 1) := by decide +kernel
theorem d_law_571 : decode code 571 = .ok (.aload_n 0, 1) := by decide +kernel
theorem d_law_572 : decode code 572 = .ok (.iload_n 3, 1) := by decide +kernel
theorem d_law_573 : decode code 573 = .ok (.iconst 1, 1) := by decide +kernel
theorem d_law_574 : decode code 574 = .ok (.iadd, 1) := by decide +kernel
theorem d_law_575 : decode code 575 = .ok (.iaload, 1) := by decide +kernel
theorem d_law_576 : decode code 576 = .ok (.invokevirtual 89, 3) := by decide +kernel
theorem d_law_579 : decode code 579 = .ok (.aload_n 2, 1) := by decide +kernel
theorem d_law_580 : decode code 580 = .ok (.aload_n 0, 1) := by decide +kernel
theorem d_law_581 : decode code 581 = .ok (.iload_n 3, 1) := by decide +kernel
theorem d_law_582 : decode code 582 = .ok (.iconst 1, 1) := by decide +kernel
theorem d_law_583 : decode code 583 = .ok (.iadd, 1) := by decide +kernel
theorem d_law_584 : decode code 584 = .ok (.iaload, 1) := by decide +kernel
theorem d_law_585 : decode code 585 = .ok (.invokevirtual 92, 3) := by decide +kernel
theorem d_law_588 : decode code 588 = .ok (.if_icmp .eq 104, 3) := by decide +kernel
theorem d_law_591 : decode code 591 = .ok (.iconst 0, 1) := by decide +kernel
theorem d_law_592 : decode code 592 = .ok (.ireturn, 1) := by decide +kernel
theorem d_law_593 : decode code 593 = .ok (.aload_n 1, 1) := by decide +kernel
theorem d_law_594 : decode code 594 = .ok (.aload_n 0, 1) := by decide +kernel
theorem d_law_595 : decode code 595 = .ok (.iload_n 3, 1) := by decide +kernel
theorem d_law_596 : decode code 596 = .ok (.iconst 1, 1) := by decide +kernel
theorem d_law_597 : decode code 597 = .ok (.iadd, 1) := by decide +kernel
theorem d_law_598 : decode code 598 = .ok (.iaload, 1) := by decide +kernel
theorem d_law_599 : decode code 599 = .ok (.aload_n 0, 1) := by decide +kernel
theorem d_law_600 : decode code 600 = .ok (.iload_n 3, 1) := by decide +kernel
theorem d_law_601 : decode code 601 = .ok (.iconst 2, 1) := by decide +kernel
theorem d_law_602 : decode code 602 = .ok (.iadd, 1) := by decide +kernel
theorem d_law_603 : decode code 603 = .ok (.iaload, 1) := by decide +kernel
theorem d_law_604 : decode code 604 = .ok (.invokevirtual 93, 3) := by decide +kernel
theorem d_law_607 : decode code 607 = .ok (.aload_n 2, 1) := by decide +kernel
theorem d_law_608 : decode code 608 = .ok (.aload_n 0, 1) := by decide +kernel
theorem d_law_609 : decode code 609 = .ok (.iload_n 3, 1) := by decide +kernel
theorem d_law_610 : decode code 610 = .ok (.iconst 1, 1) := by decide +kernel
theorem d_law_611 : decode code 611 = .ok (.iadd, 1) := by decide +kernel
theorem d_law_612 : decode code 612 = .ok (.iaload, 1) := by decide +kernel
theorem d_law_613 : decode code 613 = .ok (.aload_n 0, 1) := by decide +kernel
theorem d_law_614 : decode code 614 = .ok (.iload_n 3, 1) := by decide +kernel
theorem d_law_615 : decode code 615 = .ok (.iconst 2, 1) := by decide +kernel
theorem d_law_616 : decode code 616 = .ok (.iadd, 1) := by decide +kernel
theorem d_law_617 : decode code 617 = .ok (.iaload, 1) := by decide +kernel
theorem d_law_618 : decode code 618 = .ok (.invokevirtual 96, 3) := by decide +kernel
theorem d_law_621 : decode code 621 = .ok (.if_icmp .eq 71, 3) := by decide +kernel
theorem d_law_624 : decode code 624 = .ok (.iconst 0, 1) := by decide +kernel
theorem d_law_625 : decode code 625 = .ok (.ireturn, 1) := by decide +kernel
theorem d_law_626 : decode code 626 = .ok (.aload_n 1, 1) := by decide +kernel
theorem d_law_627 : decode code 627 = .ok (.aload_n 0, 1) := by decide +kernel
theorem d_law_628 : decode code 628 = .ok (.iload_n 3, 1) := by decide +kernel
theorem d_law_629 : decode code 629 = .ok (.iconst 1, 1) := by decide +kernel
theorem d_law_630 : decode code 630 = .ok (.iadd, 1) := by decide +kernel
theorem d_law_631 : decode code 631 = .ok (.iaload, 1) := by decide +kernel
theorem d_law_632 : decode code 632 = .ok (.aload_n 0, 1) := by decide +kernel
theorem d_law_633 : decode code 633 = .ok (.iload_n 3, 1) := by decide +kernel
theorem d_law_634 : decode code 634 = .ok (.iconst 2, 1) := by decide +kernel
theorem d_law_635 : decode code 635 = .ok (.iadd, 1) := by decide +kernel
theorem d_law_636 : decode code 636 = .ok (.iaload, 1) := by decide +kernel
theorem d_law_637 : decode code 637 = .ok (.aload_n 0, 1) := by decide +kernel
theorem d_law_638 : decode code 638 = .ok (.iload_n 3, 1) := by decide +kernel
theorem d_law_639 : decode code 639 = .ok (.iconst 3, 1) := by decide +kernel
theorem d_law_640 : decode code 640 = .ok (.iadd, 1) := by decide +kernel
theorem d_law_641 : decode code 641 = .ok (.iaload, 1) := by decide +kernel
theorem d_law_642 : decode code 642 = .ok (.invokevirtual 97, 3) := by decide +kernel
theorem d_law_645 : decode code 645 = .ok (.aload_n 2, 1) := by decide +kernel
theorem d_law_646 : decode code 646 = .ok (.aload_n 0, 1) := by decide +kernel
theorem d_law_647 : decode code 647 = .ok (.iload_n 3, 1) := by decide +kernel
theorem d_law_648 : decode code 648 = .ok (.iconst 1, 1) := by decide +kernel
theorem d_law_649 : decode code 649 = .ok (.iadd, 1) := by decide +kernel
theorem d_law_650 : decode code 650 = .ok (.iaload, 1) := by decide +kernel
theorem d_law_651 : decode code 651 = .ok (.aload_n 0, 1) := by decide +kernel
theorem d_law_652 : decode code 652 = .ok (.iload_n 3, 1) := by decide +kernel
theorem d_law_653 : decode code 653 = .ok (.iconst 2, 1) := by decide +kernel
theorem d_law_654 : decode code 654 = .ok (.iadd, 1) := by decide +kernel
theorem d_law_655 : decode code 655 = .ok (.iaload, 1) := by decide +kernel
theorem d_law_656 : decode code 656 = .ok (.aload_n 0, 1) := by decide +kernel
theorem d_law_657 : decode code 657 = .ok (.iload_n 3, 1) := by decide +kernel
theorem d_law_658 : decode code 658 = .ok (.iconst 3, 1) := by decide +kernel
theorem d_law_659 : decode code 659 = .ok (.iadd, 1) := by decide +kernel
theorem d_law_660 : decode code 660 = .ok (.iaload, 1) := by decide +kernel
theorem d_law_661 : decode code 661 = .ok (.invokevirtual 100, 3) := by decide +kernel
theorem d_law_664 : decode code 664 = .ok (.if_icmp .eq 28, 3) := by decide +kernel
theorem d_law_667 : decode code 667 = .ok (.iconst 0, 1) := by decide +kernel
theorem d_law_668 : decode code 668 = .ok (.ireturn, 1) := by decide +kernel
theorem d_law_669 : decode code 669 = .ok (.aload_n 1, 1) := by decide +kernel
theorem d_law_670 : decode code 670 = .ok (.aload_n 0, 1) := by decide +kernel
theorem d_law_671 : decode code 671 = .ok (.iload_n 3, 1) := by decide +kernel
theorem d_law_672 : decode code 672 = .ok (.iconst 1, 1) := by decide +kernel
theorem d_law_673 : decode code 673 = .ok (.iadd, 1) := by decide +kernel
theorem d_law_674 : decode code 674 = .ok (.iaload, 1) := by decide +kernel
theorem d_law_675 : decode code 675 = .ok (.invokevirtual 101, 3) := by decide +kernel
theorem d_law_678 : decode code 678 = .ok (.aload_n 2, 1) := by decide +kernel
theorem d_law_679 : decode code 679 = .ok (.aload_n 0, 1) := by decide +kernel
theorem d_law_680 : decode code 680 = .ok (.iload_n 3, 1) := by decide +kernel
theorem d_law_681 : decode code 681 = .ok (.iconst 1, 1) := by decide +kernel
theorem d_law_682 : decode code 682 = .ok (.iadd, 1) := by decide +kernel
theorem d_law_683 : decode code 683 = .ok (.iaload, 1) := by decide +kernel
theorem d_law_684 : decode code 684 = .ok (.invokevirtual 104, 3) := by decide +kernel
theorem d_law_687 : decode code 687 = .ok (.if_icmp .eq 5, 3) := by decide +kernel
theorem d_law_690 : decode code 690 = .ok (.iconst 0, 1) := by decide +kernel
theorem d_law_691 : decode code 691 = .ok (.ireturn, 1) := by decide +kernel
theorem d_law_692 : decode code 692 = .ok (.iinc 3 4, 3) := by decide +kernel
theorem d_law_695 : decode code 695 = .ok (.goto (-677), 3) := by decide +kernel
theorem d_law_698 : decode code 698 = .ok (.iconst 1, 1) := by decide +kernel
theorem d_law_699 : decode code 699 = .ok (.ireturn, 1) := by decide +kernel
set_option maxHeartbeats 40000000 in
set_option maxRecDepth 100000 in
theorem x_law_L18 {p : Program} {e : Env} {s : State} {m : MethodId} {below : List Frame} {meth : Method} {c : Code} {l : Launch} {dC : Nat → ClassId} {dI : Nat → Nat → Nat} {cA : ClassId} {ad : Nat → Nat} {b L : Nat} {xs : Nat → Int32} (C0 : q_C p s m #[Value.ref b] meth c code 4 ret "PlanClausesLaw" dC dI cA) (hX : va_X b L xs s s.heap) (hbl : b < s.heap.size) :
    ∀ (nn : Nat) (x3 : Int32) (fo : tForm) (fr : tRows) (lr : tRows) (mo : tMods) (se : tSear) (sk : tClash) (sw : (Nat → Int32)) (tr : tTrail) (ta : tTask) (tw : tWays) (co : tCode) (ct : tTold) (ma : mForm) (mn : mKnow) (ms : mSat) (mb : mBack) (mt : mTask) (mw : (Nat → Int32)) (mg : mGo) (md : mCode) (H : Heap) (locs : List Loc) (ls : Array Slot), w_law_L18 L xs nn x3 fo fr lr mo se sk sw tr ta tw co ct ma mn ms mb mt mw mg md → lv_has ls 4 [(0, .ref b), (1, .ref (ad 0)), (2, .ref (ad 28)), (3, .int x3)] → q_H dC dI (fun q : Nat => s.heap.size ≤ q) s.heap H locs ([c_PC ad, c_FO ad cA fo, c_FR ad cA fr, c_LR ad cA lr, c_MO ad cA mo, c_SE ad cA se sk sw, c_TR ad cA tr, c_TA ad cA ta tw, c_CO ad cA co ct, c_RE ad cA ma mn ms mb mt mw mg md].flatten) → W p l e room_1 s m #[Value.ref b] below meth c H locs 44 14017 (lw_Z below #[Value.ref b] s) (F0 m 18 ls []) := by
  obtain ⟨hx, hb, -, -, -, -, hr, hlocks⟩ := id C0
  have hA : ∀ q, s.heap.size ≤ q → (fun q : Nat => s.heap.size ≤ q) q := fun _ h => h
  have hbA : ¬ (fun q : Nat => s.heap.size ≤ q) b := Nat.not_le.mpr hbl
  intro nn
  induction nn with
  | zero =>
    intro x3 fo fr lr mo se sk sw tr ta tw co ct ma mn ms mb mt mw mg md H locs ls h
    exact (show False from h).elim
  | succ nn ih =>
    intro x3 fo fr lr mo se sk sw tr ta tw co ct ma mn ms mb mt mw mg md H locs ls h hl hH
    rw [w_law_L18] at h
    refine lv_iload_n hx hb d_law_18 rfl (lv_at hl 3 rfl) ?_
    refine lv_aload_n hx hb d_law_19 rfl (lv_at hl 0 rfl) ?_
    refine va_slen hx hb hX hbl hbA hH.2.2 d_law_20 ?_
    refine lv_iconst (v := 4) hx hb d_law_21 (by decide) ?_
    refine lv_isub hx hb d_law_22 ?_
    refine lv_icmp_gt (tgt := 698) hx hb d_law_23 (by decide) (fun c => ?_) (fun c => ?_)
    · have h := h.1 c
      refine lv_iconst (v := 1) hx hb d_law_698 (by decide) ?_
      refine va_forget (fun q hq => hH.2.2.2.2 q hq) ?_
      refine W.widen (k := 600000) (n := 7302250) (Nat.le_of_ble_eq_true rfl) (Nat.le_of_ble_eq_true rfl) ?_
      exact lw_ret hx hb hr hlocks d_law_699
    · have h := h.2 c
      refine lv_aload_n hx hb d_law_26 rfl (lv_at hl 0 rfl) ?_
      refine lv_iload_n hx hb d_law_27 rfl (lv_at hl 3 rfl) ?_
      obtain ⟨hi, h⟩ := h
      refine va_sld hx hb hX hbl hbA hH.2.2 hi d_law_28 ?_
      refine lv_bipush (v := 31) hx hb d_law_29 (by decide) ?_
      refine lv_iand hx hb d_law_31 ?_
      rcases q_tc22 ((xs x3.toNatClampNeg) &&& 31) with c | c | c | c | c | c | c | c | c | c | c | c | c | c | c | c | c | c | c | c | c | c | c
      · have h := h.1 c
        refine lv_tableOut (tgt := 692) hx hb d_law_32 c (by decide) ?_
        refine lv_iinc (v := (x3 + 4)) (lv' := [(3, .int (x3 + 4)), (0, .ref b), (1, .ref (ad 0)), (2, .ref (ad 28))]) hx hb d_law_692 hl (k := 3) rfl rfl (by decide) rfl (fun ls hl => ?_)
        refine lv_goto (tgt := 18) hx hb d_law_695 (by decide) ?_
        exact ih (x3 + 4) fo fr lr mo se sk sw tr ta tw co ct ma mn ms mb mt mw mg md _ _ _ h (lv_sub hl [1, 2, 3, 0] rfl) hH
      · have h := h.2.1 c
        refine lv_tableIn (tgt := 136) hx hb d_law_32 (by rw [c]; decide) (by rw [c]; decide) (by rw [c]; rfl) (by decide) ?_
        refine lv_aload_n hx hb d_law_136 rfl (lv_at hl 1 rfl) ?_
        refine lv_aload_n hx hb d_law_137 rfl (lv_at hl 0 rfl) ?_
        refine lv_iload_n hx hb d_law_138 rfl (lv_at hl 3 rfl) ?_
        refine lv_iconst (v := 1) hx hb d_law_139 (by decide) ?_
        refine lv_iadd hx hb d_law_140 ?_
        obtain ⟨hi, h⟩ := h
        refine va_sld hx hb hX hbl hbA hH.2.2 hi d_law_141 ?_
        refine q_calli (rest := []) (ws' := fun u : tForm × tMods => [c_PC ad, c_FO ad cA u.1, c_FR ad cA fr, c_LR ad cA lr, c_MO ad cA u.2, c_SE ad cA se sk sw, c_TR ad cA tr, c_TA ad cA ta tw, c_CO ad cA co ct, c_RE ad cA ma mn ms mb mt mw mg md].flatten) C0 hH hA (c_PC_variables l dC dI cA ad (xs (x3 + 1).toNatClampNeg) fo fr mo _ _ h) Y_PC_variables k_269 0 rfl hc_0 (q_pg [0, 1, 2, 4] [3, 5, 6, 7, 8, 9] [6, 7, 8, 0, 9, 1, 2, 3, 4, 5] 10 4 rfl (by decide) rfl (fun _ => rfl) rfl (by decide) (fun _ => rfl)) ⟨Nat.le_of_ble_eq_true rfl, Nat.le_of_ble_eq_true rfl⟩ rfl rfl (Nat.le_of_ble_eq_true rfl) hl.1 d_law_142 ⟨Nat.le_of_ble_eq_true rfl, Nat.le_of_ble_eq_true rfl⟩ (fun r_1 u_1 H locs h hH => ?_)
        obtain ⟨fo_1, mo_1⟩ := u_1
        try dsimp only at h
        have hH : q_H dC dI (fun q : Nat => s.heap.size ≤ q) s.heap H locs ([c_PC ad, c_FO ad cA fo_1, c_FR ad cA fr, c_LR ad cA lr, c_MO ad cA mo_1, c_SE ad cA se sk sw, c_TR ad cA tr, c_TA ad cA ta tw, c_CO ad cA co ct, c_RE ad cA ma mn ms mb mt mw mg md].flatten) := hH
        refine lv_aload_n hx hb d_law_145 rfl (lv_at hl 2 rfl) ?_
        refine lv_aload_n hx hb d_law_146 rfl (lv_at hl 0 rfl) ?_
        refine lv_iload_n hx hb d_law_147 rfl (lv_at hl 3 rfl) ?_
        refine lv_iconst (v := 1) hx hb d_law_148 (by decide) ?_
        refine lv_iadd hx hb d_law_149 ?_
        obtain ⟨hi, h⟩ := h
        refine va_sld hx hb hX hbl hbA hH.2.2 hi d_law_150 ?_
        refine q_calli (rest := [.int r_1]) (ws' := fun u : mForm × mKnow => [c_PC ad, c_FO ad cA fo_1, c_FR ad cA fr, c_LR ad cA lr, c_MO ad cA mo_1, c_SE ad cA se sk sw, c_TR ad cA tr, c_TA ad cA ta tw, c_CO ad cA co ct, c_RE ad cA u.1 u.2 ms mb mt mw mg md].flatten) C0 hH hA (c_Ref_variables l dC dI cA ad (xs (x3 + 1).toNatClampNeg) ma mn ms mb mt mw mg md _ _ h) Y_Ref_variables k_731 28 rfl hc_8 (q_pg [9] [0, 1, 2, 3, 4, 5, 6, 7, 8] [0, 1, 2, 3, 4, 5, 6, 7, 8, 9] 10 1 rfl (by decide) rfl (fun _ => rfl) rfl (by decide) (fun _ => rfl)) ⟨Nat.le_of_ble_eq_true rfl, Nat.le_of_ble_eq_true rfl⟩ rfl rfl (Nat.le_of_ble_eq_true rfl) hl.1 d_law_151 ⟨Nat.le_of_ble_eq_true rfl, Nat.le_of_ble_eq_true rfl⟩ (fun r_2 u_2 H locs h hH => ?_)
        obtain ⟨ma_2, mn_2⟩ := u_2
        try dsimp only at h
        have hH : q_H dC dI (fun q : Nat => s.heap.size ≤ q) s.heap H locs ([c_PC ad, c_FO ad cA fo_1, c_FR ad cA fr, c_LR ad cA lr, c_MO ad cA mo_1, c_SE ad cA se sk sw, c_TR ad cA tr, c_TA ad cA ta tw, c_CO ad cA co ct, c_RE ad cA ma_2 mn_2 ms mb mt mw mg md].flatten) := hH
        refine lv_icmp_eq (tgt := 692) hx hb d_law_154 (by decide) (fun c => ?_) (fun c => ?_)
        · have h := h.1 c
          refine lv_iinc (v := (x3 + 4)) (lv' := [(3, .int (x3 + 4)), (0, .ref b), (1, .ref (ad 0)), (2, .ref (ad 28))]) hx hb d_law_692 hl (k := 3) rfl rfl (by decide) rfl (fun ls hl => ?_)
          refine lv_goto (tgt := 18) hx hb d_law_695 (by decide) ?_
          exact ih (x3 + 4) fo_1 fr lr mo_1 se sk sw tr ta tw co ct ma_2 mn_2 ms mb mt mw mg md _ _ _ h (lv_sub hl [1, 2, 3, 0] rfl) hH
        · have h := h.2 c
          refine lv_iconst (v := 0) hx hb d_law_157 (by decide) ?_
          exact h.elim
      · have h := h.2.2.1 c
        refine lv_tableIn (tgt := 159) hx hb d_law_32 (by rw [c]; decide) (by rw [c]; decide) (by rw [c]; rfl) (by decide) ?_
        refine lv_aload_n hx hb d_law_159 rfl (lv_at hl 1 rfl) ?_
        refine lv_aload_n hx hb d_law_160 rfl (lv_at hl 0 rfl) ?_
        refine lv_iload_n hx hb d_law_161 rfl (lv_at hl 3 rfl) ?_
        refine lv_iconst (v := 1) hx hb d_law_162 (by decide) ?_
        refine lv_iadd hx hb d_law_163 ?_
        obtain ⟨hi, h⟩ := h
        refine va_sld hx hb hX hbl hbA hH.2.2 hi d_law_164 ?_
        refine q_calli (rest := []) (ws' := fun u : tForm => [c_PC ad, c_FO ad cA u, c_FR ad cA fr, c_LR ad cA lr, c_MO ad cA mo, c_SE ad cA se sk sw, c_TR ad cA tr, c_TA ad cA ta tw, c_CO ad cA co ct, c_RE ad cA ma mn ms mb mt mw mg md].flatten) C0 hH hA (c_PC_literal l dC dI cA ad (xs (x3 + 1).toNatClampNeg) fo _ _ h) Y_PC_literal k_277 0 rfl hc_0 (q_pg [0, 1] [2, 3, 4, 5, 6, 7, 8, 9] [8, 9, 0, 1, 2, 3, 4, 5, 6, 7] 10 2 rfl (by decide) rfl (fun _ => rfl) rfl (by decide) (fun _ => rfl)) ⟨Nat.le_of_ble_eq_true rfl, Nat.le_of_ble_eq_true rfl⟩ rfl rfl (Nat.le_of_ble_eq_true rfl) hl.1 d_law_165 ⟨Nat.le_of_ble_eq_true rfl, Nat.le_of_ble_eq_true rfl⟩ (fun r_3 u_3 H locs h hH => ?_)
        obtain ⟨fo_3, rfl⟩ : ∃ z, z = u_3 := ⟨_, rfl⟩
        try dsimp only at h
        have hH : q_H dC dI (fun q : Nat => s.heap.size ≤ q) s.heap H locs ([c_PC ad, c_FO ad cA fo_3, c_FR ad cA fr, c_LR ad cA lr, c_MO ad cA mo, c_SE ad cA se sk sw, c_TR ad cA tr, c_TA ad cA ta tw, c_CO ad cA co ct, c_RE ad cA ma mn ms mb mt mw mg md].flatten) := hH
        refine lv_aload_n hx hb d_law_168 rfl (lv_at hl 2 rfl) ?_
        refine lv_aload_n hx hb d_law_169 rfl (lv_at hl 0 rfl) ?_
        refine lv_iload_n hx hb d_law_170 rfl (lv_at hl 3 rfl) ?_
        refine lv_iconst (v := 1) hx hb d_law_171 (by decide) ?_
        refine lv_iadd hx hb d_law_172 ?_
        obtain ⟨hi, h⟩ := h
        refine va_sld hx hb hX hbl hbA hH.2.2 hi d_law_173 ?_
        refine q_calli (rest := [.int r_3]) (ws' := fun u : mForm => [c_PC ad, c_FO ad cA fo_3, c_FR ad cA fr, c_LR ad cA lr, c_MO ad cA mo, c_SE ad cA se sk sw, c_TR ad cA tr, c_TA ad cA ta tw, c_CO ad cA co ct, c_RE ad cA u mn ms mb mt mw mg md].flatten) C0 hH hA (c_Ref_literal l dC dI cA ad (xs (x3 + 1).toNatClampNeg) ma mn ms mb mt mw mg md _ _ h) Y_Ref_literal k_738 28 rfl hc_8 (q_pg [9] [0, 1, 2, 3, 4, 5, 6, 7, 8] [0, 1, 2, 3, 4, 5, 6, 7, 8, 9] 10 1 rfl (by decide) rfl (fun _ => rfl) rfl (by decide) (fun _ => rfl)) ⟨Nat.le_of_ble_eq_true rfl, Nat.le_of_ble_eq_true rfl⟩ rfl rfl (Nat.le_of_ble_eq_true rfl) hl.1 d_law_174 ⟨Nat.le_of_ble_eq_true rfl, Nat.le_of_ble_eq_true rfl⟩ (fun r_4 u_4 H locs h hH => ?_)
        obtain ⟨ma_4, rfl⟩ : ∃ z, z = u_4 := ⟨_, rfl⟩
        try dsimp only at h
        have hH : q_H dC dI (fun q : Nat => s.heap.size ≤ q) s.heap H locs ([c_PC ad, c_FO ad cA fo_3, c_FR ad cA fr, c_LR ad cA lr, c_MO ad cA mo, c_SE ad cA se sk sw, c_TR ad cA tr, c_TA ad cA ta tw, c_CO ad cA co ct, c_RE ad cA ma_4 mn ms mb mt mw mg md].flatten) := hH
        refine lv_icmp_eq (tgt := 692) hx hb d_law_177 (by decide) (fun c => ?_) (fun c => ?_)
        · have h := h.1 c
          refine lv_iinc (v := (x3 + 4)) (lv' := [(3, .int (x3 + 4)), (0, .ref b), (1, .ref (ad 0)), (2, .ref (ad 28))]) hx hb d_law_692 hl (k := 3) rfl rfl (by decide) rfl (fun ls hl => ?_)
          refine lv_goto (tgt := 18) hx hb d_law_695 (by decide) ?_
          exact ih (x3 + 4) fo_3 fr lr mo se sk sw tr ta tw co ct ma_4 mn ms mb mt mw mg md _ _ _ h (lv_sub hl [1, 2, 3, 0] rfl) hH
        · have h := h.2 c
          refine lv_iconst (v := 0) hx hb d_law_180 (by decide) ?_
          exact h.elim
      · have h := h.2.2.2.1 c
        refine lv_tableIn (tgt := 182) hx hb d_law_32 (by rw [c]; decide) (by rw [c]; decide) (by rw [c]; rfl) (by decide) ?_
        refine lv_aload_n hx hb d_law_182 rfl (lv_at hl 1 rfl) ?_
        refine q_calli (rest := []) (ws' := fun u : tForm × tRows × tMods => [c_PC ad, c_FO ad cA u.1, c_FR ad cA u.2.1, c_LR ad cA lr, c_MO ad cA u.2.2, c_SE ad cA se sk sw, c_TR ad cA tr, c_TA ad cA ta tw, c_CO ad cA co ct, c_RE ad cA ma mn ms mb mt mw mg md].flatten) C0 hH hA (c_PC_clause l dC dI cA ad fo fr mo _ _ h) Y_PC_clause k_297 0 rfl hc_0 (q_pg [0, 1, 2, 4] [3, 5, 6, 7, 8, 9] [6, 7, 8, 0, 9, 1, 2, 3, 4, 5] 10 4 rfl (by decide) rfl (fun _ => rfl) rfl (by decide) (fun _ => rfl)) ⟨Nat.le_of_ble_eq_true rfl, Nat.le_of_ble_eq_true rfl⟩ rfl rfl (Nat.le_of_ble_eq_true rfl) hl.1 d_law_183 ⟨Nat.le_of_ble_eq_true rfl, Nat.le_of_ble_eq_true rfl⟩ (fun r_5 u_5 H locs h hH => ?_)
        obtain ⟨fo_5, fr_5, mo_5⟩ := u_5
        try dsimp only at h
        have hH : q_H dC dI (fun q : Nat => s.heap.size ≤ q) s.heap H locs ([c_PC ad, c_FO ad cA fo_5, c_FR ad cA fr_5, c_LR ad cA lr, c_MO ad cA mo_5, c_SE ad cA se sk sw, c_TR ad cA tr, c_TA ad cA ta tw, c_CO ad cA co ct, c_RE ad cA ma mn ms mb mt mw mg md].flatten) := hH
        refine lv_aload_n hx hb d_law_186 rfl (lv_at hl 2 rfl) ?_
        refine q_calli (rest := [.int r_5]) (ws' := fun u : mForm × mKnow => [c_PC ad, c_FO ad cA fo_5, c_FR ad cA fr_5, c_LR ad cA lr, c_MO ad cA mo_5, c_SE ad cA se sk sw, c_TR ad cA tr, c_TA ad cA ta tw, c_CO ad cA co ct, c_RE ad cA u.1 u.2 ms mb mt mw mg md].flatten) C0 hH hA (c_Ref_clause l dC dI cA ad ma mn ms mb mt mw mg md _ _ h) Y_Ref_clause k_749 28 rfl hc_8 (q_pg [9] [0, 1, 2, 3, 4, 5, 6, 7, 8] [0, 1, 2, 3, 4, 5, 6, 7, 8, 9] 10 1 rfl (by decide) rfl (fun _ => rfl) rfl (by decide) (fun _ => rfl)) ⟨Nat.le_of_ble_eq_true rfl, Nat.le_of_ble_eq_true rfl⟩ rfl rfl (Nat.le_of_ble_eq_true rfl) hl.1 d_law_187 ⟨Nat.le_of_ble_eq_true rfl, Nat.le_of_ble_eq_true rfl⟩ (fun r_6 u_6 H locs h hH => ?_)
        obtain ⟨ma_6, mn_6⟩ := u_6
        try dsimp only at h
        have hH : q_H dC dI (fun q : Nat => s.heap.size ≤ q) s.heap H locs ([c_PC ad, c_FO ad cA fo_5, c_FR ad cA fr_5, c_LR ad cA lr, c_MO ad cA mo_5, c_SE ad cA se sk sw, c_TR ad cA tr, c_TA ad cA ta tw, c_CO ad cA co ct, c_RE ad cA ma_6 mn_6 ms mb mt mw mg md].flatten) := hH
        refine lv_icmp_eq (tgt := 692) hx hb d_law_190 (by decide) (fun c => ?_) (fun c => ?_)
        · have h := h.1 c
          refine lv_iinc (v := (x3 + 4)) (lv' := [(3, .int (x3 + 4)), (0, .ref b), (1, .ref (ad 0)), (2, .ref (ad 28))]) hx hb d_law_692 hl (k := 3) rfl rfl (by decide) rfl (fun ls hl => ?_)
          refine lv_goto (tgt := 18) hx hb d_law_695 (by decide) ?_
          exact ih (x3 + 4) fo_5 fr_5 lr mo_5 se sk sw tr ta tw co ct ma_6 mn_6 ms mb mt mw mg md _ _ _ h (lv_sub hl [1, 2, 3, 0] rfl) hH
        · have h := h.2 c
          refine lv_iconst (v := 0) hx hb d_law_193 (by decide) ?_
          exact h.elim
      · have h := h.2.2.2.2.1 c
        refine lv_tableIn (tgt := 195) hx hb d_law_32 (by rw [c]; decide) (by rw [c]; decide) (by rw [c]; rfl) (by decide) ?_
        refine lv_aload_n hx hb d_law_195 rfl (lv_at hl 1 rfl) ?_
        refine q_calli (rest := []) (ws' := fun u : tRows × tMods => [c_PC ad, c_FO ad cA fo, c_FR ad cA u.1, c_LR ad cA lr, c_MO ad cA u.2, c_SE ad cA se sk sw, c_TR ad cA tr, c_TA ad cA ta tw, c_CO ad cA co ct, c_RE ad cA ma mn ms mb mt mw mg md].flatten) C0 hH hA (c_PC_drop l dC dI cA ad fo fr mo _ _ h) Y_PC_drop k_309 0 rfl hc_0 (q_pg [0, 1, 2, 4] [3, 5, 6, 7, 8, 9] [6, 7, 8, 0, 9, 1, 2, 3, 4, 5] 10 4 rfl (by decide) rfl (fun _ => rfl) rfl (by decide) (fun _ => rfl)) ⟨Nat.le_of_ble_eq_true rfl, Nat.le_of_ble_eq_true rfl⟩ rfl rfl (Nat.le_of_ble_eq_true rfl) hl.1 d_law_196 ⟨Nat.le_of_ble_eq_true rfl, Nat.le_of_ble_eq_true rfl⟩ (fun r_7 u_7 H locs h hH => ?_)
        obtain ⟨fr_7, mo_7⟩ := u_7
        try dsimp only at h
        have hH : q_H dC dI (fun q : Nat => s.heap.size ≤ q) s.heap H locs ([c_PC ad, c_FO ad cA fo, c_FR ad cA fr_7, c_LR ad cA lr, c_MO ad cA mo_7, c_SE ad cA se sk sw, c_TR ad cA tr, c_TA ad cA ta tw, c_CO ad cA co ct, c_RE ad cA ma mn ms mb mt mw mg md].flatten) := hH
        refine lv_aload_n hx hb d_law_199 rfl (lv_at hl 2 rfl) ?_
        refine q_calli (rest := [.int r_7]) (ws' := fun u : mForm × mKnow => [c_PC ad, c_FO ad cA fo, c_FR ad cA fr_7, c_LR ad cA lr, c_MO ad cA mo_7, c_SE ad cA se sk sw, c_TR ad cA tr, c_TA ad cA ta tw, c_CO ad cA co ct, c_RE ad cA u.1 u.2 ms mb mt mw mg md].flatten) C0 hH hA (c_Ref_drop l dC dI cA ad ma mn ms mb mt mw mg md _ _ h) Y_Ref_drop k_753 28 rfl hc_8 (q_pg [9] [0, 1, 2, 3, 4, 5, 6, 7, 8] [0, 1, 2, 3, 4, 5, 6, 7, 8, 9] 10 1 rfl (by decide) rfl (fun _ => rfl) rfl (by decide) (fun _ => rfl)) ⟨Nat.le_of_ble_eq_true rfl, Nat.le_of_ble_eq_true rfl⟩ rfl rfl (Nat.le_of_ble_eq_true rfl) hl.1 d_law_200 ⟨Nat.le_of_ble_eq_true rfl, Nat.le_of_ble_eq_true rfl⟩ (fun r_8 u_8 H locs h hH => ?_)
        obtain ⟨ma_8, mn_8⟩ := u_8
        try dsimp only at h
        have hH : q_H dC dI (fun q : Nat => s.heap.size ≤ q) s.heap H locs ([c_PC ad, c_FO ad cA fo, c_FR ad cA fr_7, c_LR ad cA lr, c_MO ad cA mo_7, c_SE ad cA se sk sw, c_TR ad cA tr, c_TA ad cA ta tw, c_CO ad cA co ct, c_RE ad cA ma_8 mn_8 ms mb mt mw mg md].flatten) := hH
        refine lv_icmp_eq (tgt := 692) hx hb d_law_203 (by decide) (fun c => ?_) (fun c => ?_)
        · have h := h.1 c
          refine lv_iinc (v := (x3 + 4)) (lv' := [(3, .int (x3 + 4)), (0, .ref b), (1, .ref (ad 0)), (2, .ref (ad 28))]) hx hb d_law_692 hl (k := 3) rfl rfl (by decide) rfl (fun ls hl => ?_)
          refine lv_goto (tgt := 18) hx hb d_law_695 (by decide) ?_
          exact ih (x3 + 4) fo fr_7 lr mo_7 se sk sw tr ta tw co ct ma_8 mn_8 ms mb mt mw mg md _ _ _ h (lv_sub hl [1, 2, 3, 0] rfl) hH
        · have h := h.2 c
          refine lv_iconst (v := 0) hx hb d_law_206 (by decide) ?_
          exact h.elim
      · have h := h.2.2.2.2.2.1 c
        refine lv_tableIn (tgt := 208) hx hb d_law_32 (by rw [c]; decide) (by rw [c]; decide) (by rw [c]; rfl) (by decide) ?_
        refine lv_aload_n hx hb d_law_208 rfl (lv_at hl 1 rfl) ?_
        refine lv_aload_n hx hb d_law_209 rfl (lv_at hl 0 rfl) ?_
        refine lv_iload_n hx hb d_law_210 rfl (lv_at hl 3 rfl) ?_
        refine lv_iconst (v := 1) hx hb d_law_211 (by decide) ?_
        refine lv_iadd hx hb d_law_212 ?_
        obtain ⟨hi, h⟩ := h
        refine va_sld hx hb hX hbl hbA hH.2.2 hi d_law_213 ?_
        refine lv_aload_n hx hb d_law_214 rfl (lv_at hl 0 rfl) ?_
        refine lv_iload_n hx hb d_law_215 rfl (lv_at hl 3 rfl) ?_
        refine lv_iconst (v := 2) hx hb d_law_216 (by decide) ?_
        refine lv_iadd hx hb d_law_217 ?_
        obtain ⟨hi, h⟩ := h
        refine va_sld hx hb hX hbl hbA hH.2.2 hi d_law_218 ?_
        refine q_calli (rest := []) (ws' := fun _ : Unit => [c_PC ad, c_FO ad cA fo, c_FR ad cA fr, c_LR ad cA lr, c_MO ad cA mo, c_SE ad cA se sk sw, c_TR ad cA tr, c_TA ad cA ta tw, c_CO ad cA co ct, c_RE ad cA ma mn ms mb mt mw mg md].flatten) C0 hH hA (c_PC_at l dC dI cA ad (xs (x3 + 1).toNatClampNeg) (xs (x3 + 2).toNatClampNeg) fo fr _ _ h) Y_PC_at k_313 0 rfl hc_0 (q_pg [0, 1, 2] [3, 4, 5, 6, 7, 8, 9] [7, 8, 9, 0, 1, 2, 3, 4, 5, 6] 10 3 rfl (by decide) rfl (fun _ => rfl) rfl (by decide) (fun _ => rfl)) ⟨Nat.le_of_ble_eq_true rfl, Nat.le_of_ble_eq_true rfl⟩ rfl rfl (Nat.le_of_ble_eq_true rfl) hl.1 d_law_219 ⟨Nat.le_of_ble_eq_true rfl, Nat.le_of_ble_eq_true rfl⟩ (fun r_9 u_9 H locs h hH => ?_)
        try dsimp only at h
        have hH : q_H dC dI (fun q : Nat => s.heap.size ≤ q) s.heap H locs ([c_PC ad, c_FO ad cA fo, c_FR ad cA fr, c_LR ad cA lr, c_MO ad cA mo, c_SE ad cA se sk sw, c_TR ad cA tr, c_TA ad cA ta tw, c_CO ad cA co ct, c_RE ad cA ma mn ms mb mt mw mg md].flatten) := hH
        refine lv_aload_n hx hb d_law_222 rfl (lv_at hl 2 rfl) ?_
        refine lv_aload_n hx hb d_law_223 rfl (lv_at hl 0 rfl) ?_
        refine lv_iload_n hx hb d_law_224 rfl (lv_at hl 3 rfl) ?_
        refine lv_iconst (v := 1) hx hb d_law_225 (by decide) ?_
        refine lv_iadd hx hb d_law_226 ?_
        obtain ⟨hi, h⟩ := h
        refine va_sld hx hb hX hbl hbA hH.2.2 hi d_law_227 ?_
        refine lv_aload_n hx hb d_law_228 rfl (lv_at hl 0 rfl) ?_
        refine lv_iload_n hx hb d_law_229 rfl (lv_at hl 3 rfl) ?_
        refine lv_iconst (v := 2) hx hb d_law_230 (by decide) ?_
        refine lv_iadd hx hb d_law_231 ?_
        obtain ⟨hi, h⟩ := h
        refine va_sld hx hb hX hbl hbA hH.2.2 hi d_law_232 ?_
        refine q_calli (rest := [.int r_9]) (ws' := fun _ : Unit => [c_PC ad, c_FO ad cA fo, c_FR ad cA fr, c_LR ad cA lr, c_MO ad cA mo, c_SE ad cA se sk sw, c_TR ad cA tr, c_TA ad cA ta tw, c_CO ad cA co ct, c_RE ad cA ma mn ms mb mt mw mg md].flatten) C0 hH hA (c_Ref_at l dC dI cA ad (xs (x3 + 1).toNatClampNeg) (xs (x3 + 2).toNatClampNeg) ma mn ms mb mt mw mg md _ _ h) Y_Ref_at k_757 28 rfl hc_8 (q_pg [9] [0, 1, 2, 3, 4, 5, 6, 7, 8] [0, 1, 2, 3, 4, 5, 6, 7, 8, 9] 10 1 rfl (by decide) rfl (fun _ => rfl) rfl (by decide) (fun _ => rfl)) ⟨Nat.le_of_ble_eq_true rfl, Nat.le_of_ble_eq_true rfl⟩ rfl rfl (Nat.le_of_ble_eq_true rfl) hl.1 d_law_233 ⟨Nat.le_of_ble_eq_true rfl, Nat.le_of_ble_eq_true rfl⟩ (fun r_10 u_10 H locs h hH => ?_)
        try dsimp only at h
        have hH : q_H dC dI (fun q : Nat => s.heap.size ≤ q) s.heap H locs ([c_PC ad, c_FO ad cA fo, c_FR ad cA fr, c_LR ad cA lr, c_MO ad cA mo, c_SE ad cA se sk sw, c_TR ad cA tr, c_TA ad cA ta tw, c_CO ad cA co ct, c_RE ad cA ma mn ms mb mt mw mg md].flatten) := hH
        refine lv_icmp_eq (tgt := 692) hx hb d_law_236 (by decide) (fun c => ?_) (fun c => ?_)
        · have h := h.1 c
          refine lv_iinc (v := (x3 + 4)) (lv' := [(3, .int (x3 + 4)), (0, .ref b), (1, .ref (ad 0)), (2, .ref (ad 28))]) hx hb d_law_692 hl (k := 3) rfl rfl (by decide) rfl (fun ls hl => ?_)
          refine lv_goto (tgt := 18) hx hb d_law_695 (by decide) ?_
          exact ih (x3 + 4) fo fr lr mo se sk sw tr ta tw co ct ma mn ms mb mt mw mg md _ _ _ h (lv_sub hl [1, 2, 3, 0] rfl) hH
        · have h := h.2 c
          refine lv_iconst (v := 0) hx hb d_law_239 (by decide) ?_
          exact h.elim
      · have h := h.2.2.2.2.2.2.1 c
        refine lv_tableIn (tgt := 241) hx hb d_law_32 (by rw [c]; decide) (by rw [c]; decide) (by rw [c]; rfl) (by decide) ?_
        refine lv_aload_n hx hb d_law_241 rfl (lv_at hl 1 rfl) ?_
        refine lv_aload_n hx hb d_law_242 rfl (lv_at hl 0 rfl) ?_
        refine lv_iload_n hx hb d_law_243 rfl (lv_at hl 3 rfl) ?_
        refine lv_iconst (v := 1) hx hb d_law_244 (by decide) ?_
        refine lv_iadd hx hb d_law_245 ?_
        obtain ⟨hi, h⟩ := h
        refine va_sld hx hb hX hbl hbA hH.2.2 hi d_law_246 ?_
        refine q_calli (rest := []) (ws' := fun u : tRows × tMods × tSear × tClash × (Nat → Int32) × tTrail => [c_PC ad, c_FO ad cA fo, c_FR ad cA fr, c_LR ad cA u.1, c_MO ad cA u.2.1, c_SE ad cA u.2.2.1 u.2.2.2.1 u.2.2.2.2.1, c_TR ad cA u.2.2.2.2.2, c_TA ad cA ta tw, c_CO ad cA co ct, c_RE ad cA ma mn ms mb mt mw mg md].flatten) C0 hH hA (c_PC_sat l dC dI cA ad (xs (x3 + 1).toNatClampNeg) fo fr lr mo se sk sw tr _ _ h) Y_PC_sat k_321 0 rfl hc_0 (q_pg [0, 1, 2, 3, 4, 5, 6] [7, 8, 9] [3, 4, 5, 6, 7, 8, 9, 0, 1, 2] 10 7 rfl (by decide) rfl (fun _ => rfl) rfl (by decide) (fun _ => rfl)) ⟨Nat.le_of_ble_eq_true rfl, Nat.le_of_ble_eq_true rfl⟩ rfl rfl (Nat.le_of_ble_eq_true rfl) hl.1 d_law_247 ⟨Nat.le_of_ble_eq_true rfl, Nat.le_of_ble_eq_true rfl⟩ (fun r_11 u_11 H locs h hH => ?_)
        obtain ⟨lr_11, mo_11, se_11, sk_11, sw_11, tr_11⟩ := u_11
        try dsimp only at h
        have hH : q_H dC dI (fun q : Nat => s.heap.size ≤ q) s.heap H locs ([c_PC ad, c_FO ad cA fo, c_FR ad cA fr, c_LR ad cA lr_11, c_MO ad cA mo_11, c_SE ad cA se_11 sk_11 sw_11, c_TR ad cA tr_11, c_TA ad cA ta tw, c_CO ad cA co ct, c_RE ad cA ma mn ms mb mt mw mg md].flatten) := hH
        refine lv_aload_n hx hb d_law_250 rfl (lv_at hl 2 rfl) ?_
        refine lv_aload_n hx hb d_law_251 rfl (lv_at hl 0 rfl) ?_
        refine lv_iload_n hx hb d_law_252 rfl (lv_at hl 3 rfl) ?_
        refine lv_iconst (v := 1) hx hb d_law_253 (by decide) ?_
        refine lv_iadd hx hb d_law_254 ?_
        obtain ⟨hi, h⟩ := h
        refine va_sld hx hb hX hbl hbA hH.2.2 hi d_law_255 ?_
        refine q_calli (rest := [.int r_11]) (ws' := fun u : mSat => [c_PC ad, c_FO ad cA fo, c_FR ad cA fr, c_LR ad cA lr_11, c_MO ad cA mo_11, c_SE ad cA se_11 sk_11 sw_11, c_TR ad cA tr_11, c_TA ad cA ta tw, c_CO ad cA co ct, c_RE ad cA ma mn u mb mt mw mg md].flatten) C0 hH hA (c_Ref_sat l dC dI cA ad (xs (x3 + 1).toNatClampNeg) ma mn ms mb mt mw mg md _ _ h) Y_Ref_sat k_761 28 rfl hc_8 (q_pg [9] [0, 1, 2, 3, 4, 5, 6, 7, 8] [0, 1, 2, 3, 4, 5, 6, 7, 8, 9] 10 1 rfl (by decide) rfl (fun _ => rfl) rfl (by decide) (fun _ => rfl)) ⟨Nat.le_of_ble_eq_true rfl, Nat.le_of_ble_eq_true rfl⟩ rfl rfl (Nat.le_of_ble_eq_true rfl) hl.1 d_law_256 ⟨Nat.le_of_ble_eq_true rfl, Nat.le_of_ble_eq_true rfl⟩ (fun r_12 u_12 H locs h hH => ?_)
        obtain ⟨ms_12, rfl⟩ : ∃ z, z = u_12 := ⟨_, rfl⟩
        try dsimp only at h
        have hH : q_H dC dI (fun q : Nat => s.heap.size ≤ q) s.heap H locs ([c_PC ad, c_FO ad cA fo, c_FR ad cA fr, c_LR ad cA lr_11, c_MO ad cA mo_11, c_SE ad cA se_11 sk_11 sw_11, c_TR ad cA tr_11, c_TA ad cA ta tw, c_CO ad cA co ct, c_RE ad cA ma mn ms_12 mb mt mw mg md].flatten) := hH
        refine lv_icmp_eq (tgt := 692) hx hb d_law_259 (by decide) (fun c => ?_) (fun c => ?_)
        · have h := h.1 c
          refine lv_iinc (v := (x3 + 4)) (lv' := [(3, .int (x3 + 4)), (0, .ref b), (1, .ref (ad 0)), (2, .ref (ad 28))]) hx hb d_law_692 hl (k := 3) rfl rfl (by decide) rfl (fun ls hl => ?_)
          refine lv_goto (tgt := 18) hx hb d_law_695 (by decide) ?_
          exact ih (x3 + 4) fo fr lr_11 mo_11 se_11 sk_11 sw_11 tr_11 ta tw co ct ma mn ms_12 mb mt mw mg md _ _ _ h (lv_sub hl [1, 2, 3, 0] rfl) hH
        · have h := h.2 c
          refine lv_iconst (v := 0) hx hb d_law_262 (by decide) ?_
          exact h.elim
      · have h := h.2.2.2.2.2.2.2.1 c
        refine lv_tableIn (tgt := 264) hx hb d_law_32 (by rw [c]; decide) (by rw [c]; decide) (by rw [c]; rfl) (by decide) ?_
        refine lv_aload_n hx hb d_law_264 rfl (lv_at hl 1 rfl) ?_
        refine lv_aload_n hx hb d_law_265 rfl (lv_at hl 0 rfl) ?_
        refine lv_iload_n hx hb d_law_266 rfl (lv_at hl 3 rfl) ?_
        refine lv_iconst (v := 1) hx hb d_law_267 (by decide) ?_
        refine lv_iadd hx hb d_law_268 ?_
        obtain ⟨hi, h⟩ := h
        refine va_sld hx hb hX hbl hbA hH.2.2 hi d_law_269 ?_
        refine q_calli (rest := []) (ws' := fun u : tRows × tMods × tSear × tClash × (Nat → Int32) × tTrail => [c_PC ad, c_FO ad cA fo, c_FR ad cA fr, c_LR ad cA u.1, c_MO ad cA u.2.1, c_SE ad cA u.2.2.1 u.2.2.2.1 u.2.2.2.2.1, c_TR ad cA u.2.2.2.2.2, c_TA ad cA ta tw, c_CO ad cA co ct, c_RE ad cA ma mn ms mb mt mw mg md].flatten) C0 hH hA (c_PC_value l dC dI cA ad (xs (x3 + 1).toNatClampNeg) fo fr lr mo se sk sw tr _ _ h) Y_PC_value k_412 0 rfl hc_0 (q_pg [0, 1, 2, 3, 4, 5, 6] [7, 8, 9] [3, 4, 5, 6, 7, 8, 9, 0, 1, 2] 10 7 rfl (by decide) rfl (fun _ => rfl) rfl (by decide) (fun _ => rfl)) ⟨Nat.le_of_ble_eq_true rfl, Nat.le_of_ble_eq_true rfl⟩ rfl rfl (Nat.le_of_ble_eq_true rfl) hl.1 d_law_270 ⟨Nat.le_of_ble_eq_true rfl, Nat.le_of_ble_eq_true rfl⟩ (fun r_13 u_13 H locs h hH => ?_)
        obtain ⟨lr_13, mo_13, se_13, sk_13, sw_13, tr_13⟩ := u_13
        try dsimp only at h
        have hH : q_H dC dI (fun q : Nat => s.heap.size ≤ q) s.heap H locs ([c_PC ad, c_FO ad cA fo, c_FR ad cA fr, c_LR ad cA lr_13, c_MO ad cA mo_13, c_SE ad cA se_13 sk_13 sw_13, c_TR ad cA tr_13, c_TA ad cA ta tw, c_CO ad cA co ct, c_RE ad cA ma mn ms mb mt mw mg md].flatten) := hH
        refine lv_aload_n hx hb d_law_273 rfl (lv_at hl 2 rfl) ?_
        refine lv_aload_n hx hb d_law_274 rfl (lv_at hl 0 rfl) ?_
        refine lv_iload_n hx hb d_law_275 rfl (lv_at hl 3 rfl) ?_
        refine lv_iconst (v := 1) hx hb d_law_276 (by decide) ?_
        refine lv_iadd hx hb d_law_277 ?_
        obtain ⟨hi, h⟩ := h
        refine va_sld hx hb hX hbl hbA hH.2.2 hi d_law_278 ?_
        refine q_calli (rest := [.int r_13]) (ws' := fun u : mKnow × mSat × mBack => [c_PC ad, c_FO ad cA fo, c_FR ad cA fr, c_LR ad cA lr_13, c_MO ad cA mo_13, c_SE ad cA se_13 sk_13 sw_13, c_TR ad cA tr_13, c_TA ad cA ta tw, c_CO ad cA co ct, c_RE ad cA ma u.1 u.2.1 u.2.2 mt mw mg md].flatten) C0 hH hA (c_Ref_value l dC dI cA ad (xs (x3 + 1).toNatClampNeg) ma mn ms mb mt mw mg md _ _ h) Y_Ref_value k_776 28 rfl hc_8 (q_pg [9] [0, 1, 2, 3, 4, 5, 6, 7, 8] [0, 1, 2, 3, 4, 5, 6, 7, 8, 9] 10 1 rfl (by decide) rfl (fun _ => rfl) rfl (by decide) (fun _ => rfl)) ⟨Nat.le_of_ble_eq_true rfl, Nat.le_of_ble_eq_true rfl⟩ rfl rfl (Nat.le_of_ble_eq_true rfl) hl.1 d_law_279 ⟨Nat.le_of_ble_eq_true rfl, Nat.le_of_ble_eq_true rfl⟩ (fun r_14 u_14 H locs h hH => ?_)
        obtain ⟨mn_14, ms_14, mb_14⟩ := u_14
        try dsimp only at h
        have hH : q_H dC dI (fun q : Nat => s.heap.size ≤ q) s.heap H locs ([c_PC ad, c_FO ad cA fo, c_FR ad cA fr, c_LR ad cA lr_13, c_MO ad cA mo_13, c_SE ad cA se_13 sk_13 sw_13, c_TR ad cA tr_13, c_TA ad cA ta tw, c_CO ad cA co ct, c_RE ad cA ma mn_14 ms_14 mb_14 mt mw mg md].flatten) := hH
        refine lv_icmp_eq (tgt := 692) hx hb d_law_282 (by decide) (fun c => ?_) (fun c => ?_)
        · have h := h.1 c
          refine lv_iinc (v := (x3 + 4)) (lv' := [(3, .int (x3 + 4)), (0, .ref b), (1, .ref (ad 0)), (2, .ref (ad 28))]) hx hb d_law_692 hl (k := 3) rfl rfl (by decide) rfl (fun ls hl => ?_)
          refine lv_goto (tgt := 18) hx hb d_law_695 (by decide) ?_
          exact ih (x3 + 4) fo fr lr_13 mo_13 se_13 sk_13 sw_13 tr_13 ta tw co ct ma mn_14 ms_14 mb_14 mt mw mg md _ _ _ h (lv_sub hl [1, 2, 3, 0] rfl) hH
        · have h := h.2 c
          refine lv_iconst (v := 0) hx hb d_law_285 (by decide) ?_
          exact h.elim
      · have h := h.2.2.2.2.2.2.2.2.1 c
        refine lv_tableIn (tgt := 287) hx hb d_law_32 (by rw [c]; decide) (by rw [c]; decide) (by rw [c]; rfl) (by decide) ?_
        refine lv_aload_n hx hb d_law_287 rfl (lv_at hl 1 rfl) ?_
        refine lv_aload_n hx hb d_law_288 rfl (lv_at hl 0 rfl) ?_
        refine lv_iload_n hx hb d_law_289 rfl (lv_at hl 3 rfl) ?_
        refine lv_iconst (v := 1) hx hb d_law_290 (by decide) ?_
        refine lv_iadd hx hb d_law_291 ?_
        obtain ⟨hi, h⟩ := h
        refine va_sld hx hb hX hbl hbA hH.2.2 hi d_law_292 ?_
        refine lv_aload_n hx hb d_law_293 rfl (lv_at hl 0 rfl) ?_
        refine lv_iload_n hx hb d_law_294 rfl (lv_at hl 3 rfl) ?_
        refine lv_iconst (v := 2) hx hb d_law_295 (by decide) ?_
        refine lv_iadd hx hb d_law_296 ?_
        obtain ⟨hi, h⟩ := h
        refine va_sld hx hb hX hbl hbA hH.2.2 hi d_law_297 ?_
        refine q_calli (rest := []) (ws' := fun u : tRows × tMods × tSear × tClash × (Nat → Int32) × tTrail => [c_PC ad, c_FO ad cA fo, c_FR ad cA fr, c_LR ad cA u.1, c_MO ad cA u.2.1, c_SE ad cA u.2.2.1 u.2.2.2.1 u.2.2.2.2.1, c_TR ad cA u.2.2.2.2.2, c_TA ad cA ta tw, c_CO ad cA co ct, c_RE ad cA ma mn ms mb mt mw mg md].flatten) C0 hH hA (c_PC_model l dC dI cA ad (xs (x3 + 1).toNatClampNeg) (xs (x3 + 2).toNatClampNeg) fo fr lr mo se sk sw tr _ _ h) Y_PC_model k_443 0 rfl hc_0 (q_pg [0, 1, 2, 3, 4, 5, 6] [7, 8, 9] [3, 4, 5, 6, 7, 8, 9, 0, 1, 2] 10 7 rfl (by decide) rfl (fun _ => rfl) rfl (by decide) (fun _ => rfl)) ⟨Nat.le_of_ble_eq_true rfl, Nat.le_of_ble_eq_true rfl⟩ rfl rfl (Nat.le_of_ble_eq_true rfl) hl.1 d_law_298 ⟨Nat.le_of_ble_eq_true rfl, Nat.le_of_ble_eq_true rfl⟩ (fun r_15 u_15 H locs h hH => ?_)
        obtain ⟨lr_15, mo_15, se_15, sk_15, sw_15, tr_15⟩ := u_15
        try dsimp only at h
        have hH : q_H dC dI (fun q : Nat => s.heap.size ≤ q) s.heap H locs ([c_PC ad, c_FO ad cA fo, c_FR ad cA fr, c_LR ad cA lr_15, c_MO ad cA mo_15, c_SE ad cA se_15 sk_15 sw_15, c_TR ad cA tr_15, c_TA ad cA ta tw, c_CO ad cA co ct, c_RE ad cA ma mn ms mb mt mw mg md].flatten) := hH
        refine lv_aload_n hx hb d_law_301 rfl (lv_at hl 2 rfl) ?_
        refine lv_aload_n hx hb d_law_302 rfl (lv_at hl 0 rfl) ?_
        refine lv_iload_n hx hb d_law_303 rfl (lv_at hl 3 rfl) ?_
        refine lv_iconst (v := 1) hx hb d_law_304 (by decide) ?_
        refine lv_iadd hx hb d_law_305 ?_
        obtain ⟨hi, h⟩ := h
        refine va_sld hx hb hX hbl hbA hH.2.2 hi d_law_306 ?_
        refine lv_aload_n hx hb d_law_307 rfl (lv_at hl 0 rfl) ?_
        refine lv_iload_n hx hb d_law_308 rfl (lv_at hl 3 rfl) ?_
        refine lv_iconst (v := 2) hx hb d_law_309 (by decide) ?_
        refine lv_iadd hx hb d_law_310 ?_
        obtain ⟨hi, h⟩ := h
        refine va_sld hx hb hX hbl hbA hH.2.2 hi d_law_311 ?_
        refine q_calli (rest := [.int r_15]) (ws' := fun u : mKnow × mSat × mBack => [c_PC ad, c_FO ad cA fo, c_FR ad cA fr, c_LR ad cA lr_15, c_MO ad cA mo_15, c_SE ad cA se_15 sk_15 sw_15, c_TR ad cA tr_15, c_TA ad cA ta tw, c_CO ad cA co ct, c_RE ad cA ma u.1 u.2.1 u.2.2 mt mw mg md].flatten) C0 hH hA (c_Ref_model l dC dI cA ad (xs (x3 + 1).toNatClampNeg) (xs (x3 + 2).toNatClampNeg) ma mn ms mb mt mw mg md _ _ h) Y_Ref_model k_792 28 rfl hc_8 (q_pg [9] [0, 1, 2, 3, 4, 5, 6, 7, 8] [0, 1, 2, 3, 4, 5, 6, 7, 8, 9] 10 1 rfl (by decide) rfl (fun _ => rfl) rfl (by decide) (fun _ => rfl)) ⟨Nat.le_of_ble_eq_true rfl, Nat.le_of_ble_eq_true rfl⟩ rfl rfl (Nat.le_of_ble_eq_true rfl) hl.1 d_law_312 ⟨Nat.le_of_ble_eq_true rfl, Nat.le_of_ble_eq_true rfl⟩ (fun r_16 u_16 H locs h hH => ?_)
        obtain ⟨mn_16, ms_16, mb_16⟩ := u_16
        try dsimp only at h
        have hH : q_H dC dI (fun q : Nat => s.heap.size ≤ q) s.heap H locs ([c_PC ad, c_FO ad cA fo, c_FR ad cA fr, c_LR ad cA lr_15, c_MO ad cA mo_15, c_SE ad cA se_15 sk_15 sw_15, c_TR ad cA tr_15, c_TA ad cA ta tw, c_CO ad cA co ct, c_RE ad cA ma mn_16 ms_16 mb_16 mt mw mg md].flatten) := hH
        refine lv_icmp_eq (tgt := 692) hx hb d_law_315 (by decide) (fun c => ?_) (fun c => ?_)
        · have h := h.1 c
          refine lv_iinc (v := (x3 + 4)) (lv' := [(3, .int (x3 + 4)), (0, .ref b), (1, .ref (ad 0)), (2, .ref (ad 28))]) hx hb d_law_692 hl (k := 3) rfl rfl (by decide) rfl (fun ls hl => ?_)
          refine lv_goto (tgt := 18) hx hb d_law_695 (by decide) ?_
          exact ih (x3 + 4) fo fr lr_15 mo_15 se_15 sk_15 sw_15 tr_15 ta tw co ct ma mn_16 ms_16 mb_16 mt mw mg md _ _ _ h (lv_sub hl [1, 2, 3, 0] rfl) hH
        · have h := h.2 c
          refine lv_iconst (v := 0) hx hb d_law_318 (by decide) ?_
          exact h.elim
      · have h := h.2.2.2.2.2.2.2.2.2.1 c
        refine lv_tableIn (tgt := 320) hx hb d_law_32 (by rw [c]; decide) (by rw [c]; decide) (by rw [c]; rfl) (by decide) ?_
        refine lv_aload_n hx hb d_law_320 rfl (lv_at hl 1 rfl) ?_
        refine q_calli (rest := []) (ws' := fun u : tRows × tMods × tSear × tClash × (Nat → Int32) × tTrail => [c_PC ad, c_FO ad cA fo, c_FR ad cA fr, c_LR ad cA u.1, c_MO ad cA u.2.1, c_SE ad cA u.2.2.1 u.2.2.2.1 u.2.2.2.2.1, c_TR ad cA u.2.2.2.2.2, c_TA ad cA ta tw, c_CO ad cA co ct, c_RE ad cA ma mn ms mb mt mw mg md].flatten) C0 hH hA (c_PC_models l dC dI cA ad fo fr lr mo se sk sw tr _ _ h) Y_PC_models k_447 0 rfl hc_0 (q_pg [0, 1, 2, 3, 4, 5, 6] [7, 8, 9] [3, 4, 5, 6, 7, 8, 9, 0, 1, 2] 10 7 rfl (by decide) rfl (fun _ => rfl) rfl (by decide) (fun _ => rfl)) ⟨Nat.le_of_ble_eq_true rfl, Nat.le_of_ble_eq_true rfl⟩ rfl rfl (Nat.le_of_ble_eq_true rfl) hl.1 d_law_321 ⟨Nat.le_of_ble_eq_true rfl, Nat.le_of_ble_eq_true rfl⟩ (fun r_17 u_17 H locs h hH => ?_)
        obtain ⟨lr_17, mo_17, se_17, sk_17, sw_17, tr_17⟩ := u_17
        try dsimp only at h
        have hH : q_H dC dI (fun q : Nat => s.heap.size ≤ q) s.heap H locs ([c_PC ad, c_FO ad cA fo, c_FR ad cA fr, c_LR ad cA lr_17, c_MO ad cA mo_17, c_SE ad cA se_17 sk_17 sw_17, c_TR ad cA tr_17, c_TA ad cA ta tw, c_CO ad cA co ct, c_RE ad cA ma mn ms mb mt mw mg md].flatten) := hH
        refine lv_aload_n hx hb d_law_324 rfl (lv_at hl 2 rfl) ?_
        refine q_calli (rest := [.int r_17]) (ws' := fun u : mKnow × mSat × mBack => [c_PC ad, c_FO ad cA fo, c_FR ad cA fr, c_LR ad cA lr_17, c_MO ad cA mo_17, c_SE ad cA se_17 sk_17 sw_17, c_TR ad cA tr_17, c_TA ad cA ta tw, c_CO ad cA co ct, c_RE ad cA ma u.1 u.2.1 u.2.2 mt mw mg md].flatten) C0 hH hA (c_Ref_models l dC dI cA ad ma mn ms mb mt mw mg md _ _ h) Y_Ref_models k_796 28 rfl hc_8 (q_pg [9] [0, 1, 2, 3, 4, 5, 6, 7, 8] [0, 1, 2, 3, 4, 5, 6, 7, 8, 9] 10 1 rfl (by decide) rfl (fun _ => rfl) rfl (by decide) (fun _ => rfl)) ⟨Nat.le_of_ble_eq_true rfl, Nat.le_of_ble_eq_true rfl⟩ rfl rfl (Nat.le_of_ble_eq_true rfl) hl.1 d_law_325 ⟨Nat.le_of_ble_eq_true rfl, Nat.le_of_ble_eq_true rfl⟩ (fun r_18 u_18 H locs h hH => ?_)
        obtain ⟨mn_18, ms_18, mb_18⟩ := u_18
        try dsimp only at h
        have hH : q_H dC dI (fun q : Nat => s.heap.size ≤ q) s.heap H locs ([c_PC ad, c_FO ad cA fo, c_FR ad cA fr, c_LR ad cA lr_17, c_MO ad cA mo_17, c_SE ad cA se_17 sk_17 sw_17, c_TR ad cA tr_17, c_TA ad cA ta tw, c_CO ad cA co ct, c_RE ad cA ma mn_18 ms_18 mb_18 mt mw mg md].flatten) := hH
        refine lv_icmp_eq (tgt := 692) hx hb d_law_328 (by decide) (fun c => ?_) (fun c => ?_)
        · have h := h.1 c
          refine lv_iinc (v := (x3 + 4)) (lv' := [(3, .int (x3 + 4)), (0, .ref b), (1, .ref (ad 0)), (2, .ref (ad 28))]) hx hb d_law_692 hl (k := 3) rfl rfl (by decide) rfl (fun ls hl => ?_)
          refine lv_goto (tgt := 18) hx hb d_law_695 (by decide) ?_
          exact ih (x3 + 4) fo fr lr_17 mo_17 se_17 sk_17 sw_17 tr_17 ta tw co ct ma mn_18 ms_18 mb_18 mt mw mg md _ _ _ h (lv_sub hl [1, 2, 3, 0] rfl) hH
        · have h := h.2 c
          refine lv_iconst (v := 0) hx hb d_law_331 (by decide) ?_
          exact h.elim
      · have h := h.2.2.2.2.2.2.2.2.2.2.1 c
        refine lv_tableIn (tgt := 333) hx hb d_law_32 (by rw [c]; decide) (by rw [c]; decide) (by rw [c]; rfl) (by decide) ?_
        refine lv_aload_n hx hb d_law_333 rfl (lv_at hl 1 rfl) ?_
        refine lv_aload_n hx hb d_law_334 rfl (lv_at hl 0 rfl) ?_
        refine lv_iload_n hx hb d_law_335 rfl (lv_at hl 3 rfl) ?_
        refine lv_iconst (v := 1) hx hb d_law_336 (by decide) ?_
        refine lv_iadd hx hb d_law_337 ?_
        obtain ⟨hi, h⟩ := h
        refine va_sld hx hb hX hbl hbA hH.2.2 hi d_law_338 ?_
        refine q_calli (rest := []) (ws' := fun u : tRows × tMods × tSear × tClash × (Nat → Int32) × tTrail => [c_PC ad, c_FO ad cA fo, c_FR ad cA fr, c_LR ad cA u.1, c_MO ad cA u.2.1, c_SE ad cA u.2.2.1 u.2.2.2.1 u.2.2.2.2.1, c_TR ad cA u.2.2.2.2.2, c_TA ad cA ta tw, c_CO ad cA co ct, c_RE ad cA ma mn ms mb mt mw mg md].flatten) C0 hH hA (c_PC_forced l dC dI cA ad (xs (x3 + 1).toNatClampNeg) fo fr lr mo se sk sw tr _ _ h) Y_PC_forced k_451 0 rfl hc_0 (q_pg [0, 1, 2, 3, 4, 5, 6] [7, 8, 9] [3, 4, 5, 6, 7, 8, 9, 0, 1, 2] 10 7 rfl (by decide) rfl (fun _ => rfl) rfl (by decide) (fun _ => rfl)) ⟨Nat.le_of_ble_eq_true rfl, Nat.le_of_ble_eq_true rfl⟩ rfl rfl (Nat.le_of_ble_eq_true rfl) hl.1 d_law_339 ⟨Nat.le_of_ble_eq_true rfl, Nat.le_of_ble_eq_true rfl⟩ (fun r_19 u_19 H locs h hH => ?_)
        obtain ⟨lr_19, mo_19, se_19, sk_19, sw_19, tr_19⟩ := u_19
        try dsimp only at h
        have hH : q_H dC dI (fun q : Nat => s.heap.size ≤ q) s.heap H locs ([c_PC ad, c_FO ad cA fo, c_FR ad cA fr, c_LR ad cA lr_19, c_MO ad cA mo_19, c_SE ad cA se_19 sk_19 sw_19, c_TR ad cA tr_19, c_TA ad cA ta tw, c_CO ad cA co ct, c_RE ad cA ma mn ms mb mt mw mg md].flatten) := hH
        refine lv_aload_n hx hb d_law_342 rfl (lv_at hl 2 rfl) ?_
        refine lv_aload_n hx hb d_law_343 rfl (lv_at hl 0 rfl) ?_
        refine lv_iload_n hx hb d_law_344 rfl (lv_at hl 3 rfl) ?_
        refine lv_iconst (v := 1) hx hb d_law_345 (by decide) ?_
        refine lv_iadd hx hb d_law_346 ?_
        obtain ⟨hi, h⟩ := h
        refine va_sld hx hb hX hbl hbA hH.2.2 hi d_law_347 ?_
        refine q_calli (rest := [.int r_19]) (ws' := fun u : mSat => [c_PC ad, c_FO ad cA fo, c_FR ad cA fr, c_LR ad cA lr_19, c_MO ad cA mo_19, c_SE ad cA se_19 sk_19 sw_19, c_TR ad cA tr_19, c_TA ad cA ta tw, c_CO ad cA co ct, c_RE ad cA ma mn u mb mt mw mg md].flatten) C0 hH hA (c_Ref_forced l dC dI cA ad (xs (x3 + 1).toNatClampNeg) ma mn ms mb mt mw mg md _ _ h) Y_Ref_forced k_800 28 rfl hc_8 (q_pg [9] [0, 1, 2, 3, 4, 5, 6, 7, 8] [0, 1, 2, 3, 4, 5, 6, 7, 8, 9] 10 1 rfl (by decide) rfl (fun _ => rfl) rfl (by decide) (fun _ => rfl)) ⟨Nat.le_of_ble_eq_true rfl, Nat.le_of_ble_eq_true rfl⟩ rfl rfl (Nat.le_of_ble_eq_true rfl) hl.1 d_law_348 ⟨Nat.le_of_ble_eq_true rfl, Nat.le_of_ble_eq_true rfl⟩ (fun r_20 u_20 H locs h hH => ?_)
        obtain ⟨ms_20, rfl⟩ : ∃ z, z = u_20 := ⟨_, rfl⟩
        try dsimp only at h
        have hH : q_H dC dI (fun q : Nat => s.heap.size ≤ q) s.heap H locs ([c_PC ad, c_FO ad cA fo, c_FR ad cA fr, c_LR ad cA lr_19, c_MO ad cA mo_19, c_SE ad cA se_19 sk_19 sw_19, c_TR ad cA tr_19, c_TA ad cA ta tw, c_CO ad cA co ct, c_RE ad cA ma mn ms_20 mb mt mw mg md].flatten) := hH
        refine lv_icmp_eq (tgt := 692) hx hb d_law_351 (by decide) (fun c => ?_) (fun c => ?_)
        · have h := h.1 c
          refine lv_iinc (v := (x3 + 4)) (lv' := [(3, .int (x3 + 4)), (0, .ref b), (1, .ref (ad 0)), (2, .ref (ad 28))]) hx hb d_law_692 hl (k := 3) rfl rfl (by decide) rfl (fun ls hl => ?_)
          refine lv_goto (tgt := 18) hx hb d_law_695 (by decide) ?_
          exact ih (x3 + 4) fo fr lr_19 mo_19 se_19 sk_19 sw_19 tr_19 ta tw co ct ma mn ms_20 mb mt mw mg md _ _ _ h (lv_sub hl [1, 2, 3, 0] rfl) hH
        · have h := h.2 c
          refine lv_iconst (v := 0) hx hb d_law_354 (by decide) ?_
          exact h.elim
      · have h := h.2.2.2.2.2.2.2.2.2.2.2.1 c
        refine lv_tableIn (tgt := 356) hx hb d_law_32 (by rw [c]; decide) (by rw [c]; decide) (by rw [c]; rfl) (by decide) ?_
        refine lv_aload_n hx hb d_law_356 rfl (lv_at hl 1 rfl) ?_
        refine q_calli (rest := []) (ws' := fun u : tRows × tMods × tSear × tClash × (Nat → Int32) × tTrail => [c_PC ad, c_FO ad cA fo, c_FR ad cA fr, c_LR ad cA u.1, c_MO ad cA u.2.1, c_SE ad cA u.2.2.1 u.2.2.2.1 u.2.2.2.2.1, c_TR ad cA u.2.2.2.2.2, c_TA ad cA ta tw, c_CO ad cA co ct, c_RE ad cA ma mn ms mb mt mw mg md].flatten) C0 hH hA (c_PC_culprit l dC dI cA ad fo fr lr mo se sk sw tr _ _ h) Y_PC_culprit k_455 0 rfl hc_0 (q_pg [0, 1, 2, 3, 4, 5, 6] [7, 8, 9] [3, 4, 5, 6, 7, 8, 9, 0, 1, 2] 10 7 rfl (by decide) rfl (fun _ => rfl) rfl (by decide) (fun _ => rfl)) ⟨Nat.le_of_ble_eq_true rfl, Nat.le_of_ble_eq_true rfl⟩ rfl rfl (Nat.le_of_ble_eq_true rfl) hl.1 d_law_357 ⟨Nat.le_of_ble_eq_true rfl, Nat.le_of_ble_eq_true rfl⟩ (fun r_21 u_21 H locs h hH => ?_)
        obtain ⟨lr_21, mo_21, se_21, sk_21, sw_21, tr_21⟩ := u_21
        try dsimp only at h
        have hH : q_H dC dI (fun q : Nat => s.heap.size ≤ q) s.heap H locs ([c_PC ad, c_FO ad cA fo, c_FR ad cA fr, c_LR ad cA lr_21, c_MO ad cA mo_21, c_SE ad cA se_21 sk_21 sw_21, c_TR ad cA tr_21, c_TA ad cA ta tw, c_CO ad cA co ct, c_RE ad cA ma mn ms mb mt mw mg md].flatten) := hH
        refine lv_aload_n hx hb d_law_360 rfl (lv_at hl 2 rfl) ?_
        refine q_calli (rest := [.int r_21]) (ws' := fun u : mSat => [c_PC ad, c_FO ad cA fo, c_FR ad cA fr, c_LR ad cA lr_21, c_MO ad cA mo_21, c_SE ad cA se_21 sk_21 sw_21, c_TR ad cA tr_21, c_TA ad cA ta tw, c_CO ad cA co ct, c_RE ad cA ma mn u mb mt mw mg md].flatten) C0 hH hA (c_Ref_culprit l dC dI cA ad ma mn ms mb mt mw mg md _ _ h) Y_Ref_culprit k_804 28 rfl hc_8 (q_pg [9] [0, 1, 2, 3, 4, 5, 6, 7, 8] [0, 1, 2, 3, 4, 5, 6, 7, 8, 9] 10 1 rfl (by decide) rfl (fun _ => rfl) rfl (by decide) (fun _ => rfl)) ⟨Nat.le_of_ble_eq_true rfl, Nat.le_of_ble_eq_true rfl⟩ rfl rfl (Nat.le_of_ble_eq_true rfl) hl.1 d_law_361 ⟨Nat.le_of_ble_eq_true rfl, Nat.le_of_ble_eq_true rfl⟩ (fun r_22 u_22 H locs h hH => ?_)
        obtain ⟨ms_22, rfl⟩ : ∃ z, z = u_22 := ⟨_, rfl⟩
        try dsimp only at h
        have hH : q_H dC dI (fun q : Nat => s.heap.size ≤ q) s.heap H locs ([c_PC ad, c_FO ad cA fo, c_FR ad cA fr, c_LR ad cA lr_21, c_MO ad cA mo_21, c_SE ad cA se_21 sk_21 sw_21, c_TR ad cA tr_21, c_TA ad cA ta tw, c_CO ad cA co ct, c_RE ad cA ma mn ms_22 mb mt mw mg md].flatten) := hH
        refine lv_icmp_eq (tgt := 692) hx hb d_law_364 (by decide) (fun c => ?_) (fun c => ?_)
        · have h := h.1 c
          refine lv_iinc (v := (x3 + 4)) (lv' := [(3, .int (x3 + 4)), (0, .ref b), (1, .ref (ad 0)), (2, .ref (ad 28))]) hx hb d_law_692 hl (k := 3) rfl rfl (by decide) rfl (fun ls hl => ?_)
          refine lv_goto (tgt := 18) hx hb d_law_695 (by decide) ?_
          exact ih (x3 + 4) fo fr lr_21 mo_21 se_21 sk_21 sw_21 tr_21 ta tw co ct ma mn ms_22 mb mt mw mg md _ _ _ h (lv_sub hl [1, 2, 3, 0] rfl) hH
        · have h := h.2 c
          refine lv_iconst (v := 0) hx hb d_law_367 (by decide) ?_
          exact h.elim
      · have h := h.2.2.2.2.2.2.2.2.2.2.2.2.1 c
        refine lv_tableIn (tgt := 369) hx hb d_law_32 (by rw [c]; decide) (by rw [c]; decide) (by rw [c]; rfl) (by decide) ?_
        refine lv_aload_n hx hb d_law_369 rfl (lv_at hl 1 rfl) ?_
        refine lv_aload_n hx hb d_law_370 rfl (lv_at hl 0 rfl) ?_
        refine lv_iload_n hx hb d_law_371 rfl (lv_at hl 3 rfl) ?_
        refine lv_iconst (v := 1) hx hb d_law_372 (by decide) ?_
        refine lv_iadd hx hb d_law_373 ?_
        obtain ⟨hi, h⟩ := h
        refine va_sld hx hb hX hbl hbA hH.2.2 hi d_law_374 ?_
        refine q_calli (rest := []) (ws' := fun u : tTask × tWays × tTold => [c_PC ad, c_FO ad cA fo, c_FR ad cA fr, c_LR ad cA lr, c_MO ad cA mo, c_SE ad cA se sk sw, c_TR ad cA tr, c_TA ad cA u.1 u.2.1, c_CO ad cA co u.2.2, c_RE ad cA ma mn ms mb mt mw mg md].flatten) C0 hH hA (c_PC_facts l dC dI cA ad (xs (x3 + 1).toNatClampNeg) ta tw co ct _ _ h) Y_PC_facts k_467 0 rfl hc_0 (q_pg [0, 7, 8] [1, 2, 3, 4, 5, 6, 9] [7, 0, 1, 2, 3, 4, 5, 8, 9, 6] 10 3 rfl (by decide) rfl (fun _ => rfl) rfl (by decide) (fun _ => rfl)) ⟨Nat.le_of_ble_eq_true rfl, Nat.le_of_ble_eq_true rfl⟩ rfl rfl (Nat.le_of_ble_eq_true rfl) hl.1 d_law_375 ⟨Nat.le_of_ble_eq_true rfl, Nat.le_of_ble_eq_true rfl⟩ (fun r_23 u_23 H locs h hH => ?_)
        obtain ⟨ta_23, tw_23, ct_23⟩ := u_23
        try dsimp only at h
        have hH : q_H dC dI (fun q : Nat => s.heap.size ≤ q) s.heap H locs ([c_PC ad, c_FO ad cA fo, c_FR ad cA fr, c_LR ad cA lr, c_MO ad cA mo, c_SE ad cA se sk sw, c_TR ad cA tr, c_TA ad cA ta_23 tw_23, c_CO ad cA co ct_23, c_RE ad cA ma mn ms mb mt mw mg md].flatten) := hH
        refine lv_aload_n hx hb d_law_378 rfl (lv_at hl 2 rfl) ?_
        refine lv_aload_n hx hb d_law_379 rfl (lv_at hl 0 rfl) ?_
        refine lv_iload_n hx hb d_law_380 rfl (lv_at hl 3 rfl) ?_
        refine lv_iconst (v := 1) hx hb d_law_381 (by decide) ?_
        refine lv_iadd hx hb d_law_382 ?_
        obtain ⟨hi, h⟩ := h
        refine va_sld hx hb hX hbl hbA hH.2.2 hi d_law_383 ?_
        refine q_calli (rest := [.int r_23]) (ws' := fun u : mTask => [c_PC ad, c_FO ad cA fo, c_FR ad cA fr, c_LR ad cA lr, c_MO ad cA mo, c_SE ad cA se sk sw, c_TR ad cA tr, c_TA ad cA ta_23 tw_23, c_CO ad cA co ct_23, c_RE ad cA ma mn ms mb u mw mg md].flatten) C0 hH hA (c_Ref_facts l dC dI cA ad (xs (x3 + 1).toNatClampNeg) ma mn ms mb mt mw mg md _ _ h) Y_Ref_facts k_808 28 rfl hc_8 (q_pg [9] [0, 1, 2, 3, 4, 5, 6, 7, 8] [0, 1, 2, 3, 4, 5, 6, 7, 8, 9] 10 1 rfl (by decide) rfl (fun _ => rfl) rfl (by decide) (fun _ => rfl)) ⟨Nat.le_of_ble_eq_true rfl, Nat.le_of_ble_eq_true rfl⟩ rfl rfl (Nat.le_of_ble_eq_true rfl) hl.1 d_law_384 ⟨Nat.le_of_ble_eq_true rfl, Nat.le_of_ble_eq_true rfl⟩ (fun r_24 u_24 H locs h hH => ?_)
        obtain ⟨mt_24, rfl⟩ : ∃ z, z = u_24 := ⟨_, rfl⟩
        try dsimp only at h
        have hH : q_H dC dI (fun q : Nat => s.heap.size ≤ q) s.heap H locs ([c_PC ad, c_FO ad cA fo, c_FR ad cA fr, c_LR ad cA lr, c_MO ad cA mo, c_SE ad cA se sk sw, c_TR ad cA tr, c_TA ad cA ta_23 tw_23, c_CO ad cA co ct_23, c_RE ad cA ma mn ms mb mt_24 mw mg md].flatten) := hH
        refine lv_icmp_eq (tgt := 692) hx hb d_law_387 (by decide) (fun c => ?_) (fun c => ?_)
        · have h := h.1 c
          refine lv_iinc (v := (x3 + 4)) (lv' := [(3, .int (x3 + 4)), (0, .ref b), (1, .ref (ad 0)), (2, .ref (ad 28))]) hx hb d_law_692 hl (k := 3) rfl rfl (by decide) rfl (fun ls hl => ?_)
          refine lv_goto (tgt := 18) hx hb d_law_695 (by decide) ?_
          exact ih (x3 + 4) fo fr lr mo se sk sw tr ta_23 tw_23 co ct_23 ma mn ms mb mt_24 mw mg md _ _ _ h (lv_sub hl [1, 2, 3, 0] rfl) hH
        · have h := h.2 c
          refine lv_iconst (v := 0) hx hb d_law_390 (by decide) ?_
          exact h.elim
      · have h := h.2.2.2.2.2.2.2.2.2.2.2.2.2.1 c
        refine lv_tableIn (tgt := 392) hx hb d_law_32 (by rw [c]; decide) (by rw [c]; decide) (by rw [c]; rfl) (by decide) ?_
        refine lv_aload_n hx hb d_law_392 rfl (lv_at hl 1 rfl) ?_
        refine lv_aload_n hx hb d_law_393 rfl (lv_at hl 0 rfl) ?_
        refine lv_iload_n hx hb d_law_394 rfl (lv_at hl 3 rfl) ?_
        refine lv_iconst (v := 1) hx hb d_law_395 (by decide) ?_
        refine lv_iadd hx hb d_law_396 ?_
        obtain ⟨hi, h⟩ := h
        refine va_sld hx hb hX hbl hbA hH.2.2 hi d_law_397 ?_
        refine lv_aload_n hx hb d_law_398 rfl (lv_at hl 0 rfl) ?_
        refine lv_iload_n hx hb d_law_399 rfl (lv_at hl 3 rfl) ?_
        refine lv_iconst (v := 2) hx hb d_law_400 (by decide) ?_
        refine lv_iadd hx hb d_law_401 ?_
        obtain ⟨hi, h⟩ := h
        refine va_sld hx hb hX hbl hbA hH.2.2 hi d_law_402 ?_
        refine lv_aload_n hx hb d_law_403 rfl (lv_at hl 0 rfl) ?_
        refine lv_iload_n hx hb d_law_404 rfl (lv_at hl 3 rfl) ?_
        refine lv_iconst (v := 3) hx hb d_law_405 (by decide) ?_
        refine lv_iadd hx hb d_law_406 ?_
        obtain ⟨hi, h⟩ := h
        refine va_sld hx hb hX hbl hbA hH.2.2 hi d_law_407 ?_
        refine q_calli (rest := []) (ws' := fun u : tTask × tWays × tTold => [c_PC ad, c_FO ad cA fo, c_FR ad cA fr, c_LR ad cA lr, c_MO ad cA mo, c_SE ad cA se sk sw, c_TR ad cA tr, c_TA ad cA u.1 u.2.1, c_CO ad cA co u.2.2, c_RE ad cA ma mn ms mb mt mw mg md].flatten) C0 hH hA (c_PC_action l dC dI cA ad (xs (x3 + 1).toNatClampNeg) (xs (x3 + 2).toNatClampNeg) (xs (x3 + 3).toNatClampNeg) ta tw co ct _ _ h) Y_PC_action k_479 0 rfl hc_0 (q_pg [0, 7, 8] [1, 2, 3, 4, 5, 6, 9] [7, 0, 1, 2, 3, 4, 5, 8, 9, 6] 10 3 rfl (by decide) rfl (fun _ => rfl) rfl (by decide) (fun _ => rfl)) ⟨Nat.le_of_ble_eq_true rfl, Nat.le_of_ble_eq_true rfl⟩ rfl rfl (Nat.le_of_ble_eq_true rfl) hl.1 d_law_408 ⟨Nat.le_of_ble_eq_true rfl, Nat.le_of_ble_eq_true rfl⟩ (fun r_25 u_25 H locs h hH => ?_)
        obtain ⟨ta_25, tw_25, ct_25⟩ := u_25
        try dsimp only at h
        have hH : q_H dC dI (fun q : Nat => s.heap.size ≤ q) s.heap H locs ([c_PC ad, c_FO ad cA fo, c_FR ad cA fr, c_LR ad cA lr, c_MO ad cA mo, c_SE ad cA se sk sw, c_TR ad cA tr, c_TA ad cA ta_25 tw_25, c_CO ad cA co ct_25, c_RE ad cA ma mn ms mb mt mw mg md].flatten) := hH
        refine lv_aload_n hx hb d_law_411 rfl (lv_at hl 2 rfl) ?_
        refine lv_aload_n hx hb d_law_412 rfl (lv_at hl 0 rfl) ?_
        refine lv_iload_n hx hb d_law_413 rfl (lv_at hl 3 rfl) ?_
        refine lv_iconst (v := 1) hx hb d_law_414 (by decide) ?_
        refine lv_iadd hx hb d_law_415 ?_
        obtain ⟨hi, h⟩ := h
        refine va_sld hx hb hX hbl hbA hH.2.2 hi d_law_416 ?_
        refine lv_aload_n hx hb d_law_417 rfl (lv_at hl 0 rfl) ?_
        refine lv_iload_n hx hb d_law_418 rfl (lv_at hl 3 rfl) ?_
        refine lv_iconst (v := 2) hx hb d_law_419 (by decide) ?_
        refine lv_iadd hx hb d_law_420 ?_
        obtain ⟨hi, h⟩ := h
        refine va_sld hx hb hX hbl hbA hH.2.2 hi d_law_421 ?_
        refine lv_aload_n hx hb d_law_422 rfl (lv_at hl 0 rfl) ?_
        refine lv_iload_n hx hb d_law_423 rfl (lv_at hl 3 rfl) ?_
        refine lv_iconst (v := 3) hx hb d_law_424 (by decide) ?_
        refine lv_iadd hx hb d_law_425 ?_
        obtain ⟨hi, h⟩ := h
        refine va_sld hx hb hX hbl hbA hH.2.2 hi d_law_426 ?_
        refine q_calli (rest := [.int r_25]) (ws' := fun u : mTask => [c_PC ad, c_FO ad cA fo, c_FR ad cA fr, c_LR ad cA lr, c_MO ad cA mo, c_SE ad cA se sk sw, c_TR ad cA tr, c_TA ad cA ta_25 tw_25, c_CO ad cA co ct_25, c_RE ad cA ma mn ms mb u mw mg md].flatten) C0 hH hA (c_Ref_action l dC dI cA ad (xs (x3 + 1).toNatClampNeg) (xs (x3 + 2).toNatClampNeg) (xs (x3 + 3).toNatClampNeg) ma mn ms mb mt mw mg md _ _ h) Y_Ref_action k_812 28 rfl hc_8 (q_pg [9] [0, 1, 2, 3, 4, 5, 6, 7, 8] [0, 1, 2, 3, 4, 5, 6, 7, 8, 9] 10 1 rfl (by decide) rfl (fun _ => rfl) rfl (by decide) (fun _ => rfl)) ⟨Nat.le_of_ble_eq_true rfl, Nat.le_of_ble_eq_true rfl⟩ rfl rfl (Nat.le_of_ble_eq_true rfl) hl.1 d_law_427 ⟨Nat.le_of_ble_eq_true rfl, Nat.le_of_ble_eq_true rfl⟩ (fun r_26 u_26 H locs h hH => ?_)
        obtain ⟨mt_26, rfl⟩ : ∃ z, z = u_26 := ⟨_, rfl⟩
        try dsimp only at h
        have hH : q_H dC dI (fun q : Nat => s.heap.size ≤ q) s.heap H locs ([c_PC ad, c_FO ad cA fo, c_FR ad cA fr, c_LR ad cA lr, c_MO ad cA mo, c_SE ad cA se sk sw, c_TR ad cA tr, c_TA ad cA ta_25 tw_25, c_CO ad cA co ct_25, c_RE ad cA ma mn ms mb mt_26 mw mg md].flatten) := hH
        refine lv_icmp_eq (tgt := 692) hx hb d_law_430 (by decide) (fun c => ?_) (fun c => ?_)
        · have h := h.1 c
          refine lv_iinc (v := (x3 + 4)) (lv' := [(3, .int (x3 + 4)), (0, .ref b), (1, .ref (ad 0)), (2, .ref (ad 28))]) hx hb d_law_692 hl (k := 3) rfl rfl (by decide) rfl (fun ls hl => ?_)
          refine lv_goto (tgt := 18) hx hb d_law_695 (by decide) ?_
          exact ih (x3 + 4) fo fr lr mo se sk sw tr ta_25 tw_25 co ct_25 ma mn ms mb mt_26 mw mg md _ _ _ h (lv_sub hl [1, 2, 3, 0] rfl) hH
        · have h := h.2 c
          refine lv_iconst (v := 0) hx hb d_law_433 (by decide) ?_
          exact h.elim
      · have h := h.2.2.2.2.2.2.2.2.2.2.2.2.2.2.1 c
        refine lv_tableIn (tgt := 435) hx hb d_law_32 (by rw [c]; decide) (by rw [c]; decide) (by rw [c]; rfl) (by decide) ?_
        refine lv_aload_n hx hb d_law_435 rfl (lv_at hl 1 rfl) ?_
        refine lv_aload_n hx hb d_law_436 rfl (lv_at hl 0 rfl) ?_
        refine lv_iload_n hx hb d_law_437 rfl (lv_at hl 3 rfl) ?_
        refine lv_iconst (v := 1) hx hb d_law_438 (by decide) ?_
        refine lv_iadd hx hb d_law_439 ?_
        obtain ⟨hi, h⟩ := h
        refine va_sld hx hb hX hbl hbA hH.2.2 hi d_law_440 ?_
        refine lv_aload_n hx hb d_law_441 rfl (lv_at hl 0 rfl) ?_
        refine lv_iload_n hx hb d_law_442 rfl (lv_at hl 3 rfl) ?_
        refine lv_iconst (v := 2) hx hb d_law_443 (by decide) ?_
        refine lv_iadd hx hb d_law_444 ?_
        obtain ⟨hi, h⟩ := h
        refine va_sld hx hb hX hbl hbA hH.2.2 hi d_law_445 ?_
        refine q_calli (rest := []) (ws' := fun u : tTask × tWays × tTold => [c_PC ad, c_FO ad cA fo, c_FR ad cA fr, c_LR ad cA lr, c_MO ad cA mo, c_SE ad cA se sk sw, c_TR ad cA tr, c_TA ad cA u.1 u.2.1, c_CO ad cA co u.2.2, c_RE ad cA ma mn ms mb mt mw mg md].flatten) C0 hH hA (c_PC_set l dC dI cA ad (xs (x3 + 1).toNatClampNeg) (xs (x3 + 2).toNatClampNeg) ta tw co ct _ _ h) Y_PC_set k_491 0 rfl hc_0 (q_pg [0, 7, 8] [1, 2, 3, 4, 5, 6, 9] [7, 0, 1, 2, 3, 4, 5, 8, 9, 6] 10 3 rfl (by decide) rfl (fun _ => rfl) rfl (by decide) (fun _ => rfl)) ⟨Nat.le_of_ble_eq_true rfl, Nat.le_of_ble_eq_true rfl⟩ rfl rfl (Nat.le_of_ble_eq_true rfl) hl.1 d_law_446 ⟨Nat.le_of_ble_eq_true rfl, Nat.le_of_ble_eq_true rfl⟩ (fun r_27 u_27 H locs h hH => ?_)
        obtain ⟨ta_27, tw_27, ct_27⟩ := u_27
        try dsimp only at h
        have hH : q_H dC dI (fun q : Nat => s.heap.size ≤ q) s.heap H locs ([c_PC ad, c_FO ad cA fo, c_FR ad cA fr, c_LR ad cA lr, c_MO ad cA mo, c_SE ad cA se sk sw, c_TR ad cA tr, c_TA ad cA ta_27 tw_27, c_CO ad cA co ct_27, c_RE ad cA ma mn ms mb mt mw mg md].flatten) := hH
        refine lv_aload_n hx hb d_law_449 rfl (lv_at hl 2 rfl) ?_
        refine lv_aload_n hx hb d_law_450 rfl (lv_at hl 0 rfl) ?_
        refine lv_iload_n hx hb d_law_451 rfl (lv_at hl 3 rfl) ?_
        refine lv_iconst (v := 1) hx hb d_law_452 (by decide) ?_
        refine lv_iadd hx hb d_law_453 ?_
        obtain ⟨hi, h⟩ := h
        refine va_sld hx hb hX hbl hbA hH.2.2 hi d_law_454 ?_
        refine lv_aload_n hx hb d_law_455 rfl (lv_at hl 0 rfl) ?_
        refine lv_iload_n hx hb d_law_456 rfl (lv_at hl 3 rfl) ?_
        refine lv_iconst (v := 2) hx hb d_law_457 (by decide) ?_
        refine lv_iadd hx hb d_law_458 ?_
        obtain ⟨hi, h⟩ := h
        refine va_sld hx hb hX hbl hbA hH.2.2 hi d_law_459 ?_
        refine q_calli (rest := [.int r_27]) (ws' := fun u : mTask => [c_PC ad, c_FO ad cA fo, c_FR ad cA fr, c_LR ad cA lr, c_MO ad cA mo, c_SE ad cA se sk sw, c_TR ad cA tr, c_TA ad cA ta_27 tw_27, c_CO ad cA co ct_27, c_RE ad cA ma mn ms mb u mw mg md].flatten) C0 hH hA (c_Ref_set l dC dI cA ad (xs (x3 + 1).toNatClampNeg) (xs (x3 + 2).toNatClampNeg) ma mn ms mb mt mw mg md _ _ h) Y_Ref_set k_820 28 rfl hc_8 (q_pg [9] [0, 1, 2, 3, 4, 5, 6, 7, 8] [0, 1, 2, 3, 4, 5, 6, 7, 8, 9] 10 1 rfl (by decide) rfl (fun _ => rfl) rfl (by decide) (fun _ => rfl)) ⟨Nat.le_of_ble_eq_true rfl, Nat.le_of_ble_eq_true rfl⟩ rfl rfl (Nat.le_of_ble_eq_true rfl) hl.1 d_law_460 ⟨Nat.le_of_ble_eq_true rfl, Nat.le_of_ble_eq_true rfl⟩ (fun r_28 u_28 H locs h hH => ?_)
        obtain ⟨mt_28, rfl⟩ : ∃ z, z = u_28 := ⟨_, rfl⟩
        try dsimp only at h
        have hH : q_H dC dI (fun q : Nat => s.heap.size ≤ q) s.heap H locs ([c_PC ad, c_FO ad cA fo, c_FR ad cA fr, c_LR ad cA lr, c_MO ad cA mo, c_SE ad cA se sk sw, c_TR ad cA tr, c_TA ad cA ta_27 tw_27, c_CO ad cA co ct_27, c_RE ad cA ma mn ms mb mt_28 mw mg md].flatten) := hH
        refine lv_icmp_eq (tgt := 692) hx hb d_law_463 (by decide) (fun c => ?_) (fun c => ?_)
        · have h := h.1 c
          refine lv_iinc (v := (x3 + 4)) (lv' := [(3, .int (x3 + 4)), (0, .ref b), (1, .ref (ad 0)), (2, .ref (ad 28))]) hx hb d_law_692 hl (k := 3) rfl rfl (by decide) rfl (fun ls hl => ?_)
          refine lv_goto (tgt := 18) hx hb d_law_695 (by decide) ?_
          exact ih (x3 + 4) fo fr lr mo se sk sw tr ta_27 tw_27 co ct_27 ma mn ms mb mt_28 mw mg md _ _ _ h (lv_sub hl [1, 2, 3, 0] rfl) hH
        · have h := h.2 c
          refine lv_iconst (v := 0) hx hb d_law_466 (by decide) ?_
          exact h.elim
      · have h := h.2.2.2.2.2.2.2.2.2.2.2.2.2.2.2.1 c
        refine lv_tableIn (tgt := 468) hx hb d_law_32 (by rw [c]; decide) (by rw [c]; decide) (by rw [c]; rfl) (by decide) ?_
        refine lv_aload_n hx hb d_law_468 rfl (lv_at hl 1 rfl) ?_
        refine lv_aload_n hx hb d_law_469 rfl (lv_at hl 0 rfl) ?_
        refine lv_iload_n hx hb d_law_470 rfl (lv_at hl 3 rfl) ?_
        refine lv_iconst (v := 1) hx hb d_law_471 (by decide) ?_
        refine lv_iadd hx hb d_law_472 ?_
        obtain ⟨hi, h⟩ := h
        refine va_sld hx hb hX hbl hbA hH.2.2 hi d_law_473 ?_
        refine q_calli (rest := []) (ws' := fun u : tWays => [c_PC ad, c_FO ad cA fo, c_FR ad cA fr, c_LR ad cA lr, c_MO ad cA mo, c_SE ad cA se sk sw, c_TR ad cA tr, c_TA ad cA ta u, c_CO ad cA co ct, c_RE ad cA ma mn ms mb mt mw mg md].flatten) C0 hH hA (c_PC_plan l dC dI cA ad (xs (x3 + 1).toNatClampNeg) ta tw _ _ h) Y_PC_plan k_503 0 rfl hc_0 (q_pg [0, 7] [1, 2, 3, 4, 5, 6, 8, 9] [8, 0, 1, 2, 3, 4, 5, 9, 6, 7] 10 2 rfl (by decide) rfl (fun _ => rfl) rfl (by decide) (fun _ => rfl)) ⟨Nat.le_of_ble_eq_true rfl, Nat.le_of_ble_eq_true rfl⟩ rfl rfl (Nat.le_of_ble_eq_true rfl) hl.1 d_law_474 ⟨Nat.le_of_ble_eq_true rfl, Nat.le_of_ble_eq_true rfl⟩ (fun r_29 u_29 H locs h hH => ?_)
        obtain ⟨tw_29, rfl⟩ : ∃ z, z = u_29 := ⟨_, rfl⟩
        try dsimp only at h
        have hH : q_H dC dI (fun q : Nat => s.heap.size ≤ q) s.heap H locs ([c_PC ad, c_FO ad cA fo, c_FR ad cA fr, c_LR ad cA lr, c_MO ad cA mo, c_SE ad cA se sk sw, c_TR ad cA tr, c_TA ad cA ta tw_29, c_CO ad cA co ct, c_RE ad cA ma mn ms mb mt mw mg md].flatten) := hH
        refine lv_aload_n hx hb d_law_477 rfl (lv_at hl 2 rfl) ?_
        refine lv_aload_n hx hb d_law_478 rfl (lv_at hl 0 rfl) ?_
        refine lv_iload_n hx hb d_law_479 rfl (lv_at hl 3 rfl) ?_
        refine lv_iconst (v := 1) hx hb d_law_480 (by decide) ?_
        refine lv_iadd hx hb d_law_481 ?_
        obtain ⟨hi, h⟩ := h
        refine va_sld hx hb hX hbl hbA hH.2.2 hi d_law_482 ?_
        refine q_calli (rest := [.int r_29]) (ws' := fun u : (Nat → Int32) => [c_PC ad, c_FO ad cA fo, c_FR ad cA fr, c_LR ad cA lr, c_MO ad cA mo, c_SE ad cA se sk sw, c_TR ad cA tr, c_TA ad cA ta tw_29, c_CO ad cA co ct, c_RE ad cA ma mn ms mb mt u mg md].flatten) C0 hH hA (c_Ref_plan l dC dI cA ad (xs (x3 + 1).toNatClampNeg) ma mn ms mb mt mw mg md _ _ h) Y_Ref_plan k_824 28 rfl hc_8 (q_pg [9] [0, 1, 2, 3, 4, 5, 6, 7, 8] [0, 1, 2, 3, 4, 5, 6, 7, 8, 9] 10 1 rfl (by decide) rfl (fun _ => rfl) rfl (by decide) (fun _ => rfl)) ⟨Nat.le_of_ble_eq_true rfl, Nat.le_of_ble_eq_true rfl⟩ rfl rfl (Nat.le_of_ble_eq_true rfl) hl.1 d_law_483 ⟨Nat.le_of_ble_eq_true rfl, Nat.le_of_ble_eq_true rfl⟩ (fun r_30 u_30 H locs h hH => ?_)
        obtain ⟨mw_30, rfl⟩ : ∃ z, z = u_30 := ⟨_, rfl⟩
        try dsimp only at h
        have hH : q_H dC dI (fun q : Nat => s.heap.size ≤ q) s.heap H locs ([c_PC ad, c_FO ad cA fo, c_FR ad cA fr, c_LR ad cA lr, c_MO ad cA mo, c_SE ad cA se sk sw, c_TR ad cA tr, c_TA ad cA ta tw_29, c_CO ad cA co ct, c_RE ad cA ma mn ms mb mt mw_30 mg md].flatten) := hH
        refine lv_icmp_eq (tgt := 692) hx hb d_law_486 (by decide) (fun c => ?_) (fun c => ?_)
        · have h := h.1 c
          refine lv_iinc (v := (x3 + 4)) (lv' := [(3, .int (x3 + 4)), (0, .ref b), (1, .ref (ad 0)), (2, .ref (ad 28))]) hx hb d_law_692 hl (k := 3) rfl rfl (by decide) rfl (fun ls hl => ?_)
          refine lv_goto (tgt := 18) hx hb d_law_695 (by decide) ?_
          exact ih (x3 + 4) fo fr lr mo se sk sw tr ta tw_29 co ct ma mn ms mb mt mw_30 mg md _ _ _ h (lv_sub hl [1, 2, 3, 0] rfl) hH
        · have h := h.2 c
          refine lv_iconst (v := 0) hx hb d_law_489 (by decide) ?_
          exact h.elim
      · have h := h.2.2.2.2.2.2.2.2.2.2.2.2.2.2.2.2.1 c
        refine lv_tableIn (tgt := 491) hx hb d_law_32 (by rw [c]; decide) (by rw [c]; decide) (by rw [c]; rfl) (by decide) ?_
        refine lv_aload_n hx hb d_law_491 rfl (lv_at hl 1 rfl) ?_
        refine lv_aload_n hx hb d_law_492 rfl (lv_at hl 0 rfl) ?_
        refine lv_iload_n hx hb d_law_493 rfl (lv_at hl 3 rfl) ?_
        refine lv_iconst (v := 1) hx hb d_law_494 (by decide) ?_
        refine lv_iadd hx hb d_law_495 ?_
        obtain ⟨hi, h⟩ := h
        refine va_sld hx hb hX hbl hbA hH.2.2 hi d_law_496 ?_
        refine lv_aload_n hx hb d_law_497 rfl (lv_at hl 0 rfl) ?_
        refine lv_iload_n hx hb d_law_498 rfl (lv_at hl 3 rfl) ?_
        refine lv_iconst (v := 2) hx hb d_law_499 (by decide) ?_
        refine lv_iadd hx hb d_law_500 ?_
        obtain ⟨hi, h⟩ := h
        refine va_sld hx hb hX hbl hbA hH.2.2 hi d_law_501 ?_
        refine q_calli (rest := []) (ws' := fun u : tWays => [c_PC ad, c_FO ad cA fo, c_FR ad cA fr, c_LR ad cA lr, c_MO ad cA mo, c_SE ad cA se sk sw, c_TR ad cA tr, c_TA ad cA ta u, c_CO ad cA co ct, c_RE ad cA ma mn ms mb mt mw mg md].flatten) C0 hH hA (c_PC_step l dC dI cA ad (xs (x3 + 1).toNatClampNeg) (xs (x3 + 2).toNatClampNeg) ta tw _ _ h) Y_PC_step k_527 0 rfl hc_0 (q_pg [0, 7] [1, 2, 3, 4, 5, 6, 8, 9] [8, 0, 1, 2, 3, 4, 5, 9, 6, 7] 10 2 rfl (by decide) rfl (fun _ => rfl) rfl (by decide) (fun _ => rfl)) ⟨Nat.le_of_ble_eq_true rfl, Nat.le_of_ble_eq_true rfl⟩ rfl rfl (Nat.le_of_ble_eq_true rfl) hl.1 d_law_502 ⟨Nat.le_of_ble_eq_true rfl, Nat.le_of_ble_eq_true rfl⟩ (fun r_31 u_31 H locs h hH => ?_)
        obtain ⟨tw_31, rfl⟩ : ∃ z, z = u_31 := ⟨_, rfl⟩
        try dsimp only at h
        have hH : q_H dC dI (fun q : Nat => s.heap.size ≤ q) s.heap H locs ([c_PC ad, c_FO ad cA fo, c_FR ad cA fr, c_LR ad cA lr, c_MO ad cA mo, c_SE ad cA se sk sw, c_TR ad cA tr, c_TA ad cA ta tw_31, c_CO ad cA co ct, c_RE ad cA ma mn ms mb mt mw mg md].flatten) := hH
        refine lv_aload_n hx hb d_law_505 rfl (lv_at hl 2 rfl) ?_
        refine lv_aload_n hx hb d_law_506 rfl (lv_at hl 0 rfl) ?_
        refine lv_iload_n hx hb d_law_507 rfl (lv_at hl 3 rfl) ?_
        refine lv_iconst (v := 1) hx hb d_law_508 (by decide) ?_
        refine lv_iadd hx hb d_law_509 ?_
        obtain ⟨hi, h⟩ := h
        refine va_sld hx hb hX hbl hbA hH.2.2 hi d_law_510 ?_
        refine lv_aload_n hx hb d_law_511 rfl (lv_at hl 0 rfl) ?_
        refine lv_iload_n hx hb d_law_512 rfl (lv_at hl 3 rfl) ?_
        refine lv_iconst (v := 2) hx hb d_law_513 (by decide) ?_
        refine lv_iadd hx hb d_law_514 ?_
        obtain ⟨hi, h⟩ := h
        refine va_sld hx hb hX hbl hbA hH.2.2 hi d_law_515 ?_
        refine q_calli (rest := [.int r_31]) (ws' := fun u : (Nat → Int32) × mGo => [c_PC ad, c_FO ad cA fo, c_FR ad cA fr, c_LR ad cA lr, c_MO ad cA mo, c_SE ad cA se sk sw, c_TR ad cA tr, c_TA ad cA ta tw_31, c_CO ad cA co ct, c_RE ad cA ma mn ms mb mt u.1 u.2 md].flatten) C0 hH hA (c_Ref_step l dC dI cA ad (xs (x3 + 1).toNatClampNeg) (xs (x3 + 2).toNatClampNeg) ma mn ms mb mt mw mg md _ _ h) Y_Ref_step k_847 28 rfl hc_8 (q_pg [9] [0, 1, 2, 3, 4, 5, 6, 7, 8] [0, 1, 2, 3, 4, 5, 6, 7, 8, 9] 10 1 rfl (by decide) rfl (fun _ => rfl) rfl (by decide) (fun _ => rfl)) ⟨Nat.le_of_ble_eq_true rfl, Nat.le_of_ble_eq_true rfl⟩ rfl rfl (Nat.le_of_ble_eq_true rfl) hl.1 d_law_516 ⟨Nat.le_of_ble_eq_true rfl, Nat.le_of_ble_eq_true rfl⟩ (fun r_32 u_32 H locs h hH => ?_)
        obtain ⟨mw_32, mg_32⟩ := u_32
        try dsimp only at h
        have hH : q_H dC dI (fun q : Nat => s.heap.size ≤ q) s.heap H locs ([c_PC ad, c_FO ad cA fo, c_FR ad cA fr, c_LR ad cA lr, c_MO ad cA mo, c_SE ad cA se sk sw, c_TR ad cA tr, c_TA ad cA ta tw_31, c_CO ad cA co ct, c_RE ad cA ma mn ms mb mt mw_32 mg_32 md].flatten) := hH
        refine lv_icmp_eq (tgt := 692) hx hb d_law_519 (by decide) (fun c => ?_) (fun c => ?_)
        · have h := h.1 c
          refine lv_iinc (v := (x3 + 4)) (lv' := [(3, .int (x3 + 4)), (0, .ref b), (1, .ref (ad 0)), (2, .ref (ad 28))]) hx hb d_law_692 hl (k := 3) rfl rfl (by decide) rfl (fun ls hl => ?_)
          refine lv_goto (tgt := 18) hx hb d_law_695 (by decide) ?_
          exact ih (x3 + 4) fo fr lr mo se sk sw tr ta tw_31 co ct ma mn ms mb mt mw_32 mg_32 md _ _ _ h (lv_sub hl [1, 2, 3, 0] rfl) hH
        · have h := h.2 c
          refine lv_iconst (v := 0) hx hb d_law_522 (by decide) ?_
          exact h.elim
      · have h := h.2.2.2.2.2.2.2.2.2.2.2.2.2.2.2.2.2.1 c
        refine lv_tableIn (tgt := 524) hx hb d_law_32 (by rw [c]; decide) (by rw [c]; decide) (by rw [c]; rfl) (by decide) ?_
        refine lv_aload_n hx hb d_law_524 rfl (lv_at hl 1 rfl) ?_
        refine lv_aload_n hx hb d_law_525 rfl (lv_at hl 0 rfl) ?_
        refine lv_iload_n hx hb d_law_526 rfl (lv_at hl 3 rfl) ?_
        refine lv_iconst (v := 1) hx hb d_law_527 (by decide) ?_
        refine lv_iadd hx hb d_law_528 ?_
        obtain ⟨hi, h⟩ := h
        refine va_sld hx hb hX hbl hbA hH.2.2 hi d_law_529 ?_
        refine lv_aload_n hx hb d_law_530 rfl (lv_at hl 0 rfl) ?_
        refine lv_iload_n hx hb d_law_531 rfl (lv_at hl 3 rfl) ?_
        refine lv_iconst (v := 2) hx hb d_law_532 (by decide) ?_
        refine lv_iadd hx hb d_law_533 ?_
        obtain ⟨hi, h⟩ := h
        refine va_sld hx hb hX hbl hbA hH.2.2 hi d_law_534 ?_
        refine q_calli (rest := []) (ws' := fun u : tWays => [c_PC ad, c_FO ad cA fo, c_FR ad cA fr, c_LR ad cA lr, c_MO ad cA mo, c_SE ad cA se sk sw, c_TR ad cA tr, c_TA ad cA ta u, c_CO ad cA co ct, c_RE ad cA ma mn ms mb mt mw mg md].flatten) C0 hH hA (c_PC_state l dC dI cA ad (xs (x3 + 1).toNatClampNeg) (xs (x3 + 2).toNatClampNeg) ta tw _ _ h) Y_PC_state k_541 0 rfl hc_0 (q_pg [0, 7] [1, 2, 3, 4, 5, 6, 8, 9] [8, 0, 1, 2, 3, 4, 5, 9, 6, 7] 10 2 rfl (by decide) rfl (fun _ => rfl) rfl (by decide) (fun _ => rfl)) ⟨Nat.le_of_ble_eq_true rfl, Nat.le_of_ble_eq_true rfl⟩ rfl rfl (Nat.le_of_ble_eq_true rfl) hl.1 d_law_535 ⟨Nat.le_of_ble_eq_true rfl, Nat.le_of_ble_eq_true rfl⟩ (fun r_33 u_33 H locs h hH => ?_)
        obtain ⟨tw_33, rfl⟩ : ∃ z, z = u_33 := ⟨_, rfl⟩
        try dsimp only at h
        have hH : q_H dC dI (fun q : Nat => s.heap.size ≤ q) s.heap H locs ([c_PC ad, c_FO ad cA fo, c_FR ad cA fr, c_LR ad cA lr, c_MO ad cA mo, c_SE ad cA se sk sw, c_TR ad cA tr, c_TA ad cA ta tw_33, c_CO ad cA co ct, c_RE ad cA ma mn ms mb mt mw mg md].flatten) := hH
        refine lv_aload_n hx hb d_law_538 rfl (lv_at hl 2 rfl) ?_
        refine lv_aload_n hx hb d_law_539 rfl (lv_at hl 0 rfl) ?_
        refine lv_iload_n hx hb d_law_540 rfl (lv_at hl 3 rfl) ?_
        refine lv_iconst (v := 1) hx hb d_law_541 (by decide) ?_
        refine lv_iadd hx hb d_law_542 ?_
        obtain ⟨hi, h⟩ := h
        refine va_sld hx hb hX hbl hbA hH.2.2 hi d_law_543 ?_
        refine lv_aload_n hx hb d_law_544 rfl (lv_at hl 0 rfl) ?_
        refine lv_iload_n hx hb d_law_545 rfl (lv_at hl 3 rfl) ?_
        refine lv_iconst (v := 2) hx hb d_law_546 (by decide) ?_
        refine lv_iadd hx hb d_law_547 ?_
        obtain ⟨hi, h⟩ := h
        refine va_sld hx hb hX hbl hbA hH.2.2 hi d_law_548 ?_
        refine q_calli (rest := [.int r_33]) (ws' := fun u : (Nat → Int32) × mGo => [c_PC ad, c_FO ad cA fo, c_FR ad cA fr, c_LR ad cA lr, c_MO ad cA mo, c_SE ad cA se sk sw, c_TR ad cA tr, c_TA ad cA ta tw_33, c_CO ad cA co ct, c_RE ad cA ma mn ms mb mt u.1 u.2 md].flatten) C0 hH hA (c_Ref_state l dC dI cA ad (xs (x3 + 1).toNatClampNeg) (xs (x3 + 2).toNatClampNeg) ma mn ms mb mt mw mg md _ _ h) Y_Ref_state k_855 28 rfl hc_8 (q_pg [9] [0, 1, 2, 3, 4, 5, 6, 7, 8] [0, 1, 2, 3, 4, 5, 6, 7, 8, 9] 10 1 rfl (by decide) rfl (fun _ => rfl) rfl (by decide) (fun _ => rfl)) ⟨Nat.le_of_ble_eq_true rfl, Nat.le_of_ble_eq_true rfl⟩ rfl rfl (Nat.le_of_ble_eq_true rfl) hl.1 d_law_549 ⟨Nat.le_of_ble_eq_true rfl, Nat.le_of_ble_eq_true rfl⟩ (fun r_34 u_34 H locs h hH => ?_)
        obtain ⟨mw_34, mg_34⟩ := u_34
        try dsimp only at h
        have hH : q_H dC dI (fun q : Nat => s.heap.size ≤ q) s.heap H locs ([c_PC ad, c_FO ad cA fo, c_FR ad cA fr, c_LR ad cA lr, c_MO ad cA mo, c_SE ad cA se sk sw, c_TR ad cA tr, c_TA ad cA ta tw_33, c_CO ad cA co ct, c_RE ad cA ma mn ms mb mt mw_34 mg_34 md].flatten) := hH
        refine lv_icmp_eq (tgt := 692) hx hb d_law_552 (by decide) (fun c => ?_) (fun c => ?_)
        · have h := h.1 c
          refine lv_iinc (v := (x3 + 4)) (lv' := [(3, .int (x3 + 4)), (0, .ref b), (1, .ref (ad 0)), (2, .ref (ad 28))]) hx hb d_law_692 hl (k := 3) rfl rfl (by decide) rfl (fun ls hl => ?_)
          refine lv_goto (tgt := 18) hx hb d_law_695 (by decide) ?_
          exact ih (x3 + 4) fo fr lr mo se sk sw tr ta tw_33 co ct ma mn ms mb mt mw_34 mg_34 md _ _ _ h (lv_sub hl [1, 2, 3, 0] rfl) hH
        · have h := h.2 c
          refine lv_iconst (v := 0) hx hb d_law_555 (by decide) ?_
          exact h.elim
      · have h := h.2.2.2.2.2.2.2.2.2.2.2.2.2.2.2.2.2.2.1 c
        refine lv_tableIn (tgt := 557) hx hb d_law_32 (by rw [c]; decide) (by rw [c]; decide) (by rw [c]; rfl) (by decide) ?_
        refine lv_aload_n hx hb d_law_557 rfl (lv_at hl 1 rfl) ?_
        refine q_calli (rest := []) (ws' := fun u : tWays => [c_PC ad, c_FO ad cA fo, c_FR ad cA fr, c_LR ad cA lr, c_MO ad cA mo, c_SE ad cA se sk sw, c_TR ad cA tr, c_TA ad cA ta u, c_CO ad cA co ct, c_RE ad cA ma mn ms mb mt mw mg md].flatten) C0 hH hA (c_PC_shortest l dC dI cA ad ta tw _ _ h) Y_PC_shortest k_545 0 rfl hc_0 (q_pg [0, 7] [1, 2, 3, 4, 5, 6, 8, 9] [8, 0, 1, 2, 3, 4, 5, 9, 6, 7] 10 2 rfl (by decide) rfl (fun _ => rfl) rfl (by decide) (fun _ => rfl)) ⟨Nat.le_of_ble_eq_true rfl, Nat.le_of_ble_eq_true rfl⟩ rfl rfl (Nat.le_of_ble_eq_true rfl) hl.1 d_law_558 ⟨Nat.le_of_ble_eq_true rfl, Nat.le_of_ble_eq_true rfl⟩ (fun r_35 u_35 H locs h hH => ?_)
        obtain ⟨tw_35, rfl⟩ : ∃ z, z = u_35 := ⟨_, rfl⟩
        try dsimp only at h
        have hH : q_H dC dI (fun q : Nat => s.heap.size ≤ q) s.heap H locs ([c_PC ad, c_FO ad cA fo, c_FR ad cA fr, c_LR ad cA lr, c_MO ad cA mo, c_SE ad cA se sk sw, c_TR ad cA tr, c_TA ad cA ta tw_35, c_CO ad cA co ct, c_RE ad cA ma mn ms mb mt mw mg md].flatten) := hH
        refine lv_aload_n hx hb d_law_561 rfl (lv_at hl 2 rfl) ?_
        refine q_calli (rest := [.int r_35]) (ws' := fun u : (Nat → Int32) => [c_PC ad, c_FO ad cA fo, c_FR ad cA fr, c_LR ad cA lr, c_MO ad cA mo, c_SE ad cA se sk sw, c_TR ad cA tr, c_TA ad cA ta tw_35, c_CO ad cA co ct, c_RE ad cA ma mn ms mb mt u mg md].flatten) C0 hH hA (c_Ref_shortest l dC dI cA ad ma mn ms mb mt mw mg md _ _ h) Y_Ref_shortest k_859 28 rfl hc_8 (q_pg [9] [0, 1, 2, 3, 4, 5, 6, 7, 8] [0, 1, 2, 3, 4, 5, 6, 7, 8, 9] 10 1 rfl (by decide) rfl (fun _ => rfl) rfl (by decide) (fun _ => rfl)) ⟨Nat.le_of_ble_eq_true rfl, Nat.le_of_ble_eq_true rfl⟩ rfl rfl (Nat.le_of_ble_eq_true rfl) hl.1 d_law_562 ⟨Nat.le_of_ble_eq_true rfl, Nat.le_of_ble_eq_true rfl⟩ (fun r_36 u_36 H locs h hH => ?_)
        obtain ⟨mw_36, rfl⟩ : ∃ z, z = u_36 := ⟨_, rfl⟩
        try dsimp only at h
        have hH : q_H dC dI (fun q : Nat => s.heap.size ≤ q) s.heap H locs ([c_PC ad, c_FO ad cA fo, c_FR ad cA fr, c_LR ad cA lr, c_MO ad cA mo, c_SE ad cA se sk sw, c_TR ad cA tr, c_TA ad cA ta tw_35, c_CO ad cA co ct, c_RE ad cA ma mn ms mb mt mw_36 mg md].flatten) := hH
        refine lv_icmp_eq (tgt := 692) hx hb d_law_565 (by decide) (fun c => ?_) (fun c => ?_)
        · have h := h.1 c
          refine lv_iinc (v := (x3 + 4)) (lv' := [(3, .int (x3 + 4)), (0, .ref b), (1, .ref (ad 0)), (2, .ref (ad 28))]) hx hb d_law_692 hl (k := 3) rfl rfl (by decide) rfl (fun ls hl => ?_)
          refine lv_goto (tgt := 18) hx hb d_law_695 (by decide) ?_
          exact ih (x3 + 4) fo fr lr mo se sk sw tr ta tw_35 co ct ma mn ms mb mt mw_36 mg md _ _ _ h (lv_sub hl [1, 2, 3, 0] rfl) hH
        · have h := h.2 c
          refine lv_iconst (v := 0) hx hb d_law_568 (by decide) ?_
          exact h.elim
      · have h := h.2.2.2.2.2.2.2.2.2.2.2.2.2.2.2.2.2.2.2.1 c
        refine lv_tableIn (tgt := 570) hx hb d_law_32 (by rw [c]; decide) (by rw [c]; decide) (by rw [c]; rfl) (by decide) ?_
        refine lv_aload_n hx hb d_law_570 rfl (lv_at hl 1 rfl) ?_
        refine lv_aload_n hx hb d_law_571 rfl (lv_at hl 0 rfl) ?_
        refine lv_iload_n hx hb d_law_572 rfl (lv_at hl 3 rfl) ?_
        refine lv_iconst (v := 1) hx hb d_law_573 (by decide) ?_
        refine lv_iadd hx hb d_law_574 ?_
        obtain ⟨hi, h⟩ := h
        refine va_sld hx hb hX hbl hbA hH.2.2 hi d_law_575 ?_
        refine q_calli (rest := []) (ws' := fun u : tWays => [c_PC ad, c_FO ad cA fo, c_FR ad cA fr, c_LR ad cA lr, c_MO ad cA mo, c_SE ad cA se sk sw, c_TR ad cA tr, c_TA ad cA ta u, c_CO ad cA co ct, c_RE ad cA ma mn ms mb mt mw mg md].flatten) C0 hH hA (c_PC_plans l dC dI cA ad (xs (x3 + 1).toNatClampNeg) ta tw _ _ h) Y_PC_plans k_549 0 rfl hc_0 (q_pg [0, 7] [1, 2, 3, 4, 5, 6, 8, 9] [8, 0, 1, 2, 3, 4, 5, 9, 6, 7] 10 2 rfl (by decide) rfl (fun _ => rfl) rfl (by decide) (fun _ => rfl)) ⟨Nat.le_of_ble_eq_true rfl, Nat.le_of_ble_eq_true rfl⟩ rfl rfl (Nat.le_of_ble_eq_true rfl) hl.1 d_law_576 ⟨Nat.le_of_ble_eq_true rfl, Nat.le_of_ble_eq_true rfl⟩ (fun r_37 u_37 H locs h hH => ?_)
        obtain ⟨tw_37, rfl⟩ : ∃ z, z = u_37 := ⟨_, rfl⟩
        try dsimp only at h
        have hH : q_H dC dI (fun q : Nat => s.heap.size ≤ q) s.heap H locs ([c_PC ad, c_FO ad cA fo, c_FR ad cA fr, c_LR ad cA lr, c_MO ad cA mo, c_SE ad cA se sk sw, c_TR ad cA tr, c_TA ad cA ta tw_37, c_CO ad cA co ct, c_RE ad cA ma mn ms mb mt mw mg md].flatten) := hH
        refine lv_aload_n hx hb d_law_579 rfl (lv_at hl 2 rfl) ?_
        refine lv_aload_n hx hb d_law_580 rfl (lv_at hl 0 rfl) ?_
        refine lv_iload_n hx hb d_law_581 rfl (lv_at hl 3 rfl) ?_
        refine lv_iconst (v := 1) hx hb d_law_582 (by decide) ?_
        refine lv_iadd hx hb d_law_583 ?_
        obtain ⟨hi, h⟩ := h
        refine va_sld hx hb hX hbl hbA hH.2.2 hi d_law_584 ?_
        refine q_calli (rest := [.int r_37]) (ws' := fun u : (Nat → Int32) => [c_PC ad, c_FO ad cA fo, c_FR ad cA fr, c_LR ad cA lr, c_MO ad cA mo, c_SE ad cA se sk sw, c_TR ad cA tr, c_TA ad cA ta tw_37, c_CO ad cA co ct, c_RE ad cA ma mn ms mb mt u mg md].flatten) C0 hH hA (c_Ref_plans l dC dI cA ad (xs (x3 + 1).toNatClampNeg) ma mn ms mb mt mw mg md _ _ h) Y_Ref_plans k_843 28 rfl hc_8 (q_pg [9] [0, 1, 2, 3, 4, 5, 6, 7, 8] [0, 1, 2, 3, 4, 5, 6, 7, 8, 9] 10 1 rfl (by decide) rfl (fun _ => rfl) rfl (by decide) (fun _ => rfl)) ⟨Nat.le_of_ble_eq_true rfl, Nat.le_of_ble_eq_true rfl⟩ rfl rfl (Nat.le_of_ble_eq_true rfl) hl.1 d_law_585 ⟨Nat.le_of_ble_eq_true rfl, Nat.le_of_ble_eq_true rfl⟩ (fun r_38 u_38 H locs h hH => ?_)
        obtain ⟨mw_38, rfl⟩ : ∃ z, z = u_38 := ⟨_, rfl⟩
        try dsimp only at h
        have hH : q_H dC dI (fun q : Nat => s.heap.size ≤ q) s.heap H locs ([c_PC ad, c_FO ad cA fo, c_FR ad cA fr, c_LR ad cA lr, c_MO ad cA mo, c_SE ad cA se sk sw, c_TR ad cA tr, c_TA ad cA ta tw_37, c_CO ad cA co ct, c_RE ad cA ma mn ms mb mt mw_38 mg md].flatten) := hH
        refine lv_icmp_eq (tgt := 692) hx hb d_law_588 (by decide) (fun c => ?_) (fun c => ?_)
        · have h := h.1 c
          refine lv_iinc (v := (x3 + 4)) (lv' := [(3, .int (x3 + 4)), (0, .ref b), (1, .ref (ad 0)), (2, .ref (ad 28))]) hx hb d_law_692 hl (k := 3) rfl rfl (by decide) rfl (fun ls hl => ?_)
          refine lv_goto (tgt := 18) hx hb d_law_695 (by decide) ?_
          exact ih (x3 + 4) fo fr lr mo se sk sw tr ta tw_37 co ct ma mn ms mb mt mw_38 mg md _ _ _ h (lv_sub hl [1, 2, 3, 0] rfl) hH
        · have h := h.2 c
          refine lv_iconst (v := 0) hx hb d_law_591 (by decide) ?_
          exact h.elim
      · have h := h.2.2.2.2.2.2.2.2.2.2.2.2.2.2.2.2.2.2.2.2.1 c
        refine lv_tableIn (tgt := 593) hx hb d_law_32 (by rw [c]; decide) (by rw [c]; decide) (by rw [c]; rfl) (by decide) ?_
        refine lv_aload_n hx hb d_law_593 rfl (lv_at hl 1 rfl) ?_
        refine lv_aload_n hx hb d_law_594 rfl (lv_at hl 0 rfl) ?_
        refine lv_iload_n hx hb d_law_595 rfl (lv_at hl 3 rfl) ?_
        refine lv_iconst (v := 1) hx hb d_law_596 (by decide) ?_
        refine lv_iadd hx hb d_law_597 ?_
        obtain ⟨hi, h⟩ := h
        refine va_sld hx hb hX hbl hbA hH.2.2 hi d_law_598 ?_
        refine lv_aload_n hx hb d_law_599 rfl (lv_at hl 0 rfl) ?_
        refine lv_iload_n hx hb d_law_600 rfl (lv_at hl 3 rfl) ?_
        refine lv_iconst (v := 2) hx hb d_law_601 (by decide) ?_
        refine lv_iadd hx hb d_law_602 ?_
        obtain ⟨hi, h⟩ := h
        refine va_sld hx hb hX hbl hbA hH.2.2 hi d_law_603 ?_
        refine q_calli (rest := []) (ws' := fun u : tCode × tTold => [c_PC ad, c_FO ad cA fo, c_FR ad cA fr, c_LR ad cA lr, c_MO ad cA mo, c_SE ad cA se sk sw, c_TR ad cA tr, c_TA ad cA ta tw, c_CO ad cA u.1 u.2, c_RE ad cA ma mn ms mb mt mw mg md].flatten) C0 hH hA (c_PC_code l dC dI cA ad (xs (x3 + 1).toNatClampNeg) (xs (x3 + 2).toNatClampNeg) ta tw co ct _ _ h) Y_PC_code k_553 0 rfl hc_0 (q_pg [0, 7, 8] [1, 2, 3, 4, 5, 6, 9] [7, 0, 1, 2, 3, 4, 5, 8, 9, 6] 10 3 rfl (by decide) rfl (fun _ => rfl) rfl (by decide) (fun _ => rfl)) ⟨Nat.le_of_ble_eq_true rfl, Nat.le_of_ble_eq_true rfl⟩ rfl rfl (Nat.le_of_ble_eq_true rfl) hl.1 d_law_604 ⟨Nat.le_of_ble_eq_true rfl, Nat.le_of_ble_eq_true rfl⟩ (fun r_39 u_39 H locs h hH => ?_)
        obtain ⟨co_39, ct_39⟩ := u_39
        try dsimp only at h
        have hH : q_H dC dI (fun q : Nat => s.heap.size ≤ q) s.heap H locs ([c_PC ad, c_FO ad cA fo, c_FR ad cA fr, c_LR ad cA lr, c_MO ad cA mo, c_SE ad cA se sk sw, c_TR ad cA tr, c_TA ad cA ta tw, c_CO ad cA co_39 ct_39, c_RE ad cA ma mn ms mb mt mw mg md].flatten) := hH
        refine lv_aload_n hx hb d_law_607 rfl (lv_at hl 2 rfl) ?_
        refine lv_aload_n hx hb d_law_608 rfl (lv_at hl 0 rfl) ?_
        refine lv_iload_n hx hb d_law_609 rfl (lv_at hl 3 rfl) ?_
        refine lv_iconst (v := 1) hx hb d_law_610 (by decide) ?_
        refine lv_iadd hx hb d_law_611 ?_
        obtain ⟨hi, h⟩ := h
        refine va_sld hx hb hX hbl hbA hH.2.2 hi d_law_612 ?_
        refine lv_aload_n hx hb d_law_613 rfl (lv_at hl 0 rfl) ?_
        refine lv_iload_n hx hb d_law_614 rfl (lv_at hl 3 rfl) ?_
        refine lv_iconst (v := 2) hx hb d_law_615 (by decide) ?_
        refine lv_iadd hx hb d_law_616 ?_
        obtain ⟨hi, h⟩ := h
        refine va_sld hx hb hX hbl hbA hH.2.2 hi d_law_617 ?_
        refine q_calli (rest := [.int r_39]) (ws' := fun u : mCode => [c_PC ad, c_FO ad cA fo, c_FR ad cA fr, c_LR ad cA lr, c_MO ad cA mo, c_SE ad cA se sk sw, c_TR ad cA tr, c_TA ad cA ta tw, c_CO ad cA co_39 ct_39, c_RE ad cA ma mn ms mb mt mw mg u].flatten) C0 hH hA (c_Ref_code l dC dI cA ad (xs (x3 + 1).toNatClampNeg) (xs (x3 + 2).toNatClampNeg) ma mn ms mb mt mw mg md _ _ h) Y_Ref_code k_863 28 rfl hc_8 (q_pg [9] [0, 1, 2, 3, 4, 5, 6, 7, 8] [0, 1, 2, 3, 4, 5, 6, 7, 8, 9] 10 1 rfl (by decide) rfl (fun _ => rfl) rfl (by decide) (fun _ => rfl)) ⟨Nat.le_of_ble_eq_true rfl, Nat.le_of_ble_eq_true rfl⟩ rfl rfl (Nat.le_of_ble_eq_true rfl) hl.1 d_law_618 ⟨Nat.le_of_ble_eq_true rfl, Nat.le_of_ble_eq_true rfl⟩ (fun r_40 u_40 H locs h hH => ?_)
        obtain ⟨md_40, rfl⟩ : ∃ z, z = u_40 := ⟨_, rfl⟩
        try dsimp only at h
        have hH : q_H dC dI (fun q : Nat => s.heap.size ≤ q) s.heap H locs ([c_PC ad, c_FO ad cA fo, c_FR ad cA fr, c_LR ad cA lr, c_MO ad cA mo, c_SE ad cA se sk sw, c_TR ad cA tr, c_TA ad cA ta tw, c_CO ad cA co_39 ct_39, c_RE ad cA ma mn ms mb mt mw mg md_40].flatten) := hH
        refine lv_icmp_eq (tgt := 692) hx hb d_law_621 (by decide) (fun c => ?_) (fun c => ?_)
        · have h := h.1 c
          refine lv_iinc (v := (x3 + 4)) (lv' := [(3, .int (x3 + 4)), (0, .ref b), (1, .ref (ad 0)), (2, .ref (ad 28))]) hx hb d_law_692 hl (k := 3) rfl rfl (by decide) rfl (fun ls hl => ?_)
          refine lv_goto (tgt := 18) hx hb d_law_695 (by decide) ?_
          exact ih (x3 + 4) fo fr lr mo se sk sw tr ta tw co_39 ct_39 ma mn ms mb mt mw mg md_40 _ _ _ h (lv_sub hl [1, 2, 3, 0] rfl) hH
        · have h := h.2 c
          refine lv_iconst (v := 0) hx hb d_law_624 (by decide) ?_
          exact h.elim
      · have h := h.2.2.2.2.2.2.2.2.2.2.2.2.2.2.2.2.2.2.2.2.2.1 c
        refine lv_tableIn (tgt := 626) hx hb d_law_32 (by rw [c]; decide) (by rw [c]; decide) (by rw [c]; rfl) (by decide) ?_
        refine lv_aload_n hx hb d_law_626 rfl (lv_at hl 1 rfl) ?_
        refine lv_aload_n hx hb d_law_627 rfl (lv_at hl 0 rfl) ?_
        refine lv_iload_n hx hb d_law_628 rfl (lv_at hl 3 rfl) ?_
        refine lv_iconst (v := 1) hx hb d_law_629 (by decide) ?_
        refine lv_iadd hx hb d_law_630 ?_
        obtain ⟨hi, h⟩ := h
        refine va_sld hx hb hX hbl hbA hH.2.2 hi d_law_631 ?_
        refine lv_aload_n hx hb d_law_632 rfl (lv_at hl 0 rfl) ?_
        refine lv_iload_n hx hb d_law_633 rfl (lv_at hl 3 rfl) ?_
        refine lv_iconst (v := 2) hx hb d_law_634 (by decide) ?_
        refine lv_iadd hx hb d_law_635 ?_
        obtain ⟨hi, h⟩ := h
        refine va_sld hx hb hX hbl hbA hH.2.2 hi d_law_636 ?_
        refine lv_aload_n hx hb d_law_637 rfl (lv_at hl 0 rfl) ?_
        refine lv_iload_n hx hb d_law_638 rfl (lv_at hl 3 rfl) ?_
        refine lv_iconst (v := 3) hx hb d_law_639 (by decide) ?_
        refine lv_iadd hx hb d_law_640 ?_
        obtain ⟨hi, h⟩ := h
        refine va_sld hx hb hX hbl hbA hH.2.2 hi d_law_641 ?_
        refine q_calli (rest := []) (ws' := fun u : tCode × tTold => [c_PC ad, c_FO ad cA fo, c_FR ad cA fr, c_LR ad cA lr, c_MO ad cA mo, c_SE ad cA se sk sw, c_TR ad cA tr, c_TA ad cA ta tw, c_CO ad cA u.1 u.2, c_RE ad cA ma mn ms mb mt mw mg md].flatten) C0 hH hA (c_PC_coded l dC dI cA ad (xs (x3 + 1).toNatClampNeg) (xs (x3 + 2).toNatClampNeg) (xs (x3 + 3).toNatClampNeg) ta tw co ct _ _ h) Y_PC_coded k_604 0 rfl hc_0 (q_pg [0, 7, 8] [1, 2, 3, 4, 5, 6, 9] [7, 0, 1, 2, 3, 4, 5, 8, 9, 6] 10 3 rfl (by decide) rfl (fun _ => rfl) rfl (by decide) (fun _ => rfl)) ⟨Nat.le_of_ble_eq_true rfl, Nat.le_of_ble_eq_true rfl⟩ rfl rfl (Nat.le_of_ble_eq_true rfl) hl.1 d_law_642 ⟨Nat.le_of_ble_eq_true rfl, Nat.le_of_ble_eq_true rfl⟩ (fun r_41 u_41 H locs h hH => ?_)
        obtain ⟨co_41, ct_41⟩ := u_41
        try dsimp only at h
        have hH : q_H dC dI (fun q : Nat => s.heap.size ≤ q) s.heap H locs ([c_PC ad, c_FO ad cA fo, c_FR ad cA fr, c_LR ad cA lr, c_MO ad cA mo, c_SE ad cA se sk sw, c_TR ad cA tr, c_TA ad cA ta tw, c_CO ad cA co_41 ct_41, c_RE ad cA ma mn ms mb mt mw mg md].flatten) := hH
        refine lv_aload_n hx hb d_law_645 rfl (lv_at hl 2 rfl) ?_
        refine lv_aload_n hx hb d_law_646 rfl (lv_at hl 0 rfl) ?_
        refine lv_iload_n hx hb d_law_647 rfl (lv_at hl 3 rfl) ?_
        refine lv_iconst (v := 1) hx hb d_law_648 (by decide) ?_
        refine lv_iadd hx hb d_law_649 ?_
        obtain ⟨hi, h⟩ := h
        refine va_sld hx hb hX hbl hbA hH.2.2 hi d_law_650 ?_
        refine lv_aload_n hx hb d_law_651 rfl (lv_at hl 0 rfl) ?_
        refine lv_iload_n hx hb d_law_652 rfl (lv_at hl 3 rfl) ?_
        refine lv_iconst (v := 2) hx hb d_law_653 (by decide) ?_
        refine lv_iadd hx hb d_law_654 ?_
        obtain ⟨hi, h⟩ := h
        refine va_sld hx hb hX hbl hbA hH.2.2 hi d_law_655 ?_
        refine lv_aload_n hx hb d_law_656 rfl (lv_at hl 0 rfl) ?_
        refine lv_iload_n hx hb d_law_657 rfl (lv_at hl 3 rfl) ?_
        refine lv_iconst (v := 3) hx hb d_law_658 (by decide) ?_
        refine lv_iadd hx hb d_law_659 ?_
        obtain ⟨hi, h⟩ := h
        refine va_sld hx hb hX hbl hbA hH.2.2 hi d_law_660 ?_
        refine q_calli (rest := [.int r_41]) (ws' := fun u : mCode => [c_PC ad, c_FO ad cA fo, c_FR ad cA fr, c_LR ad cA lr, c_MO ad cA mo, c_SE ad cA se sk sw, c_TR ad cA tr, c_TA ad cA ta tw, c_CO ad cA co_41 ct_41, c_RE ad cA ma mn ms mb mt mw mg u].flatten) C0 hH hA (c_Ref_coded l dC dI cA ad (xs (x3 + 1).toNatClampNeg) (xs (x3 + 2).toNatClampNeg) (xs (x3 + 3).toNatClampNeg) ma mn ms mb mt mw mg md _ _ h) Y_Ref_coded k_899 28 rfl hc_8 (q_pg [9] [0, 1, 2, 3, 4, 5, 6, 7, 8] [0, 1, 2, 3, 4, 5, 6, 7, 8, 9] 10 1 rfl (by decide) rfl (fun _ => rfl) rfl (by decide) (fun _ => rfl)) ⟨Nat.le_of_ble_eq_true rfl, Nat.le_of_ble_eq_true rfl⟩ rfl rfl (Nat.le_of_ble_eq_true rfl) hl.1 d_law_661 ⟨Nat.le_of_ble_eq_true rfl, Nat.le_of_ble_eq_true rfl⟩ (fun r_42 u_42 H locs h hH => ?_)
        obtain ⟨md_42, rfl⟩ : ∃ z, z = u_42 := ⟨_, rfl⟩
        try dsimp only at h
        have hH : q_H dC dI (fun q : Nat => s.heap.size ≤ q) s.heap H locs ([c_PC ad, c_FO ad cA fo, c_FR ad cA fr, c_LR ad cA lr, c_MO ad cA mo, c_SE ad cA se sk sw, c_TR ad cA tr, c_TA ad cA ta tw, c_CO ad cA co_41 ct_41, c_RE ad cA ma mn ms mb mt mw mg md_42].flatten) := hH
        refine lv_icmp_eq (tgt := 692) hx hb d_law_664 (by decide) (fun c => ?_) (fun c => ?_)
        · have h := h.1 c
          refine lv_iinc (v := (x3 + 4)) (lv' := [(3, .int (x3 + 4)), (0, .ref b), (1, .ref (ad 0)), (2, .ref (ad 28))]) hx hb d_law_692 hl (k := 3) rfl rfl (by decide) rfl (fun ls hl => ?_)
          refine lv_goto (tgt := 18) hx hb d_law_695 (by decide) ?_
          exact ih (x3 + 4) fo fr lr mo se sk sw tr ta tw co_41 ct_41 ma mn ms mb mt mw mg md_42 _ _ _ h (lv_sub hl [1, 2, 3, 0] rfl) hH
        · have h := h.2 c
          refine lv_iconst (v := 0) hx hb d_law_667 (by decide) ?_
          exact h.elim
      · have h := h.2.2.2.2.2.2.2.2.2.2.2.2.2.2.2.2.2.2.2.2.2.2 c
        refine lv_tableIn (tgt := 669) hx hb d_law_32 (by rw [c]; decide) (by rw [c]; decide) (by rw [c]; rfl) (by decide) ?_
        refine lv_aload_n hx hb d_law_669 rfl (lv_at hl 1 rfl) ?_
        refine lv_aload_n hx hb d_law_670 rfl (lv_at hl 0 rfl) ?_
        refine lv_iload_n hx hb d_law_671 rfl (lv_at hl 3 rfl) ?_
        refine lv_iconst (v := 1) hx hb d_law_672 (by decide) ?_
        refine lv_iadd hx hb d_law_673 ?_
        obtain ⟨hi, h⟩ := h
        refine va_sld hx hb hX hbl hbA hH.2.2 hi d_law_674 ?_
        refine q_calli (rest := []) (ws' := fun _ : Unit => [c_PC ad, c_FO ad cA fo, c_FR ad cA fr, c_LR ad cA lr, c_MO ad cA mo, c_SE ad cA se sk sw, c_TR ad cA tr, c_TA ad cA ta tw, c_CO ad cA co ct, c_RE ad cA ma mn ms mb mt mw mg md].flatten) C0 hH hA (c_PC_count l dC dI cA ad (xs (x3 + 1).toNatClampNeg) fo fr ta tw _ _ h) Y_PC_count k_612 0 rfl hc_0 (q_pg [0, 1, 2, 7] [3, 4, 5, 6, 8, 9] [6, 7, 8, 0, 1, 2, 3, 9, 4, 5] 10 4 rfl (by decide) rfl (fun _ => rfl) rfl (by decide) (fun _ => rfl)) ⟨Nat.le_of_ble_eq_true rfl, Nat.le_of_ble_eq_true rfl⟩ rfl rfl (Nat.le_of_ble_eq_true rfl) hl.1 d_law_675 ⟨Nat.le_of_ble_eq_true rfl, Nat.le_of_ble_eq_true rfl⟩ (fun r_43 u_43 H locs h hH => ?_)
        try dsimp only at h
        have hH : q_H dC dI (fun q : Nat => s.heap.size ≤ q) s.heap H locs ([c_PC ad, c_FO ad cA fo, c_FR ad cA fr, c_LR ad cA lr, c_MO ad cA mo, c_SE ad cA se sk sw, c_TR ad cA tr, c_TA ad cA ta tw, c_CO ad cA co ct, c_RE ad cA ma mn ms mb mt mw mg md].flatten) := hH
        refine lv_aload_n hx hb d_law_678 rfl (lv_at hl 2 rfl) ?_
        refine lv_aload_n hx hb d_law_679 rfl (lv_at hl 0 rfl) ?_
        refine lv_iload_n hx hb d_law_680 rfl (lv_at hl 3 rfl) ?_
        refine lv_iconst (v := 1) hx hb d_law_681 (by decide) ?_
        refine lv_iadd hx hb d_law_682 ?_
        obtain ⟨hi, h⟩ := h
        refine va_sld hx hb hX hbl hbA hH.2.2 hi d_law_683 ?_
        refine q_calli (rest := [.int r_43]) (ws' := fun _ : Unit => [c_PC ad, c_FO ad cA fo, c_FR ad cA fr, c_LR ad cA lr, c_MO ad cA mo, c_SE ad cA se sk sw, c_TR ad cA tr, c_TA ad cA ta tw, c_CO ad cA co ct, c_RE ad cA ma mn ms mb mt mw mg md].flatten) C0 hH hA (c_Ref_count l dC dI cA ad (xs (x3 + 1).toNatClampNeg) ma mn ms mb mt mw mg md _ _ h) Y_Ref_count k_903 28 rfl hc_8 (q_pg [9] [0, 1, 2, 3, 4, 5, 6, 7, 8] [0, 1, 2, 3, 4, 5, 6, 7, 8, 9] 10 1 rfl (by decide) rfl (fun _ => rfl) rfl (by decide) (fun _ => rfl)) ⟨Nat.le_of_ble_eq_true rfl, Nat.le_of_ble_eq_true rfl⟩ rfl rfl (Nat.le_of_ble_eq_true rfl) hl.1 d_law_684 ⟨Nat.le_of_ble_eq_true rfl, Nat.le_of_ble_eq_true rfl⟩ (fun r_44 u_44 H locs h hH => ?_)
        try dsimp only at h
        have hH : q_H dC dI (fun q : Nat => s.heap.size ≤ q) s.heap H locs ([c_PC ad, c_FO ad cA fo, c_FR ad cA fr, c_LR ad cA lr, c_MO ad cA mo, c_SE ad cA se sk sw, c_TR ad cA tr, c_TA ad cA ta tw, c_CO ad cA co ct, c_RE ad cA ma mn ms mb mt mw mg md].flatten) := hH
        refine lv_icmp_eq (tgt := 692) hx hb d_law_687 (by decide) (fun c => ?_) (fun c => ?_)
        · have h := h.1 c
          refine lv_iinc (v := (x3 + 4)) (lv' := [(3, .int (x3 + 4)), (0, .ref b), (1, .ref (ad 0)), (2, .ref (ad 28))]) hx hb d_law_692 hl (k := 3) rfl rfl (by decide) rfl (fun ls hl => ?_)
          refine lv_goto (tgt := 18) hx hb d_law_695 (by decide) ?_
          exact ih (x3 + 4) fo fr lr mo se sk sw tr ta tw co ct ma mn ms mb mt mw mg md _ _ _ h (lv_sub hl [1, 2, 3, 0] rfl) hH
        · have h := h.2 c
          refine lv_iconst (v := 0) hx hb d_law_690 (by decide) ?_
          exact h.elim
