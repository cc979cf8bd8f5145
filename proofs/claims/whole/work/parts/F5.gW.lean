/-! the cases of the law -/
theorem dL_law_188 : decode cL_law 188 = .ok (.aload_n 1, 1) := dk_aload_n_1 (by decide +kernel)
theorem dL_law_189 : decode cL_law 189 = .ok (.aload_n 0, 1) := dk_aload_n_0 (by decide +kernel)
theorem dL_law_190 : decode cL_law 190 = .ok (.iload_n 3, 1) := dk_iload_n_3 (by decide +kernel)
theorem dL_law_191 : decode cL_law 191 = .ok (.iconst 1, 1) := dk_iconst_1 (by decide +kernel)
theorem dL_law_192 : decode cL_law 192 = .ok (.iadd, 1) := dk_iadd (by decide +kernel)
theorem dL_law_193 : decode cL_law 193 = .ok (.iaload, 1) := dk_iaload (by decide +kernel)
theorem dL_law_194 : decode cL_law 194 = .ok (.aload_n 0, 1) := dk_aload_n_0 (by decide +kernel)
theorem dL_law_195 : decode cL_law 195 = .ok (.iload_n 3, 1) := dk_iload_n_3 (by decide +kernel)
theorem dL_law_196 : decode cL_law 196 = .ok (.iconst 2, 1) := dk_iconst_2 (by decide +kernel)
theorem dL_law_197 : decode cL_law 197 = .ok (.iadd, 1) := dk_iadd (by decide +kernel)
theorem dL_law_198 : decode cL_law 198 = .ok (.iaload, 1) := dk_iaload (by decide +kernel)
theorem wRL_13 : Cond.methodLink RL 13 yX11_slot ∈ sm_T := sm_in 429 (by decide +kernel) (by decide +kernel)
theorem dL_law_199 : decode cL_law 199 = .ok (.invokevirtual 13, 3) := dk_invokevirtual 13 (b1 := 0) (b2 := 13) (by decide +kernel) (by decide +kernel) (by decide +kernel) (by decide +kernel)
theorem dL_law_202 : decode cL_law 202 = .ok (.aload_n 2, 1) := dk_aload_n_2 (by decide +kernel)
theorem dL_law_203 : decode cL_law 203 = .ok (.aload_n 0, 1) := dk_aload_n_0 (by decide +kernel)
theorem dL_law_204 : decode cL_law 204 = .ok (.iload_n 3, 1) := dk_iload_n_3 (by decide +kernel)
theorem dL_law_205 : decode cL_law 205 = .ok (.iconst 1, 1) := dk_iconst_1 (by decide +kernel)
theorem dL_law_206 : decode cL_law 206 = .ok (.iadd, 1) := dk_iadd (by decide +kernel)
theorem dL_law_207 : decode cL_law 207 = .ok (.iaload, 1) := dk_iaload (by decide +kernel)
theorem dL_law_208 : decode cL_law 208 = .ok (.aload_n 0, 1) := dk_aload_n_0 (by decide +kernel)
theorem dL_law_209 : decode cL_law 209 = .ok (.iload_n 3, 1) := dk_iload_n_3 (by decide +kernel)
theorem dL_law_210 : decode cL_law 210 = .ok (.iconst 2, 1) := dk_iconst_2 (by decide +kernel)
theorem dL_law_211 : decode cL_law 211 = .ok (.iadd, 1) := dk_iadd (by decide +kernel)
theorem dL_law_212 : decode cL_law 212 = .ok (.iaload, 1) := dk_iaload (by decide +kernel)
theorem wRL_17 : Cond.methodLink RL 17 yX12_slot ∈ sm_T := sm_in 1364 (by decide +kernel) (by decide +kernel)
theorem dL_law_213 : decode cL_law 213 = .ok (.invokevirtual 17, 3) := dk_invokevirtual 17 (b1 := 0) (b2 := 17) (by decide +kernel) (by decide +kernel) (by decide +kernel) (by decide +kernel)
theorem dL_law_216 : decode cL_law 216 = .ok (.if_icmp .eq 1339, 3) := dk_if_icmp_eq 1339 (b1 := 5) (b2 := 59) (by decide +kernel) (by decide +kernel) (by decide +kernel) (by decide +kernel)
theorem dL_law_221 : decode cL_law 221 = .ok (.aload_n 1, 1) := dk_aload_n_1 (by decide +kernel)
theorem dL_law_222 : decode cL_law 222 = .ok (.aload_n 0, 1) := dk_aload_n_0 (by decide +kernel)
theorem dL_law_223 : decode cL_law 223 = .ok (.iload_n 3, 1) := dk_iload_n_3 (by decide +kernel)
theorem dL_law_224 : decode cL_law 224 = .ok (.iconst 1, 1) := dk_iconst_1 (by decide +kernel)
theorem dL_law_225 : decode cL_law 225 = .ok (.iadd, 1) := dk_iadd (by decide +kernel)
theorem dL_law_226 : decode cL_law 226 = .ok (.iaload, 1) := dk_iaload (by decide +kernel)
theorem dL_law_227 : decode cL_law 227 = .ok (.aload_n 0, 1) := dk_aload_n_0 (by decide +kernel)
theorem dL_law_228 : decode cL_law 228 = .ok (.iload_n 3, 1) := dk_iload_n_3 (by decide +kernel)
theorem dL_law_229 : decode cL_law 229 = .ok (.iconst 2, 1) := dk_iconst_2 (by decide +kernel)
theorem dL_law_230 : decode cL_law 230 = .ok (.iadd, 1) := dk_iadd (by decide +kernel)
theorem dL_law_231 : decode cL_law 231 = .ok (.iaload, 1) := dk_iaload (by decide +kernel)
theorem wRL_18 : Cond.methodLink RL 18 yX11_leaf ∈ sm_T := sm_in 441 (by decide +kernel) (by decide +kernel)
theorem dL_law_232 : decode cL_law 232 = .ok (.invokevirtual 18, 3) := dk_invokevirtual 18 (b1 := 0) (b2 := 18) (by decide +kernel) (by decide +kernel) (by decide +kernel) (by decide +kernel)
theorem dL_law_235 : decode cL_law 235 = .ok (.aload_n 2, 1) := dk_aload_n_2 (by decide +kernel)
theorem dL_law_236 : decode cL_law 236 = .ok (.aload_n 0, 1) := dk_aload_n_0 (by decide +kernel)
theorem dL_law_237 : decode cL_law 237 = .ok (.iload_n 3, 1) := dk_iload_n_3 (by decide +kernel)
theorem dL_law_238 : decode cL_law 238 = .ok (.iconst 1, 1) := dk_iconst_1 (by decide +kernel)
theorem dL_law_239 : decode cL_law 239 = .ok (.iadd, 1) := dk_iadd (by decide +kernel)
theorem dL_law_240 : decode cL_law 240 = .ok (.iaload, 1) := dk_iaload (by decide +kernel)
theorem dL_law_241 : decode cL_law 241 = .ok (.aload_n 0, 1) := dk_aload_n_0 (by decide +kernel)
theorem dL_law_242 : decode cL_law 242 = .ok (.iload_n 3, 1) := dk_iload_n_3 (by decide +kernel)
theorem dL_law_243 : decode cL_law 243 = .ok (.iconst 2, 1) := dk_iconst_2 (by decide +kernel)
theorem dL_law_244 : decode cL_law 244 = .ok (.iadd, 1) := dk_iadd (by decide +kernel)
theorem dL_law_245 : decode cL_law 245 = .ok (.iaload, 1) := dk_iaload (by decide +kernel)
theorem wRL_21 : Cond.methodLink RL 21 yX12_leaf ∈ sm_T := sm_in 1403 (by decide +kernel) (by decide +kernel)
theorem dL_law_246 : decode cL_law 246 = .ok (.invokevirtual 21, 3) := dk_invokevirtual 21 (b1 := 0) (b2 := 21) (by decide +kernel) (by decide +kernel) (by decide +kernel) (by decide +kernel)
theorem dL_law_249 : decode cL_law 249 = .ok (.if_icmp .eq 1306, 3) := dk_if_icmp_eq 1306 (b1 := 5) (b2 := 26) (by decide +kernel) (by decide +kernel) (by decide +kernel) (by decide +kernel)
theorem dL_law_254 : decode cL_law 254 = .ok (.aload_n 1, 1) := dk_aload_n_1 (by decide +kernel)
theorem dL_law_255 : decode cL_law 255 = .ok (.aload_n 0, 1) := dk_aload_n_0 (by decide +kernel)
theorem dL_law_256 : decode cL_law 256 = .ok (.iload_n 3, 1) := dk_iload_n_3 (by decide +kernel)
theorem dL_law_257 : decode cL_law 257 = .ok (.iconst 1, 1) := dk_iconst_1 (by decide +kernel)
theorem dL_law_258 : decode cL_law 258 = .ok (.iadd, 1) := dk_iadd (by decide +kernel)
theorem dL_law_259 : decode cL_law 259 = .ok (.iaload, 1) := dk_iaload (by decide +kernel)
theorem dL_law_260 : decode cL_law 260 = .ok (.aload_n 0, 1) := dk_aload_n_0 (by decide +kernel)
theorem dL_law_261 : decode cL_law 261 = .ok (.iload_n 3, 1) := dk_iload_n_3 (by decide +kernel)
theorem dL_law_262 : decode cL_law 262 = .ok (.iconst 2, 1) := dk_iconst_2 (by decide +kernel)
theorem dL_law_263 : decode cL_law 263 = .ok (.iadd, 1) := dk_iadd (by decide +kernel)
theorem dL_law_264 : decode cL_law 264 = .ok (.iaload, 1) := dk_iaload (by decide +kernel)
theorem dL_law_265 : decode cL_law 265 = .ok (.aload_n 0, 1) := dk_aload_n_0 (by decide +kernel)
theorem dL_law_266 : decode cL_law 266 = .ok (.iload_n 3, 1) := dk_iload_n_3 (by decide +kernel)
theorem dL_law_267 : decode cL_law 267 = .ok (.iconst 3, 1) := dk_iconst_3 (by decide +kernel)
theorem dL_law_268 : decode cL_law 268 = .ok (.iadd, 1) := dk_iadd (by decide +kernel)
theorem dL_law_269 : decode cL_law 269 = .ok (.iaload, 1) := dk_iaload (by decide +kernel)
theorem dL_law_270 : decode cL_law 270 = .ok (.aload_n 0, 1) := dk_aload_n_0 (by decide +kernel)
theorem dL_law_271 : decode cL_law 271 = .ok (.iload_n 3, 1) := dk_iload_n_3 (by decide +kernel)
theorem dL_law_272 : decode cL_law 272 = .ok (.iconst 4, 1) := dk_iconst_4 (by decide +kernel)
theorem dL_law_273 : decode cL_law 273 = .ok (.iadd, 1) := dk_iadd (by decide +kernel)
theorem dL_law_274 : decode cL_law 274 = .ok (.iaload, 1) := dk_iaload (by decide +kernel)
theorem wRL_22 : Cond.methodLink RL 22 yX11_join ∈ sm_T := sm_in 484 (by decide +kernel) (by decide +kernel)
theorem dL_law_275 : decode cL_law 275 = .ok (.invokevirtual 22, 3) := dk_invokevirtual 22 (b1 := 0) (b2 := 22) (by decide +kernel) (by decide +kernel) (by decide +kernel) (by decide +kernel)
theorem dL_law_278 : decode cL_law 278 = .ok (.aload_n 2, 1) := dk_aload_n_2 (by decide +kernel)
theorem dL_law_279 : decode cL_law 279 = .ok (.aload_n 0, 1) := dk_aload_n_0 (by decide +kernel)
theorem dL_law_280 : decode cL_law 280 = .ok (.iload_n 3, 1) := dk_iload_n_3 (by decide +kernel)
theorem dL_law_281 : decode cL_law 281 = .ok (.iconst 1, 1) := dk_iconst_1 (by decide +kernel)
theorem dL_law_282 : decode cL_law 282 = .ok (.iadd, 1) := dk_iadd (by decide +kernel)
theorem dL_law_283 : decode cL_law 283 = .ok (.iaload, 1) := dk_iaload (by decide +kernel)
theorem dL_law_284 : decode cL_law 284 = .ok (.aload_n 0, 1) := dk_aload_n_0 (by decide +kernel)
theorem dL_law_285 : decode cL_law 285 = .ok (.iload_n 3, 1) := dk_iload_n_3 (by decide +kernel)
theorem dL_law_286 : decode cL_law 286 = .ok (.iconst 2, 1) := dk_iconst_2 (by decide +kernel)
theorem dL_law_287 : decode cL_law 287 = .ok (.iadd, 1) := dk_iadd (by decide +kernel)
theorem dL_law_288 : decode cL_law 288 = .ok (.iaload, 1) := dk_iaload (by decide +kernel)
theorem dL_law_289 : decode cL_law 289 = .ok (.aload_n 0, 1) := dk_aload_n_0 (by decide +kernel)
theorem dL_law_290 : decode cL_law 290 = .ok (.iload_n 3, 1) := dk_iload_n_3 (by decide +kernel)
theorem dL_law_291 : decode cL_law 291 = .ok (.iconst 3, 1) := dk_iconst_3 (by decide +kernel)
theorem dL_law_292 : decode cL_law 292 = .ok (.iadd, 1) := dk_iadd (by decide +kernel)
theorem dL_law_293 : decode cL_law 293 = .ok (.iaload, 1) := dk_iaload (by decide +kernel)
theorem dL_law_294 : decode cL_law 294 = .ok (.aload_n 0, 1) := dk_aload_n_0 (by decide +kernel)
theorem dL_law_295 : decode cL_law 295 = .ok (.iload_n 3, 1) := dk_iload_n_3 (by decide +kernel)
theorem dL_law_296 : decode cL_law 296 = .ok (.iconst 4, 1) := dk_iconst_4 (by decide +kernel)
theorem dL_law_297 : decode cL_law 297 = .ok (.iadd, 1) := dk_iadd (by decide +kernel)
theorem dL_law_298 : decode cL_law 298 = .ok (.iaload, 1) := dk_iaload (by decide +kernel)
theorem wRL_26 : Cond.methodLink RL 26 yX12_join ∈ sm_T := sm_in 1417 (by decide +kernel) (by decide +kernel)
theorem dL_law_299 : decode cL_law 299 = .ok (.invokevirtual 26, 3) := dk_invokevirtual 26 (b1 := 0) (b2 := 26) (by decide +kernel) (by decide +kernel) (by decide +kernel) (by decide +kernel)
theorem dL_law_302 : decode cL_law 302 = .ok (.if_icmp .eq 1253, 3) := dk_if_icmp_eq 1253 (b1 := 4) (b2 := 229) (by decide +kernel) (by decide +kernel) (by decide +kernel) (by decide +kernel)
theorem dL_law_307 : decode cL_law 307 = .ok (.aload_n 1, 1) := dk_aload_n_1 (by decide +kernel)
theorem dL_law_308 : decode cL_law 308 = .ok (.aload_n 0, 1) := dk_aload_n_0 (by decide +kernel)
theorem dL_law_309 : decode cL_law 309 = .ok (.iload_n 3, 1) := dk_iload_n_3 (by decide +kernel)
theorem dL_law_310 : decode cL_law 310 = .ok (.iconst 1, 1) := dk_iconst_1 (by decide +kernel)
theorem dL_law_311 : decode cL_law 311 = .ok (.iadd, 1) := dk_iadd (by decide +kernel)
theorem dL_law_312 : decode cL_law 312 = .ok (.iaload, 1) := dk_iaload (by decide +kernel)
theorem dL_law_313 : decode cL_law 313 = .ok (.aload_n 0, 1) := dk_aload_n_0 (by decide +kernel)
theorem dL_law_314 : decode cL_law 314 = .ok (.iload_n 3, 1) := dk_iload_n_3 (by decide +kernel)
theorem dL_law_315 : decode cL_law 315 = .ok (.iconst 2, 1) := dk_iconst_2 (by decide +kernel)
theorem dL_law_316 : decode cL_law 316 = .ok (.iadd, 1) := dk_iadd (by decide +kernel)
theorem dL_law_317 : decode cL_law 317 = .ok (.iaload, 1) := dk_iaload (by decide +kernel)
theorem wRL_27 : Cond.methodLink RL 27 yX11_move ∈ sm_T := sm_in 511 (by decide +kernel) (by decide +kernel)
theorem dL_law_318 : decode cL_law 318 = .ok (.invokevirtual 27, 3) := dk_invokevirtual 27 (b1 := 0) (b2 := 27) (by decide +kernel) (by decide +kernel) (by decide +kernel) (by decide +kernel)
theorem dL_law_321 : decode cL_law 321 = .ok (.aload_n 2, 1) := dk_aload_n_2 (by decide +kernel)
theorem dL_law_322 : decode cL_law 322 = .ok (.aload_n 0, 1) := dk_aload_n_0 (by decide +kernel)
theorem dL_law_323 : decode cL_law 323 = .ok (.iload_n 3, 1) := dk_iload_n_3 (by decide +kernel)
theorem dL_law_324 : decode cL_law 324 = .ok (.iconst 1, 1) := dk_iconst_1 (by decide +kernel)
theorem dL_law_325 : decode cL_law 325 = .ok (.iadd, 1) := dk_iadd (by decide +kernel)
theorem dL_law_326 : decode cL_law 326 = .ok (.iaload, 1) := dk_iaload (by decide +kernel)
theorem dL_law_327 : decode cL_law 327 = .ok (.aload_n 0, 1) := dk_aload_n_0 (by decide +kernel)
theorem dL_law_328 : decode cL_law 328 = .ok (.iload_n 3, 1) := dk_iload_n_3 (by decide +kernel)
theorem dL_law_329 : decode cL_law 329 = .ok (.iconst 2, 1) := dk_iconst_2 (by decide +kernel)
theorem dL_law_330 : decode cL_law 330 = .ok (.iadd, 1) := dk_iadd (by decide +kernel)
theorem dL_law_331 : decode cL_law 331 = .ok (.iaload, 1) := dk_iaload (by decide +kernel)
theorem wRL_30 : Cond.methodLink RL 30 yX12_move ∈ sm_T := sm_in 1432 (by decide +kernel) (by decide +kernel)
theorem dL_law_332 : decode cL_law 332 = .ok (.invokevirtual 30, 3) := dk_invokevirtual 30 (b1 := 0) (b2 := 30) (by decide +kernel) (by decide +kernel) (by decide +kernel) (by decide +kernel)
theorem dL_law_335 : decode cL_law 335 = .ok (.if_icmp .eq 1220, 3) := dk_if_icmp_eq 1220 (b1 := 4) (b2 := 196) (by decide +kernel) (by decide +kernel) (by decide +kernel) (by decide +kernel)
theorem dL_law_340 : decode cL_law 340 = .ok (.aload_n 1, 1) := dk_aload_n_1 (by decide +kernel)
theorem dL_law_341 : decode cL_law 341 = .ok (.aload_n 0, 1) := dk_aload_n_0 (by decide +kernel)
theorem dL_law_342 : decode cL_law 342 = .ok (.iload_n 3, 1) := dk_iload_n_3 (by decide +kernel)
theorem dL_law_343 : decode cL_law 343 = .ok (.iconst 1, 1) := dk_iconst_1 (by decide +kernel)
theorem dL_law_344 : decode cL_law 344 = .ok (.iadd, 1) := dk_iadd (by decide +kernel)
theorem dL_law_345 : decode cL_law 345 = .ok (.iaload, 1) := dk_iaload (by decide +kernel)
theorem dL_law_346 : decode cL_law 346 = .ok (.i2l, 1) := dk_i2l (by decide +kernel)
theorem dL_law_347 : decode cL_law 347 = .ok (.bipush 32, 2) := dk_bipush 32 (b := 32) (by decide +kernel) (by decide +kernel) (by decide +kernel)
theorem dL_law_349 : decode cL_law 349 = .ok (.lshl, 1) := dk_lshl (by decide +kernel)
theorem dL_law_350 : decode cL_law 350 = .ok (.aload_n 0, 1) := dk_aload_n_0 (by decide +kernel)
theorem dL_law_351 : decode cL_law 351 = .ok (.iload_n 3, 1) := dk_iload_n_3 (by decide +kernel)
theorem dL_law_352 : decode cL_law 352 = .ok (.iconst 2, 1) := dk_iconst_2 (by decide +kernel)
theorem dL_law_353 : decode cL_law 353 = .ok (.iadd, 1) := dk_iadd (by decide +kernel)
theorem dL_law_354 : decode cL_law 354 = .ok (.iaload, 1) := dk_iaload (by decide +kernel)
theorem dL_law_355 : decode cL_law 355 = .ok (.i2l, 1) := dk_i2l (by decide +kernel)
theorem wRL_31 : Cond.constantLong RL 31 4294967295 ∈ sm_T := sm_in 1737 (by decide +kernel) (by decide +kernel)
theorem dL_law_356 : decode cL_law 356 = .ok (.ldc2_w 31, 3) := dk_ldc2_w 31 (b1 := 0) (b2 := 31) (by decide +kernel) (by decide +kernel) (by decide +kernel) (by decide +kernel)
theorem dL_law_359 : decode cL_law 359 = .ok (.land, 1) := dk_land (by decide +kernel)
theorem dL_law_360 : decode cL_law 360 = .ok (.lor, 1) := dk_lor (by decide +kernel)
theorem dL_law_361 : decode cL_law 361 = .ok (.aload_n 0, 1) := dk_aload_n_0 (by decide +kernel)
theorem dL_law_362 : decode cL_law 362 = .ok (.iload_n 3, 1) := dk_iload_n_3 (by decide +kernel)
theorem dL_law_363 : decode cL_law 363 = .ok (.iconst 3, 1) := dk_iconst_3 (by decide +kernel)
theorem dL_law_364 : decode cL_law 364 = .ok (.iadd, 1) := dk_iadd (by decide +kernel)
theorem dL_law_365 : decode cL_law 365 = .ok (.iaload, 1) := dk_iaload (by decide +kernel)
theorem wRL_33 : Cond.methodLink RL 33 yX11_feed ∈ sm_T := sm_in 520 (by decide +kernel) (by decide +kernel)
theorem dL_law_366 : decode cL_law 366 = .ok (.invokevirtual 33, 3) := dk_invokevirtual 33 (b1 := 0) (b2 := 33) (by decide +kernel) (by decide +kernel) (by decide +kernel) (by decide +kernel)
theorem dL_law_369 : decode cL_law 369 = .ok (.aload_n 2, 1) := dk_aload_n_2 (by decide +kernel)
theorem dL_law_370 : decode cL_law 370 = .ok (.aload_n 0, 1) := dk_aload_n_0 (by decide +kernel)
theorem dL_law_371 : decode cL_law 371 = .ok (.iload_n 3, 1) := dk_iload_n_3 (by decide +kernel)
theorem dL_law_372 : decode cL_law 372 = .ok (.iconst 1, 1) := dk_iconst_1 (by decide +kernel)
theorem dL_law_373 : decode cL_law 373 = .ok (.iadd, 1) := dk_iadd (by decide +kernel)
theorem dL_law_374 : decode cL_law 374 = .ok (.iaload, 1) := dk_iaload (by decide +kernel)
theorem dL_law_375 : decode cL_law 375 = .ok (.i2l, 1) := dk_i2l (by decide +kernel)
theorem dL_law_376 : decode cL_law 376 = .ok (.bipush 32, 2) := dk_bipush 32 (b := 32) (by decide +kernel) (by decide +kernel) (by decide +kernel)
theorem dL_law_378 : decode cL_law 378 = .ok (.lshl, 1) := dk_lshl (by decide +kernel)
theorem dL_law_379 : decode cL_law 379 = .ok (.aload_n 0, 1) := dk_aload_n_0 (by decide +kernel)
theorem dL_law_380 : decode cL_law 380 = .ok (.iload_n 3, 1) := dk_iload_n_3 (by decide +kernel)
theorem dL_law_381 : decode cL_law 381 = .ok (.iconst 2, 1) := dk_iconst_2 (by decide +kernel)
theorem dL_law_382 : decode cL_law 382 = .ok (.iadd, 1) := dk_iadd (by decide +kernel)
theorem dL_law_383 : decode cL_law 383 = .ok (.iaload, 1) := dk_iaload (by decide +kernel)
theorem dL_law_384 : decode cL_law 384 = .ok (.i2l, 1) := dk_i2l (by decide +kernel)
theorem dL_law_385 : decode cL_law 385 = .ok (.ldc2_w 31, 3) := dk_ldc2_w 31 (b1 := 0) (b2 := 31) (by decide +kernel) (by decide +kernel) (by decide +kernel) (by decide +kernel)
theorem dL_law_388 : decode cL_law 388 = .ok (.land, 1) := dk_land (by decide +kernel)
theorem dL_law_389 : decode cL_law 389 = .ok (.lor, 1) := dk_lor (by decide +kernel)
theorem dL_law_390 : decode cL_law 390 = .ok (.aload_n 0, 1) := dk_aload_n_0 (by decide +kernel)
theorem dL_law_391 : decode cL_law 391 = .ok (.iload_n 3, 1) := dk_iload_n_3 (by decide +kernel)
theorem dL_law_392 : decode cL_law 392 = .ok (.iconst 3, 1) := dk_iconst_3 (by decide +kernel)
theorem dL_law_393 : decode cL_law 393 = .ok (.iadd, 1) := dk_iadd (by decide +kernel)
theorem dL_law_394 : decode cL_law 394 = .ok (.iaload, 1) := dk_iaload (by decide +kernel)
theorem wRL_37 : Cond.methodLink RL 37 yX12_feed ∈ sm_T := sm_in 1441 (by decide +kernel) (by decide +kernel)
theorem dL_law_395 : decode cL_law 395 = .ok (.invokevirtual 37, 3) := dk_invokevirtual 37 (b1 := 0) (b2 := 37) (by decide +kernel) (by decide +kernel) (by decide +kernel) (by decide +kernel)
theorem dL_law_398 : decode cL_law 398 = .ok (.if_icmp .eq 1157, 3) := dk_if_icmp_eq 1157 (b1 := 4) (b2 := 133) (by decide +kernel) (by decide +kernel) (by decide +kernel) (by decide +kernel)
theorem dL_law_403 : decode cL_law 403 = .ok (.aload_n 1, 1) := dk_aload_n_1 (by decide +kernel)
theorem dL_law_404 : decode cL_law 404 = .ok (.aload_n 0, 1) := dk_aload_n_0 (by decide +kernel)
theorem dL_law_405 : decode cL_law 405 = .ok (.iload_n 3, 1) := dk_iload_n_3 (by decide +kernel)
theorem dL_law_406 : decode cL_law 406 = .ok (.iconst 1, 1) := dk_iconst_1 (by decide +kernel)
theorem dL_law_407 : decode cL_law 407 = .ok (.iadd, 1) := dk_iadd (by decide +kernel)
theorem dL_law_408 : decode cL_law 408 = .ok (.iaload, 1) := dk_iaload (by decide +kernel)
theorem wRL_38 : Cond.methodLink RL 38 yX11_tangle ∈ sm_T := sm_in 532 (by decide +kernel) (by decide +kernel)
theorem dL_law_409 : decode cL_law 409 = .ok (.invokevirtual 38, 3) := dk_invokevirtual 38 (b1 := 0) (b2 := 38) (by decide +kernel) (by decide +kernel) (by decide +kernel) (by decide +kernel)
theorem dL_law_412 : decode cL_law 412 = .ok (.aload_n 2, 1) := dk_aload_n_2 (by decide +kernel)
theorem dL_law_413 : decode cL_law 413 = .ok (.aload_n 0, 1) := dk_aload_n_0 (by decide +kernel)
theorem dL_law_414 : decode cL_law 414 = .ok (.iload_n 3, 1) := dk_iload_n_3 (by decide +kernel)
theorem dL_law_415 : decode cL_law 415 = .ok (.iconst 1, 1) := dk_iconst_1 (by decide +kernel)
theorem dL_law_416 : decode cL_law 416 = .ok (.iadd, 1) := dk_iadd (by decide +kernel)
theorem dL_law_417 : decode cL_law 417 = .ok (.iaload, 1) := dk_iaload (by decide +kernel)
theorem wRL_42 : Cond.methodLink RL 42 yX12_tangle ∈ sm_T := sm_in 1446 (by decide +kernel) (by decide +kernel)
theorem dL_law_418 : decode cL_law 418 = .ok (.invokevirtual 42, 3) := dk_invokevirtual 42 (b1 := 0) (b2 := 42) (by decide +kernel) (by decide +kernel) (by decide +kernel) (by decide +kernel)
theorem dL_law_421 : decode cL_law 421 = .ok (.if_icmp .eq 1134, 3) := dk_if_icmp_eq 1134 (b1 := 4) (b2 := 110) (by decide +kernel) (by decide +kernel) (by decide +kernel) (by decide +kernel)
theorem dL_law_426 : decode cL_law 426 = .ok (.aload_n 1, 1) := dk_aload_n_1 (by decide +kernel)
theorem dL_law_427 : decode cL_law 427 = .ok (.aload_n 0, 1) := dk_aload_n_0 (by decide +kernel)
theorem dL_law_428 : decode cL_law 428 = .ok (.iload_n 3, 1) := dk_iload_n_3 (by decide +kernel)
theorem dL_law_429 : decode cL_law 429 = .ok (.iconst 1, 1) := dk_iconst_1 (by decide +kernel)
theorem dL_law_430 : decode cL_law 430 = .ok (.iadd, 1) := dk_iadd (by decide +kernel)
theorem dL_law_431 : decode cL_law 431 = .ok (.iaload, 1) := dk_iaload (by decide +kernel)
theorem wRL_43 : Cond.methodLink RL 43 yX11_moves ∈ sm_T := sm_in 573 (by decide +kernel) (by decide +kernel)
theorem dL_law_432 : decode cL_law 432 = .ok (.invokevirtual 43, 3) := dk_invokevirtual 43 (b1 := 0) (b2 := 43) (by decide +kernel) (by decide +kernel) (by decide +kernel) (by decide +kernel)
theorem dL_law_435 : decode cL_law 435 = .ok (.aload_n 2, 1) := dk_aload_n_2 (by decide +kernel)
theorem dL_law_436 : decode cL_law 436 = .ok (.aload_n 0, 1) := dk_aload_n_0 (by decide +kernel)
theorem dL_law_437 : decode cL_law 437 = .ok (.iload_n 3, 1) := dk_iload_n_3 (by decide +kernel)
theorem dL_law_438 : decode cL_law 438 = .ok (.iconst 1, 1) := dk_iconst_1 (by decide +kernel)
theorem dL_law_439 : decode cL_law 439 = .ok (.iadd, 1) := dk_iadd (by decide +kernel)
theorem dL_law_440 : decode cL_law 440 = .ok (.iaload, 1) := dk_iaload (by decide +kernel)
theorem wRL_46 : Cond.methodLink RL 46 yX12_moves ∈ sm_T := sm_in 1473 (by decide +kernel) (by decide +kernel)
theorem dL_law_441 : decode cL_law 441 = .ok (.invokevirtual 46, 3) := dk_invokevirtual 46 (b1 := 0) (b2 := 46) (by decide +kernel) (by decide +kernel) (by decide +kernel) (by decide +kernel)
theorem dL_law_444 : decode cL_law 444 = .ok (.if_icmp .eq 1111, 3) := dk_if_icmp_eq 1111 (b1 := 4) (b2 := 87) (by decide +kernel) (by decide +kernel) (by decide +kernel) (by decide +kernel)
theorem dL_law_449 : decode cL_law 449 = .ok (.aload_n 1, 1) := dk_aload_n_1 (by decide +kernel)
theorem dL_law_450 : decode cL_law 450 = .ok (.aload_n 0, 1) := dk_aload_n_0 (by decide +kernel)
theorem dL_law_451 : decode cL_law 451 = .ok (.iload_n 3, 1) := dk_iload_n_3 (by decide +kernel)
theorem dL_law_452 : decode cL_law 452 = .ok (.iconst 1, 1) := dk_iconst_1 (by decide +kernel)
theorem dL_law_453 : decode cL_law 453 = .ok (.iadd, 1) := dk_iadd (by decide +kernel)
theorem dL_law_454 : decode cL_law 454 = .ok (.iaload, 1) := dk_iaload (by decide +kernel)
theorem dL_law_455 : decode cL_law 455 = .ok (.aload_n 0, 1) := dk_aload_n_0 (by decide +kernel)
theorem dL_law_456 : decode cL_law 456 = .ok (.iload_n 3, 1) := dk_iload_n_3 (by decide +kernel)
theorem dL_law_457 : decode cL_law 457 = .ok (.iconst 2, 1) := dk_iconst_2 (by decide +kernel)
theorem dL_law_458 : decode cL_law 458 = .ok (.iadd, 1) := dk_iadd (by decide +kernel)
theorem dL_law_459 : decode cL_law 459 = .ok (.iaload, 1) := dk_iaload (by decide +kernel)
theorem wRL_47 : Cond.methodLink RL 47 yX11_term ∈ sm_T := sm_in 651 (by decide +kernel) (by decide +kernel)
theorem dL_law_460 : decode cL_law 460 = .ok (.invokevirtual 47, 3) := dk_invokevirtual 47 (b1 := 0) (b2 := 47) (by decide +kernel) (by decide +kernel) (by decide +kernel) (by decide +kernel)
theorem dL_law_463 : decode cL_law 463 = .ok (.aload_n 2, 1) := dk_aload_n_2 (by decide +kernel)
theorem dL_law_464 : decode cL_law 464 = .ok (.aload_n 0, 1) := dk_aload_n_0 (by decide +kernel)
theorem dL_law_465 : decode cL_law 465 = .ok (.iload_n 3, 1) := dk_iload_n_3 (by decide +kernel)
theorem dL_law_466 : decode cL_law 466 = .ok (.iconst 1, 1) := dk_iconst_1 (by decide +kernel)
theorem dL_law_467 : decode cL_law 467 = .ok (.iadd, 1) := dk_iadd (by decide +kernel)
theorem dL_law_468 : decode cL_law 468 = .ok (.iaload, 1) := dk_iaload (by decide +kernel)
theorem dL_law_469 : decode cL_law 469 = .ok (.aload_n 0, 1) := dk_aload_n_0 (by decide +kernel)
theorem dL_law_470 : decode cL_law 470 = .ok (.iload_n 3, 1) := dk_iload_n_3 (by decide +kernel)
theorem dL_law_471 : decode cL_law 471 = .ok (.iconst 2, 1) := dk_iconst_2 (by decide +kernel)
theorem dL_law_472 : decode cL_law 472 = .ok (.iadd, 1) := dk_iadd (by decide +kernel)
theorem dL_law_473 : decode cL_law 473 = .ok (.iaload, 1) := dk_iaload (by decide +kernel)
theorem wRL_50 : Cond.methodLink RL 50 yX12_term ∈ sm_T := sm_in 1483 (by decide +kernel) (by decide +kernel)
theorem dL_law_474 : decode cL_law 474 = .ok (.invokevirtual 50, 3) := dk_invokevirtual 50 (b1 := 0) (b2 := 50) (by decide +kernel) (by decide +kernel) (by decide +kernel) (by decide +kernel)
theorem dL_law_477 : decode cL_law 477 = .ok (.if_icmp .eq 1078, 3) := dk_if_icmp_eq 1078 (b1 := 4) (b2 := 54) (by decide +kernel) (by decide +kernel) (by decide +kernel) (by decide +kernel)
theorem dL_law_482 : decode cL_law 482 = .ok (.aload_n 1, 1) := dk_aload_n_1 (by decide +kernel)
theorem dL_law_483 : decode cL_law 483 = .ok (.aload_n 0, 1) := dk_aload_n_0 (by decide +kernel)
theorem dL_law_484 : decode cL_law 484 = .ok (.iload_n 3, 1) := dk_iload_n_3 (by decide +kernel)
theorem dL_law_485 : decode cL_law 485 = .ok (.iconst 1, 1) := dk_iconst_1 (by decide +kernel)
theorem dL_law_486 : decode cL_law 486 = .ok (.iadd, 1) := dk_iadd (by decide +kernel)
theorem dL_law_487 : decode cL_law 487 = .ok (.iaload, 1) := dk_iaload (by decide +kernel)
theorem dL_law_488 : decode cL_law 488 = .ok (.aload_n 0, 1) := dk_aload_n_0 (by decide +kernel)
theorem dL_law_489 : decode cL_law 489 = .ok (.iload_n 3, 1) := dk_iload_n_3 (by decide +kernel)
theorem dL_law_490 : decode cL_law 490 = .ok (.iconst 2, 1) := dk_iconst_2 (by decide +kernel)
theorem dL_law_491 : decode cL_law 491 = .ok (.iadd, 1) := dk_iadd (by decide +kernel)
theorem dL_law_492 : decode cL_law 492 = .ok (.iaload, 1) := dk_iaload (by decide +kernel)
theorem wRL_51 : Cond.methodLink RL 51 yX11_dance ∈ sm_T := sm_in 697 (by decide +kernel) (by decide +kernel)
theorem dL_law_493 : decode cL_law 493 = .ok (.invokevirtual 51, 3) := dk_invokevirtual 51 (b1 := 0) (b2 := 51) (by decide +kernel) (by decide +kernel) (by decide +kernel) (by decide +kernel)
theorem dL_law_496 : decode cL_law 496 = .ok (.aload_n 2, 1) := dk_aload_n_2 (by decide +kernel)
theorem dL_law_497 : decode cL_law 497 = .ok (.aload_n 0, 1) := dk_aload_n_0 (by decide +kernel)
theorem dL_law_498 : decode cL_law 498 = .ok (.iload_n 3, 1) := dk_iload_n_3 (by decide +kernel)
theorem dL_law_499 : decode cL_law 499 = .ok (.iconst 1, 1) := dk_iconst_1 (by decide +kernel)
theorem dL_law_500 : decode cL_law 500 = .ok (.iadd, 1) := dk_iadd (by decide +kernel)
theorem dL_law_501 : decode cL_law 501 = .ok (.iaload, 1) := dk_iaload (by decide +kernel)
theorem dL_law_502 : decode cL_law 502 = .ok (.aload_n 0, 1) := dk_aload_n_0 (by decide +kernel)
theorem dL_law_503 : decode cL_law 503 = .ok (.iload_n 3, 1) := dk_iload_n_3 (by decide +kernel)
theorem dL_law_504 : decode cL_law 504 = .ok (.iconst 2, 1) := dk_iconst_2 (by decide +kernel)
theorem dL_law_505 : decode cL_law 505 = .ok (.iadd, 1) := dk_iadd (by decide +kernel)
theorem dL_law_506 : decode cL_law 506 = .ok (.iaload, 1) := dk_iaload (by decide +kernel)
theorem wRL_54 : Cond.methodLink RL 54 yX12_dance ∈ sm_T := sm_in 1491 (by decide +kernel) (by decide +kernel)
theorem dL_law_507 : decode cL_law 507 = .ok (.invokevirtual 54, 3) := dk_invokevirtual 54 (b1 := 0) (b2 := 54) (by decide +kernel) (by decide +kernel) (by decide +kernel) (by decide +kernel)
theorem dL_law_510 : decode cL_law 510 = .ok (.if_icmp .eq 1045, 3) := dk_if_icmp_eq 1045 (b1 := 4) (b2 := 21) (by decide +kernel) (by decide +kernel) (by decide +kernel) (by decide +kernel)
theorem dL_law_515 : decode cL_law 515 = .ok (.aload_n 1, 1) := dk_aload_n_1 (by decide +kernel)
theorem dL_law_516 : decode cL_law 516 = .ok (.aload_n 0, 1) := dk_aload_n_0 (by decide +kernel)
theorem dL_law_517 : decode cL_law 517 = .ok (.iload_n 3, 1) := dk_iload_n_3 (by decide +kernel)
theorem dL_law_518 : decode cL_law 518 = .ok (.iconst 1, 1) := dk_iconst_1 (by decide +kernel)
theorem dL_law_519 : decode cL_law 519 = .ok (.iadd, 1) := dk_iadd (by decide +kernel)
theorem dL_law_520 : decode cL_law 520 = .ok (.iaload, 1) := dk_iaload (by decide +kernel)
theorem dL_law_521 : decode cL_law 521 = .ok (.aload_n 0, 1) := dk_aload_n_0 (by decide +kernel)
theorem dL_law_522 : decode cL_law 522 = .ok (.iload_n 3, 1) := dk_iload_n_3 (by decide +kernel)
theorem dL_law_523 : decode cL_law 523 = .ok (.iconst 2, 1) := dk_iconst_2 (by decide +kernel)
theorem dL_law_524 : decode cL_law 524 = .ok (.iadd, 1) := dk_iadd (by decide +kernel)
theorem dL_law_525 : decode cL_law 525 = .ok (.iaload, 1) := dk_iaload (by decide +kernel)
theorem dL_law_526 : decode cL_law 526 = .ok (.aload_n 0, 1) := dk_aload_n_0 (by decide +kernel)
theorem dL_law_527 : decode cL_law 527 = .ok (.iload_n 3, 1) := dk_iload_n_3 (by decide +kernel)
theorem dL_law_528 : decode cL_law 528 = .ok (.iconst 3, 1) := dk_iconst_3 (by decide +kernel)
theorem dL_law_529 : decode cL_law 529 = .ok (.iadd, 1) := dk_iadd (by decide +kernel)
theorem dL_law_530 : decode cL_law 530 = .ok (.iaload, 1) := dk_iaload (by decide +kernel)
theorem dL_law_531 : decode cL_law 531 = .ok (.aload_n 0, 1) := dk_aload_n_0 (by decide +kernel)
theorem dL_law_532 : decode cL_law 532 = .ok (.iload_n 3, 1) := dk_iload_n_3 (by decide +kernel)
theorem dL_law_533 : decode cL_law 533 = .ok (.iconst 4, 1) := dk_iconst_4 (by decide +kernel)
theorem dL_law_534 : decode cL_law 534 = .ok (.iadd, 1) := dk_iadd (by decide +kernel)
theorem dL_law_535 : decode cL_law 535 = .ok (.iaload, 1) := dk_iaload (by decide +kernel)
theorem wRL_55 : Cond.methodLink RL 55 yX11_least ∈ sm_T := sm_in 704 (by decide +kernel) (by decide +kernel)
theorem dL_law_536 : decode cL_law 536 = .ok (.invokevirtual 55, 3) := dk_invokevirtual 55 (b1 := 0) (b2 := 55) (by decide +kernel) (by decide +kernel) (by decide +kernel) (by decide +kernel)
theorem dL_law_539 : decode cL_law 539 = .ok (.aload_n 2, 1) := dk_aload_n_2 (by decide +kernel)
theorem dL_law_540 : decode cL_law 540 = .ok (.aload_n 0, 1) := dk_aload_n_0 (by decide +kernel)
theorem dL_law_541 : decode cL_law 541 = .ok (.iload_n 3, 1) := dk_iload_n_3 (by decide +kernel)
theorem dL_law_542 : decode cL_law 542 = .ok (.iconst 1, 1) := dk_iconst_1 (by decide +kernel)
theorem dL_law_543 : decode cL_law 543 = .ok (.iadd, 1) := dk_iadd (by decide +kernel)
theorem dL_law_544 : decode cL_law 544 = .ok (.iaload, 1) := dk_iaload (by decide +kernel)
theorem dL_law_545 : decode cL_law 545 = .ok (.aload_n 0, 1) := dk_aload_n_0 (by decide +kernel)
theorem dL_law_546 : decode cL_law 546 = .ok (.iload_n 3, 1) := dk_iload_n_3 (by decide +kernel)
theorem dL_law_547 : decode cL_law 547 = .ok (.iconst 2, 1) := dk_iconst_2 (by decide +kernel)
theorem dL_law_548 : decode cL_law 548 = .ok (.iadd, 1) := dk_iadd (by decide +kernel)
theorem dL_law_549 : decode cL_law 549 = .ok (.iaload, 1) := dk_iaload (by decide +kernel)
theorem dL_law_550 : decode cL_law 550 = .ok (.aload_n 0, 1) := dk_aload_n_0 (by decide +kernel)
theorem dL_law_551 : decode cL_law 551 = .ok (.iload_n 3, 1) := dk_iload_n_3 (by decide +kernel)
theorem dL_law_552 : decode cL_law 552 = .ok (.iconst 3, 1) := dk_iconst_3 (by decide +kernel)
theorem dL_law_553 : decode cL_law 553 = .ok (.iadd, 1) := dk_iadd (by decide +kernel)
theorem dL_law_554 : decode cL_law 554 = .ok (.iaload, 1) := dk_iaload (by decide +kernel)
theorem dL_law_555 : decode cL_law 555 = .ok (.aload_n 0, 1) := dk_aload_n_0 (by decide +kernel)
theorem dL_law_556 : decode cL_law 556 = .ok (.iload_n 3, 1) := dk_iload_n_3 (by decide +kernel)
theorem dL_law_557 : decode cL_law 557 = .ok (.iconst 4, 1) := dk_iconst_4 (by decide +kernel)
theorem dL_law_558 : decode cL_law 558 = .ok (.iadd, 1) := dk_iadd (by decide +kernel)
theorem dL_law_559 : decode cL_law 559 = .ok (.iaload, 1) := dk_iaload (by decide +kernel)
theorem wRL_58 : Cond.methodLink RL 58 yX12_least ∈ sm_T := sm_in 1495 (by decide +kernel) (by decide +kernel)
theorem dL_law_560 : decode cL_law 560 = .ok (.invokevirtual 58, 3) := dk_invokevirtual 58 (b1 := 0) (b2 := 58) (by decide +kernel) (by decide +kernel) (by decide +kernel) (by decide +kernel)
theorem dL_law_563 : decode cL_law 563 = .ok (.if_icmp .eq 992, 3) := dk_if_icmp_eq 992 (b1 := 3) (b2 := 224) (by decide +kernel) (by decide +kernel) (by decide +kernel) (by decide +kernel)
theorem dL_law_568 : decode cL_law 568 = .ok (.aload_n 1, 1) := dk_aload_n_1 (by decide +kernel)
theorem dL_law_569 : decode cL_law 569 = .ok (.aload_n 0, 1) := dk_aload_n_0 (by decide +kernel)
theorem dL_law_570 : decode cL_law 570 = .ok (.iload_n 3, 1) := dk_iload_n_3 (by decide +kernel)
theorem dL_law_571 : decode cL_law 571 = .ok (.iconst 1, 1) := dk_iconst_1 (by decide +kernel)
theorem dL_law_572 : decode cL_law 572 = .ok (.iadd, 1) := dk_iadd (by decide +kernel)
theorem dL_law_573 : decode cL_law 573 = .ok (.iaload, 1) := dk_iaload (by decide +kernel)
theorem dL_law_574 : decode cL_law 574 = .ok (.aload_n 0, 1) := dk_aload_n_0 (by decide +kernel)
theorem dL_law_575 : decode cL_law 575 = .ok (.iload_n 3, 1) := dk_iload_n_3 (by decide +kernel)
theorem dL_law_576 : decode cL_law 576 = .ok (.iconst 2, 1) := dk_iconst_2 (by decide +kernel)
theorem dL_law_577 : decode cL_law 577 = .ok (.iadd, 1) := dk_iadd (by decide +kernel)
theorem dL_law_578 : decode cL_law 578 = .ok (.iaload, 1) := dk_iaload (by decide +kernel)
theorem dL_law_579 : decode cL_law 579 = .ok (.aload_n 0, 1) := dk_aload_n_0 (by decide +kernel)
theorem dL_law_580 : decode cL_law 580 = .ok (.iload_n 3, 1) := dk_iload_n_3 (by decide +kernel)
theorem dL_law_581 : decode cL_law 581 = .ok (.iconst 3, 1) := dk_iconst_3 (by decide +kernel)
theorem dL_law_582 : decode cL_law 582 = .ok (.iadd, 1) := dk_iadd (by decide +kernel)
theorem dL_law_583 : decode cL_law 583 = .ok (.iaload, 1) := dk_iaload (by decide +kernel)
theorem wRL_59 : Cond.methodLink RL 59 yX11_link ∈ sm_T := sm_in 721 (by decide +kernel) (by decide +kernel)
theorem dL_law_584 : decode cL_law 584 = .ok (.invokevirtual 59, 3) := dk_invokevirtual 59 (b1 := 0) (b2 := 59) (by decide +kernel) (by decide +kernel) (by decide +kernel) (by decide +kernel)
theorem dL_law_587 : decode cL_law 587 = .ok (.aload_n 2, 1) := dk_aload_n_2 (by decide +kernel)
theorem dL_law_588 : decode cL_law 588 = .ok (.aload_n 0, 1) := dk_aload_n_0 (by decide +kernel)
theorem dL_law_589 : decode cL_law 589 = .ok (.iload_n 3, 1) := dk_iload_n_3 (by decide +kernel)
theorem dL_law_590 : decode cL_law 590 = .ok (.iconst 1, 1) := dk_iconst_1 (by decide +kernel)
theorem dL_law_591 : decode cL_law 591 = .ok (.iadd, 1) := dk_iadd (by decide +kernel)
theorem dL_law_592 : decode cL_law 592 = .ok (.iaload, 1) := dk_iaload (by decide +kernel)
theorem dL_law_593 : decode cL_law 593 = .ok (.aload_n 0, 1) := dk_aload_n_0 (by decide +kernel)
theorem dL_law_594 : decode cL_law 594 = .ok (.iload_n 3, 1) := dk_iload_n_3 (by decide +kernel)
theorem dL_law_595 : decode cL_law 595 = .ok (.iconst 2, 1) := dk_iconst_2 (by decide +kernel)
theorem dL_law_596 : decode cL_law 596 = .ok (.iadd, 1) := dk_iadd (by decide +kernel)
theorem dL_law_597 : decode cL_law 597 = .ok (.iaload, 1) := dk_iaload (by decide +kernel)
theorem dL_law_598 : decode cL_law 598 = .ok (.aload_n 0, 1) := dk_aload_n_0 (by decide +kernel)
theorem dL_law_599 : decode cL_law 599 = .ok (.iload_n 3, 1) := dk_iload_n_3 (by decide +kernel)
theorem dL_law_600 : decode cL_law 600 = .ok (.iconst 3, 1) := dk_iconst_3 (by decide +kernel)
theorem dL_law_601 : decode cL_law 601 = .ok (.iadd, 1) := dk_iadd (by decide +kernel)
theorem dL_law_602 : decode cL_law 602 = .ok (.iaload, 1) := dk_iaload (by decide +kernel)
theorem wRL_63 : Cond.methodLink RL 63 yX12_link ∈ sm_T := sm_in 1505 (by decide +kernel) (by decide +kernel)
theorem dL_law_603 : decode cL_law 603 = .ok (.invokevirtual 63, 3) := dk_invokevirtual 63 (b1 := 0) (b2 := 63) (by decide +kernel) (by decide +kernel) (by decide +kernel) (by decide +kernel)
theorem dL_law_606 : decode cL_law 606 = .ok (.if_icmp .eq 949, 3) := dk_if_icmp_eq 949 (b1 := 3) (b2 := 181) (by decide +kernel) (by decide +kernel) (by decide +kernel) (by decide +kernel)
theorem dL_law_611 : decode cL_law 611 = .ok (.aload_n 1, 1) := dk_aload_n_1 (by decide +kernel)
theorem dL_law_612 : decode cL_law 612 = .ok (.aload_n 0, 1) := dk_aload_n_0 (by decide +kernel)
theorem dL_law_613 : decode cL_law 613 = .ok (.iload_n 3, 1) := dk_iload_n_3 (by decide +kernel)
theorem dL_law_614 : decode cL_law 614 = .ok (.iconst 1, 1) := dk_iconst_1 (by decide +kernel)
theorem dL_law_615 : decode cL_law 615 = .ok (.iadd, 1) := dk_iadd (by decide +kernel)
theorem dL_law_616 : decode cL_law 616 = .ok (.iaload, 1) := dk_iaload (by decide +kernel)
theorem dL_law_617 : decode cL_law 617 = .ok (.aload_n 0, 1) := dk_aload_n_0 (by decide +kernel)
theorem dL_law_618 : decode cL_law 618 = .ok (.iload_n 3, 1) := dk_iload_n_3 (by decide +kernel)
theorem dL_law_619 : decode cL_law 619 = .ok (.iconst 2, 1) := dk_iconst_2 (by decide +kernel)
theorem dL_law_620 : decode cL_law 620 = .ok (.iadd, 1) := dk_iadd (by decide +kernel)
theorem dL_law_621 : decode cL_law 621 = .ok (.iaload, 1) := dk_iaload (by decide +kernel)
theorem dL_law_622 : decode cL_law 622 = .ok (.aload_n 0, 1) := dk_aload_n_0 (by decide +kernel)
theorem dL_law_623 : decode cL_law 623 = .ok (.iload_n 3, 1) := dk_iload_n_3 (by decide +kernel)
theorem dL_law_624 : decode cL_law 624 = .ok (.iconst 3, 1) := dk_iconst_3 (by decide +kernel)
theorem dL_law_625 : decode cL_law 625 = .ok (.iadd, 1) := dk_iadd (by decide +kernel)
theorem dL_law_626 : decode cL_law 626 = .ok (.iaload, 1) := dk_iaload (by decide +kernel)
theorem dL_law_627 : decode cL_law 627 = .ok (.aload_n 0, 1) := dk_aload_n_0 (by decide +kernel)
theorem dL_law_628 : decode cL_law 628 = .ok (.iload_n 3, 1) := dk_iload_n_3 (by decide +kernel)
theorem dL_law_629 : decode cL_law 629 = .ok (.iconst 4, 1) := dk_iconst_4 (by decide +kernel)
theorem dL_law_630 : decode cL_law 630 = .ok (.iadd, 1) := dk_iadd (by decide +kernel)
theorem dL_law_631 : decode cL_law 631 = .ok (.iaload, 1) := dk_iaload (by decide +kernel)
theorem wRL_64 : Cond.methodLink RL 64 yX11_crossing ∈ sm_T := sm_in 804 (by decide +kernel) (by decide +kernel)
theorem dL_law_632 : decode cL_law 632 = .ok (.invokevirtual 64, 3) := dk_invokevirtual 64 (b1 := 0) (b2 := 64) (by decide +kernel) (by decide +kernel) (by decide +kernel) (by decide +kernel)
theorem dL_law_635 : decode cL_law 635 = .ok (.aload_n 2, 1) := dk_aload_n_2 (by decide +kernel)
theorem dL_law_636 : decode cL_law 636 = .ok (.aload_n 0, 1) := dk_aload_n_0 (by decide +kernel)
theorem dL_law_637 : decode cL_law 637 = .ok (.iload_n 3, 1) := dk_iload_n_3 (by decide +kernel)
theorem dL_law_638 : decode cL_law 638 = .ok (.iconst 1, 1) := dk_iconst_1 (by decide +kernel)
theorem dL_law_639 : decode cL_law 639 = .ok (.iadd, 1) := dk_iadd (by decide +kernel)
theorem dL_law_640 : decode cL_law 640 = .ok (.iaload, 1) := dk_iaload (by decide +kernel)
theorem dL_law_641 : decode cL_law 641 = .ok (.aload_n 0, 1) := dk_aload_n_0 (by decide +kernel)
theorem dL_law_642 : decode cL_law 642 = .ok (.iload_n 3, 1) := dk_iload_n_3 (by decide +kernel)
theorem dL_law_643 : decode cL_law 643 = .ok (.iconst 2, 1) := dk_iconst_2 (by decide +kernel)
theorem dL_law_644 : decode cL_law 644 = .ok (.iadd, 1) := dk_iadd (by decide +kernel)
theorem dL_law_645 : decode cL_law 645 = .ok (.iaload, 1) := dk_iaload (by decide +kernel)
theorem dL_law_646 : decode cL_law 646 = .ok (.aload_n 0, 1) := dk_aload_n_0 (by decide +kernel)
theorem dL_law_647 : decode cL_law 647 = .ok (.iload_n 3, 1) := dk_iload_n_3 (by decide +kernel)
theorem dL_law_648 : decode cL_law 648 = .ok (.iconst 3, 1) := dk_iconst_3 (by decide +kernel)
theorem dL_law_649 : decode cL_law 649 = .ok (.iadd, 1) := dk_iadd (by decide +kernel)
theorem dL_law_650 : decode cL_law 650 = .ok (.iaload, 1) := dk_iaload (by decide +kernel)
theorem dL_law_651 : decode cL_law 651 = .ok (.aload_n 0, 1) := dk_aload_n_0 (by decide +kernel)
theorem dL_law_652 : decode cL_law 652 = .ok (.iload_n 3, 1) := dk_iload_n_3 (by decide +kernel)
theorem dL_law_653 : decode cL_law 653 = .ok (.iconst 4, 1) := dk_iconst_4 (by decide +kernel)
theorem dL_law_654 : decode cL_law 654 = .ok (.iadd, 1) := dk_iadd (by decide +kernel)
theorem dL_law_655 : decode cL_law 655 = .ok (.iaload, 1) := dk_iaload (by decide +kernel)
theorem wRL_67 : Cond.methodLink RL 67 yX12_crossing ∈ sm_T := sm_in 1546 (by decide +kernel) (by decide +kernel)
theorem dL_law_656 : decode cL_law 656 = .ok (.invokevirtual 67, 3) := dk_invokevirtual 67 (b1 := 0) (b2 := 67) (by decide +kernel) (by decide +kernel) (by decide +kernel) (by decide +kernel)
theorem dL_law_659 : decode cL_law 659 = .ok (.if_icmp .eq 896, 3) := dk_if_icmp_eq 896 (b1 := 3) (b2 := 128) (by decide +kernel) (by decide +kernel) (by decide +kernel) (by decide +kernel)
theorem dL_law_664 : decode cL_law 664 = .ok (.aload_n 1, 1) := dk_aload_n_1 (by decide +kernel)
theorem dL_law_665 : decode cL_law 665 = .ok (.aload_n 0, 1) := dk_aload_n_0 (by decide +kernel)
theorem dL_law_666 : decode cL_law 666 = .ok (.iload_n 3, 1) := dk_iload_n_3 (by decide +kernel)
theorem dL_law_667 : decode cL_law 667 = .ok (.iconst 1, 1) := dk_iconst_1 (by decide +kernel)
theorem dL_law_668 : decode cL_law 668 = .ok (.iadd, 1) := dk_iadd (by decide +kernel)
theorem dL_law_669 : decode cL_law 669 = .ok (.iaload, 1) := dk_iaload (by decide +kernel)
theorem dL_law_670 : decode cL_law 670 = .ok (.aload_n 0, 1) := dk_aload_n_0 (by decide +kernel)
theorem dL_law_671 : decode cL_law 671 = .ok (.iload_n 3, 1) := dk_iload_n_3 (by decide +kernel)
theorem dL_law_672 : decode cL_law 672 = .ok (.iconst 2, 1) := dk_iconst_2 (by decide +kernel)
theorem dL_law_673 : decode cL_law 673 = .ok (.iadd, 1) := dk_iadd (by decide +kernel)
theorem dL_law_674 : decode cL_law 674 = .ok (.iaload, 1) := dk_iaload (by decide +kernel)
theorem dL_law_675 : decode cL_law 675 = .ok (.aload_n 0, 1) := dk_aload_n_0 (by decide +kernel)
theorem dL_law_676 : decode cL_law 676 = .ok (.iload_n 3, 1) := dk_iload_n_3 (by decide +kernel)
theorem dL_law_677 : decode cL_law 677 = .ok (.iconst 3, 1) := dk_iconst_3 (by decide +kernel)
theorem dL_law_678 : decode cL_law 678 = .ok (.iadd, 1) := dk_iadd (by decide +kernel)
theorem dL_law_679 : decode cL_law 679 = .ok (.iaload, 1) := dk_iaload (by decide +kernel)
theorem dL_law_680 : decode cL_law 680 = .ok (.aload_n 0, 1) := dk_aload_n_0 (by decide +kernel)
theorem dL_law_681 : decode cL_law 681 = .ok (.iload_n 3, 1) := dk_iload_n_3 (by decide +kernel)
theorem dL_law_682 : decode cL_law 682 = .ok (.iconst 4, 1) := dk_iconst_4 (by decide +kernel)
theorem dL_law_683 : decode cL_law 683 = .ok (.iadd, 1) := dk_iadd (by decide +kernel)
theorem dL_law_684 : decode cL_law 684 = .ok (.iaload, 1) := dk_iaload (by decide +kernel)
theorem wRL_68 : Cond.methodLink RL 68 yX11_linked ∈ sm_T := sm_in 817 (by decide +kernel) (by decide +kernel)
theorem dL_law_685 : decode cL_law 685 = .ok (.invokevirtual 68, 3) := dk_invokevirtual 68 (b1 := 0) (b2 := 68) (by decide +kernel) (by decide +kernel) (by decide +kernel) (by decide +kernel)
theorem dL_law_688 : decode cL_law 688 = .ok (.aload_n 2, 1) := dk_aload_n_2 (by decide +kernel)
theorem dL_law_689 : decode cL_law 689 = .ok (.aload_n 0, 1) := dk_aload_n_0 (by decide +kernel)
theorem dL_law_690 : decode cL_law 690 = .ok (.iload_n 3, 1) := dk_iload_n_3 (by decide +kernel)
theorem dL_law_691 : decode cL_law 691 = .ok (.iconst 1, 1) := dk_iconst_1 (by decide +kernel)
theorem dL_law_692 : decode cL_law 692 = .ok (.iadd, 1) := dk_iadd (by decide +kernel)
theorem dL_law_693 : decode cL_law 693 = .ok (.iaload, 1) := dk_iaload (by decide +kernel)
theorem dL_law_694 : decode cL_law 694 = .ok (.aload_n 0, 1) := dk_aload_n_0 (by decide +kernel)
theorem dL_law_695 : decode cL_law 695 = .ok (.iload_n 3, 1) := dk_iload_n_3 (by decide +kernel)
theorem dL_law_696 : decode cL_law 696 = .ok (.iconst 2, 1) := dk_iconst_2 (by decide +kernel)
theorem dL_law_697 : decode cL_law 697 = .ok (.iadd, 1) := dk_iadd (by decide +kernel)
theorem dL_law_698 : decode cL_law 698 = .ok (.iaload, 1) := dk_iaload (by decide +kernel)
theorem dL_law_699 : decode cL_law 699 = .ok (.aload_n 0, 1) := dk_aload_n_0 (by decide +kernel)
theorem dL_law_700 : decode cL_law 700 = .ok (.iload_n 3, 1) := dk_iload_n_3 (by decide +kernel)
theorem dL_law_701 : decode cL_law 701 = .ok (.iconst 3, 1) := dk_iconst_3 (by decide +kernel)
theorem dL_law_702 : decode cL_law 702 = .ok (.iadd, 1) := dk_iadd (by decide +kernel)
theorem dL_law_703 : decode cL_law 703 = .ok (.iaload, 1) := dk_iaload (by decide +kernel)
theorem dL_law_704 : decode cL_law 704 = .ok (.aload_n 0, 1) := dk_aload_n_0 (by decide +kernel)
theorem dL_law_705 : decode cL_law 705 = .ok (.iload_n 3, 1) := dk_iload_n_3 (by decide +kernel)
theorem dL_law_706 : decode cL_law 706 = .ok (.iconst 4, 1) := dk_iconst_4 (by decide +kernel)
theorem dL_law_707 : decode cL_law 707 = .ok (.iadd, 1) := dk_iadd (by decide +kernel)
theorem dL_law_708 : decode cL_law 708 = .ok (.iaload, 1) := dk_iaload (by decide +kernel)
theorem wRL_71 : Cond.methodLink RL 71 yX12_linked ∈ sm_T := sm_in 1551 (by decide +kernel) (by decide +kernel)
theorem dL_law_709 : decode cL_law 709 = .ok (.invokevirtual 71, 3) := dk_invokevirtual 71 (b1 := 0) (b2 := 71) (by decide +kernel) (by decide +kernel) (by decide +kernel) (by decide +kernel)
theorem dL_law_712 : decode cL_law 712 = .ok (.if_icmp .eq 843, 3) := dk_if_icmp_eq 843 (b1 := 3) (b2 := 75) (by decide +kernel) (by decide +kernel) (by decide +kernel) (by decide +kernel)
theorem dL_law_717 : decode cL_law 717 = .ok (.aload_n 1, 1) := dk_aload_n_1 (by decide +kernel)
theorem dL_law_718 : decode cL_law 718 = .ok (.aload_n 0, 1) := dk_aload_n_0 (by decide +kernel)
theorem dL_law_719 : decode cL_law 719 = .ok (.iload_n 3, 1) := dk_iload_n_3 (by decide +kernel)
theorem dL_law_720 : decode cL_law 720 = .ok (.iconst 1, 1) := dk_iconst_1 (by decide +kernel)
theorem dL_law_721 : decode cL_law 721 = .ok (.iadd, 1) := dk_iadd (by decide +kernel)
theorem dL_law_722 : decode cL_law 722 = .ok (.iaload, 1) := dk_iaload (by decide +kernel)
theorem dL_law_723 : decode cL_law 723 = .ok (.aload_n 0, 1) := dk_aload_n_0 (by decide +kernel)
theorem dL_law_724 : decode cL_law 724 = .ok (.iload_n 3, 1) := dk_iload_n_3 (by decide +kernel)
theorem dL_law_725 : decode cL_law 725 = .ok (.iconst 2, 1) := dk_iconst_2 (by decide +kernel)
theorem dL_law_726 : decode cL_law 726 = .ok (.iadd, 1) := dk_iadd (by decide +kernel)
theorem dL_law_727 : decode cL_law 727 = .ok (.iaload, 1) := dk_iaload (by decide +kernel)
theorem dL_law_728 : decode cL_law 728 = .ok (.aload_n 0, 1) := dk_aload_n_0 (by decide +kernel)
theorem dL_law_729 : decode cL_law 729 = .ok (.iload_n 3, 1) := dk_iload_n_3 (by decide +kernel)
theorem dL_law_730 : decode cL_law 730 = .ok (.iconst 3, 1) := dk_iconst_3 (by decide +kernel)
theorem dL_law_731 : decode cL_law 731 = .ok (.iadd, 1) := dk_iadd (by decide +kernel)
theorem dL_law_732 : decode cL_law 732 = .ok (.iaload, 1) := dk_iaload (by decide +kernel)
theorem dL_law_733 : decode cL_law 733 = .ok (.aload_n 0, 1) := dk_aload_n_0 (by decide +kernel)
theorem dL_law_734 : decode cL_law 734 = .ok (.iload_n 3, 1) := dk_iload_n_3 (by decide +kernel)
theorem dL_law_735 : decode cL_law 735 = .ok (.iconst 4, 1) := dk_iconst_4 (by decide +kernel)
theorem dL_law_736 : decode cL_law 736 = .ok (.iadd, 1) := dk_iadd (by decide +kernel)
theorem dL_law_737 : decode cL_law 737 = .ok (.iaload, 1) := dk_iaload (by decide +kernel)
theorem wRL_72 : Cond.methodLink RL 72 yX11_gauss ∈ sm_T := sm_in 831 (by decide +kernel) (by decide +kernel)
theorem dL_law_738 : decode cL_law 738 = .ok (.invokevirtual 72, 3) := dk_invokevirtual 72 (b1 := 0) (b2 := 72) (by decide +kernel) (by decide +kernel) (by decide +kernel) (by decide +kernel)
theorem dL_law_741 : decode cL_law 741 = .ok (.aload_n 2, 1) := dk_aload_n_2 (by decide +kernel)
theorem dL_law_742 : decode cL_law 742 = .ok (.aload_n 0, 1) := dk_aload_n_0 (by decide +kernel)
theorem dL_law_743 : decode cL_law 743 = .ok (.iload_n 3, 1) := dk_iload_n_3 (by decide +kernel)
theorem dL_law_744 : decode cL_law 744 = .ok (.iconst 1, 1) := dk_iconst_1 (by decide +kernel)
theorem dL_law_745 : decode cL_law 745 = .ok (.iadd, 1) := dk_iadd (by decide +kernel)
theorem dL_law_746 : decode cL_law 746 = .ok (.iaload, 1) := dk_iaload (by decide +kernel)
theorem dL_law_747 : decode cL_law 747 = .ok (.aload_n 0, 1) := dk_aload_n_0 (by decide +kernel)
theorem dL_law_748 : decode cL_law 748 = .ok (.iload_n 3, 1) := dk_iload_n_3 (by decide +kernel)
theorem dL_law_749 : decode cL_law 749 = .ok (.iconst 2, 1) := dk_iconst_2 (by decide +kernel)
theorem dL_law_750 : decode cL_law 750 = .ok (.iadd, 1) := dk_iadd (by decide +kernel)
theorem dL_law_751 : decode cL_law 751 = .ok (.iaload, 1) := dk_iaload (by decide +kernel)
theorem dL_law_752 : decode cL_law 752 = .ok (.aload_n 0, 1) := dk_aload_n_0 (by decide +kernel)
theorem dL_law_753 : decode cL_law 753 = .ok (.iload_n 3, 1) := dk_iload_n_3 (by decide +kernel)
theorem dL_law_754 : decode cL_law 754 = .ok (.iconst 3, 1) := dk_iconst_3 (by decide +kernel)
theorem dL_law_755 : decode cL_law 755 = .ok (.iadd, 1) := dk_iadd (by decide +kernel)
theorem dL_law_756 : decode cL_law 756 = .ok (.iaload, 1) := dk_iaload (by decide +kernel)
theorem dL_law_757 : decode cL_law 757 = .ok (.aload_n 0, 1) := dk_aload_n_0 (by decide +kernel)
theorem dL_law_758 : decode cL_law 758 = .ok (.iload_n 3, 1) := dk_iload_n_3 (by decide +kernel)
theorem dL_law_759 : decode cL_law 759 = .ok (.iconst 4, 1) := dk_iconst_4 (by decide +kernel)
theorem dL_law_760 : decode cL_law 760 = .ok (.iadd, 1) := dk_iadd (by decide +kernel)
theorem dL_law_761 : decode cL_law 761 = .ok (.iaload, 1) := dk_iaload (by decide +kernel)
theorem wRL_75 : Cond.methodLink RL 75 yX12_gauss ∈ sm_T := sm_in 1555 (by decide +kernel) (by decide +kernel)
theorem dL_law_762 : decode cL_law 762 = .ok (.invokevirtual 75, 3) := dk_invokevirtual 75 (b1 := 0) (b2 := 75) (by decide +kernel) (by decide +kernel) (by decide +kernel) (by decide +kernel)
theorem dL_law_765 : decode cL_law 765 = .ok (.if_icmp .eq 790, 3) := dk_if_icmp_eq 790 (b1 := 3) (b2 := 22) (by decide +kernel) (by decide +kernel) (by decide +kernel) (by decide +kernel)
theorem dL_law_770 : decode cL_law 770 = .ok (.aload_n 1, 1) := dk_aload_n_1 (by decide +kernel)
theorem dL_law_771 : decode cL_law 771 = .ok (.aload_n 0, 1) := dk_aload_n_0 (by decide +kernel)
theorem dL_law_772 : decode cL_law 772 = .ok (.iload_n 3, 1) := dk_iload_n_3 (by decide +kernel)
theorem dL_law_773 : decode cL_law 773 = .ok (.iconst 1, 1) := dk_iconst_1 (by decide +kernel)
theorem dL_law_774 : decode cL_law 774 = .ok (.iadd, 1) := dk_iadd (by decide +kernel)
theorem dL_law_775 : decode cL_law 775 = .ok (.iaload, 1) := dk_iaload (by decide +kernel)
theorem dL_law_776 : decode cL_law 776 = .ok (.aload_n 0, 1) := dk_aload_n_0 (by decide +kernel)
theorem dL_law_777 : decode cL_law 777 = .ok (.iload_n 3, 1) := dk_iload_n_3 (by decide +kernel)
theorem dL_law_778 : decode cL_law 778 = .ok (.iconst 2, 1) := dk_iconst_2 (by decide +kernel)
theorem dL_law_779 : decode cL_law 779 = .ok (.iadd, 1) := dk_iadd (by decide +kernel)
theorem dL_law_780 : decode cL_law 780 = .ok (.iaload, 1) := dk_iaload (by decide +kernel)
theorem dL_law_781 : decode cL_law 781 = .ok (.aload_n 0, 1) := dk_aload_n_0 (by decide +kernel)
theorem dL_law_782 : decode cL_law 782 = .ok (.iload_n 3, 1) := dk_iload_n_3 (by decide +kernel)
theorem dL_law_783 : decode cL_law 783 = .ok (.iconst 3, 1) := dk_iconst_3 (by decide +kernel)
theorem dL_law_784 : decode cL_law 784 = .ok (.iadd, 1) := dk_iadd (by decide +kernel)
theorem dL_law_785 : decode cL_law 785 = .ok (.iaload, 1) := dk_iaload (by decide +kernel)
theorem wRL_76 : Cond.methodLink RL 76 yX11_colours ∈ sm_T := sm_in 852 (by decide +kernel) (by decide +kernel)
theorem dL_law_786 : decode cL_law 786 = .ok (.invokevirtual 76, 3) := dk_invokevirtual 76 (b1 := 0) (b2 := 76) (by decide +kernel) (by decide +kernel) (by decide +kernel) (by decide +kernel)
theorem dL_law_789 : decode cL_law 789 = .ok (.aload_n 2, 1) := dk_aload_n_2 (by decide +kernel)
theorem dL_law_790 : decode cL_law 790 = .ok (.aload_n 0, 1) := dk_aload_n_0 (by decide +kernel)
theorem dL_law_791 : decode cL_law 791 = .ok (.iload_n 3, 1) := dk_iload_n_3 (by decide +kernel)
theorem dL_law_792 : decode cL_law 792 = .ok (.iconst 1, 1) := dk_iconst_1 (by decide +kernel)
theorem dL_law_793 : decode cL_law 793 = .ok (.iadd, 1) := dk_iadd (by decide +kernel)
theorem dL_law_794 : decode cL_law 794 = .ok (.iaload, 1) := dk_iaload (by decide +kernel)
theorem dL_law_795 : decode cL_law 795 = .ok (.aload_n 0, 1) := dk_aload_n_0 (by decide +kernel)
theorem dL_law_796 : decode cL_law 796 = .ok (.iload_n 3, 1) := dk_iload_n_3 (by decide +kernel)
theorem dL_law_797 : decode cL_law 797 = .ok (.iconst 2, 1) := dk_iconst_2 (by decide +kernel)
theorem dL_law_798 : decode cL_law 798 = .ok (.iadd, 1) := dk_iadd (by decide +kernel)
theorem dL_law_799 : decode cL_law 799 = .ok (.iaload, 1) := dk_iaload (by decide +kernel)
theorem dL_law_800 : decode cL_law 800 = .ok (.aload_n 0, 1) := dk_aload_n_0 (by decide +kernel)
theorem dL_law_801 : decode cL_law 801 = .ok (.iload_n 3, 1) := dk_iload_n_3 (by decide +kernel)
theorem dL_law_802 : decode cL_law 802 = .ok (.iconst 3, 1) := dk_iconst_3 (by decide +kernel)
theorem dL_law_803 : decode cL_law 803 = .ok (.iadd, 1) := dk_iadd (by decide +kernel)
theorem dL_law_804 : decode cL_law 804 = .ok (.iaload, 1) := dk_iaload (by decide +kernel)
theorem wRL_79 : Cond.methodLink RL 79 yX12_colours ∈ sm_T := sm_in 1566 (by decide +kernel) (by decide +kernel)
theorem dL_law_805 : decode cL_law 805 = .ok (.invokevirtual 79, 3) := dk_invokevirtual 79 (b1 := 0) (b2 := 79) (by decide +kernel) (by decide +kernel) (by decide +kernel) (by decide +kernel)
theorem dL_law_808 : decode cL_law 808 = .ok (.if_icmp .eq 747, 3) := dk_if_icmp_eq 747 (b1 := 2) (b2 := 235) (by decide +kernel) (by decide +kernel) (by decide +kernel) (by decide +kernel)
theorem dL_law_813 : decode cL_law 813 = .ok (.aload_n 1, 1) := dk_aload_n_1 (by decide +kernel)
theorem dL_law_814 : decode cL_law 814 = .ok (.aload_n 0, 1) := dk_aload_n_0 (by decide +kernel)
theorem dL_law_815 : decode cL_law 815 = .ok (.iload_n 3, 1) := dk_iload_n_3 (by decide +kernel)
theorem dL_law_816 : decode cL_law 816 = .ok (.iconst 1, 1) := dk_iconst_1 (by decide +kernel)
theorem dL_law_817 : decode cL_law 817 = .ok (.iadd, 1) := dk_iadd (by decide +kernel)
theorem dL_law_818 : decode cL_law 818 = .ok (.iaload, 1) := dk_iaload (by decide +kernel)
theorem dL_law_819 : decode cL_law 819 = .ok (.aload_n 0, 1) := dk_aload_n_0 (by decide +kernel)
theorem dL_law_820 : decode cL_law 820 = .ok (.iload_n 3, 1) := dk_iload_n_3 (by decide +kernel)
theorem dL_law_821 : decode cL_law 821 = .ok (.iconst 2, 1) := dk_iconst_2 (by decide +kernel)
theorem dL_law_822 : decode cL_law 822 = .ok (.iadd, 1) := dk_iadd (by decide +kernel)
theorem dL_law_823 : decode cL_law 823 = .ok (.iaload, 1) := dk_iaload (by decide +kernel)
theorem dL_law_824 : decode cL_law 824 = .ok (.aload_n 0, 1) := dk_aload_n_0 (by decide +kernel)
theorem dL_law_825 : decode cL_law 825 = .ok (.iload_n 3, 1) := dk_iload_n_3 (by decide +kernel)
theorem dL_law_826 : decode cL_law 826 = .ok (.iconst 3, 1) := dk_iconst_3 (by decide +kernel)
theorem dL_law_827 : decode cL_law 827 = .ok (.iadd, 1) := dk_iadd (by decide +kernel)
theorem dL_law_828 : decode cL_law 828 = .ok (.iaload, 1) := dk_iaload (by decide +kernel)
theorem wRL_80 : Cond.methodLink RL 80 yX11_name ∈ sm_T := sm_in 894 (by decide +kernel) (by decide +kernel)
theorem dL_law_829 : decode cL_law 829 = .ok (.invokevirtual 80, 3) := dk_invokevirtual 80 (b1 := 0) (b2 := 80) (by decide +kernel) (by decide +kernel) (by decide +kernel) (by decide +kernel)
theorem dL_law_832 : decode cL_law 832 = .ok (.aload_n 2, 1) := dk_aload_n_2 (by decide +kernel)
theorem dL_law_833 : decode cL_law 833 = .ok (.aload_n 0, 1) := dk_aload_n_0 (by decide +kernel)
theorem dL_law_834 : decode cL_law 834 = .ok (.iload_n 3, 1) := dk_iload_n_3 (by decide +kernel)
theorem dL_law_835 : decode cL_law 835 = .ok (.iconst 1, 1) := dk_iconst_1 (by decide +kernel)
theorem dL_law_836 : decode cL_law 836 = .ok (.iadd, 1) := dk_iadd (by decide +kernel)
theorem dL_law_837 : decode cL_law 837 = .ok (.iaload, 1) := dk_iaload (by decide +kernel)
theorem dL_law_838 : decode cL_law 838 = .ok (.aload_n 0, 1) := dk_aload_n_0 (by decide +kernel)
theorem dL_law_839 : decode cL_law 839 = .ok (.iload_n 3, 1) := dk_iload_n_3 (by decide +kernel)
theorem dL_law_840 : decode cL_law 840 = .ok (.iconst 2, 1) := dk_iconst_2 (by decide +kernel)
theorem dL_law_841 : decode cL_law 841 = .ok (.iadd, 1) := dk_iadd (by decide +kernel)
theorem dL_law_842 : decode cL_law 842 = .ok (.iaload, 1) := dk_iaload (by decide +kernel)
theorem dL_law_843 : decode cL_law 843 = .ok (.aload_n 0, 1) := dk_aload_n_0 (by decide +kernel)
theorem dL_law_844 : decode cL_law 844 = .ok (.iload_n 3, 1) := dk_iload_n_3 (by decide +kernel)
theorem dL_law_845 : decode cL_law 845 = .ok (.iconst 3, 1) := dk_iconst_3 (by decide +kernel)
theorem dL_law_846 : decode cL_law 846 = .ok (.iadd, 1) := dk_iadd (by decide +kernel)
theorem dL_law_847 : decode cL_law 847 = .ok (.iaload, 1) := dk_iaload (by decide +kernel)
theorem wRL_83 : Cond.methodLink RL 83 yX12_name ∈ sm_T := sm_in 1577 (by decide +kernel) (by decide +kernel)
theorem dL_law_848 : decode cL_law 848 = .ok (.invokevirtual 83, 3) := dk_invokevirtual 83 (b1 := 0) (b2 := 83) (by decide +kernel) (by decide +kernel) (by decide +kernel) (by decide +kernel)
theorem dL_law_851 : decode cL_law 851 = .ok (.if_icmp .eq 704, 3) := dk_if_icmp_eq 704 (b1 := 2) (b2 := 192) (by decide +kernel) (by decide +kernel) (by decide +kernel) (by decide +kernel)
theorem dL_law_856 : decode cL_law 856 = .ok (.aload_n 1, 1) := dk_aload_n_1 (by decide +kernel)
theorem dL_law_857 : decode cL_law 857 = .ok (.aload_n 0, 1) := dk_aload_n_0 (by decide +kernel)
theorem dL_law_858 : decode cL_law 858 = .ok (.iload_n 3, 1) := dk_iload_n_3 (by decide +kernel)
theorem dL_law_859 : decode cL_law 859 = .ok (.iconst 1, 1) := dk_iconst_1 (by decide +kernel)
theorem dL_law_860 : decode cL_law 860 = .ok (.iadd, 1) := dk_iadd (by decide +kernel)
theorem dL_law_861 : decode cL_law 861 = .ok (.iaload, 1) := dk_iaload (by decide +kernel)
theorem dL_law_862 : decode cL_law 862 = .ok (.aload_n 0, 1) := dk_aload_n_0 (by decide +kernel)
theorem dL_law_863 : decode cL_law 863 = .ok (.iload_n 3, 1) := dk_iload_n_3 (by decide +kernel)
theorem dL_law_864 : decode cL_law 864 = .ok (.iconst 2, 1) := dk_iconst_2 (by decide +kernel)
theorem dL_law_865 : decode cL_law 865 = .ok (.iadd, 1) := dk_iadd (by decide +kernel)
theorem dL_law_866 : decode cL_law 866 = .ok (.iaload, 1) := dk_iaload (by decide +kernel)
theorem dL_law_867 : decode cL_law 867 = .ok (.aload_n 0, 1) := dk_aload_n_0 (by decide +kernel)
theorem dL_law_868 : decode cL_law 868 = .ok (.iload_n 3, 1) := dk_iload_n_3 (by decide +kernel)
theorem dL_law_869 : decode cL_law 869 = .ok (.iconst 3, 1) := dk_iconst_3 (by decide +kernel)
theorem dL_law_870 : decode cL_law 870 = .ok (.iadd, 1) := dk_iadd (by decide +kernel)
theorem dL_law_871 : decode cL_law 871 = .ok (.iaload, 1) := dk_iaload (by decide +kernel)
theorem dL_law_872 : decode cL_law 872 = .ok (.aload_n 0, 1) := dk_aload_n_0 (by decide +kernel)
theorem dL_law_873 : decode cL_law 873 = .ok (.iload_n 3, 1) := dk_iload_n_3 (by decide +kernel)
theorem dL_law_874 : decode cL_law 874 = .ok (.iconst 4, 1) := dk_iconst_4 (by decide +kernel)
theorem dL_law_875 : decode cL_law 875 = .ok (.iadd, 1) := dk_iadd (by decide +kernel)
theorem dL_law_876 : decode cL_law 876 = .ok (.iaload, 1) := dk_iaload (by decide +kernel)
theorem wRL_84 : Cond.methodLink RL 84 yX11_alike ∈ sm_T := sm_in 961 (by decide +kernel) (by decide +kernel)
theorem dL_law_877 : decode cL_law 877 = .ok (.invokevirtual 84, 3) := dk_invokevirtual 84 (b1 := 0) (b2 := 84) (by decide +kernel) (by decide +kernel) (by decide +kernel) (by decide +kernel)
theorem dL_law_880 : decode cL_law 880 = .ok (.aload_n 2, 1) := dk_aload_n_2 (by decide +kernel)
theorem dL_law_881 : decode cL_law 881 = .ok (.aload_n 0, 1) := dk_aload_n_0 (by decide +kernel)
theorem dL_law_882 : decode cL_law 882 = .ok (.iload_n 3, 1) := dk_iload_n_3 (by decide +kernel)
theorem dL_law_883 : decode cL_law 883 = .ok (.iconst 1, 1) := dk_iconst_1 (by decide +kernel)
theorem dL_law_884 : decode cL_law 884 = .ok (.iadd, 1) := dk_iadd (by decide +kernel)
theorem dL_law_885 : decode cL_law 885 = .ok (.iaload, 1) := dk_iaload (by decide +kernel)
theorem dL_law_886 : decode cL_law 886 = .ok (.aload_n 0, 1) := dk_aload_n_0 (by decide +kernel)
theorem dL_law_887 : decode cL_law 887 = .ok (.iload_n 3, 1) := dk_iload_n_3 (by decide +kernel)
theorem dL_law_888 : decode cL_law 888 = .ok (.iconst 2, 1) := dk_iconst_2 (by decide +kernel)
theorem dL_law_889 : decode cL_law 889 = .ok (.iadd, 1) := dk_iadd (by decide +kernel)
theorem dL_law_890 : decode cL_law 890 = .ok (.iaload, 1) := dk_iaload (by decide +kernel)
theorem dL_law_891 : decode cL_law 891 = .ok (.aload_n 0, 1) := dk_aload_n_0 (by decide +kernel)
theorem dL_law_892 : decode cL_law 892 = .ok (.iload_n 3, 1) := dk_iload_n_3 (by decide +kernel)
theorem dL_law_893 : decode cL_law 893 = .ok (.iconst 3, 1) := dk_iconst_3 (by decide +kernel)
theorem dL_law_894 : decode cL_law 894 = .ok (.iadd, 1) := dk_iadd (by decide +kernel)
theorem dL_law_895 : decode cL_law 895 = .ok (.iaload, 1) := dk_iaload (by decide +kernel)
theorem dL_law_896 : decode cL_law 896 = .ok (.aload_n 0, 1) := dk_aload_n_0 (by decide +kernel)
theorem dL_law_897 : decode cL_law 897 = .ok (.iload_n 3, 1) := dk_iload_n_3 (by decide +kernel)
theorem dL_law_898 : decode cL_law 898 = .ok (.iconst 4, 1) := dk_iconst_4 (by decide +kernel)
theorem dL_law_899 : decode cL_law 899 = .ok (.iadd, 1) := dk_iadd (by decide +kernel)
theorem dL_law_900 : decode cL_law 900 = .ok (.iaload, 1) := dk_iaload (by decide +kernel)
theorem wRL_87 : Cond.methodLink RL 87 yX12_alike ∈ sm_T := sm_in 1617 (by decide +kernel) (by decide +kernel)
theorem dL_law_901 : decode cL_law 901 = .ok (.invokevirtual 87, 3) := dk_invokevirtual 87 (b1 := 0) (b2 := 87) (by decide +kernel) (by decide +kernel) (by decide +kernel) (by decide +kernel)
theorem dL_law_904 : decode cL_law 904 = .ok (.if_icmp .eq 651, 3) := dk_if_icmp_eq 651 (b1 := 2) (b2 := 139) (by decide +kernel) (by decide +kernel) (by decide +kernel) (by decide +kernel)
theorem dL_law_909 : decode cL_law 909 = .ok (.aload_n 1, 1) := dk_aload_n_1 (by decide +kernel)
theorem dL_law_910 : decode cL_law 910 = .ok (.aload_n 0, 1) := dk_aload_n_0 (by decide +kernel)
theorem dL_law_911 : decode cL_law 911 = .ok (.iload_n 3, 1) := dk_iload_n_3 (by decide +kernel)
theorem dL_law_912 : decode cL_law 912 = .ok (.iconst 1, 1) := dk_iconst_1 (by decide +kernel)
theorem dL_law_913 : decode cL_law 913 = .ok (.iadd, 1) := dk_iadd (by decide +kernel)
theorem dL_law_914 : decode cL_law 914 = .ok (.iaload, 1) := dk_iaload (by decide +kernel)
theorem dL_law_915 : decode cL_law 915 = .ok (.aload_n 0, 1) := dk_aload_n_0 (by decide +kernel)
theorem dL_law_916 : decode cL_law 916 = .ok (.iload_n 3, 1) := dk_iload_n_3 (by decide +kernel)
theorem dL_law_917 : decode cL_law 917 = .ok (.iconst 2, 1) := dk_iconst_2 (by decide +kernel)
theorem dL_law_918 : decode cL_law 918 = .ok (.iadd, 1) := dk_iadd (by decide +kernel)
theorem dL_law_919 : decode cL_law 919 = .ok (.iaload, 1) := dk_iaload (by decide +kernel)
theorem dL_law_920 : decode cL_law 920 = .ok (.aload_n 0, 1) := dk_aload_n_0 (by decide +kernel)
theorem dL_law_921 : decode cL_law 921 = .ok (.iload_n 3, 1) := dk_iload_n_3 (by decide +kernel)
theorem dL_law_922 : decode cL_law 922 = .ok (.iconst 3, 1) := dk_iconst_3 (by decide +kernel)
theorem dL_law_923 : decode cL_law 923 = .ok (.iadd, 1) := dk_iadd (by decide +kernel)
theorem dL_law_924 : decode cL_law 924 = .ok (.iaload, 1) := dk_iaload (by decide +kernel)
theorem wRL_88 : Cond.methodLink RL 88 yX11_listed ∈ sm_T := sm_in 965 (by decide +kernel) (by decide +kernel)
theorem dL_law_925 : decode cL_law 925 = .ok (.invokevirtual 88, 3) := dk_invokevirtual 88 (b1 := 0) (b2 := 88) (by decide +kernel) (by decide +kernel) (by decide +kernel) (by decide +kernel)
theorem dL_law_928 : decode cL_law 928 = .ok (.aload_n 2, 1) := dk_aload_n_2 (by decide +kernel)
theorem dL_law_929 : decode cL_law 929 = .ok (.aload_n 0, 1) := dk_aload_n_0 (by decide +kernel)
theorem dL_law_930 : decode cL_law 930 = .ok (.iload_n 3, 1) := dk_iload_n_3 (by decide +kernel)
theorem dL_law_931 : decode cL_law 931 = .ok (.iconst 1, 1) := dk_iconst_1 (by decide +kernel)
theorem dL_law_932 : decode cL_law 932 = .ok (.iadd, 1) := dk_iadd (by decide +kernel)
theorem dL_law_933 : decode cL_law 933 = .ok (.iaload, 1) := dk_iaload (by decide +kernel)
theorem dL_law_934 : decode cL_law 934 = .ok (.aload_n 0, 1) := dk_aload_n_0 (by decide +kernel)
theorem dL_law_935 : decode cL_law 935 = .ok (.iload_n 3, 1) := dk_iload_n_3 (by decide +kernel)
theorem dL_law_936 : decode cL_law 936 = .ok (.iconst 2, 1) := dk_iconst_2 (by decide +kernel)
theorem dL_law_937 : decode cL_law 937 = .ok (.iadd, 1) := dk_iadd (by decide +kernel)
theorem dL_law_938 : decode cL_law 938 = .ok (.iaload, 1) := dk_iaload (by decide +kernel)
theorem dL_law_939 : decode cL_law 939 = .ok (.aload_n 0, 1) := dk_aload_n_0 (by decide +kernel)
theorem dL_law_940 : decode cL_law 940 = .ok (.iload_n 3, 1) := dk_iload_n_3 (by decide +kernel)
theorem dL_law_941 : decode cL_law 941 = .ok (.iconst 3, 1) := dk_iconst_3 (by decide +kernel)
theorem dL_law_942 : decode cL_law 942 = .ok (.iadd, 1) := dk_iadd (by decide +kernel)
theorem dL_law_943 : decode cL_law 943 = .ok (.iaload, 1) := dk_iaload (by decide +kernel)
theorem wRL_91 : Cond.methodLink RL 91 yX12_listed ∈ sm_T := sm_in 1621 (by decide +kernel) (by decide +kernel)
theorem dL_law_944 : decode cL_law 944 = .ok (.invokevirtual 91, 3) := dk_invokevirtual 91 (b1 := 0) (b2 := 91) (by decide +kernel) (by decide +kernel) (by decide +kernel) (by decide +kernel)
theorem dL_law_947 : decode cL_law 947 = .ok (.if_icmp .eq 608, 3) := dk_if_icmp_eq 608 (b1 := 2) (b2 := 96) (by decide +kernel) (by decide +kernel) (by decide +kernel) (by decide +kernel)
theorem dL_law_952 : decode cL_law 952 = .ok (.aload_n 1, 1) := dk_aload_n_1 (by decide +kernel)
theorem dL_law_953 : decode cL_law 953 = .ok (.aload_n 0, 1) := dk_aload_n_0 (by decide +kernel)
theorem dL_law_954 : decode cL_law 954 = .ok (.iload_n 3, 1) := dk_iload_n_3 (by decide +kernel)
theorem dL_law_955 : decode cL_law 955 = .ok (.iconst 1, 1) := dk_iconst_1 (by decide +kernel)
theorem dL_law_956 : decode cL_law 956 = .ok (.iadd, 1) := dk_iadd (by decide +kernel)
theorem dL_law_957 : decode cL_law 957 = .ok (.iaload, 1) := dk_iaload (by decide +kernel)
theorem dL_law_958 : decode cL_law 958 = .ok (.aload_n 0, 1) := dk_aload_n_0 (by decide +kernel)
theorem dL_law_959 : decode cL_law 959 = .ok (.iload_n 3, 1) := dk_iload_n_3 (by decide +kernel)
theorem dL_law_960 : decode cL_law 960 = .ok (.iconst 2, 1) := dk_iconst_2 (by decide +kernel)
theorem dL_law_961 : decode cL_law 961 = .ok (.iadd, 1) := dk_iadd (by decide +kernel)
theorem dL_law_962 : decode cL_law 962 = .ok (.iaload, 1) := dk_iaload (by decide +kernel)
theorem wRL_92 : Cond.methodLink RL 92 yX11_enter ∈ sm_T := sm_in 1007 (by decide +kernel) (by decide +kernel)
theorem dL_law_963 : decode cL_law 963 = .ok (.invokevirtual 92, 3) := dk_invokevirtual 92 (b1 := 0) (b2 := 92) (by decide +kernel) (by decide +kernel) (by decide +kernel) (by decide +kernel)
theorem dL_law_966 : decode cL_law 966 = .ok (.aload_n 2, 1) := dk_aload_n_2 (by decide +kernel)
theorem dL_law_967 : decode cL_law 967 = .ok (.aload_n 0, 1) := dk_aload_n_0 (by decide +kernel)
theorem dL_law_968 : decode cL_law 968 = .ok (.iload_n 3, 1) := dk_iload_n_3 (by decide +kernel)
theorem dL_law_969 : decode cL_law 969 = .ok (.iconst 1, 1) := dk_iconst_1 (by decide +kernel)
theorem dL_law_970 : decode cL_law 970 = .ok (.iadd, 1) := dk_iadd (by decide +kernel)
theorem dL_law_971 : decode cL_law 971 = .ok (.iaload, 1) := dk_iaload (by decide +kernel)
theorem dL_law_972 : decode cL_law 972 = .ok (.aload_n 0, 1) := dk_aload_n_0 (by decide +kernel)
theorem dL_law_973 : decode cL_law 973 = .ok (.iload_n 3, 1) := dk_iload_n_3 (by decide +kernel)
theorem dL_law_974 : decode cL_law 974 = .ok (.iconst 2, 1) := dk_iconst_2 (by decide +kernel)
theorem dL_law_975 : decode cL_law 975 = .ok (.iadd, 1) := dk_iadd (by decide +kernel)
theorem dL_law_976 : decode cL_law 976 = .ok (.iaload, 1) := dk_iaload (by decide +kernel)
theorem wRL_95 : Cond.methodLink RL 95 yX12_enter ∈ sm_T := sm_in 1625 (by decide +kernel) (by decide +kernel)
theorem dL_law_977 : decode cL_law 977 = .ok (.invokevirtual 95, 3) := dk_invokevirtual 95 (b1 := 0) (b2 := 95) (by decide +kernel) (by decide +kernel) (by decide +kernel) (by decide +kernel)
theorem dL_law_980 : decode cL_law 980 = .ok (.if_icmp .eq 575, 3) := dk_if_icmp_eq 575 (b1 := 2) (b2 := 63) (by decide +kernel) (by decide +kernel) (by decide +kernel) (by decide +kernel)
theorem dL_law_985 : decode cL_law 985 = .ok (.aload_n 1, 1) := dk_aload_n_1 (by decide +kernel)
theorem dL_law_986 : decode cL_law 986 = .ok (.aload_n 0, 1) := dk_aload_n_0 (by decide +kernel)
theorem dL_law_987 : decode cL_law 987 = .ok (.iload_n 3, 1) := dk_iload_n_3 (by decide +kernel)
theorem dL_law_988 : decode cL_law 988 = .ok (.iconst 1, 1) := dk_iconst_1 (by decide +kernel)
theorem dL_law_989 : decode cL_law 989 = .ok (.iadd, 1) := dk_iadd (by decide +kernel)
theorem dL_law_990 : decode cL_law 990 = .ok (.iaload, 1) := dk_iaload (by decide +kernel)
theorem dL_law_991 : decode cL_law 991 = .ok (.aload_n 0, 1) := dk_aload_n_0 (by decide +kernel)
theorem dL_law_992 : decode cL_law 992 = .ok (.iload_n 3, 1) := dk_iload_n_3 (by decide +kernel)
theorem dL_law_993 : decode cL_law 993 = .ok (.iconst 2, 1) := dk_iconst_2 (by decide +kernel)
theorem dL_law_994 : decode cL_law 994 = .ok (.iadd, 1) := dk_iadd (by decide +kernel)
theorem dL_law_995 : decode cL_law 995 = .ok (.iaload, 1) := dk_iaload (by decide +kernel)
theorem wRL_96 : Cond.methodLink RL 96 yX11_book ∈ sm_T := sm_in 1019 (by decide +kernel) (by decide +kernel)
theorem dL_law_996 : decode cL_law 996 = .ok (.invokevirtual 96, 3) := dk_invokevirtual 96 (b1 := 0) (b2 := 96) (by decide +kernel) (by decide +kernel) (by decide +kernel) (by decide +kernel)
theorem dL_law_999 : decode cL_law 999 = .ok (.aload_n 2, 1) := dk_aload_n_2 (by decide +kernel)
theorem dL_law_1000 : decode cL_law 1000 = .ok (.aload_n 0, 1) := dk_aload_n_0 (by decide +kernel)
theorem dL_law_1001 : decode cL_law 1001 = .ok (.iload_n 3, 1) := dk_iload_n_3 (by decide +kernel)
theorem dL_law_1002 : decode cL_law 1002 = .ok (.iconst 1, 1) := dk_iconst_1 (by decide +kernel)
theorem dL_law_1003 : decode cL_law 1003 = .ok (.iadd, 1) := dk_iadd (by decide +kernel)
theorem dL_law_1004 : decode cL_law 1004 = .ok (.iaload, 1) := dk_iaload (by decide +kernel)
theorem dL_law_1005 : decode cL_law 1005 = .ok (.aload_n 0, 1) := dk_aload_n_0 (by decide +kernel)
theorem dL_law_1006 : decode cL_law 1006 = .ok (.iload_n 3, 1) := dk_iload_n_3 (by decide +kernel)
theorem dL_law_1007 : decode cL_law 1007 = .ok (.iconst 2, 1) := dk_iconst_2 (by decide +kernel)
theorem dL_law_1008 : decode cL_law 1008 = .ok (.iadd, 1) := dk_iadd (by decide +kernel)
theorem dL_law_1009 : decode cL_law 1009 = .ok (.iaload, 1) := dk_iaload (by decide +kernel)
theorem wRL_99 : Cond.methodLink RL 99 yX12_book ∈ sm_T := sm_in 1633 (by decide +kernel) (by decide +kernel)
theorem dL_law_1010 : decode cL_law 1010 = .ok (.invokevirtual 99, 3) := dk_invokevirtual 99 (b1 := 0) (b2 := 99) (by decide +kernel) (by decide +kernel) (by decide +kernel) (by decide +kernel)
theorem dL_law_1013 : decode cL_law 1013 = .ok (.if_icmp .eq 542, 3) := dk_if_icmp_eq 542 (b1 := 2) (b2 := 30) (by decide +kernel) (by decide +kernel) (by decide +kernel) (by decide +kernel)
theorem dL_law_1018 : decode cL_law 1018 = .ok (.aload_n 1, 1) := dk_aload_n_1 (by decide +kernel)
theorem dL_law_1019 : decode cL_law 1019 = .ok (.aload_n 0, 1) := dk_aload_n_0 (by decide +kernel)
theorem dL_law_1020 : decode cL_law 1020 = .ok (.iload_n 3, 1) := dk_iload_n_3 (by decide +kernel)
theorem dL_law_1021 : decode cL_law 1021 = .ok (.iconst 1, 1) := dk_iconst_1 (by decide +kernel)
theorem dL_law_1022 : decode cL_law 1022 = .ok (.iadd, 1) := dk_iadd (by decide +kernel)
theorem dL_law_1023 : decode cL_law 1023 = .ok (.iaload, 1) := dk_iaload (by decide +kernel)
theorem dL_law_1024 : decode cL_law 1024 = .ok (.aload_n 0, 1) := dk_aload_n_0 (by decide +kernel)
theorem dL_law_1025 : decode cL_law 1025 = .ok (.iload_n 3, 1) := dk_iload_n_3 (by decide +kernel)
theorem dL_law_1026 : decode cL_law 1026 = .ok (.iconst 2, 1) := dk_iconst_2 (by decide +kernel)
theorem dL_law_1027 : decode cL_law 1027 = .ok (.iadd, 1) := dk_iadd (by decide +kernel)
theorem dL_law_1028 : decode cL_law 1028 = .ok (.iaload, 1) := dk_iaload (by decide +kernel)
theorem wRL_100 : Cond.methodLink RL 100 yX11_ranked ∈ sm_T := sm_in 1034 (by decide +kernel) (by decide +kernel)
theorem dL_law_1029 : decode cL_law 1029 = .ok (.invokevirtual 100, 3) := dk_invokevirtual 100 (b1 := 0) (b2 := 100) (by decide +kernel) (by decide +kernel) (by decide +kernel) (by decide +kernel)
theorem dL_law_1032 : decode cL_law 1032 = .ok (.aload_n 2, 1) := dk_aload_n_2 (by decide +kernel)
theorem dL_law_1033 : decode cL_law 1033 = .ok (.aload_n 0, 1) := dk_aload_n_0 (by decide +kernel)
theorem dL_law_1034 : decode cL_law 1034 = .ok (.iload_n 3, 1) := dk_iload_n_3 (by decide +kernel)
theorem dL_law_1035 : decode cL_law 1035 = .ok (.iconst 1, 1) := dk_iconst_1 (by decide +kernel)
theorem dL_law_1036 : decode cL_law 1036 = .ok (.iadd, 1) := dk_iadd (by decide +kernel)
theorem dL_law_1037 : decode cL_law 1037 = .ok (.iaload, 1) := dk_iaload (by decide +kernel)
theorem dL_law_1038 : decode cL_law 1038 = .ok (.aload_n 0, 1) := dk_aload_n_0 (by decide +kernel)
theorem dL_law_1039 : decode cL_law 1039 = .ok (.iload_n 3, 1) := dk_iload_n_3 (by decide +kernel)
theorem dL_law_1040 : decode cL_law 1040 = .ok (.iconst 2, 1) := dk_iconst_2 (by decide +kernel)
theorem dL_law_1041 : decode cL_law 1041 = .ok (.iadd, 1) := dk_iadd (by decide +kernel)
theorem dL_law_1042 : decode cL_law 1042 = .ok (.iaload, 1) := dk_iaload (by decide +kernel)
theorem wRL_103 : Cond.methodLink RL 103 yX12_ranked ∈ sm_T := sm_in 1637 (by decide +kernel) (by decide +kernel)
theorem dL_law_1043 : decode cL_law 1043 = .ok (.invokevirtual 103, 3) := dk_invokevirtual 103 (b1 := 0) (b2 := 103) (by decide +kernel) (by decide +kernel) (by decide +kernel) (by decide +kernel)
theorem dL_law_1046 : decode cL_law 1046 = .ok (.if_icmp .eq 509, 3) := dk_if_icmp_eq 509 (b1 := 1) (b2 := 253) (by decide +kernel) (by decide +kernel) (by decide +kernel) (by decide +kernel)
theorem dL_law_1051 : decode cL_law 1051 = .ok (.aload_n 1, 1) := dk_aload_n_1 (by decide +kernel)
theorem dL_law_1052 : decode cL_law 1052 = .ok (.aload_n 0, 1) := dk_aload_n_0 (by decide +kernel)
theorem dL_law_1053 : decode cL_law 1053 = .ok (.iload_n 3, 1) := dk_iload_n_3 (by decide +kernel)
theorem dL_law_1054 : decode cL_law 1054 = .ok (.iconst 1, 1) := dk_iconst_1 (by decide +kernel)
theorem dL_law_1055 : decode cL_law 1055 = .ok (.iadd, 1) := dk_iadd (by decide +kernel)
theorem dL_law_1056 : decode cL_law 1056 = .ok (.iaload, 1) := dk_iaload (by decide +kernel)
theorem dL_law_1057 : decode cL_law 1057 = .ok (.aload_n 0, 1) := dk_aload_n_0 (by decide +kernel)
theorem dL_law_1058 : decode cL_law 1058 = .ok (.iload_n 3, 1) := dk_iload_n_3 (by decide +kernel)
theorem dL_law_1059 : decode cL_law 1059 = .ok (.iconst 2, 1) := dk_iconst_2 (by decide +kernel)
theorem dL_law_1060 : decode cL_law 1060 = .ok (.iadd, 1) := dk_iadd (by decide +kernel)
theorem dL_law_1061 : decode cL_law 1061 = .ok (.iaload, 1) := dk_iaload (by decide +kernel)
theorem wRL_104 : Cond.methodLink RL 104 yX11_entered ∈ sm_T := sm_in 1046 (by decide +kernel) (by decide +kernel)
theorem dL_law_1062 : decode cL_law 1062 = .ok (.invokevirtual 104, 3) := dk_invokevirtual 104 (b1 := 0) (b2 := 104) (by decide +kernel) (by decide +kernel) (by decide +kernel) (by decide +kernel)
theorem dL_law_1065 : decode cL_law 1065 = .ok (.aload_n 2, 1) := dk_aload_n_2 (by decide +kernel)
theorem dL_law_1066 : decode cL_law 1066 = .ok (.aload_n 0, 1) := dk_aload_n_0 (by decide +kernel)
theorem dL_law_1067 : decode cL_law 1067 = .ok (.iload_n 3, 1) := dk_iload_n_3 (by decide +kernel)
theorem dL_law_1068 : decode cL_law 1068 = .ok (.iconst 1, 1) := dk_iconst_1 (by decide +kernel)
theorem dL_law_1069 : decode cL_law 1069 = .ok (.iadd, 1) := dk_iadd (by decide +kernel)
theorem dL_law_1070 : decode cL_law 1070 = .ok (.iaload, 1) := dk_iaload (by decide +kernel)
theorem dL_law_1071 : decode cL_law 1071 = .ok (.aload_n 0, 1) := dk_aload_n_0 (by decide +kernel)
theorem dL_law_1072 : decode cL_law 1072 = .ok (.iload_n 3, 1) := dk_iload_n_3 (by decide +kernel)
theorem dL_law_1073 : decode cL_law 1073 = .ok (.iconst 2, 1) := dk_iconst_2 (by decide +kernel)
theorem dL_law_1074 : decode cL_law 1074 = .ok (.iadd, 1) := dk_iadd (by decide +kernel)
theorem dL_law_1075 : decode cL_law 1075 = .ok (.iaload, 1) := dk_iaload (by decide +kernel)
theorem wRL_107 : Cond.methodLink RL 107 yX12_entered ∈ sm_T := sm_in 1646 (by decide +kernel) (by decide +kernel)
theorem dL_law_1076 : decode cL_law 1076 = .ok (.invokevirtual 107, 3) := dk_invokevirtual 107 (b1 := 0) (b2 := 107) (by decide +kernel) (by decide +kernel) (by decide +kernel) (by decide +kernel)
theorem dL_law_1079 : decode cL_law 1079 = .ok (.if_icmp .eq 476, 3) := dk_if_icmp_eq 476 (b1 := 1) (b2 := 220) (by decide +kernel) (by decide +kernel) (by decide +kernel) (by decide +kernel)
theorem dL_law_1084 : decode cL_law 1084 = .ok (.aload_n 1, 1) := dk_aload_n_1 (by decide +kernel)
theorem dL_law_1085 : decode cL_law 1085 = .ok (.aload_n 0, 1) := dk_aload_n_0 (by decide +kernel)
theorem dL_law_1086 : decode cL_law 1086 = .ok (.iload_n 3, 1) := dk_iload_n_3 (by decide +kernel)
theorem dL_law_1087 : decode cL_law 1087 = .ok (.iconst 1, 1) := dk_iconst_1 (by decide +kernel)
theorem dL_law_1088 : decode cL_law 1088 = .ok (.iadd, 1) := dk_iadd (by decide +kernel)
theorem dL_law_1089 : decode cL_law 1089 = .ok (.iaload, 1) := dk_iaload (by decide +kernel)
theorem dL_law_1090 : decode cL_law 1090 = .ok (.aload_n 0, 1) := dk_aload_n_0 (by decide +kernel)
theorem dL_law_1091 : decode cL_law 1091 = .ok (.iload_n 3, 1) := dk_iload_n_3 (by decide +kernel)
theorem dL_law_1092 : decode cL_law 1092 = .ok (.iconst 2, 1) := dk_iconst_2 (by decide +kernel)
theorem dL_law_1093 : decode cL_law 1093 = .ok (.iadd, 1) := dk_iadd (by decide +kernel)
theorem dL_law_1094 : decode cL_law 1094 = .ok (.iaload, 1) := dk_iaload (by decide +kernel)
theorem dL_law_1095 : decode cL_law 1095 = .ok (.aload_n 0, 1) := dk_aload_n_0 (by decide +kernel)
theorem dL_law_1096 : decode cL_law 1096 = .ok (.iload_n 3, 1) := dk_iload_n_3 (by decide +kernel)
theorem dL_law_1097 : decode cL_law 1097 = .ok (.iconst 3, 1) := dk_iconst_3 (by decide +kernel)
theorem dL_law_1098 : decode cL_law 1098 = .ok (.iadd, 1) := dk_iadd (by decide +kernel)
theorem dL_law_1099 : decode cL_law 1099 = .ok (.iaload, 1) := dk_iaload (by decide +kernel)
theorem wRL_108 : Cond.methodLink RL 108 yX11_sheet ∈ sm_T := sm_in 1054 (by decide +kernel) (by decide +kernel)
theorem dL_law_1100 : decode cL_law 1100 = .ok (.invokevirtual 108, 3) := dk_invokevirtual 108 (b1 := 0) (b2 := 108) (by decide +kernel) (by decide +kernel) (by decide +kernel) (by decide +kernel)
theorem dL_law_1103 : decode cL_law 1103 = .ok (.aload_n 2, 1) := dk_aload_n_2 (by decide +kernel)
theorem dL_law_1104 : decode cL_law 1104 = .ok (.aload_n 0, 1) := dk_aload_n_0 (by decide +kernel)
theorem dL_law_1105 : decode cL_law 1105 = .ok (.iload_n 3, 1) := dk_iload_n_3 (by decide +kernel)
theorem dL_law_1106 : decode cL_law 1106 = .ok (.iconst 1, 1) := dk_iconst_1 (by decide +kernel)
theorem dL_law_1107 : decode cL_law 1107 = .ok (.iadd, 1) := dk_iadd (by decide +kernel)
theorem dL_law_1108 : decode cL_law 1108 = .ok (.iaload, 1) := dk_iaload (by decide +kernel)
theorem dL_law_1109 : decode cL_law 1109 = .ok (.aload_n 0, 1) := dk_aload_n_0 (by decide +kernel)
theorem dL_law_1110 : decode cL_law 1110 = .ok (.iload_n 3, 1) := dk_iload_n_3 (by decide +kernel)
theorem dL_law_1111 : decode cL_law 1111 = .ok (.iconst 2, 1) := dk_iconst_2 (by decide +kernel)
theorem dL_law_1112 : decode cL_law 1112 = .ok (.iadd, 1) := dk_iadd (by decide +kernel)
theorem dL_law_1113 : decode cL_law 1113 = .ok (.iaload, 1) := dk_iaload (by decide +kernel)
theorem dL_law_1114 : decode cL_law 1114 = .ok (.aload_n 0, 1) := dk_aload_n_0 (by decide +kernel)
theorem dL_law_1115 : decode cL_law 1115 = .ok (.iload_n 3, 1) := dk_iload_n_3 (by decide +kernel)
theorem dL_law_1116 : decode cL_law 1116 = .ok (.iconst 3, 1) := dk_iconst_3 (by decide +kernel)
theorem dL_law_1117 : decode cL_law 1117 = .ok (.iadd, 1) := dk_iadd (by decide +kernel)
theorem dL_law_1118 : decode cL_law 1118 = .ok (.iaload, 1) := dk_iaload (by decide +kernel)
theorem wRL_111 : Cond.methodLink RL 111 yX12_sheet ∈ sm_T := sm_in 1650 (by decide +kernel) (by decide +kernel)
theorem dL_law_1119 : decode cL_law 1119 = .ok (.invokevirtual 111, 3) := dk_invokevirtual 111 (b1 := 0) (b2 := 111) (by decide +kernel) (by decide +kernel) (by decide +kernel) (by decide +kernel)
theorem dL_law_1122 : decode cL_law 1122 = .ok (.if_icmp .eq 433, 3) := dk_if_icmp_eq 433 (b1 := 1) (b2 := 177) (by decide +kernel) (by decide +kernel) (by decide +kernel) (by decide +kernel)
theorem dL_law_1127 : decode cL_law 1127 = .ok (.aload_n 1, 1) := dk_aload_n_1 (by decide +kernel)
theorem dL_law_1128 : decode cL_law 1128 = .ok (.aload_n 0, 1) := dk_aload_n_0 (by decide +kernel)
theorem dL_law_1129 : decode cL_law 1129 = .ok (.iload_n 3, 1) := dk_iload_n_3 (by decide +kernel)
theorem dL_law_1130 : decode cL_law 1130 = .ok (.iconst 1, 1) := dk_iconst_1 (by decide +kernel)
theorem dL_law_1131 : decode cL_law 1131 = .ok (.iadd, 1) := dk_iadd (by decide +kernel)
theorem dL_law_1132 : decode cL_law 1132 = .ok (.iaload, 1) := dk_iaload (by decide +kernel)
theorem dL_law_1133 : decode cL_law 1133 = .ok (.aload_n 0, 1) := dk_aload_n_0 (by decide +kernel)
theorem dL_law_1134 : decode cL_law 1134 = .ok (.iload_n 3, 1) := dk_iload_n_3 (by decide +kernel)
theorem dL_law_1135 : decode cL_law 1135 = .ok (.iconst 2, 1) := dk_iconst_2 (by decide +kernel)
theorem dL_law_1136 : decode cL_law 1136 = .ok (.iadd, 1) := dk_iadd (by decide +kernel)
theorem dL_law_1137 : decode cL_law 1137 = .ok (.iaload, 1) := dk_iaload (by decide +kernel)
theorem dL_law_1138 : decode cL_law 1138 = .ok (.aload_n 0, 1) := dk_aload_n_0 (by decide +kernel)
theorem dL_law_1139 : decode cL_law 1139 = .ok (.iload_n 3, 1) := dk_iload_n_3 (by decide +kernel)
theorem dL_law_1140 : decode cL_law 1140 = .ok (.iconst 3, 1) := dk_iconst_3 (by decide +kernel)
theorem dL_law_1141 : decode cL_law 1141 = .ok (.iadd, 1) := dk_iadd (by decide +kernel)
theorem dL_law_1142 : decode cL_law 1142 = .ok (.iaload, 1) := dk_iaload (by decide +kernel)
theorem dL_law_1143 : decode cL_law 1143 = .ok (.i2l, 1) := dk_i2l (by decide +kernel)
theorem dL_law_1144 : decode cL_law 1144 = .ok (.bipush 32, 2) := dk_bipush 32 (b := 32) (by decide +kernel) (by decide +kernel) (by decide +kernel)
theorem dL_law_1146 : decode cL_law 1146 = .ok (.lshl, 1) := dk_lshl (by decide +kernel)
theorem dL_law_1147 : decode cL_law 1147 = .ok (.aload_n 0, 1) := dk_aload_n_0 (by decide +kernel)
theorem dL_law_1148 : decode cL_law 1148 = .ok (.iload_n 3, 1) := dk_iload_n_3 (by decide +kernel)
theorem dL_law_1149 : decode cL_law 1149 = .ok (.iconst 4, 1) := dk_iconst_4 (by decide +kernel)
theorem dL_law_1150 : decode cL_law 1150 = .ok (.iadd, 1) := dk_iadd (by decide +kernel)
theorem dL_law_1151 : decode cL_law 1151 = .ok (.iaload, 1) := dk_iaload (by decide +kernel)
theorem dL_law_1152 : decode cL_law 1152 = .ok (.i2l, 1) := dk_i2l (by decide +kernel)
theorem dL_law_1153 : decode cL_law 1153 = .ok (.ldc2_w 31, 3) := dk_ldc2_w 31 (b1 := 0) (b2 := 31) (by decide +kernel) (by decide +kernel) (by decide +kernel) (by decide +kernel)
theorem dL_law_1156 : decode cL_law 1156 = .ok (.land, 1) := dk_land (by decide +kernel)
theorem dL_law_1157 : decode cL_law 1157 = .ok (.lor, 1) := dk_lor (by decide +kernel)
theorem wRL_112 : Cond.methodLink RL 112 yX11_put ∈ sm_T := sm_in 1058 (by decide +kernel) (by decide +kernel)
theorem dL_law_1158 : decode cL_law 1158 = .ok (.invokevirtual 112, 3) := dk_invokevirtual 112 (b1 := 0) (b2 := 112) (by decide +kernel) (by decide +kernel) (by decide +kernel) (by decide +kernel)
theorem dL_law_1161 : decode cL_law 1161 = .ok (.aload_n 2, 1) := dk_aload_n_2 (by decide +kernel)
theorem dL_law_1162 : decode cL_law 1162 = .ok (.aload_n 0, 1) := dk_aload_n_0 (by decide +kernel)
theorem dL_law_1163 : decode cL_law 1163 = .ok (.iload_n 3, 1) := dk_iload_n_3 (by decide +kernel)
theorem dL_law_1164 : decode cL_law 1164 = .ok (.iconst 1, 1) := dk_iconst_1 (by decide +kernel)
theorem dL_law_1165 : decode cL_law 1165 = .ok (.iadd, 1) := dk_iadd (by decide +kernel)
theorem dL_law_1166 : decode cL_law 1166 = .ok (.iaload, 1) := dk_iaload (by decide +kernel)
theorem dL_law_1167 : decode cL_law 1167 = .ok (.aload_n 0, 1) := dk_aload_n_0 (by decide +kernel)
theorem dL_law_1168 : decode cL_law 1168 = .ok (.iload_n 3, 1) := dk_iload_n_3 (by decide +kernel)
theorem dL_law_1169 : decode cL_law 1169 = .ok (.iconst 2, 1) := dk_iconst_2 (by decide +kernel)
theorem dL_law_1170 : decode cL_law 1170 = .ok (.iadd, 1) := dk_iadd (by decide +kernel)
theorem dL_law_1171 : decode cL_law 1171 = .ok (.iaload, 1) := dk_iaload (by decide +kernel)
theorem dL_law_1172 : decode cL_law 1172 = .ok (.aload_n 0, 1) := dk_aload_n_0 (by decide +kernel)
theorem dL_law_1173 : decode cL_law 1173 = .ok (.iload_n 3, 1) := dk_iload_n_3 (by decide +kernel)
theorem dL_law_1174 : decode cL_law 1174 = .ok (.iconst 3, 1) := dk_iconst_3 (by decide +kernel)
theorem dL_law_1175 : decode cL_law 1175 = .ok (.iadd, 1) := dk_iadd (by decide +kernel)
theorem dL_law_1176 : decode cL_law 1176 = .ok (.iaload, 1) := dk_iaload (by decide +kernel)
theorem dL_law_1177 : decode cL_law 1177 = .ok (.i2l, 1) := dk_i2l (by decide +kernel)
theorem dL_law_1178 : decode cL_law 1178 = .ok (.bipush 32, 2) := dk_bipush 32 (b := 32) (by decide +kernel) (by decide +kernel) (by decide +kernel)
theorem dL_law_1180 : decode cL_law 1180 = .ok (.lshl, 1) := dk_lshl (by decide +kernel)
theorem dL_law_1181 : decode cL_law 1181 = .ok (.aload_n 0, 1) := dk_aload_n_0 (by decide +kernel)
theorem dL_law_1182 : decode cL_law 1182 = .ok (.iload_n 3, 1) := dk_iload_n_3 (by decide +kernel)
theorem dL_law_1183 : decode cL_law 1183 = .ok (.iconst 4, 1) := dk_iconst_4 (by decide +kernel)
theorem dL_law_1184 : decode cL_law 1184 = .ok (.iadd, 1) := dk_iadd (by decide +kernel)
theorem dL_law_1185 : decode cL_law 1185 = .ok (.iaload, 1) := dk_iaload (by decide +kernel)
theorem dL_law_1186 : decode cL_law 1186 = .ok (.i2l, 1) := dk_i2l (by decide +kernel)
theorem dL_law_1187 : decode cL_law 1187 = .ok (.ldc2_w 31, 3) := dk_ldc2_w 31 (b1 := 0) (b2 := 31) (by decide +kernel) (by decide +kernel) (by decide +kernel) (by decide +kernel)
theorem dL_law_1190 : decode cL_law 1190 = .ok (.land, 1) := dk_land (by decide +kernel)
theorem dL_law_1191 : decode cL_law 1191 = .ok (.lor, 1) := dk_lor (by decide +kernel)
theorem wRL_116 : Cond.methodLink RL 116 yX12_put ∈ sm_T := sm_in 1654 (by decide +kernel) (by decide +kernel)
theorem dL_law_1192 : decode cL_law 1192 = .ok (.invokevirtual 116, 3) := dk_invokevirtual 116 (b1 := 0) (b2 := 116) (by decide +kernel) (by decide +kernel) (by decide +kernel) (by decide +kernel)
theorem dL_law_1195 : decode cL_law 1195 = .ok (.if_icmp .eq 360, 3) := dk_if_icmp_eq 360 (b1 := 1) (b2 := 104) (by decide +kernel) (by decide +kernel) (by decide +kernel) (by decide +kernel)
theorem dL_law_1200 : decode cL_law 1200 = .ok (.aload_n 1, 1) := dk_aload_n_1 (by decide +kernel)
theorem dL_law_1201 : decode cL_law 1201 = .ok (.aload_n 0, 1) := dk_aload_n_0 (by decide +kernel)
theorem dL_law_1202 : decode cL_law 1202 = .ok (.iload_n 3, 1) := dk_iload_n_3 (by decide +kernel)
theorem dL_law_1203 : decode cL_law 1203 = .ok (.iconst 1, 1) := dk_iconst_1 (by decide +kernel)
theorem dL_law_1204 : decode cL_law 1204 = .ok (.iadd, 1) := dk_iadd (by decide +kernel)
theorem dL_law_1205 : decode cL_law 1205 = .ok (.iaload, 1) := dk_iaload (by decide +kernel)
theorem dL_law_1206 : decode cL_law 1206 = .ok (.aload_n 0, 1) := dk_aload_n_0 (by decide +kernel)
theorem dL_law_1207 : decode cL_law 1207 = .ok (.iload_n 3, 1) := dk_iload_n_3 (by decide +kernel)
theorem dL_law_1208 : decode cL_law 1208 = .ok (.iconst 2, 1) := dk_iconst_2 (by decide +kernel)
theorem dL_law_1209 : decode cL_law 1209 = .ok (.iadd, 1) := dk_iadd (by decide +kernel)
theorem dL_law_1210 : decode cL_law 1210 = .ok (.iaload, 1) := dk_iaload (by decide +kernel)
theorem wRL_117 : Cond.methodLink RL 117 yX11_of ∈ sm_T := sm_in 1066 (by decide +kernel) (by decide +kernel)
theorem dL_law_1211 : decode cL_law 1211 = .ok (.invokevirtual 117, 3) := dk_invokevirtual 117 (b1 := 0) (b2 := 117) (by decide +kernel) (by decide +kernel) (by decide +kernel) (by decide +kernel)
theorem dL_law_1214 : decode cL_law 1214 = .ok (.aload_n 2, 1) := dk_aload_n_2 (by decide +kernel)
theorem dL_law_1215 : decode cL_law 1215 = .ok (.aload_n 0, 1) := dk_aload_n_0 (by decide +kernel)
theorem dL_law_1216 : decode cL_law 1216 = .ok (.iload_n 3, 1) := dk_iload_n_3 (by decide +kernel)
theorem dL_law_1217 : decode cL_law 1217 = .ok (.iconst 1, 1) := dk_iconst_1 (by decide +kernel)
theorem dL_law_1218 : decode cL_law 1218 = .ok (.iadd, 1) := dk_iadd (by decide +kernel)
theorem dL_law_1219 : decode cL_law 1219 = .ok (.iaload, 1) := dk_iaload (by decide +kernel)
theorem dL_law_1220 : decode cL_law 1220 = .ok (.aload_n 0, 1) := dk_aload_n_0 (by decide +kernel)
theorem dL_law_1221 : decode cL_law 1221 = .ok (.iload_n 3, 1) := dk_iload_n_3 (by decide +kernel)
theorem dL_law_1222 : decode cL_law 1222 = .ok (.iconst 2, 1) := dk_iconst_2 (by decide +kernel)
theorem dL_law_1223 : decode cL_law 1223 = .ok (.iadd, 1) := dk_iadd (by decide +kernel)
theorem dL_law_1224 : decode cL_law 1224 = .ok (.iaload, 1) := dk_iaload (by decide +kernel)
theorem wRL_121 : Cond.methodLink RL 121 yX12_of ∈ sm_T := sm_in 1661 (by decide +kernel) (by decide +kernel)
theorem dL_law_1225 : decode cL_law 1225 = .ok (.invokevirtual 121, 3) := dk_invokevirtual 121 (b1 := 0) (b2 := 121) (by decide +kernel) (by decide +kernel) (by decide +kernel) (by decide +kernel)
theorem dL_law_1228 : decode cL_law 1228 = .ok (.lcmp, 1) := dk_lcmp (by decide +kernel)
theorem dL_law_1229 : decode cL_law 1229 = .ok (.ifCond .eq 326, 3) := dk_ifCond_eq 326 (b1 := 1) (b2 := 70) (by decide +kernel) (by decide +kernel) (by decide +kernel) (by decide +kernel)
theorem dL_law_1234 : decode cL_law 1234 = .ok (.aload_n 1, 1) := dk_aload_n_1 (by decide +kernel)
theorem dL_law_1235 : decode cL_law 1235 = .ok (.aload_n 0, 1) := dk_aload_n_0 (by decide +kernel)
theorem dL_law_1236 : decode cL_law 1236 = .ok (.iload_n 3, 1) := dk_iload_n_3 (by decide +kernel)
theorem dL_law_1237 : decode cL_law 1237 = .ok (.iconst 1, 1) := dk_iconst_1 (by decide +kernel)
theorem dL_law_1238 : decode cL_law 1238 = .ok (.iadd, 1) := dk_iadd (by decide +kernel)
theorem dL_law_1239 : decode cL_law 1239 = .ok (.iaload, 1) := dk_iaload (by decide +kernel)
theorem dL_law_1240 : decode cL_law 1240 = .ok (.aload_n 0, 1) := dk_aload_n_0 (by decide +kernel)
theorem dL_law_1241 : decode cL_law 1241 = .ok (.iload_n 3, 1) := dk_iload_n_3 (by decide +kernel)
theorem dL_law_1242 : decode cL_law 1242 = .ok (.iconst 2, 1) := dk_iconst_2 (by decide +kernel)
theorem dL_law_1243 : decode cL_law 1243 = .ok (.iadd, 1) := dk_iadd (by decide +kernel)
theorem dL_law_1244 : decode cL_law 1244 = .ok (.iaload, 1) := dk_iaload (by decide +kernel)
theorem dL_law_1245 : decode cL_law 1245 = .ok (.aload_n 0, 1) := dk_aload_n_0 (by decide +kernel)
theorem dL_law_1246 : decode cL_law 1246 = .ok (.iload_n 3, 1) := dk_iload_n_3 (by decide +kernel)
theorem dL_law_1247 : decode cL_law 1247 = .ok (.iconst 3, 1) := dk_iconst_3 (by decide +kernel)
theorem dL_law_1248 : decode cL_law 1248 = .ok (.iadd, 1) := dk_iadd (by decide +kernel)
theorem dL_law_1249 : decode cL_law 1249 = .ok (.iaload, 1) := dk_iaload (by decide +kernel)
theorem dL_law_1250 : decode cL_law 1250 = .ok (.aload_n 0, 1) := dk_aload_n_0 (by decide +kernel)
theorem dL_law_1251 : decode cL_law 1251 = .ok (.iload_n 3, 1) := dk_iload_n_3 (by decide +kernel)
theorem dL_law_1252 : decode cL_law 1252 = .ok (.iconst 4, 1) := dk_iconst_4 (by decide +kernel)
theorem dL_law_1253 : decode cL_law 1253 = .ok (.iadd, 1) := dk_iadd (by decide +kernel)
theorem dL_law_1254 : decode cL_law 1254 = .ok (.iaload, 1) := dk_iaload (by decide +kernel)
theorem dL_law_1255 : decode cL_law 1255 = .ok (.aload_n 0, 1) := dk_aload_n_0 (by decide +kernel)
theorem dL_law_1256 : decode cL_law 1256 = .ok (.iload_n 3, 1) := dk_iload_n_3 (by decide +kernel)
theorem dL_law_1257 : decode cL_law 1257 = .ok (.iconst 5, 1) := dk_iconst_5 (by decide +kernel)
theorem dL_law_1258 : decode cL_law 1258 = .ok (.iadd, 1) := dk_iadd (by decide +kernel)
theorem dL_law_1259 : decode cL_law 1259 = .ok (.iaload, 1) := dk_iaload (by decide +kernel)
theorem wRL_122 : Cond.methodLink RL 122 yX11_shift ∈ sm_T := sm_in 1075 (by decide +kernel) (by decide +kernel)
theorem dL_law_1260 : decode cL_law 1260 = .ok (.invokevirtual 122, 3) := dk_invokevirtual 122 (b1 := 0) (b2 := 122) (by decide +kernel) (by decide +kernel) (by decide +kernel) (by decide +kernel)
theorem dL_law_1263 : decode cL_law 1263 = .ok (.aload_n 2, 1) := dk_aload_n_2 (by decide +kernel)
theorem dL_law_1264 : decode cL_law 1264 = .ok (.aload_n 0, 1) := dk_aload_n_0 (by decide +kernel)
theorem dL_law_1265 : decode cL_law 1265 = .ok (.iload_n 3, 1) := dk_iload_n_3 (by decide +kernel)
theorem dL_law_1266 : decode cL_law 1266 = .ok (.iconst 1, 1) := dk_iconst_1 (by decide +kernel)
theorem dL_law_1267 : decode cL_law 1267 = .ok (.iadd, 1) := dk_iadd (by decide +kernel)
theorem dL_law_1268 : decode cL_law 1268 = .ok (.iaload, 1) := dk_iaload (by decide +kernel)
theorem dL_law_1269 : decode cL_law 1269 = .ok (.aload_n 0, 1) := dk_aload_n_0 (by decide +kernel)
theorem dL_law_1270 : decode cL_law 1270 = .ok (.iload_n 3, 1) := dk_iload_n_3 (by decide +kernel)
theorem dL_law_1271 : decode cL_law 1271 = .ok (.iconst 2, 1) := dk_iconst_2 (by decide +kernel)
theorem dL_law_1272 : decode cL_law 1272 = .ok (.iadd, 1) := dk_iadd (by decide +kernel)
theorem dL_law_1273 : decode cL_law 1273 = .ok (.iaload, 1) := dk_iaload (by decide +kernel)
theorem dL_law_1274 : decode cL_law 1274 = .ok (.aload_n 0, 1) := dk_aload_n_0 (by decide +kernel)
theorem dL_law_1275 : decode cL_law 1275 = .ok (.iload_n 3, 1) := dk_iload_n_3 (by decide +kernel)
theorem dL_law_1276 : decode cL_law 1276 = .ok (.iconst 3, 1) := dk_iconst_3 (by decide +kernel)
theorem dL_law_1277 : decode cL_law 1277 = .ok (.iadd, 1) := dk_iadd (by decide +kernel)
theorem dL_law_1278 : decode cL_law 1278 = .ok (.iaload, 1) := dk_iaload (by decide +kernel)
theorem dL_law_1279 : decode cL_law 1279 = .ok (.aload_n 0, 1) := dk_aload_n_0 (by decide +kernel)
theorem dL_law_1280 : decode cL_law 1280 = .ok (.iload_n 3, 1) := dk_iload_n_3 (by decide +kernel)
theorem dL_law_1281 : decode cL_law 1281 = .ok (.iconst 4, 1) := dk_iconst_4 (by decide +kernel)
theorem dL_law_1282 : decode cL_law 1282 = .ok (.iadd, 1) := dk_iadd (by decide +kernel)
theorem dL_law_1283 : decode cL_law 1283 = .ok (.iaload, 1) := dk_iaload (by decide +kernel)
theorem dL_law_1284 : decode cL_law 1284 = .ok (.aload_n 0, 1) := dk_aload_n_0 (by decide +kernel)
theorem dL_law_1285 : decode cL_law 1285 = .ok (.iload_n 3, 1) := dk_iload_n_3 (by decide +kernel)
theorem dL_law_1286 : decode cL_law 1286 = .ok (.iconst 5, 1) := dk_iconst_5 (by decide +kernel)
theorem dL_law_1287 : decode cL_law 1287 = .ok (.iadd, 1) := dk_iadd (by decide +kernel)
theorem dL_law_1288 : decode cL_law 1288 = .ok (.iaload, 1) := dk_iaload (by decide +kernel)
theorem wRL_126 : Cond.methodLink RL 126 yX12_shift ∈ sm_T := sm_in 1670 (by decide +kernel) (by decide +kernel)
theorem dL_law_1289 : decode cL_law 1289 = .ok (.invokevirtual 126, 3) := dk_invokevirtual 126 (b1 := 0) (b2 := 126) (by decide +kernel) (by decide +kernel) (by decide +kernel) (by decide +kernel)
theorem dL_law_1292 : decode cL_law 1292 = .ok (.if_icmp .eq 263, 3) := dk_if_icmp_eq 263 (b1 := 1) (b2 := 7) (by decide +kernel) (by decide +kernel) (by decide +kernel) (by decide +kernel)
theorem dL_law_1297 : decode cL_law 1297 = .ok (.aload_n 1, 1) := dk_aload_n_1 (by decide +kernel)
theorem dL_law_1298 : decode cL_law 1298 = .ok (.aload_n 0, 1) := dk_aload_n_0 (by decide +kernel)
theorem dL_law_1299 : decode cL_law 1299 = .ok (.iload_n 3, 1) := dk_iload_n_3 (by decide +kernel)
theorem dL_law_1300 : decode cL_law 1300 = .ok (.iconst 1, 1) := dk_iconst_1 (by decide +kernel)
theorem dL_law_1301 : decode cL_law 1301 = .ok (.iadd, 1) := dk_iadd (by decide +kernel)
theorem dL_law_1302 : decode cL_law 1302 = .ok (.iaload, 1) := dk_iaload (by decide +kernel)
theorem dL_law_1303 : decode cL_law 1303 = .ok (.aload_n 0, 1) := dk_aload_n_0 (by decide +kernel)
theorem dL_law_1304 : decode cL_law 1304 = .ok (.iload_n 3, 1) := dk_iload_n_3 (by decide +kernel)
theorem dL_law_1305 : decode cL_law 1305 = .ok (.iconst 2, 1) := dk_iconst_2 (by decide +kernel)
theorem dL_law_1306 : decode cL_law 1306 = .ok (.iadd, 1) := dk_iadd (by decide +kernel)
theorem dL_law_1307 : decode cL_law 1307 = .ok (.iaload, 1) := dk_iaload (by decide +kernel)
theorem dL_law_1308 : decode cL_law 1308 = .ok (.aload_n 0, 1) := dk_aload_n_0 (by decide +kernel)
theorem dL_law_1309 : decode cL_law 1309 = .ok (.iload_n 3, 1) := dk_iload_n_3 (by decide +kernel)
theorem dL_law_1310 : decode cL_law 1310 = .ok (.iconst 3, 1) := dk_iconst_3 (by decide +kernel)
theorem dL_law_1311 : decode cL_law 1311 = .ok (.iadd, 1) := dk_iadd (by decide +kernel)
theorem dL_law_1312 : decode cL_law 1312 = .ok (.iaload, 1) := dk_iaload (by decide +kernel)
theorem dL_law_1313 : decode cL_law 1313 = .ok (.aload_n 0, 1) := dk_aload_n_0 (by decide +kernel)
theorem dL_law_1314 : decode cL_law 1314 = .ok (.iload_n 3, 1) := dk_iload_n_3 (by decide +kernel)
theorem dL_law_1315 : decode cL_law 1315 = .ok (.iconst 4, 1) := dk_iconst_4 (by decide +kernel)
theorem dL_law_1316 : decode cL_law 1316 = .ok (.iadd, 1) := dk_iadd (by decide +kernel)
theorem dL_law_1317 : decode cL_law 1317 = .ok (.iaload, 1) := dk_iaload (by decide +kernel)
theorem wRL_127 : Cond.methodLink RL 127 yX11_terms ∈ sm_T := sm_in 1089 (by decide +kernel) (by decide +kernel)
theorem dL_law_1318 : decode cL_law 1318 = .ok (.invokevirtual 127, 3) := dk_invokevirtual 127 (b1 := 0) (b2 := 127) (by decide +kernel) (by decide +kernel) (by decide +kernel) (by decide +kernel)
theorem dL_law_1321 : decode cL_law 1321 = .ok (.aload_n 2, 1) := dk_aload_n_2 (by decide +kernel)
theorem dL_law_1322 : decode cL_law 1322 = .ok (.aload_n 0, 1) := dk_aload_n_0 (by decide +kernel)
theorem dL_law_1323 : decode cL_law 1323 = .ok (.iload_n 3, 1) := dk_iload_n_3 (by decide +kernel)
theorem dL_law_1324 : decode cL_law 1324 = .ok (.iconst 1, 1) := dk_iconst_1 (by decide +kernel)
theorem dL_law_1325 : decode cL_law 1325 = .ok (.iadd, 1) := dk_iadd (by decide +kernel)
theorem dL_law_1326 : decode cL_law 1326 = .ok (.iaload, 1) := dk_iaload (by decide +kernel)
theorem dL_law_1327 : decode cL_law 1327 = .ok (.aload_n 0, 1) := dk_aload_n_0 (by decide +kernel)
theorem dL_law_1328 : decode cL_law 1328 = .ok (.iload_n 3, 1) := dk_iload_n_3 (by decide +kernel)
theorem dL_law_1329 : decode cL_law 1329 = .ok (.iconst 2, 1) := dk_iconst_2 (by decide +kernel)
theorem dL_law_1330 : decode cL_law 1330 = .ok (.iadd, 1) := dk_iadd (by decide +kernel)
theorem dL_law_1331 : decode cL_law 1331 = .ok (.iaload, 1) := dk_iaload (by decide +kernel)
theorem dL_law_1332 : decode cL_law 1332 = .ok (.aload_n 0, 1) := dk_aload_n_0 (by decide +kernel)
theorem dL_law_1333 : decode cL_law 1333 = .ok (.iload_n 3, 1) := dk_iload_n_3 (by decide +kernel)
theorem dL_law_1334 : decode cL_law 1334 = .ok (.iconst 3, 1) := dk_iconst_3 (by decide +kernel)
theorem dL_law_1335 : decode cL_law 1335 = .ok (.iadd, 1) := dk_iadd (by decide +kernel)
theorem dL_law_1336 : decode cL_law 1336 = .ok (.iaload, 1) := dk_iaload (by decide +kernel)
theorem dL_law_1337 : decode cL_law 1337 = .ok (.aload_n 0, 1) := dk_aload_n_0 (by decide +kernel)
theorem dL_law_1338 : decode cL_law 1338 = .ok (.iload_n 3, 1) := dk_iload_n_3 (by decide +kernel)
theorem dL_law_1339 : decode cL_law 1339 = .ok (.iconst 4, 1) := dk_iconst_4 (by decide +kernel)
theorem dL_law_1340 : decode cL_law 1340 = .ok (.iadd, 1) := dk_iadd (by decide +kernel)
theorem dL_law_1341 : decode cL_law 1341 = .ok (.iaload, 1) := dk_iaload (by decide +kernel)
theorem wRL_130 : Cond.methodLink RL 130 yX12_terms ∈ sm_T := sm_in 1674 (by decide +kernel) (by decide +kernel)
theorem dL_law_1342 : decode cL_law 1342 = .ok (.invokevirtual 130, 3) := dk_invokevirtual 130 (b1 := 0) (b2 := 130) (by decide +kernel) (by decide +kernel) (by decide +kernel) (by decide +kernel)
theorem dL_law_1345 : decode cL_law 1345 = .ok (.if_icmp .eq 210, 3) := dk_if_icmp_eq 210 (b1 := 0) (b2 := 210) (by decide +kernel) (by decide +kernel) (by decide +kernel) (by decide +kernel)
theorem dL_law_1350 : decode cL_law 1350 = .ok (.aload_n 1, 1) := dk_aload_n_1 (by decide +kernel)
theorem dL_law_1351 : decode cL_law 1351 = .ok (.aload_n 0, 1) := dk_aload_n_0 (by decide +kernel)
theorem dL_law_1352 : decode cL_law 1352 = .ok (.iload_n 3, 1) := dk_iload_n_3 (by decide +kernel)
theorem dL_law_1353 : decode cL_law 1353 = .ok (.iconst 1, 1) := dk_iconst_1 (by decide +kernel)
theorem dL_law_1354 : decode cL_law 1354 = .ok (.iadd, 1) := dk_iadd (by decide +kernel)
theorem dL_law_1355 : decode cL_law 1355 = .ok (.iaload, 1) := dk_iaload (by decide +kernel)
theorem dL_law_1356 : decode cL_law 1356 = .ok (.aload_n 0, 1) := dk_aload_n_0 (by decide +kernel)
theorem dL_law_1357 : decode cL_law 1357 = .ok (.iload_n 3, 1) := dk_iload_n_3 (by decide +kernel)
theorem dL_law_1358 : decode cL_law 1358 = .ok (.iconst 2, 1) := dk_iconst_2 (by decide +kernel)
theorem dL_law_1359 : decode cL_law 1359 = .ok (.iadd, 1) := dk_iadd (by decide +kernel)
theorem dL_law_1360 : decode cL_law 1360 = .ok (.iaload, 1) := dk_iaload (by decide +kernel)
theorem dL_law_1361 : decode cL_law 1361 = .ok (.aload_n 0, 1) := dk_aload_n_0 (by decide +kernel)
theorem dL_law_1362 : decode cL_law 1362 = .ok (.iload_n 3, 1) := dk_iload_n_3 (by decide +kernel)
theorem dL_law_1363 : decode cL_law 1363 = .ok (.iconst 3, 1) := dk_iconst_3 (by decide +kernel)
theorem dL_law_1364 : decode cL_law 1364 = .ok (.iadd, 1) := dk_iadd (by decide +kernel)
theorem dL_law_1365 : decode cL_law 1365 = .ok (.iaload, 1) := dk_iaload (by decide +kernel)
theorem wRL_131 : Cond.methodLink RL 131 yX11_value ∈ sm_T := sm_in 1099 (by decide +kernel) (by decide +kernel)
theorem dL_law_1366 : decode cL_law 1366 = .ok (.invokevirtual 131, 3) := dk_invokevirtual 131 (b1 := 0) (b2 := 131) (by decide +kernel) (by decide +kernel) (by decide +kernel) (by decide +kernel)
theorem dL_law_1369 : decode cL_law 1369 = .ok (.aload_n 2, 1) := dk_aload_n_2 (by decide +kernel)
theorem dL_law_1370 : decode cL_law 1370 = .ok (.aload_n 0, 1) := dk_aload_n_0 (by decide +kernel)
theorem dL_law_1371 : decode cL_law 1371 = .ok (.iload_n 3, 1) := dk_iload_n_3 (by decide +kernel)
theorem dL_law_1372 : decode cL_law 1372 = .ok (.iconst 1, 1) := dk_iconst_1 (by decide +kernel)
theorem dL_law_1373 : decode cL_law 1373 = .ok (.iadd, 1) := dk_iadd (by decide +kernel)
theorem dL_law_1374 : decode cL_law 1374 = .ok (.iaload, 1) := dk_iaload (by decide +kernel)
theorem dL_law_1375 : decode cL_law 1375 = .ok (.aload_n 0, 1) := dk_aload_n_0 (by decide +kernel)
theorem dL_law_1376 : decode cL_law 1376 = .ok (.iload_n 3, 1) := dk_iload_n_3 (by decide +kernel)
theorem dL_law_1377 : decode cL_law 1377 = .ok (.iconst 2, 1) := dk_iconst_2 (by decide +kernel)
theorem dL_law_1378 : decode cL_law 1378 = .ok (.iadd, 1) := dk_iadd (by decide +kernel)
theorem dL_law_1379 : decode cL_law 1379 = .ok (.iaload, 1) := dk_iaload (by decide +kernel)
theorem dL_law_1380 : decode cL_law 1380 = .ok (.aload_n 0, 1) := dk_aload_n_0 (by decide +kernel)
theorem dL_law_1381 : decode cL_law 1381 = .ok (.iload_n 3, 1) := dk_iload_n_3 (by decide +kernel)
theorem dL_law_1382 : decode cL_law 1382 = .ok (.iconst 3, 1) := dk_iconst_3 (by decide +kernel)
theorem dL_law_1383 : decode cL_law 1383 = .ok (.iadd, 1) := dk_iadd (by decide +kernel)
theorem dL_law_1384 : decode cL_law 1384 = .ok (.iaload, 1) := dk_iaload (by decide +kernel)
theorem wRL_135 : Cond.methodLink RL 135 yX12_value ∈ sm_T := sm_in 1685 (by decide +kernel) (by decide +kernel)
theorem dL_law_1385 : decode cL_law 1385 = .ok (.invokevirtual 135, 3) := dk_invokevirtual 135 (b1 := 0) (b2 := 135) (by decide +kernel) (by decide +kernel) (by decide +kernel) (by decide +kernel)
theorem dL_law_1388 : decode cL_law 1388 = .ok (.lcmp, 1) := dk_lcmp (by decide +kernel)
theorem dL_law_1389 : decode cL_law 1389 = .ok (.ifCond .eq 166, 3) := dk_ifCond_eq 166 (b1 := 0) (b2 := 166) (by decide +kernel) (by decide +kernel) (by decide +kernel) (by decide +kernel)
theorem dL_law_1394 : decode cL_law 1394 = .ok (.aload_n 1, 1) := dk_aload_n_1 (by decide +kernel)
theorem dL_law_1395 : decode cL_law 1395 = .ok (.aload_n 0, 1) := dk_aload_n_0 (by decide +kernel)
theorem dL_law_1396 : decode cL_law 1396 = .ok (.iload_n 3, 1) := dk_iload_n_3 (by decide +kernel)
theorem dL_law_1397 : decode cL_law 1397 = .ok (.iconst 1, 1) := dk_iconst_1 (by decide +kernel)
theorem dL_law_1398 : decode cL_law 1398 = .ok (.iadd, 1) := dk_iadd (by decide +kernel)
theorem dL_law_1399 : decode cL_law 1399 = .ok (.iaload, 1) := dk_iaload (by decide +kernel)
theorem dL_law_1400 : decode cL_law 1400 = .ok (.aload_n 0, 1) := dk_aload_n_0 (by decide +kernel)
theorem dL_law_1401 : decode cL_law 1401 = .ok (.iload_n 3, 1) := dk_iload_n_3 (by decide +kernel)
theorem dL_law_1402 : decode cL_law 1402 = .ok (.iconst 2, 1) := dk_iconst_2 (by decide +kernel)
theorem dL_law_1403 : decode cL_law 1403 = .ok (.iadd, 1) := dk_iadd (by decide +kernel)
theorem dL_law_1404 : decode cL_law 1404 = .ok (.iaload, 1) := dk_iaload (by decide +kernel)
theorem wRL_136 : Cond.methodLink RL 136 yX11_judge ∈ sm_T := sm_in 1112 (by decide +kernel) (by decide +kernel)
theorem dL_law_1405 : decode cL_law 1405 = .ok (.invokevirtual 136, 3) := dk_invokevirtual 136 (b1 := 0) (b2 := 136) (by decide +kernel) (by decide +kernel) (by decide +kernel) (by decide +kernel)
theorem dL_law_1408 : decode cL_law 1408 = .ok (.aload_n 2, 1) := dk_aload_n_2 (by decide +kernel)
theorem dL_law_1409 : decode cL_law 1409 = .ok (.aload_n 0, 1) := dk_aload_n_0 (by decide +kernel)
theorem dL_law_1410 : decode cL_law 1410 = .ok (.iload_n 3, 1) := dk_iload_n_3 (by decide +kernel)
theorem dL_law_1411 : decode cL_law 1411 = .ok (.iconst 1, 1) := dk_iconst_1 (by decide +kernel)
theorem dL_law_1412 : decode cL_law 1412 = .ok (.iadd, 1) := dk_iadd (by decide +kernel)
theorem dL_law_1413 : decode cL_law 1413 = .ok (.iaload, 1) := dk_iaload (by decide +kernel)
theorem dL_law_1414 : decode cL_law 1414 = .ok (.aload_n 0, 1) := dk_aload_n_0 (by decide +kernel)
theorem dL_law_1415 : decode cL_law 1415 = .ok (.iload_n 3, 1) := dk_iload_n_3 (by decide +kernel)
theorem dL_law_1416 : decode cL_law 1416 = .ok (.iconst 2, 1) := dk_iconst_2 (by decide +kernel)
theorem dL_law_1417 : decode cL_law 1417 = .ok (.iadd, 1) := dk_iadd (by decide +kernel)
theorem dL_law_1418 : decode cL_law 1418 = .ok (.iaload, 1) := dk_iaload (by decide +kernel)
theorem wRL_139 : Cond.methodLink RL 139 yX12_judge ∈ sm_T := sm_in 1699 (by decide +kernel) (by decide +kernel)
theorem dL_law_1419 : decode cL_law 1419 = .ok (.invokevirtual 139, 3) := dk_invokevirtual 139 (b1 := 0) (b2 := 139) (by decide +kernel) (by decide +kernel) (by decide +kernel) (by decide +kernel)
theorem dL_law_1422 : decode cL_law 1422 = .ok (.if_icmp .eq 133, 3) := dk_if_icmp_eq 133 (b1 := 0) (b2 := 133) (by decide +kernel) (by decide +kernel) (by decide +kernel) (by decide +kernel)
theorem dL_law_1427 : decode cL_law 1427 = .ok (.aload_n 1, 1) := dk_aload_n_1 (by decide +kernel)
theorem dL_law_1428 : decode cL_law 1428 = .ok (.aload_n 0, 1) := dk_aload_n_0 (by decide +kernel)
theorem dL_law_1429 : decode cL_law 1429 = .ok (.iload_n 3, 1) := dk_iload_n_3 (by decide +kernel)
theorem dL_law_1430 : decode cL_law 1430 = .ok (.iconst 1, 1) := dk_iconst_1 (by decide +kernel)
theorem dL_law_1431 : decode cL_law 1431 = .ok (.iadd, 1) := dk_iadd (by decide +kernel)
theorem dL_law_1432 : decode cL_law 1432 = .ok (.iaload, 1) := dk_iaload (by decide +kernel)
theorem wRL_140 : Cond.methodLink RL 140 yX11_seed ∈ sm_T := sm_in 1120 (by decide +kernel) (by decide +kernel)
theorem dL_law_1433 : decode cL_law 1433 = .ok (.invokevirtual 140, 3) := dk_invokevirtual 140 (b1 := 0) (b2 := 140) (by decide +kernel) (by decide +kernel) (by decide +kernel) (by decide +kernel)
theorem dL_law_1436 : decode cL_law 1436 = .ok (.aload_n 2, 1) := dk_aload_n_2 (by decide +kernel)
theorem dL_law_1437 : decode cL_law 1437 = .ok (.aload_n 0, 1) := dk_aload_n_0 (by decide +kernel)
theorem dL_law_1438 : decode cL_law 1438 = .ok (.iload_n 3, 1) := dk_iload_n_3 (by decide +kernel)
theorem dL_law_1439 : decode cL_law 1439 = .ok (.iconst 1, 1) := dk_iconst_1 (by decide +kernel)
theorem dL_law_1440 : decode cL_law 1440 = .ok (.iadd, 1) := dk_iadd (by decide +kernel)
theorem dL_law_1441 : decode cL_law 1441 = .ok (.iaload, 1) := dk_iaload (by decide +kernel)
theorem wRL_143 : Cond.methodLink RL 143 yX12_seed ∈ sm_T := sm_in 1703 (by decide +kernel) (by decide +kernel)
theorem dL_law_1442 : decode cL_law 1442 = .ok (.invokevirtual 143, 3) := dk_invokevirtual 143 (b1 := 0) (b2 := 143) (by decide +kernel) (by decide +kernel) (by decide +kernel) (by decide +kernel)
theorem dL_law_1445 : decode cL_law 1445 = .ok (.if_icmp .eq 110, 3) := dk_if_icmp_eq 110 (b1 := 0) (b2 := 110) (by decide +kernel) (by decide +kernel) (by decide +kernel) (by decide +kernel)
theorem dL_law_1450 : decode cL_law 1450 = .ok (.aload_n 1, 1) := dk_aload_n_1 (by decide +kernel)
theorem dL_law_1451 : decode cL_law 1451 = .ok (.aload_n 0, 1) := dk_aload_n_0 (by decide +kernel)
theorem dL_law_1452 : decode cL_law 1452 = .ok (.iload_n 3, 1) := dk_iload_n_3 (by decide +kernel)
theorem dL_law_1453 : decode cL_law 1453 = .ok (.iconst 1, 1) := dk_iconst_1 (by decide +kernel)
theorem dL_law_1454 : decode cL_law 1454 = .ok (.iadd, 1) := dk_iadd (by decide +kernel)
theorem dL_law_1455 : decode cL_law 1455 = .ok (.iaload, 1) := dk_iaload (by decide +kernel)
theorem dL_law_1456 : decode cL_law 1456 = .ok (.aload_n 0, 1) := dk_aload_n_0 (by decide +kernel)
theorem dL_law_1457 : decode cL_law 1457 = .ok (.iload_n 3, 1) := dk_iload_n_3 (by decide +kernel)
theorem dL_law_1458 : decode cL_law 1458 = .ok (.iconst 2, 1) := dk_iconst_2 (by decide +kernel)
theorem dL_law_1459 : decode cL_law 1459 = .ok (.iadd, 1) := dk_iadd (by decide +kernel)
theorem dL_law_1460 : decode cL_law 1460 = .ok (.iaload, 1) := dk_iaload (by decide +kernel)
theorem wRL_144 : Cond.methodLink RL 144 yX11_loose ∈ sm_T := sm_in 1124 (by decide +kernel) (by decide +kernel)
theorem dL_law_1461 : decode cL_law 1461 = .ok (.invokevirtual 144, 3) := dk_invokevirtual 144 (b1 := 0) (b2 := 144) (by decide +kernel) (by decide +kernel) (by decide +kernel) (by decide +kernel)
theorem dL_law_1464 : decode cL_law 1464 = .ok (.aload_n 2, 1) := dk_aload_n_2 (by decide +kernel)
theorem dL_law_1465 : decode cL_law 1465 = .ok (.aload_n 0, 1) := dk_aload_n_0 (by decide +kernel)
theorem dL_law_1466 : decode cL_law 1466 = .ok (.iload_n 3, 1) := dk_iload_n_3 (by decide +kernel)
theorem dL_law_1467 : decode cL_law 1467 = .ok (.iconst 1, 1) := dk_iconst_1 (by decide +kernel)
theorem dL_law_1468 : decode cL_law 1468 = .ok (.iadd, 1) := dk_iadd (by decide +kernel)
theorem dL_law_1469 : decode cL_law 1469 = .ok (.iaload, 1) := dk_iaload (by decide +kernel)
theorem dL_law_1470 : decode cL_law 1470 = .ok (.aload_n 0, 1) := dk_aload_n_0 (by decide +kernel)
theorem dL_law_1471 : decode cL_law 1471 = .ok (.iload_n 3, 1) := dk_iload_n_3 (by decide +kernel)
theorem dL_law_1472 : decode cL_law 1472 = .ok (.iconst 2, 1) := dk_iconst_2 (by decide +kernel)
theorem dL_law_1473 : decode cL_law 1473 = .ok (.iadd, 1) := dk_iadd (by decide +kernel)
theorem dL_law_1474 : decode cL_law 1474 = .ok (.iaload, 1) := dk_iaload (by decide +kernel)
theorem wRL_147 : Cond.methodLink RL 147 yX12_loose ∈ sm_T := sm_in 1707 (by decide +kernel) (by decide +kernel)
theorem dL_law_1475 : decode cL_law 1475 = .ok (.invokevirtual 147, 3) := dk_invokevirtual 147 (b1 := 0) (b2 := 147) (by decide +kernel) (by decide +kernel) (by decide +kernel) (by decide +kernel)
theorem dL_law_1478 : decode cL_law 1478 = .ok (.if_icmp .eq 77, 3) := dk_if_icmp_eq 77 (b1 := 0) (b2 := 77) (by decide +kernel) (by decide +kernel) (by decide +kernel) (by decide +kernel)
theorem dL_law_1483 : decode cL_law 1483 = .ok (.aload_n 1, 1) := dk_aload_n_1 (by decide +kernel)
theorem wRL_148 : Cond.methodLink RL 148 yX11_image ∈ sm_T := sm_in 1129 (by decide +kernel) (by decide +kernel)
theorem dL_law_1484 : decode cL_law 1484 = .ok (.invokevirtual 148, 3) := dk_invokevirtual 148 (b1 := 0) (b2 := 148) (by decide +kernel) (by decide +kernel) (by decide +kernel) (by decide +kernel)
theorem dL_law_1487 : decode cL_law 1487 = .ok (.aload_n 2, 1) := dk_aload_n_2 (by decide +kernel)
theorem wRL_152 : Cond.methodLink RL 152 yX12_image ∈ sm_T := sm_in 1713 (by decide +kernel) (by decide +kernel)
theorem dL_law_1488 : decode cL_law 1488 = .ok (.invokevirtual 152, 3) := dk_invokevirtual 152 (b1 := 0) (b2 := 152) (by decide +kernel) (by decide +kernel) (by decide +kernel) (by decide +kernel)
theorem dL_law_1491 : decode cL_law 1491 = .ok (.if_icmp .eq 64, 3) := dk_if_icmp_eq 64 (b1 := 0) (b2 := 64) (by decide +kernel) (by decide +kernel) (by decide +kernel) (by decide +kernel)
theorem dL_law_1496 : decode cL_law 1496 = .ok (.aload_n 1, 1) := dk_aload_n_1 (by decide +kernel)
theorem wRL_153 : Cond.methodLink RL 153 yX11_restore ∈ sm_T := sm_in 1133 (by decide +kernel) (by decide +kernel)
theorem dL_law_1497 : decode cL_law 1497 = .ok (.invokevirtual 153, 3) := dk_invokevirtual 153 (b1 := 0) (b2 := 153) (by decide +kernel) (by decide +kernel) (by decide +kernel) (by decide +kernel)
theorem dL_law_1500 : decode cL_law 1500 = .ok (.aload_n 2, 1) := dk_aload_n_2 (by decide +kernel)
theorem wRL_156 : Cond.methodLink RL 156 yX12_restore ∈ sm_T := sm_in 1717 (by decide +kernel) (by decide +kernel)
theorem dL_law_1501 : decode cL_law 1501 = .ok (.invokevirtual 156, 3) := dk_invokevirtual 156 (b1 := 0) (b2 := 156) (by decide +kernel) (by decide +kernel) (by decide +kernel) (by decide +kernel)
theorem dL_law_1504 : decode cL_law 1504 = .ok (.if_icmp .eq 51, 3) := dk_if_icmp_eq 51 (b1 := 0) (b2 := 51) (by decide +kernel) (by decide +kernel) (by decide +kernel) (by decide +kernel)
theorem dL_law_1509 : decode cL_law 1509 = .ok (.aload_n 1, 1) := dk_aload_n_1 (by decide +kernel)
theorem dL_law_1510 : decode cL_law 1510 = .ok (.aload_n 0, 1) := dk_aload_n_0 (by decide +kernel)
theorem dL_law_1511 : decode cL_law 1511 = .ok (.iload_n 3, 1) := dk_iload_n_3 (by decide +kernel)
theorem dL_law_1512 : decode cL_law 1512 = .ok (.iconst 1, 1) := dk_iconst_1 (by decide +kernel)
theorem dL_law_1513 : decode cL_law 1513 = .ok (.iadd, 1) := dk_iadd (by decide +kernel)
theorem dL_law_1514 : decode cL_law 1514 = .ok (.iaload, 1) := dk_iaload (by decide +kernel)
theorem wRL_157 : Cond.methodLink RL 157 yX11_count ∈ sm_T := sm_in 1141 (by decide +kernel) (by decide +kernel)
theorem dL_law_1515 : decode cL_law 1515 = .ok (.invokevirtual 157, 3) := dk_invokevirtual 157 (b1 := 0) (b2 := 157) (by decide +kernel) (by decide +kernel) (by decide +kernel) (by decide +kernel)
theorem dL_law_1518 : decode cL_law 1518 = .ok (.aload_n 2, 1) := dk_aload_n_2 (by decide +kernel)
theorem dL_law_1519 : decode cL_law 1519 = .ok (.aload_n 0, 1) := dk_aload_n_0 (by decide +kernel)
theorem dL_law_1520 : decode cL_law 1520 = .ok (.iload_n 3, 1) := dk_iload_n_3 (by decide +kernel)
theorem dL_law_1521 : decode cL_law 1521 = .ok (.iconst 1, 1) := dk_iconst_1 (by decide +kernel)
theorem dL_law_1522 : decode cL_law 1522 = .ok (.iadd, 1) := dk_iadd (by decide +kernel)
theorem dL_law_1523 : decode cL_law 1523 = .ok (.iaload, 1) := dk_iaload (by decide +kernel)
theorem wRL_160 : Cond.methodLink RL 160 yX12_count ∈ sm_T := sm_in 1725 (by decide +kernel) (by decide +kernel)
theorem dL_law_1524 : decode cL_law 1524 = .ok (.invokevirtual 160, 3) := dk_invokevirtual 160 (b1 := 0) (b2 := 160) (by decide +kernel) (by decide +kernel) (by decide +kernel) (by decide +kernel)
theorem dL_law_1527 : decode cL_law 1527 = .ok (.if_icmp .eq 28, 3) := dk_if_icmp_eq 28 (b1 := 0) (b2 := 28) (by decide +kernel) (by decide +kernel) (by decide +kernel) (by decide +kernel)
theorem dL_law_1532 : decode cL_law 1532 = .ok (.aload_n 1, 1) := dk_aload_n_1 (by decide +kernel)
theorem dL_law_1533 : decode cL_law 1533 = .ok (.aload_n 0, 1) := dk_aload_n_0 (by decide +kernel)
theorem dL_law_1534 : decode cL_law 1534 = .ok (.iload_n 3, 1) := dk_iload_n_3 (by decide +kernel)
theorem dL_law_1535 : decode cL_law 1535 = .ok (.iconst 1, 1) := dk_iconst_1 (by decide +kernel)
theorem dL_law_1536 : decode cL_law 1536 = .ok (.iadd, 1) := dk_iadd (by decide +kernel)
theorem dL_law_1537 : decode cL_law 1537 = .ok (.iaload, 1) := dk_iaload (by decide +kernel)
theorem wRL_161 : Cond.methodLink RL 161 yX11_told ∈ sm_T := sm_in 1149 (by decide +kernel) (by decide +kernel)
theorem dL_law_1538 : decode cL_law 1538 = .ok (.invokevirtual 161, 3) := dk_invokevirtual 161 (b1 := 0) (b2 := 161) (by decide +kernel) (by decide +kernel) (by decide +kernel) (by decide +kernel)
theorem dL_law_1541 : decode cL_law 1541 = .ok (.aload_n 2, 1) := dk_aload_n_2 (by decide +kernel)
theorem dL_law_1542 : decode cL_law 1542 = .ok (.aload_n 0, 1) := dk_aload_n_0 (by decide +kernel)
theorem dL_law_1543 : decode cL_law 1543 = .ok (.iload_n 3, 1) := dk_iload_n_3 (by decide +kernel)
theorem dL_law_1544 : decode cL_law 1544 = .ok (.iconst 1, 1) := dk_iconst_1 (by decide +kernel)
theorem dL_law_1545 : decode cL_law 1545 = .ok (.iadd, 1) := dk_iadd (by decide +kernel)
theorem dL_law_1546 : decode cL_law 1546 = .ok (.iaload, 1) := dk_iaload (by decide +kernel)
theorem wRL_164 : Cond.methodLink RL 164 yX12_told ∈ sm_T := sm_in 1733 (by decide +kernel) (by decide +kernel)
theorem dL_law_1547 : decode cL_law 1547 = .ok (.invokevirtual 164, 3) := dk_invokevirtual 164 (b1 := 0) (b2 := 164) (by decide +kernel) (by decide +kernel) (by decide +kernel) (by decide +kernel)
theorem dL_law_1550 : decode cL_law 1550 = .ok (.if_icmp .eq 5, 3) := dk_if_icmp_eq 5 (b1 := 0) (b2 := 5) (by decide +kernel) (by decide +kernel) (by decide +kernel) (by decide +kernel)
theorem dL_law_0 : decode cL_law 0 = .ok (.new 7, 3) := dk_new 7 (b1 := 0) (b2 := 7) (by decide +kernel) (by decide +kernel) (by decide +kernel) (by decide +kernel)
theorem dL_law_3 : decode cL_law 3 = .ok (.dup, 1) := dk_dup (by decide +kernel)
theorem dL_law_4 : decode cL_law 4 = .ok (.invokespecial 9, 3) := dk_invokespecial 9 (b1 := 0) (b2 := 9) (by decide +kernel) (by decide +kernel) (by decide +kernel) (by decide +kernel)
theorem dL_law_7 : decode cL_law 7 = .ok (.astore_n 1, 1) := dk_astore_n_1 (by decide +kernel)
theorem dL_law_8 : decode cL_law 8 = .ok (.new 10, 3) := dk_new 10 (b1 := 0) (b2 := 10) (by decide +kernel) (by decide +kernel) (by decide +kernel) (by decide +kernel)
theorem dL_law_11 : decode cL_law 11 = .ok (.dup, 1) := dk_dup (by decide +kernel)
theorem dL_law_12 : decode cL_law 12 = .ok (.invokespecial 12, 3) := dk_invokespecial 12 (b1 := 0) (b2 := 12) (by decide +kernel) (by decide +kernel) (by decide +kernel) (by decide +kernel)
theorem dL_law_15 : decode cL_law 15 = .ok (.astore_n 2, 1) := dk_astore_n_2 (by decide +kernel)
theorem dL_law_16 : decode cL_law 16 = .ok (.iconst 0, 1) := dk_iconst_0 (by decide +kernel)
theorem dL_law_17 : decode cL_law 17 = .ok (.istore_n 3, 1) := dk_istore_n_3 (by decide +kernel)
theorem dL_law_18 : decode cL_law 18 = .ok (.iload_n 3, 1) := dk_iload_n_3 (by decide +kernel)
theorem dL_law_19 : decode cL_law 19 = .ok (.aload_n 0, 1) := dk_aload_n_0 (by decide +kernel)
theorem dL_law_20 : decode cL_law 20 = .ok (.arraylength, 1) := dk_arraylength (by decide +kernel)
theorem dL_law_21 : decode cL_law 21 = .ok (.bipush 6, 2) := dk_bipush 6 (b := 6) (by decide +kernel) (by decide +kernel) (by decide +kernel)
theorem dL_law_23 : decode cL_law 23 = .ok (.isub, 1) := dk_isub (by decide +kernel)
theorem dL_law_24 : decode cL_law 24 = .ok (.if_icmp .gt 1537, 3) := dk_if_icmp_gt 1537 (b1 := 6) (b2 := 1) (by decide +kernel) (by decide +kernel) (by decide +kernel) (by decide +kernel)
theorem dL_law_27 : decode cL_law 27 = .ok (.aload_n 0, 1) := dk_aload_n_0 (by decide +kernel)
theorem dL_law_28 : decode cL_law 28 = .ok (.iload_n 3, 1) := dk_iload_n_3 (by decide +kernel)
theorem dL_law_29 : decode cL_law 29 = .ok (.iaload, 1) := dk_iaload (by decide +kernel)
theorem dL_law_30 : decode cL_law 30 = .ok (.bipush 63, 2) := dk_bipush 63 (b := 63) (by decide +kernel) (by decide +kernel) (by decide +kernel)
theorem dL_law_32 : decode cL_law 32 = .ok (.iand, 1) := dk_iand (by decide +kernel)
theorem dL_law_33 : decode cL_law 33 = .ok (.tableswitch 1522 0 34 #[155, 188, 221, 274, 307, 370, 393, 416, 449, 482, 535, 578, 631, 684, 737, 780, 823, 876, 919, 952, 985, 1018, 1051, 1094, 1167, 1201, 1264, 1317, 1361, 1394, 1417, 1450, 1463, 1476, 1499], 155) := by decide +kernel
theorem dL_law_1555 : decode cL_law 1555 = .ok (.iinc 3 6, 3) := dk_iinc 3 6 (b1 := 3) (b2 := 6) (by decide +kernel) (by decide +kernel) (by decide +kernel) (by decide +kernel) (by decide +kernel)
theorem dL_law_1558 : decode cL_law 1558 = .ok (.goto (-1540), 3) := dk_goto (-1540) (b1 := 249) (b2 := 252) (by decide +kernel) (by decide +kernel) (by decide +kernel) (by decide +kernel)
theorem dL_law_1561 : decode cL_law 1561 = .ok (.iconst 1, 1) := dk_iconst_1 (by decide +kernel)
theorem dL_law_1562 : decode cL_law 1562 = .ok (.ireturn, 1) := dk_ireturn (by decide +kernel)
theorem wRL_7 : Cond.classLink RL 7 RX11 ∈ sm_T := sm_in 102 (by decide +kernel) (by decide +kernel)
theorem wRL_9 : Cond.methodLink RL 9 yX11_init ∈ sm_T := sm_in 104 (by decide +kernel) (by decide +kernel)
theorem wRL_10 : Cond.classLink RL 10 RX12 ∈ sm_T := sm_in 1153 (by decide +kernel) (by decide +kernel)
theorem wRL_12 : Cond.methodLink RL 12 yX12_init ∈ sm_T := sm_in 1155 (by decide +kernel) (by decide +kernel)
theorem lc_0 {E : sm_E} {nm : String} {i : Int32} {m : sm_M} {c cells slots : Nat} {Q : List Frame → State → State → Prop} (hI : Inv c m) (hc : c + 1 ≤ 1000) (hin : lwI E i) (h1 : cells + 4 ≤ 600000) (h2 : slots + 4096 ≤ 7302250) (hn : ∀ m2, Inv (c + 1) m2 → lwG E nm 1555 i m2 (cells + 4) (slots + 4096) Q) : lwG E nm 188 i m cells slots Q := by
  refine sm_aload_n (Y := lwY nm) (pc := 188) 2 1 rfl rfl dL_law_188 ?_
  refine sm_aload_n (Y := lwY nm) (pc := 189) 3 0 rfl rfl dL_law_189 ?_
  refine sm_iload_n (Y := lwY nm) (pc := 190) 0 3 rfl rfl dL_law_190 ?_
  refine sm_iconst (Y := lwY nm) (pc := 191) 1 (by decide) dL_law_191 ?_
  refine sm_iadd (Y := lwY nm) (pc := 192) dL_law_192 ?_
  refine sm_sld (Y := lwY nm) (pc := 193) (hin.1) dL_law_193 ?_
  refine sm_aload_n (Y := lwY nm) (pc := 194) 3 0 rfl rfl dL_law_194 ?_
  refine sm_iload_n (Y := lwY nm) (pc := 195) 0 3 rfl rfl dL_law_195 ?_
  refine sm_iconst (Y := lwY nm) (pc := 196) 2 (by decide) dL_law_196 ?_
  refine sm_iadd (Y := lwY nm) (pc := 197) dL_law_197 ?_
  refine sm_sld (Y := lwY nm) (pc := 198) (hin.2.1) dL_law_198 ?_
  refine sm_iv_I (Y := lwY nm) (pc := 199) (d' := 99) (mc' := 0) (ms' := 0) (As := [.int (E.2.2.2.2.2.2.2.2.2 (i + 1).toNatClampNeg), .int (E.2.2.2.2.2.2.2.2.2 (i + 2).toNatClampNeg)]) (a := 0) fX11_slot wRL_13 (lk_0 lz_ly) (by decide) rfl rfl rfl (by decide) (Nat.le_of_ble_eq_true rfl) ⟨by omega, by omega⟩ dL_law_199 rfl (sm_monoI (k_slot (d2 := 99) lz_ly (by decide) (by decide) hI) (fun r m1 q1 => ?_))
  refine sm_aload_n (Y := lwY nm) (pc := 202) 1 2 rfl rfl dL_law_202 ?_
  refine sm_aload_n (Y := lwY nm) (pc := 203) 3 0 rfl rfl dL_law_203 ?_
  refine sm_iload_n (Y := lwY nm) (pc := 204) 0 3 rfl rfl dL_law_204 ?_
  refine sm_iconst (Y := lwY nm) (pc := 205) 1 (by decide) dL_law_205 ?_
  refine sm_iadd (Y := lwY nm) (pc := 206) dL_law_206 ?_
  refine sm_sld (Y := lwY nm) (pc := 207) (hin.1) dL_law_207 ?_
  refine sm_aload_n (Y := lwY nm) (pc := 208) 3 0 rfl rfl dL_law_208 ?_
  refine sm_iload_n (Y := lwY nm) (pc := 209) 0 3 rfl rfl dL_law_209 ?_
  refine sm_iconst (Y := lwY nm) (pc := 210) 2 (by decide) dL_law_210 ?_
  refine sm_iadd (Y := lwY nm) (pc := 211) dL_law_211 ?_
  refine sm_sld (Y := lwY nm) (pc := 212) (hin.2.1) dL_law_212 ?_
  refine sm_iv_I (Y := lwY nm) (pc := 213) (d' := 99) (mc' := 0) (ms' := 0) (As := [.int (E.2.2.2.2.2.2.2.2.2 (i + 1).toNatClampNeg), .int (E.2.2.2.2.2.2.2.2.2 (i + 2).toNatClampNeg)]) (a := 109) fX12_slot wRL_17 (lk_109 lz_ly) (by decide) rfl rfl rfl (by decide) (Nat.le_of_ble_eq_true rfl) ⟨by omega, by omega⟩ dL_law_213 rfl (sm_monoI q1 (fun r2 m2 q2 => ?_))
  refine sm_icmp_eq (Y := lwY nm) (pc := 216) 1555 (by decide) dL_law_216 (fun _ => ?_) (fun hne => absurd q2.1 hne)
  exact sm_widen (by omega) (by omega) (hn m2 (q2.2.up (by omega) hc))
theorem lc_1 {E : sm_E} {nm : String} {i : Int32} {m : sm_M} {c cells slots : Nat} {Q : List Frame → State → State → Prop} (hI : Inv c m) (hc : c + 1 ≤ 1000) (hin : lwI E i) (h1 : cells + 4 ≤ 600000) (h2 : slots + 4096 ≤ 7302250) (hn : ∀ m2, Inv (c + 1) m2 → lwG E nm 1555 i m2 (cells + 4) (slots + 4096) Q) : lwG E nm 221 i m cells slots Q := by
  refine sm_aload_n (Y := lwY nm) (pc := 221) 2 1 rfl rfl dL_law_221 ?_
  refine sm_aload_n (Y := lwY nm) (pc := 222) 3 0 rfl rfl dL_law_222 ?_
  refine sm_iload_n (Y := lwY nm) (pc := 223) 0 3 rfl rfl dL_law_223 ?_
  refine sm_iconst (Y := lwY nm) (pc := 224) 1 (by decide) dL_law_224 ?_
  refine sm_iadd (Y := lwY nm) (pc := 225) dL_law_225 ?_
  refine sm_sld (Y := lwY nm) (pc := 226) (hin.1) dL_law_226 ?_
  refine sm_aload_n (Y := lwY nm) (pc := 227) 3 0 rfl rfl dL_law_227 ?_
  refine sm_iload_n (Y := lwY nm) (pc := 228) 0 3 rfl rfl dL_law_228 ?_
  refine sm_iconst (Y := lwY nm) (pc := 229) 2 (by decide) dL_law_229 ?_
  refine sm_iadd (Y := lwY nm) (pc := 230) dL_law_230 ?_
  refine sm_sld (Y := lwY nm) (pc := 231) (hin.2.1) dL_law_231 ?_
  refine sm_iv_I (Y := lwY nm) (pc := 232) (d' := 99) (mc' := 0) (ms' := 0) (As := [.int (E.2.2.2.2.2.2.2.2.2 (i + 1).toNatClampNeg), .int (E.2.2.2.2.2.2.2.2.2 (i + 2).toNatClampNeg)]) (a := 0) fX11_leaf wRL_18 (lk_0 lz_ly) (by decide) rfl rfl rfl (by decide) (Nat.le_of_ble_eq_true rfl) ⟨by omega, by omega⟩ dL_law_232 rfl (sm_monoI (k_leaf (d2 := 99) lz_ly (by decide) (by decide) hI) (fun r m1 q1 => ?_))
  refine sm_aload_n (Y := lwY nm) (pc := 235) 1 2 rfl rfl dL_law_235 ?_
  refine sm_aload_n (Y := lwY nm) (pc := 236) 3 0 rfl rfl dL_law_236 ?_
  refine sm_iload_n (Y := lwY nm) (pc := 237) 0 3 rfl rfl dL_law_237 ?_
  refine sm_iconst (Y := lwY nm) (pc := 238) 1 (by decide) dL_law_238 ?_
  refine sm_iadd (Y := lwY nm) (pc := 239) dL_law_239 ?_
  refine sm_sld (Y := lwY nm) (pc := 240) (hin.1) dL_law_240 ?_
  refine sm_aload_n (Y := lwY nm) (pc := 241) 3 0 rfl rfl dL_law_241 ?_
  refine sm_iload_n (Y := lwY nm) (pc := 242) 0 3 rfl rfl dL_law_242 ?_
  refine sm_iconst (Y := lwY nm) (pc := 243) 2 (by decide) dL_law_243 ?_
  refine sm_iadd (Y := lwY nm) (pc := 244) dL_law_244 ?_
  refine sm_sld (Y := lwY nm) (pc := 245) (hin.2.1) dL_law_245 ?_
  refine sm_iv_I (Y := lwY nm) (pc := 246) (d' := 99) (mc' := 0) (ms' := 0) (As := [.int (E.2.2.2.2.2.2.2.2.2 (i + 1).toNatClampNeg), .int (E.2.2.2.2.2.2.2.2.2 (i + 2).toNatClampNeg)]) (a := 109) fX12_leaf wRL_21 (lk_109 lz_ly) (by decide) rfl rfl rfl (by decide) (Nat.le_of_ble_eq_true rfl) ⟨by omega, by omega⟩ dL_law_246 rfl (sm_monoI q1 (fun r2 m2 q2 => ?_))
  refine sm_icmp_eq (Y := lwY nm) (pc := 249) 1555 (by decide) dL_law_249 (fun _ => ?_) (fun hne => absurd q2.1 hne)
  exact sm_widen (by omega) (by omega) (hn m2 (q2.2.up (by omega) hc))
theorem lc_2 {E : sm_E} {nm : String} {i : Int32} {m : sm_M} {c cells slots : Nat} {Q : List Frame → State → State → Prop} (hI : Inv c m) (hc : c + 1 ≤ 1000) (hin : lwI E i) (h1 : cells + 4 ≤ 600000) (h2 : slots + 4096 ≤ 7302250) (hn : ∀ m2, Inv (c + 1) m2 → lwG E nm 1555 i m2 (cells + 4) (slots + 4096) Q) : lwG E nm 254 i m cells slots Q := by
  refine sm_aload_n (Y := lwY nm) (pc := 254) 2 1 rfl rfl dL_law_254 ?_
  refine sm_aload_n (Y := lwY nm) (pc := 255) 3 0 rfl rfl dL_law_255 ?_
  refine sm_iload_n (Y := lwY nm) (pc := 256) 0 3 rfl rfl dL_law_256 ?_
  refine sm_iconst (Y := lwY nm) (pc := 257) 1 (by decide) dL_law_257 ?_
  refine sm_iadd (Y := lwY nm) (pc := 258) dL_law_258 ?_
  refine sm_sld (Y := lwY nm) (pc := 259) (hin.1) dL_law_259 ?_
  refine sm_aload_n (Y := lwY nm) (pc := 260) 3 0 rfl rfl dL_law_260 ?_
  refine sm_iload_n (Y := lwY nm) (pc := 261) 0 3 rfl rfl dL_law_261 ?_
  refine sm_iconst (Y := lwY nm) (pc := 262) 2 (by decide) dL_law_262 ?_
  refine sm_iadd (Y := lwY nm) (pc := 263) dL_law_263 ?_
  refine sm_sld (Y := lwY nm) (pc := 264) (hin.2.1) dL_law_264 ?_
  refine sm_aload_n (Y := lwY nm) (pc := 265) 3 0 rfl rfl dL_law_265 ?_
  refine sm_iload_n (Y := lwY nm) (pc := 266) 0 3 rfl rfl dL_law_266 ?_
  refine sm_iconst (Y := lwY nm) (pc := 267) 3 (by decide) dL_law_267 ?_
  refine sm_iadd (Y := lwY nm) (pc := 268) dL_law_268 ?_
  refine sm_sld (Y := lwY nm) (pc := 269) (hin.2.2.1) dL_law_269 ?_
  refine sm_aload_n (Y := lwY nm) (pc := 270) 3 0 rfl rfl dL_law_270 ?_
  refine sm_iload_n (Y := lwY nm) (pc := 271) 0 3 rfl rfl dL_law_271 ?_
  refine sm_iconst (Y := lwY nm) (pc := 272) 4 (by decide) dL_law_272 ?_
  refine sm_iadd (Y := lwY nm) (pc := 273) dL_law_273 ?_
  refine sm_sld (Y := lwY nm) (pc := 274) (hin.2.2.2.1) dL_law_274 ?_
  refine sm_iv_I (Y := lwY nm) (pc := 275) (d' := 99) (mc' := 0) (ms' := 0) (As := [.int (E.2.2.2.2.2.2.2.2.2 (i + 1).toNatClampNeg), .int (E.2.2.2.2.2.2.2.2.2 (i + 2).toNatClampNeg), .int (E.2.2.2.2.2.2.2.2.2 (i + 3).toNatClampNeg), .int (E.2.2.2.2.2.2.2.2.2 (i + 4).toNatClampNeg)]) (a := 0) fX11_join wRL_22 (lk_0 lz_ly) (by decide) rfl rfl rfl (by decide) (Nat.le_of_ble_eq_true rfl) ⟨by omega, by omega⟩ dL_law_275 rfl (sm_monoI (k_join (d2 := 99) lz_ly (by decide) (by decide) hI) (fun r m1 q1 => ?_))
  refine sm_aload_n (Y := lwY nm) (pc := 278) 1 2 rfl rfl dL_law_278 ?_
  refine sm_aload_n (Y := lwY nm) (pc := 279) 3 0 rfl rfl dL_law_279 ?_
  refine sm_iload_n (Y := lwY nm) (pc := 280) 0 3 rfl rfl dL_law_280 ?_
  refine sm_iconst (Y := lwY nm) (pc := 281) 1 (by decide) dL_law_281 ?_
  refine sm_iadd (Y := lwY nm) (pc := 282) dL_law_282 ?_
  refine sm_sld (Y := lwY nm) (pc := 283) (hin.1) dL_law_283 ?_
  refine sm_aload_n (Y := lwY nm) (pc := 284) 3 0 rfl rfl dL_law_284 ?_
  refine sm_iload_n (Y := lwY nm) (pc := 285) 0 3 rfl rfl dL_law_285 ?_
  refine sm_iconst (Y := lwY nm) (pc := 286) 2 (by decide) dL_law_286 ?_
  refine sm_iadd (Y := lwY nm) (pc := 287) dL_law_287 ?_
  refine sm_sld (Y := lwY nm) (pc := 288) (hin.2.1) dL_law_288 ?_
  refine sm_aload_n (Y := lwY nm) (pc := 289) 3 0 rfl rfl dL_law_289 ?_
  refine sm_iload_n (Y := lwY nm) (pc := 290) 0 3 rfl rfl dL_law_290 ?_
  refine sm_iconst (Y := lwY nm) (pc := 291) 3 (by decide) dL_law_291 ?_
  refine sm_iadd (Y := lwY nm) (pc := 292) dL_law_292 ?_
  refine sm_sld (Y := lwY nm) (pc := 293) (hin.2.2.1) dL_law_293 ?_
  refine sm_aload_n (Y := lwY nm) (pc := 294) 3 0 rfl rfl dL_law_294 ?_
  refine sm_iload_n (Y := lwY nm) (pc := 295) 0 3 rfl rfl dL_law_295 ?_
  refine sm_iconst (Y := lwY nm) (pc := 296) 4 (by decide) dL_law_296 ?_
  refine sm_iadd (Y := lwY nm) (pc := 297) dL_law_297 ?_
  refine sm_sld (Y := lwY nm) (pc := 298) (hin.2.2.2.1) dL_law_298 ?_
  refine sm_iv_I (Y := lwY nm) (pc := 299) (d' := 99) (mc' := 0) (ms' := 0) (As := [.int (E.2.2.2.2.2.2.2.2.2 (i + 1).toNatClampNeg), .int (E.2.2.2.2.2.2.2.2.2 (i + 2).toNatClampNeg), .int (E.2.2.2.2.2.2.2.2.2 (i + 3).toNatClampNeg), .int (E.2.2.2.2.2.2.2.2.2 (i + 4).toNatClampNeg)]) (a := 109) fX12_join wRL_26 (lk_109 lz_ly) (by decide) rfl rfl rfl (by decide) (Nat.le_of_ble_eq_true rfl) ⟨by omega, by omega⟩ dL_law_299 rfl (sm_monoI q1 (fun r2 m2 q2 => ?_))
  refine sm_icmp_eq (Y := lwY nm) (pc := 302) 1555 (by decide) dL_law_302 (fun _ => ?_) (fun hne => absurd q2.1 hne)
  exact sm_widen (by omega) (by omega) (hn m2 (q2.2.up (by omega) hc))
theorem lc_3 {E : sm_E} {nm : String} {i : Int32} {m : sm_M} {c cells slots : Nat} {Q : List Frame → State → State → Prop} (hI : Inv c m) (hc : c + 1 ≤ 1000) (hin : lwI E i) (h1 : cells + 4 ≤ 600000) (h2 : slots + 4096 ≤ 7302250) (hn : ∀ m2, Inv (c + 1) m2 → lwG E nm 1555 i m2 (cells + 4) (slots + 4096) Q) : lwG E nm 307 i m cells slots Q := by
  refine sm_aload_n (Y := lwY nm) (pc := 307) 2 1 rfl rfl dL_law_307 ?_
  refine sm_aload_n (Y := lwY nm) (pc := 308) 3 0 rfl rfl dL_law_308 ?_
  refine sm_iload_n (Y := lwY nm) (pc := 309) 0 3 rfl rfl dL_law_309 ?_
  refine sm_iconst (Y := lwY nm) (pc := 310) 1 (by decide) dL_law_310 ?_
  refine sm_iadd (Y := lwY nm) (pc := 311) dL_law_311 ?_
  refine sm_sld (Y := lwY nm) (pc := 312) (hin.1) dL_law_312 ?_
  refine sm_aload_n (Y := lwY nm) (pc := 313) 3 0 rfl rfl dL_law_313 ?_
  refine sm_iload_n (Y := lwY nm) (pc := 314) 0 3 rfl rfl dL_law_314 ?_
  refine sm_iconst (Y := lwY nm) (pc := 315) 2 (by decide) dL_law_315 ?_
  refine sm_iadd (Y := lwY nm) (pc := 316) dL_law_316 ?_
  refine sm_sld (Y := lwY nm) (pc := 317) (hin.2.1) dL_law_317 ?_
  refine sm_iv_I (Y := lwY nm) (pc := 318) (d' := 99) (mc' := 0) (ms' := 0) (As := [.int (E.2.2.2.2.2.2.2.2.2 (i + 1).toNatClampNeg), .int (E.2.2.2.2.2.2.2.2.2 (i + 2).toNatClampNeg)]) (a := 0) fX11_move wRL_27 (lk_0 lz_ly) (by decide) rfl rfl rfl (by decide) (Nat.le_of_ble_eq_true rfl) ⟨by omega, by omega⟩ dL_law_318 rfl (sm_monoI (k_move (d2 := 99) lz_ly (by decide) (by decide) hI) (fun r m1 q1 => ?_))
  refine sm_aload_n (Y := lwY nm) (pc := 321) 1 2 rfl rfl dL_law_321 ?_
  refine sm_aload_n (Y := lwY nm) (pc := 322) 3 0 rfl rfl dL_law_322 ?_
  refine sm_iload_n (Y := lwY nm) (pc := 323) 0 3 rfl rfl dL_law_323 ?_
  refine sm_iconst (Y := lwY nm) (pc := 324) 1 (by decide) dL_law_324 ?_
  refine sm_iadd (Y := lwY nm) (pc := 325) dL_law_325 ?_
  refine sm_sld (Y := lwY nm) (pc := 326) (hin.1) dL_law_326 ?_
  refine sm_aload_n (Y := lwY nm) (pc := 327) 3 0 rfl rfl dL_law_327 ?_
  refine sm_iload_n (Y := lwY nm) (pc := 328) 0 3 rfl rfl dL_law_328 ?_
  refine sm_iconst (Y := lwY nm) (pc := 329) 2 (by decide) dL_law_329 ?_
  refine sm_iadd (Y := lwY nm) (pc := 330) dL_law_330 ?_
  refine sm_sld (Y := lwY nm) (pc := 331) (hin.2.1) dL_law_331 ?_
  refine sm_iv_I (Y := lwY nm) (pc := 332) (d' := 99) (mc' := 0) (ms' := 0) (As := [.int (E.2.2.2.2.2.2.2.2.2 (i + 1).toNatClampNeg), .int (E.2.2.2.2.2.2.2.2.2 (i + 2).toNatClampNeg)]) (a := 109) fX12_move wRL_30 (lk_109 lz_ly) (by decide) rfl rfl rfl (by decide) (Nat.le_of_ble_eq_true rfl) ⟨by omega, by omega⟩ dL_law_332 rfl (sm_monoI q1 (fun r2 m2 q2 => ?_))
  refine sm_icmp_eq (Y := lwY nm) (pc := 335) 1555 (by decide) dL_law_335 (fun _ => ?_) (fun hne => absurd q2.1 hne)
  exact sm_widen (by omega) (by omega) (hn m2 (q2.2.up (by omega) hc))
theorem lc_4 {E : sm_E} {nm : String} {i : Int32} {m : sm_M} {c cells slots : Nat} {Q : List Frame → State → State → Prop} (hI : Inv c m) (hc : c + 1 ≤ 1000) (hin : lwI E i) (h1 : cells + 4 ≤ 600000) (h2 : slots + 4096 ≤ 7302250) (hn : ∀ m2, Inv (c + 1) m2 → lwG E nm 1555 i m2 (cells + 4) (slots + 4096) Q) : lwG E nm 340 i m cells slots Q := by
  refine sm_aload_n (Y := lwY nm) (pc := 340) 2 1 rfl rfl dL_law_340 ?_
  refine sm_aload_n (Y := lwY nm) (pc := 341) 3 0 rfl rfl dL_law_341 ?_
  refine sm_iload_n (Y := lwY nm) (pc := 342) 0 3 rfl rfl dL_law_342 ?_
  refine sm_iconst (Y := lwY nm) (pc := 343) 1 (by decide) dL_law_343 ?_
  refine sm_iadd (Y := lwY nm) (pc := 344) dL_law_344 ?_
  refine sm_sld (Y := lwY nm) (pc := 345) (hin.1) dL_law_345 ?_
  refine sm_i2l (Y := lwY nm) (pc := 346) dL_law_346 ?_
  refine sm_bipush (Y := lwY nm) (pc := 347) 32 (by decide) dL_law_347 ?_
  refine sm_lshl (Y := lwY nm) (pc := 349) dL_law_349 ?_
  refine sm_aload_n (Y := lwY nm) (pc := 350) 3 0 rfl rfl dL_law_350 ?_
  refine sm_iload_n (Y := lwY nm) (pc := 351) 0 3 rfl rfl dL_law_351 ?_
  refine sm_iconst (Y := lwY nm) (pc := 352) 2 (by decide) dL_law_352 ?_
  refine sm_iadd (Y := lwY nm) (pc := 353) dL_law_353 ?_
  refine sm_sld (Y := lwY nm) (pc := 354) (hin.2.1) dL_law_354 ?_
  refine sm_i2l (Y := lwY nm) (pc := 355) dL_law_355 ?_
  refine sm_ldc2_w (Y := lwY nm) (pc := 356) 4294967295 wRL_31 dL_law_356 ?_
  refine sm_land (Y := lwY nm) (pc := 359) dL_law_359 ?_
  refine sm_lor (Y := lwY nm) (pc := 360) dL_law_360 ?_
  refine sm_aload_n (Y := lwY nm) (pc := 361) 3 0 rfl rfl dL_law_361 ?_
  refine sm_iload_n (Y := lwY nm) (pc := 362) 0 3 rfl rfl dL_law_362 ?_
  refine sm_iconst (Y := lwY nm) (pc := 363) 3 (by decide) dL_law_363 ?_
  refine sm_iadd (Y := lwY nm) (pc := 364) dL_law_364 ?_
  refine sm_sld (Y := lwY nm) (pc := 365) (hin.2.2.1) dL_law_365 ?_
  refine sm_iv_I (Y := lwY nm) (pc := 366) (d' := 99) (mc' := 0) (ms' := 0) (As := [.long ((((E.2.2.2.2.2.2.2.2.2 (i + 1).toNatClampNeg).toInt64) <<< ((32 : Int32).toInt64 &&& 63)) ||| (((E.2.2.2.2.2.2.2.2.2 (i + 2).toNatClampNeg).toInt64) &&& (4294967295))), .int (E.2.2.2.2.2.2.2.2.2 (i + 3).toNatClampNeg)]) (a := 0) fX11_feed wRL_33 (lk_0 lz_ly) (by decide) rfl rfl rfl (by decide) (Nat.le_of_ble_eq_true rfl) ⟨by omega, by omega⟩ dL_law_366 rfl (sm_monoI (k_feed (d2 := 99) lz_ly (by decide) (by decide) hI) (fun r m1 q1 => ?_))
  refine sm_aload_n (Y := lwY nm) (pc := 369) 1 2 rfl rfl dL_law_369 ?_
  refine sm_aload_n (Y := lwY nm) (pc := 370) 3 0 rfl rfl dL_law_370 ?_
  refine sm_iload_n (Y := lwY nm) (pc := 371) 0 3 rfl rfl dL_law_371 ?_
  refine sm_iconst (Y := lwY nm) (pc := 372) 1 (by decide) dL_law_372 ?_
  refine sm_iadd (Y := lwY nm) (pc := 373) dL_law_373 ?_
  refine sm_sld (Y := lwY nm) (pc := 374) (hin.1) dL_law_374 ?_
  refine sm_i2l (Y := lwY nm) (pc := 375) dL_law_375 ?_
  refine sm_bipush (Y := lwY nm) (pc := 376) 32 (by decide) dL_law_376 ?_
  refine sm_lshl (Y := lwY nm) (pc := 378) dL_law_378 ?_
  refine sm_aload_n (Y := lwY nm) (pc := 379) 3 0 rfl rfl dL_law_379 ?_
  refine sm_iload_n (Y := lwY nm) (pc := 380) 0 3 rfl rfl dL_law_380 ?_
  refine sm_iconst (Y := lwY nm) (pc := 381) 2 (by decide) dL_law_381 ?_
  refine sm_iadd (Y := lwY nm) (pc := 382) dL_law_382 ?_
  refine sm_sld (Y := lwY nm) (pc := 383) (hin.2.1) dL_law_383 ?_
  refine sm_i2l (Y := lwY nm) (pc := 384) dL_law_384 ?_
  refine sm_ldc2_w (Y := lwY nm) (pc := 385) 4294967295 wRL_31 dL_law_385 ?_
  refine sm_land (Y := lwY nm) (pc := 388) dL_law_388 ?_
  refine sm_lor (Y := lwY nm) (pc := 389) dL_law_389 ?_
  refine sm_aload_n (Y := lwY nm) (pc := 390) 3 0 rfl rfl dL_law_390 ?_
  refine sm_iload_n (Y := lwY nm) (pc := 391) 0 3 rfl rfl dL_law_391 ?_
  refine sm_iconst (Y := lwY nm) (pc := 392) 3 (by decide) dL_law_392 ?_
  refine sm_iadd (Y := lwY nm) (pc := 393) dL_law_393 ?_
  refine sm_sld (Y := lwY nm) (pc := 394) (hin.2.2.1) dL_law_394 ?_
  refine sm_iv_I (Y := lwY nm) (pc := 395) (d' := 99) (mc' := 0) (ms' := 0) (As := [.long ((((E.2.2.2.2.2.2.2.2.2 (i + 1).toNatClampNeg).toInt64) <<< ((32 : Int32).toInt64 &&& 63)) ||| (((E.2.2.2.2.2.2.2.2.2 (i + 2).toNatClampNeg).toInt64) &&& (4294967295))), .int (E.2.2.2.2.2.2.2.2.2 (i + 3).toNatClampNeg)]) (a := 109) fX12_feed wRL_37 (lk_109 lz_ly) (by decide) rfl rfl rfl (by decide) (Nat.le_of_ble_eq_true rfl) ⟨by omega, by omega⟩ dL_law_395 rfl (sm_monoI q1 (fun r2 m2 q2 => ?_))
  refine sm_icmp_eq (Y := lwY nm) (pc := 398) 1555 (by decide) dL_law_398 (fun _ => ?_) (fun hne => absurd q2.1 hne)
  exact sm_widen (by omega) (by omega) (hn m2 (q2.2.up (by omega) hc))
theorem lc_5 {E : sm_E} {nm : String} {i : Int32} {m : sm_M} {c cells slots : Nat} {Q : List Frame → State → State → Prop} (hI : Inv c m) (hc : c + 1 ≤ 1000) (hin : lwI E i) (h1 : cells + 4 ≤ 600000) (h2 : slots + 4096 ≤ 7302250) (hn : ∀ m2, Inv (c + 1) m2 → lwG E nm 1555 i m2 (cells + 4) (slots + 4096) Q) : lwG E nm 403 i m cells slots Q := by
  refine sm_aload_n (Y := lwY nm) (pc := 403) 2 1 rfl rfl dL_law_403 ?_
  refine sm_aload_n (Y := lwY nm) (pc := 404) 3 0 rfl rfl dL_law_404 ?_
  refine sm_iload_n (Y := lwY nm) (pc := 405) 0 3 rfl rfl dL_law_405 ?_
  refine sm_iconst (Y := lwY nm) (pc := 406) 1 (by decide) dL_law_406 ?_
  refine sm_iadd (Y := lwY nm) (pc := 407) dL_law_407 ?_
  refine sm_sld (Y := lwY nm) (pc := 408) (hin.1) dL_law_408 ?_
  refine sm_iv_I (Y := lwY nm) (pc := 409) (d' := 99) (mc' := 0) (ms' := 0) (As := [.int (E.2.2.2.2.2.2.2.2.2 (i + 1).toNatClampNeg)]) (a := 0) fX11_tangle wRL_38 (lk_0 lz_ly) (by decide) rfl rfl rfl (by decide) (Nat.le_of_ble_eq_true rfl) ⟨by omega, by omega⟩ dL_law_409 rfl (sm_monoI (k_tangle (d2 := 99) lz_ly (by decide) (by decide) hI) (fun r m1 q1 => ?_))
  refine sm_aload_n (Y := lwY nm) (pc := 412) 1 2 rfl rfl dL_law_412 ?_
  refine sm_aload_n (Y := lwY nm) (pc := 413) 3 0 rfl rfl dL_law_413 ?_
  refine sm_iload_n (Y := lwY nm) (pc := 414) 0 3 rfl rfl dL_law_414 ?_
  refine sm_iconst (Y := lwY nm) (pc := 415) 1 (by decide) dL_law_415 ?_
  refine sm_iadd (Y := lwY nm) (pc := 416) dL_law_416 ?_
  refine sm_sld (Y := lwY nm) (pc := 417) (hin.1) dL_law_417 ?_
  refine sm_iv_I (Y := lwY nm) (pc := 418) (d' := 99) (mc' := 0) (ms' := 0) (As := [.int (E.2.2.2.2.2.2.2.2.2 (i + 1).toNatClampNeg)]) (a := 109) fX12_tangle wRL_42 (lk_109 lz_ly) (by decide) rfl rfl rfl (by decide) (Nat.le_of_ble_eq_true rfl) ⟨by omega, by omega⟩ dL_law_418 rfl (sm_monoI q1 (fun r2 m2 q2 => ?_))
  refine sm_icmp_eq (Y := lwY nm) (pc := 421) 1555 (by decide) dL_law_421 (fun _ => ?_) (fun hne => absurd q2.1 hne)
  exact sm_widen (by omega) (by omega) (hn m2 (q2.2.up (by omega) hc))
theorem lc_6 {E : sm_E} {nm : String} {i : Int32} {m : sm_M} {c cells slots : Nat} {Q : List Frame → State → State → Prop} (hI : Inv c m) (hc : c + 1 ≤ 1000) (hin : lwI E i) (h1 : cells + 4 ≤ 600000) (h2 : slots + 4096 ≤ 7302250) (hn : ∀ m2, Inv (c + 1) m2 → lwG E nm 1555 i m2 (cells + 4) (slots + 4096) Q) : lwG E nm 426 i m cells slots Q := by
  refine sm_aload_n (Y := lwY nm) (pc := 426) 2 1 rfl rfl dL_law_426 ?_
  refine sm_aload_n (Y := lwY nm) (pc := 427) 3 0 rfl rfl dL_law_427 ?_
  refine sm_iload_n (Y := lwY nm) (pc := 428) 0 3 rfl rfl dL_law_428 ?_
  refine sm_iconst (Y := lwY nm) (pc := 429) 1 (by decide) dL_law_429 ?_
  refine sm_iadd (Y := lwY nm) (pc := 430) dL_law_430 ?_
  refine sm_sld (Y := lwY nm) (pc := 431) (hin.1) dL_law_431 ?_
  refine sm_iv_I (Y := lwY nm) (pc := 432) (d' := 99) (mc' := 0) (ms' := 0) (As := [.int (E.2.2.2.2.2.2.2.2.2 (i + 1).toNatClampNeg)]) (a := 0) fX11_moves wRL_43 (lk_0 lz_ly) (by decide) rfl rfl rfl (by decide) (Nat.le_of_ble_eq_true rfl) ⟨by omega, by omega⟩ dL_law_432 rfl (sm_monoI (k_moves (d2 := 99) lz_ly (by decide) (by decide) hI) (fun r m1 q1 => ?_))
  refine sm_aload_n (Y := lwY nm) (pc := 435) 1 2 rfl rfl dL_law_435 ?_
  refine sm_aload_n (Y := lwY nm) (pc := 436) 3 0 rfl rfl dL_law_436 ?_
  refine sm_iload_n (Y := lwY nm) (pc := 437) 0 3 rfl rfl dL_law_437 ?_
  refine sm_iconst (Y := lwY nm) (pc := 438) 1 (by decide) dL_law_438 ?_
  refine sm_iadd (Y := lwY nm) (pc := 439) dL_law_439 ?_
  refine sm_sld (Y := lwY nm) (pc := 440) (hin.1) dL_law_440 ?_
  refine sm_iv_I (Y := lwY nm) (pc := 441) (d' := 99) (mc' := 0) (ms' := 0) (As := [.int (E.2.2.2.2.2.2.2.2.2 (i + 1).toNatClampNeg)]) (a := 109) fX12_moves wRL_46 (lk_109 lz_ly) (by decide) rfl rfl rfl (by decide) (Nat.le_of_ble_eq_true rfl) ⟨by omega, by omega⟩ dL_law_441 rfl (sm_monoI q1 (fun r2 m2 q2 => ?_))
  refine sm_icmp_eq (Y := lwY nm) (pc := 444) 1555 (by decide) dL_law_444 (fun _ => ?_) (fun hne => absurd q2.1 hne)
  exact sm_widen (by omega) (by omega) (hn m2 (q2.2.up (by omega) hc))
theorem lc_7 {E : sm_E} {nm : String} {i : Int32} {m : sm_M} {c cells slots : Nat} {Q : List Frame → State → State → Prop} (hI : Inv c m) (hc : c + 1 ≤ 1000) (hin : lwI E i) (h1 : cells + 4 ≤ 600000) (h2 : slots + 4096 ≤ 7302250) (hn : ∀ m2, Inv (c + 1) m2 → lwG E nm 1555 i m2 (cells + 4) (slots + 4096) Q) : lwG E nm 449 i m cells slots Q := by
  refine sm_aload_n (Y := lwY nm) (pc := 449) 2 1 rfl rfl dL_law_449 ?_
  refine sm_aload_n (Y := lwY nm) (pc := 450) 3 0 rfl rfl dL_law_450 ?_
  refine sm_iload_n (Y := lwY nm) (pc := 451) 0 3 rfl rfl dL_law_451 ?_
  refine sm_iconst (Y := lwY nm) (pc := 452) 1 (by decide) dL_law_452 ?_
  refine sm_iadd (Y := lwY nm) (pc := 453) dL_law_453 ?_
  refine sm_sld (Y := lwY nm) (pc := 454) (hin.1) dL_law_454 ?_
  refine sm_aload_n (Y := lwY nm) (pc := 455) 3 0 rfl rfl dL_law_455 ?_
  refine sm_iload_n (Y := lwY nm) (pc := 456) 0 3 rfl rfl dL_law_456 ?_
  refine sm_iconst (Y := lwY nm) (pc := 457) 2 (by decide) dL_law_457 ?_
  refine sm_iadd (Y := lwY nm) (pc := 458) dL_law_458 ?_
  refine sm_sld (Y := lwY nm) (pc := 459) (hin.2.1) dL_law_459 ?_
  refine sm_iv_I (Y := lwY nm) (pc := 460) (d' := 99) (mc' := 0) (ms' := 0) (As := [.int (E.2.2.2.2.2.2.2.2.2 (i + 1).toNatClampNeg), .int (E.2.2.2.2.2.2.2.2.2 (i + 2).toNatClampNeg)]) (a := 0) fX11_term wRL_47 (lk_0 lz_ly) (by decide) rfl rfl rfl (by decide) (Nat.le_of_ble_eq_true rfl) ⟨by omega, by omega⟩ dL_law_460 rfl (sm_monoI (k_term (d2 := 99) lz_ly (by decide) (by decide) hI) (fun r m1 q1 => ?_))
  refine sm_aload_n (Y := lwY nm) (pc := 463) 1 2 rfl rfl dL_law_463 ?_
  refine sm_aload_n (Y := lwY nm) (pc := 464) 3 0 rfl rfl dL_law_464 ?_
  refine sm_iload_n (Y := lwY nm) (pc := 465) 0 3 rfl rfl dL_law_465 ?_
  refine sm_iconst (Y := lwY nm) (pc := 466) 1 (by decide) dL_law_466 ?_
  refine sm_iadd (Y := lwY nm) (pc := 467) dL_law_467 ?_
  refine sm_sld (Y := lwY nm) (pc := 468) (hin.1) dL_law_468 ?_
  refine sm_aload_n (Y := lwY nm) (pc := 469) 3 0 rfl rfl dL_law_469 ?_
  refine sm_iload_n (Y := lwY nm) (pc := 470) 0 3 rfl rfl dL_law_470 ?_
  refine sm_iconst (Y := lwY nm) (pc := 471) 2 (by decide) dL_law_471 ?_
  refine sm_iadd (Y := lwY nm) (pc := 472) dL_law_472 ?_
  refine sm_sld (Y := lwY nm) (pc := 473) (hin.2.1) dL_law_473 ?_
  refine sm_iv_I (Y := lwY nm) (pc := 474) (d' := 99) (mc' := 0) (ms' := 0) (As := [.int (E.2.2.2.2.2.2.2.2.2 (i + 1).toNatClampNeg), .int (E.2.2.2.2.2.2.2.2.2 (i + 2).toNatClampNeg)]) (a := 109) fX12_term wRL_50 (lk_109 lz_ly) (by decide) rfl rfl rfl (by decide) (Nat.le_of_ble_eq_true rfl) ⟨by omega, by omega⟩ dL_law_474 rfl (sm_monoI q1 (fun r2 m2 q2 => ?_))
  refine sm_icmp_eq (Y := lwY nm) (pc := 477) 1555 (by decide) dL_law_477 (fun _ => ?_) (fun hne => absurd q2.1 hne)
  exact sm_widen (by omega) (by omega) (hn m2 (q2.2.up (by omega) hc))
theorem lc_8 {E : sm_E} {nm : String} {i : Int32} {m : sm_M} {c cells slots : Nat} {Q : List Frame → State → State → Prop} (hI : Inv c m) (hc : c + 1 ≤ 1000) (hin : lwI E i) (h1 : cells + 4 ≤ 600000) (h2 : slots + 4096 ≤ 7302250) (hn : ∀ m2, Inv (c + 1) m2 → lwG E nm 1555 i m2 (cells + 4) (slots + 4096) Q) : lwG E nm 482 i m cells slots Q := by
  refine sm_aload_n (Y := lwY nm) (pc := 482) 2 1 rfl rfl dL_law_482 ?_
  refine sm_aload_n (Y := lwY nm) (pc := 483) 3 0 rfl rfl dL_law_483 ?_
  refine sm_iload_n (Y := lwY nm) (pc := 484) 0 3 rfl rfl dL_law_484 ?_
  refine sm_iconst (Y := lwY nm) (pc := 485) 1 (by decide) dL_law_485 ?_
  refine sm_iadd (Y := lwY nm) (pc := 486) dL_law_486 ?_
  refine sm_sld (Y := lwY nm) (pc := 487) (hin.1) dL_law_487 ?_
  refine sm_aload_n (Y := lwY nm) (pc := 488) 3 0 rfl rfl dL_law_488 ?_
  refine sm_iload_n (Y := lwY nm) (pc := 489) 0 3 rfl rfl dL_law_489 ?_
  refine sm_iconst (Y := lwY nm) (pc := 490) 2 (by decide) dL_law_490 ?_
  refine sm_iadd (Y := lwY nm) (pc := 491) dL_law_491 ?_
  refine sm_sld (Y := lwY nm) (pc := 492) (hin.2.1) dL_law_492 ?_
  refine sm_iv_I (Y := lwY nm) (pc := 493) (d' := 99) (mc' := 0) (ms' := 0) (As := [.int (E.2.2.2.2.2.2.2.2.2 (i + 1).toNatClampNeg), .int (E.2.2.2.2.2.2.2.2.2 (i + 2).toNatClampNeg)]) (a := 0) fX11_dance wRL_51 (lk_0 lz_ly) (by decide) rfl rfl rfl (by decide) (Nat.le_of_ble_eq_true rfl) ⟨by omega, by omega⟩ dL_law_493 rfl (sm_monoI (k_dance (d2 := 99) lz_ly (by decide) (by decide) hI) (fun r m1 q1 => ?_))
  refine sm_aload_n (Y := lwY nm) (pc := 496) 1 2 rfl rfl dL_law_496 ?_
  refine sm_aload_n (Y := lwY nm) (pc := 497) 3 0 rfl rfl dL_law_497 ?_
  refine sm_iload_n (Y := lwY nm) (pc := 498) 0 3 rfl rfl dL_law_498 ?_
  refine sm_iconst (Y := lwY nm) (pc := 499) 1 (by decide) dL_law_499 ?_
  refine sm_iadd (Y := lwY nm) (pc := 500) dL_law_500 ?_
  refine sm_sld (Y := lwY nm) (pc := 501) (hin.1) dL_law_501 ?_
  refine sm_aload_n (Y := lwY nm) (pc := 502) 3 0 rfl rfl dL_law_502 ?_
  refine sm_iload_n (Y := lwY nm) (pc := 503) 0 3 rfl rfl dL_law_503 ?_
  refine sm_iconst (Y := lwY nm) (pc := 504) 2 (by decide) dL_law_504 ?_
  refine sm_iadd (Y := lwY nm) (pc := 505) dL_law_505 ?_
  refine sm_sld (Y := lwY nm) (pc := 506) (hin.2.1) dL_law_506 ?_
  refine sm_iv_I (Y := lwY nm) (pc := 507) (d' := 99) (mc' := 0) (ms' := 0) (As := [.int (E.2.2.2.2.2.2.2.2.2 (i + 1).toNatClampNeg), .int (E.2.2.2.2.2.2.2.2.2 (i + 2).toNatClampNeg)]) (a := 109) fX12_dance wRL_54 (lk_109 lz_ly) (by decide) rfl rfl rfl (by decide) (Nat.le_of_ble_eq_true rfl) ⟨by omega, by omega⟩ dL_law_507 rfl (sm_monoI q1 (fun r2 m2 q2 => ?_))
  refine sm_icmp_eq (Y := lwY nm) (pc := 510) 1555 (by decide) dL_law_510 (fun _ => ?_) (fun hne => absurd q2.1 hne)
  exact sm_widen (by omega) (by omega) (hn m2 (q2.2.up (by omega) hc))
theorem lc_9 {E : sm_E} {nm : String} {i : Int32} {m : sm_M} {c cells slots : Nat} {Q : List Frame → State → State → Prop} (hI : Inv c m) (hc : c + 1 ≤ 1000) (hin : lwI E i) (h1 : cells + 4 ≤ 600000) (h2 : slots + 4096 ≤ 7302250) (hn : ∀ m2, Inv (c + 1) m2 → lwG E nm 1555 i m2 (cells + 4) (slots + 4096) Q) : lwG E nm 515 i m cells slots Q := by
  refine sm_aload_n (Y := lwY nm) (pc := 515) 2 1 rfl rfl dL_law_515 ?_
  refine sm_aload_n (Y := lwY nm) (pc := 516) 3 0 rfl rfl dL_law_516 ?_
  refine sm_iload_n (Y := lwY nm) (pc := 517) 0 3 rfl rfl dL_law_517 ?_
  refine sm_iconst (Y := lwY nm) (pc := 518) 1 (by decide) dL_law_518 ?_
  refine sm_iadd (Y := lwY nm) (pc := 519) dL_law_519 ?_
  refine sm_sld (Y := lwY nm) (pc := 520) (hin.1) dL_law_520 ?_
  refine sm_aload_n (Y := lwY nm) (pc := 521) 3 0 rfl rfl dL_law_521 ?_
  refine sm_iload_n (Y := lwY nm) (pc := 522) 0 3 rfl rfl dL_law_522 ?_
  refine sm_iconst (Y := lwY nm) (pc := 523) 2 (by decide) dL_law_523 ?_
  refine sm_iadd (Y := lwY nm) (pc := 524) dL_law_524 ?_
  refine sm_sld (Y := lwY nm) (pc := 525) (hin.2.1) dL_law_525 ?_
  refine sm_aload_n (Y := lwY nm) (pc := 526) 3 0 rfl rfl dL_law_526 ?_
  refine sm_iload_n (Y := lwY nm) (pc := 527) 0 3 rfl rfl dL_law_527 ?_
  refine sm_iconst (Y := lwY nm) (pc := 528) 3 (by decide) dL_law_528 ?_
  refine sm_iadd (Y := lwY nm) (pc := 529) dL_law_529 ?_
  refine sm_sld (Y := lwY nm) (pc := 530) (hin.2.2.1) dL_law_530 ?_
  refine sm_aload_n (Y := lwY nm) (pc := 531) 3 0 rfl rfl dL_law_531 ?_
  refine sm_iload_n (Y := lwY nm) (pc := 532) 0 3 rfl rfl dL_law_532 ?_
  refine sm_iconst (Y := lwY nm) (pc := 533) 4 (by decide) dL_law_533 ?_
  refine sm_iadd (Y := lwY nm) (pc := 534) dL_law_534 ?_
  refine sm_sld (Y := lwY nm) (pc := 535) (hin.2.2.2.1) dL_law_535 ?_
  refine sm_iv_I (Y := lwY nm) (pc := 536) (d' := 99) (mc' := 0) (ms' := 0) (As := [.int (E.2.2.2.2.2.2.2.2.2 (i + 1).toNatClampNeg), .int (E.2.2.2.2.2.2.2.2.2 (i + 2).toNatClampNeg), .int (E.2.2.2.2.2.2.2.2.2 (i + 3).toNatClampNeg), .int (E.2.2.2.2.2.2.2.2.2 (i + 4).toNatClampNeg)]) (a := 0) fX11_least wRL_55 (lk_0 lz_ly) (by decide) rfl rfl rfl (by decide) (Nat.le_of_ble_eq_true rfl) ⟨by omega, by omega⟩ dL_law_536 rfl (sm_monoI (k_least (d2 := 99) lz_ly (by decide) (by decide) hI) (fun r m1 q1 => ?_))
  refine sm_aload_n (Y := lwY nm) (pc := 539) 1 2 rfl rfl dL_law_539 ?_
  refine sm_aload_n (Y := lwY nm) (pc := 540) 3 0 rfl rfl dL_law_540 ?_
  refine sm_iload_n (Y := lwY nm) (pc := 541) 0 3 rfl rfl dL_law_541 ?_
  refine sm_iconst (Y := lwY nm) (pc := 542) 1 (by decide) dL_law_542 ?_
  refine sm_iadd (Y := lwY nm) (pc := 543) dL_law_543 ?_
  refine sm_sld (Y := lwY nm) (pc := 544) (hin.1) dL_law_544 ?_
  refine sm_aload_n (Y := lwY nm) (pc := 545) 3 0 rfl rfl dL_law_545 ?_
  refine sm_iload_n (Y := lwY nm) (pc := 546) 0 3 rfl rfl dL_law_546 ?_
  refine sm_iconst (Y := lwY nm) (pc := 547) 2 (by decide) dL_law_547 ?_
  refine sm_iadd (Y := lwY nm) (pc := 548) dL_law_548 ?_
  refine sm_sld (Y := lwY nm) (pc := 549) (hin.2.1) dL_law_549 ?_
  refine sm_aload_n (Y := lwY nm) (pc := 550) 3 0 rfl rfl dL_law_550 ?_
  refine sm_iload_n (Y := lwY nm) (pc := 551) 0 3 rfl rfl dL_law_551 ?_
  refine sm_iconst (Y := lwY nm) (pc := 552) 3 (by decide) dL_law_552 ?_
  refine sm_iadd (Y := lwY nm) (pc := 553) dL_law_553 ?_
  refine sm_sld (Y := lwY nm) (pc := 554) (hin.2.2.1) dL_law_554 ?_
  refine sm_aload_n (Y := lwY nm) (pc := 555) 3 0 rfl rfl dL_law_555 ?_
  refine sm_iload_n (Y := lwY nm) (pc := 556) 0 3 rfl rfl dL_law_556 ?_
  refine sm_iconst (Y := lwY nm) (pc := 557) 4 (by decide) dL_law_557 ?_
  refine sm_iadd (Y := lwY nm) (pc := 558) dL_law_558 ?_
  refine sm_sld (Y := lwY nm) (pc := 559) (hin.2.2.2.1) dL_law_559 ?_
  refine sm_iv_I (Y := lwY nm) (pc := 560) (d' := 99) (mc' := 0) (ms' := 0) (As := [.int (E.2.2.2.2.2.2.2.2.2 (i + 1).toNatClampNeg), .int (E.2.2.2.2.2.2.2.2.2 (i + 2).toNatClampNeg), .int (E.2.2.2.2.2.2.2.2.2 (i + 3).toNatClampNeg), .int (E.2.2.2.2.2.2.2.2.2 (i + 4).toNatClampNeg)]) (a := 109) fX12_least wRL_58 (lk_109 lz_ly) (by decide) rfl rfl rfl (by decide) (Nat.le_of_ble_eq_true rfl) ⟨by omega, by omega⟩ dL_law_560 rfl (sm_monoI q1 (fun r2 m2 q2 => ?_))
  refine sm_icmp_eq (Y := lwY nm) (pc := 563) 1555 (by decide) dL_law_563 (fun _ => ?_) (fun hne => absurd q2.1 hne)
  exact sm_widen (by omega) (by omega) (hn m2 (q2.2.up (by omega) hc))
theorem lc_10 {E : sm_E} {nm : String} {i : Int32} {m : sm_M} {c cells slots : Nat} {Q : List Frame → State → State → Prop} (hI : Inv c m) (hc : c + 1 ≤ 1000) (hin : lwI E i) (h1 : cells + 4 ≤ 600000) (h2 : slots + 4096 ≤ 7302250) (hn : ∀ m2, Inv (c + 1) m2 → lwG E nm 1555 i m2 (cells + 4) (slots + 4096) Q) : lwG E nm 568 i m cells slots Q := by
  refine sm_aload_n (Y := lwY nm) (pc := 568) 2 1 rfl rfl dL_law_568 ?_
  refine sm_aload_n (Y := lwY nm) (pc := 569) 3 0 rfl rfl dL_law_569 ?_
  refine sm_iload_n (Y := lwY nm) (pc := 570) 0 3 rfl rfl dL_law_570 ?_
  refine sm_iconst (Y := lwY nm) (pc := 571) 1 (by decide) dL_law_571 ?_
  refine sm_iadd (Y := lwY nm) (pc := 572) dL_law_572 ?_
  refine sm_sld (Y := lwY nm) (pc := 573) (hin.1) dL_law_573 ?_
  refine sm_aload_n (Y := lwY nm) (pc := 574) 3 0 rfl rfl dL_law_574 ?_
  refine sm_iload_n (Y := lwY nm) (pc := 575) 0 3 rfl rfl dL_law_575 ?_
  refine sm_iconst (Y := lwY nm) (pc := 576) 2 (by decide) dL_law_576 ?_
  refine sm_iadd (Y := lwY nm) (pc := 577) dL_law_577 ?_
  refine sm_sld (Y := lwY nm) (pc := 578) (hin.2.1) dL_law_578 ?_
  refine sm_aload_n (Y := lwY nm) (pc := 579) 3 0 rfl rfl dL_law_579 ?_
  refine sm_iload_n (Y := lwY nm) (pc := 580) 0 3 rfl rfl dL_law_580 ?_
  refine sm_iconst (Y := lwY nm) (pc := 581) 3 (by decide) dL_law_581 ?_
  refine sm_iadd (Y := lwY nm) (pc := 582) dL_law_582 ?_
  refine sm_sld (Y := lwY nm) (pc := 583) (hin.2.2.1) dL_law_583 ?_
  refine sm_iv_I (Y := lwY nm) (pc := 584) (d' := 99) (mc' := 0) (ms' := 0) (As := [.int (E.2.2.2.2.2.2.2.2.2 (i + 1).toNatClampNeg), .int (E.2.2.2.2.2.2.2.2.2 (i + 2).toNatClampNeg), .int (E.2.2.2.2.2.2.2.2.2 (i + 3).toNatClampNeg)]) (a := 0) fX11_link wRL_59 (lk_0 lz_ly) (by decide) rfl rfl rfl (by decide) (Nat.le_of_ble_eq_true rfl) ⟨by omega, by omega⟩ dL_law_584 rfl (sm_monoI (k_link (d2 := 99) lz_ly (by decide) (by decide) hI) (fun r m1 q1 => ?_))
  refine sm_aload_n (Y := lwY nm) (pc := 587) 1 2 rfl rfl dL_law_587 ?_
  refine sm_aload_n (Y := lwY nm) (pc := 588) 3 0 rfl rfl dL_law_588 ?_
  refine sm_iload_n (Y := lwY nm) (pc := 589) 0 3 rfl rfl dL_law_589 ?_
  refine sm_iconst (Y := lwY nm) (pc := 590) 1 (by decide) dL_law_590 ?_
  refine sm_iadd (Y := lwY nm) (pc := 591) dL_law_591 ?_
  refine sm_sld (Y := lwY nm) (pc := 592) (hin.1) dL_law_592 ?_
  refine sm_aload_n (Y := lwY nm) (pc := 593) 3 0 rfl rfl dL_law_593 ?_
  refine sm_iload_n (Y := lwY nm) (pc := 594) 0 3 rfl rfl dL_law_594 ?_
  refine sm_iconst (Y := lwY nm) (pc := 595) 2 (by decide) dL_law_595 ?_
  refine sm_iadd (Y := lwY nm) (pc := 596) dL_law_596 ?_
  refine sm_sld (Y := lwY nm) (pc := 597) (hin.2.1) dL_law_597 ?_
  refine sm_aload_n (Y := lwY nm) (pc := 598) 3 0 rfl rfl dL_law_598 ?_
  refine sm_iload_n (Y := lwY nm) (pc := 599) 0 3 rfl rfl dL_law_599 ?_
  refine sm_iconst (Y := lwY nm) (pc := 600) 3 (by decide) dL_law_600 ?_
  refine sm_iadd (Y := lwY nm) (pc := 601) dL_law_601 ?_
  refine sm_sld (Y := lwY nm) (pc := 602) (hin.2.2.1) dL_law_602 ?_
  refine sm_iv_I (Y := lwY nm) (pc := 603) (d' := 99) (mc' := 0) (ms' := 0) (As := [.int (E.2.2.2.2.2.2.2.2.2 (i + 1).toNatClampNeg), .int (E.2.2.2.2.2.2.2.2.2 (i + 2).toNatClampNeg), .int (E.2.2.2.2.2.2.2.2.2 (i + 3).toNatClampNeg)]) (a := 109) fX12_link wRL_63 (lk_109 lz_ly) (by decide) rfl rfl rfl (by decide) (Nat.le_of_ble_eq_true rfl) ⟨by omega, by omega⟩ dL_law_603 rfl (sm_monoI q1 (fun r2 m2 q2 => ?_))
  refine sm_icmp_eq (Y := lwY nm) (pc := 606) 1555 (by decide) dL_law_606 (fun _ => ?_) (fun hne => absurd q2.1 hne)
  exact sm_widen (by omega) (by omega) (hn m2 (q2.2.up (by omega) hc))
theorem lc_11 {E : sm_E} {nm : String} {i : Int32} {m : sm_M} {c cells slots : Nat} {Q : List Frame → State → State → Prop} (hI : Inv c m) (hc : c + 1 ≤ 1000) (hin : lwI E i) (h1 : cells + 4 ≤ 600000) (h2 : slots + 4096 ≤ 7302250) (hn : ∀ m2, Inv (c + 1) m2 → lwG E nm 1555 i m2 (cells + 4) (slots + 4096) Q) : lwG E nm 611 i m cells slots Q := by
  refine sm_aload_n (Y := lwY nm) (pc := 611) 2 1 rfl rfl dL_law_611 ?_
  refine sm_aload_n (Y := lwY nm) (pc := 612) 3 0 rfl rfl dL_law_612 ?_
  refine sm_iload_n (Y := lwY nm) (pc := 613) 0 3 rfl rfl dL_law_613 ?_
  refine sm_iconst (Y := lwY nm) (pc := 614) 1 (by decide) dL_law_614 ?_
  refine sm_iadd (Y := lwY nm) (pc := 615) dL_law_615 ?_
  refine sm_sld (Y := lwY nm) (pc := 616) (hin.1) dL_law_616 ?_
  refine sm_aload_n (Y := lwY nm) (pc := 617) 3 0 rfl rfl dL_law_617 ?_
  refine sm_iload_n (Y := lwY nm) (pc := 618) 0 3 rfl rfl dL_law_618 ?_
  refine sm_iconst (Y := lwY nm) (pc := 619) 2 (by decide) dL_law_619 ?_
  refine sm_iadd (Y := lwY nm) (pc := 620) dL_law_620 ?_
  refine sm_sld (Y := lwY nm) (pc := 621) (hin.2.1) dL_law_621 ?_
  refine sm_aload_n (Y := lwY nm) (pc := 622) 3 0 rfl rfl dL_law_622 ?_
  refine sm_iload_n (Y := lwY nm) (pc := 623) 0 3 rfl rfl dL_law_623 ?_
  refine sm_iconst (Y := lwY nm) (pc := 624) 3 (by decide) dL_law_624 ?_
  refine sm_iadd (Y := lwY nm) (pc := 625) dL_law_625 ?_
  refine sm_sld (Y := lwY nm) (pc := 626) (hin.2.2.1) dL_law_626 ?_
  refine sm_aload_n (Y := lwY nm) (pc := 627) 3 0 rfl rfl dL_law_627 ?_
  refine sm_iload_n (Y := lwY nm) (pc := 628) 0 3 rfl rfl dL_law_628 ?_
  refine sm_iconst (Y := lwY nm) (pc := 629) 4 (by decide) dL_law_629 ?_
  refine sm_iadd (Y := lwY nm) (pc := 630) dL_law_630 ?_
  refine sm_sld (Y := lwY nm) (pc := 631) (hin.2.2.2.1) dL_law_631 ?_
  refine sm_iv_I (Y := lwY nm) (pc := 632) (d' := 99) (mc' := 0) (ms' := 0) (As := [.int (E.2.2.2.2.2.2.2.2.2 (i + 1).toNatClampNeg), .int (E.2.2.2.2.2.2.2.2.2 (i + 2).toNatClampNeg), .int (E.2.2.2.2.2.2.2.2.2 (i + 3).toNatClampNeg), .int (E.2.2.2.2.2.2.2.2.2 (i + 4).toNatClampNeg)]) (a := 0) fX11_crossing wRL_64 (lk_0 lz_ly) (by decide) rfl rfl rfl (by decide) (Nat.le_of_ble_eq_true rfl) ⟨by omega, by omega⟩ dL_law_632 rfl (sm_monoI (k_crossing (d2 := 99) lz_ly (by decide) (by decide) hI) (fun r m1 q1 => ?_))
  refine sm_aload_n (Y := lwY nm) (pc := 635) 1 2 rfl rfl dL_law_635 ?_
  refine sm_aload_n (Y := lwY nm) (pc := 636) 3 0 rfl rfl dL_law_636 ?_
  refine sm_iload_n (Y := lwY nm) (pc := 637) 0 3 rfl rfl dL_law_637 ?_
  refine sm_iconst (Y := lwY nm) (pc := 638) 1 (by decide) dL_law_638 ?_
  refine sm_iadd (Y := lwY nm) (pc := 639) dL_law_639 ?_
  refine sm_sld (Y := lwY nm) (pc := 640) (hin.1) dL_law_640 ?_
  refine sm_aload_n (Y := lwY nm) (pc := 641) 3 0 rfl rfl dL_law_641 ?_
  refine sm_iload_n (Y := lwY nm) (pc := 642) 0 3 rfl rfl dL_law_642 ?_
  refine sm_iconst (Y := lwY nm) (pc := 643) 2 (by decide) dL_law_643 ?_
  refine sm_iadd (Y := lwY nm) (pc := 644) dL_law_644 ?_
  refine sm_sld (Y := lwY nm) (pc := 645) (hin.2.1) dL_law_645 ?_
  refine sm_aload_n (Y := lwY nm) (pc := 646) 3 0 rfl rfl dL_law_646 ?_
  refine sm_iload_n (Y := lwY nm) (pc := 647) 0 3 rfl rfl dL_law_647 ?_
  refine sm_iconst (Y := lwY nm) (pc := 648) 3 (by decide) dL_law_648 ?_
  refine sm_iadd (Y := lwY nm) (pc := 649) dL_law_649 ?_
  refine sm_sld (Y := lwY nm) (pc := 650) (hin.2.2.1) dL_law_650 ?_
  refine sm_aload_n (Y := lwY nm) (pc := 651) 3 0 rfl rfl dL_law_651 ?_
  refine sm_iload_n (Y := lwY nm) (pc := 652) 0 3 rfl rfl dL_law_652 ?_
  refine sm_iconst (Y := lwY nm) (pc := 653) 4 (by decide) dL_law_653 ?_
  refine sm_iadd (Y := lwY nm) (pc := 654) dL_law_654 ?_
  refine sm_sld (Y := lwY nm) (pc := 655) (hin.2.2.2.1) dL_law_655 ?_
  refine sm_iv_I (Y := lwY nm) (pc := 656) (d' := 99) (mc' := 0) (ms' := 0) (As := [.int (E.2.2.2.2.2.2.2.2.2 (i + 1).toNatClampNeg), .int (E.2.2.2.2.2.2.2.2.2 (i + 2).toNatClampNeg), .int (E.2.2.2.2.2.2.2.2.2 (i + 3).toNatClampNeg), .int (E.2.2.2.2.2.2.2.2.2 (i + 4).toNatClampNeg)]) (a := 109) fX12_crossing wRL_67 (lk_109 lz_ly) (by decide) rfl rfl rfl (by decide) (Nat.le_of_ble_eq_true rfl) ⟨by omega, by omega⟩ dL_law_656 rfl (sm_monoI q1 (fun r2 m2 q2 => ?_))
  refine sm_icmp_eq (Y := lwY nm) (pc := 659) 1555 (by decide) dL_law_659 (fun _ => ?_) (fun hne => absurd q2.1 hne)
  exact sm_widen (by omega) (by omega) (hn m2 (q2.2.up (by omega) hc))
theorem lc_12 {E : sm_E} {nm : String} {i : Int32} {m : sm_M} {c cells slots : Nat} {Q : List Frame → State → State → Prop} (hI : Inv c m) (hc : c + 1 ≤ 1000) (hin : lwI E i) (h1 : cells + 4 ≤ 600000) (h2 : slots + 4096 ≤ 7302250) (hn : ∀ m2, Inv (c + 1) m2 → lwG E nm 1555 i m2 (cells + 4) (slots + 4096) Q) : lwG E nm 664 i m cells slots Q := by
  refine sm_aload_n (Y := lwY nm) (pc := 664) 2 1 rfl rfl dL_law_664 ?_
  refine sm_aload_n (Y := lwY nm) (pc := 665) 3 0 rfl rfl dL_law_665 ?_
  refine sm_iload_n (Y := lwY nm) (pc := 666) 0 3 rfl rfl dL_law_666 ?_
  refine sm_iconst (Y := lwY nm) (pc := 667) 1 (by decide) dL_law_667 ?_
  refine sm_iadd (Y := lwY nm) (pc := 668) dL_law_668 ?_
  refine sm_sld (Y := lwY nm) (pc := 669) (hin.1) dL_law_669 ?_
  refine sm_aload_n (Y := lwY nm) (pc := 670) 3 0 rfl rfl dL_law_670 ?_
  refine sm_iload_n (Y := lwY nm) (pc := 671) 0 3 rfl rfl dL_law_671 ?_
  refine sm_iconst (Y := lwY nm) (pc := 672) 2 (by decide) dL_law_672 ?_
  refine sm_iadd (Y := lwY nm) (pc := 673) dL_law_673 ?_
  refine sm_sld (Y := lwY nm) (pc := 674) (hin.2.1) dL_law_674 ?_
  refine sm_aload_n (Y := lwY nm) (pc := 675) 3 0 rfl rfl dL_law_675 ?_
  refine sm_iload_n (Y := lwY nm) (pc := 676) 0 3 rfl rfl dL_law_676 ?_
  refine sm_iconst (Y := lwY nm) (pc := 677) 3 (by decide) dL_law_677 ?_
  refine sm_iadd (Y := lwY nm) (pc := 678) dL_law_678 ?_
  refine sm_sld (Y := lwY nm) (pc := 679) (hin.2.2.1) dL_law_679 ?_
  refine sm_aload_n (Y := lwY nm) (pc := 680) 3 0 rfl rfl dL_law_680 ?_
  refine sm_iload_n (Y := lwY nm) (pc := 681) 0 3 rfl rfl dL_law_681 ?_
  refine sm_iconst (Y := lwY nm) (pc := 682) 4 (by decide) dL_law_682 ?_
  refine sm_iadd (Y := lwY nm) (pc := 683) dL_law_683 ?_
  refine sm_sld (Y := lwY nm) (pc := 684) (hin.2.2.2.1) dL_law_684 ?_
  refine sm_iv_I (Y := lwY nm) (pc := 685) (d' := 99) (mc' := 0) (ms' := 0) (As := [.int (E.2.2.2.2.2.2.2.2.2 (i + 1).toNatClampNeg), .int (E.2.2.2.2.2.2.2.2.2 (i + 2).toNatClampNeg), .int (E.2.2.2.2.2.2.2.2.2 (i + 3).toNatClampNeg), .int (E.2.2.2.2.2.2.2.2.2 (i + 4).toNatClampNeg)]) (a := 0) fX11_linked wRL_68 (lk_0 lz_ly) (by decide) rfl rfl rfl (by decide) (Nat.le_of_ble_eq_true rfl) ⟨by omega, by omega⟩ dL_law_685 rfl (sm_monoI (k_linked (d2 := 99) lz_ly (by decide) (by decide) hI) (fun r m1 q1 => ?_))
  refine sm_aload_n (Y := lwY nm) (pc := 688) 1 2 rfl rfl dL_law_688 ?_
  refine sm_aload_n (Y := lwY nm) (pc := 689) 3 0 rfl rfl dL_law_689 ?_
  refine sm_iload_n (Y := lwY nm) (pc := 690) 0 3 rfl rfl dL_law_690 ?_
  refine sm_iconst (Y := lwY nm) (pc := 691) 1 (by decide) dL_law_691 ?_
  refine sm_iadd (Y := lwY nm) (pc := 692) dL_law_692 ?_
  refine sm_sld (Y := lwY nm) (pc := 693) (hin.1) dL_law_693 ?_
  refine sm_aload_n (Y := lwY nm) (pc := 694) 3 0 rfl rfl dL_law_694 ?_
  refine sm_iload_n (Y := lwY nm) (pc := 695) 0 3 rfl rfl dL_law_695 ?_
  refine sm_iconst (Y := lwY nm) (pc := 696) 2 (by decide) dL_law_696 ?_
  refine sm_iadd (Y := lwY nm) (pc := 697) dL_law_697 ?_
  refine sm_sld (Y := lwY nm) (pc := 698) (hin.2.1) dL_law_698 ?_
  refine sm_aload_n (Y := lwY nm) (pc := 699) 3 0 rfl rfl dL_law_699 ?_
  refine sm_iload_n (Y := lwY nm) (pc := 700) 0 3 rfl rfl dL_law_700 ?_
  refine sm_iconst (Y := lwY nm) (pc := 701) 3 (by decide) dL_law_701 ?_
  refine sm_iadd (Y := lwY nm) (pc := 702) dL_law_702 ?_
  refine sm_sld (Y := lwY nm) (pc := 703) (hin.2.2.1) dL_law_703 ?_
  refine sm_aload_n (Y := lwY nm) (pc := 704) 3 0 rfl rfl dL_law_704 ?_
  refine sm_iload_n (Y := lwY nm) (pc := 705) 0 3 rfl rfl dL_law_705 ?_
  refine sm_iconst (Y := lwY nm) (pc := 706) 4 (by decide) dL_law_706 ?_
  refine sm_iadd (Y := lwY nm) (pc := 707) dL_law_707 ?_
  refine sm_sld (Y := lwY nm) (pc := 708) (hin.2.2.2.1) dL_law_708 ?_
  refine sm_iv_I (Y := lwY nm) (pc := 709) (d' := 99) (mc' := 0) (ms' := 0) (As := [.int (E.2.2.2.2.2.2.2.2.2 (i + 1).toNatClampNeg), .int (E.2.2.2.2.2.2.2.2.2 (i + 2).toNatClampNeg), .int (E.2.2.2.2.2.2.2.2.2 (i + 3).toNatClampNeg), .int (E.2.2.2.2.2.2.2.2.2 (i + 4).toNatClampNeg)]) (a := 109) fX12_linked wRL_71 (lk_109 lz_ly) (by decide) rfl rfl rfl (by decide) (Nat.le_of_ble_eq_true rfl) ⟨by omega, by omega⟩ dL_law_709 rfl (sm_monoI q1 (fun r2 m2 q2 => ?_))
  refine sm_icmp_eq (Y := lwY nm) (pc := 712) 1555 (by decide) dL_law_712 (fun _ => ?_) (fun hne => absurd q2.1 hne)
  exact sm_widen (by omega) (by omega) (hn m2 (q2.2.up (by omega) hc))
theorem lc_13 {E : sm_E} {nm : String} {i : Int32} {m : sm_M} {c cells slots : Nat} {Q : List Frame → State → State → Prop} (hI : Inv c m) (hc : c + 1 ≤ 1000) (hin : lwI E i) (h1 : cells + 4 ≤ 600000) (h2 : slots + 4096 ≤ 7302250) (hn : ∀ m2, Inv (c + 1) m2 → lwG E nm 1555 i m2 (cells + 4) (slots + 4096) Q) : lwG E nm 717 i m cells slots Q := by
  refine sm_aload_n (Y := lwY nm) (pc := 717) 2 1 rfl rfl dL_law_717 ?_
  refine sm_aload_n (Y := lwY nm) (pc := 718) 3 0 rfl rfl dL_law_718 ?_
  refine sm_iload_n (Y := lwY nm) (pc := 719) 0 3 rfl rfl dL_law_719 ?_
  refine sm_iconst (Y := lwY nm) (pc := 720) 1 (by decide) dL_law_720 ?_
  refine sm_iadd (Y := lwY nm) (pc := 721) dL_law_721 ?_
  refine sm_sld (Y := lwY nm) (pc := 722) (hin.1) dL_law_722 ?_
  refine sm_aload_n (Y := lwY nm) (pc := 723) 3 0 rfl rfl dL_law_723 ?_
  refine sm_iload_n (Y := lwY nm) (pc := 724) 0 3 rfl rfl dL_law_724 ?_
  refine sm_iconst (Y := lwY nm) (pc := 725) 2 (by decide) dL_law_725 ?_
  refine sm_iadd (Y := lwY nm) (pc := 726) dL_law_726 ?_
  refine sm_sld (Y := lwY nm) (pc := 727) (hin.2.1) dL_law_727 ?_
  refine sm_aload_n (Y := lwY nm) (pc := 728) 3 0 rfl rfl dL_law_728 ?_
  refine sm_iload_n (Y := lwY nm) (pc := 729) 0 3 rfl rfl dL_law_729 ?_
  refine sm_iconst (Y := lwY nm) (pc := 730) 3 (by decide) dL_law_730 ?_
  refine sm_iadd (Y := lwY nm) (pc := 731) dL_law_731 ?_
  refine sm_sld (Y := lwY nm) (pc := 732) (hin.2.2.1) dL_law_732 ?_
  refine sm_aload_n (Y := lwY nm) (pc := 733) 3 0 rfl rfl dL_law_733 ?_
  refine sm_iload_n (Y := lwY nm) (pc := 734) 0 3 rfl rfl dL_law_734 ?_
  refine sm_iconst (Y := lwY nm) (pc := 735) 4 (by decide) dL_law_735 ?_
  refine sm_iadd (Y := lwY nm) (pc := 736) dL_law_736 ?_
  refine sm_sld (Y := lwY nm) (pc := 737) (hin.2.2.2.1) dL_law_737 ?_
  refine sm_iv_I (Y := lwY nm) (pc := 738) (d' := 99) (mc' := 0) (ms' := 0) (As := [.int (E.2.2.2.2.2.2.2.2.2 (i + 1).toNatClampNeg), .int (E.2.2.2.2.2.2.2.2.2 (i + 2).toNatClampNeg), .int (E.2.2.2.2.2.2.2.2.2 (i + 3).toNatClampNeg), .int (E.2.2.2.2.2.2.2.2.2 (i + 4).toNatClampNeg)]) (a := 0) fX11_gauss wRL_72 (lk_0 lz_ly) (by decide) rfl rfl rfl (by decide) (Nat.le_of_ble_eq_true rfl) ⟨by omega, by omega⟩ dL_law_738 rfl (sm_monoI (k_gauss (d2 := 99) lz_ly (by decide) (by decide) hI) (fun r m1 q1 => ?_))
  refine sm_aload_n (Y := lwY nm) (pc := 741) 1 2 rfl rfl dL_law_741 ?_
  refine sm_aload_n (Y := lwY nm) (pc := 742) 3 0 rfl rfl dL_law_742 ?_
  refine sm_iload_n (Y := lwY nm) (pc := 743) 0 3 rfl rfl dL_law_743 ?_
  refine sm_iconst (Y := lwY nm) (pc := 744) 1 (by decide) dL_law_744 ?_
  refine sm_iadd (Y := lwY nm) (pc := 745) dL_law_745 ?_
  refine sm_sld (Y := lwY nm) (pc := 746) (hin.1) dL_law_746 ?_
  refine sm_aload_n (Y := lwY nm) (pc := 747) 3 0 rfl rfl dL_law_747 ?_
  refine sm_iload_n (Y := lwY nm) (pc := 748) 0 3 rfl rfl dL_law_748 ?_
  refine sm_iconst (Y := lwY nm) (pc := 749) 2 (by decide) dL_law_749 ?_
  refine sm_iadd (Y := lwY nm) (pc := 750) dL_law_750 ?_
  refine sm_sld (Y := lwY nm) (pc := 751) (hin.2.1) dL_law_751 ?_
  refine sm_aload_n (Y := lwY nm) (pc := 752) 3 0 rfl rfl dL_law_752 ?_
  refine sm_iload_n (Y := lwY nm) (pc := 753) 0 3 rfl rfl dL_law_753 ?_
  refine sm_iconst (Y := lwY nm) (pc := 754) 3 (by decide) dL_law_754 ?_
  refine sm_iadd (Y := lwY nm) (pc := 755) dL_law_755 ?_
  refine sm_sld (Y := lwY nm) (pc := 756) (hin.2.2.1) dL_law_756 ?_
  refine sm_aload_n (Y := lwY nm) (pc := 757) 3 0 rfl rfl dL_law_757 ?_
  refine sm_iload_n (Y := lwY nm) (pc := 758) 0 3 rfl rfl dL_law_758 ?_
  refine sm_iconst (Y := lwY nm) (pc := 759) 4 (by decide) dL_law_759 ?_
  refine sm_iadd (Y := lwY nm) (pc := 760) dL_law_760 ?_
  refine sm_sld (Y := lwY nm) (pc := 761) (hin.2.2.2.1) dL_law_761 ?_
  refine sm_iv_I (Y := lwY nm) (pc := 762) (d' := 99) (mc' := 0) (ms' := 0) (As := [.int (E.2.2.2.2.2.2.2.2.2 (i + 1).toNatClampNeg), .int (E.2.2.2.2.2.2.2.2.2 (i + 2).toNatClampNeg), .int (E.2.2.2.2.2.2.2.2.2 (i + 3).toNatClampNeg), .int (E.2.2.2.2.2.2.2.2.2 (i + 4).toNatClampNeg)]) (a := 109) fX12_gauss wRL_75 (lk_109 lz_ly) (by decide) rfl rfl rfl (by decide) (Nat.le_of_ble_eq_true rfl) ⟨by omega, by omega⟩ dL_law_762 rfl (sm_monoI q1 (fun r2 m2 q2 => ?_))
  refine sm_icmp_eq (Y := lwY nm) (pc := 765) 1555 (by decide) dL_law_765 (fun _ => ?_) (fun hne => absurd q2.1 hne)
  exact sm_widen (by omega) (by omega) (hn m2 (q2.2.up (by omega) hc))
theorem lc_14 {E : sm_E} {nm : String} {i : Int32} {m : sm_M} {c cells slots : Nat} {Q : List Frame → State → State → Prop} (hI : Inv c m) (hc : c + 1 ≤ 1000) (hin : lwI E i) (h1 : cells + 4 ≤ 600000) (h2 : slots + 4096 ≤ 7302250) (hn : ∀ m2, Inv (c + 1) m2 → lwG E nm 1555 i m2 (cells + 4) (slots + 4096) Q) : lwG E nm 770 i m cells slots Q := by
  refine sm_aload_n (Y := lwY nm) (pc := 770) 2 1 rfl rfl dL_law_770 ?_
  refine sm_aload_n (Y := lwY nm) (pc := 771) 3 0 rfl rfl dL_law_771 ?_
  refine sm_iload_n (Y := lwY nm) (pc := 772) 0 3 rfl rfl dL_law_772 ?_
  refine sm_iconst (Y := lwY nm) (pc := 773) 1 (by decide) dL_law_773 ?_
  refine sm_iadd (Y := lwY nm) (pc := 774) dL_law_774 ?_
  refine sm_sld (Y := lwY nm) (pc := 775) (hin.1) dL_law_775 ?_
  refine sm_aload_n (Y := lwY nm) (pc := 776) 3 0 rfl rfl dL_law_776 ?_
  refine sm_iload_n (Y := lwY nm) (pc := 777) 0 3 rfl rfl dL_law_777 ?_
  refine sm_iconst (Y := lwY nm) (pc := 778) 2 (by decide) dL_law_778 ?_
  refine sm_iadd (Y := lwY nm) (pc := 779) dL_law_779 ?_
  refine sm_sld (Y := lwY nm) (pc := 780) (hin.2.1) dL_law_780 ?_
  refine sm_aload_n (Y := lwY nm) (pc := 781) 3 0 rfl rfl dL_law_781 ?_
  refine sm_iload_n (Y := lwY nm) (pc := 782) 0 3 rfl rfl dL_law_782 ?_
  refine sm_iconst (Y := lwY nm) (pc := 783) 3 (by decide) dL_law_783 ?_
  refine sm_iadd (Y := lwY nm) (pc := 784) dL_law_784 ?_
  refine sm_sld (Y := lwY nm) (pc := 785) (hin.2.2.1) dL_law_785 ?_
  refine sm_iv_I (Y := lwY nm) (pc := 786) (d' := 99) (mc' := 0) (ms' := 0) (As := [.int (E.2.2.2.2.2.2.2.2.2 (i + 1).toNatClampNeg), .int (E.2.2.2.2.2.2.2.2.2 (i + 2).toNatClampNeg), .int (E.2.2.2.2.2.2.2.2.2 (i + 3).toNatClampNeg)]) (a := 0) fX11_colours wRL_76 (lk_0 lz_ly) (by decide) rfl rfl rfl (by decide) (Nat.le_of_ble_eq_true rfl) ⟨by omega, by omega⟩ dL_law_786 rfl (sm_monoI (k_colours (d2 := 99) lz_ly (fun _ _ _ hi hj hz => lz_wR28 hj hz) (by decide) (by decide) hI) (fun r m1 q1 => ?_))
  refine sm_aload_n (Y := lwY nm) (pc := 789) 1 2 rfl rfl dL_law_789 ?_
  refine sm_aload_n (Y := lwY nm) (pc := 790) 3 0 rfl rfl dL_law_790 ?_
  refine sm_iload_n (Y := lwY nm) (pc := 791) 0 3 rfl rfl dL_law_791 ?_
  refine sm_iconst (Y := lwY nm) (pc := 792) 1 (by decide) dL_law_792 ?_
  refine sm_iadd (Y := lwY nm) (pc := 793) dL_law_793 ?_
  refine sm_sld (Y := lwY nm) (pc := 794) (hin.1) dL_law_794 ?_
  refine sm_aload_n (Y := lwY nm) (pc := 795) 3 0 rfl rfl dL_law_795 ?_
  refine sm_iload_n (Y := lwY nm) (pc := 796) 0 3 rfl rfl dL_law_796 ?_
  refine sm_iconst (Y := lwY nm) (pc := 797) 2 (by decide) dL_law_797 ?_
  refine sm_iadd (Y := lwY nm) (pc := 798) dL_law_798 ?_
  refine sm_sld (Y := lwY nm) (pc := 799) (hin.2.1) dL_law_799 ?_
  refine sm_aload_n (Y := lwY nm) (pc := 800) 3 0 rfl rfl dL_law_800 ?_
  refine sm_iload_n (Y := lwY nm) (pc := 801) 0 3 rfl rfl dL_law_801 ?_
  refine sm_iconst (Y := lwY nm) (pc := 802) 3 (by decide) dL_law_802 ?_
  refine sm_iadd (Y := lwY nm) (pc := 803) dL_law_803 ?_
  refine sm_sld (Y := lwY nm) (pc := 804) (hin.2.2.1) dL_law_804 ?_
  refine sm_iv_I (Y := lwY nm) (pc := 805) (d' := 99) (mc' := 0) (ms' := 0) (As := [.int (E.2.2.2.2.2.2.2.2.2 (i + 1).toNatClampNeg), .int (E.2.2.2.2.2.2.2.2.2 (i + 2).toNatClampNeg), .int (E.2.2.2.2.2.2.2.2.2 (i + 3).toNatClampNeg)]) (a := 109) fX12_colours wRL_79 (lk_109 lz_ly) (by decide) rfl rfl rfl (by decide) (Nat.le_of_ble_eq_true rfl) ⟨by omega, by omega⟩ dL_law_805 rfl (sm_monoI q1 (fun r2 m2 q2 => ?_))
  refine sm_icmp_eq (Y := lwY nm) (pc := 808) 1555 (by decide) dL_law_808 (fun _ => ?_) (fun hne => absurd q2.1 hne)
  exact sm_widen (by omega) (by omega) (hn m2 (q2.2.up (by omega) hc))
theorem lc_15 {E : sm_E} {nm : String} {i : Int32} {m : sm_M} {c cells slots : Nat} {Q : List Frame → State → State → Prop} (hI : Inv c m) (hc : c + 1 ≤ 1000) (hin : lwI E i) (h1 : cells + 4 ≤ 600000) (h2 : slots + 4096 ≤ 7302250) (hn : ∀ m2, Inv (c + 1) m2 → lwG E nm 1555 i m2 (cells + 4) (slots + 4096) Q) : lwG E nm 813 i m cells slots Q := by
  refine sm_aload_n (Y := lwY nm) (pc := 813) 2 1 rfl rfl dL_law_813 ?_
  refine sm_aload_n (Y := lwY nm) (pc := 814) 3 0 rfl rfl dL_law_814 ?_
  refine sm_iload_n (Y := lwY nm) (pc := 815) 0 3 rfl rfl dL_law_815 ?_
  refine sm_iconst (Y := lwY nm) (pc := 816) 1 (by decide) dL_law_816 ?_
  refine sm_iadd (Y := lwY nm) (pc := 817) dL_law_817 ?_
  refine sm_sld (Y := lwY nm) (pc := 818) (hin.1) dL_law_818 ?_
  refine sm_aload_n (Y := lwY nm) (pc := 819) 3 0 rfl rfl dL_law_819 ?_
  refine sm_iload_n (Y := lwY nm) (pc := 820) 0 3 rfl rfl dL_law_820 ?_
  refine sm_iconst (Y := lwY nm) (pc := 821) 2 (by decide) dL_law_821 ?_
  refine sm_iadd (Y := lwY nm) (pc := 822) dL_law_822 ?_
  refine sm_sld (Y := lwY nm) (pc := 823) (hin.2.1) dL_law_823 ?_
  refine sm_aload_n (Y := lwY nm) (pc := 824) 3 0 rfl rfl dL_law_824 ?_
  refine sm_iload_n (Y := lwY nm) (pc := 825) 0 3 rfl rfl dL_law_825 ?_
  refine sm_iconst (Y := lwY nm) (pc := 826) 3 (by decide) dL_law_826 ?_
  refine sm_iadd (Y := lwY nm) (pc := 827) dL_law_827 ?_
  refine sm_sld (Y := lwY nm) (pc := 828) (hin.2.2.1) dL_law_828 ?_
  refine sm_iv_I (Y := lwY nm) (pc := 829) (d' := 99) (mc' := 0) (ms' := 0) (As := [.int (E.2.2.2.2.2.2.2.2.2 (i + 1).toNatClampNeg), .int (E.2.2.2.2.2.2.2.2.2 (i + 2).toNatClampNeg), .int (E.2.2.2.2.2.2.2.2.2 (i + 3).toNatClampNeg)]) (a := 0) fX11_name wRL_80 (lk_0 lz_ly) (by decide) rfl rfl rfl (by decide) (Nat.le_of_ble_eq_true rfl) ⟨by omega, by omega⟩ dL_law_829 rfl (sm_monoI (k_name (d2 := 99) lz_ly (by decide) (by decide) hI) (fun r m1 q1 => ?_))
  refine sm_aload_n (Y := lwY nm) (pc := 832) 1 2 rfl rfl dL_law_832 ?_
  refine sm_aload_n (Y := lwY nm) (pc := 833) 3 0 rfl rfl dL_law_833 ?_
  refine sm_iload_n (Y := lwY nm) (pc := 834) 0 3 rfl rfl dL_law_834 ?_
  refine sm_iconst (Y := lwY nm) (pc := 835) 1 (by decide) dL_law_835 ?_
  refine sm_iadd (Y := lwY nm) (pc := 836) dL_law_836 ?_
  refine sm_sld (Y := lwY nm) (pc := 837) (hin.1) dL_law_837 ?_
  refine sm_aload_n (Y := lwY nm) (pc := 838) 3 0 rfl rfl dL_law_838 ?_
  refine sm_iload_n (Y := lwY nm) (pc := 839) 0 3 rfl rfl dL_law_839 ?_
  refine sm_iconst (Y := lwY nm) (pc := 840) 2 (by decide) dL_law_840 ?_
  refine sm_iadd (Y := lwY nm) (pc := 841) dL_law_841 ?_
  refine sm_sld (Y := lwY nm) (pc := 842) (hin.2.1) dL_law_842 ?_
  refine sm_aload_n (Y := lwY nm) (pc := 843) 3 0 rfl rfl dL_law_843 ?_
  refine sm_iload_n (Y := lwY nm) (pc := 844) 0 3 rfl rfl dL_law_844 ?_
  refine sm_iconst (Y := lwY nm) (pc := 845) 3 (by decide) dL_law_845 ?_
  refine sm_iadd (Y := lwY nm) (pc := 846) dL_law_846 ?_
  refine sm_sld (Y := lwY nm) (pc := 847) (hin.2.2.1) dL_law_847 ?_
  refine sm_iv_I (Y := lwY nm) (pc := 848) (d' := 99) (mc' := 0) (ms' := 0) (As := [.int (E.2.2.2.2.2.2.2.2.2 (i + 1).toNatClampNeg), .int (E.2.2.2.2.2.2.2.2.2 (i + 2).toNatClampNeg), .int (E.2.2.2.2.2.2.2.2.2 (i + 3).toNatClampNeg)]) (a := 109) fX12_name wRL_83 (lk_109 lz_ly) (by decide) rfl rfl rfl (by decide) (Nat.le_of_ble_eq_true rfl) ⟨by omega, by omega⟩ dL_law_848 rfl (sm_monoI q1 (fun r2 m2 q2 => ?_))
  refine sm_icmp_eq (Y := lwY nm) (pc := 851) 1555 (by decide) dL_law_851 (fun _ => ?_) (fun hne => absurd q2.1 hne)
  exact sm_widen (by omega) (by omega) (hn m2 (q2.2.up (by omega) hc))
theorem lc_16 {E : sm_E} {nm : String} {i : Int32} {m : sm_M} {c cells slots : Nat} {Q : List Frame → State → State → Prop} (hI : Inv c m) (hc : c + 1 ≤ 1000) (hin : lwI E i) (h1 : cells + 4 ≤ 600000) (h2 : slots + 4096 ≤ 7302250) (hn : ∀ m2, Inv (c + 1) m2 → lwG E nm 1555 i m2 (cells + 4) (slots + 4096) Q) : lwG E nm 856 i m cells slots Q := by
  refine sm_aload_n (Y := lwY nm) (pc := 856) 2 1 rfl rfl dL_law_856 ?_
  refine sm_aload_n (Y := lwY nm) (pc := 857) 3 0 rfl rfl dL_law_857 ?_
  refine sm_iload_n (Y := lwY nm) (pc := 858) 0 3 rfl rfl dL_law_858 ?_
  refine sm_iconst (Y := lwY nm) (pc := 859) 1 (by decide) dL_law_859 ?_
  refine sm_iadd (Y := lwY nm) (pc := 860) dL_law_860 ?_
  refine sm_sld (Y := lwY nm) (pc := 861) (hin.1) dL_law_861 ?_
  refine sm_aload_n (Y := lwY nm) (pc := 862) 3 0 rfl rfl dL_law_862 ?_
  refine sm_iload_n (Y := lwY nm) (pc := 863) 0 3 rfl rfl dL_law_863 ?_
  refine sm_iconst (Y := lwY nm) (pc := 864) 2 (by decide) dL_law_864 ?_
  refine sm_iadd (Y := lwY nm) (pc := 865) dL_law_865 ?_
  refine sm_sld (Y := lwY nm) (pc := 866) (hin.2.1) dL_law_866 ?_
  refine sm_aload_n (Y := lwY nm) (pc := 867) 3 0 rfl rfl dL_law_867 ?_
  refine sm_iload_n (Y := lwY nm) (pc := 868) 0 3 rfl rfl dL_law_868 ?_
  refine sm_iconst (Y := lwY nm) (pc := 869) 3 (by decide) dL_law_869 ?_
  refine sm_iadd (Y := lwY nm) (pc := 870) dL_law_870 ?_
  refine sm_sld (Y := lwY nm) (pc := 871) (hin.2.2.1) dL_law_871 ?_
  refine sm_aload_n (Y := lwY nm) (pc := 872) 3 0 rfl rfl dL_law_872 ?_
  refine sm_iload_n (Y := lwY nm) (pc := 873) 0 3 rfl rfl dL_law_873 ?_
  refine sm_iconst (Y := lwY nm) (pc := 874) 4 (by decide) dL_law_874 ?_
  refine sm_iadd (Y := lwY nm) (pc := 875) dL_law_875 ?_
  refine sm_sld (Y := lwY nm) (pc := 876) (hin.2.2.2.1) dL_law_876 ?_
  refine sm_iv_I (Y := lwY nm) (pc := 877) (d' := 99) (mc' := 0) (ms' := 0) (As := [.int (E.2.2.2.2.2.2.2.2.2 (i + 1).toNatClampNeg), .int (E.2.2.2.2.2.2.2.2.2 (i + 2).toNatClampNeg), .int (E.2.2.2.2.2.2.2.2.2 (i + 3).toNatClampNeg), .int (E.2.2.2.2.2.2.2.2.2 (i + 4).toNatClampNeg)]) (a := 0) fX11_alike wRL_84 (lk_0 lz_ly) (by decide) rfl rfl rfl (by decide) (Nat.le_of_ble_eq_true rfl) ⟨by omega, by omega⟩ dL_law_877 rfl (sm_monoI (k_alike (d2 := 99) lz_ly (by decide) (by decide) hI) (fun r m1 q1 => ?_))
  refine sm_aload_n (Y := lwY nm) (pc := 880) 1 2 rfl rfl dL_law_880 ?_
  refine sm_aload_n (Y := lwY nm) (pc := 881) 3 0 rfl rfl dL_law_881 ?_
  refine sm_iload_n (Y := lwY nm) (pc := 882) 0 3 rfl rfl dL_law_882 ?_
  refine sm_iconst (Y := lwY nm) (pc := 883) 1 (by decide) dL_law_883 ?_
  refine sm_iadd (Y := lwY nm) (pc := 884) dL_law_884 ?_
  refine sm_sld (Y := lwY nm) (pc := 885) (hin.1) dL_law_885 ?_
  refine sm_aload_n (Y := lwY nm) (pc := 886) 3 0 rfl rfl dL_law_886 ?_
  refine sm_iload_n (Y := lwY nm) (pc := 887) 0 3 rfl rfl dL_law_887 ?_
  refine sm_iconst (Y := lwY nm) (pc := 888) 2 (by decide) dL_law_888 ?_
  refine sm_iadd (Y := lwY nm) (pc := 889) dL_law_889 ?_
  refine sm_sld (Y := lwY nm) (pc := 890) (hin.2.1) dL_law_890 ?_
  refine sm_aload_n (Y := lwY nm) (pc := 891) 3 0 rfl rfl dL_law_891 ?_
  refine sm_iload_n (Y := lwY nm) (pc := 892) 0 3 rfl rfl dL_law_892 ?_
  refine sm_iconst (Y := lwY nm) (pc := 893) 3 (by decide) dL_law_893 ?_
  refine sm_iadd (Y := lwY nm) (pc := 894) dL_law_894 ?_
  refine sm_sld (Y := lwY nm) (pc := 895) (hin.2.2.1) dL_law_895 ?_
  refine sm_aload_n (Y := lwY nm) (pc := 896) 3 0 rfl rfl dL_law_896 ?_
  refine sm_iload_n (Y := lwY nm) (pc := 897) 0 3 rfl rfl dL_law_897 ?_
  refine sm_iconst (Y := lwY nm) (pc := 898) 4 (by decide) dL_law_898 ?_
  refine sm_iadd (Y := lwY nm) (pc := 899) dL_law_899 ?_
  refine sm_sld (Y := lwY nm) (pc := 900) (hin.2.2.2.1) dL_law_900 ?_
  refine sm_iv_I (Y := lwY nm) (pc := 901) (d' := 99) (mc' := 0) (ms' := 0) (As := [.int (E.2.2.2.2.2.2.2.2.2 (i + 1).toNatClampNeg), .int (E.2.2.2.2.2.2.2.2.2 (i + 2).toNatClampNeg), .int (E.2.2.2.2.2.2.2.2.2 (i + 3).toNatClampNeg), .int (E.2.2.2.2.2.2.2.2.2 (i + 4).toNatClampNeg)]) (a := 109) fX12_alike wRL_87 (lk_109 lz_ly) (by decide) rfl rfl rfl (by decide) (Nat.le_of_ble_eq_true rfl) ⟨by omega, by omega⟩ dL_law_901 rfl (sm_monoI q1 (fun r2 m2 q2 => ?_))
  refine sm_icmp_eq (Y := lwY nm) (pc := 904) 1555 (by decide) dL_law_904 (fun _ => ?_) (fun hne => absurd q2.1 hne)
  exact sm_widen (by omega) (by omega) (hn m2 (q2.2.up (by omega) hc))
theorem lc_17 {E : sm_E} {nm : String} {i : Int32} {m : sm_M} {c cells slots : Nat} {Q : List Frame → State → State → Prop} (hI : Inv c m) (hc : c + 1 ≤ 1000) (hin : lwI E i) (h1 : cells + 4 ≤ 600000) (h2 : slots + 4096 ≤ 7302250) (hn : ∀ m2, Inv (c + 1) m2 → lwG E nm 1555 i m2 (cells + 4) (slots + 4096) Q) : lwG E nm 909 i m cells slots Q := by
  refine sm_aload_n (Y := lwY nm) (pc := 909) 2 1 rfl rfl dL_law_909 ?_
  refine sm_aload_n (Y := lwY nm) (pc := 910) 3 0 rfl rfl dL_law_910 ?_
  refine sm_iload_n (Y := lwY nm) (pc := 911) 0 3 rfl rfl dL_law_911 ?_
  refine sm_iconst (Y := lwY nm) (pc := 912) 1 (by decide) dL_law_912 ?_
  refine sm_iadd (Y := lwY nm) (pc := 913) dL_law_913 ?_
  refine sm_sld (Y := lwY nm) (pc := 914) (hin.1) dL_law_914 ?_
  refine sm_aload_n (Y := lwY nm) (pc := 915) 3 0 rfl rfl dL_law_915 ?_
  refine sm_iload_n (Y := lwY nm) (pc := 916) 0 3 rfl rfl dL_law_916 ?_
  refine sm_iconst (Y := lwY nm) (pc := 917) 2 (by decide) dL_law_917 ?_
  refine sm_iadd (Y := lwY nm) (pc := 918) dL_law_918 ?_
  refine sm_sld (Y := lwY nm) (pc := 919) (hin.2.1) dL_law_919 ?_
  refine sm_aload_n (Y := lwY nm) (pc := 920) 3 0 rfl rfl dL_law_920 ?_
  refine sm_iload_n (Y := lwY nm) (pc := 921) 0 3 rfl rfl dL_law_921 ?_
  refine sm_iconst (Y := lwY nm) (pc := 922) 3 (by decide) dL_law_922 ?_
  refine sm_iadd (Y := lwY nm) (pc := 923) dL_law_923 ?_
  refine sm_sld (Y := lwY nm) (pc := 924) (hin.2.2.1) dL_law_924 ?_
  refine sm_iv_I (Y := lwY nm) (pc := 925) (d' := 99) (mc' := 4) (ms' := 4096) (As := [.int (E.2.2.2.2.2.2.2.2.2 (i + 1).toNatClampNeg), .int (E.2.2.2.2.2.2.2.2.2 (i + 2).toNatClampNeg), .int (E.2.2.2.2.2.2.2.2.2 (i + 3).toNatClampNeg)]) (a := 0) fX11_listed wRL_88 (lk_0 lz_ly) (by decide) rfl rfl rfl (by decide) (Nat.le_of_ble_eq_true rfl) ⟨by omega, by omega⟩ dL_law_925 rfl (sm_monoI (k_listed (d2 := 99) (by decide) (by decide) hI) (fun r m1 q1 => ?_))
  refine sm_aload_n (Y := lwY nm) (pc := 928) 1 2 rfl rfl dL_law_928 ?_
  refine sm_aload_n (Y := lwY nm) (pc := 929) 3 0 rfl rfl dL_law_929 ?_
  refine sm_iload_n (Y := lwY nm) (pc := 930) 0 3 rfl rfl dL_law_930 ?_
  refine sm_iconst (Y := lwY nm) (pc := 931) 1 (by decide) dL_law_931 ?_
  refine sm_iadd (Y := lwY nm) (pc := 932) dL_law_932 ?_
  refine sm_sld (Y := lwY nm) (pc := 933) (hin.1) dL_law_933 ?_
  refine sm_aload_n (Y := lwY nm) (pc := 934) 3 0 rfl rfl dL_law_934 ?_
  refine sm_iload_n (Y := lwY nm) (pc := 935) 0 3 rfl rfl dL_law_935 ?_
  refine sm_iconst (Y := lwY nm) (pc := 936) 2 (by decide) dL_law_936 ?_
  refine sm_iadd (Y := lwY nm) (pc := 937) dL_law_937 ?_
  refine sm_sld (Y := lwY nm) (pc := 938) (hin.2.1) dL_law_938 ?_
  refine sm_aload_n (Y := lwY nm) (pc := 939) 3 0 rfl rfl dL_law_939 ?_
  refine sm_iload_n (Y := lwY nm) (pc := 940) 0 3 rfl rfl dL_law_940 ?_
  refine sm_iconst (Y := lwY nm) (pc := 941) 3 (by decide) dL_law_941 ?_
  refine sm_iadd (Y := lwY nm) (pc := 942) dL_law_942 ?_
  refine sm_sld (Y := lwY nm) (pc := 943) (hin.2.2.1) dL_law_943 ?_
  refine sm_iv_I (Y := lwY nm) (pc := 944) (d' := 99) (mc' := 0) (ms' := 0) (As := [.int (E.2.2.2.2.2.2.2.2.2 (i + 1).toNatClampNeg), .int (E.2.2.2.2.2.2.2.2.2 (i + 2).toNatClampNeg), .int (E.2.2.2.2.2.2.2.2.2 (i + 3).toNatClampNeg)]) (a := 109) fX12_listed wRL_91 (lk_109 lz_ly) (by decide) rfl rfl rfl (by decide) (Nat.le_of_ble_eq_true rfl) ⟨by omega, by omega⟩ dL_law_944 rfl (sm_monoI q1 (fun r2 m2 q2 => ?_))
  refine sm_icmp_eq (Y := lwY nm) (pc := 947) 1555 (by decide) dL_law_947 (fun _ => ?_) (fun hne => absurd q2.1 hne)
  exact sm_widen (by omega) (by omega) (hn m2 (q2.2.up (by omega) hc))
theorem lc_18 {E : sm_E} {nm : String} {i : Int32} {m : sm_M} {c cells slots : Nat} {Q : List Frame → State → State → Prop} (hI : Inv c m) (hc : c + 1 ≤ 1000) (hin : lwI E i) (h1 : cells + 4 ≤ 600000) (h2 : slots + 4096 ≤ 7302250) (hn : ∀ m2, Inv (c + 1) m2 → lwG E nm 1555 i m2 (cells + 4) (slots + 4096) Q) : lwG E nm 952 i m cells slots Q := by
  refine sm_aload_n (Y := lwY nm) (pc := 952) 2 1 rfl rfl dL_law_952 ?_
  refine sm_aload_n (Y := lwY nm) (pc := 953) 3 0 rfl rfl dL_law_953 ?_
  refine sm_iload_n (Y := lwY nm) (pc := 954) 0 3 rfl rfl dL_law_954 ?_
  refine sm_iconst (Y := lwY nm) (pc := 955) 1 (by decide) dL_law_955 ?_
  refine sm_iadd (Y := lwY nm) (pc := 956) dL_law_956 ?_
  refine sm_sld (Y := lwY nm) (pc := 957) (hin.1) dL_law_957 ?_
  refine sm_aload_n (Y := lwY nm) (pc := 958) 3 0 rfl rfl dL_law_958 ?_
  refine sm_iload_n (Y := lwY nm) (pc := 959) 0 3 rfl rfl dL_law_959 ?_
  refine sm_iconst (Y := lwY nm) (pc := 960) 2 (by decide) dL_law_960 ?_
  refine sm_iadd (Y := lwY nm) (pc := 961) dL_law_961 ?_
  refine sm_sld (Y := lwY nm) (pc := 962) (hin.2.1) dL_law_962 ?_
  refine sm_iv_I (Y := lwY nm) (pc := 963) (d' := 99) (mc' := 0) (ms' := 0) (As := [.int (E.2.2.2.2.2.2.2.2.2 (i + 1).toNatClampNeg), .int (E.2.2.2.2.2.2.2.2.2 (i + 2).toNatClampNeg)]) (a := 0) fX11_enter wRL_92 (lk_0 lz_ly) (by decide) rfl rfl rfl (by decide) (Nat.le_of_ble_eq_true rfl) ⟨by omega, by omega⟩ dL_law_963 rfl (sm_monoI (k_enter (d2 := 99) lz_ly (by decide) (by decide) hI hc) (fun r m1 q1 => ?_))
  refine sm_aload_n (Y := lwY nm) (pc := 966) 1 2 rfl rfl dL_law_966 ?_
  refine sm_aload_n (Y := lwY nm) (pc := 967) 3 0 rfl rfl dL_law_967 ?_
  refine sm_iload_n (Y := lwY nm) (pc := 968) 0 3 rfl rfl dL_law_968 ?_
  refine sm_iconst (Y := lwY nm) (pc := 969) 1 (by decide) dL_law_969 ?_
  refine sm_iadd (Y := lwY nm) (pc := 970) dL_law_970 ?_
  refine sm_sld (Y := lwY nm) (pc := 971) (hin.1) dL_law_971 ?_
  refine sm_aload_n (Y := lwY nm) (pc := 972) 3 0 rfl rfl dL_law_972 ?_
  refine sm_iload_n (Y := lwY nm) (pc := 973) 0 3 rfl rfl dL_law_973 ?_
  refine sm_iconst (Y := lwY nm) (pc := 974) 2 (by decide) dL_law_974 ?_
  refine sm_iadd (Y := lwY nm) (pc := 975) dL_law_975 ?_
  refine sm_sld (Y := lwY nm) (pc := 976) (hin.2.1) dL_law_976 ?_
  refine sm_iv_I (Y := lwY nm) (pc := 977) (d' := 99) (mc' := 0) (ms' := 0) (As := [.int (E.2.2.2.2.2.2.2.2.2 (i + 1).toNatClampNeg), .int (E.2.2.2.2.2.2.2.2.2 (i + 2).toNatClampNeg)]) (a := 109) fX12_enter wRL_95 (lk_109 lz_ly) (by decide) rfl rfl rfl (by decide) (Nat.le_of_ble_eq_true rfl) ⟨by omega, by omega⟩ dL_law_977 rfl (sm_monoI q1 (fun r2 m2 q2 => ?_))
  refine sm_icmp_eq (Y := lwY nm) (pc := 980) 1555 (by decide) dL_law_980 (fun _ => ?_) (fun hne => absurd q2.1 hne)
  exact sm_widen (by omega) (by omega) (hn m2 q2.2)
theorem lc_19 {E : sm_E} {nm : String} {i : Int32} {m : sm_M} {c cells slots : Nat} {Q : List Frame → State → State → Prop} (hI : Inv c m) (hc : c + 1 ≤ 1000) (hin : lwI E i) (h1 : cells + 4 ≤ 600000) (h2 : slots + 4096 ≤ 7302250) (hn : ∀ m2, Inv (c + 1) m2 → lwG E nm 1555 i m2 (cells + 4) (slots + 4096) Q) : lwG E nm 985 i m cells slots Q := by
  refine sm_aload_n (Y := lwY nm) (pc := 985) 2 1 rfl rfl dL_law_985 ?_
  refine sm_aload_n (Y := lwY nm) (pc := 986) 3 0 rfl rfl dL_law_986 ?_
  refine sm_iload_n (Y := lwY nm) (pc := 987) 0 3 rfl rfl dL_law_987 ?_
  refine sm_iconst (Y := lwY nm) (pc := 988) 1 (by decide) dL_law_988 ?_
  refine sm_iadd (Y := lwY nm) (pc := 989) dL_law_989 ?_
  refine sm_sld (Y := lwY nm) (pc := 990) (hin.1) dL_law_990 ?_
  refine sm_aload_n (Y := lwY nm) (pc := 991) 3 0 rfl rfl dL_law_991 ?_
  refine sm_iload_n (Y := lwY nm) (pc := 992) 0 3 rfl rfl dL_law_992 ?_
  refine sm_iconst (Y := lwY nm) (pc := 993) 2 (by decide) dL_law_993 ?_
  refine sm_iadd (Y := lwY nm) (pc := 994) dL_law_994 ?_
  refine sm_sld (Y := lwY nm) (pc := 995) (hin.2.1) dL_law_995 ?_
  refine sm_iv_I (Y := lwY nm) (pc := 996) (d' := 99) (mc' := 0) (ms' := 0) (As := [.int (E.2.2.2.2.2.2.2.2.2 (i + 1).toNatClampNeg), .int (E.2.2.2.2.2.2.2.2.2 (i + 2).toNatClampNeg)]) (a := 0) fX11_book wRL_96 (lk_0 lz_ly) (by decide) rfl rfl rfl (by decide) (Nat.le_of_ble_eq_true rfl) ⟨by omega, by omega⟩ dL_law_996 rfl (sm_monoI (k_book (d2 := 99) lz_ly (by decide) (by decide) hI) (fun r m1 q1 => ?_))
  refine sm_aload_n (Y := lwY nm) (pc := 999) 1 2 rfl rfl dL_law_999 ?_
  refine sm_aload_n (Y := lwY nm) (pc := 1000) 3 0 rfl rfl dL_law_1000 ?_
  refine sm_iload_n (Y := lwY nm) (pc := 1001) 0 3 rfl rfl dL_law_1001 ?_
  refine sm_iconst (Y := lwY nm) (pc := 1002) 1 (by decide) dL_law_1002 ?_
  refine sm_iadd (Y := lwY nm) (pc := 1003) dL_law_1003 ?_
  refine sm_sld (Y := lwY nm) (pc := 1004) (hin.1) dL_law_1004 ?_
  refine sm_aload_n (Y := lwY nm) (pc := 1005) 3 0 rfl rfl dL_law_1005 ?_
  refine sm_iload_n (Y := lwY nm) (pc := 1006) 0 3 rfl rfl dL_law_1006 ?_
  refine sm_iconst (Y := lwY nm) (pc := 1007) 2 (by decide) dL_law_1007 ?_
  refine sm_iadd (Y := lwY nm) (pc := 1008) dL_law_1008 ?_
  refine sm_sld (Y := lwY nm) (pc := 1009) (hin.2.1) dL_law_1009 ?_
  refine sm_iv_I (Y := lwY nm) (pc := 1010) (d' := 99) (mc' := 0) (ms' := 0) (As := [.int (E.2.2.2.2.2.2.2.2.2 (i + 1).toNatClampNeg), .int (E.2.2.2.2.2.2.2.2.2 (i + 2).toNatClampNeg)]) (a := 109) fX12_book wRL_99 (lk_109 lz_ly) (by decide) rfl rfl rfl (by decide) (Nat.le_of_ble_eq_true rfl) ⟨by omega, by omega⟩ dL_law_1010 rfl (sm_monoI q1 (fun r2 m2 q2 => ?_))
  refine sm_icmp_eq (Y := lwY nm) (pc := 1013) 1555 (by decide) dL_law_1013 (fun _ => ?_) (fun hne => absurd q2.1 hne)
  exact sm_widen (by omega) (by omega) (hn m2 (q2.2.up (by omega) hc))
theorem lc_20 {E : sm_E} {nm : String} {i : Int32} {m : sm_M} {c cells slots : Nat} {Q : List Frame → State → State → Prop} (hI : Inv c m) (hc : c + 1 ≤ 1000) (hin : lwI E i) (h1 : cells + 4 ≤ 600000) (h2 : slots + 4096 ≤ 7302250) (hn : ∀ m2, Inv (c + 1) m2 → lwG E nm 1555 i m2 (cells + 4) (slots + 4096) Q) : lwG E nm 1018 i m cells slots Q := by
  refine sm_aload_n (Y := lwY nm) (pc := 1018) 2 1 rfl rfl dL_law_1018 ?_
  refine sm_aload_n (Y := lwY nm) (pc := 1019) 3 0 rfl rfl dL_law_1019 ?_
  refine sm_iload_n (Y := lwY nm) (pc := 1020) 0 3 rfl rfl dL_law_1020 ?_
  refine sm_iconst (Y := lwY nm) (pc := 1021) 1 (by decide) dL_law_1021 ?_
  refine sm_iadd (Y := lwY nm) (pc := 1022) dL_law_1022 ?_
  refine sm_sld (Y := lwY nm) (pc := 1023) (hin.1) dL_law_1023 ?_
  refine sm_aload_n (Y := lwY nm) (pc := 1024) 3 0 rfl rfl dL_law_1024 ?_
  refine sm_iload_n (Y := lwY nm) (pc := 1025) 0 3 rfl rfl dL_law_1025 ?_
  refine sm_iconst (Y := lwY nm) (pc := 1026) 2 (by decide) dL_law_1026 ?_
  refine sm_iadd (Y := lwY nm) (pc := 1027) dL_law_1027 ?_
  refine sm_sld (Y := lwY nm) (pc := 1028) (hin.2.1) dL_law_1028 ?_
  refine sm_iv_I (Y := lwY nm) (pc := 1029) (d' := 99) (mc' := 0) (ms' := 0) (As := [.int (E.2.2.2.2.2.2.2.2.2 (i + 1).toNatClampNeg), .int (E.2.2.2.2.2.2.2.2.2 (i + 2).toNatClampNeg)]) (a := 0) fX11_ranked wRL_100 (lk_0 lz_ly) (by decide) rfl rfl rfl (by decide) (Nat.le_of_ble_eq_true rfl) ⟨by omega, by omega⟩ dL_law_1029 rfl (sm_monoI (k_ranked (d2 := 99) lz_ly (by decide) (by decide) hI) (fun r m1 q1 => ?_))
  refine sm_aload_n (Y := lwY nm) (pc := 1032) 1 2 rfl rfl dL_law_1032 ?_
  refine sm_aload_n (Y := lwY nm) (pc := 1033) 3 0 rfl rfl dL_law_1033 ?_
  refine sm_iload_n (Y := lwY nm) (pc := 1034) 0 3 rfl rfl dL_law_1034 ?_
  refine sm_iconst (Y := lwY nm) (pc := 1035) 1 (by decide) dL_law_1035 ?_
  refine sm_iadd (Y := lwY nm) (pc := 1036) dL_law_1036 ?_
  refine sm_sld (Y := lwY nm) (pc := 1037) (hin.1) dL_law_1037 ?_
  refine sm_aload_n (Y := lwY nm) (pc := 1038) 3 0 rfl rfl dL_law_1038 ?_
  refine sm_iload_n (Y := lwY nm) (pc := 1039) 0 3 rfl rfl dL_law_1039 ?_
  refine sm_iconst (Y := lwY nm) (pc := 1040) 2 (by decide) dL_law_1040 ?_
  refine sm_iadd (Y := lwY nm) (pc := 1041) dL_law_1041 ?_
  refine sm_sld (Y := lwY nm) (pc := 1042) (hin.2.1) dL_law_1042 ?_
  refine sm_iv_I (Y := lwY nm) (pc := 1043) (d' := 99) (mc' := 0) (ms' := 0) (As := [.int (E.2.2.2.2.2.2.2.2.2 (i + 1).toNatClampNeg), .int (E.2.2.2.2.2.2.2.2.2 (i + 2).toNatClampNeg)]) (a := 109) fX12_ranked wRL_103 (lk_109 lz_ly) (by decide) rfl rfl rfl (by decide) (Nat.le_of_ble_eq_true rfl) ⟨by omega, by omega⟩ dL_law_1043 rfl (sm_monoI q1 (fun r2 m2 q2 => ?_))
  refine sm_icmp_eq (Y := lwY nm) (pc := 1046) 1555 (by decide) dL_law_1046 (fun _ => ?_) (fun hne => absurd q2.1 hne)
  exact sm_widen (by omega) (by omega) (hn m2 (q2.2.up (by omega) hc))
theorem lc_21 {E : sm_E} {nm : String} {i : Int32} {m : sm_M} {c cells slots : Nat} {Q : List Frame → State → State → Prop} (hI : Inv c m) (hc : c + 1 ≤ 1000) (hin : lwI E i) (h1 : cells + 4 ≤ 600000) (h2 : slots + 4096 ≤ 7302250) (hn : ∀ m2, Inv (c + 1) m2 → lwG E nm 1555 i m2 (cells + 4) (slots + 4096) Q) : lwG E nm 1051 i m cells slots Q := by
  refine sm_aload_n (Y := lwY nm) (pc := 1051) 2 1 rfl rfl dL_law_1051 ?_
  refine sm_aload_n (Y := lwY nm) (pc := 1052) 3 0 rfl rfl dL_law_1052 ?_
  refine sm_iload_n (Y := lwY nm) (pc := 1053) 0 3 rfl rfl dL_law_1053 ?_
  refine sm_iconst (Y := lwY nm) (pc := 1054) 1 (by decide) dL_law_1054 ?_
  refine sm_iadd (Y := lwY nm) (pc := 1055) dL_law_1055 ?_
  refine sm_sld (Y := lwY nm) (pc := 1056) (hin.1) dL_law_1056 ?_
  refine sm_aload_n (Y := lwY nm) (pc := 1057) 3 0 rfl rfl dL_law_1057 ?_
  refine sm_iload_n (Y := lwY nm) (pc := 1058) 0 3 rfl rfl dL_law_1058 ?_
  refine sm_iconst (Y := lwY nm) (pc := 1059) 2 (by decide) dL_law_1059 ?_
  refine sm_iadd (Y := lwY nm) (pc := 1060) dL_law_1060 ?_
  refine sm_sld (Y := lwY nm) (pc := 1061) (hin.2.1) dL_law_1061 ?_
  refine sm_iv_I (Y := lwY nm) (pc := 1062) (d' := 99) (mc' := 0) (ms' := 0) (As := [.int (E.2.2.2.2.2.2.2.2.2 (i + 1).toNatClampNeg), .int (E.2.2.2.2.2.2.2.2.2 (i + 2).toNatClampNeg)]) (a := 0) fX11_entered wRL_104 (lk_0 lz_ly) (by decide) rfl rfl rfl (by decide) (Nat.le_of_ble_eq_true rfl) ⟨by omega, by omega⟩ dL_law_1062 rfl (sm_monoI (k_entered (d2 := 99) lz_ly (by decide) (by decide) hI) (fun r m1 q1 => ?_))
  refine sm_aload_n (Y := lwY nm) (pc := 1065) 1 2 rfl rfl dL_law_1065 ?_
  refine sm_aload_n (Y := lwY nm) (pc := 1066) 3 0 rfl rfl dL_law_1066 ?_
  refine sm_iload_n (Y := lwY nm) (pc := 1067) 0 3 rfl rfl dL_law_1067 ?_
  refine sm_iconst (Y := lwY nm) (pc := 1068) 1 (by decide) dL_law_1068 ?_
  refine sm_iadd (Y := lwY nm) (pc := 1069) dL_law_1069 ?_
  refine sm_sld (Y := lwY nm) (pc := 1070) (hin.1) dL_law_1070 ?_
  refine sm_aload_n (Y := lwY nm) (pc := 1071) 3 0 rfl rfl dL_law_1071 ?_
  refine sm_iload_n (Y := lwY nm) (pc := 1072) 0 3 rfl rfl dL_law_1072 ?_
  refine sm_iconst (Y := lwY nm) (pc := 1073) 2 (by decide) dL_law_1073 ?_
  refine sm_iadd (Y := lwY nm) (pc := 1074) dL_law_1074 ?_
  refine sm_sld (Y := lwY nm) (pc := 1075) (hin.2.1) dL_law_1075 ?_
  refine sm_iv_I (Y := lwY nm) (pc := 1076) (d' := 99) (mc' := 0) (ms' := 0) (As := [.int (E.2.2.2.2.2.2.2.2.2 (i + 1).toNatClampNeg), .int (E.2.2.2.2.2.2.2.2.2 (i + 2).toNatClampNeg)]) (a := 109) fX12_entered wRL_107 (lk_109 lz_ly) (by decide) rfl rfl rfl (by decide) (Nat.le_of_ble_eq_true rfl) ⟨by omega, by omega⟩ dL_law_1076 rfl (sm_monoI q1 (fun r2 m2 q2 => ?_))
  refine sm_icmp_eq (Y := lwY nm) (pc := 1079) 1555 (by decide) dL_law_1079 (fun _ => ?_) (fun hne => absurd q2.1 hne)
  exact sm_widen (by omega) (by omega) (hn m2 (q2.2.up (by omega) hc))
theorem lc_22 {E : sm_E} {nm : String} {i : Int32} {m : sm_M} {c cells slots : Nat} {Q : List Frame → State → State → Prop} (hI : Inv c m) (hc : c + 1 ≤ 1000) (hin : lwI E i) (h1 : cells + 4 ≤ 600000) (h2 : slots + 4096 ≤ 7302250) (hn : ∀ m2, Inv (c + 1) m2 → lwG E nm 1555 i m2 (cells + 4) (slots + 4096) Q) : lwG E nm 1084 i m cells slots Q := by
  refine sm_aload_n (Y := lwY nm) (pc := 1084) 2 1 rfl rfl dL_law_1084 ?_
  refine sm_aload_n (Y := lwY nm) (pc := 1085) 3 0 rfl rfl dL_law_1085 ?_
  refine sm_iload_n (Y := lwY nm) (pc := 1086) 0 3 rfl rfl dL_law_1086 ?_
  refine sm_iconst (Y := lwY nm) (pc := 1087) 1 (by decide) dL_law_1087 ?_
  refine sm_iadd (Y := lwY nm) (pc := 1088) dL_law_1088 ?_
  refine sm_sld (Y := lwY nm) (pc := 1089) (hin.1) dL_law_1089 ?_
  refine sm_aload_n (Y := lwY nm) (pc := 1090) 3 0 rfl rfl dL_law_1090 ?_
  refine sm_iload_n (Y := lwY nm) (pc := 1091) 0 3 rfl rfl dL_law_1091 ?_
  refine sm_iconst (Y := lwY nm) (pc := 1092) 2 (by decide) dL_law_1092 ?_
  refine sm_iadd (Y := lwY nm) (pc := 1093) dL_law_1093 ?_
  refine sm_sld (Y := lwY nm) (pc := 1094) (hin.2.1) dL_law_1094 ?_
  refine sm_aload_n (Y := lwY nm) (pc := 1095) 3 0 rfl rfl dL_law_1095 ?_
  refine sm_iload_n (Y := lwY nm) (pc := 1096) 0 3 rfl rfl dL_law_1096 ?_
  refine sm_iconst (Y := lwY nm) (pc := 1097) 3 (by decide) dL_law_1097 ?_
  refine sm_iadd (Y := lwY nm) (pc := 1098) dL_law_1098 ?_
  refine sm_sld (Y := lwY nm) (pc := 1099) (hin.2.2.1) dL_law_1099 ?_
  refine sm_iv_I (Y := lwY nm) (pc := 1100) (d' := 99) (mc' := 0) (ms' := 0) (As := [.int (E.2.2.2.2.2.2.2.2.2 (i + 1).toNatClampNeg), .int (E.2.2.2.2.2.2.2.2.2 (i + 2).toNatClampNeg), .int (E.2.2.2.2.2.2.2.2.2 (i + 3).toNatClampNeg)]) (a := 0) fX11_sheet wRL_108 (lk_0 lz_ly) (by decide) rfl rfl rfl (by decide) (Nat.le_of_ble_eq_true rfl) ⟨by omega, by omega⟩ dL_law_1100 rfl (sm_monoI (k_sheet (d2 := 99) lz_ly (by decide) (by decide) hI) (fun r m1 q1 => ?_))
  refine sm_aload_n (Y := lwY nm) (pc := 1103) 1 2 rfl rfl dL_law_1103 ?_
  refine sm_aload_n (Y := lwY nm) (pc := 1104) 3 0 rfl rfl dL_law_1104 ?_
  refine sm_iload_n (Y := lwY nm) (pc := 1105) 0 3 rfl rfl dL_law_1105 ?_
  refine sm_iconst (Y := lwY nm) (pc := 1106) 1 (by decide) dL_law_1106 ?_
  refine sm_iadd (Y := lwY nm) (pc := 1107) dL_law_1107 ?_
  refine sm_sld (Y := lwY nm) (pc := 1108) (hin.1) dL_law_1108 ?_
  refine sm_aload_n (Y := lwY nm) (pc := 1109) 3 0 rfl rfl dL_law_1109 ?_
  refine sm_iload_n (Y := lwY nm) (pc := 1110) 0 3 rfl rfl dL_law_1110 ?_
  refine sm_iconst (Y := lwY nm) (pc := 1111) 2 (by decide) dL_law_1111 ?_
  refine sm_iadd (Y := lwY nm) (pc := 1112) dL_law_1112 ?_
  refine sm_sld (Y := lwY nm) (pc := 1113) (hin.2.1) dL_law_1113 ?_
  refine sm_aload_n (Y := lwY nm) (pc := 1114) 3 0 rfl rfl dL_law_1114 ?_
  refine sm_iload_n (Y := lwY nm) (pc := 1115) 0 3 rfl rfl dL_law_1115 ?_
  refine sm_iconst (Y := lwY nm) (pc := 1116) 3 (by decide) dL_law_1116 ?_
  refine sm_iadd (Y := lwY nm) (pc := 1117) dL_law_1117 ?_
  refine sm_sld (Y := lwY nm) (pc := 1118) (hin.2.2.1) dL_law_1118 ?_
  refine sm_iv_I (Y := lwY nm) (pc := 1119) (d' := 99) (mc' := 0) (ms' := 0) (As := [.int (E.2.2.2.2.2.2.2.2.2 (i + 1).toNatClampNeg), .int (E.2.2.2.2.2.2.2.2.2 (i + 2).toNatClampNeg), .int (E.2.2.2.2.2.2.2.2.2 (i + 3).toNatClampNeg)]) (a := 109) fX12_sheet wRL_111 (lk_109 lz_ly) (by decide) rfl rfl rfl (by decide) (Nat.le_of_ble_eq_true rfl) ⟨by omega, by omega⟩ dL_law_1119 rfl (sm_monoI q1 (fun r2 m2 q2 => ?_))
  refine sm_icmp_eq (Y := lwY nm) (pc := 1122) 1555 (by decide) dL_law_1122 (fun _ => ?_) (fun hne => absurd q2.1 hne)
  exact sm_widen (by omega) (by omega) (hn m2 (q2.2.up (by omega) hc))
theorem lc_23 {E : sm_E} {nm : String} {i : Int32} {m : sm_M} {c cells slots : Nat} {Q : List Frame → State → State → Prop} (hI : Inv c m) (hc : c + 1 ≤ 1000) (hin : lwI E i) (h1 : cells + 4 ≤ 600000) (h2 : slots + 4096 ≤ 7302250) (hn : ∀ m2, Inv (c + 1) m2 → lwG E nm 1555 i m2 (cells + 4) (slots + 4096) Q) : lwG E nm 1127 i m cells slots Q := by
  refine sm_aload_n (Y := lwY nm) (pc := 1127) 2 1 rfl rfl dL_law_1127 ?_
  refine sm_aload_n (Y := lwY nm) (pc := 1128) 3 0 rfl rfl dL_law_1128 ?_
  refine sm_iload_n (Y := lwY nm) (pc := 1129) 0 3 rfl rfl dL_law_1129 ?_
  refine sm_iconst (Y := lwY nm) (pc := 1130) 1 (by decide) dL_law_1130 ?_
  refine sm_iadd (Y := lwY nm) (pc := 1131) dL_law_1131 ?_
  refine sm_sld (Y := lwY nm) (pc := 1132) (hin.1) dL_law_1132 ?_
  refine sm_aload_n (Y := lwY nm) (pc := 1133) 3 0 rfl rfl dL_law_1133 ?_
  refine sm_iload_n (Y := lwY nm) (pc := 1134) 0 3 rfl rfl dL_law_1134 ?_
  refine sm_iconst (Y := lwY nm) (pc := 1135) 2 (by decide) dL_law_1135 ?_
  refine sm_iadd (Y := lwY nm) (pc := 1136) dL_law_1136 ?_
  refine sm_sld (Y := lwY nm) (pc := 1137) (hin.2.1) dL_law_1137 ?_
  refine sm_aload_n (Y := lwY nm) (pc := 1138) 3 0 rfl rfl dL_law_1138 ?_
  refine sm_iload_n (Y := lwY nm) (pc := 1139) 0 3 rfl rfl dL_law_1139 ?_
  refine sm_iconst (Y := lwY nm) (pc := 1140) 3 (by decide) dL_law_1140 ?_
  refine sm_iadd (Y := lwY nm) (pc := 1141) dL_law_1141 ?_
  refine sm_sld (Y := lwY nm) (pc := 1142) (hin.2.2.1) dL_law_1142 ?_
  refine sm_i2l (Y := lwY nm) (pc := 1143) dL_law_1143 ?_
  refine sm_bipush (Y := lwY nm) (pc := 1144) 32 (by decide) dL_law_1144 ?_
  refine sm_lshl (Y := lwY nm) (pc := 1146) dL_law_1146 ?_
  refine sm_aload_n (Y := lwY nm) (pc := 1147) 3 0 rfl rfl dL_law_1147 ?_
  refine sm_iload_n (Y := lwY nm) (pc := 1148) 0 3 rfl rfl dL_law_1148 ?_
  refine sm_iconst (Y := lwY nm) (pc := 1149) 4 (by decide) dL_law_1149 ?_
  refine sm_iadd (Y := lwY nm) (pc := 1150) dL_law_1150 ?_
  refine sm_sld (Y := lwY nm) (pc := 1151) (hin.2.2.2.1) dL_law_1151 ?_
  refine sm_i2l (Y := lwY nm) (pc := 1152) dL_law_1152 ?_
  refine sm_ldc2_w (Y := lwY nm) (pc := 1153) 4294967295 wRL_31 dL_law_1153 ?_
  refine sm_land (Y := lwY nm) (pc := 1156) dL_law_1156 ?_
  refine sm_lor (Y := lwY nm) (pc := 1157) dL_law_1157 ?_
  refine sm_iv_I (Y := lwY nm) (pc := 1158) (d' := 99) (mc' := 0) (ms' := 0) (As := [.int (E.2.2.2.2.2.2.2.2.2 (i + 1).toNatClampNeg), .int (E.2.2.2.2.2.2.2.2.2 (i + 2).toNatClampNeg), .long ((((E.2.2.2.2.2.2.2.2.2 (i + 3).toNatClampNeg).toInt64) <<< ((32 : Int32).toInt64 &&& 63)) ||| (((E.2.2.2.2.2.2.2.2.2 (i + 4).toNatClampNeg).toInt64) &&& (4294967295)))]) (a := 0) fX11_put wRL_112 (lk_0 lz_ly) (by decide) rfl rfl rfl (by decide) (Nat.le_of_ble_eq_true rfl) ⟨by omega, by omega⟩ dL_law_1158 rfl (sm_monoI (k_put (d2 := 99) lz_ly (by decide) (by decide) hI) (fun r m1 q1 => ?_))
  refine sm_aload_n (Y := lwY nm) (pc := 1161) 1 2 rfl rfl dL_law_1161 ?_
  refine sm_aload_n (Y := lwY nm) (pc := 1162) 3 0 rfl rfl dL_law_1162 ?_
  refine sm_iload_n (Y := lwY nm) (pc := 1163) 0 3 rfl rfl dL_law_1163 ?_
  refine sm_iconst (Y := lwY nm) (pc := 1164) 1 (by decide) dL_law_1164 ?_
  refine sm_iadd (Y := lwY nm) (pc := 1165) dL_law_1165 ?_
  refine sm_sld (Y := lwY nm) (pc := 1166) (hin.1) dL_law_1166 ?_
  refine sm_aload_n (Y := lwY nm) (pc := 1167) 3 0 rfl rfl dL_law_1167 ?_
  refine sm_iload_n (Y := lwY nm) (pc := 1168) 0 3 rfl rfl dL_law_1168 ?_
  refine sm_iconst (Y := lwY nm) (pc := 1169) 2 (by decide) dL_law_1169 ?_
  refine sm_iadd (Y := lwY nm) (pc := 1170) dL_law_1170 ?_
  refine sm_sld (Y := lwY nm) (pc := 1171) (hin.2.1) dL_law_1171 ?_
  refine sm_aload_n (Y := lwY nm) (pc := 1172) 3 0 rfl rfl dL_law_1172 ?_
  refine sm_iload_n (Y := lwY nm) (pc := 1173) 0 3 rfl rfl dL_law_1173 ?_
  refine sm_iconst (Y := lwY nm) (pc := 1174) 3 (by decide) dL_law_1174 ?_
  refine sm_iadd (Y := lwY nm) (pc := 1175) dL_law_1175 ?_
  refine sm_sld (Y := lwY nm) (pc := 1176) (hin.2.2.1) dL_law_1176 ?_
  refine sm_i2l (Y := lwY nm) (pc := 1177) dL_law_1177 ?_
  refine sm_bipush (Y := lwY nm) (pc := 1178) 32 (by decide) dL_law_1178 ?_
  refine sm_lshl (Y := lwY nm) (pc := 1180) dL_law_1180 ?_
  refine sm_aload_n (Y := lwY nm) (pc := 1181) 3 0 rfl rfl dL_law_1181 ?_
  refine sm_iload_n (Y := lwY nm) (pc := 1182) 0 3 rfl rfl dL_law_1182 ?_
  refine sm_iconst (Y := lwY nm) (pc := 1183) 4 (by decide) dL_law_1183 ?_
  refine sm_iadd (Y := lwY nm) (pc := 1184) dL_law_1184 ?_
  refine sm_sld (Y := lwY nm) (pc := 1185) (hin.2.2.2.1) dL_law_1185 ?_
  refine sm_i2l (Y := lwY nm) (pc := 1186) dL_law_1186 ?_
  refine sm_ldc2_w (Y := lwY nm) (pc := 1187) 4294967295 wRL_31 dL_law_1187 ?_
  refine sm_land (Y := lwY nm) (pc := 1190) dL_law_1190 ?_
  refine sm_lor (Y := lwY nm) (pc := 1191) dL_law_1191 ?_
  refine sm_iv_I (Y := lwY nm) (pc := 1192) (d' := 99) (mc' := 0) (ms' := 0) (As := [.int (E.2.2.2.2.2.2.2.2.2 (i + 1).toNatClampNeg), .int (E.2.2.2.2.2.2.2.2.2 (i + 2).toNatClampNeg), .long ((((E.2.2.2.2.2.2.2.2.2 (i + 3).toNatClampNeg).toInt64) <<< ((32 : Int32).toInt64 &&& 63)) ||| (((E.2.2.2.2.2.2.2.2.2 (i + 4).toNatClampNeg).toInt64) &&& (4294967295)))]) (a := 109) fX12_put wRL_116 (lk_109 lz_ly) (by decide) rfl rfl rfl (by decide) (Nat.le_of_ble_eq_true rfl) ⟨by omega, by omega⟩ dL_law_1192 rfl (sm_monoI q1 (fun r2 m2 q2 => ?_))
  refine sm_icmp_eq (Y := lwY nm) (pc := 1195) 1555 (by decide) dL_law_1195 (fun _ => ?_) (fun hne => absurd q2.1 hne)
  exact sm_widen (by omega) (by omega) (hn m2 (q2.2.up (by omega) hc))
theorem lc_24 {E : sm_E} {nm : String} {i : Int32} {m : sm_M} {c cells slots : Nat} {Q : List Frame → State → State → Prop} (hI : Inv c m) (hc : c + 1 ≤ 1000) (hin : lwI E i) (h1 : cells + 4 ≤ 600000) (h2 : slots + 4096 ≤ 7302250) (hn : ∀ m2, Inv (c + 1) m2 → lwG E nm 1555 i m2 (cells + 4) (slots + 4096) Q) : lwG E nm 1200 i m cells slots Q := by
  refine sm_aload_n (Y := lwY nm) (pc := 1200) 2 1 rfl rfl dL_law_1200 ?_
  refine sm_aload_n (Y := lwY nm) (pc := 1201) 3 0 rfl rfl dL_law_1201 ?_
  refine sm_iload_n (Y := lwY nm) (pc := 1202) 0 3 rfl rfl dL_law_1202 ?_
  refine sm_iconst (Y := lwY nm) (pc := 1203) 1 (by decide) dL_law_1203 ?_
  refine sm_iadd (Y := lwY nm) (pc := 1204) dL_law_1204 ?_
  refine sm_sld (Y := lwY nm) (pc := 1205) (hin.1) dL_law_1205 ?_
  refine sm_aload_n (Y := lwY nm) (pc := 1206) 3 0 rfl rfl dL_law_1206 ?_
  refine sm_iload_n (Y := lwY nm) (pc := 1207) 0 3 rfl rfl dL_law_1207 ?_
  refine sm_iconst (Y := lwY nm) (pc := 1208) 2 (by decide) dL_law_1208 ?_
  refine sm_iadd (Y := lwY nm) (pc := 1209) dL_law_1209 ?_
  refine sm_sld (Y := lwY nm) (pc := 1210) (hin.2.1) dL_law_1210 ?_
  refine sm_iv_J (Y := lwY nm) (pc := 1211) (d' := 99) (mc' := 0) (ms' := 0) (As := [.int (E.2.2.2.2.2.2.2.2.2 (i + 1).toNatClampNeg), .int (E.2.2.2.2.2.2.2.2.2 (i + 2).toNatClampNeg)]) (a := 0) fX11_of wRL_117 (lk_0 lz_ly) (by decide) rfl rfl rfl (by decide) (Nat.le_of_ble_eq_true rfl) ⟨by omega, by omega⟩ dL_law_1211 rfl (sm_monoJ (k_of (d2 := 99) lz_ly (by decide) (by decide) hI) (fun r m1 q1 => ?_))
  refine sm_aload_n (Y := lwY nm) (pc := 1214) 1 2 rfl rfl dL_law_1214 ?_
  refine sm_aload_n (Y := lwY nm) (pc := 1215) 3 0 rfl rfl dL_law_1215 ?_
  refine sm_iload_n (Y := lwY nm) (pc := 1216) 0 3 rfl rfl dL_law_1216 ?_
  refine sm_iconst (Y := lwY nm) (pc := 1217) 1 (by decide) dL_law_1217 ?_
  refine sm_iadd (Y := lwY nm) (pc := 1218) dL_law_1218 ?_
  refine sm_sld (Y := lwY nm) (pc := 1219) (hin.1) dL_law_1219 ?_
  refine sm_aload_n (Y := lwY nm) (pc := 1220) 3 0 rfl rfl dL_law_1220 ?_
  refine sm_iload_n (Y := lwY nm) (pc := 1221) 0 3 rfl rfl dL_law_1221 ?_
  refine sm_iconst (Y := lwY nm) (pc := 1222) 2 (by decide) dL_law_1222 ?_
  refine sm_iadd (Y := lwY nm) (pc := 1223) dL_law_1223 ?_
  refine sm_sld (Y := lwY nm) (pc := 1224) (hin.2.1) dL_law_1224 ?_
  refine sm_iv_J (Y := lwY nm) (pc := 1225) (d' := 99) (mc' := 0) (ms' := 0) (As := [.int (E.2.2.2.2.2.2.2.2.2 (i + 1).toNatClampNeg), .int (E.2.2.2.2.2.2.2.2.2 (i + 2).toNatClampNeg)]) (a := 109) fX12_of wRL_121 (lk_109 lz_ly) (by decide) rfl rfl rfl (by decide) (Nat.le_of_ble_eq_true rfl) ⟨by omega, by omega⟩ dL_law_1225 rfl (sm_monoJ q1 (fun r2 m2 q2 => ?_))
  refine sm_lif_eq (Y := lwY nm) (pc := 1228) 1555 (by decide) dL_law_1228 dL_law_1229 (fun _ => ?_) (fun hne => absurd q2.1 hne)
  exact sm_widen (by omega) (by omega) (hn m2 (q2.2.up (by omega) hc))
theorem lc_25 {E : sm_E} {nm : String} {i : Int32} {m : sm_M} {c cells slots : Nat} {Q : List Frame → State → State → Prop} (hI : Inv c m) (hc : c + 1 ≤ 1000) (hin : lwI E i) (h1 : cells + 4 ≤ 600000) (h2 : slots + 4096 ≤ 7302250) (hn : ∀ m2, Inv (c + 1) m2 → lwG E nm 1555 i m2 (cells + 4) (slots + 4096) Q) : lwG E nm 1234 i m cells slots Q := by
  refine sm_aload_n (Y := lwY nm) (pc := 1234) 2 1 rfl rfl dL_law_1234 ?_
  refine sm_aload_n (Y := lwY nm) (pc := 1235) 3 0 rfl rfl dL_law_1235 ?_
  refine sm_iload_n (Y := lwY nm) (pc := 1236) 0 3 rfl rfl dL_law_1236 ?_
  refine sm_iconst (Y := lwY nm) (pc := 1237) 1 (by decide) dL_law_1237 ?_
  refine sm_iadd (Y := lwY nm) (pc := 1238) dL_law_1238 ?_
  refine sm_sld (Y := lwY nm) (pc := 1239) (hin.1) dL_law_1239 ?_
  refine sm_aload_n (Y := lwY nm) (pc := 1240) 3 0 rfl rfl dL_law_1240 ?_
  refine sm_iload_n (Y := lwY nm) (pc := 1241) 0 3 rfl rfl dL_law_1241 ?_
  refine sm_iconst (Y := lwY nm) (pc := 1242) 2 (by decide) dL_law_1242 ?_
  refine sm_iadd (Y := lwY nm) (pc := 1243) dL_law_1243 ?_
  refine sm_sld (Y := lwY nm) (pc := 1244) (hin.2.1) dL_law_1244 ?_
  refine sm_aload_n (Y := lwY nm) (pc := 1245) 3 0 rfl rfl dL_law_1245 ?_
  refine sm_iload_n (Y := lwY nm) (pc := 1246) 0 3 rfl rfl dL_law_1246 ?_
  refine sm_iconst (Y := lwY nm) (pc := 1247) 3 (by decide) dL_law_1247 ?_
  refine sm_iadd (Y := lwY nm) (pc := 1248) dL_law_1248 ?_
  refine sm_sld (Y := lwY nm) (pc := 1249) (hin.2.2.1) dL_law_1249 ?_
  refine sm_aload_n (Y := lwY nm) (pc := 1250) 3 0 rfl rfl dL_law_1250 ?_
  refine sm_iload_n (Y := lwY nm) (pc := 1251) 0 3 rfl rfl dL_law_1251 ?_
  refine sm_iconst (Y := lwY nm) (pc := 1252) 4 (by decide) dL_law_1252 ?_
  refine sm_iadd (Y := lwY nm) (pc := 1253) dL_law_1253 ?_
  refine sm_sld (Y := lwY nm) (pc := 1254) (hin.2.2.2.1) dL_law_1254 ?_
  refine sm_aload_n (Y := lwY nm) (pc := 1255) 3 0 rfl rfl dL_law_1255 ?_
  refine sm_iload_n (Y := lwY nm) (pc := 1256) 0 3 rfl rfl dL_law_1256 ?_
  refine sm_iconst (Y := lwY nm) (pc := 1257) 5 (by decide) dL_law_1257 ?_
  refine sm_iadd (Y := lwY nm) (pc := 1258) dL_law_1258 ?_
  refine sm_sld (Y := lwY nm) (pc := 1259) (hin.2.2.2.2) dL_law_1259 ?_
  refine sm_iv_I (Y := lwY nm) (pc := 1260) (d' := 99) (mc' := 0) (ms' := 0) (As := [.int (E.2.2.2.2.2.2.2.2.2 (i + 1).toNatClampNeg), .int (E.2.2.2.2.2.2.2.2.2 (i + 2).toNatClampNeg), .int (E.2.2.2.2.2.2.2.2.2 (i + 3).toNatClampNeg), .int (E.2.2.2.2.2.2.2.2.2 (i + 4).toNatClampNeg), .int (E.2.2.2.2.2.2.2.2.2 (i + 5).toNatClampNeg)]) (a := 0) fX11_shift wRL_122 (lk_0 lz_ly) (by decide) rfl rfl rfl (by decide) (Nat.le_of_ble_eq_true rfl) ⟨by omega, by omega⟩ dL_law_1260 rfl (sm_monoI (k_shift (d2 := 99) lz_ly (by decide) (by decide) hI) (fun r m1 q1 => ?_))
  refine sm_aload_n (Y := lwY nm) (pc := 1263) 1 2 rfl rfl dL_law_1263 ?_
  refine sm_aload_n (Y := lwY nm) (pc := 1264) 3 0 rfl rfl dL_law_1264 ?_
  refine sm_iload_n (Y := lwY nm) (pc := 1265) 0 3 rfl rfl dL_law_1265 ?_
  refine sm_iconst (Y := lwY nm) (pc := 1266) 1 (by decide) dL_law_1266 ?_
  refine sm_iadd (Y := lwY nm) (pc := 1267) dL_law_1267 ?_
  refine sm_sld (Y := lwY nm) (pc := 1268) (hin.1) dL_law_1268 ?_
  refine sm_aload_n (Y := lwY nm) (pc := 1269) 3 0 rfl rfl dL_law_1269 ?_
  refine sm_iload_n (Y := lwY nm) (pc := 1270) 0 3 rfl rfl dL_law_1270 ?_
  refine sm_iconst (Y := lwY nm) (pc := 1271) 2 (by decide) dL_law_1271 ?_
  refine sm_iadd (Y := lwY nm) (pc := 1272) dL_law_1272 ?_
  refine sm_sld (Y := lwY nm) (pc := 1273) (hin.2.1) dL_law_1273 ?_
  refine sm_aload_n (Y := lwY nm) (pc := 1274) 3 0 rfl rfl dL_law_1274 ?_
  refine sm_iload_n (Y := lwY nm) (pc := 1275) 0 3 rfl rfl dL_law_1275 ?_
  refine sm_iconst (Y := lwY nm) (pc := 1276) 3 (by decide) dL_law_1276 ?_
  refine sm_iadd (Y := lwY nm) (pc := 1277) dL_law_1277 ?_
  refine sm_sld (Y := lwY nm) (pc := 1278) (hin.2.2.1) dL_law_1278 ?_
  refine sm_aload_n (Y := lwY nm) (pc := 1279) 3 0 rfl rfl dL_law_1279 ?_
  refine sm_iload_n (Y := lwY nm) (pc := 1280) 0 3 rfl rfl dL_law_1280 ?_
  refine sm_iconst (Y := lwY nm) (pc := 1281) 4 (by decide) dL_law_1281 ?_
  refine sm_iadd (Y := lwY nm) (pc := 1282) dL_law_1282 ?_
  refine sm_sld (Y := lwY nm) (pc := 1283) (hin.2.2.2.1) dL_law_1283 ?_
  refine sm_aload_n (Y := lwY nm) (pc := 1284) 3 0 rfl rfl dL_law_1284 ?_
  refine sm_iload_n (Y := lwY nm) (pc := 1285) 0 3 rfl rfl dL_law_1285 ?_
  refine sm_iconst (Y := lwY nm) (pc := 1286) 5 (by decide) dL_law_1286 ?_
  refine sm_iadd (Y := lwY nm) (pc := 1287) dL_law_1287 ?_
  refine sm_sld (Y := lwY nm) (pc := 1288) (hin.2.2.2.2) dL_law_1288 ?_
  refine sm_iv_I (Y := lwY nm) (pc := 1289) (d' := 99) (mc' := 0) (ms' := 0) (As := [.int (E.2.2.2.2.2.2.2.2.2 (i + 1).toNatClampNeg), .int (E.2.2.2.2.2.2.2.2.2 (i + 2).toNatClampNeg), .int (E.2.2.2.2.2.2.2.2.2 (i + 3).toNatClampNeg), .int (E.2.2.2.2.2.2.2.2.2 (i + 4).toNatClampNeg), .int (E.2.2.2.2.2.2.2.2.2 (i + 5).toNatClampNeg)]) (a := 109) fX12_shift wRL_126 (lk_109 lz_ly) (by decide) rfl rfl rfl (by decide) (Nat.le_of_ble_eq_true rfl) ⟨by omega, by omega⟩ dL_law_1289 rfl (sm_monoI q1 (fun r2 m2 q2 => ?_))
  refine sm_icmp_eq (Y := lwY nm) (pc := 1292) 1555 (by decide) dL_law_1292 (fun _ => ?_) (fun hne => absurd q2.1 hne)
  exact sm_widen (by omega) (by omega) (hn m2 (q2.2.up (by omega) hc))
theorem lc_26 {E : sm_E} {nm : String} {i : Int32} {m : sm_M} {c cells slots : Nat} {Q : List Frame → State → State → Prop} (hI : Inv c m) (hc : c + 1 ≤ 1000) (hin : lwI E i) (h1 : cells + 4 ≤ 600000) (h2 : slots + 4096 ≤ 7302250) (hn : ∀ m2, Inv (c + 1) m2 → lwG E nm 1555 i m2 (cells + 4) (slots + 4096) Q) : lwG E nm 1297 i m cells slots Q := by
  refine sm_aload_n (Y := lwY nm) (pc := 1297) 2 1 rfl rfl dL_law_1297 ?_
  refine sm_aload_n (Y := lwY nm) (pc := 1298) 3 0 rfl rfl dL_law_1298 ?_
  refine sm_iload_n (Y := lwY nm) (pc := 1299) 0 3 rfl rfl dL_law_1299 ?_
  refine sm_iconst (Y := lwY nm) (pc := 1300) 1 (by decide) dL_law_1300 ?_
  refine sm_iadd (Y := lwY nm) (pc := 1301) dL_law_1301 ?_
  refine sm_sld (Y := lwY nm) (pc := 1302) (hin.1) dL_law_1302 ?_
  refine sm_aload_n (Y := lwY nm) (pc := 1303) 3 0 rfl rfl dL_law_1303 ?_
  refine sm_iload_n (Y := lwY nm) (pc := 1304) 0 3 rfl rfl dL_law_1304 ?_
  refine sm_iconst (Y := lwY nm) (pc := 1305) 2 (by decide) dL_law_1305 ?_
  refine sm_iadd (Y := lwY nm) (pc := 1306) dL_law_1306 ?_
  refine sm_sld (Y := lwY nm) (pc := 1307) (hin.2.1) dL_law_1307 ?_
  refine sm_aload_n (Y := lwY nm) (pc := 1308) 3 0 rfl rfl dL_law_1308 ?_
  refine sm_iload_n (Y := lwY nm) (pc := 1309) 0 3 rfl rfl dL_law_1309 ?_
  refine sm_iconst (Y := lwY nm) (pc := 1310) 3 (by decide) dL_law_1310 ?_
  refine sm_iadd (Y := lwY nm) (pc := 1311) dL_law_1311 ?_
  refine sm_sld (Y := lwY nm) (pc := 1312) (hin.2.2.1) dL_law_1312 ?_
  refine sm_aload_n (Y := lwY nm) (pc := 1313) 3 0 rfl rfl dL_law_1313 ?_
  refine sm_iload_n (Y := lwY nm) (pc := 1314) 0 3 rfl rfl dL_law_1314 ?_
  refine sm_iconst (Y := lwY nm) (pc := 1315) 4 (by decide) dL_law_1315 ?_
  refine sm_iadd (Y := lwY nm) (pc := 1316) dL_law_1316 ?_
  refine sm_sld (Y := lwY nm) (pc := 1317) (hin.2.2.2.1) dL_law_1317 ?_
  refine sm_iv_I (Y := lwY nm) (pc := 1318) (d' := 99) (mc' := 0) (ms' := 0) (As := [.int (E.2.2.2.2.2.2.2.2.2 (i + 1).toNatClampNeg), .int (E.2.2.2.2.2.2.2.2.2 (i + 2).toNatClampNeg), .int (E.2.2.2.2.2.2.2.2.2 (i + 3).toNatClampNeg), .int (E.2.2.2.2.2.2.2.2.2 (i + 4).toNatClampNeg)]) (a := 0) fX11_terms wRL_127 (lk_0 lz_ly) (by decide) rfl rfl rfl (by decide) (Nat.le_of_ble_eq_true rfl) ⟨by omega, by omega⟩ dL_law_1318 rfl (sm_monoI (k_terms (d2 := 99) lz_ly (by decide) (by decide) hI) (fun r m1 q1 => ?_))
  refine sm_aload_n (Y := lwY nm) (pc := 1321) 1 2 rfl rfl dL_law_1321 ?_
  refine sm_aload_n (Y := lwY nm) (pc := 1322) 3 0 rfl rfl dL_law_1322 ?_
  refine sm_iload_n (Y := lwY nm) (pc := 1323) 0 3 rfl rfl dL_law_1323 ?_
  refine sm_iconst (Y := lwY nm) (pc := 1324) 1 (by decide) dL_law_1324 ?_
  refine sm_iadd (Y := lwY nm) (pc := 1325) dL_law_1325 ?_
  refine sm_sld (Y := lwY nm) (pc := 1326) (hin.1) dL_law_1326 ?_
  refine sm_aload_n (Y := lwY nm) (pc := 1327) 3 0 rfl rfl dL_law_1327 ?_
  refine sm_iload_n (Y := lwY nm) (pc := 1328) 0 3 rfl rfl dL_law_1328 ?_
  refine sm_iconst (Y := lwY nm) (pc := 1329) 2 (by decide) dL_law_1329 ?_
  refine sm_iadd (Y := lwY nm) (pc := 1330) dL_law_1330 ?_
  refine sm_sld (Y := lwY nm) (pc := 1331) (hin.2.1) dL_law_1331 ?_
  refine sm_aload_n (Y := lwY nm) (pc := 1332) 3 0 rfl rfl dL_law_1332 ?_
  refine sm_iload_n (Y := lwY nm) (pc := 1333) 0 3 rfl rfl dL_law_1333 ?_
  refine sm_iconst (Y := lwY nm) (pc := 1334) 3 (by decide) dL_law_1334 ?_
  refine sm_iadd (Y := lwY nm) (pc := 1335) dL_law_1335 ?_
  refine sm_sld (Y := lwY nm) (pc := 1336) (hin.2.2.1) dL_law_1336 ?_
  refine sm_aload_n (Y := lwY nm) (pc := 1337) 3 0 rfl rfl dL_law_1337 ?_
  refine sm_iload_n (Y := lwY nm) (pc := 1338) 0 3 rfl rfl dL_law_1338 ?_
  refine sm_iconst (Y := lwY nm) (pc := 1339) 4 (by decide) dL_law_1339 ?_
  refine sm_iadd (Y := lwY nm) (pc := 1340) dL_law_1340 ?_
  refine sm_sld (Y := lwY nm) (pc := 1341) (hin.2.2.2.1) dL_law_1341 ?_
  refine sm_iv_I (Y := lwY nm) (pc := 1342) (d' := 99) (mc' := 0) (ms' := 0) (As := [.int (E.2.2.2.2.2.2.2.2.2 (i + 1).toNatClampNeg), .int (E.2.2.2.2.2.2.2.2.2 (i + 2).toNatClampNeg), .int (E.2.2.2.2.2.2.2.2.2 (i + 3).toNatClampNeg), .int (E.2.2.2.2.2.2.2.2.2 (i + 4).toNatClampNeg)]) (a := 109) fX12_terms wRL_130 (lk_109 lz_ly) (by decide) rfl rfl rfl (by decide) (Nat.le_of_ble_eq_true rfl) ⟨by omega, by omega⟩ dL_law_1342 rfl (sm_monoI q1 (fun r2 m2 q2 => ?_))
  refine sm_icmp_eq (Y := lwY nm) (pc := 1345) 1555 (by decide) dL_law_1345 (fun _ => ?_) (fun hne => absurd q2.1 hne)
  exact sm_widen (by omega) (by omega) (hn m2 (q2.2.up (by omega) hc))
theorem lc_27 {E : sm_E} {nm : String} {i : Int32} {m : sm_M} {c cells slots : Nat} {Q : List Frame → State → State → Prop} (hI : Inv c m) (hc : c + 1 ≤ 1000) (hin : lwI E i) (h1 : cells + 4 ≤ 600000) (h2 : slots + 4096 ≤ 7302250) (hn : ∀ m2, Inv (c + 1) m2 → lwG E nm 1555 i m2 (cells + 4) (slots + 4096) Q) : lwG E nm 1350 i m cells slots Q := by
  refine sm_aload_n (Y := lwY nm) (pc := 1350) 2 1 rfl rfl dL_law_1350 ?_
  refine sm_aload_n (Y := lwY nm) (pc := 1351) 3 0 rfl rfl dL_law_1351 ?_
  refine sm_iload_n (Y := lwY nm) (pc := 1352) 0 3 rfl rfl dL_law_1352 ?_
  refine sm_iconst (Y := lwY nm) (pc := 1353) 1 (by decide) dL_law_1353 ?_
  refine sm_iadd (Y := lwY nm) (pc := 1354) dL_law_1354 ?_
  refine sm_sld (Y := lwY nm) (pc := 1355) (hin.1) dL_law_1355 ?_
  refine sm_aload_n (Y := lwY nm) (pc := 1356) 3 0 rfl rfl dL_law_1356 ?_
  refine sm_iload_n (Y := lwY nm) (pc := 1357) 0 3 rfl rfl dL_law_1357 ?_
  refine sm_iconst (Y := lwY nm) (pc := 1358) 2 (by decide) dL_law_1358 ?_
  refine sm_iadd (Y := lwY nm) (pc := 1359) dL_law_1359 ?_
  refine sm_sld (Y := lwY nm) (pc := 1360) (hin.2.1) dL_law_1360 ?_
  refine sm_aload_n (Y := lwY nm) (pc := 1361) 3 0 rfl rfl dL_law_1361 ?_
  refine sm_iload_n (Y := lwY nm) (pc := 1362) 0 3 rfl rfl dL_law_1362 ?_
  refine sm_iconst (Y := lwY nm) (pc := 1363) 3 (by decide) dL_law_1363 ?_
  refine sm_iadd (Y := lwY nm) (pc := 1364) dL_law_1364 ?_
  refine sm_sld (Y := lwY nm) (pc := 1365) (hin.2.2.1) dL_law_1365 ?_
  refine sm_iv_J (Y := lwY nm) (pc := 1366) (d' := 99) (mc' := 0) (ms' := 0) (As := [.int (E.2.2.2.2.2.2.2.2.2 (i + 1).toNatClampNeg), .int (E.2.2.2.2.2.2.2.2.2 (i + 2).toNatClampNeg), .int (E.2.2.2.2.2.2.2.2.2 (i + 3).toNatClampNeg)]) (a := 0) fX11_value wRL_131 (lk_0 lz_ly) (by decide) rfl rfl rfl (by decide) (Nat.le_of_ble_eq_true rfl) ⟨by omega, by omega⟩ dL_law_1366 rfl (sm_monoJ (k_value (d2 := 99) lz_ly (by decide) (by decide) hI) (fun r m1 q1 => ?_))
  refine sm_aload_n (Y := lwY nm) (pc := 1369) 1 2 rfl rfl dL_law_1369 ?_
  refine sm_aload_n (Y := lwY nm) (pc := 1370) 3 0 rfl rfl dL_law_1370 ?_
  refine sm_iload_n (Y := lwY nm) (pc := 1371) 0 3 rfl rfl dL_law_1371 ?_
  refine sm_iconst (Y := lwY nm) (pc := 1372) 1 (by decide) dL_law_1372 ?_
  refine sm_iadd (Y := lwY nm) (pc := 1373) dL_law_1373 ?_
  refine sm_sld (Y := lwY nm) (pc := 1374) (hin.1) dL_law_1374 ?_
  refine sm_aload_n (Y := lwY nm) (pc := 1375) 3 0 rfl rfl dL_law_1375 ?_
  refine sm_iload_n (Y := lwY nm) (pc := 1376) 0 3 rfl rfl dL_law_1376 ?_
  refine sm_iconst (Y := lwY nm) (pc := 1377) 2 (by decide) dL_law_1377 ?_
  refine sm_iadd (Y := lwY nm) (pc := 1378) dL_law_1378 ?_
  refine sm_sld (Y := lwY nm) (pc := 1379) (hin.2.1) dL_law_1379 ?_
  refine sm_aload_n (Y := lwY nm) (pc := 1380) 3 0 rfl rfl dL_law_1380 ?_
  refine sm_iload_n (Y := lwY nm) (pc := 1381) 0 3 rfl rfl dL_law_1381 ?_
  refine sm_iconst (Y := lwY nm) (pc := 1382) 3 (by decide) dL_law_1382 ?_
  refine sm_iadd (Y := lwY nm) (pc := 1383) dL_law_1383 ?_
  refine sm_sld (Y := lwY nm) (pc := 1384) (hin.2.2.1) dL_law_1384 ?_
  refine sm_iv_J (Y := lwY nm) (pc := 1385) (d' := 99) (mc' := 0) (ms' := 0) (As := [.int (E.2.2.2.2.2.2.2.2.2 (i + 1).toNatClampNeg), .int (E.2.2.2.2.2.2.2.2.2 (i + 2).toNatClampNeg), .int (E.2.2.2.2.2.2.2.2.2 (i + 3).toNatClampNeg)]) (a := 109) fX12_value wRL_135 (lk_109 lz_ly) (by decide) rfl rfl rfl (by decide) (Nat.le_of_ble_eq_true rfl) ⟨by omega, by omega⟩ dL_law_1385 rfl (sm_monoJ q1 (fun r2 m2 q2 => ?_))
  refine sm_lif_eq (Y := lwY nm) (pc := 1388) 1555 (by decide) dL_law_1388 dL_law_1389 (fun _ => ?_) (fun hne => absurd q2.1 hne)
  exact sm_widen (by omega) (by omega) (hn m2 (q2.2.up (by omega) hc))
theorem lc_28 {E : sm_E} {nm : String} {i : Int32} {m : sm_M} {c cells slots : Nat} {Q : List Frame → State → State → Prop} (hI : Inv c m) (hc : c + 1 ≤ 1000) (hin : lwI E i) (h1 : cells + 4 ≤ 600000) (h2 : slots + 4096 ≤ 7302250) (hn : ∀ m2, Inv (c + 1) m2 → lwG E nm 1555 i m2 (cells + 4) (slots + 4096) Q) : lwG E nm 1394 i m cells slots Q := by
  refine sm_aload_n (Y := lwY nm) (pc := 1394) 2 1 rfl rfl dL_law_1394 ?_
  refine sm_aload_n (Y := lwY nm) (pc := 1395) 3 0 rfl rfl dL_law_1395 ?_
  refine sm_iload_n (Y := lwY nm) (pc := 1396) 0 3 rfl rfl dL_law_1396 ?_
  refine sm_iconst (Y := lwY nm) (pc := 1397) 1 (by decide) dL_law_1397 ?_
  refine sm_iadd (Y := lwY nm) (pc := 1398) dL_law_1398 ?_
  refine sm_sld (Y := lwY nm) (pc := 1399) (hin.1) dL_law_1399 ?_
  refine sm_aload_n (Y := lwY nm) (pc := 1400) 3 0 rfl rfl dL_law_1400 ?_
  refine sm_iload_n (Y := lwY nm) (pc := 1401) 0 3 rfl rfl dL_law_1401 ?_
  refine sm_iconst (Y := lwY nm) (pc := 1402) 2 (by decide) dL_law_1402 ?_
  refine sm_iadd (Y := lwY nm) (pc := 1403) dL_law_1403 ?_
  refine sm_sld (Y := lwY nm) (pc := 1404) (hin.2.1) dL_law_1404 ?_
  refine sm_iv_I (Y := lwY nm) (pc := 1405) (d' := 99) (mc' := 0) (ms' := 0) (As := [.int (E.2.2.2.2.2.2.2.2.2 (i + 1).toNatClampNeg), .int (E.2.2.2.2.2.2.2.2.2 (i + 2).toNatClampNeg)]) (a := 0) fX11_judge wRL_136 (lk_0 lz_ly) (by decide) rfl rfl rfl (by decide) (Nat.le_of_ble_eq_true rfl) ⟨by omega, by omega⟩ dL_law_1405 rfl (sm_monoI (k_judge (d2 := 99) lz_ly (by decide) (by decide) hI) (fun r m1 q1 => ?_))
  refine sm_aload_n (Y := lwY nm) (pc := 1408) 1 2 rfl rfl dL_law_1408 ?_
  refine sm_aload_n (Y := lwY nm) (pc := 1409) 3 0 rfl rfl dL_law_1409 ?_
  refine sm_iload_n (Y := lwY nm) (pc := 1410) 0 3 rfl rfl dL_law_1410 ?_
  refine sm_iconst (Y := lwY nm) (pc := 1411) 1 (by decide) dL_law_1411 ?_
  refine sm_iadd (Y := lwY nm) (pc := 1412) dL_law_1412 ?_
  refine sm_sld (Y := lwY nm) (pc := 1413) (hin.1) dL_law_1413 ?_
  refine sm_aload_n (Y := lwY nm) (pc := 1414) 3 0 rfl rfl dL_law_1414 ?_
  refine sm_iload_n (Y := lwY nm) (pc := 1415) 0 3 rfl rfl dL_law_1415 ?_
  refine sm_iconst (Y := lwY nm) (pc := 1416) 2 (by decide) dL_law_1416 ?_
  refine sm_iadd (Y := lwY nm) (pc := 1417) dL_law_1417 ?_
  refine sm_sld (Y := lwY nm) (pc := 1418) (hin.2.1) dL_law_1418 ?_
  refine sm_iv_I (Y := lwY nm) (pc := 1419) (d' := 99) (mc' := 0) (ms' := 0) (As := [.int (E.2.2.2.2.2.2.2.2.2 (i + 1).toNatClampNeg), .int (E.2.2.2.2.2.2.2.2.2 (i + 2).toNatClampNeg)]) (a := 109) fX12_judge wRL_139 (lk_109 lz_ly) (by decide) rfl rfl rfl (by decide) (Nat.le_of_ble_eq_true rfl) ⟨by omega, by omega⟩ dL_law_1419 rfl (sm_monoI q1 (fun r2 m2 q2 => ?_))
  refine sm_icmp_eq (Y := lwY nm) (pc := 1422) 1555 (by decide) dL_law_1422 (fun _ => ?_) (fun hne => absurd q2.1 hne)
  exact sm_widen (by omega) (by omega) (hn m2 (q2.2.up (by omega) hc))
theorem lc_29 {E : sm_E} {nm : String} {i : Int32} {m : sm_M} {c cells slots : Nat} {Q : List Frame → State → State → Prop} (hI : Inv c m) (hc : c + 1 ≤ 1000) (hin : lwI E i) (h1 : cells + 4 ≤ 600000) (h2 : slots + 4096 ≤ 7302250) (hn : ∀ m2, Inv (c + 1) m2 → lwG E nm 1555 i m2 (cells + 4) (slots + 4096) Q) : lwG E nm 1427 i m cells slots Q := by
  refine sm_aload_n (Y := lwY nm) (pc := 1427) 2 1 rfl rfl dL_law_1427 ?_
  refine sm_aload_n (Y := lwY nm) (pc := 1428) 3 0 rfl rfl dL_law_1428 ?_
  refine sm_iload_n (Y := lwY nm) (pc := 1429) 0 3 rfl rfl dL_law_1429 ?_
  refine sm_iconst (Y := lwY nm) (pc := 1430) 1 (by decide) dL_law_1430 ?_
  refine sm_iadd (Y := lwY nm) (pc := 1431) dL_law_1431 ?_
  refine sm_sld (Y := lwY nm) (pc := 1432) (hin.1) dL_law_1432 ?_
  refine sm_iv_I (Y := lwY nm) (pc := 1433) (d' := 99) (mc' := 0) (ms' := 0) (As := [.int (E.2.2.2.2.2.2.2.2.2 (i + 1).toNatClampNeg)]) (a := 0) fX11_seed wRL_140 (lk_0 lz_ly) (by decide) rfl rfl rfl (by decide) (Nat.le_of_ble_eq_true rfl) ⟨by omega, by omega⟩ dL_law_1433 rfl (sm_monoI (k_seed (d2 := 99) lz_ly (by decide) (by decide) hI) (fun r m1 q1 => ?_))
  refine sm_aload_n (Y := lwY nm) (pc := 1436) 1 2 rfl rfl dL_law_1436 ?_
  refine sm_aload_n (Y := lwY nm) (pc := 1437) 3 0 rfl rfl dL_law_1437 ?_
  refine sm_iload_n (Y := lwY nm) (pc := 1438) 0 3 rfl rfl dL_law_1438 ?_
  refine sm_iconst (Y := lwY nm) (pc := 1439) 1 (by decide) dL_law_1439 ?_
  refine sm_iadd (Y := lwY nm) (pc := 1440) dL_law_1440 ?_
  refine sm_sld (Y := lwY nm) (pc := 1441) (hin.1) dL_law_1441 ?_
  refine sm_iv_I (Y := lwY nm) (pc := 1442) (d' := 99) (mc' := 0) (ms' := 0) (As := [.int (E.2.2.2.2.2.2.2.2.2 (i + 1).toNatClampNeg)]) (a := 109) fX12_seed wRL_143 (lk_109 lz_ly) (by decide) rfl rfl rfl (by decide) (Nat.le_of_ble_eq_true rfl) ⟨by omega, by omega⟩ dL_law_1442 rfl (sm_monoI q1 (fun r2 m2 q2 => ?_))
  refine sm_icmp_eq (Y := lwY nm) (pc := 1445) 1555 (by decide) dL_law_1445 (fun _ => ?_) (fun hne => absurd q2.1 hne)
  exact sm_widen (by omega) (by omega) (hn m2 (q2.2.up (by omega) hc))
theorem lc_30 {E : sm_E} {nm : String} {i : Int32} {m : sm_M} {c cells slots : Nat} {Q : List Frame → State → State → Prop} (hI : Inv c m) (hc : c + 1 ≤ 1000) (hin : lwI E i) (h1 : cells + 4 ≤ 600000) (h2 : slots + 4096 ≤ 7302250) (hn : ∀ m2, Inv (c + 1) m2 → lwG E nm 1555 i m2 (cells + 4) (slots + 4096) Q) : lwG E nm 1450 i m cells slots Q := by
  refine sm_aload_n (Y := lwY nm) (pc := 1450) 2 1 rfl rfl dL_law_1450 ?_
  refine sm_aload_n (Y := lwY nm) (pc := 1451) 3 0 rfl rfl dL_law_1451 ?_
  refine sm_iload_n (Y := lwY nm) (pc := 1452) 0 3 rfl rfl dL_law_1452 ?_
  refine sm_iconst (Y := lwY nm) (pc := 1453) 1 (by decide) dL_law_1453 ?_
  refine sm_iadd (Y := lwY nm) (pc := 1454) dL_law_1454 ?_
  refine sm_sld (Y := lwY nm) (pc := 1455) (hin.1) dL_law_1455 ?_
  refine sm_aload_n (Y := lwY nm) (pc := 1456) 3 0 rfl rfl dL_law_1456 ?_
  refine sm_iload_n (Y := lwY nm) (pc := 1457) 0 3 rfl rfl dL_law_1457 ?_
  refine sm_iconst (Y := lwY nm) (pc := 1458) 2 (by decide) dL_law_1458 ?_
  refine sm_iadd (Y := lwY nm) (pc := 1459) dL_law_1459 ?_
  refine sm_sld (Y := lwY nm) (pc := 1460) (hin.2.1) dL_law_1460 ?_
  refine sm_iv_I (Y := lwY nm) (pc := 1461) (d' := 99) (mc' := 0) (ms' := 0) (As := [.int (E.2.2.2.2.2.2.2.2.2 (i + 1).toNatClampNeg), .int (E.2.2.2.2.2.2.2.2.2 (i + 2).toNatClampNeg)]) (a := 0) fX11_loose wRL_144 (lk_0 lz_ly) (by decide) rfl rfl rfl (by decide) (Nat.le_of_ble_eq_true rfl) ⟨by omega, by omega⟩ dL_law_1461 rfl (sm_monoI (k_loose (d2 := 99) lz_ly (by decide) (by decide) hI) (fun r m1 q1 => ?_))
  refine sm_aload_n (Y := lwY nm) (pc := 1464) 1 2 rfl rfl dL_law_1464 ?_
  refine sm_aload_n (Y := lwY nm) (pc := 1465) 3 0 rfl rfl dL_law_1465 ?_
  refine sm_iload_n (Y := lwY nm) (pc := 1466) 0 3 rfl rfl dL_law_1466 ?_
  refine sm_iconst (Y := lwY nm) (pc := 1467) 1 (by decide) dL_law_1467 ?_
  refine sm_iadd (Y := lwY nm) (pc := 1468) dL_law_1468 ?_
  refine sm_sld (Y := lwY nm) (pc := 1469) (hin.1) dL_law_1469 ?_
  refine sm_aload_n (Y := lwY nm) (pc := 1470) 3 0 rfl rfl dL_law_1470 ?_
  refine sm_iload_n (Y := lwY nm) (pc := 1471) 0 3 rfl rfl dL_law_1471 ?_
  refine sm_iconst (Y := lwY nm) (pc := 1472) 2 (by decide) dL_law_1472 ?_
  refine sm_iadd (Y := lwY nm) (pc := 1473) dL_law_1473 ?_
  refine sm_sld (Y := lwY nm) (pc := 1474) (hin.2.1) dL_law_1474 ?_
  refine sm_iv_I (Y := lwY nm) (pc := 1475) (d' := 99) (mc' := 0) (ms' := 0) (As := [.int (E.2.2.2.2.2.2.2.2.2 (i + 1).toNatClampNeg), .int (E.2.2.2.2.2.2.2.2.2 (i + 2).toNatClampNeg)]) (a := 109) fX12_loose wRL_147 (lk_109 lz_ly) (by decide) rfl rfl rfl (by decide) (Nat.le_of_ble_eq_true rfl) ⟨by omega, by omega⟩ dL_law_1475 rfl (sm_monoI q1 (fun r2 m2 q2 => ?_))
  refine sm_icmp_eq (Y := lwY nm) (pc := 1478) 1555 (by decide) dL_law_1478 (fun _ => ?_) (fun hne => absurd q2.1 hne)
  exact sm_widen (by omega) (by omega) (hn m2 (q2.2.up (by omega) hc))
theorem lc_31 {E : sm_E} {nm : String} {i : Int32} {m : sm_M} {c cells slots : Nat} {Q : List Frame → State → State → Prop} (hI : Inv c m) (hc : c + 1 ≤ 1000) (hin : lwI E i) (h1 : cells + 4 ≤ 600000) (h2 : slots + 4096 ≤ 7302250) (hn : ∀ m2, Inv (c + 1) m2 → lwG E nm 1555 i m2 (cells + 4) (slots + 4096) Q) : lwG E nm 1483 i m cells slots Q := by
  refine sm_aload_n (Y := lwY nm) (pc := 1483) 2 1 rfl rfl dL_law_1483 ?_
  refine sm_iv_I (Y := lwY nm) (pc := 1484) (d' := 99) (mc' := 0) (ms' := 0) (As := []) (a := 0) fX11_image wRL_148 (lk_0 lz_ly) (by decide) rfl rfl rfl (by decide) (Nat.le_of_ble_eq_true rfl) ⟨by omega, by omega⟩ dL_law_1484 rfl (sm_monoI (k_image (d2 := 99) lz_ly (by decide) (by decide) hI) (fun r m1 q1 => ?_))
  refine sm_aload_n (Y := lwY nm) (pc := 1487) 1 2 rfl rfl dL_law_1487 ?_
  refine sm_iv_I (Y := lwY nm) (pc := 1488) (d' := 99) (mc' := 0) (ms' := 0) (As := []) (a := 109) fX12_image wRL_152 (lk_109 lz_ly) (by decide) rfl rfl rfl (by decide) (Nat.le_of_ble_eq_true rfl) ⟨by omega, by omega⟩ dL_law_1488 rfl (sm_monoI q1 (fun r2 m2 q2 => ?_))
  refine sm_icmp_eq (Y := lwY nm) (pc := 1491) 1555 (by decide) dL_law_1491 (fun _ => ?_) (fun hne => absurd q2.1 hne)
  exact sm_widen (by omega) (by omega) (hn m2 (q2.2.up (by omega) hc))
theorem lc_32 {E : sm_E} {nm : String} {i : Int32} {m : sm_M} {c cells slots : Nat} {Q : List Frame → State → State → Prop} (hI : Inv c m) (hc : c + 1 ≤ 1000) (hin : lwI E i) (h1 : cells + 4 ≤ 600000) (h2 : slots + 4096 ≤ 7302250) (hn : ∀ m2, Inv (c + 1) m2 → lwG E nm 1555 i m2 (cells + 4) (slots + 4096) Q) : lwG E nm 1496 i m cells slots Q := by
  refine sm_aload_n (Y := lwY nm) (pc := 1496) 2 1 rfl rfl dL_law_1496 ?_
  refine sm_iv_I (Y := lwY nm) (pc := 1497) (d' := 99) (mc' := 0) (ms' := 0) (As := []) (a := 0) fX11_restore wRL_153 (lk_0 lz_ly) (by decide) rfl rfl rfl (by decide) (Nat.le_of_ble_eq_true rfl) ⟨by omega, by omega⟩ dL_law_1497 rfl (sm_monoI (k_restore (d2 := 99) lz_ly (by decide) (by decide) hI) (fun r m1 q1 => ?_))
  refine sm_aload_n (Y := lwY nm) (pc := 1500) 1 2 rfl rfl dL_law_1500 ?_
  refine sm_iv_I (Y := lwY nm) (pc := 1501) (d' := 99) (mc' := 0) (ms' := 0) (As := []) (a := 109) fX12_restore wRL_156 (lk_109 lz_ly) (by decide) rfl rfl rfl (by decide) (Nat.le_of_ble_eq_true rfl) ⟨by omega, by omega⟩ dL_law_1501 rfl (sm_monoI q1 (fun r2 m2 q2 => ?_))
  refine sm_icmp_eq (Y := lwY nm) (pc := 1504) 1555 (by decide) dL_law_1504 (fun _ => ?_) (fun hne => absurd q2.1 hne)
  exact sm_widen (by omega) (by omega) (hn m2 (q2.2.up (by omega) hc))
theorem lc_33 {E : sm_E} {nm : String} {i : Int32} {m : sm_M} {c cells slots : Nat} {Q : List Frame → State → State → Prop} (hI : Inv c m) (hc : c + 1 ≤ 1000) (hin : lwI E i) (h1 : cells + 4 ≤ 600000) (h2 : slots + 4096 ≤ 7302250) (hn : ∀ m2, Inv (c + 1) m2 → lwG E nm 1555 i m2 (cells + 4) (slots + 4096) Q) : lwG E nm 1509 i m cells slots Q := by
  refine sm_aload_n (Y := lwY nm) (pc := 1509) 2 1 rfl rfl dL_law_1509 ?_
  refine sm_aload_n (Y := lwY nm) (pc := 1510) 3 0 rfl rfl dL_law_1510 ?_
  refine sm_iload_n (Y := lwY nm) (pc := 1511) 0 3 rfl rfl dL_law_1511 ?_
  refine sm_iconst (Y := lwY nm) (pc := 1512) 1 (by decide) dL_law_1512 ?_
  refine sm_iadd (Y := lwY nm) (pc := 1513) dL_law_1513 ?_
  refine sm_sld (Y := lwY nm) (pc := 1514) (hin.1) dL_law_1514 ?_
  refine sm_iv_I (Y := lwY nm) (pc := 1515) (d' := 99) (mc' := 0) (ms' := 0) (As := [.int (E.2.2.2.2.2.2.2.2.2 (i + 1).toNatClampNeg)]) (a := 0) fX11_count wRL_157 (lk_0 lz_ly) (by decide) rfl rfl rfl (by decide) (Nat.le_of_ble_eq_true rfl) ⟨by omega, by omega⟩ dL_law_1515 rfl (sm_monoI (k_count (d2 := 99) lz_ly (by decide) (by decide) hI) (fun r m1 q1 => ?_))
  refine sm_aload_n (Y := lwY nm) (pc := 1518) 1 2 rfl rfl dL_law_1518 ?_
  refine sm_aload_n (Y := lwY nm) (pc := 1519) 3 0 rfl rfl dL_law_1519 ?_
  refine sm_iload_n (Y := lwY nm) (pc := 1520) 0 3 rfl rfl dL_law_1520 ?_
  refine sm_iconst (Y := lwY nm) (pc := 1521) 1 (by decide) dL_law_1521 ?_
  refine sm_iadd (Y := lwY nm) (pc := 1522) dL_law_1522 ?_
  refine sm_sld (Y := lwY nm) (pc := 1523) (hin.1) dL_law_1523 ?_
  refine sm_iv_I (Y := lwY nm) (pc := 1524) (d' := 99) (mc' := 0) (ms' := 0) (As := [.int (E.2.2.2.2.2.2.2.2.2 (i + 1).toNatClampNeg)]) (a := 109) fX12_count wRL_160 (lk_109 lz_ly) (by decide) rfl rfl rfl (by decide) (Nat.le_of_ble_eq_true rfl) ⟨by omega, by omega⟩ dL_law_1524 rfl (sm_monoI q1 (fun r2 m2 q2 => ?_))
  refine sm_icmp_eq (Y := lwY nm) (pc := 1527) 1555 (by decide) dL_law_1527 (fun _ => ?_) (fun hne => absurd q2.1 hne)
  exact sm_widen (by omega) (by omega) (hn m2 (q2.2.up (by omega) hc))
theorem lc_34 {E : sm_E} {nm : String} {i : Int32} {m : sm_M} {c cells slots : Nat} {Q : List Frame → State → State → Prop} (hI : Inv c m) (hc : c + 1 ≤ 1000) (hin : lwI E i) (h1 : cells + 4 ≤ 600000) (h2 : slots + 4096 ≤ 7302250) (hn : ∀ m2, Inv (c + 1) m2 → lwG E nm 1555 i m2 (cells + 4) (slots + 4096) Q) : lwG E nm 1532 i m cells slots Q := by
  refine sm_aload_n (Y := lwY nm) (pc := 1532) 2 1 rfl rfl dL_law_1532 ?_
  refine sm_aload_n (Y := lwY nm) (pc := 1533) 3 0 rfl rfl dL_law_1533 ?_
  refine sm_iload_n (Y := lwY nm) (pc := 1534) 0 3 rfl rfl dL_law_1534 ?_
  refine sm_iconst (Y := lwY nm) (pc := 1535) 1 (by decide) dL_law_1535 ?_
  refine sm_iadd (Y := lwY nm) (pc := 1536) dL_law_1536 ?_
  refine sm_sld (Y := lwY nm) (pc := 1537) (hin.1) dL_law_1537 ?_
  refine sm_iv_I (Y := lwY nm) (pc := 1538) (d' := 99) (mc' := 0) (ms' := 0) (As := [.int (E.2.2.2.2.2.2.2.2.2 (i + 1).toNatClampNeg)]) (a := 0) fX11_told wRL_161 (lk_0 lz_ly) (by decide) rfl rfl rfl (by decide) (Nat.le_of_ble_eq_true rfl) ⟨by omega, by omega⟩ dL_law_1538 rfl (sm_monoI (k_told (d2 := 99) lz_ly (by decide) (by decide) hI) (fun r m1 q1 => ?_))
  refine sm_aload_n (Y := lwY nm) (pc := 1541) 1 2 rfl rfl dL_law_1541 ?_
  refine sm_aload_n (Y := lwY nm) (pc := 1542) 3 0 rfl rfl dL_law_1542 ?_
  refine sm_iload_n (Y := lwY nm) (pc := 1543) 0 3 rfl rfl dL_law_1543 ?_
  refine sm_iconst (Y := lwY nm) (pc := 1544) 1 (by decide) dL_law_1544 ?_
  refine sm_iadd (Y := lwY nm) (pc := 1545) dL_law_1545 ?_
  refine sm_sld (Y := lwY nm) (pc := 1546) (hin.1) dL_law_1546 ?_
  refine sm_iv_I (Y := lwY nm) (pc := 1547) (d' := 99) (mc' := 0) (ms' := 0) (As := [.int (E.2.2.2.2.2.2.2.2.2 (i + 1).toNatClampNeg)]) (a := 109) fX12_told wRL_164 (lk_109 lz_ly) (by decide) rfl rfl rfl (by decide) (Nat.le_of_ble_eq_true rfl) ⟨by omega, by omega⟩ dL_law_1547 rfl (sm_monoI q1 (fun r2 m2 q2 => ?_))
  refine sm_icmp_eq (Y := lwY nm) (pc := 1550) 1555 (by decide) dL_law_1550 (fun _ => ?_) (fun hne => absurd q2.1 hne)
  exact sm_widen (by omega) (by omega) (hn m2 (q2.2.up (by omega) hc))
