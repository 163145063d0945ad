theorem d_LW_law_221 : decode b_LW_law 221 = .ok (.iaload, 1) := by decide +kernel
theorem d_LW_law_222 : decode b_LW_law 222 = .ok (.invokevirtual 44, 3) := by decide +kernel
theorem d_LW_law_225 : decode b_LW_law 225 = .ok (.if_icmp .eq 383, 3) := by decide +kernel
theorem d_LW_law_228 : decode b_LW_law 228 = .ok (.iconst 0, 1) := by decide +kernel
theorem d_LW_law_229 : decode b_LW_law 229 = .ok (.ireturn, 1) := by decide +kernel
theorem d_LW_law_230 : decode b_LW_law 230 = .ok (.aload_n 1, 1) := by decide +kernel
theorem d_LW_law_231 : decode b_LW_law 231 = .ok (.aload_n 0, 1) := by decide +kernel
theorem d_LW_law_232 : decode b_LW_law 232 = .ok (.iload_n 3, 1) := by decide +kernel
theorem d_LW_law_233 : decode b_LW_law 233 = .ok (.iconst 1, 1) := by decide +kernel
theorem d_LW_law_234 : decode b_LW_law 234 = .ok (.iadd, 1) := by decide +kernel
theorem d_LW_law_235 : decode b_LW_law 235 = .ok (.iaload, 1) := by decide +kernel
theorem d_LW_law_236 : decode b_LW_law 236 = .ok (.invokevirtual 45, 3) := by decide +kernel
theorem d_LW_law_239 : decode b_LW_law 239 = .ok (.aload_n 2, 1) := by decide +kernel
theorem d_LW_law_240 : decode b_LW_law 240 = .ok (.aload_n 0, 1) := by decide +kernel
theorem d_LW_law_241 : decode b_LW_law 241 = .ok (.iload_n 3, 1) := by decide +kernel
theorem d_LW_law_242 : decode b_LW_law 242 = .ok (.iconst 1, 1) := by decide +kernel
theorem d_LW_law_243 : decode b_LW_law 243 = .ok (.iadd, 1) := by decide +kernel
theorem d_LW_law_244 : decode b_LW_law 244 = .ok (.iaload, 1) := by decide +kernel
theorem d_LW_law_245 : decode b_LW_law 245 = .ok (.invokevirtual 48, 3) := by decide +kernel
theorem d_LW_law_248 : decode b_LW_law 248 = .ok (.if_icmp .eq 360, 3) := by decide +kernel
theorem d_LW_law_251 : decode b_LW_law 251 = .ok (.iconst 0, 1) := by decide +kernel
theorem d_LW_law_252 : decode b_LW_law 252 = .ok (.ireturn, 1) := by decide +kernel
theorem d_LW_law_253 : decode b_LW_law 253 = .ok (.aload_n 1, 1) := by decide +kernel
theorem d_LW_law_254 : decode b_LW_law 254 = .ok (.invokevirtual 49, 3) := by decide +kernel
theorem d_LW_law_257 : decode b_LW_law 257 = .ok (.aload_n 2, 1) := by decide +kernel
theorem d_LW_law_258 : decode b_LW_law 258 = .ok (.invokevirtual 52, 3) := by decide +kernel
theorem d_LW_law_261 : decode b_LW_law 261 = .ok (.if_icmp .eq 347, 3) := by decide +kernel
theorem d_LW_law_264 : decode b_LW_law 264 = .ok (.iconst 0, 1) := by decide +kernel
theorem d_LW_law_265 : decode b_LW_law 265 = .ok (.ireturn, 1) := by decide +kernel
theorem d_LW_law_266 : decode b_LW_law 266 = .ok (.aload_n 1, 1) := by decide +kernel
theorem d_LW_law_267 : decode b_LW_law 267 = .ok (.invokevirtual 53, 3) := by decide +kernel
theorem d_LW_law_270 : decode b_LW_law 270 = .ok (.aload_n 2, 1) := by decide +kernel
theorem d_LW_law_271 : decode b_LW_law 271 = .ok (.invokevirtual 56, 3) := by decide +kernel
theorem d_LW_law_274 : decode b_LW_law 274 = .ok (.if_icmp .eq 334, 3) := by decide +kernel
theorem d_LW_law_277 : decode b_LW_law 277 = .ok (.iconst 0, 1) := by decide +kernel
theorem d_LW_law_278 : decode b_LW_law 278 = .ok (.ireturn, 1) := by decide +kernel
theorem d_LW_law_279 : decode b_LW_law 279 = .ok (.aload_n 1, 1) := by decide +kernel
theorem d_LW_law_280 : decode b_LW_law 280 = .ok (.aload_n 0, 1) := by decide +kernel
theorem d_LW_law_281 : decode b_LW_law 281 = .ok (.iload_n 3, 1) := by decide +kernel
theorem d_LW_law_282 : decode b_LW_law 282 = .ok (.iconst 1, 1) := by decide +kernel
theorem d_LW_law_283 : decode b_LW_law 283 = .ok (.iadd, 1) := by decide +kernel
theorem d_LW_law_284 : decode b_LW_law 284 = .ok (.iaload, 1) := by decide +kernel
theorem d_LW_law_285 : decode b_LW_law 285 = .ok (.aload_n 0, 1) := by decide +kernel
theorem d_LW_law_286 : decode b_LW_law 286 = .ok (.iload_n 3, 1) := by decide +kernel
theorem d_LW_law_287 : decode b_LW_law 287 = .ok (.iconst 2, 1) := by decide +kernel
theorem d_LW_law_288 : decode b_LW_law 288 = .ok (.iadd, 1) := by decide +kernel
theorem d_LW_law_289 : decode b_LW_law 289 = .ok (.iaload, 1) := by decide +kernel
theorem d_LW_law_290 : decode b_LW_law 290 = .ok (.invokevirtual 57, 3) := by decide +kernel
theorem d_LW_law_293 : decode b_LW_law 293 = .ok (.aload_n 2, 1) := by decide +kernel
theorem d_LW_law_294 : decode b_LW_law 294 = .ok (.aload_n 0, 1) := by decide +kernel
theorem d_LW_law_295 : decode b_LW_law 295 = .ok (.iload_n 3, 1) := by decide +kernel
theorem d_LW_law_296 : decode b_LW_law 296 = .ok (.iconst 1, 1) := by decide +kernel
theorem d_LW_law_297 : decode b_LW_law 297 = .ok (.iadd, 1) := by decide +kernel
theorem d_LW_law_298 : decode b_LW_law 298 = .ok (.iaload, 1) := by decide +kernel
theorem d_LW_law_299 : decode b_LW_law 299 = .ok (.aload_n 0, 1) := by decide +kernel
theorem d_LW_law_300 : decode b_LW_law 300 = .ok (.iload_n 3, 1) := by decide +kernel
theorem d_LW_law_301 : decode b_LW_law 301 = .ok (.iconst 2, 1) := by decide +kernel
theorem d_LW_law_302 : decode b_LW_law 302 = .ok (.iadd, 1) := by decide +kernel
theorem d_LW_law_303 : decode b_LW_law 303 = .ok (.iaload, 1) := by decide +kernel
theorem d_LW_law_304 : decode b_LW_law 304 = .ok (.invokevirtual 60, 3) := by decide +kernel
theorem d_LW_law_307 : decode b_LW_law 307 = .ok (.if_icmp .eq 301, 3) := by decide +kernel
theorem d_LW_law_310 : decode b_LW_law 310 = .ok (.iconst 0, 1) := by decide +kernel
theorem d_LW_law_311 : decode b_LW_law 311 = .ok (.ireturn, 1) := by decide +kernel
theorem d_LW_law_312 : decode b_LW_law 312 = .ok (.aload_n 1, 1) := by decide +kernel
theorem d_LW_law_313 : decode b_LW_law 313 = .ok (.aload_n 0, 1) := by decide +kernel
theorem d_LW_law_314 : decode b_LW_law 314 = .ok (.iload_n 3, 1) := by decide +kernel
theorem d_LW_law_315 : decode b_LW_law 315 = .ok (.iconst 1, 1) := by decide +kernel
theorem d_LW_law_316 : decode b_LW_law 316 = .ok (.iadd, 1) := by decide +kernel
theorem d_LW_law_317 : decode b_LW_law 317 = .ok (.iaload, 1) := by decide +kernel
theorem d_LW_law_318 : decode b_LW_law 318 = .ok (.invokevirtual 61, 3) := by decide +kernel
theorem d_LW_law_321 : decode b_LW_law 321 = .ok (.aload_n 2, 1) := by decide +kernel
theorem d_LW_law_322 : decode b_LW_law 322 = .ok (.aload_n 0, 1) := by decide +kernel
theorem d_LW_law_323 : decode b_LW_law 323 = .ok (.iload_n 3, 1) := by decide +kernel
theorem d_LW_law_324 : decode b_LW_law 324 = .ok (.iconst 1, 1) := by decide +kernel
theorem d_LW_law_325 : decode b_LW_law 325 = .ok (.iadd, 1) := by decide +kernel
theorem d_LW_law_326 : decode b_LW_law 326 = .ok (.iaload, 1) := by decide +kernel
theorem d_LW_law_327 : decode b_LW_law 327 = .ok (.invokevirtual 65, 3) := by decide +kernel
theorem d_LW_law_330 : decode b_LW_law 330 = .ok (.lcmp, 1) := by decide +kernel
theorem d_LW_law_331 : decode b_LW_law 331 = .ok (.ifCond .eq 277, 3) := by decide +kernel
theorem d_LW_law_334 : decode b_LW_law 334 = .ok (.iconst 0, 1) := by decide +kernel
theorem d_LW_law_335 : decode b_LW_law 335 = .ok (.ireturn, 1) := by decide +kernel
theorem d_LW_law_336 : decode b_LW_law 336 = .ok (.aload_n 1, 1) := by decide +kernel
theorem d_LW_law_337 : decode b_LW_law 337 = .ok (.invokevirtual 66, 3) := by decide +kernel
theorem d_LW_law_340 : decode b_LW_law 340 = .ok (.aload_n 2, 1) := by decide +kernel
theorem d_LW_law_341 : decode b_LW_law 341 = .ok (.invokevirtual 69, 3) := by decide +kernel
theorem d_LW_law_344 : decode b_LW_law 344 = .ok (.if_icmp .eq 264, 3) := by decide +kernel
theorem d_LW_law_347 : decode b_LW_law 347 = .ok (.iconst 0, 1) := by decide +kernel
theorem d_LW_law_348 : decode b_LW_law 348 = .ok (.ireturn, 1) := by decide +kernel
theorem d_LW_law_349 : decode b_LW_law 349 = .ok (.aload_n 1, 1) := by decide +kernel
theorem d_LW_law_350 : decode b_LW_law 350 = .ok (.aload_n 0, 1) := by decide +kernel
theorem d_LW_law_351 : decode b_LW_law 351 = .ok (.iload_n 3, 1) := by decide +kernel
theorem d_LW_law_352 : decode b_LW_law 352 = .ok (.iconst 1, 1) := by decide +kernel
theorem d_LW_law_353 : decode b_LW_law 353 = .ok (.iadd, 1) := by decide +kernel
theorem d_LW_law_354 : decode b_LW_law 354 = .ok (.iaload, 1) := by decide +kernel
theorem d_LW_law_355 : decode b_LW_law 355 = .ok (.i2l, 1) := by decide +kernel
theorem d_LW_law_356 : decode b_LW_law 356 = .ok (.bipush 32, 2) := by decide +kernel
theorem d_LW_law_358 : decode b_LW_law 358 = .ok (.lshl, 1) := by decide +kernel
theorem d_LW_law_359 : decode b_LW_law 359 = .ok (.aload_n 0, 1) := by decide +kernel
theorem d_LW_law_360 : decode b_LW_law 360 = .ok (.iload_n 3, 1) := by decide +kernel
