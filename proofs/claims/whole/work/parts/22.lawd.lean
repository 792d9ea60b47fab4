theorem dL_law_0 : decode code 0 = .ok (.new 7, 3) := by decide +kernel
theorem dL_law_3 : decode code 3 = .ok (.dup, 1) := by decide +kernel
theorem dL_law_4 : decode code 4 = .ok (.invokespecial 9, 3) := by decide +kernel
theorem dL_law_7 : decode code 7 = .ok (.astore_n 1, 1) := by decide +kernel
theorem dL_law_8 : decode code 8 = .ok (.new 10, 3) := by decide +kernel
theorem dL_law_11 : decode code 11 = .ok (.dup, 1) := by decide +kernel
theorem dL_law_12 : decode code 12 = .ok (.invokespecial 12, 3) := by decide +kernel
theorem dL_law_15 : decode code 15 = .ok (.astore_n 2, 1) := by decide +kernel
theorem dL_law_16 : decode code 16 = .ok (.iconst 0, 1) := by decide +kernel
theorem dL_law_17 : decode code 17 = .ok (.istore_n 3, 1) := by decide +kernel
theorem dL_law_18 : decode code 18 = .ok (.iload_n 3, 1) := by decide +kernel
theorem dL_law_19 : decode code 19 = .ok (.aload_n 0, 1) := by decide +kernel
theorem dL_law_20 : decode code 20 = .ok (.arraylength, 1) := by decide +kernel
theorem dL_law_21 : decode code 21 = .ok (.iconst 4, 1) := by decide +kernel
theorem dL_law_22 : decode code 22 = .ok (.isub, 1) := by decide +kernel
theorem dL_law_23 : decode code 23 = .ok (.if_icmp .gt 559, 3) := by decide +kernel
theorem dL_law_26 : decode code 26 = .ok (.aload_n 0, 1) := by decide +kernel
theorem dL_law_27 : decode code 27 = .ok (.iload_n 3, 1) := by decide +kernel
theorem dL_law_28 : decode code 28 = .ok (.iaload, 1) := by decide +kernel
theorem dL_law_29 : decode code 29 = .ok (.bipush 31, 2) := by decide +kernel
theorem dL_law_31 : decode code 31 = .ok (.iand, 1) := by decide +kernel
theorem dL_law_32 : decode code 32 = .ok (.tableswitch 544 0 19 #[96, 107, 120, 163, 186, 199, 222, 265, 298, 321, 334, 347, 360, 383, 396, 419, 442, 465, 508, 531], 96) := by decide +kernel
theorem dL_law_128 : decode code 128 = .ok (.aload_n 1, 1) := by decide +kernel
theorem dL_law_129 : decode code 129 = .ok (.invokevirtual 13, 3) := by decide +kernel
theorem dL_law_132 : decode code 132 = .ok (.aload_n 2, 1) := by decide +kernel
theorem dL_law_133 : decode code 133 = .ok (.invokevirtual 16, 3) := by decide +kernel
theorem dL_law_136 : decode code 136 = .ok (.goto 440, 3) := by decide +kernel
theorem dL_law_139 : decode code 139 = .ok (.aload_n 1, 1) := by decide +kernel
theorem dL_law_140 : decode code 140 = .ok (.invokevirtual 17, 3) := by decide +kernel
theorem dL_law_143 : decode code 143 = .ok (.aload_n 2, 1) := by decide +kernel
theorem dL_law_144 : decode code 144 = .ok (.invokevirtual 21, 3) := by decide +kernel
theorem dL_law_147 : decode code 147 = .ok (.if_icmp .eq 429, 3) := by decide +kernel
theorem dL_law_150 : decode code 150 = .ok (.iconst 0, 1) := by decide +kernel
theorem dL_law_151 : decode code 151 = .ok (.ireturn, 1) := by decide +kernel
theorem dL_law_152 : decode code 152 = .ok (.aload_n 1, 1) := by decide +kernel
theorem dL_law_153 : decode code 153 = .ok (.aload_n 0, 1) := by decide +kernel
theorem dL_law_154 : decode code 154 = .ok (.iload_n 3, 1) := by decide +kernel
theorem dL_law_155 : decode code 155 = .ok (.iconst 1, 1) := by decide +kernel
theorem dL_law_156 : decode code 156 = .ok (.iadd, 1) := by decide +kernel
theorem dL_law_157 : decode code 157 = .ok (.iaload, 1) := by decide +kernel
theorem dL_law_158 : decode code 158 = .ok (.aload_n 0, 1) := by decide +kernel
theorem dL_law_159 : decode code 159 = .ok (.iload_n 3, 1) := by decide +kernel
theorem dL_law_160 : decode code 160 = .ok (.iconst 2, 1) := by decide +kernel
theorem dL_law_161 : decode code 161 = .ok (.iadd, 1) := by decide +kernel
theorem dL_law_162 : decode code 162 = .ok (.iaload, 1) := by decide +kernel
theorem dL_law_163 : decode code 163 = .ok (.aload_n 0, 1) := by decide +kernel
theorem dL_law_164 : decode code 164 = .ok (.iload_n 3, 1) := by decide +kernel
theorem dL_law_165 : decode code 165 = .ok (.iconst 3, 1) := by decide +kernel
theorem dL_law_166 : decode code 166 = .ok (.iadd, 1) := by decide +kernel
theorem dL_law_167 : decode code 167 = .ok (.iaload, 1) := by decide +kernel
theorem dL_law_168 : decode code 168 = .ok (.invokevirtual 22, 3) := by decide +kernel
theorem dL_law_171 : decode code 171 = .ok (.aload_n 2, 1) := by decide +kernel
theorem dL_law_172 : decode code 172 = .ok (.aload_n 0, 1) := by decide +kernel
theorem dL_law_173 : decode code 173 = .ok (.iload_n 3, 1) := by decide +kernel
theorem dL_law_174 : decode code 174 = .ok (.iconst 1, 1) := by decide +kernel
theorem dL_law_175 : decode code 175 = .ok (.iadd, 1) := by decide +kernel
theorem dL_law_176 : decode code 176 = .ok (.iaload, 1) := by decide +kernel
theorem dL_law_177 : decode code 177 = .ok (.aload_n 0, 1) := by decide +kernel
theorem dL_law_178 : decode code 178 = .ok (.iload_n 3, 1) := by decide +kernel
theorem dL_law_179 : decode code 179 = .ok (.iconst 2, 1) := by decide +kernel
theorem dL_law_180 : decode code 180 = .ok (.iadd, 1) := by decide +kernel
theorem dL_law_181 : decode code 181 = .ok (.iaload, 1) := by decide +kernel
theorem dL_law_182 : decode code 182 = .ok (.aload_n 0, 1) := by decide +kernel
theorem dL_law_183 : decode code 183 = .ok (.iload_n 3, 1) := by decide +kernel
theorem dL_law_184 : decode code 184 = .ok (.iconst 3, 1) := by decide +kernel
theorem dL_law_185 : decode code 185 = .ok (.iadd, 1) := by decide +kernel
theorem dL_law_186 : decode code 186 = .ok (.iaload, 1) := by decide +kernel
theorem dL_law_187 : decode code 187 = .ok (.invokevirtual 26, 3) := by decide +kernel
theorem dL_law_190 : decode code 190 = .ok (.if_icmp .eq 386, 3) := by decide +kernel
theorem dL_law_193 : decode code 193 = .ok (.iconst 0, 1) := by decide +kernel
theorem dL_law_194 : decode code 194 = .ok (.ireturn, 1) := by decide +kernel
theorem dL_law_195 : decode code 195 = .ok (.aload_n 1, 1) := by decide +kernel
theorem dL_law_196 : decode code 196 = .ok (.aload_n 0, 1) := by decide +kernel
theorem dL_law_197 : decode code 197 = .ok (.iload_n 3, 1) := by decide +kernel
theorem dL_law_198 : decode code 198 = .ok (.iconst 1, 1) := by decide +kernel
theorem dL_law_199 : decode code 199 = .ok (.iadd, 1) := by decide +kernel
theorem dL_law_200 : decode code 200 = .ok (.iaload, 1) := by decide +kernel
theorem dL_law_201 : decode code 201 = .ok (.invokevirtual 27, 3) := by decide +kernel
theorem dL_law_204 : decode code 204 = .ok (.aload_n 2, 1) := by decide +kernel
theorem dL_law_205 : decode code 205 = .ok (.aload_n 0, 1) := by decide +kernel
theorem dL_law_206 : decode code 206 = .ok (.iload_n 3, 1) := by decide +kernel
theorem dL_law_207 : decode code 207 = .ok (.iconst 1, 1) := by decide +kernel
theorem dL_law_208 : decode code 208 = .ok (.iadd, 1) := by decide +kernel
theorem dL_law_209 : decode code 209 = .ok (.iaload, 1) := by decide +kernel
theorem dL_law_210 : decode code 210 = .ok (.invokevirtual 31, 3) := by decide +kernel
theorem dL_law_213 : decode code 213 = .ok (.if_icmp .eq 363, 3) := by decide +kernel
theorem dL_law_216 : decode code 216 = .ok (.iconst 0, 1) := by decide +kernel
theorem dL_law_217 : decode code 217 = .ok (.ireturn, 1) := by decide +kernel
theorem dL_law_218 : decode code 218 = .ok (.aload_n 1, 1) := by decide +kernel
theorem dL_law_219 : decode code 219 = .ok (.invokevirtual 32, 3) := by decide +kernel
theorem dL_law_222 : decode code 222 = .ok (.aload_n 2, 1) := by decide +kernel
theorem dL_law_223 : decode code 223 = .ok (.invokevirtual 35, 3) := by decide +kernel
theorem dL_law_226 : decode code 226 = .ok (.if_icmp .eq 350, 3) := by decide +kernel
theorem dL_law_229 : decode code 229 = .ok (.iconst 0, 1) := by decide +kernel
theorem dL_law_230 : decode code 230 = .ok (.ireturn, 1) := by decide +kernel
theorem dL_law_231 : decode code 231 = .ok (.aload_n 1, 1) := by decide +kernel
theorem dL_law_232 : decode code 232 = .ok (.aload_n 0, 1) := by decide +kernel
theorem dL_law_233 : decode code 233 = .ok (.iload_n 3, 1) := by decide +kernel
theorem dL_law_234 : decode code 234 = .ok (.iconst 1, 1) := by decide +kernel
theorem dL_law_235 : decode code 235 = .ok (.iadd, 1) := by decide +kernel
theorem dL_law_236 : decode code 236 = .ok (.iaload, 1) := by decide +kernel
theorem dL_law_237 : decode code 237 = .ok (.invokevirtual 36, 3) := by decide +kernel
theorem dL_law_240 : decode code 240 = .ok (.aload_n 2, 1) := by decide +kernel
theorem dL_law_241 : decode code 241 = .ok (.aload_n 0, 1) := by decide +kernel
theorem dL_law_242 : decode code 242 = .ok (.iload_n 3, 1) := by decide +kernel
theorem dL_law_243 : decode code 243 = .ok (.iconst 1, 1) := by decide +kernel
theorem dL_law_244 : decode code 244 = .ok (.iadd, 1) := by decide +kernel
theorem dL_law_245 : decode code 245 = .ok (.iaload, 1) := by decide +kernel
theorem dL_law_246 : decode code 246 = .ok (.invokevirtual 39, 3) := by decide +kernel
theorem dL_law_249 : decode code 249 = .ok (.if_icmp .eq 327, 3) := by decide +kernel
theorem dL_law_252 : decode code 252 = .ok (.iconst 0, 1) := by decide +kernel
theorem dL_law_253 : decode code 253 = .ok (.ireturn, 1) := by decide +kernel
theorem dL_law_254 : decode code 254 = .ok (.aload_n 1, 1) := by decide +kernel
theorem dL_law_255 : decode code 255 = .ok (.aload_n 0, 1) := by decide +kernel
theorem dL_law_256 : decode code 256 = .ok (.iload_n 3, 1) := by decide +kernel
theorem dL_law_257 : decode code 257 = .ok (.iconst 1, 1) := by decide +kernel
theorem dL_law_258 : decode code 258 = .ok (.iadd, 1) := by decide +kernel
theorem dL_law_259 : decode code 259 = .ok (.iaload, 1) := by decide +kernel
theorem dL_law_260 : decode code 260 = .ok (.aload_n 0, 1) := by decide +kernel
theorem dL_law_261 : decode code 261 = .ok (.iload_n 3, 1) := by decide +kernel
theorem dL_law_262 : decode code 262 = .ok (.iconst 2, 1) := by decide +kernel
theorem dL_law_263 : decode code 263 = .ok (.iadd, 1) := by decide +kernel
theorem dL_law_264 : decode code 264 = .ok (.iaload, 1) := by decide +kernel
theorem dL_law_265 : decode code 265 = .ok (.aload_n 0, 1) := by decide +kernel
theorem dL_law_266 : decode code 266 = .ok (.iload_n 3, 1) := by decide +kernel
theorem dL_law_267 : decode code 267 = .ok (.iconst 3, 1) := by decide +kernel
theorem dL_law_268 : decode code 268 = .ok (.iadd, 1) := by decide +kernel
theorem dL_law_269 : decode code 269 = .ok (.iaload, 1) := by decide +kernel
theorem dL_law_270 : decode code 270 = .ok (.invokevirtual 40, 3) := by decide +kernel
theorem dL_law_273 : decode code 273 = .ok (.aload_n 2, 1) := by decide +kernel
theorem dL_law_274 : decode code 274 = .ok (.aload_n 0, 1) := by decide +kernel
theorem dL_law_275 : decode code 275 = .ok (.iload_n 3, 1) := by decide +kernel
theorem dL_law_276 : decode code 276 = .ok (.iconst 1, 1) := by decide +kernel
theorem dL_law_277 : decode code 277 = .ok (.iadd, 1) := by decide +kernel
theorem dL_law_278 : decode code 278 = .ok (.iaload, 1) := by decide +kernel
theorem dL_law_279 : decode code 279 = .ok (.aload_n 0, 1) := by decide +kernel
theorem dL_law_280 : decode code 280 = .ok (.iload_n 3, 1) := by decide +kernel
theorem dL_law_281 : decode code 281 = .ok (.iconst 2, 1) := by decide +kernel
theorem dL_law_282 : decode code 282 = .ok (.iadd, 1) := by decide +kernel
theorem dL_law_283 : decode code 283 = .ok (.iaload, 1) := by decide +kernel
theorem dL_law_284 : decode code 284 = .ok (.aload_n 0, 1) := by decide +kernel
theorem dL_law_285 : decode code 285 = .ok (.iload_n 3, 1) := by decide +kernel
theorem dL_law_286 : decode code 286 = .ok (.iconst 3, 1) := by decide +kernel
theorem dL_law_287 : decode code 287 = .ok (.iadd, 1) := by decide +kernel
theorem dL_law_288 : decode code 288 = .ok (.iaload, 1) := by decide +kernel
theorem dL_law_289 : decode code 289 = .ok (.invokevirtual 43, 3) := by decide +kernel
theorem dL_law_292 : decode code 292 = .ok (.if_icmp .eq 284, 3) := by decide +kernel
theorem dL_law_295 : decode code 295 = .ok (.iconst 0, 1) := by decide +kernel
theorem dL_law_296 : decode code 296 = .ok (.ireturn, 1) := by decide +kernel
theorem dL_law_297 : decode code 297 = .ok (.aload_n 1, 1) := by decide +kernel
theorem dL_law_298 : decode code 298 = .ok (.aload_n 0, 1) := by decide +kernel
theorem dL_law_299 : decode code 299 = .ok (.iload_n 3, 1) := by decide +kernel
theorem dL_law_300 : decode code 300 = .ok (.iconst 1, 1) := by decide +kernel
theorem dL_law_301 : decode code 301 = .ok (.iadd, 1) := by decide +kernel
theorem dL_law_302 : decode code 302 = .ok (.iaload, 1) := by decide +kernel
theorem dL_law_303 : decode code 303 = .ok (.aload_n 0, 1) := by decide +kernel
theorem dL_law_304 : decode code 304 = .ok (.iload_n 3, 1) := by decide +kernel
theorem dL_law_305 : decode code 305 = .ok (.iconst 2, 1) := by decide +kernel
theorem dL_law_306 : decode code 306 = .ok (.iadd, 1) := by decide +kernel
theorem dL_law_307 : decode code 307 = .ok (.iaload, 1) := by decide +kernel
theorem dL_law_308 : decode code 308 = .ok (.invokevirtual 44, 3) := by decide +kernel
theorem dL_law_311 : decode code 311 = .ok (.aload_n 2, 1) := by decide +kernel
theorem dL_law_312 : decode code 312 = .ok (.aload_n 0, 1) := by decide +kernel
theorem dL_law_313 : decode code 313 = .ok (.iload_n 3, 1) := by decide +kernel
theorem dL_law_314 : decode code 314 = .ok (.iconst 1, 1) := by decide +kernel
theorem dL_law_315 : decode code 315 = .ok (.iadd, 1) := by decide +kernel
theorem dL_law_316 : decode code 316 = .ok (.iaload, 1) := by decide +kernel
theorem dL_law_317 : decode code 317 = .ok (.aload_n 0, 1) := by decide +kernel
theorem dL_law_318 : decode code 318 = .ok (.iload_n 3, 1) := by decide +kernel
theorem dL_law_319 : decode code 319 = .ok (.iconst 2, 1) := by decide +kernel
theorem dL_law_320 : decode code 320 = .ok (.iadd, 1) := by decide +kernel
theorem dL_law_321 : decode code 321 = .ok (.iaload, 1) := by decide +kernel
theorem dL_law_322 : decode code 322 = .ok (.invokevirtual 48, 3) := by decide +kernel
theorem dL_law_325 : decode code 325 = .ok (.if_icmp .eq 251, 3) := by decide +kernel
theorem dL_law_328 : decode code 328 = .ok (.iconst 0, 1) := by decide +kernel
theorem dL_law_329 : decode code 329 = .ok (.ireturn, 1) := by decide +kernel
theorem dL_law_330 : decode code 330 = .ok (.aload_n 1, 1) := by decide +kernel
theorem dL_law_331 : decode code 331 = .ok (.aload_n 0, 1) := by decide +kernel
theorem dL_law_332 : decode code 332 = .ok (.iload_n 3, 1) := by decide +kernel
theorem dL_law_333 : decode code 333 = .ok (.iconst 1, 1) := by decide +kernel
theorem dL_law_334 : decode code 334 = .ok (.iadd, 1) := by decide +kernel
theorem dL_law_335 : decode code 335 = .ok (.iaload, 1) := by decide +kernel
theorem dL_law_336 : decode code 336 = .ok (.invokevirtual 49, 3) := by decide +kernel
theorem dL_law_339 : decode code 339 = .ok (.aload_n 2, 1) := by decide +kernel
theorem dL_law_340 : decode code 340 = .ok (.aload_n 0, 1) := by decide +kernel
theorem dL_law_341 : decode code 341 = .ok (.iload_n 3, 1) := by decide +kernel
theorem dL_law_342 : decode code 342 = .ok (.iconst 1, 1) := by decide +kernel
theorem dL_law_343 : decode code 343 = .ok (.iadd, 1) := by decide +kernel
theorem dL_law_344 : decode code 344 = .ok (.iaload, 1) := by decide +kernel
theorem dL_law_345 : decode code 345 = .ok (.invokevirtual 52, 3) := by decide +kernel
theorem dL_law_348 : decode code 348 = .ok (.if_icmp .eq 228, 3) := by decide +kernel
theorem dL_law_351 : decode code 351 = .ok (.iconst 0, 1) := by decide +kernel
theorem dL_law_352 : decode code 352 = .ok (.ireturn, 1) := by decide +kernel
theorem dL_law_353 : decode code 353 = .ok (.aload_n 1, 1) := by decide +kernel
theorem dL_law_354 : decode code 354 = .ok (.invokevirtual 53, 3) := by decide +kernel
theorem dL_law_357 : decode code 357 = .ok (.aload_n 2, 1) := by decide +kernel
theorem dL_law_358 : decode code 358 = .ok (.invokevirtual 56, 3) := by decide +kernel
theorem dL_law_361 : decode code 361 = .ok (.if_icmp .eq 215, 3) := by decide +kernel
theorem dL_law_364 : decode code 364 = .ok (.iconst 0, 1) := by decide +kernel
theorem dL_law_365 : decode code 365 = .ok (.ireturn, 1) := by decide +kernel
theorem dL_law_366 : decode code 366 = .ok (.aload_n 1, 1) := by decide +kernel
theorem dL_law_367 : decode code 367 = .ok (.invokevirtual 57, 3) := by decide +kernel
theorem dL_law_370 : decode code 370 = .ok (.aload_n 2, 1) := by decide +kernel
theorem dL_law_371 : decode code 371 = .ok (.invokevirtual 60, 3) := by decide +kernel
theorem dL_law_374 : decode code 374 = .ok (.if_icmp .eq 202, 3) := by decide +kernel
theorem dL_law_377 : decode code 377 = .ok (.iconst 0, 1) := by decide +kernel
theorem dL_law_378 : decode code 378 = .ok (.ireturn, 1) := by decide +kernel
theorem dL_law_379 : decode code 379 = .ok (.aload_n 1, 1) := by decide +kernel
theorem dL_law_380 : decode code 380 = .ok (.invokevirtual 61, 3) := by decide +kernel
theorem dL_law_383 : decode code 383 = .ok (.aload_n 2, 1) := by decide +kernel
theorem dL_law_384 : decode code 384 = .ok (.invokevirtual 64, 3) := by decide +kernel
theorem dL_law_387 : decode code 387 = .ok (.if_icmp .eq 189, 3) := by decide +kernel
theorem dL_law_390 : decode code 390 = .ok (.iconst 0, 1) := by decide +kernel
theorem dL_law_391 : decode code 391 = .ok (.ireturn, 1) := by decide +kernel
theorem dL_law_392 : decode code 392 = .ok (.aload_n 1, 1) := by decide +kernel
theorem dL_law_393 : decode code 393 = .ok (.aload_n 0, 1) := by decide +kernel
theorem dL_law_394 : decode code 394 = .ok (.iload_n 3, 1) := by decide +kernel
theorem dL_law_395 : decode code 395 = .ok (.iconst 1, 1) := by decide +kernel
theorem dL_law_396 : decode code 396 = .ok (.iadd, 1) := by decide +kernel
theorem dL_law_397 : decode code 397 = .ok (.iaload, 1) := by decide +kernel
theorem dL_law_398 : decode code 398 = .ok (.invokevirtual 65, 3) := by decide +kernel
theorem dL_law_401 : decode code 401 = .ok (.aload_n 2, 1) := by decide +kernel
theorem dL_law_402 : decode code 402 = .ok (.aload_n 0, 1) := by decide +kernel
theorem dL_law_403 : decode code 403 = .ok (.iload_n 3, 1) := by decide +kernel
theorem dL_law_404 : decode code 404 = .ok (.iconst 1, 1) := by decide +kernel
theorem dL_law_405 : decode code 405 = .ok (.iadd, 1) := by decide +kernel
theorem dL_law_406 : decode code 406 = .ok (.iaload, 1) := by decide +kernel
theorem dL_law_407 : decode code 407 = .ok (.invokevirtual 68, 3) := by decide +kernel
theorem dL_law_410 : decode code 410 = .ok (.if_icmp .eq 166, 3) := by decide +kernel
theorem dL_law_413 : decode code 413 = .ok (.iconst 0, 1) := by decide +kernel
theorem dL_law_414 : decode code 414 = .ok (.ireturn, 1) := by decide +kernel
theorem dL_law_415 : decode code 415 = .ok (.aload_n 1, 1) := by decide +kernel
theorem dL_law_416 : decode code 416 = .ok (.invokevirtual 69, 3) := by decide +kernel
theorem dL_law_419 : decode code 419 = .ok (.aload_n 2, 1) := by decide +kernel
theorem dL_law_420 : decode code 420 = .ok (.invokevirtual 72, 3) := by decide +kernel
theorem dL_law_423 : decode code 423 = .ok (.if_icmp .eq 153, 3) := by decide +kernel
theorem dL_law_426 : decode code 426 = .ok (.iconst 0, 1) := by decide +kernel
theorem dL_law_427 : decode code 427 = .ok (.ireturn, 1) := by decide +kernel
theorem dL_law_428 : decode code 428 = .ok (.aload_n 1, 1) := by decide +kernel
theorem dL_law_429 : decode code 429 = .ok (.aload_n 0, 1) := by decide +kernel
theorem dL_law_430 : decode code 430 = .ok (.iload_n 3, 1) := by decide +kernel
theorem dL_law_431 : decode code 431 = .ok (.iconst 1, 1) := by decide +kernel
theorem dL_law_432 : decode code 432 = .ok (.iadd, 1) := by decide +kernel
theorem dL_law_433 : decode code 433 = .ok (.iaload, 1) := by decide +kernel
theorem dL_law_434 : decode code 434 = .ok (.invokevirtual 73, 3) := by decide +kernel
theorem dL_law_437 : decode code 437 = .ok (.aload_n 2, 1) := by decide +kernel
theorem dL_law_438 : decode code 438 = .ok (.aload_n 0, 1) := by decide +kernel
theorem dL_law_439 : decode code 439 = .ok (.iload_n 3, 1) := by decide +kernel
theorem dL_law_440 : decode code 440 = .ok (.iconst 1, 1) := by decide +kernel
theorem dL_law_441 : decode code 441 = .ok (.iadd, 1) := by decide +kernel
theorem dL_law_442 : decode code 442 = .ok (.iaload, 1) := by decide +kernel
theorem dL_law_443 : decode code 443 = .ok (.invokevirtual 76, 3) := by decide +kernel
theorem dL_law_446 : decode code 446 = .ok (.if_icmp .eq 130, 3) := by decide +kernel
theorem dL_law_449 : decode code 449 = .ok (.iconst 0, 1) := by decide +kernel
theorem dL_law_450 : decode code 450 = .ok (.ireturn, 1) := by decide +kernel
theorem dL_law_451 : decode code 451 = .ok (.aload_n 1, 1) := by decide +kernel
theorem dL_law_452 : decode code 452 = .ok (.aload_n 0, 1) := by decide +kernel
theorem dL_law_453 : decode code 453 = .ok (.iload_n 3, 1) := by decide +kernel
theorem dL_law_454 : decode code 454 = .ok (.iconst 1, 1) := by decide +kernel
theorem dL_law_455 : decode code 455 = .ok (.iadd, 1) := by decide +kernel
theorem dL_law_456 : decode code 456 = .ok (.iaload, 1) := by decide +kernel
theorem dL_law_457 : decode code 457 = .ok (.invokevirtual 77, 3) := by decide +kernel
theorem dL_law_460 : decode code 460 = .ok (.aload_n 2, 1) := by decide +kernel
theorem dL_law_461 : decode code 461 = .ok (.aload_n 0, 1) := by decide +kernel
theorem dL_law_462 : decode code 462 = .ok (.iload_n 3, 1) := by decide +kernel
theorem dL_law_463 : decode code 463 = .ok (.iconst 1, 1) := by decide +kernel
theorem dL_law_464 : decode code 464 = .ok (.iadd, 1) := by decide +kernel
theorem dL_law_465 : decode code 465 = .ok (.iaload, 1) := by decide +kernel
theorem dL_law_466 : decode code 466 = .ok (.invokevirtual 80, 3) := by decide +kernel
theorem dL_law_469 : decode code 469 = .ok (.if_icmp .eq 107, 3) := by decide +kernel
theorem dL_law_472 : decode code 472 = .ok (.iconst 0, 1) := by decide +kernel
theorem dL_law_473 : decode code 473 = .ok (.ireturn, 1) := by decide +kernel
theorem dL_law_474 : decode code 474 = .ok (.aload_n 1, 1) := by decide +kernel
theorem dL_law_475 : decode code 475 = .ok (.aload_n 0, 1) := by decide +kernel
theorem dL_law_476 : decode code 476 = .ok (.iload_n 3, 1) := by decide +kernel
theorem dL_law_477 : decode code 477 = .ok (.iconst 1, 1) := by decide +kernel
theorem dL_law_478 : decode code 478 = .ok (.iadd, 1) := by decide +kernel
theorem dL_law_479 : decode code 479 = .ok (.iaload, 1) := by decide +kernel
theorem dL_law_480 : decode code 480 = .ok (.invokevirtual 81, 3) := by decide +kernel
theorem dL_law_483 : decode code 483 = .ok (.aload_n 2, 1) := by decide +kernel
theorem dL_law_484 : decode code 484 = .ok (.aload_n 0, 1) := by decide +kernel
theorem dL_law_485 : decode code 485 = .ok (.iload_n 3, 1) := by decide +kernel
theorem dL_law_486 : decode code 486 = .ok (.iconst 1, 1) := by decide +kernel
theorem dL_law_487 : decode code 487 = .ok (.iadd, 1) := by decide +kernel
theorem dL_law_488 : decode code 488 = .ok (.iaload, 1) := by decide +kernel
theorem dL_law_489 : decode code 489 = .ok (.invokevirtual 84, 3) := by decide +kernel
theorem dL_law_492 : decode code 492 = .ok (.if_icmp .eq 84, 3) := by decide +kernel
theorem dL_law_495 : decode code 495 = .ok (.iconst 0, 1) := by decide +kernel
theorem dL_law_496 : decode code 496 = .ok (.ireturn, 1) := by decide +kernel
theorem dL_law_497 : decode code 497 = .ok (.aload_n 1, 1) := by decide +kernel
theorem dL_law_498 : decode code 498 = .ok (.aload_n 0, 1) := by decide +kernel
theorem dL_law_499 : decode code 499 = .ok (.iload_n 3, 1) := by decide +kernel
theorem dL_law_500 : decode code 500 = .ok (.iconst 1, 1) := by decide +kernel
theorem dL_law_501 : decode code 501 = .ok (.iadd, 1) := by decide +kernel
theorem dL_law_502 : decode code 502 = .ok (.iaload, 1) := by decide +kernel
theorem dL_law_503 : decode code 503 = .ok (.aload_n 0, 1) := by decide +kernel
theorem dL_law_504 : decode code 504 = .ok (.iload_n 3, 1) := by decide +kernel
theorem dL_law_505 : decode code 505 = .ok (.iconst 2, 1) := by decide +kernel
theorem dL_law_506 : decode code 506 = .ok (.iadd, 1) := by decide +kernel
theorem dL_law_507 : decode code 507 = .ok (.iaload, 1) := by decide +kernel
theorem dL_law_508 : decode code 508 = .ok (.aload_n 0, 1) := by decide +kernel
theorem dL_law_509 : decode code 509 = .ok (.iload_n 3, 1) := by decide +kernel
theorem dL_law_510 : decode code 510 = .ok (.iconst 3, 1) := by decide +kernel
theorem dL_law_511 : decode code 511 = .ok (.iadd, 1) := by decide +kernel
theorem dL_law_512 : decode code 512 = .ok (.iaload, 1) := by decide +kernel
theorem dL_law_513 : decode code 513 = .ok (.invokevirtual 85, 3) := by decide +kernel
theorem dL_law_516 : decode code 516 = .ok (.aload_n 2, 1) := by decide +kernel
theorem dL_law_517 : decode code 517 = .ok (.aload_n 0, 1) := by decide +kernel
theorem dL_law_518 : decode code 518 = .ok (.iload_n 3, 1) := by decide +kernel
theorem dL_law_519 : decode code 519 = .ok (.iconst 1, 1) := by decide +kernel
theorem dL_law_520 : decode code 520 = .ok (.iadd, 1) := by decide +kernel
theorem dL_law_521 : decode code 521 = .ok (.iaload, 1) := by decide +kernel
theorem dL_law_522 : decode code 522 = .ok (.aload_n 0, 1) := by decide +kernel
theorem dL_law_523 : decode code 523 = .ok (.iload_n 3, 1) := by decide +kernel
theorem dL_law_524 : decode code 524 = .ok (.iconst 2, 1) := by decide +kernel
theorem dL_law_525 : decode code 525 = .ok (.iadd, 1) := by decide +kernel
theorem dL_law_526 : decode code 526 = .ok (.iaload, 1) := by decide +kernel
theorem dL_law_527 : decode code 527 = .ok (.aload_n 0, 1) := by decide +kernel
theorem dL_law_528 : decode code 528 = .ok (.iload_n 3, 1) := by decide +kernel
theorem dL_law_529 : decode code 529 = .ok (.iconst 3, 1) := by decide +kernel
theorem dL_law_530 : decode code 530 = .ok (.iadd, 1) := by decide +kernel
theorem dL_law_531 : decode code 531 = .ok (.iaload, 1) := by decide +kernel
theorem dL_law_532 : decode code 532 = .ok (.invokevirtual 88, 3) := by decide +kernel
theorem dL_law_535 : decode code 535 = .ok (.if_icmp .eq 41, 3) := by decide +kernel
theorem dL_law_538 : decode code 538 = .ok (.iconst 0, 1) := by decide +kernel
theorem dL_law_539 : decode code 539 = .ok (.ireturn, 1) := by decide +kernel
theorem dL_law_540 : decode code 540 = .ok (.aload_n 1, 1) := by decide +kernel
theorem dL_law_541 : decode code 541 = .ok (.aload_n 0, 1) := by decide +kernel
theorem dL_law_542 : decode code 542 = .ok (.iload_n 3, 1) := by decide +kernel
theorem dL_law_543 : decode code 543 = .ok (.iconst 1, 1) := by decide +kernel
theorem dL_law_544 : decode code 544 = .ok (.iadd, 1) := by decide +kernel
theorem dL_law_545 : decode code 545 = .ok (.iaload, 1) := by decide +kernel
theorem dL_law_546 : decode code 546 = .ok (.invokevirtual 89, 3) := by decide +kernel
theorem dL_law_549 : decode code 549 = .ok (.aload_n 2, 1) := by decide +kernel
theorem dL_law_550 : decode code 550 = .ok (.aload_n 0, 1) := by decide +kernel
theorem dL_law_551 : decode code 551 = .ok (.iload_n 3, 1) := by decide +kernel
theorem dL_law_552 : decode code 552 = .ok (.iconst 1, 1) := by decide +kernel
theorem dL_law_553 : decode code 553 = .ok (.iadd, 1) := by decide +kernel
theorem dL_law_554 : decode code 554 = .ok (.iaload, 1) := by decide +kernel
theorem dL_law_555 : decode code 555 = .ok (.invokevirtual 92, 3) := by decide +kernel
theorem dL_law_558 : decode code 558 = .ok (.if_icmp .eq 18, 3) := by decide +kernel
theorem dL_law_561 : decode code 561 = .ok (.iconst 0, 1) := by decide +kernel
theorem dL_law_562 : decode code 562 = .ok (.ireturn, 1) := by decide +kernel
theorem dL_law_563 : decode code 563 = .ok (.aload_n 1, 1) := by decide +kernel
theorem dL_law_564 : decode code 564 = .ok (.invokevirtual 93, 3) := by decide +kernel
theorem dL_law_567 : decode code 567 = .ok (.aload_n 2, 1) := by decide +kernel
theorem dL_law_568 : decode code 568 = .ok (.invokevirtual 96, 3) := by decide +kernel
theorem dL_law_571 : decode code 571 = .ok (.if_icmp .eq 5, 3) := by decide +kernel
theorem dL_law_574 : decode code 574 = .ok (.iconst 0, 1) := by decide +kernel
theorem dL_law_575 : decode code 575 = .ok (.ireturn, 1) := by decide +kernel
theorem dL_law_576 : decode code 576 = .ok (.iinc 3 4, 3) := by decide +kernel
theorem dL_law_579 : decode code 579 = .ok (.goto (-561), 3) := by decide +kernel
theorem dL_law_582 : decode code 582 = .ok (.iconst 1, 1) := by decide +kernel
theorem dL_law_583 : decode code 583 = .ok (.ireturn, 1) := by decide +kernel
theorem CL_C_clear : ck_C R_law 13 yC_clear bC_clear 1 none 0 := ⟨kC_clear, ck_T_mk (List.mem_of_getElem? (i := 281) (by decide +kernel)) (by decide +kernel), ini_C, by decide +kernel, by decide⟩
theorem CL_R_clear : ck_C R_law 16 yR_clear bR_clear 1 none 0 := ⟨kR_clear, ck_T_mk (List.mem_of_getElem? (i := 917) (by decide +kernel)) (by decide +kernel), ini_R, by decide +kernel, by decide⟩
theorem CL_C_type : ck_C R_law 17 yC_type bC_type 1 (some .int) 0 := ⟨kC_type, ck_T_mk (List.mem_of_getElem? (i := 308) (by decide +kernel)) (by decide +kernel), ini_C, by decide +kernel, by decide⟩
theorem CL_R_type : ck_C R_law 21 yR_type bR_type 1 (some .int) 0 := ⟨kR_type, ck_T_mk (List.mem_of_getElem? (i := 921) (by decide +kernel)) (by decide +kernel), ini_R, by decide +kernel, by decide⟩
theorem CL_C_constructor : ck_C R_law 22 yC_constructor bC_constructor 4 (some .int) 3 := ⟨kC_constructor, ck_T_mk (List.mem_of_getElem? (i := 320) (by decide +kernel)) (by decide +kernel), ini_C, by decide +kernel, by decide⟩
theorem CL_R_constructor : ck_C R_law 26 yR_constructor bR_constructor 4 (some .int) 3 := ⟨kR_constructor, ck_T_mk (List.mem_of_getElem? (i := 925) (by decide +kernel)) (by decide +kernel), ini_R, by decide +kernel, by decide⟩
theorem CL_C_begin : ck_C R_law 27 yC_begin bC_begin 2 (some .int) 1 := ⟨kC_begin, ck_T_mk (List.mem_of_getElem? (i := 344) (by decide +kernel)) (by decide +kernel), ini_C, by decide +kernel, by decide⟩
theorem CL_R_begin : ck_C R_law 31 yR_begin bR_begin 2 (some .int) 1 := ⟨kR_begin, ck_T_mk (List.mem_of_getElem? (i := 937) (by decide +kernel)) (by decide +kernel), ini_R, by decide +kernel, by decide⟩
theorem CL_C_any : ck_C R_law 32 yC_any bC_any 1 (some .int) 0 := ⟨kC_any, ck_T_mk (List.mem_of_getElem? (i := 364) (by decide +kernel)) (by decide +kernel), ini_C, by decide +kernel, by decide⟩
theorem CL_R_any : ck_C R_law 35 yR_any bR_any 1 (some .int) 0 := ⟨kR_any, ck_T_mk (List.mem_of_getElem? (i := 945) (by decide +kernel)) (by decide +kernel), ini_R, by decide +kernel, by decide⟩
theorem CL_C_number : ck_C R_law 36 yC_number bC_number 2 (some .int) 1 := ⟨kC_number, ck_T_mk (List.mem_of_getElem? (i := 384) (by decide +kernel)) (by decide +kernel), ini_C, by decide +kernel, by decide⟩
theorem CL_R_number : ck_C R_law 39 yR_number bR_number 2 (some .int) 1 := ⟨kR_number, ck_T_mk (List.mem_of_getElem? (i := 953) (by decide +kernel)) (by decide +kernel), ini_R, by decide +kernel, by decide⟩
theorem CL_C_build : ck_C R_law 40 yC_build bC_build 6 (some .int) 3 := ⟨kC_build, ck_T_mk (List.mem_of_getElem? (i := 392) (by decide +kernel)) (by decide +kernel), ini_C, by decide +kernel, by decide⟩
theorem CL_R_build : ck_C R_law 43 yR_build bR_build 8 (some .int) 3 := ⟨kR_build, ck_T_mk (List.mem_of_getElem? (i := 957) (by decide +kernel)) (by decide +kernel), ini_R, by decide +kernel, by decide⟩
theorem CL_C_either : ck_C R_law 44 yC_either bC_either 3 (some .int) 2 := ⟨kC_either, ck_T_mk (List.mem_of_getElem? (i := 440) (by decide +kernel)) (by decide +kernel), ini_C, by decide +kernel, by decide⟩
theorem CL_R_either : ck_C R_law 48 yR_either bR_either 6 (some .int) 2 := ⟨kR_either, ck_T_mk (List.mem_of_getElem? (i := 969) (by decide +kernel)) (by decide +kernel), ini_R, by decide +kernel, by decide⟩
theorem CL_C_row : ck_C R_law 49 yC_row bC_row 3 (some .int) 1 := ⟨kC_row, ck_T_mk (List.mem_of_getElem? (i := 453) (by decide +kernel)) (by decide +kernel), ini_C, by decide +kernel, by decide⟩
theorem CL_R_row : ck_C R_law 52 yR_row bR_row 3 (some .int) 1 := ⟨kR_row, ck_T_mk (List.mem_of_getElem? (i := 973) (by decide +kernel)) (by decide +kernel), ini_R, by decide +kernel, by decide⟩
theorem CL_C_compile : ck_C R_law 53 yC_compile bC_compile 1 (some .int) 0 := ⟨kC_compile, ck_T_mk (List.mem_of_getElem? (i := 492) (by decide +kernel)) (by decide +kernel), ini_C, by decide +kernel, by decide⟩
theorem CL_R_compile : ck_C R_law 56 yR_compile bR_compile 2 (some .int) 0 := ⟨kR_compile, ck_T_mk (List.mem_of_getElem? (i := 985) (by decide +kernel)) (by decide +kernel), ini_R, by decide +kernel, by decide⟩
theorem CL_C_kinds : ck_C R_law 57 yC_kinds bC_kinds 1 (some .int) 0 := ⟨kC_kinds, ck_T_mk (List.mem_of_getElem? (i := 635) (by decide +kernel)) (by decide +kernel), ini_C, by decide +kernel, by decide⟩
theorem CL_R_kinds : ck_C R_law 60 yR_kinds bR_kinds 4 (some .int) 0 := ⟨kR_kinds, ck_T_mk (List.mem_of_getElem? (i := 1030) (by decide +kernel)) (by decide +kernel), ini_R, by decide +kernel, by decide⟩
theorem CL_C_longest : ck_C R_law 61 yC_longest bC_longest 1 (some .int) 0 := ⟨kC_longest, ck_T_mk (List.mem_of_getElem? (i := 651) (by decide +kernel)) (by decide +kernel), ini_C, by decide +kernel, by decide⟩
theorem CL_R_longest : ck_C R_law 64 yR_longest bR_longest 4 (some .int) 0 := ⟨kR_longest, ck_T_mk (List.mem_of_getElem? (i := 1038) (by decide +kernel)) (by decide +kernel), ini_R, by decide +kernel, by decide⟩
theorem CL_C_useless : ck_C R_law 65 yC_useless bC_useless 2 (some .int) 1 := ⟨kC_useless, ck_T_mk (List.mem_of_getElem? (i := 660) (by decide +kernel)) (by decide +kernel), ini_C, by decide +kernel, by decide⟩
theorem CL_R_useless : ck_C R_law 68 yR_useless bR_useless 6 (some .int) 1 := ⟨kR_useless, ck_T_mk (List.mem_of_getElem? (i := 1042) (by decide +kernel)) (by decide +kernel), ini_R, by decide +kernel, by decide⟩
theorem CL_C_witnessLength : ck_C R_law 69 yC_witnessLength bC_witnessLength 1 (some .int) 0 := ⟨kC_witnessLength, ck_T_mk (List.mem_of_getElem? (i := 677) (by decide +kernel)) (by decide +kernel), ini_C, by decide +kernel, by decide⟩
theorem CL_R_witnessLength : ck_C R_law 72 yR_witnessLength bR_witnessLength 1 (some .int) 0 := ⟨kR_witnessLength, ck_T_mk (List.mem_of_getElem? (i := 1046) (by decide +kernel)) (by decide +kernel), ini_R, by decide +kernel, by decide⟩
theorem CL_C_witnessKind : ck_C R_law 73 yC_witnessKind bC_witnessKind 2 (some .int) 1 := ⟨kC_witnessKind, ck_T_mk (List.mem_of_getElem? (i := 685) (by decide +kernel)) (by decide +kernel), ini_C, by decide +kernel, by decide⟩
theorem CL_R_witnessKind : ck_C R_law 76 yR_witnessKind bR_witnessKind 2 (some .int) 1 := ⟨kR_witnessKind, ck_T_mk (List.mem_of_getElem? (i := 1050) (by decide +kernel)) (by decide +kernel), ini_R, by decide +kernel, by decide⟩
theorem CL_C_witness : ck_C R_law 77 yC_witness bC_witness 2 (some .int) 1 := ⟨kC_witness, ck_T_mk (List.mem_of_getElem? (i := 698) (by decide +kernel)) (by decide +kernel), ini_C, by decide +kernel, by decide⟩
theorem CL_R_witness : ck_C R_law 80 yR_witness bR_witness 2 (some .int) 1 := ⟨kR_witness, ck_T_mk (List.mem_of_getElem? (i := 1054) (by decide +kernel)) (by decide +kernel), ini_R, by decide +kernel, by decide⟩
theorem CL_C_valueNumber : ck_C R_law 81 yC_valueNumber bC_valueNumber 2 (some .int) 1 := ⟨kC_valueNumber, ck_T_mk (List.mem_of_getElem? (i := 706) (by decide +kernel)) (by decide +kernel), ini_C, by decide +kernel, by decide⟩
theorem CL_R_valueNumber : ck_C R_law 84 yR_valueNumber bR_valueNumber 2 (some .int) 1 := ⟨kR_valueNumber, ck_T_mk (List.mem_of_getElem? (i := 1058) (by decide +kernel)) (by decide +kernel), ini_R, by decide +kernel, by decide⟩
theorem CL_C_valueOf : ck_C R_law 85 yC_valueOf bC_valueOf 6 (some .int) 3 := ⟨kC_valueOf, ck_T_mk (List.mem_of_getElem? (i := 718) (by decide +kernel)) (by decide +kernel), ini_C, by decide +kernel, by decide⟩
theorem CL_R_valueOf : ck_C R_law 88 yR_valueOf bR_valueOf 6 (some .int) 3 := ⟨kR_valueOf, ck_T_mk (List.mem_of_getElem? (i := 1066) (by decide +kernel)) (by decide +kernel), ini_R, by decide +kernel, by decide⟩
theorem CL_C_run : ck_C R_law 89 yC_run bC_run 3 (some .int) 1 := ⟨kC_run, ck_T_mk (List.mem_of_getElem? (i := 732) (by decide +kernel)) (by decide +kernel), ini_C, by decide +kernel, by decide⟩
theorem CL_R_run : ck_C R_law 92 yR_run bR_run 3 (some .int) 1 := ⟨kR_run, ck_T_mk (List.mem_of_getElem? (i := 1078) (by decide +kernel)) (by decide +kernel), ini_R, by decide +kernel, by decide⟩
theorem CL_C_tests : ck_C R_law 93 yC_tests bC_tests 1 (some .int) 0 := ⟨kC_tests, ck_T_mk (List.mem_of_getElem? (i := 765) (by decide +kernel)) (by decide +kernel), ini_C, by decide +kernel, by decide⟩
theorem CL_R_tests : ck_C R_law 96 yR_tests bR_tests 1 (some .int) 0 := ⟨kR_tests, ck_T_mk (List.mem_of_getElem? (i := 1094) (by decide +kernel)) (by decide +kernel), ini_R, by decide +kernel, by decide⟩
theorem CL_Ci : Cond.methodLink R_law 9 yC_init ∈ ck_T := ck_T_mk (List.mem_of_getElem? (i := 56) (by decide +kernel)) (by decide +kernel)
theorem CL_Cn : Cond.classLink R_law 7 R_C ∈ ck_T := ck_T_mk (List.mem_of_getElem? (i := 54) (by decide +kernel)) (by decide +kernel)
theorem CL_Ri : Cond.methodLink R_law 12 yR_init ∈ ck_T := ck_T_mk (List.mem_of_getElem? (i := 771) (by decide +kernel)) (by decide +kernel)
theorem CL_Rn : Cond.classLink R_law 10 R_R ∈ ck_T := ck_T_mk (List.mem_of_getElem? (i := 769) (by decide +kernel)) (by decide +kernel)
