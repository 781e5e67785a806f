theorem dL_law_0 : decode cL_law 0 = .ok (.new 8, 3) := by decide +kernel
theorem dL_law_3 : decode cL_law 3 = .ok (.dup, 1) := by decide +kernel
theorem dL_law_4 : decode cL_law 4 = .ok (.invokespecial 70, 3) := by decide +kernel
theorem dL_law_7 : decode cL_law 7 = .ok (.astore_n 1, 1) := by decide +kernel
theorem dL_law_8 : decode cL_law 8 = .ok (.new 71, 3) := by decide +kernel
theorem dL_law_11 : decode cL_law 11 = .ok (.dup, 1) := by decide +kernel
theorem dL_law_12 : decode cL_law 12 = .ok (.invokespecial 73, 3) := by decide +kernel
theorem dL_law_15 : decode cL_law 15 = .ok (.astore_n 2, 1) := by decide +kernel
theorem dL_law_16 : decode cL_law 16 = .ok (.iconst 1, 1) := by decide +kernel
theorem dL_law_17 : decode cL_law 17 = .ok (.newarray .long, 2) := by decide +kernel
theorem dL_law_19 : decode cL_law 19 = .ok (.astore_n 3, 1) := by decide +kernel
theorem dL_law_20 : decode cL_law 20 = .ok (.iconst 0, 1) := by decide +kernel
theorem dL_law_21 : decode cL_law 21 = .ok (.istore 4, 2) := by decide +kernel
theorem dL_law_23 : decode cL_law 23 = .ok (.iload 4, 2) := by decide +kernel
theorem dL_law_25 : decode cL_law 25 = .ok (.aload_n 0, 1) := by decide +kernel
theorem dL_law_26 : decode cL_law 26 = .ok (.arraylength, 1) := by decide +kernel
theorem dL_law_27 : decode cL_law 27 = .ok (.bipush 6, 2) := by decide +kernel
theorem dL_law_29 : decode cL_law 29 = .ok (.isub, 1) := by decide +kernel
theorem dL_law_30 : decode cL_law 30 = .ok (.if_icmp .gt 1545, 3) := by decide +kernel
theorem dL_law_33 : decode cL_law 33 = .ok (.aload_n 0, 1) := by decide +kernel
theorem dL_law_34 : decode cL_law 34 = .ok (.iload 4, 2) := by decide +kernel
theorem dL_law_36 : decode cL_law 36 = .ok (.iaload, 1) := by decide +kernel
theorem dL_law_37 : decode cL_law 37 = .ok (.bipush 31, 2) := by decide +kernel
theorem dL_law_39 : decode cL_law 39 = .ok (.iand, 1) := by decide +kernel
theorem dL_law_40 : decode cL_law 40 = .ok (.tableswitch 1529 0 23 #[112, 185, 210, 266, 291, 354, 422, 490, 570, 626, 651, 664, 732, 824, 904, 941, 1009, 1065, 1090, 1146, 1226, 1306, 1374, 1454], 112) := by decide +kernel
theorem dL_law_152 : decode cL_law 152 = .ok (.aload_n 1, 1) := by decide +kernel
theorem dL_law_153 : decode cL_law 153 = .ok (.aload_n 0, 1) := by decide +kernel
theorem dL_law_154 : decode cL_law 154 = .ok (.iload 4, 2) := by decide +kernel
theorem dL_law_156 : decode cL_law 156 = .ok (.iconst 1, 1) := by decide +kernel
theorem dL_law_157 : decode cL_law 157 = .ok (.iadd, 1) := by decide +kernel
theorem dL_law_158 : decode cL_law 158 = .ok (.iaload, 1) := by decide +kernel
theorem dL_law_159 : decode cL_law 159 = .ok (.aload_n 0, 1) := by decide +kernel
theorem dL_law_160 : decode cL_law 160 = .ok (.iload 4, 2) := by decide +kernel
theorem dL_law_162 : decode cL_law 162 = .ok (.iconst 2, 1) := by decide +kernel
theorem dL_law_163 : decode cL_law 163 = .ok (.iadd, 1) := by decide +kernel
theorem dL_law_164 : decode cL_law 164 = .ok (.iaload, 1) := by decide +kernel
theorem dL_law_165 : decode cL_law 165 = .ok (.aload_n 0, 1) := by decide +kernel
theorem dL_law_166 : decode cL_law 166 = .ok (.iload 4, 2) := by decide +kernel
theorem dL_law_168 : decode cL_law 168 = .ok (.iconst 3, 1) := by decide +kernel
theorem dL_law_169 : decode cL_law 169 = .ok (.iadd, 1) := by decide +kernel
theorem dL_law_170 : decode cL_law 170 = .ok (.iaload, 1) := by decide +kernel
theorem dL_law_171 : decode cL_law 171 = .ok (.aload_n 0, 1) := by decide +kernel
theorem dL_law_172 : decode cL_law 172 = .ok (.iload 4, 2) := by decide +kernel
theorem dL_law_174 : decode cL_law 174 = .ok (.iconst 4, 1) := by decide +kernel
theorem dL_law_175 : decode cL_law 175 = .ok (.iadd, 1) := by decide +kernel
theorem dL_law_176 : decode cL_law 176 = .ok (.iaload, 1) := by decide +kernel
theorem dL_law_177 : decode cL_law 177 = .ok (.aload_n 0, 1) := by decide +kernel
theorem dL_law_178 : decode cL_law 178 = .ok (.iload 4, 2) := by decide +kernel
theorem dL_law_180 : decode cL_law 180 = .ok (.iconst 5, 1) := by decide +kernel
theorem dL_law_181 : decode cL_law 181 = .ok (.iadd, 1) := by decide +kernel
theorem dL_law_182 : decode cL_law 182 = .ok (.iaload, 1) := by decide +kernel
theorem dL_law_183 : decode cL_law 183 = .ok (.invokevirtual 74, 3) := by decide +kernel
theorem dL_law_186 : decode cL_law 186 = .ok (.aload_n 2, 1) := by decide +kernel
theorem dL_law_187 : decode cL_law 187 = .ok (.aload_n 0, 1) := by decide +kernel
theorem dL_law_188 : decode cL_law 188 = .ok (.iload 4, 2) := by decide +kernel
theorem dL_law_190 : decode cL_law 190 = .ok (.iconst 1, 1) := by decide +kernel
theorem dL_law_191 : decode cL_law 191 = .ok (.iadd, 1) := by decide +kernel
theorem dL_law_192 : decode cL_law 192 = .ok (.iaload, 1) := by decide +kernel
theorem dL_law_193 : decode cL_law 193 = .ok (.aload_n 0, 1) := by decide +kernel
theorem dL_law_194 : decode cL_law 194 = .ok (.iload 4, 2) := by decide +kernel
theorem dL_law_196 : decode cL_law 196 = .ok (.iconst 2, 1) := by decide +kernel
theorem dL_law_197 : decode cL_law 197 = .ok (.iadd, 1) := by decide +kernel
theorem dL_law_198 : decode cL_law 198 = .ok (.iaload, 1) := by decide +kernel
theorem dL_law_199 : decode cL_law 199 = .ok (.aload_n 0, 1) := by decide +kernel
theorem dL_law_200 : decode cL_law 200 = .ok (.iload 4, 2) := by decide +kernel
theorem dL_law_202 : decode cL_law 202 = .ok (.iconst 3, 1) := by decide +kernel
theorem dL_law_203 : decode cL_law 203 = .ok (.iadd, 1) := by decide +kernel
theorem dL_law_204 : decode cL_law 204 = .ok (.iaload, 1) := by decide +kernel
theorem dL_law_205 : decode cL_law 205 = .ok (.aload_n 0, 1) := by decide +kernel
theorem dL_law_206 : decode cL_law 206 = .ok (.iload 4, 2) := by decide +kernel
theorem dL_law_208 : decode cL_law 208 = .ok (.iconst 4, 1) := by decide +kernel
theorem dL_law_209 : decode cL_law 209 = .ok (.iadd, 1) := by decide +kernel
theorem dL_law_210 : decode cL_law 210 = .ok (.iaload, 1) := by decide +kernel
theorem dL_law_211 : decode cL_law 211 = .ok (.aload_n 0, 1) := by decide +kernel
theorem dL_law_212 : decode cL_law 212 = .ok (.iload 4, 2) := by decide +kernel
theorem dL_law_214 : decode cL_law 214 = .ok (.iconst 5, 1) := by decide +kernel
theorem dL_law_215 : decode cL_law 215 = .ok (.iadd, 1) := by decide +kernel
theorem dL_law_216 : decode cL_law 216 = .ok (.iaload, 1) := by decide +kernel
theorem dL_law_217 : decode cL_law 217 = .ok (.invokevirtual 78, 3) := by decide +kernel
theorem dL_law_220 : decode cL_law 220 = .ok (.if_icmp .eq 1349, 3) := by decide +kernel
theorem dL_law_223 : decode cL_law 223 = .ok (.iconst 0, 1) := by decide +kernel
theorem dL_law_224 : decode cL_law 224 = .ok (.ireturn, 1) := by decide +kernel
theorem dL_law_225 : decode cL_law 225 = .ok (.aload_n 1, 1) := by decide +kernel
theorem dL_law_226 : decode cL_law 226 = .ok (.aload_n 0, 1) := by decide +kernel
theorem dL_law_227 : decode cL_law 227 = .ok (.iload 4, 2) := by decide +kernel
theorem dL_law_229 : decode cL_law 229 = .ok (.iconst 1, 1) := by decide +kernel
theorem dL_law_230 : decode cL_law 230 = .ok (.iadd, 1) := by decide +kernel
theorem dL_law_231 : decode cL_law 231 = .ok (.iaload, 1) := by decide +kernel
theorem dL_law_232 : decode cL_law 232 = .ok (.invokevirtual 79, 3) := by decide +kernel
theorem dL_law_235 : decode cL_law 235 = .ok (.aload_n 2, 1) := by decide +kernel
theorem dL_law_236 : decode cL_law 236 = .ok (.aload_n 0, 1) := by decide +kernel
theorem dL_law_237 : decode cL_law 237 = .ok (.iload 4, 2) := by decide +kernel
theorem dL_law_239 : decode cL_law 239 = .ok (.iconst 1, 1) := by decide +kernel
theorem dL_law_240 : decode cL_law 240 = .ok (.iadd, 1) := by decide +kernel
theorem dL_law_241 : decode cL_law 241 = .ok (.iaload, 1) := by decide +kernel
theorem dL_law_242 : decode cL_law 242 = .ok (.invokevirtual 82, 3) := by decide +kernel
theorem dL_law_245 : decode cL_law 245 = .ok (.if_icmp .eq 1324, 3) := by decide +kernel
theorem dL_law_248 : decode cL_law 248 = .ok (.iconst 0, 1) := by decide +kernel
theorem dL_law_249 : decode cL_law 249 = .ok (.ireturn, 1) := by decide +kernel
theorem dL_law_250 : decode cL_law 250 = .ok (.aload_n 1, 1) := by decide +kernel
theorem dL_law_251 : decode cL_law 251 = .ok (.aload_n 0, 1) := by decide +kernel
theorem dL_law_252 : decode cL_law 252 = .ok (.iload 4, 2) := by decide +kernel
theorem dL_law_254 : decode cL_law 254 = .ok (.iconst 1, 1) := by decide +kernel
theorem dL_law_255 : decode cL_law 255 = .ok (.iadd, 1) := by decide +kernel
theorem dL_law_256 : decode cL_law 256 = .ok (.iaload, 1) := by decide +kernel
theorem dL_law_257 : decode cL_law 257 = .ok (.aload_n 3, 1) := by decide +kernel
theorem dL_law_258 : decode cL_law 258 = .ok (.invokestatic 83, 3) := by decide +kernel
theorem dL_law_261 : decode cL_law 261 = .ok (.istore 5, 2) := by decide +kernel
theorem dL_law_263 : decode cL_law 263 = .ok (.aload_n 2, 1) := by decide +kernel
theorem dL_law_264 : decode cL_law 264 = .ok (.aload_n 0, 1) := by decide +kernel
theorem dL_law_265 : decode cL_law 265 = .ok (.iload 4, 2) := by decide +kernel
theorem dL_law_267 : decode cL_law 267 = .ok (.iconst 1, 1) := by decide +kernel
theorem dL_law_268 : decode cL_law 268 = .ok (.iadd, 1) := by decide +kernel
theorem dL_law_269 : decode cL_law 269 = .ok (.iaload, 1) := by decide +kernel
theorem dL_law_270 : decode cL_law 270 = .ok (.invokevirtual 88, 3) := by decide +kernel
theorem dL_law_273 : decode cL_law 273 = .ok (.istore 6, 2) := by decide +kernel
theorem dL_law_275 : decode cL_law 275 = .ok (.aload_n 2, 1) := by decide +kernel
theorem dL_law_276 : decode cL_law 276 = .ok (.invokevirtual 89, 3) := by decide +kernel
theorem dL_law_279 : decode cL_law 279 = .ok (.iload 5, 2) := by decide +kernel
theorem dL_law_281 : decode cL_law 281 = .ok (.if_icmp .eq 5, 3) := by decide +kernel
theorem dL_law_284 : decode cL_law 284 = .ok (.iconst 0, 1) := by decide +kernel
theorem dL_law_285 : decode cL_law 285 = .ok (.ireturn, 1) := by decide +kernel
theorem dL_law_286 : decode cL_law 286 = .ok (.iload 5, 2) := by decide +kernel
theorem dL_law_288 : decode cL_law 288 = .ok (.ifCond .ne 15, 3) := by decide +kernel
theorem dL_law_291 : decode cL_law 291 = .ok (.aload_n 3, 1) := by decide +kernel
theorem dL_law_292 : decode cL_law 292 = .ok (.iconst 0, 1) := by decide +kernel
theorem dL_law_293 : decode cL_law 293 = .ok (.laload, 1) := by decide +kernel
theorem dL_law_294 : decode cL_law 294 = .ok (.iload 6, 2) := by decide +kernel
theorem dL_law_296 : decode cL_law 296 = .ok (.i2l, 1) := by decide +kernel
theorem dL_law_297 : decode cL_law 297 = .ok (.lcmp, 1) := by decide +kernel
theorem dL_law_298 : decode cL_law 298 = .ok (.ifCond .eq 5, 3) := by decide +kernel
theorem dL_law_301 : decode cL_law 301 = .ok (.iconst 0, 1) := by decide +kernel
theorem dL_law_302 : decode cL_law 302 = .ok (.ireturn, 1) := by decide +kernel
theorem dL_law_303 : decode cL_law 303 = .ok (.goto 1266, 3) := by decide +kernel
theorem dL_law_306 : decode cL_law 306 = .ok (.aload_n 1, 1) := by decide +kernel
theorem dL_law_307 : decode cL_law 307 = .ok (.aload_n 0, 1) := by decide +kernel
theorem dL_law_308 : decode cL_law 308 = .ok (.iload 4, 2) := by decide +kernel
theorem dL_law_310 : decode cL_law 310 = .ok (.iconst 1, 1) := by decide +kernel
theorem dL_law_311 : decode cL_law 311 = .ok (.iadd, 1) := by decide +kernel
theorem dL_law_312 : decode cL_law 312 = .ok (.iaload, 1) := by decide +kernel
theorem dL_law_313 : decode cL_law 313 = .ok (.invokevirtual 93, 3) := by decide +kernel
theorem dL_law_316 : decode cL_law 316 = .ok (.aload_n 2, 1) := by decide +kernel
theorem dL_law_317 : decode cL_law 317 = .ok (.aload_n 0, 1) := by decide +kernel
theorem dL_law_318 : decode cL_law 318 = .ok (.iload 4, 2) := by decide +kernel
theorem dL_law_320 : decode cL_law 320 = .ok (.iconst 1, 1) := by decide +kernel
theorem dL_law_321 : decode cL_law 321 = .ok (.iadd, 1) := by decide +kernel
theorem dL_law_322 : decode cL_law 322 = .ok (.iaload, 1) := by decide +kernel
theorem dL_law_323 : decode cL_law 323 = .ok (.invokevirtual 96, 3) := by decide +kernel
theorem dL_law_326 : decode cL_law 326 = .ok (.if_icmp .eq 1243, 3) := by decide +kernel
theorem dL_law_329 : decode cL_law 329 = .ok (.iconst 0, 1) := by decide +kernel
theorem dL_law_330 : decode cL_law 330 = .ok (.ireturn, 1) := by decide +kernel
theorem dL_law_331 : decode cL_law 331 = .ok (.aload_n 1, 1) := by decide +kernel
theorem dL_law_332 : decode cL_law 332 = .ok (.aload_n 0, 1) := by decide +kernel
theorem dL_law_333 : decode cL_law 333 = .ok (.iload 4, 2) := by decide +kernel
theorem dL_law_335 : decode cL_law 335 = .ok (.iconst 1, 1) := by decide +kernel
theorem dL_law_336 : decode cL_law 336 = .ok (.iadd, 1) := by decide +kernel
theorem dL_law_337 : decode cL_law 337 = .ok (.iaload, 1) := by decide +kernel
theorem dL_law_338 : decode cL_law 338 = .ok (.aload_n 3, 1) := by decide +kernel
theorem dL_law_339 : decode cL_law 339 = .ok (.invokestatic 97, 3) := by decide +kernel
theorem dL_law_342 : decode cL_law 342 = .ok (.istore 5, 2) := by decide +kernel
theorem dL_law_344 : decode cL_law 344 = .ok (.aload_n 2, 1) := by decide +kernel
theorem dL_law_345 : decode cL_law 345 = .ok (.aload_n 0, 1) := by decide +kernel
theorem dL_law_346 : decode cL_law 346 = .ok (.iload 4, 2) := by decide +kernel
theorem dL_law_348 : decode cL_law 348 = .ok (.iconst 1, 1) := by decide +kernel
theorem dL_law_349 : decode cL_law 349 = .ok (.iadd, 1) := by decide +kernel
theorem dL_law_350 : decode cL_law 350 = .ok (.iaload, 1) := by decide +kernel
theorem dL_law_351 : decode cL_law 351 = .ok (.invokevirtual 99, 3) := by decide +kernel
theorem dL_law_354 : decode cL_law 354 = .ok (.istore 6, 2) := by decide +kernel
theorem dL_law_356 : decode cL_law 356 = .ok (.aload_n 2, 1) := by decide +kernel
theorem dL_law_357 : decode cL_law 357 = .ok (.invokevirtual 89, 3) := by decide +kernel
theorem dL_law_360 : decode cL_law 360 = .ok (.iload 5, 2) := by decide +kernel
theorem dL_law_362 : decode cL_law 362 = .ok (.if_icmp .eq 5, 3) := by decide +kernel
theorem dL_law_365 : decode cL_law 365 = .ok (.iconst 0, 1) := by decide +kernel
theorem dL_law_366 : decode cL_law 366 = .ok (.ireturn, 1) := by decide +kernel
theorem dL_law_367 : decode cL_law 367 = .ok (.iload 5, 2) := by decide +kernel
theorem dL_law_369 : decode cL_law 369 = .ok (.ifCond .ne 22, 3) := by decide +kernel
theorem dL_law_372 : decode cL_law 372 = .ok (.aload_n 3, 1) := by decide +kernel
theorem dL_law_373 : decode cL_law 373 = .ok (.iconst 0, 1) := by decide +kernel
theorem dL_law_374 : decode cL_law 374 = .ok (.laload, 1) := by decide +kernel
theorem dL_law_375 : decode cL_law 375 = .ok (.iload 6, 2) := by decide +kernel
theorem dL_law_377 : decode cL_law 377 = .ok (.ifCond .eq 7, 3) := by decide +kernel
theorem dL_law_380 : decode cL_law 380 = .ok (.lconst 1, 1) := by decide +kernel
theorem dL_law_381 : decode cL_law 381 = .ok (.goto 4, 3) := by decide +kernel
theorem dL_law_384 : decode cL_law 384 = .ok (.lconst 0, 1) := by decide +kernel
theorem dL_law_385 : decode cL_law 385 = .ok (.lcmp, 1) := by decide +kernel
theorem dL_law_386 : decode cL_law 386 = .ok (.ifCond .eq 5, 3) := by decide +kernel
theorem dL_law_389 : decode cL_law 389 = .ok (.iconst 0, 1) := by decide +kernel
theorem dL_law_390 : decode cL_law 390 = .ok (.ireturn, 1) := by decide +kernel
theorem dL_law_391 : decode cL_law 391 = .ok (.goto 1178, 3) := by decide +kernel
theorem dL_law_394 : decode cL_law 394 = .ok (.aload_n 1, 1) := by decide +kernel
theorem dL_law_395 : decode cL_law 395 = .ok (.aload_n 0, 1) := by decide +kernel
theorem dL_law_396 : decode cL_law 396 = .ok (.iload 4, 2) := by decide +kernel
theorem dL_law_398 : decode cL_law 398 = .ok (.iconst 1, 1) := by decide +kernel
theorem dL_law_399 : decode cL_law 399 = .ok (.iadd, 1) := by decide +kernel
theorem dL_law_400 : decode cL_law 400 = .ok (.iaload, 1) := by decide +kernel
theorem dL_law_401 : decode cL_law 401 = .ok (.aload_n 0, 1) := by decide +kernel
theorem dL_law_402 : decode cL_law 402 = .ok (.iload 4, 2) := by decide +kernel
theorem dL_law_404 : decode cL_law 404 = .ok (.iconst 2, 1) := by decide +kernel
theorem dL_law_405 : decode cL_law 405 = .ok (.iadd, 1) := by decide +kernel
theorem dL_law_406 : decode cL_law 406 = .ok (.iaload, 1) := by decide +kernel
theorem dL_law_407 : decode cL_law 407 = .ok (.aload_n 3, 1) := by decide +kernel
theorem dL_law_408 : decode cL_law 408 = .ok (.invokestatic 100, 3) := by decide +kernel
theorem dL_law_411 : decode cL_law 411 = .ok (.istore 5, 2) := by decide +kernel
theorem dL_law_413 : decode cL_law 413 = .ok (.aload_n 2, 1) := by decide +kernel
theorem dL_law_414 : decode cL_law 414 = .ok (.aload_n 0, 1) := by decide +kernel
theorem dL_law_415 : decode cL_law 415 = .ok (.iload 4, 2) := by decide +kernel
theorem dL_law_417 : decode cL_law 417 = .ok (.iconst 1, 1) := by decide +kernel
theorem dL_law_418 : decode cL_law 418 = .ok (.iadd, 1) := by decide +kernel
theorem dL_law_419 : decode cL_law 419 = .ok (.iaload, 1) := by decide +kernel
theorem dL_law_420 : decode cL_law 420 = .ok (.aload_n 0, 1) := by decide +kernel
theorem dL_law_421 : decode cL_law 421 = .ok (.iload 4, 2) := by decide +kernel
theorem dL_law_423 : decode cL_law 423 = .ok (.iconst 2, 1) := by decide +kernel
theorem dL_law_424 : decode cL_law 424 = .ok (.iadd, 1) := by decide +kernel
theorem dL_law_425 : decode cL_law 425 = .ok (.iaload, 1) := by decide +kernel
theorem dL_law_426 : decode cL_law 426 = .ok (.invokevirtual 103, 3) := by decide +kernel
theorem dL_law_429 : decode cL_law 429 = .ok (.istore 6, 2) := by decide +kernel
theorem dL_law_431 : decode cL_law 431 = .ok (.aload_n 2, 1) := by decide +kernel
theorem dL_law_432 : decode cL_law 432 = .ok (.invokevirtual 89, 3) := by decide +kernel
theorem dL_law_435 : decode cL_law 435 = .ok (.iload 5, 2) := by decide +kernel
theorem dL_law_437 : decode cL_law 437 = .ok (.if_icmp .eq 5, 3) := by decide +kernel
theorem dL_law_440 : decode cL_law 440 = .ok (.iconst 0, 1) := by decide +kernel
theorem dL_law_441 : decode cL_law 441 = .ok (.ireturn, 1) := by decide +kernel
theorem dL_law_442 : decode cL_law 442 = .ok (.iload 5, 2) := by decide +kernel
theorem dL_law_444 : decode cL_law 444 = .ok (.ifCond .ne 15, 3) := by decide +kernel
theorem dL_law_447 : decode cL_law 447 = .ok (.aload_n 3, 1) := by decide +kernel
theorem dL_law_448 : decode cL_law 448 = .ok (.iconst 0, 1) := by decide +kernel
theorem dL_law_449 : decode cL_law 449 = .ok (.laload, 1) := by decide +kernel
theorem dL_law_450 : decode cL_law 450 = .ok (.iload 6, 2) := by decide +kernel
theorem dL_law_452 : decode cL_law 452 = .ok (.i2l, 1) := by decide +kernel
theorem dL_law_453 : decode cL_law 453 = .ok (.lcmp, 1) := by decide +kernel
theorem dL_law_454 : decode cL_law 454 = .ok (.ifCond .eq 5, 3) := by decide +kernel
theorem dL_law_457 : decode cL_law 457 = .ok (.iconst 0, 1) := by decide +kernel
theorem dL_law_458 : decode cL_law 458 = .ok (.ireturn, 1) := by decide +kernel
theorem dL_law_459 : decode cL_law 459 = .ok (.goto 1110, 3) := by decide +kernel
theorem dL_law_462 : decode cL_law 462 = .ok (.aload_n 1, 1) := by decide +kernel
theorem dL_law_463 : decode cL_law 463 = .ok (.aload_n 0, 1) := by decide +kernel
theorem dL_law_464 : decode cL_law 464 = .ok (.iload 4, 2) := by decide +kernel
theorem dL_law_466 : decode cL_law 466 = .ok (.iconst 1, 1) := by decide +kernel
theorem dL_law_467 : decode cL_law 467 = .ok (.iadd, 1) := by decide +kernel
theorem dL_law_468 : decode cL_law 468 = .ok (.iaload, 1) := by decide +kernel
theorem dL_law_469 : decode cL_law 469 = .ok (.aload_n 0, 1) := by decide +kernel
theorem dL_law_470 : decode cL_law 470 = .ok (.iload 4, 2) := by decide +kernel
theorem dL_law_472 : decode cL_law 472 = .ok (.iconst 2, 1) := by decide +kernel
theorem dL_law_473 : decode cL_law 473 = .ok (.iadd, 1) := by decide +kernel
theorem dL_law_474 : decode cL_law 474 = .ok (.iaload, 1) := by decide +kernel
theorem dL_law_475 : decode cL_law 475 = .ok (.aload_n 3, 1) := by decide +kernel
theorem dL_law_476 : decode cL_law 476 = .ok (.invokestatic 104, 3) := by decide +kernel
theorem dL_law_479 : decode cL_law 479 = .ok (.istore 5, 2) := by decide +kernel
theorem dL_law_481 : decode cL_law 481 = .ok (.aload_n 2, 1) := by decide +kernel
theorem dL_law_482 : decode cL_law 482 = .ok (.aload_n 0, 1) := by decide +kernel
theorem dL_law_483 : decode cL_law 483 = .ok (.iload 4, 2) := by decide +kernel
theorem dL_law_485 : decode cL_law 485 = .ok (.iconst 1, 1) := by decide +kernel
theorem dL_law_486 : decode cL_law 486 = .ok (.iadd, 1) := by decide +kernel
theorem dL_law_487 : decode cL_law 487 = .ok (.iaload, 1) := by decide +kernel
theorem dL_law_488 : decode cL_law 488 = .ok (.aload_n 0, 1) := by decide +kernel
theorem dL_law_489 : decode cL_law 489 = .ok (.iload 4, 2) := by decide +kernel
theorem dL_law_491 : decode cL_law 491 = .ok (.iconst 2, 1) := by decide +kernel
theorem dL_law_492 : decode cL_law 492 = .ok (.iadd, 1) := by decide +kernel
theorem dL_law_493 : decode cL_law 493 = .ok (.iaload, 1) := by decide +kernel
theorem dL_law_494 : decode cL_law 494 = .ok (.invokevirtual 106, 3) := by decide +kernel
theorem dL_law_497 : decode cL_law 497 = .ok (.istore 6, 2) := by decide +kernel
theorem dL_law_499 : decode cL_law 499 = .ok (.aload_n 2, 1) := by decide +kernel
theorem dL_law_500 : decode cL_law 500 = .ok (.invokevirtual 89, 3) := by decide +kernel
theorem dL_law_503 : decode cL_law 503 = .ok (.iload 5, 2) := by decide +kernel
theorem dL_law_505 : decode cL_law 505 = .ok (.if_icmp .eq 5, 3) := by decide +kernel
theorem dL_law_508 : decode cL_law 508 = .ok (.iconst 0, 1) := by decide +kernel
theorem dL_law_509 : decode cL_law 509 = .ok (.ireturn, 1) := by decide +kernel
theorem dL_law_510 : decode cL_law 510 = .ok (.iload 5, 2) := by decide +kernel
theorem dL_law_512 : decode cL_law 512 = .ok (.ifCond .ne 15, 3) := by decide +kernel
theorem dL_law_515 : decode cL_law 515 = .ok (.aload_n 3, 1) := by decide +kernel
theorem dL_law_516 : decode cL_law 516 = .ok (.iconst 0, 1) := by decide +kernel
theorem dL_law_517 : decode cL_law 517 = .ok (.laload, 1) := by decide +kernel
theorem dL_law_518 : decode cL_law 518 = .ok (.iload 6, 2) := by decide +kernel
theorem dL_law_520 : decode cL_law 520 = .ok (.i2l, 1) := by decide +kernel
theorem dL_law_521 : decode cL_law 521 = .ok (.lcmp, 1) := by decide +kernel
theorem dL_law_522 : decode cL_law 522 = .ok (.ifCond .eq 5, 3) := by decide +kernel
theorem dL_law_525 : decode cL_law 525 = .ok (.iconst 0, 1) := by decide +kernel
theorem dL_law_526 : decode cL_law 526 = .ok (.ireturn, 1) := by decide +kernel
theorem dL_law_527 : decode cL_law 527 = .ok (.goto 1042, 3) := by decide +kernel
theorem dL_law_530 : decode cL_law 530 = .ok (.aload_n 1, 1) := by decide +kernel
theorem dL_law_531 : decode cL_law 531 = .ok (.aload_n 0, 1) := by decide +kernel
theorem dL_law_532 : decode cL_law 532 = .ok (.iload 4, 2) := by decide +kernel
theorem dL_law_534 : decode cL_law 534 = .ok (.iconst 1, 1) := by decide +kernel
theorem dL_law_535 : decode cL_law 535 = .ok (.iadd, 1) := by decide +kernel
theorem dL_law_536 : decode cL_law 536 = .ok (.iaload, 1) := by decide +kernel
theorem dL_law_537 : decode cL_law 537 = .ok (.aload_n 0, 1) := by decide +kernel
theorem dL_law_538 : decode cL_law 538 = .ok (.iload 4, 2) := by decide +kernel
theorem dL_law_540 : decode cL_law 540 = .ok (.iconst 2, 1) := by decide +kernel
theorem dL_law_541 : decode cL_law 541 = .ok (.iadd, 1) := by decide +kernel
theorem dL_law_542 : decode cL_law 542 = .ok (.iaload, 1) := by decide +kernel
theorem dL_law_543 : decode cL_law 543 = .ok (.aload_n 0, 1) := by decide +kernel
theorem dL_law_544 : decode cL_law 544 = .ok (.iload 4, 2) := by decide +kernel
theorem dL_law_546 : decode cL_law 546 = .ok (.iconst 3, 1) := by decide +kernel
theorem dL_law_547 : decode cL_law 547 = .ok (.iadd, 1) := by decide +kernel
theorem dL_law_548 : decode cL_law 548 = .ok (.iaload, 1) := by decide +kernel
theorem dL_law_549 : decode cL_law 549 = .ok (.aload_n 3, 1) := by decide +kernel
theorem dL_law_550 : decode cL_law 550 = .ok (.invokestatic 107, 3) := by decide +kernel
theorem dL_law_553 : decode cL_law 553 = .ok (.istore 5, 2) := by decide +kernel
theorem dL_law_555 : decode cL_law 555 = .ok (.aload_n 2, 1) := by decide +kernel
theorem dL_law_556 : decode cL_law 556 = .ok (.aload_n 0, 1) := by decide +kernel
theorem dL_law_557 : decode cL_law 557 = .ok (.iload 4, 2) := by decide +kernel
theorem dL_law_559 : decode cL_law 559 = .ok (.iconst 1, 1) := by decide +kernel
theorem dL_law_560 : decode cL_law 560 = .ok (.iadd, 1) := by decide +kernel
theorem dL_law_561 : decode cL_law 561 = .ok (.iaload, 1) := by decide +kernel
theorem dL_law_562 : decode cL_law 562 = .ok (.aload_n 0, 1) := by decide +kernel
theorem dL_law_563 : decode cL_law 563 = .ok (.iload 4, 2) := by decide +kernel
theorem dL_law_565 : decode cL_law 565 = .ok (.iconst 2, 1) := by decide +kernel
theorem dL_law_566 : decode cL_law 566 = .ok (.iadd, 1) := by decide +kernel
theorem dL_law_567 : decode cL_law 567 = .ok (.iaload, 1) := by decide +kernel
theorem dL_law_568 : decode cL_law 568 = .ok (.aload_n 0, 1) := by decide +kernel
theorem dL_law_569 : decode cL_law 569 = .ok (.iload 4, 2) := by decide +kernel
theorem dL_law_571 : decode cL_law 571 = .ok (.iconst 3, 1) := by decide +kernel
theorem dL_law_572 : decode cL_law 572 = .ok (.iadd, 1) := by decide +kernel
theorem dL_law_573 : decode cL_law 573 = .ok (.iaload, 1) := by decide +kernel
theorem dL_law_574 : decode cL_law 574 = .ok (.invokevirtual 110, 3) := by decide +kernel
theorem dL_law_577 : decode cL_law 577 = .ok (.istore 6, 2) := by decide +kernel
theorem dL_law_579 : decode cL_law 579 = .ok (.aload_n 2, 1) := by decide +kernel
theorem dL_law_580 : decode cL_law 580 = .ok (.invokevirtual 89, 3) := by decide +kernel
theorem dL_law_583 : decode cL_law 583 = .ok (.iload 5, 2) := by decide +kernel
theorem dL_law_585 : decode cL_law 585 = .ok (.if_icmp .eq 5, 3) := by decide +kernel
theorem dL_law_588 : decode cL_law 588 = .ok (.iconst 0, 1) := by decide +kernel
theorem dL_law_589 : decode cL_law 589 = .ok (.ireturn, 1) := by decide +kernel
theorem dL_law_590 : decode cL_law 590 = .ok (.iload 5, 2) := by decide +kernel
theorem dL_law_592 : decode cL_law 592 = .ok (.ifCond .ne 15, 3) := by decide +kernel
theorem dL_law_595 : decode cL_law 595 = .ok (.aload_n 3, 1) := by decide +kernel
theorem dL_law_596 : decode cL_law 596 = .ok (.iconst 0, 1) := by decide +kernel
theorem dL_law_597 : decode cL_law 597 = .ok (.laload, 1) := by decide +kernel
theorem dL_law_598 : decode cL_law 598 = .ok (.iload 6, 2) := by decide +kernel
theorem dL_law_600 : decode cL_law 600 = .ok (.i2l, 1) := by decide +kernel
theorem dL_law_601 : decode cL_law 601 = .ok (.lcmp, 1) := by decide +kernel
theorem dL_law_602 : decode cL_law 602 = .ok (.ifCond .eq 5, 3) := by decide +kernel
theorem dL_law_605 : decode cL_law 605 = .ok (.iconst 0, 1) := by decide +kernel
theorem dL_law_606 : decode cL_law 606 = .ok (.ireturn, 1) := by decide +kernel
theorem dL_law_607 : decode cL_law 607 = .ok (.goto 962, 3) := by decide +kernel
theorem dL_law_610 : decode cL_law 610 = .ok (.aload_n 1, 1) := by decide +kernel
theorem dL_law_611 : decode cL_law 611 = .ok (.aload_n 0, 1) := by decide +kernel
theorem dL_law_612 : decode cL_law 612 = .ok (.iload 4, 2) := by decide +kernel
theorem dL_law_614 : decode cL_law 614 = .ok (.iconst 1, 1) := by decide +kernel
theorem dL_law_615 : decode cL_law 615 = .ok (.iadd, 1) := by decide +kernel
theorem dL_law_616 : decode cL_law 616 = .ok (.iaload, 1) := by decide +kernel
theorem dL_law_617 : decode cL_law 617 = .ok (.aload_n 3, 1) := by decide +kernel
theorem dL_law_618 : decode cL_law 618 = .ok (.invokestatic 111, 3) := by decide +kernel
theorem dL_law_621 : decode cL_law 621 = .ok (.istore 5, 2) := by decide +kernel
theorem dL_law_623 : decode cL_law 623 = .ok (.aload_n 2, 1) := by decide +kernel
theorem dL_law_624 : decode cL_law 624 = .ok (.aload_n 0, 1) := by decide +kernel
theorem dL_law_625 : decode cL_law 625 = .ok (.iload 4, 2) := by decide +kernel
theorem dL_law_627 : decode cL_law 627 = .ok (.iconst 1, 1) := by decide +kernel
theorem dL_law_628 : decode cL_law 628 = .ok (.iadd, 1) := by decide +kernel
theorem dL_law_629 : decode cL_law 629 = .ok (.iaload, 1) := by decide +kernel
theorem dL_law_630 : decode cL_law 630 = .ok (.invokevirtual 113, 3) := by decide +kernel
theorem dL_law_633 : decode cL_law 633 = .ok (.istore 6, 2) := by decide +kernel
theorem dL_law_635 : decode cL_law 635 = .ok (.aload_n 2, 1) := by decide +kernel
theorem dL_law_636 : decode cL_law 636 = .ok (.invokevirtual 89, 3) := by decide +kernel
theorem dL_law_639 : decode cL_law 639 = .ok (.iload 5, 2) := by decide +kernel
theorem dL_law_641 : decode cL_law 641 = .ok (.if_icmp .eq 5, 3) := by decide +kernel
theorem dL_law_644 : decode cL_law 644 = .ok (.iconst 0, 1) := by decide +kernel
theorem dL_law_645 : decode cL_law 645 = .ok (.ireturn, 1) := by decide +kernel
theorem dL_law_646 : decode cL_law 646 = .ok (.iload 5, 2) := by decide +kernel
theorem dL_law_648 : decode cL_law 648 = .ok (.ifCond .ne 15, 3) := by decide +kernel
theorem dL_law_651 : decode cL_law 651 = .ok (.aload_n 3, 1) := by decide +kernel
theorem dL_law_652 : decode cL_law 652 = .ok (.iconst 0, 1) := by decide +kernel
theorem dL_law_653 : decode cL_law 653 = .ok (.laload, 1) := by decide +kernel
theorem dL_law_654 : decode cL_law 654 = .ok (.iload 6, 2) := by decide +kernel
theorem dL_law_656 : decode cL_law 656 = .ok (.i2l, 1) := by decide +kernel
theorem dL_law_657 : decode cL_law 657 = .ok (.lcmp, 1) := by decide +kernel
theorem dL_law_658 : decode cL_law 658 = .ok (.ifCond .eq 5, 3) := by decide +kernel
theorem dL_law_661 : decode cL_law 661 = .ok (.iconst 0, 1) := by decide +kernel
theorem dL_law_662 : decode cL_law 662 = .ok (.ireturn, 1) := by decide +kernel
theorem dL_law_663 : decode cL_law 663 = .ok (.goto 906, 3) := by decide +kernel
theorem dL_law_666 : decode cL_law 666 = .ok (.aload_n 1, 1) := by decide +kernel
theorem dL_law_667 : decode cL_law 667 = .ok (.aload_n 0, 1) := by decide +kernel
theorem dL_law_668 : decode cL_law 668 = .ok (.iload 4, 2) := by decide +kernel
theorem dL_law_670 : decode cL_law 670 = .ok (.iconst 1, 1) := by decide +kernel
theorem dL_law_671 : decode cL_law 671 = .ok (.iadd, 1) := by decide +kernel
theorem dL_law_672 : decode cL_law 672 = .ok (.iaload, 1) := by decide +kernel
theorem dL_law_673 : decode cL_law 673 = .ok (.invokevirtual 114, 3) := by decide +kernel
theorem dL_law_676 : decode cL_law 676 = .ok (.aload_n 2, 1) := by decide +kernel
theorem dL_law_677 : decode cL_law 677 = .ok (.aload_n 0, 1) := by decide +kernel
theorem dL_law_678 : decode cL_law 678 = .ok (.iload 4, 2) := by decide +kernel
theorem dL_law_680 : decode cL_law 680 = .ok (.iconst 1, 1) := by decide +kernel
theorem dL_law_681 : decode cL_law 681 = .ok (.iadd, 1) := by decide +kernel
theorem dL_law_682 : decode cL_law 682 = .ok (.iaload, 1) := by decide +kernel
theorem dL_law_683 : decode cL_law 683 = .ok (.invokevirtual 117, 3) := by decide +kernel
theorem dL_law_686 : decode cL_law 686 = .ok (.if_icmp .eq 883, 3) := by decide +kernel
theorem dL_law_689 : decode cL_law 689 = .ok (.iconst 0, 1) := by decide +kernel
theorem dL_law_690 : decode cL_law 690 = .ok (.ireturn, 1) := by decide +kernel
theorem dL_law_691 : decode cL_law 691 = .ok (.aload_n 1, 1) := by decide +kernel
theorem dL_law_692 : decode cL_law 692 = .ok (.invokevirtual 118, 3) := by decide +kernel
theorem dL_law_695 : decode cL_law 695 = .ok (.aload_n 2, 1) := by decide +kernel
theorem dL_law_696 : decode cL_law 696 = .ok (.invokevirtual 121, 3) := by decide +kernel
theorem dL_law_699 : decode cL_law 699 = .ok (.if_icmp .eq 870, 3) := by decide +kernel
theorem dL_law_702 : decode cL_law 702 = .ok (.iconst 0, 1) := by decide +kernel
theorem dL_law_703 : decode cL_law 703 = .ok (.ireturn, 1) := by decide +kernel
theorem dL_law_704 : decode cL_law 704 = .ok (.aload_n 1, 1) := by decide +kernel
theorem dL_law_705 : decode cL_law 705 = .ok (.aload_n 0, 1) := by decide +kernel
theorem dL_law_706 : decode cL_law 706 = .ok (.iload 4, 2) := by decide +kernel
theorem dL_law_708 : decode cL_law 708 = .ok (.iconst 1, 1) := by decide +kernel
theorem dL_law_709 : decode cL_law 709 = .ok (.iadd, 1) := by decide +kernel
theorem dL_law_710 : decode cL_law 710 = .ok (.iaload, 1) := by decide +kernel
theorem dL_law_711 : decode cL_law 711 = .ok (.aload_n 0, 1) := by decide +kernel
theorem dL_law_712 : decode cL_law 712 = .ok (.iload 4, 2) := by decide +kernel
theorem dL_law_714 : decode cL_law 714 = .ok (.iconst 2, 1) := by decide +kernel
theorem dL_law_715 : decode cL_law 715 = .ok (.iadd, 1) := by decide +kernel
theorem dL_law_716 : decode cL_law 716 = .ok (.iaload, 1) := by decide +kernel
theorem dL_law_717 : decode cL_law 717 = .ok (.aload_n 3, 1) := by decide +kernel
theorem dL_law_718 : decode cL_law 718 = .ok (.invokestatic 122, 3) := by decide +kernel
theorem dL_law_721 : decode cL_law 721 = .ok (.istore 5, 2) := by decide +kernel
theorem dL_law_723 : decode cL_law 723 = .ok (.aload_n 2, 1) := by decide +kernel
theorem dL_law_724 : decode cL_law 724 = .ok (.aload_n 0, 1) := by decide +kernel
theorem dL_law_725 : decode cL_law 725 = .ok (.iload 4, 2) := by decide +kernel
theorem dL_law_727 : decode cL_law 727 = .ok (.iconst 1, 1) := by decide +kernel
theorem dL_law_728 : decode cL_law 728 = .ok (.iadd, 1) := by decide +kernel
theorem dL_law_729 : decode cL_law 729 = .ok (.iaload, 1) := by decide +kernel
theorem dL_law_730 : decode cL_law 730 = .ok (.aload_n 0, 1) := by decide +kernel
theorem dL_law_731 : decode cL_law 731 = .ok (.iload 4, 2) := by decide +kernel
theorem dL_law_733 : decode cL_law 733 = .ok (.iconst 2, 1) := by decide +kernel
theorem dL_law_734 : decode cL_law 734 = .ok (.iadd, 1) := by decide +kernel
theorem dL_law_735 : decode cL_law 735 = .ok (.iaload, 1) := by decide +kernel
theorem dL_law_736 : decode cL_law 736 = .ok (.invokevirtual 124, 3) := by decide +kernel
theorem dL_law_739 : decode cL_law 739 = .ok (.istore 6, 2) := by decide +kernel
theorem dL_law_741 : decode cL_law 741 = .ok (.aload_n 2, 1) := by decide +kernel
theorem dL_law_742 : decode cL_law 742 = .ok (.invokevirtual 89, 3) := by decide +kernel
theorem dL_law_745 : decode cL_law 745 = .ok (.iload 5, 2) := by decide +kernel
theorem dL_law_747 : decode cL_law 747 = .ok (.if_icmp .eq 5, 3) := by decide +kernel
theorem dL_law_750 : decode cL_law 750 = .ok (.iconst 0, 1) := by decide +kernel
theorem dL_law_751 : decode cL_law 751 = .ok (.ireturn, 1) := by decide +kernel
theorem dL_law_752 : decode cL_law 752 = .ok (.iload 5, 2) := by decide +kernel
theorem dL_law_754 : decode cL_law 754 = .ok (.ifCond .ne 15, 3) := by decide +kernel
theorem dL_law_757 : decode cL_law 757 = .ok (.aload_n 3, 1) := by decide +kernel
theorem dL_law_758 : decode cL_law 758 = .ok (.iconst 0, 1) := by decide +kernel
theorem dL_law_759 : decode cL_law 759 = .ok (.laload, 1) := by decide +kernel
theorem dL_law_760 : decode cL_law 760 = .ok (.iload 6, 2) := by decide +kernel
theorem dL_law_762 : decode cL_law 762 = .ok (.i2l, 1) := by decide +kernel
theorem dL_law_763 : decode cL_law 763 = .ok (.lcmp, 1) := by decide +kernel
theorem dL_law_764 : decode cL_law 764 = .ok (.ifCond .eq 5, 3) := by decide +kernel
theorem dL_law_767 : decode cL_law 767 = .ok (.iconst 0, 1) := by decide +kernel
theorem dL_law_768 : decode cL_law 768 = .ok (.ireturn, 1) := by decide +kernel
theorem dL_law_769 : decode cL_law 769 = .ok (.goto 800, 3) := by decide +kernel
theorem dL_law_772 : decode cL_law 772 = .ok (.aload_n 1, 1) := by decide +kernel
theorem dL_law_773 : decode cL_law 773 = .ok (.aload_n 0, 1) := by decide +kernel
theorem dL_law_774 : decode cL_law 774 = .ok (.iload 4, 2) := by decide +kernel
theorem dL_law_776 : decode cL_law 776 = .ok (.iconst 1, 1) := by decide +kernel
theorem dL_law_777 : decode cL_law 777 = .ok (.iadd, 1) := by decide +kernel
theorem dL_law_778 : decode cL_law 778 = .ok (.iaload, 1) := by decide +kernel
theorem dL_law_779 : decode cL_law 779 = .ok (.aload_n 0, 1) := by decide +kernel
theorem dL_law_780 : decode cL_law 780 = .ok (.iload 4, 2) := by decide +kernel
theorem dL_law_782 : decode cL_law 782 = .ok (.iconst 2, 1) := by decide +kernel
theorem dL_law_783 : decode cL_law 783 = .ok (.iadd, 1) := by decide +kernel
theorem dL_law_784 : decode cL_law 784 = .ok (.iaload, 1) := by decide +kernel
theorem dL_law_785 : decode cL_law 785 = .ok (.aload_n 0, 1) := by decide +kernel
theorem dL_law_786 : decode cL_law 786 = .ok (.iload 4, 2) := by decide +kernel
theorem dL_law_788 : decode cL_law 788 = .ok (.iconst 3, 1) := by decide +kernel
theorem dL_law_789 : decode cL_law 789 = .ok (.iadd, 1) := by decide +kernel
theorem dL_law_790 : decode cL_law 790 = .ok (.iaload, 1) := by decide +kernel
theorem dL_law_791 : decode cL_law 791 = .ok (.aload_n 0, 1) := by decide +kernel
theorem dL_law_792 : decode cL_law 792 = .ok (.iload 4, 2) := by decide +kernel
theorem dL_law_794 : decode cL_law 794 = .ok (.iconst 4, 1) := by decide +kernel
theorem dL_law_795 : decode cL_law 795 = .ok (.iadd, 1) := by decide +kernel
theorem dL_law_796 : decode cL_law 796 = .ok (.iaload, 1) := by decide +kernel
theorem dL_law_797 : decode cL_law 797 = .ok (.aload_n 3, 1) := by decide +kernel
theorem dL_law_798 : decode cL_law 798 = .ok (.invokestatic 125, 3) := by decide +kernel
theorem dL_law_801 : decode cL_law 801 = .ok (.istore 5, 2) := by decide +kernel
theorem dL_law_803 : decode cL_law 803 = .ok (.aload_n 2, 1) := by decide +kernel
theorem dL_law_804 : decode cL_law 804 = .ok (.aload_n 0, 1) := by decide +kernel
theorem dL_law_805 : decode cL_law 805 = .ok (.iload 4, 2) := by decide +kernel
theorem dL_law_807 : decode cL_law 807 = .ok (.iconst 1, 1) := by decide +kernel
theorem dL_law_808 : decode cL_law 808 = .ok (.iadd, 1) := by decide +kernel
theorem dL_law_809 : decode cL_law 809 = .ok (.iaload, 1) := by decide +kernel
theorem dL_law_810 : decode cL_law 810 = .ok (.aload_n 0, 1) := by decide +kernel
theorem dL_law_811 : decode cL_law 811 = .ok (.iload 4, 2) := by decide +kernel
theorem dL_law_813 : decode cL_law 813 = .ok (.iconst 2, 1) := by decide +kernel
theorem dL_law_814 : decode cL_law 814 = .ok (.iadd, 1) := by decide +kernel
theorem dL_law_815 : decode cL_law 815 = .ok (.iaload, 1) := by decide +kernel
theorem dL_law_816 : decode cL_law 816 = .ok (.aload_n 0, 1) := by decide +kernel
theorem dL_law_817 : decode cL_law 817 = .ok (.iload 4, 2) := by decide +kernel
theorem dL_law_819 : decode cL_law 819 = .ok (.iconst 3, 1) := by decide +kernel
theorem dL_law_820 : decode cL_law 820 = .ok (.iadd, 1) := by decide +kernel
theorem dL_law_821 : decode cL_law 821 = .ok (.iaload, 1) := by decide +kernel
theorem dL_law_822 : decode cL_law 822 = .ok (.aload_n 0, 1) := by decide +kernel
theorem dL_law_823 : decode cL_law 823 = .ok (.iload 4, 2) := by decide +kernel
theorem dL_law_825 : decode cL_law 825 = .ok (.iconst 4, 1) := by decide +kernel
theorem dL_law_826 : decode cL_law 826 = .ok (.iadd, 1) := by decide +kernel
theorem dL_law_827 : decode cL_law 827 = .ok (.iaload, 1) := by decide +kernel
theorem dL_law_828 : decode cL_law 828 = .ok (.invokevirtual 128, 3) := by decide +kernel
theorem dL_law_831 : decode cL_law 831 = .ok (.istore 6, 2) := by decide +kernel
theorem dL_law_833 : decode cL_law 833 = .ok (.aload_n 2, 1) := by decide +kernel
theorem dL_law_834 : decode cL_law 834 = .ok (.invokevirtual 89, 3) := by decide +kernel
theorem dL_law_837 : decode cL_law 837 = .ok (.iload 5, 2) := by decide +kernel
theorem dL_law_839 : decode cL_law 839 = .ok (.if_icmp .eq 5, 3) := by decide +kernel
theorem dL_law_842 : decode cL_law 842 = .ok (.iconst 0, 1) := by decide +kernel
theorem dL_law_843 : decode cL_law 843 = .ok (.ireturn, 1) := by decide +kernel
theorem dL_law_844 : decode cL_law 844 = .ok (.iload 5, 2) := by decide +kernel
theorem dL_law_846 : decode cL_law 846 = .ok (.ifCond .ne 15, 3) := by decide +kernel
theorem dL_law_849 : decode cL_law 849 = .ok (.aload_n 3, 1) := by decide +kernel
theorem dL_law_850 : decode cL_law 850 = .ok (.iconst 0, 1) := by decide +kernel
theorem dL_law_851 : decode cL_law 851 = .ok (.laload, 1) := by decide +kernel
theorem dL_law_852 : decode cL_law 852 = .ok (.iload 6, 2) := by decide +kernel
theorem dL_law_854 : decode cL_law 854 = .ok (.i2l, 1) := by decide +kernel
theorem dL_law_855 : decode cL_law 855 = .ok (.lcmp, 1) := by decide +kernel
theorem dL_law_856 : decode cL_law 856 = .ok (.ifCond .eq 5, 3) := by decide +kernel
theorem dL_law_859 : decode cL_law 859 = .ok (.iconst 0, 1) := by decide +kernel
theorem dL_law_860 : decode cL_law 860 = .ok (.ireturn, 1) := by decide +kernel
theorem dL_law_861 : decode cL_law 861 = .ok (.goto 708, 3) := by decide +kernel
theorem dL_law_864 : decode cL_law 864 = .ok (.aload_n 1, 1) := by decide +kernel
theorem dL_law_865 : decode cL_law 865 = .ok (.aload_n 0, 1) := by decide +kernel
theorem dL_law_866 : decode cL_law 866 = .ok (.iload 4, 2) := by decide +kernel
theorem dL_law_868 : decode cL_law 868 = .ok (.iconst 1, 1) := by decide +kernel
theorem dL_law_869 : decode cL_law 869 = .ok (.iadd, 1) := by decide +kernel
theorem dL_law_870 : decode cL_law 870 = .ok (.iaload, 1) := by decide +kernel
theorem dL_law_871 : decode cL_law 871 = .ok (.aload_n 0, 1) := by decide +kernel
theorem dL_law_872 : decode cL_law 872 = .ok (.iload 4, 2) := by decide +kernel
theorem dL_law_874 : decode cL_law 874 = .ok (.iconst 2, 1) := by decide +kernel
theorem dL_law_875 : decode cL_law 875 = .ok (.iadd, 1) := by decide +kernel
theorem dL_law_876 : decode cL_law 876 = .ok (.iaload, 1) := by decide +kernel
theorem dL_law_877 : decode cL_law 877 = .ok (.aload_n 0, 1) := by decide +kernel
theorem dL_law_878 : decode cL_law 878 = .ok (.iload 4, 2) := by decide +kernel
theorem dL_law_880 : decode cL_law 880 = .ok (.iconst 3, 1) := by decide +kernel
theorem dL_law_881 : decode cL_law 881 = .ok (.iadd, 1) := by decide +kernel
theorem dL_law_882 : decode cL_law 882 = .ok (.iaload, 1) := by decide +kernel
theorem dL_law_883 : decode cL_law 883 = .ok (.aload_n 3, 1) := by decide +kernel
theorem dL_law_884 : decode cL_law 884 = .ok (.invokestatic 129, 3) := by decide +kernel
theorem dL_law_887 : decode cL_law 887 = .ok (.istore 5, 2) := by decide +kernel
theorem dL_law_889 : decode cL_law 889 = .ok (.aload_n 2, 1) := by decide +kernel
theorem dL_law_890 : decode cL_law 890 = .ok (.aload_n 0, 1) := by decide +kernel
theorem dL_law_891 : decode cL_law 891 = .ok (.iload 4, 2) := by decide +kernel
theorem dL_law_893 : decode cL_law 893 = .ok (.iconst 1, 1) := by decide +kernel
theorem dL_law_894 : decode cL_law 894 = .ok (.iadd, 1) := by decide +kernel
theorem dL_law_895 : decode cL_law 895 = .ok (.iaload, 1) := by decide +kernel
theorem dL_law_896 : decode cL_law 896 = .ok (.aload_n 0, 1) := by decide +kernel
theorem dL_law_897 : decode cL_law 897 = .ok (.iload 4, 2) := by decide +kernel
theorem dL_law_899 : decode cL_law 899 = .ok (.iconst 2, 1) := by decide +kernel
theorem dL_law_900 : decode cL_law 900 = .ok (.iadd, 1) := by decide +kernel
theorem dL_law_901 : decode cL_law 901 = .ok (.iaload, 1) := by decide +kernel
theorem dL_law_902 : decode cL_law 902 = .ok (.aload_n 0, 1) := by decide +kernel
theorem dL_law_903 : decode cL_law 903 = .ok (.iload 4, 2) := by decide +kernel
theorem dL_law_905 : decode cL_law 905 = .ok (.iconst 3, 1) := by decide +kernel
theorem dL_law_906 : decode cL_law 906 = .ok (.iadd, 1) := by decide +kernel
theorem dL_law_907 : decode cL_law 907 = .ok (.iaload, 1) := by decide +kernel
theorem dL_law_908 : decode cL_law 908 = .ok (.invokevirtual 131, 3) := by decide +kernel
theorem dL_law_911 : decode cL_law 911 = .ok (.istore 6, 2) := by decide +kernel
theorem dL_law_913 : decode cL_law 913 = .ok (.aload_n 2, 1) := by decide +kernel
theorem dL_law_914 : decode cL_law 914 = .ok (.invokevirtual 89, 3) := by decide +kernel
theorem dL_law_917 : decode cL_law 917 = .ok (.iload 5, 2) := by decide +kernel
theorem dL_law_919 : decode cL_law 919 = .ok (.if_icmp .eq 5, 3) := by decide +kernel
theorem dL_law_922 : decode cL_law 922 = .ok (.iconst 0, 1) := by decide +kernel
theorem dL_law_923 : decode cL_law 923 = .ok (.ireturn, 1) := by decide +kernel
theorem dL_law_924 : decode cL_law 924 = .ok (.iload 5, 2) := by decide +kernel
theorem dL_law_926 : decode cL_law 926 = .ok (.ifCond .ne 15, 3) := by decide +kernel
theorem dL_law_929 : decode cL_law 929 = .ok (.aload_n 3, 1) := by decide +kernel
theorem dL_law_930 : decode cL_law 930 = .ok (.iconst 0, 1) := by decide +kernel
theorem dL_law_931 : decode cL_law 931 = .ok (.laload, 1) := by decide +kernel
theorem dL_law_932 : decode cL_law 932 = .ok (.iload 6, 2) := by decide +kernel
theorem dL_law_934 : decode cL_law 934 = .ok (.i2l, 1) := by decide +kernel
theorem dL_law_935 : decode cL_law 935 = .ok (.lcmp, 1) := by decide +kernel
theorem dL_law_936 : decode cL_law 936 = .ok (.ifCond .eq 5, 3) := by decide +kernel
theorem dL_law_939 : decode cL_law 939 = .ok (.iconst 0, 1) := by decide +kernel
theorem dL_law_940 : decode cL_law 940 = .ok (.ireturn, 1) := by decide +kernel
theorem dL_law_941 : decode cL_law 941 = .ok (.goto 628, 3) := by decide +kernel
theorem dL_law_944 : decode cL_law 944 = .ok (.aload_n 1, 1) := by decide +kernel
theorem dL_law_945 : decode cL_law 945 = .ok (.aload_n 0, 1) := by decide +kernel
theorem dL_law_946 : decode cL_law 946 = .ok (.iload 4, 2) := by decide +kernel
theorem dL_law_948 : decode cL_law 948 = .ok (.iconst 1, 1) := by decide +kernel
theorem dL_law_949 : decode cL_law 949 = .ok (.iadd, 1) := by decide +kernel
theorem dL_law_950 : decode cL_law 950 = .ok (.iaload, 1) := by decide +kernel
theorem dL_law_951 : decode cL_law 951 = .ok (.aload_n 0, 1) := by decide +kernel
theorem dL_law_952 : decode cL_law 952 = .ok (.iload 4, 2) := by decide +kernel
theorem dL_law_954 : decode cL_law 954 = .ok (.iconst 2, 1) := by decide +kernel
theorem dL_law_955 : decode cL_law 955 = .ok (.iadd, 1) := by decide +kernel
theorem dL_law_956 : decode cL_law 956 = .ok (.iaload, 1) := by decide +kernel
theorem dL_law_957 : decode cL_law 957 = .ok (.invokevirtual 132, 3) := by decide +kernel
theorem dL_law_960 : decode cL_law 960 = .ok (.aload_n 2, 1) := by decide +kernel
theorem dL_law_961 : decode cL_law 961 = .ok (.aload_n 0, 1) := by decide +kernel
theorem dL_law_962 : decode cL_law 962 = .ok (.iload 4, 2) := by decide +kernel
theorem dL_law_964 : decode cL_law 964 = .ok (.iconst 1, 1) := by decide +kernel
theorem dL_law_965 : decode cL_law 965 = .ok (.iadd, 1) := by decide +kernel
theorem dL_law_966 : decode cL_law 966 = .ok (.iaload, 1) := by decide +kernel
theorem dL_law_967 : decode cL_law 967 = .ok (.aload_n 0, 1) := by decide +kernel
theorem dL_law_968 : decode cL_law 968 = .ok (.iload 4, 2) := by decide +kernel
theorem dL_law_970 : decode cL_law 970 = .ok (.iconst 2, 1) := by decide +kernel
theorem dL_law_971 : decode cL_law 971 = .ok (.iadd, 1) := by decide +kernel
theorem dL_law_972 : decode cL_law 972 = .ok (.iaload, 1) := by decide +kernel
theorem dL_law_973 : decode cL_law 973 = .ok (.invokevirtual 135, 3) := by decide +kernel
theorem dL_law_976 : decode cL_law 976 = .ok (.if_icmp .eq 593, 3) := by decide +kernel
theorem dL_law_979 : decode cL_law 979 = .ok (.iconst 0, 1) := by decide +kernel
theorem dL_law_980 : decode cL_law 980 = .ok (.ireturn, 1) := by decide +kernel
theorem dL_law_981 : decode cL_law 981 = .ok (.aload_n 1, 1) := by decide +kernel
theorem dL_law_982 : decode cL_law 982 = .ok (.aload_n 0, 1) := by decide +kernel
theorem dL_law_983 : decode cL_law 983 = .ok (.iload 4, 2) := by decide +kernel
theorem dL_law_985 : decode cL_law 985 = .ok (.iconst 1, 1) := by decide +kernel
theorem dL_law_986 : decode cL_law 986 = .ok (.iadd, 1) := by decide +kernel
theorem dL_law_987 : decode cL_law 987 = .ok (.iaload, 1) := by decide +kernel
theorem dL_law_988 : decode cL_law 988 = .ok (.aload_n 0, 1) := by decide +kernel
theorem dL_law_989 : decode cL_law 989 = .ok (.iload 4, 2) := by decide +kernel
theorem dL_law_991 : decode cL_law 991 = .ok (.iconst 2, 1) := by decide +kernel
theorem dL_law_992 : decode cL_law 992 = .ok (.iadd, 1) := by decide +kernel
theorem dL_law_993 : decode cL_law 993 = .ok (.iaload, 1) := by decide +kernel
theorem dL_law_994 : decode cL_law 994 = .ok (.aload_n 3, 1) := by decide +kernel
theorem dL_law_995 : decode cL_law 995 = .ok (.invokestatic 136, 3) := by decide +kernel
theorem dL_law_998 : decode cL_law 998 = .ok (.istore 5, 2) := by decide +kernel
theorem dL_law_1000 : decode cL_law 1000 = .ok (.aload_n 2, 1) := by decide +kernel
theorem dL_law_1001 : decode cL_law 1001 = .ok (.aload_n 0, 1) := by decide +kernel
theorem dL_law_1002 : decode cL_law 1002 = .ok (.iload 4, 2) := by decide +kernel
theorem dL_law_1004 : decode cL_law 1004 = .ok (.iconst 1, 1) := by decide +kernel
theorem dL_law_1005 : decode cL_law 1005 = .ok (.iadd, 1) := by decide +kernel
theorem dL_law_1006 : decode cL_law 1006 = .ok (.iaload, 1) := by decide +kernel
theorem dL_law_1007 : decode cL_law 1007 = .ok (.aload_n 0, 1) := by decide +kernel
theorem dL_law_1008 : decode cL_law 1008 = .ok (.iload 4, 2) := by decide +kernel
theorem dL_law_1010 : decode cL_law 1010 = .ok (.iconst 2, 1) := by decide +kernel
theorem dL_law_1011 : decode cL_law 1011 = .ok (.iadd, 1) := by decide +kernel
theorem dL_law_1012 : decode cL_law 1012 = .ok (.iaload, 1) := by decide +kernel
theorem dL_law_1013 : decode cL_law 1013 = .ok (.invokevirtual 138, 3) := by decide +kernel
theorem dL_law_1016 : decode cL_law 1016 = .ok (.istore 6, 2) := by decide +kernel
theorem dL_law_1018 : decode cL_law 1018 = .ok (.aload_n 2, 1) := by decide +kernel
theorem dL_law_1019 : decode cL_law 1019 = .ok (.invokevirtual 89, 3) := by decide +kernel
theorem dL_law_1022 : decode cL_law 1022 = .ok (.iload 5, 2) := by decide +kernel
theorem dL_law_1024 : decode cL_law 1024 = .ok (.if_icmp .eq 5, 3) := by decide +kernel
theorem dL_law_1027 : decode cL_law 1027 = .ok (.iconst 0, 1) := by decide +kernel
theorem dL_law_1028 : decode cL_law 1028 = .ok (.ireturn, 1) := by decide +kernel
theorem dL_law_1029 : decode cL_law 1029 = .ok (.iload 5, 2) := by decide +kernel
theorem dL_law_1031 : decode cL_law 1031 = .ok (.ifCond .ne 15, 3) := by decide +kernel
theorem dL_law_1034 : decode cL_law 1034 = .ok (.aload_n 3, 1) := by decide +kernel
theorem dL_law_1035 : decode cL_law 1035 = .ok (.iconst 0, 1) := by decide +kernel
theorem dL_law_1036 : decode cL_law 1036 = .ok (.laload, 1) := by decide +kernel
theorem dL_law_1037 : decode cL_law 1037 = .ok (.iload 6, 2) := by decide +kernel
theorem dL_law_1039 : decode cL_law 1039 = .ok (.i2l, 1) := by decide +kernel
theorem dL_law_1040 : decode cL_law 1040 = .ok (.lcmp, 1) := by decide +kernel
theorem dL_law_1041 : decode cL_law 1041 = .ok (.ifCond .eq 5, 3) := by decide +kernel
theorem dL_law_1044 : decode cL_law 1044 = .ok (.iconst 0, 1) := by decide +kernel
theorem dL_law_1045 : decode cL_law 1045 = .ok (.ireturn, 1) := by decide +kernel
theorem dL_law_1046 : decode cL_law 1046 = .ok (.goto 523, 3) := by decide +kernel
theorem dL_law_1049 : decode cL_law 1049 = .ok (.aload_n 1, 1) := by decide +kernel
theorem dL_law_1050 : decode cL_law 1050 = .ok (.aload_n 0, 1) := by decide +kernel
theorem dL_law_1051 : decode cL_law 1051 = .ok (.iload 4, 2) := by decide +kernel
theorem dL_law_1053 : decode cL_law 1053 = .ok (.iconst 1, 1) := by decide +kernel
theorem dL_law_1054 : decode cL_law 1054 = .ok (.iadd, 1) := by decide +kernel
theorem dL_law_1055 : decode cL_law 1055 = .ok (.iaload, 1) := by decide +kernel
theorem dL_law_1056 : decode cL_law 1056 = .ok (.aload_n 3, 1) := by decide +kernel
theorem dL_law_1057 : decode cL_law 1057 = .ok (.invokestatic 139, 3) := by decide +kernel
theorem dL_law_1060 : decode cL_law 1060 = .ok (.istore 5, 2) := by decide +kernel
theorem dL_law_1062 : decode cL_law 1062 = .ok (.aload_n 2, 1) := by decide +kernel
theorem dL_law_1063 : decode cL_law 1063 = .ok (.aload_n 0, 1) := by decide +kernel
theorem dL_law_1064 : decode cL_law 1064 = .ok (.iload 4, 2) := by decide +kernel
theorem dL_law_1066 : decode cL_law 1066 = .ok (.iconst 1, 1) := by decide +kernel
theorem dL_law_1067 : decode cL_law 1067 = .ok (.iadd, 1) := by decide +kernel
theorem dL_law_1068 : decode cL_law 1068 = .ok (.iaload, 1) := by decide +kernel
theorem dL_law_1069 : decode cL_law 1069 = .ok (.invokevirtual 141, 3) := by decide +kernel
theorem dL_law_1072 : decode cL_law 1072 = .ok (.istore 6, 2) := by decide +kernel
theorem dL_law_1074 : decode cL_law 1074 = .ok (.aload_n 2, 1) := by decide +kernel
theorem dL_law_1075 : decode cL_law 1075 = .ok (.invokevirtual 89, 3) := by decide +kernel
theorem dL_law_1078 : decode cL_law 1078 = .ok (.iload 5, 2) := by decide +kernel
theorem dL_law_1080 : decode cL_law 1080 = .ok (.if_icmp .eq 5, 3) := by decide +kernel
theorem dL_law_1083 : decode cL_law 1083 = .ok (.iconst 0, 1) := by decide +kernel
theorem dL_law_1084 : decode cL_law 1084 = .ok (.ireturn, 1) := by decide +kernel
theorem dL_law_1085 : decode cL_law 1085 = .ok (.iload 5, 2) := by decide +kernel
theorem dL_law_1087 : decode cL_law 1087 = .ok (.ifCond .ne 15, 3) := by decide +kernel
theorem dL_law_1090 : decode cL_law 1090 = .ok (.aload_n 3, 1) := by decide +kernel
theorem dL_law_1091 : decode cL_law 1091 = .ok (.iconst 0, 1) := by decide +kernel
theorem dL_law_1092 : decode cL_law 1092 = .ok (.laload, 1) := by decide +kernel
theorem dL_law_1093 : decode cL_law 1093 = .ok (.iload 6, 2) := by decide +kernel
theorem dL_law_1095 : decode cL_law 1095 = .ok (.i2l, 1) := by decide +kernel
theorem dL_law_1096 : decode cL_law 1096 = .ok (.lcmp, 1) := by decide +kernel
theorem dL_law_1097 : decode cL_law 1097 = .ok (.ifCond .eq 5, 3) := by decide +kernel
theorem dL_law_1100 : decode cL_law 1100 = .ok (.iconst 0, 1) := by decide +kernel
theorem dL_law_1101 : decode cL_law 1101 = .ok (.ireturn, 1) := by decide +kernel
theorem dL_law_1102 : decode cL_law 1102 = .ok (.goto 467, 3) := by decide +kernel
theorem dL_law_1105 : decode cL_law 1105 = .ok (.aload_n 1, 1) := by decide +kernel
theorem dL_law_1106 : decode cL_law 1106 = .ok (.aload_n 0, 1) := by decide +kernel
theorem dL_law_1107 : decode cL_law 1107 = .ok (.iload 4, 2) := by decide +kernel
theorem dL_law_1109 : decode cL_law 1109 = .ok (.iconst 1, 1) := by decide +kernel
theorem dL_law_1110 : decode cL_law 1110 = .ok (.iadd, 1) := by decide +kernel
theorem dL_law_1111 : decode cL_law 1111 = .ok (.iaload, 1) := by decide +kernel
theorem dL_law_1112 : decode cL_law 1112 = .ok (.invokevirtual 142, 3) := by decide +kernel
theorem dL_law_1115 : decode cL_law 1115 = .ok (.aload_n 2, 1) := by decide +kernel
theorem dL_law_1116 : decode cL_law 1116 = .ok (.aload_n 0, 1) := by decide +kernel
theorem dL_law_1117 : decode cL_law 1117 = .ok (.iload 4, 2) := by decide +kernel
theorem dL_law_1119 : decode cL_law 1119 = .ok (.iconst 1, 1) := by decide +kernel
theorem dL_law_1120 : decode cL_law 1120 = .ok (.iadd, 1) := by decide +kernel
theorem dL_law_1121 : decode cL_law 1121 = .ok (.iaload, 1) := by decide +kernel
theorem dL_law_1122 : decode cL_law 1122 = .ok (.invokevirtual 145, 3) := by decide +kernel
theorem dL_law_1125 : decode cL_law 1125 = .ok (.if_icmp .eq 444, 3) := by decide +kernel
theorem dL_law_1128 : decode cL_law 1128 = .ok (.iconst 0, 1) := by decide +kernel
theorem dL_law_1129 : decode cL_law 1129 = .ok (.ireturn, 1) := by decide +kernel
theorem dL_law_1130 : decode cL_law 1130 = .ok (.aload_n 1, 1) := by decide +kernel
theorem dL_law_1131 : decode cL_law 1131 = .ok (.aload_n 0, 1) := by decide +kernel
theorem dL_law_1132 : decode cL_law 1132 = .ok (.iload 4, 2) := by decide +kernel
theorem dL_law_1134 : decode cL_law 1134 = .ok (.iconst 1, 1) := by decide +kernel
theorem dL_law_1135 : decode cL_law 1135 = .ok (.iadd, 1) := by decide +kernel
theorem dL_law_1136 : decode cL_law 1136 = .ok (.iaload, 1) := by decide +kernel
theorem dL_law_1137 : decode cL_law 1137 = .ok (.aload_n 3, 1) := by decide +kernel
theorem dL_law_1138 : decode cL_law 1138 = .ok (.invokestatic 146, 3) := by decide +kernel
theorem dL_law_1141 : decode cL_law 1141 = .ok (.istore 5, 2) := by decide +kernel
theorem dL_law_1143 : decode cL_law 1143 = .ok (.aload_n 2, 1) := by decide +kernel
theorem dL_law_1144 : decode cL_law 1144 = .ok (.aload_n 0, 1) := by decide +kernel
theorem dL_law_1145 : decode cL_law 1145 = .ok (.iload 4, 2) := by decide +kernel
theorem dL_law_1147 : decode cL_law 1147 = .ok (.iconst 1, 1) := by decide +kernel
theorem dL_law_1148 : decode cL_law 1148 = .ok (.iadd, 1) := by decide +kernel
theorem dL_law_1149 : decode cL_law 1149 = .ok (.iaload, 1) := by decide +kernel
theorem dL_law_1150 : decode cL_law 1150 = .ok (.invokevirtual 148, 3) := by decide +kernel
theorem dL_law_1153 : decode cL_law 1153 = .ok (.istore 6, 2) := by decide +kernel
theorem dL_law_1155 : decode cL_law 1155 = .ok (.aload_n 2, 1) := by decide +kernel
theorem dL_law_1156 : decode cL_law 1156 = .ok (.invokevirtual 89, 3) := by decide +kernel
theorem dL_law_1159 : decode cL_law 1159 = .ok (.iload 5, 2) := by decide +kernel
theorem dL_law_1161 : decode cL_law 1161 = .ok (.if_icmp .eq 5, 3) := by decide +kernel
theorem dL_law_1164 : decode cL_law 1164 = .ok (.iconst 0, 1) := by decide +kernel
theorem dL_law_1165 : decode cL_law 1165 = .ok (.ireturn, 1) := by decide +kernel
theorem dL_law_1166 : decode cL_law 1166 = .ok (.iload 5, 2) := by decide +kernel
theorem dL_law_1168 : decode cL_law 1168 = .ok (.ifCond .ne 15, 3) := by decide +kernel
theorem dL_law_1171 : decode cL_law 1171 = .ok (.aload_n 3, 1) := by decide +kernel
theorem dL_law_1172 : decode cL_law 1172 = .ok (.iconst 0, 1) := by decide +kernel
theorem dL_law_1173 : decode cL_law 1173 = .ok (.laload, 1) := by decide +kernel
theorem dL_law_1174 : decode cL_law 1174 = .ok (.iload 6, 2) := by decide +kernel
theorem dL_law_1176 : decode cL_law 1176 = .ok (.i2l, 1) := by decide +kernel
theorem dL_law_1177 : decode cL_law 1177 = .ok (.lcmp, 1) := by decide +kernel
theorem dL_law_1178 : decode cL_law 1178 = .ok (.ifCond .eq 5, 3) := by decide +kernel
theorem dL_law_1181 : decode cL_law 1181 = .ok (.iconst 0, 1) := by decide +kernel
theorem dL_law_1182 : decode cL_law 1182 = .ok (.ireturn, 1) := by decide +kernel
theorem dL_law_1183 : decode cL_law 1183 = .ok (.goto 386, 3) := by decide +kernel
theorem dL_law_1186 : decode cL_law 1186 = .ok (.aload_n 1, 1) := by decide +kernel
theorem dL_law_1187 : decode cL_law 1187 = .ok (.aload_n 0, 1) := by decide +kernel
theorem dL_law_1188 : decode cL_law 1188 = .ok (.iload 4, 2) := by decide +kernel
theorem dL_law_1190 : decode cL_law 1190 = .ok (.iconst 1, 1) := by decide +kernel
theorem dL_law_1191 : decode cL_law 1191 = .ok (.iadd, 1) := by decide +kernel
theorem dL_law_1192 : decode cL_law 1192 = .ok (.iaload, 1) := by decide +kernel
theorem dL_law_1193 : decode cL_law 1193 = .ok (.aload_n 0, 1) := by decide +kernel
theorem dL_law_1194 : decode cL_law 1194 = .ok (.iload 4, 2) := by decide +kernel
theorem dL_law_1196 : decode cL_law 1196 = .ok (.iconst 2, 1) := by decide +kernel
theorem dL_law_1197 : decode cL_law 1197 = .ok (.iadd, 1) := by decide +kernel
theorem dL_law_1198 : decode cL_law 1198 = .ok (.iaload, 1) := by decide +kernel
theorem dL_law_1199 : decode cL_law 1199 = .ok (.aload_n 0, 1) := by decide +kernel
theorem dL_law_1200 : decode cL_law 1200 = .ok (.iload 4, 2) := by decide +kernel
theorem dL_law_1202 : decode cL_law 1202 = .ok (.iconst 3, 1) := by decide +kernel
theorem dL_law_1203 : decode cL_law 1203 = .ok (.iadd, 1) := by decide +kernel
theorem dL_law_1204 : decode cL_law 1204 = .ok (.iaload, 1) := by decide +kernel
theorem dL_law_1205 : decode cL_law 1205 = .ok (.aload_n 3, 1) := by decide +kernel
theorem dL_law_1206 : decode cL_law 1206 = .ok (.invokestatic 149, 3) := by decide +kernel
theorem dL_law_1209 : decode cL_law 1209 = .ok (.istore 5, 2) := by decide +kernel
theorem dL_law_1211 : decode cL_law 1211 = .ok (.aload_n 2, 1) := by decide +kernel
theorem dL_law_1212 : decode cL_law 1212 = .ok (.aload_n 0, 1) := by decide +kernel
theorem dL_law_1213 : decode cL_law 1213 = .ok (.iload 4, 2) := by decide +kernel
theorem dL_law_1215 : decode cL_law 1215 = .ok (.iconst 1, 1) := by decide +kernel
theorem dL_law_1216 : decode cL_law 1216 = .ok (.iadd, 1) := by decide +kernel
theorem dL_law_1217 : decode cL_law 1217 = .ok (.iaload, 1) := by decide +kernel
theorem dL_law_1218 : decode cL_law 1218 = .ok (.aload_n 0, 1) := by decide +kernel
theorem dL_law_1219 : decode cL_law 1219 = .ok (.iload 4, 2) := by decide +kernel
theorem dL_law_1221 : decode cL_law 1221 = .ok (.iconst 2, 1) := by decide +kernel
theorem dL_law_1222 : decode cL_law 1222 = .ok (.iadd, 1) := by decide +kernel
theorem dL_law_1223 : decode cL_law 1223 = .ok (.iaload, 1) := by decide +kernel
theorem dL_law_1224 : decode cL_law 1224 = .ok (.aload_n 0, 1) := by decide +kernel
theorem dL_law_1225 : decode cL_law 1225 = .ok (.iload 4, 2) := by decide +kernel
theorem dL_law_1227 : decode cL_law 1227 = .ok (.iconst 3, 1) := by decide +kernel
theorem dL_law_1228 : decode cL_law 1228 = .ok (.iadd, 1) := by decide +kernel
theorem dL_law_1229 : decode cL_law 1229 = .ok (.iaload, 1) := by decide +kernel
theorem dL_law_1230 : decode cL_law 1230 = .ok (.invokevirtual 151, 3) := by decide +kernel
theorem dL_law_1233 : decode cL_law 1233 = .ok (.istore 6, 2) := by decide +kernel
theorem dL_law_1235 : decode cL_law 1235 = .ok (.aload_n 2, 1) := by decide +kernel
theorem dL_law_1236 : decode cL_law 1236 = .ok (.invokevirtual 89, 3) := by decide +kernel
theorem dL_law_1239 : decode cL_law 1239 = .ok (.iload 5, 2) := by decide +kernel
theorem dL_law_1241 : decode cL_law 1241 = .ok (.if_icmp .eq 5, 3) := by decide +kernel
theorem dL_law_1244 : decode cL_law 1244 = .ok (.iconst 0, 1) := by decide +kernel
theorem dL_law_1245 : decode cL_law 1245 = .ok (.ireturn, 1) := by decide +kernel
theorem dL_law_1246 : decode cL_law 1246 = .ok (.iload 5, 2) := by decide +kernel
theorem dL_law_1248 : decode cL_law 1248 = .ok (.ifCond .ne 15, 3) := by decide +kernel
theorem dL_law_1251 : decode cL_law 1251 = .ok (.aload_n 3, 1) := by decide +kernel
theorem dL_law_1252 : decode cL_law 1252 = .ok (.iconst 0, 1) := by decide +kernel
theorem dL_law_1253 : decode cL_law 1253 = .ok (.laload, 1) := by decide +kernel
theorem dL_law_1254 : decode cL_law 1254 = .ok (.iload 6, 2) := by decide +kernel
theorem dL_law_1256 : decode cL_law 1256 = .ok (.i2l, 1) := by decide +kernel
theorem dL_law_1257 : decode cL_law 1257 = .ok (.lcmp, 1) := by decide +kernel
theorem dL_law_1258 : decode cL_law 1258 = .ok (.ifCond .eq 5, 3) := by decide +kernel
theorem dL_law_1261 : decode cL_law 1261 = .ok (.iconst 0, 1) := by decide +kernel
theorem dL_law_1262 : decode cL_law 1262 = .ok (.ireturn, 1) := by decide +kernel
theorem dL_law_1263 : decode cL_law 1263 = .ok (.goto 306, 3) := by decide +kernel
theorem dL_law_1266 : decode cL_law 1266 = .ok (.aload_n 1, 1) := by decide +kernel
theorem dL_law_1267 : decode cL_law 1267 = .ok (.aload_n 0, 1) := by decide +kernel
theorem dL_law_1268 : decode cL_law 1268 = .ok (.iload 4, 2) := by decide +kernel
theorem dL_law_1270 : decode cL_law 1270 = .ok (.iconst 1, 1) := by decide +kernel
theorem dL_law_1271 : decode cL_law 1271 = .ok (.iadd, 1) := by decide +kernel
theorem dL_law_1272 : decode cL_law 1272 = .ok (.iaload, 1) := by decide +kernel
theorem dL_law_1273 : decode cL_law 1273 = .ok (.aload_n 0, 1) := by decide +kernel
theorem dL_law_1274 : decode cL_law 1274 = .ok (.iload 4, 2) := by decide +kernel
theorem dL_law_1276 : decode cL_law 1276 = .ok (.iconst 2, 1) := by decide +kernel
theorem dL_law_1277 : decode cL_law 1277 = .ok (.iadd, 1) := by decide +kernel
theorem dL_law_1278 : decode cL_law 1278 = .ok (.iaload, 1) := by decide +kernel
theorem dL_law_1279 : decode cL_law 1279 = .ok (.aload_n 0, 1) := by decide +kernel
theorem dL_law_1280 : decode cL_law 1280 = .ok (.iload 4, 2) := by decide +kernel
theorem dL_law_1282 : decode cL_law 1282 = .ok (.iconst 3, 1) := by decide +kernel
theorem dL_law_1283 : decode cL_law 1283 = .ok (.iadd, 1) := by decide +kernel
theorem dL_law_1284 : decode cL_law 1284 = .ok (.iaload, 1) := by decide +kernel
theorem dL_law_1285 : decode cL_law 1285 = .ok (.aload_n 3, 1) := by decide +kernel
theorem dL_law_1286 : decode cL_law 1286 = .ok (.invokestatic 152, 3) := by decide +kernel
theorem dL_law_1289 : decode cL_law 1289 = .ok (.istore 5, 2) := by decide +kernel
theorem dL_law_1291 : decode cL_law 1291 = .ok (.aload_n 2, 1) := by decide +kernel
theorem dL_law_1292 : decode cL_law 1292 = .ok (.aload_n 0, 1) := by decide +kernel
theorem dL_law_1293 : decode cL_law 1293 = .ok (.iload 4, 2) := by decide +kernel
theorem dL_law_1295 : decode cL_law 1295 = .ok (.iconst 1, 1) := by decide +kernel
theorem dL_law_1296 : decode cL_law 1296 = .ok (.iadd, 1) := by decide +kernel
theorem dL_law_1297 : decode cL_law 1297 = .ok (.iaload, 1) := by decide +kernel
theorem dL_law_1298 : decode cL_law 1298 = .ok (.aload_n 0, 1) := by decide +kernel
theorem dL_law_1299 : decode cL_law 1299 = .ok (.iload 4, 2) := by decide +kernel
theorem dL_law_1301 : decode cL_law 1301 = .ok (.iconst 2, 1) := by decide +kernel
theorem dL_law_1302 : decode cL_law 1302 = .ok (.iadd, 1) := by decide +kernel
theorem dL_law_1303 : decode cL_law 1303 = .ok (.iaload, 1) := by decide +kernel
theorem dL_law_1304 : decode cL_law 1304 = .ok (.aload_n 0, 1) := by decide +kernel
theorem dL_law_1305 : decode cL_law 1305 = .ok (.iload 4, 2) := by decide +kernel
theorem dL_law_1307 : decode cL_law 1307 = .ok (.iconst 3, 1) := by decide +kernel
theorem dL_law_1308 : decode cL_law 1308 = .ok (.iadd, 1) := by decide +kernel
theorem dL_law_1309 : decode cL_law 1309 = .ok (.iaload, 1) := by decide +kernel
theorem dL_law_1310 : decode cL_law 1310 = .ok (.invokevirtual 154, 3) := by decide +kernel
theorem dL_law_1313 : decode cL_law 1313 = .ok (.istore 6, 2) := by decide +kernel
theorem dL_law_1315 : decode cL_law 1315 = .ok (.aload_n 2, 1) := by decide +kernel
theorem dL_law_1316 : decode cL_law 1316 = .ok (.invokevirtual 89, 3) := by decide +kernel
theorem dL_law_1319 : decode cL_law 1319 = .ok (.iload 5, 2) := by decide +kernel
theorem dL_law_1321 : decode cL_law 1321 = .ok (.if_icmp .eq 5, 3) := by decide +kernel
theorem dL_law_1324 : decode cL_law 1324 = .ok (.iconst 0, 1) := by decide +kernel
theorem dL_law_1325 : decode cL_law 1325 = .ok (.ireturn, 1) := by decide +kernel
theorem dL_law_1326 : decode cL_law 1326 = .ok (.iload 5, 2) := by decide +kernel
theorem dL_law_1328 : decode cL_law 1328 = .ok (.ifCond .ne 15, 3) := by decide +kernel
theorem dL_law_1331 : decode cL_law 1331 = .ok (.aload_n 3, 1) := by decide +kernel
theorem dL_law_1332 : decode cL_law 1332 = .ok (.iconst 0, 1) := by decide +kernel
theorem dL_law_1333 : decode cL_law 1333 = .ok (.laload, 1) := by decide +kernel
theorem dL_law_1334 : decode cL_law 1334 = .ok (.iload 6, 2) := by decide +kernel
theorem dL_law_1336 : decode cL_law 1336 = .ok (.i2l, 1) := by decide +kernel
theorem dL_law_1337 : decode cL_law 1337 = .ok (.lcmp, 1) := by decide +kernel
theorem dL_law_1338 : decode cL_law 1338 = .ok (.ifCond .eq 5, 3) := by decide +kernel
theorem dL_law_1341 : decode cL_law 1341 = .ok (.iconst 0, 1) := by decide +kernel
theorem dL_law_1342 : decode cL_law 1342 = .ok (.ireturn, 1) := by decide +kernel
theorem dL_law_1343 : decode cL_law 1343 = .ok (.goto 226, 3) := by decide +kernel
theorem dL_law_1346 : decode cL_law 1346 = .ok (.aload_n 1, 1) := by decide +kernel
theorem dL_law_1347 : decode cL_law 1347 = .ok (.aload_n 0, 1) := by decide +kernel
theorem dL_law_1348 : decode cL_law 1348 = .ok (.iload 4, 2) := by decide +kernel
theorem dL_law_1350 : decode cL_law 1350 = .ok (.iconst 1, 1) := by decide +kernel
theorem dL_law_1351 : decode cL_law 1351 = .ok (.iadd, 1) := by decide +kernel
theorem dL_law_1352 : decode cL_law 1352 = .ok (.iaload, 1) := by decide +kernel
theorem dL_law_1353 : decode cL_law 1353 = .ok (.aload_n 0, 1) := by decide +kernel
theorem dL_law_1354 : decode cL_law 1354 = .ok (.iload 4, 2) := by decide +kernel
theorem dL_law_1356 : decode cL_law 1356 = .ok (.iconst 2, 1) := by decide +kernel
theorem dL_law_1357 : decode cL_law 1357 = .ok (.iadd, 1) := by decide +kernel
theorem dL_law_1358 : decode cL_law 1358 = .ok (.iaload, 1) := by decide +kernel
theorem dL_law_1359 : decode cL_law 1359 = .ok (.aload_n 3, 1) := by decide +kernel
theorem dL_law_1360 : decode cL_law 1360 = .ok (.invokestatic 155, 3) := by decide +kernel
theorem dL_law_1363 : decode cL_law 1363 = .ok (.istore 5, 2) := by decide +kernel
theorem dL_law_1365 : decode cL_law 1365 = .ok (.aload_n 2, 1) := by decide +kernel
theorem dL_law_1366 : decode cL_law 1366 = .ok (.aload_n 0, 1) := by decide +kernel
theorem dL_law_1367 : decode cL_law 1367 = .ok (.iload 4, 2) := by decide +kernel
theorem dL_law_1369 : decode cL_law 1369 = .ok (.iconst 1, 1) := by decide +kernel
theorem dL_law_1370 : decode cL_law 1370 = .ok (.iadd, 1) := by decide +kernel
theorem dL_law_1371 : decode cL_law 1371 = .ok (.iaload, 1) := by decide +kernel
theorem dL_law_1372 : decode cL_law 1372 = .ok (.aload_n 0, 1) := by decide +kernel
theorem dL_law_1373 : decode cL_law 1373 = .ok (.iload 4, 2) := by decide +kernel
theorem dL_law_1375 : decode cL_law 1375 = .ok (.iconst 2, 1) := by decide +kernel
theorem dL_law_1376 : decode cL_law 1376 = .ok (.iadd, 1) := by decide +kernel
theorem dL_law_1377 : decode cL_law 1377 = .ok (.iaload, 1) := by decide +kernel
theorem dL_law_1378 : decode cL_law 1378 = .ok (.invokevirtual 157, 3) := by decide +kernel
theorem dL_law_1381 : decode cL_law 1381 = .ok (.istore 6, 2) := by decide +kernel
theorem dL_law_1383 : decode cL_law 1383 = .ok (.aload_n 2, 1) := by decide +kernel
theorem dL_law_1384 : decode cL_law 1384 = .ok (.invokevirtual 89, 3) := by decide +kernel
theorem dL_law_1387 : decode cL_law 1387 = .ok (.iload 5, 2) := by decide +kernel
theorem dL_law_1389 : decode cL_law 1389 = .ok (.if_icmp .eq 5, 3) := by decide +kernel
theorem dL_law_1392 : decode cL_law 1392 = .ok (.iconst 0, 1) := by decide +kernel
theorem dL_law_1393 : decode cL_law 1393 = .ok (.ireturn, 1) := by decide +kernel
theorem dL_law_1394 : decode cL_law 1394 = .ok (.iload 5, 2) := by decide +kernel
theorem dL_law_1396 : decode cL_law 1396 = .ok (.ifCond .ne 15, 3) := by decide +kernel
theorem dL_law_1399 : decode cL_law 1399 = .ok (.aload_n 3, 1) := by decide +kernel
theorem dL_law_1400 : decode cL_law 1400 = .ok (.iconst 0, 1) := by decide +kernel
theorem dL_law_1401 : decode cL_law 1401 = .ok (.laload, 1) := by decide +kernel
theorem dL_law_1402 : decode cL_law 1402 = .ok (.iload 6, 2) := by decide +kernel
theorem dL_law_1404 : decode cL_law 1404 = .ok (.i2l, 1) := by decide +kernel
theorem dL_law_1405 : decode cL_law 1405 = .ok (.lcmp, 1) := by decide +kernel
theorem dL_law_1406 : decode cL_law 1406 = .ok (.ifCond .eq 5, 3) := by decide +kernel
theorem dL_law_1409 : decode cL_law 1409 = .ok (.iconst 0, 1) := by decide +kernel
theorem dL_law_1410 : decode cL_law 1410 = .ok (.ireturn, 1) := by decide +kernel
theorem dL_law_1411 : decode cL_law 1411 = .ok (.goto 158, 3) := by decide +kernel
theorem dL_law_1414 : decode cL_law 1414 = .ok (.aload_n 1, 1) := by decide +kernel
theorem dL_law_1415 : decode cL_law 1415 = .ok (.aload_n 0, 1) := by decide +kernel
theorem dL_law_1416 : decode cL_law 1416 = .ok (.iload 4, 2) := by decide +kernel
theorem dL_law_1418 : decode cL_law 1418 = .ok (.iconst 1, 1) := by decide +kernel
theorem dL_law_1419 : decode cL_law 1419 = .ok (.iadd, 1) := by decide +kernel
theorem dL_law_1420 : decode cL_law 1420 = .ok (.iaload, 1) := by decide +kernel
theorem dL_law_1421 : decode cL_law 1421 = .ok (.aload_n 0, 1) := by decide +kernel
theorem dL_law_1422 : decode cL_law 1422 = .ok (.iload 4, 2) := by decide +kernel
theorem dL_law_1424 : decode cL_law 1424 = .ok (.iconst 2, 1) := by decide +kernel
theorem dL_law_1425 : decode cL_law 1425 = .ok (.iadd, 1) := by decide +kernel
theorem dL_law_1426 : decode cL_law 1426 = .ok (.iaload, 1) := by decide +kernel
theorem dL_law_1427 : decode cL_law 1427 = .ok (.aload_n 0, 1) := by decide +kernel
theorem dL_law_1428 : decode cL_law 1428 = .ok (.iload 4, 2) := by decide +kernel
theorem dL_law_1430 : decode cL_law 1430 = .ok (.iconst 3, 1) := by decide +kernel
theorem dL_law_1431 : decode cL_law 1431 = .ok (.iadd, 1) := by decide +kernel
theorem dL_law_1432 : decode cL_law 1432 = .ok (.iaload, 1) := by decide +kernel
theorem dL_law_1433 : decode cL_law 1433 = .ok (.aload_n 3, 1) := by decide +kernel
theorem dL_law_1434 : decode cL_law 1434 = .ok (.invokestatic 158, 3) := by decide +kernel
theorem dL_law_1437 : decode cL_law 1437 = .ok (.istore 5, 2) := by decide +kernel
theorem dL_law_1439 : decode cL_law 1439 = .ok (.aload_n 2, 1) := by decide +kernel
theorem dL_law_1440 : decode cL_law 1440 = .ok (.aload_n 0, 1) := by decide +kernel
theorem dL_law_1441 : decode cL_law 1441 = .ok (.iload 4, 2) := by decide +kernel
theorem dL_law_1443 : decode cL_law 1443 = .ok (.iconst 1, 1) := by decide +kernel
theorem dL_law_1444 : decode cL_law 1444 = .ok (.iadd, 1) := by decide +kernel
theorem dL_law_1445 : decode cL_law 1445 = .ok (.iaload, 1) := by decide +kernel
theorem dL_law_1446 : decode cL_law 1446 = .ok (.aload_n 0, 1) := by decide +kernel
theorem dL_law_1447 : decode cL_law 1447 = .ok (.iload 4, 2) := by decide +kernel
theorem dL_law_1449 : decode cL_law 1449 = .ok (.iconst 2, 1) := by decide +kernel
theorem dL_law_1450 : decode cL_law 1450 = .ok (.iadd, 1) := by decide +kernel
theorem dL_law_1451 : decode cL_law 1451 = .ok (.iaload, 1) := by decide +kernel
theorem dL_law_1452 : decode cL_law 1452 = .ok (.aload_n 0, 1) := by decide +kernel
theorem dL_law_1453 : decode cL_law 1453 = .ok (.iload 4, 2) := by decide +kernel
theorem dL_law_1455 : decode cL_law 1455 = .ok (.iconst 3, 1) := by decide +kernel
theorem dL_law_1456 : decode cL_law 1456 = .ok (.iadd, 1) := by decide +kernel
theorem dL_law_1457 : decode cL_law 1457 = .ok (.iaload, 1) := by decide +kernel
theorem dL_law_1458 : decode cL_law 1458 = .ok (.invokevirtual 160, 3) := by decide +kernel
theorem dL_law_1461 : decode cL_law 1461 = .ok (.istore 6, 2) := by decide +kernel
theorem dL_law_1463 : decode cL_law 1463 = .ok (.aload_n 2, 1) := by decide +kernel
theorem dL_law_1464 : decode cL_law 1464 = .ok (.invokevirtual 89, 3) := by decide +kernel
theorem dL_law_1467 : decode cL_law 1467 = .ok (.iload 5, 2) := by decide +kernel
theorem dL_law_1469 : decode cL_law 1469 = .ok (.if_icmp .eq 5, 3) := by decide +kernel
theorem dL_law_1472 : decode cL_law 1472 = .ok (.iconst 0, 1) := by decide +kernel
theorem dL_law_1473 : decode cL_law 1473 = .ok (.ireturn, 1) := by decide +kernel
theorem dL_law_1474 : decode cL_law 1474 = .ok (.iload 5, 2) := by decide +kernel
theorem dL_law_1476 : decode cL_law 1476 = .ok (.ifCond .ne 15, 3) := by decide +kernel
theorem dL_law_1479 : decode cL_law 1479 = .ok (.aload_n 3, 1) := by decide +kernel
theorem dL_law_1480 : decode cL_law 1480 = .ok (.iconst 0, 1) := by decide +kernel
theorem dL_law_1481 : decode cL_law 1481 = .ok (.laload, 1) := by decide +kernel
theorem dL_law_1482 : decode cL_law 1482 = .ok (.iload 6, 2) := by decide +kernel
theorem dL_law_1484 : decode cL_law 1484 = .ok (.i2l, 1) := by decide +kernel
theorem dL_law_1485 : decode cL_law 1485 = .ok (.lcmp, 1) := by decide +kernel
theorem dL_law_1486 : decode cL_law 1486 = .ok (.ifCond .eq 5, 3) := by decide +kernel
theorem dL_law_1489 : decode cL_law 1489 = .ok (.iconst 0, 1) := by decide +kernel
theorem dL_law_1490 : decode cL_law 1490 = .ok (.ireturn, 1) := by decide +kernel
theorem dL_law_1491 : decode cL_law 1491 = .ok (.goto 78, 3) := by decide +kernel
theorem dL_law_1494 : decode cL_law 1494 = .ok (.aload_n 1, 1) := by decide +kernel
theorem dL_law_1495 : decode cL_law 1495 = .ok (.aload_n 0, 1) := by decide +kernel
theorem dL_law_1496 : decode cL_law 1496 = .ok (.iload 4, 2) := by decide +kernel
theorem dL_law_1498 : decode cL_law 1498 = .ok (.iconst 1, 1) := by decide +kernel
theorem dL_law_1499 : decode cL_law 1499 = .ok (.iadd, 1) := by decide +kernel
theorem dL_law_1500 : decode cL_law 1500 = .ok (.iaload, 1) := by decide +kernel
theorem dL_law_1501 : decode cL_law 1501 = .ok (.aload_n 0, 1) := by decide +kernel
theorem dL_law_1502 : decode cL_law 1502 = .ok (.iload 4, 2) := by decide +kernel
theorem dL_law_1504 : decode cL_law 1504 = .ok (.iconst 2, 1) := by decide +kernel
theorem dL_law_1505 : decode cL_law 1505 = .ok (.iadd, 1) := by decide +kernel
theorem dL_law_1506 : decode cL_law 1506 = .ok (.iaload, 1) := by decide +kernel
theorem dL_law_1507 : decode cL_law 1507 = .ok (.aload_n 3, 1) := by decide +kernel
theorem dL_law_1508 : decode cL_law 1508 = .ok (.invokestatic 161, 3) := by decide +kernel
theorem dL_law_1511 : decode cL_law 1511 = .ok (.istore 5, 2) := by decide +kernel
theorem dL_law_1513 : decode cL_law 1513 = .ok (.aload_n 2, 1) := by decide +kernel
theorem dL_law_1514 : decode cL_law 1514 = .ok (.aload_n 0, 1) := by decide +kernel
theorem dL_law_1515 : decode cL_law 1515 = .ok (.iload 4, 2) := by decide +kernel
theorem dL_law_1517 : decode cL_law 1517 = .ok (.iconst 1, 1) := by decide +kernel
theorem dL_law_1518 : decode cL_law 1518 = .ok (.iadd, 1) := by decide +kernel
theorem dL_law_1519 : decode cL_law 1519 = .ok (.iaload, 1) := by decide +kernel
theorem dL_law_1520 : decode cL_law 1520 = .ok (.aload_n 0, 1) := by decide +kernel
theorem dL_law_1521 : decode cL_law 1521 = .ok (.iload 4, 2) := by decide +kernel
theorem dL_law_1523 : decode cL_law 1523 = .ok (.iconst 2, 1) := by decide +kernel
theorem dL_law_1524 : decode cL_law 1524 = .ok (.iadd, 1) := by decide +kernel
theorem dL_law_1525 : decode cL_law 1525 = .ok (.iaload, 1) := by decide +kernel
theorem dL_law_1526 : decode cL_law 1526 = .ok (.invokevirtual 163, 3) := by decide +kernel
theorem dL_law_1529 : decode cL_law 1529 = .ok (.istore 6, 2) := by decide +kernel
theorem dL_law_1531 : decode cL_law 1531 = .ok (.aload_n 2, 1) := by decide +kernel
theorem dL_law_1532 : decode cL_law 1532 = .ok (.invokevirtual 89, 3) := by decide +kernel
theorem dL_law_1535 : decode cL_law 1535 = .ok (.iload 5, 2) := by decide +kernel
theorem dL_law_1537 : decode cL_law 1537 = .ok (.if_icmp .eq 5, 3) := by decide +kernel
theorem dL_law_1540 : decode cL_law 1540 = .ok (.iconst 0, 1) := by decide +kernel
theorem dL_law_1541 : decode cL_law 1541 = .ok (.ireturn, 1) := by decide +kernel
theorem dL_law_1542 : decode cL_law 1542 = .ok (.iload 5, 2) := by decide +kernel
theorem dL_law_1544 : decode cL_law 1544 = .ok (.ifCond .ne 22, 3) := by decide +kernel
theorem dL_law_1547 : decode cL_law 1547 = .ok (.aload_n 3, 1) := by decide +kernel
theorem dL_law_1548 : decode cL_law 1548 = .ok (.iconst 0, 1) := by decide +kernel
theorem dL_law_1549 : decode cL_law 1549 = .ok (.laload, 1) := by decide +kernel
theorem dL_law_1550 : decode cL_law 1550 = .ok (.iload 6, 2) := by decide +kernel
theorem dL_law_1552 : decode cL_law 1552 = .ok (.ifCond .eq 7, 3) := by decide +kernel
theorem dL_law_1555 : decode cL_law 1555 = .ok (.lconst 1, 1) := by decide +kernel
theorem dL_law_1556 : decode cL_law 1556 = .ok (.goto 4, 3) := by decide +kernel
theorem dL_law_1559 : decode cL_law 1559 = .ok (.lconst 0, 1) := by decide +kernel
theorem dL_law_1560 : decode cL_law 1560 = .ok (.lcmp, 1) := by decide +kernel
theorem dL_law_1561 : decode cL_law 1561 = .ok (.ifCond .eq 5, 3) := by decide +kernel
theorem dL_law_1564 : decode cL_law 1564 = .ok (.iconst 0, 1) := by decide +kernel
theorem dL_law_1565 : decode cL_law 1565 = .ok (.ireturn, 1) := by decide +kernel
theorem dL_law_1566 : decode cL_law 1566 = .ok (.goto 3, 3) := by decide +kernel
theorem dL_law_1569 : decode cL_law 1569 = .ok (.iinc 4 6, 3) := by decide +kernel
theorem dL_law_1572 : decode cL_law 1572 = .ok (.goto (-1549), 3) := by decide +kernel
theorem dL_law_1575 : decode cL_law 1575 = .ok (.iconst 1, 1) := by decide +kernel
theorem dL_law_1576 : decode cL_law 1576 = .ok (.ireturn, 1) := by decide +kernel
def b_L_law_1575 (L : Nat) (xs : Nat → Int32)  (h : AH) : Option (Int32 × AH) :=
  ok_z (1 : Int32) h
set_option maxHeartbeats 4000000 in
set_option maxRecDepth 100000 in
theorem q_L_law_1575 {L : Nat} {xs : Nat → Int32} {h hE : AH} {v : Int32} (hf : b_L_law_1575 L xs  h = some (v, hE)) : JL L xs cL_law 7 RL "law" (some .boolean) (243) 1575 [] [] h hE (some (.inl (v))) := by
  unfold b_L_law_1575 at hf
  have mE : hp_n h ≤ hp_n hE ∧ hp_s h ≤ hp_s hE := by obtain ⟨-, q⟩ := of_if hf; cases q; exact ⟨Nat.le_refl _, Nat.le_refl _⟩
  refine ⟨by omega, fun X g K ok nmx lev hK en => ?_⟩
  refine tj_iconst (v := 1) ok dL_law_1575 (by decide) ?_
  exact tj_lawret ok hf en dL_law_1576
def b_L_law_1569 (L : Nat) (xs : Nat → Int32) (r23 : Nat → Nat → Nat → Nat → Int32 → AH → Option (Int32 × AH)) (a0 : Nat) (a1 : Nat) (a2 : Nat) (a3 : Nat) (a4 : Int32) (h : AH) : Option (Int32 × AH) :=
  r23 a0 a1 a2 a3 (a4 + (6 : Int32)) h
set_option maxHeartbeats 4000000 in
set_option maxRecDepth 100000 in
theorem q_L_law_1569 {hE : AH} {v : Int32} {L : Nat} {xs : Nat → Int32} {r23 : Nat → Nat → Nat → Nat → Int32 → AH → Option (Int32 × AH)} (hr23 : ∀ (b0 : Nat) (b1 : Nat) (b2 : Nat) (b3 : Nat) (b4 : Int32) (h : AH), r23 b0 b1 b2 b3 b4 h = some (v, hE) → JL L xs cL_law 7 RL "law" (some .boolean) (243) 23 [(0, .inr (.inr (b0))), (1, .inr (.inr (b1))), (2, .inr (.inr (b2))), (3, .inr (.inr (b3))), (4, .inl (b4))] [] h hE (some (.inl (v)))) {a0 : Nat} {a1 : Nat} {a2 : Nat} {a3 : Nat} {a4 : Int32} {h : AH} (hf : b_L_law_1569 L xs r23 a0 a1 a2 a3 a4 h = some (v, hE)) : JL L xs cL_law 7 RL "law" (some .boolean) (243) 1569 [(0, .inr (.inr (a0))), (1, .inr (.inr (a1))), (2, .inr (.inr (a2))), (3, .inr (.inr (a3))), (4, .inl (a4))] [] h hE (some (.inl (v))) := by
  unfold b_L_law_1569 at hf
  have J := hr23 _ _ _ _ _ _ hf
  have mE := J.1
  refine ⟨by omega, fun X g K ok nmx lev hK en => ?_⟩
  refine tj_iinc (lv' := [(0, .inr (.inr (a0))), (1, .inr (.inr (a1))), (2, .inr (.inr (a2))), (3, .inr (.inr (a3))), (4, .inl (a4 + (6 : Int32)))]) ok 4 dL_law_1569 rfl (rfl) (by decide) rfl ?_
  refine tj_goto (tgt := 23) ok dL_law_1572 (by decide) ?_
  exact J.2 X g K ok nmx lev hK en
def b_L_law_223 (L : Nat) (xs : Nat → Int32)  (h : AH) : Option (Int32 × AH) :=
  ok_z (0 : Int32) h
set_option maxHeartbeats 4000000 in
set_option maxRecDepth 100000 in
theorem q_L_law_223 {L : Nat} {xs : Nat → Int32} {h hE : AH} {v : Int32} (hf : b_L_law_223 L xs  h = some (v, hE)) : JL L xs cL_law 7 RL "law" (some .boolean) (243) 223 [] [] h hE (some (.inl (v))) := by
  unfold b_L_law_223 at hf
  have mE : hp_n h ≤ hp_n hE ∧ hp_s h ≤ hp_s hE := by obtain ⟨-, q⟩ := of_if hf; cases q; exact ⟨Nat.le_refl _, Nat.le_refl _⟩
  refine ⟨by omega, fun X g K ok nmx lev hK en => ?_⟩
  refine tj_iconst (v := 0) ok dL_law_223 (by decide) ?_
  exact tj_lawret ok hf en dL_law_224
def b_L_law_152 (L : Nat) (xs : Nat → Int32) (r23 : Nat → Nat → Nat → Nat → Int32 → AH → Option (Int32 × AH)) (a0 : Nat) (a1 : Nat) (a2 : Nat) (a3 : Nat) (a4 : Int32) (h : AH) : Option (Int32 × AH) :=
  (sc_i L xs a0 (a4 + (1 : Int32))).bind fun x1 => (sc_i L xs a0 (a4 + (2 : Int32))).bind fun x2 => (sc_i L xs a0 (a4 + (3 : Int32))).bind fun x3 => (sc_i L xs a0 (a4 + (4 : Int32))).bind fun x4 => (sc_i L xs a0 (a4 + (5 : Int32))).bind fun x5 => (ok_v h a1 10).bind fun x6 => (f_X10_feed a1 x1 x2 x3 x4 x5 h).bind fun q7 => (sc_i L xs a0 (a4 + (1 : Int32))).bind fun x8 => (sc_i L xs a0 (a4 + (2 : Int32))).bind fun x9 => (sc_i L xs a0 (a4 + (3 : Int32))).bind fun x10 => (sc_i L xs a0 (a4 + (4 : Int32))).bind fun x11 => (sc_i L xs a0 (a4 + (5 : Int32))).bind fun x12 => (ok_v q7.2 a2 11).bind fun x13 => (f_X11_feed a2 x8 x9 x10 x11 x12 q7.2).bind fun q14 => if q7.1 = q14.1 then b_L_law_1569 L xs r23 a0 a1 a2 a3 a4 q14.2 else b_L_law_223 L xs q14.2
set_option maxHeartbeats 4000000 in
set_option maxRecDepth 100000 in
theorem q_L_law_152 {hE : AH} {v : Int32} {L : Nat} {xs : Nat → Int32} {r23 : Nat → Nat → Nat → Nat → Int32 → AH → Option (Int32 × AH)} (hr23 : ∀ (b0 : Nat) (b1 : Nat) (b2 : Nat) (b3 : Nat) (b4 : Int32) (h : AH), r23 b0 b1 b2 b3 b4 h = some (v, hE) → JL L xs cL_law 7 RL "law" (some .boolean) (243) 23 [(0, .inr (.inr (b0))), (1, .inr (.inr (b1))), (2, .inr (.inr (b2))), (3, .inr (.inr (b3))), (4, .inl (b4))] [] h hE (some (.inl (v)))) {a0 : Nat} {a1 : Nat} {a2 : Nat} {a3 : Nat} {a4 : Int32} {h : AH} (hf : b_L_law_152 L xs r23 a0 a1 a2 a3 a4 h = some (v, hE)) : JL L xs cL_law 7 RL "law" (some .boolean) (243) 152 [(0, .inr (.inr (a0))), (1, .inr (.inr (a1))), (2, .inr (.inr (a2))), (3, .inr (.inr (a3))), (4, .inl (a4))] [] h hE (some (.inl (v))) := by
  unfold b_L_law_152 at hf
  obtain ⟨x1, e1, hf⟩ := bnd hf
  obtain ⟨x2, e2, hf⟩ := bnd hf
  obtain ⟨x3, e3, hf⟩ := bnd hf
  obtain ⟨x4, e4, hf⟩ := bnd hf
  obtain ⟨x5, e5, hf⟩ := bnd hf
  obtain ⟨x6, e6, hf⟩ := bnd hf
  obtain ⟨⟨x7, h7⟩, e7, hf⟩ := bnd hf
  try dsimp only at hf
  have k7 := c_X10_feed e7
  have m7 := (k7 default_g).1
  obtain ⟨x8, e8, hf⟩ := bnd hf
  obtain ⟨x9, e9, hf⟩ := bnd hf
  obtain ⟨x10, e10, hf⟩ := bnd hf
  obtain ⟨x11, e11, hf⟩ := bnd hf
  obtain ⟨x12, e12, hf⟩ := bnd hf
  obtain ⟨x13, e13, hf⟩ := bnd hf
  obtain ⟨⟨x14, h14⟩, e14, hf⟩ := bnd hf
  try dsimp only at hf
  have k14 := c_X11_feed e14
  have m14 := (k14 default_g).1
  have mE : hp_n h14 ≤ hp_n hE ∧ hp_s h14 ≤ hp_s hE := by
    by_cases hc : x7 = x14
    · rw [if_pos hc] at hf; exact (q_L_law_1569 hr23 hf).1
    · rw [if_neg hc] at hf; exact (q_L_law_223 hf).1
  refine ⟨by omega, fun X g K ok nmx lev hK en => ?_⟩
  refine tj_aload_n ok 1 dL_law_152 rfl rfl ?_
  refine tj_aload_n ok 0 dL_law_153 rfl rfl ?_
  refine tj_iload ok 4 dL_law_154 rfl ?_
  refine tj_iconst (v := 1) ok dL_law_156 (by decide) ?_
  refine tj_iadd ok dL_law_157 ?_
  refine tj_sld ok en dL_law_158 e1 ?_
  refine tj_aload_n ok 0 dL_law_159 rfl rfl ?_
  refine tj_iload ok 4 dL_law_160 rfl ?_
  refine tj_iconst (v := 2) ok dL_law_162 (by decide) ?_
  refine tj_iadd ok dL_law_163 ?_
  refine tj_sld ok en dL_law_164 e2 ?_
  refine tj_aload_n ok 0 dL_law_165 rfl rfl ?_
  refine tj_iload ok 4 dL_law_166 rfl ?_
  refine tj_iconst (v := 3) ok dL_law_168 (by decide) ?_
  refine tj_iadd ok dL_law_169 ?_
  refine tj_sld ok en dL_law_170 e3 ?_
  refine tj_aload_n ok 0 dL_law_171 rfl rfl ?_
  refine tj_iload ok 4 dL_law_172 rfl ?_
  refine tj_iconst (v := 4) ok dL_law_174 (by decide) ?_
  refine tj_iadd ok dL_law_175 ?_
  refine tj_sld ok en dL_law_176 e4 ?_
  refine tj_aload_n ok 0 dL_law_177 rfl rfl ?_
  refine tj_iload ok 4 dL_law_178 rfl ?_
  refine tj_iconst (v := 5) ok dL_law_180 (by decide) ?_
  refine tj_iadd ok dL_law_181 ?_
  refine tj_sld ok en dL_law_182 e5 ?_
  refine tj_callV (rest := ([] : List TV).map (vl g)) (as := [.inl (x1), .inl (x2), .inl (x3), .inl (x4), .inl (x5)]) ok lev (by omega) fcX10.1 (by decide) rfl (of_if e6).1 (k7 g) (CaX.ofL en (by omega)) kn_X10_feed wm_1312 wm_1313 wm_1314 (rs_ok (Nat.le_of_ble_eq_true rfl)) rfl rfl dL_law_183 ?_
  refine tj_aload_n ok 2 dL_law_186 rfl rfl ?_
  refine tj_aload_n ok 0 dL_law_187 rfl rfl ?_
  refine tj_iload ok 4 dL_law_188 rfl ?_
  refine tj_iconst (v := 1) ok dL_law_190 (by decide) ?_
  refine tj_iadd ok dL_law_191 ?_
  refine tj_sld ok en dL_law_192 e8 ?_
  refine tj_aload_n ok 0 dL_law_193 rfl rfl ?_
  refine tj_iload ok 4 dL_law_194 rfl ?_
  refine tj_iconst (v := 2) ok dL_law_196 (by decide) ?_
  refine tj_iadd ok dL_law_197 ?_
  refine tj_sld ok en dL_law_198 e9 ?_
  refine tj_aload_n ok 0 dL_law_199 rfl rfl ?_
  refine tj_iload ok 4 dL_law_200 rfl ?_
  refine tj_iconst (v := 3) ok dL_law_202 (by decide) ?_
  refine tj_iadd ok dL_law_203 ?_
  refine tj_sld ok en dL_law_204 e10 ?_
  refine tj_aload_n ok 0 dL_law_205 rfl rfl ?_
  refine tj_iload ok 4 dL_law_206 rfl ?_
  refine tj_iconst (v := 4) ok dL_law_208 (by decide) ?_
  refine tj_iadd ok dL_law_209 ?_
  refine tj_sld ok en dL_law_210 e11 ?_
  refine tj_aload_n ok 0 dL_law_211 rfl rfl ?_
  refine tj_iload ok 4 dL_law_212 rfl ?_
  refine tj_iconst (v := 5) ok dL_law_214 (by decide) ?_
  refine tj_iadd ok dL_law_215 ?_
  refine tj_sld ok en dL_law_216 e12 ?_
  refine tj_callV (rest := ([.inl (x7)] : List TV).map (vl g)) (as := [.inl (x8), .inl (x9), .inl (x10), .inl (x11), .inl (x12)]) ok lev (by omega) fcX11.1 (by decide) rfl (of_if e13).1 (k14 g) (CaX.ofL en (by omega)) kn_X11_feed wm_1315 wm_1316 wm_1317 (rs_ok (Nat.le_of_ble_eq_true rfl)) rfl rfl dL_law_217 ?_
  refine tj_icmp_eq (tgt := 1569) ok dL_law_220 (by decide) (fun hc => ?_) (fun hc => ?_)
  · rw [if_pos hc] at hf
    exact (q_L_law_1569 hr23 hf).2 X g K ok nmx lev hK en
  · rw [if_neg hc] at hf
    refine tj_sub (lv' := []) [] rfl ?_
    exact (q_L_law_223 hf).2 X g K ok nmx lev hK en
def b_L_law_248 (L : Nat) (xs : Nat → Int32)  (h : AH) : Option (Int32 × AH) :=
  ok_z (0 : Int32) h
set_option maxHeartbeats 4000000 in
set_option maxRecDepth 100000 in
theorem q_L_law_248 {L : Nat} {xs : Nat → Int32} {h hE : AH} {v : Int32} (hf : b_L_law_248 L xs  h = some (v, hE)) : JL L xs cL_law 7 RL "law" (some .boolean) (243) 248 [] [] h hE (some (.inl (v))) := by
  unfold b_L_law_248 at hf
  have mE : hp_n h ≤ hp_n hE ∧ hp_s h ≤ hp_s hE := by obtain ⟨-, q⟩ := of_if hf; cases q; exact ⟨Nat.le_refl _, Nat.le_refl _⟩
  refine ⟨by omega, fun X g K ok nmx lev hK en => ?_⟩
  refine tj_iconst (v := 0) ok dL_law_248 (by decide) ?_
  exact tj_lawret ok hf en dL_law_249
def b_L_law_225 (L : Nat) (xs : Nat → Int32) (r23 : Nat → Nat → Nat → Nat → Int32 → AH → Option (Int32 × AH)) (a0 : Nat) (a1 : Nat) (a2 : Nat) (a3 : Nat) (a4 : Int32) (h : AH) : Option (Int32 × AH) :=
  (sc_i L xs a0 (a4 + (1 : Int32))).bind fun x1 => (ok_v h a1 10).bind fun x2 => (f_X10_end a1 x1 h).bind fun q3 => (sc_i L xs a0 (a4 + (1 : Int32))).bind fun x4 => (ok_v q3.2 a2 11).bind fun x5 => (f_X11_end a2 x4 q3.2).bind fun q6 => if q3.1 = q6.1 then b_L_law_1569 L xs r23 a0 a1 a2 a3 a4 q6.2 else b_L_law_248 L xs q6.2
set_option maxHeartbeats 4000000 in
set_option maxRecDepth 100000 in
theorem q_L_law_225 {hE : AH} {v : Int32} {L : Nat} {xs : Nat → Int32} {r23 : Nat → Nat → Nat → Nat → Int32 → AH → Option (Int32 × AH)} (hr23 : ∀ (b0 : Nat) (b1 : Nat) (b2 : Nat) (b3 : Nat) (b4 : Int32) (h : AH), r23 b0 b1 b2 b3 b4 h = some (v, hE) → JL L xs cL_law 7 RL "law" (some .boolean) (243) 23 [(0, .inr (.inr (b0))), (1, .inr (.inr (b1))), (2, .inr (.inr (b2))), (3, .inr (.inr (b3))), (4, .inl (b4))] [] h hE (some (.inl (v)))) {a0 : Nat} {a1 : Nat} {a2 : Nat} {a3 : Nat} {a4 : Int32} {h : AH} (hf : b_L_law_225 L xs r23 a0 a1 a2 a3 a4 h = some (v, hE)) : JL L xs cL_law 7 RL "law" (some .boolean) (243) 225 [(0, .inr (.inr (a0))), (1, .inr (.inr (a1))), (2, .inr (.inr (a2))), (3, .inr (.inr (a3))), (4, .inl (a4))] [] h hE (some (.inl (v))) := by
  unfold b_L_law_225 at hf
  obtain ⟨x1, e1, hf⟩ := bnd hf
  obtain ⟨x2, e2, hf⟩ := bnd hf
  obtain ⟨⟨x3, h3⟩, e3, hf⟩ := bnd hf
  try dsimp only at hf
  have k3 := c_X10_end e3
  have m3 := (k3 default_g).1
  obtain ⟨x4, e4, hf⟩ := bnd hf
  obtain ⟨x5, e5, hf⟩ := bnd hf
  obtain ⟨⟨x6, h6⟩, e6, hf⟩ := bnd hf
  try dsimp only at hf
  have k6 := c_X11_end e6
  have m6 := (k6 default_g).1
  have mE : hp_n h6 ≤ hp_n hE ∧ hp_s h6 ≤ hp_s hE := by
    by_cases hc : x3 = x6
    · rw [if_pos hc] at hf; exact (q_L_law_1569 hr23 hf).1
    · rw [if_neg hc] at hf; exact (q_L_law_248 hf).1
  refine ⟨by omega, fun X g K ok nmx lev hK en => ?_⟩
  refine tj_aload_n ok 1 dL_law_225 rfl rfl ?_
  refine tj_aload_n ok 0 dL_law_226 rfl rfl ?_
  refine tj_iload ok 4 dL_law_227 rfl ?_
  refine tj_iconst (v := 1) ok dL_law_229 (by decide) ?_
  refine tj_iadd ok dL_law_230 ?_
  refine tj_sld ok en dL_law_231 e1 ?_
  refine tj_callV (rest := ([] : List TV).map (vl g)) (as := [.inl (x1)]) ok lev (by omega) fcX10.1 (by decide) rfl (of_if e2).1 (k3 g) (CaX.ofL en (by omega)) kn_X10_end wm_1318 wm_1319 wm_1320 (rs_ok (Nat.le_of_ble_eq_true rfl)) rfl rfl dL_law_232 ?_
  refine tj_aload_n ok 2 dL_law_235 rfl rfl ?_
  refine tj_aload_n ok 0 dL_law_236 rfl rfl ?_
  refine tj_iload ok 4 dL_law_237 rfl ?_
  refine tj_iconst (v := 1) ok dL_law_239 (by decide) ?_
  refine tj_iadd ok dL_law_240 ?_
  refine tj_sld ok en dL_law_241 e4 ?_
  refine tj_callV (rest := ([.inl (x3)] : List TV).map (vl g)) (as := [.inl (x4)]) ok lev (by omega) fcX11.1 (by decide) rfl (of_if e5).1 (k6 g) (CaX.ofL en (by omega)) kn_X11_end wm_1321 wm_1322 wm_1323 (rs_ok (Nat.le_of_ble_eq_true rfl)) rfl rfl dL_law_242 ?_
  refine tj_icmp_eq (tgt := 1569) ok dL_law_245 (by decide) (fun hc => ?_) (fun hc => ?_)
  · rw [if_pos hc] at hf
    exact (q_L_law_1569 hr23 hf).2 X g K ok nmx lev hK en
  · rw [if_neg hc] at hf
    refine tj_sub (lv' := []) [] rfl ?_
    exact (q_L_law_248 hf).2 X g K ok nmx lev hK en
def b_L_law_303 (L : Nat) (xs : Nat → Int32) (r23 : Nat → Nat → Nat → Nat → Int32 → AH → Option (Int32 × AH)) (a0 : Nat) (a1 : Nat) (a2 : Nat) (a3 : Nat) (a4 : Int32) (h : AH) : Option (Int32 × AH) :=
  b_L_law_1569 L xs r23 a0 a1 a2 a3 a4 h
set_option maxHeartbeats 4000000 in
set_option maxRecDepth 100000 in
theorem q_L_law_303 {hE : AH} {v : Int32} {L : Nat} {xs : Nat → Int32} {r23 : Nat → Nat → Nat → Nat → Int32 → AH → Option (Int32 × AH)} (hr23 : ∀ (b0 : Nat) (b1 : Nat) (b2 : Nat) (b3 : Nat) (b4 : Int32) (h : AH), r23 b0 b1 b2 b3 b4 h = some (v, hE) → JL L xs cL_law 7 RL "law" (some .boolean) (243) 23 [(0, .inr (.inr (b0))), (1, .inr (.inr (b1))), (2, .inr (.inr (b2))), (3, .inr (.inr (b3))), (4, .inl (b4))] [] h hE (some (.inl (v)))) {a0 : Nat} {a1 : Nat} {a2 : Nat} {a3 : Nat} {a4 : Int32} {h : AH} (hf : b_L_law_303 L xs r23 a0 a1 a2 a3 a4 h = some (v, hE)) : JL L xs cL_law 7 RL "law" (some .boolean) (243) 303 [(0, .inr (.inr (a0))), (1, .inr (.inr (a1))), (2, .inr (.inr (a2))), (3, .inr (.inr (a3))), (4, .inl (a4))] [] h hE (some (.inl (v))) := by
  unfold b_L_law_303 at hf
  have J := q_L_law_1569 hr23 hf
  have mE := J.1
  refine ⟨by omega, fun X g K ok nmx lev hK en => ?_⟩
  refine tj_goto (tgt := 1569) ok dL_law_303 (by decide) ?_
  exact J.2 X g K ok nmx lev hK en
def b_L_law_301 (L : Nat) (xs : Nat → Int32)  (h : AH) : Option (Int32 × AH) :=
  ok_z (0 : Int32) h
set_option maxHeartbeats 4000000 in
set_option maxRecDepth 100000 in
theorem q_L_law_301 {L : Nat} {xs : Nat → Int32} {h hE : AH} {v : Int32} (hf : b_L_law_301 L xs  h = some (v, hE)) : JL L xs cL_law 7 RL "law" (some .boolean) (243) 301 [] [] h hE (some (.inl (v))) := by
  unfold b_L_law_301 at hf
  have mE : hp_n h ≤ hp_n hE ∧ hp_s h ≤ hp_s hE := by obtain ⟨-, q⟩ := of_if hf; cases q; exact ⟨Nat.le_refl _, Nat.le_refl _⟩
  refine ⟨by omega, fun X g K ok nmx lev hK en => ?_⟩
  refine tj_iconst (v := 0) ok dL_law_301 (by decide) ?_
  exact tj_lawret ok hf en dL_law_302
def b_L_law_291 (L : Nat) (xs : Nat → Int32) (r23 : Nat → Nat → Nat → Nat → Int32 → AH → Option (Int32 × AH)) (a0 : Nat) (a1 : Nat) (a2 : Nat) (a3 : Nat) (a4 : Int32) (a6 : Int32) (h : AH) : Option (Int32 × AH) :=
  (l_j h a3 (0 : Int32)).bind fun x1 => if (lg_cmp x1 a6.toInt64) = 0 then b_L_law_303 L xs r23 a0 a1 a2 a3 a4 h else b_L_law_301 L xs h
set_option maxHeartbeats 4000000 in
set_option maxRecDepth 100000 in
theorem q_L_law_291 {hE : AH} {v : Int32} {L : Nat} {xs : Nat → Int32} {r23 : Nat → Nat → Nat → Nat → Int32 → AH → Option (Int32 × AH)} (hr23 : ∀ (b0 : Nat) (b1 : Nat) (b2 : Nat) (b3 : Nat) (b4 : Int32) (h : AH), r23 b0 b1 b2 b3 b4 h = some (v, hE) → JL L xs cL_law 7 RL "law" (some .boolean) (243) 23 [(0, .inr (.inr (b0))), (1, .inr (.inr (b1))), (2, .inr (.inr (b2))), (3, .inr (.inr (b3))), (4, .inl (b4))] [] h hE (some (.inl (v)))) {a0 : Nat} {a1 : Nat} {a2 : Nat} {a3 : Nat} {a4 : Int32} {a6 : Int32} {h : AH} (hf : b_L_law_291 L xs r23 a0 a1 a2 a3 a4 a6 h = some (v, hE)) : JL L xs cL_law 7 RL "law" (some .boolean) (243) 291 [(0, .inr (.inr (a0))), (1, .inr (.inr (a1))), (2, .inr (.inr (a2))), (3, .inr (.inr (a3))), (4, .inl (a4)), (6, .inl (a6))] [] h hE (some (.inl (v))) := by
  unfold b_L_law_291 at hf
  obtain ⟨x1, e1, hf⟩ := bnd hf
  have mE : hp_n h ≤ hp_n hE ∧ hp_s h ≤ hp_s hE := by
    by_cases hc : (lg_cmp x1 a6.toInt64) = 0
    · rw [if_pos hc] at hf; exact (q_L_law_303 hr23 hf).1
    · rw [if_neg hc] at hf; exact (q_L_law_301 hf).1
  refine ⟨by omega, fun X g K ok nmx lev hK en => ?_⟩
  refine tj_aload_n ok 3 dL_law_291 rfl rfl ?_
  refine tj_iconst (v := 0) ok dL_law_292 (by decide) ?_
  refine tj_laload ok dL_law_293 e1 ?_
  refine tj_iload ok 5 dL_law_294 rfl ?_
  refine tj_i2l ok dL_law_296 ?_
  refine tj_lcmp ok dL_law_297 ?_
  refine tj_if_eq (tgt := 303) ok dL_law_298 (by decide) (fun hc => ?_) (fun hc => ?_)
  · rw [if_pos hc] at hf
    refine tj_sub (lv' := [(0, .inr (.inr (a0))), (1, .inr (.inr (a1))), (2, .inr (.inr (a2))), (3, .inr (.inr (a3))), (4, .inl (a4))]) [0, 1, 2, 3, 4] rfl ?_
    exact (q_L_law_303 hr23 hf).2 X g K ok nmx lev hK en
  · rw [if_neg hc] at hf
    refine tj_sub (lv' := []) [] rfl ?_
    exact (q_L_law_301 hf).2 X g K ok nmx lev hK en
def b_L_law_286 (L : Nat) (xs : Nat → Int32) (r23 : Nat → Nat → Nat → Nat → Int32 → AH → Option (Int32 × AH)) (a0 : Nat) (a1 : Nat) (a2 : Nat) (a3 : Nat) (a4 : Int32) (a5 : Int32) (a6 : Int32) (h : AH) : Option (Int32 × AH) :=
  if a5 = 0 then b_L_law_291 L xs r23 a0 a1 a2 a3 a4 a6 h else b_L_law_303 L xs r23 a0 a1 a2 a3 a4 h
set_option maxHeartbeats 4000000 in
set_option maxRecDepth 100000 in
theorem q_L_law_286 {hE : AH} {v : Int32} {L : Nat} {xs : Nat → Int32} {r23 : Nat → Nat → Nat → Nat → Int32 → AH → Option (Int32 × AH)} (hr23 : ∀ (b0 : Nat) (b1 : Nat) (b2 : Nat) (b3 : Nat) (b4 : Int32) (h : AH), r23 b0 b1 b2 b3 b4 h = some (v, hE) → JL L xs cL_law 7 RL "law" (some .boolean) (243) 23 [(0, .inr (.inr (b0))), (1, .inr (.inr (b1))), (2, .inr (.inr (b2))), (3, .inr (.inr (b3))), (4, .inl (b4))] [] h hE (some (.inl (v)))) {a0 : Nat} {a1 : Nat} {a2 : Nat} {a3 : Nat} {a4 : Int32} {a5 : Int32} {a6 : Int32} {h : AH} (hf : b_L_law_286 L xs r23 a0 a1 a2 a3 a4 a5 a6 h = some (v, hE)) : JL L xs cL_law 7 RL "law" (some .boolean) (243) 286 [(0, .inr (.inr (a0))), (1, .inr (.inr (a1))), (2, .inr (.inr (a2))), (3, .inr (.inr (a3))), (4, .inl (a4)), (5, .inl (a5)), (6, .inl (a6))] [] h hE (some (.inl (v))) := by
  unfold b_L_law_286 at hf
  have mE : hp_n h ≤ hp_n hE ∧ hp_s h ≤ hp_s hE := by
    by_cases hc : a5 = 0
    · rw [if_pos hc] at hf; exact (q_L_law_291 hr23 hf).1
    · rw [if_neg hc] at hf; exact (q_L_law_303 hr23 hf).1
  refine ⟨by omega, fun X g K ok nmx lev hK en => ?_⟩
  refine tj_iload ok 5 dL_law_286 rfl ?_
  refine tj_if_ne (tgt := 303) ok dL_law_288 (by decide) (fun hc => ?_) (fun hc => ?_)
  · rw [if_neg hc] at hf
    refine tj_sub (lv' := [(0, .inr (.inr (a0))), (1, .inr (.inr (a1))), (2, .inr (.inr (a2))), (3, .inr (.inr (a3))), (4, .inl (a4))]) [0, 1, 2, 3, 4] rfl ?_
    exact (q_L_law_303 hr23 hf).2 X g K ok nmx lev hK en
  · rw [if_pos hc] at hf
    refine tj_sub (lv' := [(0, .inr (.inr (a0))), (1, .inr (.inr (a1))), (2, .inr (.inr (a2))), (3, .inr (.inr (a3))), (4, .inl (a4)), (6, .inl (a6))]) [0, 1, 2, 3, 4, 6] rfl ?_
    exact (q_L_law_291 hr23 hf).2 X g K ok nmx lev hK en
def b_L_law_284 (L : Nat) (xs : Nat → Int32)  (h : AH) : Option (Int32 × AH) :=
  ok_z (0 : Int32) h
set_option maxHeartbeats 4000000 in
set_option maxRecDepth 100000 in
theorem q_L_law_284 {L : Nat} {xs : Nat → Int32} {h hE : AH} {v : Int32} (hf : b_L_law_284 L xs  h = some (v, hE)) : JL L xs cL_law 7 RL "law" (some .boolean) (243) 284 [] [] h hE (some (.inl (v))) := by
  unfold b_L_law_284 at hf
  have mE : hp_n h ≤ hp_n hE ∧ hp_s h ≤ hp_s hE := by obtain ⟨-, q⟩ := of_if hf; cases q; exact ⟨Nat.le_refl _, Nat.le_refl _⟩
  refine ⟨by omega, fun X g K ok nmx lev hK en => ?_⟩
  refine tj_iconst (v := 0) ok dL_law_284 (by decide) ?_
  exact tj_lawret ok hf en dL_law_285
def b_L_law_250 (L : Nat) (xs : Nat → Int32) (r23 : Nat → Nat → Nat → Nat → Int32 → AH → Option (Int32 × AH)) (a0 : Nat) (a1 : Nat) (a2 : Nat) (a3 : Nat) (a4 : Int32) (h : AH) : Option (Int32 × AH) :=
  (sc_i L xs a0 (a4 + (1 : Int32))).bind fun x1 => (f_L_load a1 x1 a3 h).bind fun q2 => (sc_i L xs a0 (a4 + (1 : Int32))).bind fun x3 => (ok_v q2.2 a2 11).bind fun x4 => (f_X11_load a2 x3 q2.2).bind fun q5 => (ok_v q5.2 a2 11).bind fun x6 => (f_X11_thrown a2 q5.2).bind fun q7 => if q7.1 = q2.1 then b_L_law_286 L xs r23 a0 a1 a2 a3 a4 q2.1 q5.1 q7.2 else b_L_law_284 L xs q7.2
set_option maxHeartbeats 4000000 in
set_option maxRecDepth 100000 in
theorem q_L_law_250 {hE : AH} {v : Int32} {L : Nat} {xs : Nat → Int32} {r23 : Nat → Nat → Nat → Nat → Int32 → AH → Option (Int32 × AH)} (hr23 : ∀ (b0 : Nat) (b1 : Nat) (b2 : Nat) (b3 : Nat) (b4 : Int32) (h : AH), r23 b0 b1 b2 b3 b4 h = some (v, hE) → JL L xs cL_law 7 RL "law" (some .boolean) (243) 23 [(0, .inr (.inr (b0))), (1, .inr (.inr (b1))), (2, .inr (.inr (b2))), (3, .inr (.inr (b3))), (4, .inl (b4))] [] h hE (some (.inl (v)))) {a0 : Nat} {a1 : Nat} {a2 : Nat} {a3 : Nat} {a4 : Int32} {h : AH} (hf : b_L_law_250 L xs r23 a0 a1 a2 a3 a4 h = some (v, hE)) : JL L xs cL_law 7 RL "law" (some .boolean) (243) 250 [(0, .inr (.inr (a0))), (1, .inr (.inr (a1))), (2, .inr (.inr (a2))), (3, .inr (.inr (a3))), (4, .inl (a4))] [] h hE (some (.inl (v))) := by
  unfold b_L_law_250 at hf
  obtain ⟨x1, e1, hf⟩ := bnd hf
  obtain ⟨⟨x2, h2⟩, e2, hf⟩ := bnd hf
  try dsimp only at hf
  have k2 := c_L_load e2
  have m2 := (k2 default_g).1
  obtain ⟨x3, e3, hf⟩ := bnd hf
  obtain ⟨x4, e4, hf⟩ := bnd hf
  obtain ⟨⟨x5, h5⟩, e5, hf⟩ := bnd hf
  try dsimp only at hf
  have k5 := c_X11_load e5
  have m5 := (k5 default_g).1
  obtain ⟨x6, e6, hf⟩ := bnd hf
  obtain ⟨⟨x7, h7⟩, e7, hf⟩ := bnd hf
  try dsimp only at hf
  have k7 := c_X11_thrown e7
  have m7 := (k7 default_g).1
  have mE : hp_n h7 ≤ hp_n hE ∧ hp_s h7 ≤ hp_s hE := by
    by_cases hc : x7 = x2
    · rw [if_pos hc] at hf; exact (q_L_law_286 hr23 hf).1
    · rw [if_neg hc] at hf; exact (q_L_law_284 hf).1
  refine ⟨by omega, fun X g K ok nmx lev hK en => ?_⟩
  refine tj_aload_n ok 1 dL_law_250 rfl rfl ?_
  refine tj_aload_n ok 0 dL_law_251 rfl rfl ?_
  refine tj_iload ok 4 dL_law_252 rfl ?_
  refine tj_iconst (v := 1) ok dL_law_254 (by decide) ?_
  refine tj_iadd ok dL_law_255 ?_
  refine tj_sld ok en dL_law_256 e1 ?_
  refine tj_aload_n ok 3 dL_law_257 rfl rfl ?_
  refine tj_callW (rest := ([] : List TV).map (vl g)) (as := [.inr (.inr (a1)), .inl (x1), .inr (.inr (a3))]) ok lev (by omega) (k2 g) (CaX.ofL en (by omega)) kw_L_load wm_1324 wm_1325 (rs_ok (Nat.le_of_ble_eq_true rfl)) rfl rfl dL_law_258 ?_
  refine tj_istore (lv' := [(0, .inr (.inr (a0))), (1, .inr (.inr (a1))), (2, .inr (.inr (a2))), (3, .inr (.inr (a3))), (4, .inl (a4)), (5, .inl (x2))]) ok dL_law_261 (by decide) rfl ?_
  refine tj_aload_n ok 2 dL_law_263 rfl rfl ?_
  refine tj_aload_n ok 0 dL_law_264 rfl rfl ?_
  refine tj_iload ok 4 dL_law_265 rfl ?_
  refine tj_iconst (v := 1) ok dL_law_267 (by decide) ?_
  refine tj_iadd ok dL_law_268 ?_
  refine tj_sld ok en dL_law_269 e3 ?_
  refine tj_callV (rest := ([] : List TV).map (vl g)) (as := [.inl (x3)]) ok lev (by omega) fcX11.1 (by decide) rfl (of_if e4).1 (k5 g) (CaX.ofL en (by omega)) kn_X11_load wm_1326 wm_1327 wm_1328 (rs_ok (Nat.le_of_ble_eq_true rfl)) rfl rfl dL_law_270 ?_
  refine tj_istore (lv' := [(0, .inr (.inr (a0))), (1, .inr (.inr (a1))), (2, .inr (.inr (a2))), (3, .inr (.inr (a3))), (4, .inl (a4)), (5, .inl (x2)), (6, .inl (x5))]) ok dL_law_273 (by decide) rfl ?_
  refine tj_aload_n ok 2 dL_law_275 rfl rfl ?_
  refine tj_callV (rest := ([] : List TV).map (vl g)) (as := []) ok lev (by omega) fcX11.1 (by decide) rfl (of_if e6).1 (k7 g) (CaX.ofL en (by omega)) kn_X11_thrown wm_1329 wm_1330 wm_1331 (rs_ok (Nat.le_of_ble_eq_true rfl)) rfl rfl dL_law_276 ?_
  refine tj_iload ok 5 dL_law_279 rfl ?_
  refine tj_icmp_eq (tgt := 286) ok dL_law_281 (by decide) (fun hc => ?_) (fun hc => ?_)
  · rw [if_pos hc] at hf
    exact (q_L_law_286 hr23 hf).2 X g K ok nmx lev hK en
  · rw [if_neg hc] at hf
    refine tj_sub (lv' := []) [] rfl ?_
    exact (q_L_law_284 hf).2 X g K ok nmx lev hK en
def b_L_law_329 (L : Nat) (xs : Nat → Int32)  (h : AH) : Option (Int32 × AH) :=
  ok_z (0 : Int32) h
set_option maxHeartbeats 4000000 in
set_option maxRecDepth 100000 in
theorem q_L_law_329 {L : Nat} {xs : Nat → Int32} {h hE : AH} {v : Int32} (hf : b_L_law_329 L xs  h = some (v, hE)) : JL L xs cL_law 7 RL "law" (some .boolean) (243) 329 [] [] h hE (some (.inl (v))) := by
  unfold b_L_law_329 at hf
  have mE : hp_n h ≤ hp_n hE ∧ hp_s h ≤ hp_s hE := by obtain ⟨-, q⟩ := of_if hf; cases q; exact ⟨Nat.le_refl _, Nat.le_refl _⟩
  refine ⟨by omega, fun X g K ok nmx lev hK en => ?_⟩
  refine tj_iconst (v := 0) ok dL_law_329 (by decide) ?_
  exact tj_lawret ok hf en dL_law_330
def b_L_law_306 (L : Nat) (xs : Nat → Int32) (r23 : Nat → Nat → Nat → Nat → Int32 → AH → Option (Int32 × AH)) (a0 : Nat) (a1 : Nat) (a2 : Nat) (a3 : Nat) (a4 : Int32) (h : AH) : Option (Int32 × AH) :=
  (sc_i L xs a0 (a4 + (1 : Int32))).bind fun x1 => (ok_v h a1 10).bind fun x2 => (f_X10_fault a1 x1 h).bind fun q3 => (sc_i L xs a0 (a4 + (1 : Int32))).bind fun x4 => (ok_v q3.2 a2 11).bind fun x5 => (f_X11_fault a2 x4 q3.2).bind fun q6 => if q3.1 = q6.1 then b_L_law_1569 L xs r23 a0 a1 a2 a3 a4 q6.2 else b_L_law_329 L xs q6.2
set_option maxHeartbeats 4000000 in
set_option maxRecDepth 100000 in
theorem q_L_law_306 {hE : AH} {v : Int32} {L : Nat} {xs : Nat → Int32} {r23 : Nat → Nat → Nat → Nat → Int32 → AH → Option (Int32 × AH)} (hr23 : ∀ (b0 : Nat) (b1 : Nat) (b2 : Nat) (b3 : Nat) (b4 : Int32) (h : AH), r23 b0 b1 b2 b3 b4 h = some (v, hE) → JL L xs cL_law 7 RL "law" (some .boolean) (243) 23 [(0, .inr (.inr (b0))), (1, .inr (.inr (b1))), (2, .inr (.inr (b2))), (3, .inr (.inr (b3))), (4, .inl (b4))] [] h hE (some (.inl (v)))) {a0 : Nat} {a1 : Nat} {a2 : Nat} {a3 : Nat} {a4 : Int32} {h : AH} (hf : b_L_law_306 L xs r23 a0 a1 a2 a3 a4 h = some (v, hE)) : JL L xs cL_law 7 RL "law" (some .boolean) (243) 306 [(0, .inr (.inr (a0))), (1, .inr (.inr (a1))), (2, .inr (.inr (a2))), (3, .inr (.inr (a3))), (4, .inl (a4))] [] h hE (some (.inl (v))) := by
  unfold b_L_law_306 at hf
  obtain ⟨x1, e1, hf⟩ := bnd hf
  obtain ⟨x2, e2, hf⟩ := bnd hf
  obtain ⟨⟨x3, h3⟩, e3, hf⟩ := bnd hf
  try dsimp only at hf
  have k3 := c_X10_fault e3
  have m3 := (k3 default_g).1
  obtain ⟨x4, e4, hf⟩ := bnd hf
  obtain ⟨x5, e5, hf⟩ := bnd hf
  obtain ⟨⟨x6, h6⟩, e6, hf⟩ := bnd hf
  try dsimp only at hf
  have k6 := c_X11_fault e6
  have m6 := (k6 default_g).1
  have mE : hp_n h6 ≤ hp_n hE ∧ hp_s h6 ≤ hp_s hE := by
    by_cases hc : x3 = x6
    · rw [if_pos hc] at hf; exact (q_L_law_1569 hr23 hf).1
    · rw [if_neg hc] at hf; exact (q_L_law_329 hf).1
  refine ⟨by omega, fun X g K ok nmx lev hK en => ?_⟩
  refine tj_aload_n ok 1 dL_law_306 rfl rfl ?_
  refine tj_aload_n ok 0 dL_law_307 rfl rfl ?_
  refine tj_iload ok 4 dL_law_308 rfl ?_
  refine tj_iconst (v := 1) ok dL_law_310 (by decide) ?_
  refine tj_iadd ok dL_law_311 ?_
  refine tj_sld ok en dL_law_312 e1 ?_
  refine tj_callV (rest := ([] : List TV).map (vl g)) (as := [.inl (x1)]) ok lev (by omega) fcX10.1 (by decide) rfl (of_if e2).1 (k3 g) (CaX.ofL en (by omega)) kn_X10_fault wm_1332 wm_1333 wm_1334 (rs_ok (Nat.le_of_ble_eq_true rfl)) rfl rfl dL_law_313 ?_
  refine tj_aload_n ok 2 dL_law_316 rfl rfl ?_
  refine tj_aload_n ok 0 dL_law_317 rfl rfl ?_
  refine tj_iload ok 4 dL_law_318 rfl ?_
  refine tj_iconst (v := 1) ok dL_law_320 (by decide) ?_
  refine tj_iadd ok dL_law_321 ?_
  refine tj_sld ok en dL_law_322 e4 ?_
  refine tj_callV (rest := ([.inl (x3)] : List TV).map (vl g)) (as := [.inl (x4)]) ok lev (by omega) fcX11.1 (by decide) rfl (of_if e5).1 (k6 g) (CaX.ofL en (by omega)) kn_X11_fault wm_1335 wm_1336 wm_1337 (rs_ok (Nat.le_of_ble_eq_true rfl)) rfl rfl dL_law_323 ?_
  refine tj_icmp_eq (tgt := 1569) ok dL_law_326 (by decide) (fun hc => ?_) (fun hc => ?_)
  · rw [if_pos hc] at hf
    exact (q_L_law_1569 hr23 hf).2 X g K ok nmx lev hK en
  · rw [if_neg hc] at hf
    refine tj_sub (lv' := []) [] rfl ?_
    exact (q_L_law_329 hf).2 X g K ok nmx lev hK en
def b_L_law_391 (L : Nat) (xs : Nat → Int32) (r23 : Nat → Nat → Nat → Nat → Int32 → AH → Option (Int32 × AH)) (a0 : Nat) (a1 : Nat) (a2 : Nat) (a3 : Nat) (a4 : Int32) (h : AH) : Option (Int32 × AH) :=
  b_L_law_1569 L xs r23 a0 a1 a2 a3 a4 h
set_option maxHeartbeats 4000000 in
set_option maxRecDepth 100000 in
theorem q_L_law_391 {hE : AH} {v : Int32} {L : Nat} {xs : Nat → Int32} {r23 : Nat → Nat → Nat → Nat → Int32 → AH → Option (Int32 × AH)} (hr23 : ∀ (b0 : Nat) (b1 : Nat) (b2 : Nat) (b3 : Nat) (b4 : Int32) (h : AH), r23 b0 b1 b2 b3 b4 h = some (v, hE) → JL L xs cL_law 7 RL "law" (some .boolean) (243) 23 [(0, .inr (.inr (b0))), (1, .inr (.inr (b1))), (2, .inr (.inr (b2))), (3, .inr (.inr (b3))), (4, .inl (b4))] [] h hE (some (.inl (v)))) {a0 : Nat} {a1 : Nat} {a2 : Nat} {a3 : Nat} {a4 : Int32} {h : AH} (hf : b_L_law_391 L xs r23 a0 a1 a2 a3 a4 h = some (v, hE)) : JL L xs cL_law 7 RL "law" (some .boolean) (243) 391 [(0, .inr (.inr (a0))), (1, .inr (.inr (a1))), (2, .inr (.inr (a2))), (3, .inr (.inr (a3))), (4, .inl (a4))] [] h hE (some (.inl (v))) := by
  unfold b_L_law_391 at hf
  have J := q_L_law_1569 hr23 hf
  have mE := J.1
  refine ⟨by omega, fun X g K ok nmx lev hK en => ?_⟩
  refine tj_goto (tgt := 1569) ok dL_law_391 (by decide) ?_
  exact J.2 X g K ok nmx lev hK en
def b_L_law_389 (L : Nat) (xs : Nat → Int32)  (h : AH) : Option (Int32 × AH) :=
  ok_z (0 : Int32) h
set_option maxHeartbeats 4000000 in
set_option maxRecDepth 100000 in
theorem q_L_law_389 {L : Nat} {xs : Nat → Int32} {h hE : AH} {v : Int32} (hf : b_L_law_389 L xs  h = some (v, hE)) : JL L xs cL_law 7 RL "law" (some .boolean) (243) 389 [] [] h hE (some (.inl (v))) := by
  unfold b_L_law_389 at hf
  have mE : hp_n h ≤ hp_n hE ∧ hp_s h ≤ hp_s hE := by obtain ⟨-, q⟩ := of_if hf; cases q; exact ⟨Nat.le_refl _, Nat.le_refl _⟩
  refine ⟨by omega, fun X g K ok nmx lev hK en => ?_⟩
  refine tj_iconst (v := 0) ok dL_law_389 (by decide) ?_
  exact tj_lawret ok hf en dL_law_390
def b_L_law_385 (L : Nat) (xs : Nat → Int32) (r23 : Nat → Nat → Nat → Nat → Int32 → AH → Option (Int32 × AH)) (a0 : Nat) (a1 : Nat) (a2 : Nat) (a3 : Nat) (a4 : Int32) (s0 : Int64) (s1 : Int64) (h : AH) : Option (Int32 × AH) :=
  if (lg_cmp s0 s1) = 0 then b_L_law_391 L xs r23 a0 a1 a2 a3 a4 h else b_L_law_389 L xs h
set_option maxHeartbeats 4000000 in
set_option maxRecDepth 100000 in
theorem q_L_law_385 {hE : AH} {v : Int32} {L : Nat} {xs : Nat → Int32} {r23 : Nat → Nat → Nat → Nat → Int32 → AH → Option (Int32 × AH)} (hr23 : ∀ (b0 : Nat) (b1 : Nat) (b2 : Nat) (b3 : Nat) (b4 : Int32) (h : AH), r23 b0 b1 b2 b3 b4 h = some (v, hE) → JL L xs cL_law 7 RL "law" (some .boolean) (243) 23 [(0, .inr (.inr (b0))), (1, .inr (.inr (b1))), (2, .inr (.inr (b2))), (3, .inr (.inr (b3))), (4, .inl (b4))] [] h hE (some (.inl (v)))) {a0 : Nat} {a1 : Nat} {a2 : Nat} {a3 : Nat} {a4 : Int32} {s0 : Int64} {s1 : Int64} {h : AH} (hf : b_L_law_385 L xs r23 a0 a1 a2 a3 a4 s0 s1 h = some (v, hE)) : JL L xs cL_law 7 RL "law" (some .boolean) (243) 385 [(0, .inr (.inr (a0))), (1, .inr (.inr (a1))), (2, .inr (.inr (a2))), (3, .inr (.inr (a3))), (4, .inl (a4))] [.inr (.inl (s1)), .inr (.inl (s0))] h hE (some (.inl (v))) := by
  unfold b_L_law_385 at hf
  have mE : hp_n h ≤ hp_n hE ∧ hp_s h ≤ hp_s hE := by
    by_cases hc : (lg_cmp s0 s1) = 0
    · rw [if_pos hc] at hf; exact (q_L_law_391 hr23 hf).1
    · rw [if_neg hc] at hf; exact (q_L_law_389 hf).1
  refine ⟨by omega, fun X g K ok nmx lev hK en => ?_⟩
  refine tj_lcmp ok dL_law_385 ?_
  refine tj_if_eq (tgt := 391) ok dL_law_386 (by decide) (fun hc => ?_) (fun hc => ?_)
  · rw [if_pos hc] at hf
    exact (q_L_law_391 hr23 hf).2 X g K ok nmx lev hK en
  · rw [if_neg hc] at hf
    refine tj_sub (lv' := []) [] rfl ?_
    exact (q_L_law_389 hf).2 X g K ok nmx lev hK en
def b_L_law_384 (L : Nat) (xs : Nat → Int32) (r23 : Nat → Nat → Nat → Nat → Int32 → AH → Option (Int32 × AH)) (a0 : Nat) (a1 : Nat) (a2 : Nat) (a3 : Nat) (a4 : Int32) (s0 : Int64) (h : AH) : Option (Int32 × AH) :=
  b_L_law_385 L xs r23 a0 a1 a2 a3 a4 s0 (0 : Int64) h
set_option maxHeartbeats 4000000 in
set_option maxRecDepth 100000 in
theorem q_L_law_384 {hE : AH} {v : Int32} {L : Nat} {xs : Nat → Int32} {r23 : Nat → Nat → Nat → Nat → Int32 → AH → Option (Int32 × AH)} (hr23 : ∀ (b0 : Nat) (b1 : Nat) (b2 : Nat) (b3 : Nat) (b4 : Int32) (h : AH), r23 b0 b1 b2 b3 b4 h = some (v, hE) → JL L xs cL_law 7 RL "law" (some .boolean) (243) 23 [(0, .inr (.inr (b0))), (1, .inr (.inr (b1))), (2, .inr (.inr (b2))), (3, .inr (.inr (b3))), (4, .inl (b4))] [] h hE (some (.inl (v)))) {a0 : Nat} {a1 : Nat} {a2 : Nat} {a3 : Nat} {a4 : Int32} {s0 : Int64} {h : AH} (hf : b_L_law_384 L xs r23 a0 a1 a2 a3 a4 s0 h = some (v, hE)) : JL L xs cL_law 7 RL "law" (some .boolean) (243) 384 [(0, .inr (.inr (a0))), (1, .inr (.inr (a1))), (2, .inr (.inr (a2))), (3, .inr (.inr (a3))), (4, .inl (a4))] [.inr (.inl (s0))] h hE (some (.inl (v))) := by
  unfold b_L_law_384 at hf
  have J := q_L_law_385 hr23 hf
  have mE := J.1
  refine ⟨by omega, fun X g K ok nmx lev hK en => ?_⟩
  refine tj_lconst (v := 0) ok dL_law_384 (by decide) ?_
  exact J.2 X g K ok nmx lev hK en
def b_L_law_380 (L : Nat) (xs : Nat → Int32) (r23 : Nat → Nat → Nat → Nat → Int32 → AH → Option (Int32 × AH)) (a0 : Nat) (a1 : Nat) (a2 : Nat) (a3 : Nat) (a4 : Int32) (s0 : Int64) (h : AH) : Option (Int32 × AH) :=
  b_L_law_385 L xs r23 a0 a1 a2 a3 a4 s0 (1 : Int64) h
set_option maxHeartbeats 4000000 in
set_option maxRecDepth 100000 in
theorem q_L_law_380 {hE : AH} {v : Int32} {L : Nat} {xs : Nat → Int32} {r23 : Nat → Nat → Nat → Nat → Int32 → AH → Option (Int32 × AH)} (hr23 : ∀ (b0 : Nat) (b1 : Nat) (b2 : Nat) (b3 : Nat) (b4 : Int32) (h : AH), r23 b0 b1 b2 b3 b4 h = some (v, hE) → JL L xs cL_law 7 RL "law" (some .boolean) (243) 23 [(0, .inr (.inr (b0))), (1, .inr (.inr (b1))), (2, .inr (.inr (b2))), (3, .inr (.inr (b3))), (4, .inl (b4))] [] h hE (some (.inl (v)))) {a0 : Nat} {a1 : Nat} {a2 : Nat} {a3 : Nat} {a4 : Int32} {s0 : Int64} {h : AH} (hf : b_L_law_380 L xs r23 a0 a1 a2 a3 a4 s0 h = some (v, hE)) : JL L xs cL_law 7 RL "law" (some .boolean) (243) 380 [(0, .inr (.inr (a0))), (1, .inr (.inr (a1))), (2, .inr (.inr (a2))), (3, .inr (.inr (a3))), (4, .inl (a4))] [.inr (.inl (s0))] h hE (some (.inl (v))) := by
  unfold b_L_law_380 at hf
  have J := q_L_law_385 hr23 hf
  have mE := J.1
  refine ⟨by omega, fun X g K ok nmx lev hK en => ?_⟩
  refine tj_lconst (v := 1) ok dL_law_380 (by decide) ?_
  refine tj_goto (tgt := 385) ok dL_law_381 (by decide) ?_
  exact J.2 X g K ok nmx lev hK en
def b_L_law_372 (L : Nat) (xs : Nat → Int32) (r23 : Nat → Nat → Nat → Nat → Int32 → AH → Option (Int32 × AH)) (a0 : Nat) (a1 : Nat) (a2 : Nat) (a3 : Nat) (a4 : Int32) (a6 : Int32) (h : AH) : Option (Int32 × AH) :=
  (l_j h a3 (0 : Int32)).bind fun x1 => if a6 = 0 then b_L_law_384 L xs r23 a0 a1 a2 a3 a4 x1 h else b_L_law_380 L xs r23 a0 a1 a2 a3 a4 x1 h
set_option maxHeartbeats 4000000 in
set_option maxRecDepth 100000 in
theorem q_L_law_372 {hE : AH} {v : Int32} {L : Nat} {xs : Nat → Int32} {r23 : Nat → Nat → Nat → Nat → Int32 → AH → Option (Int32 × AH)} (hr23 : ∀ (b0 : Nat) (b1 : Nat) (b2 : Nat) (b3 : Nat) (b4 : Int32) (h : AH), r23 b0 b1 b2 b3 b4 h = some (v, hE) → JL L xs cL_law 7 RL "law" (some .boolean) (243) 23 [(0, .inr (.inr (b0))), (1, .inr (.inr (b1))), (2, .inr (.inr (b2))), (3, .inr (.inr (b3))), (4, .inl (b4))] [] h hE (some (.inl (v)))) {a0 : Nat} {a1 : Nat} {a2 : Nat} {a3 : Nat} {a4 : Int32} {a6 : Int32} {h : AH} (hf : b_L_law_372 L xs r23 a0 a1 a2 a3 a4 a6 h = some (v, hE)) : JL L xs cL_law 7 RL "law" (some .boolean) (243) 372 [(0, .inr (.inr (a0))), (1, .inr (.inr (a1))), (2, .inr (.inr (a2))), (3, .inr (.inr (a3))), (4, .inl (a4)), (6, .inl (a6))] [] h hE (some (.inl (v))) := by
  unfold b_L_law_372 at hf
  obtain ⟨x1, e1, hf⟩ := bnd hf
  have mE : hp_n h ≤ hp_n hE ∧ hp_s h ≤ hp_s hE := by
    by_cases hc : a6 = 0
    · rw [if_pos hc] at hf; exact (q_L_law_384 hr23 hf).1
    · rw [if_neg hc] at hf; exact (q_L_law_380 hr23 hf).1
  refine ⟨by omega, fun X g K ok nmx lev hK en => ?_⟩
  refine tj_aload_n ok 3 dL_law_372 rfl rfl ?_
  refine tj_iconst (v := 0) ok dL_law_373 (by decide) ?_
  refine tj_laload ok dL_law_374 e1 ?_
  refine tj_iload ok 5 dL_law_375 rfl ?_
  refine tj_if_eq (tgt := 384) ok dL_law_377 (by decide) (fun hc => ?_) (fun hc => ?_)
  · rw [if_pos hc] at hf
    refine tj_sub (lv' := [(0, .inr (.inr (a0))), (1, .inr (.inr (a1))), (2, .inr (.inr (a2))), (3, .inr (.inr (a3))), (4, .inl (a4))]) [0, 1, 2, 3, 4] rfl ?_
    exact (q_L_law_384 hr23 hf).2 X g K ok nmx lev hK en
  · rw [if_neg hc] at hf
    refine tj_sub (lv' := [(0, .inr (.inr (a0))), (1, .inr (.inr (a1))), (2, .inr (.inr (a2))), (3, .inr (.inr (a3))), (4, .inl (a4))]) [0, 1, 2, 3, 4] rfl ?_
    exact (q_L_law_380 hr23 hf).2 X g K ok nmx lev hK en
def b_L_law_367 (L : Nat) (xs : Nat → Int32) (r23 : Nat → Nat → Nat → Nat → Int32 → AH → Option (Int32 × AH)) (a0 : Nat) (a1 : Nat) (a2 : Nat) (a3 : Nat) (a4 : Int32) (a5 : Int32) (a6 : Int32) (h : AH) : Option (Int32 × AH) :=
  if a5 = 0 then b_L_law_372 L xs r23 a0 a1 a2 a3 a4 a6 h else b_L_law_391 L xs r23 a0 a1 a2 a3 a4 h
set_option maxHeartbeats 4000000 in
set_option maxRecDepth 100000 in
theorem q_L_law_367 {hE : AH} {v : Int32} {L : Nat} {xs : Nat → Int32} {r23 : Nat → Nat → Nat → Nat → Int32 → AH → Option (Int32 × AH)} (hr23 : ∀ (b0 : Nat) (b1 : Nat) (b2 : Nat) (b3 : Nat) (b4 : Int32) (h : AH), r23 b0 b1 b2 b3 b4 h = some (v, hE) → JL L xs cL_law 7 RL "law" (some .boolean) (243) 23 [(0, .inr (.inr (b0))), (1, .inr (.inr (b1))), (2, .inr (.inr (b2))), (3, .inr (.inr (b3))), (4, .inl (b4))] [] h hE (some (.inl (v)))) {a0 : Nat} {a1 : Nat} {a2 : Nat} {a3 : Nat} {a4 : Int32} {a5 : Int32} {a6 : Int32} {h : AH} (hf : b_L_law_367 L xs r23 a0 a1 a2 a3 a4 a5 a6 h = some (v, hE)) : JL L xs cL_law 7 RL "law" (some .boolean) (243) 367 [(0, .inr (.inr (a0))), (1, .inr (.inr (a1))), (2, .inr (.inr (a2))), (3, .inr (.inr (a3))), (4, .inl (a4)), (5, .inl (a5)), (6, .inl (a6))] [] h hE (some (.inl (v))) := by
  unfold b_L_law_367 at hf
  have mE : hp_n h ≤ hp_n hE ∧ hp_s h ≤ hp_s hE := by
    by_cases hc : a5 = 0
    · rw [if_pos hc] at hf; exact (q_L_law_372 hr23 hf).1
    · rw [if_neg hc] at hf; exact (q_L_law_391 hr23 hf).1
  refine ⟨by omega, fun X g K ok nmx lev hK en => ?_⟩
  refine tj_iload ok 5 dL_law_367 rfl ?_
  refine tj_if_ne (tgt := 391) ok dL_law_369 (by decide) (fun hc => ?_) (fun hc => ?_)
  · rw [if_neg hc] at hf
    refine tj_sub (lv' := [(0, .inr (.inr (a0))), (1, .inr (.inr (a1))), (2, .inr (.inr (a2))), (3, .inr (.inr (a3))), (4, .inl (a4))]) [0, 1, 2, 3, 4] rfl ?_
    exact (q_L_law_391 hr23 hf).2 X g K ok nmx lev hK en
  · rw [if_pos hc] at hf
    refine tj_sub (lv' := [(0, .inr (.inr (a0))), (1, .inr (.inr (a1))), (2, .inr (.inr (a2))), (3, .inr (.inr (a3))), (4, .inl (a4)), (6, .inl (a6))]) [0, 1, 2, 3, 4, 6] rfl ?_
    exact (q_L_law_372 hr23 hf).2 X g K ok nmx lev hK en
def b_L_law_365 (L : Nat) (xs : Nat → Int32)  (h : AH) : Option (Int32 × AH) :=
  ok_z (0 : Int32) h
set_option maxHeartbeats 4000000 in
set_option maxRecDepth 100000 in
theorem q_L_law_365 {L : Nat} {xs : Nat → Int32} {h hE : AH} {v : Int32} (hf : b_L_law_365 L xs  h = some (v, hE)) : JL L xs cL_law 7 RL "law" (some .boolean) (243) 365 [] [] h hE (some (.inl (v))) := by
  unfold b_L_law_365 at hf
  have mE : hp_n h ≤ hp_n hE ∧ hp_s h ≤ hp_s hE := by obtain ⟨-, q⟩ := of_if hf; cases q; exact ⟨Nat.le_refl _, Nat.le_refl _⟩
  refine ⟨by omega, fun X g K ok nmx lev hK en => ?_⟩
  refine tj_iconst (v := 0) ok dL_law_365 (by decide) ?_
  exact tj_lawret ok hf en dL_law_366
def b_L_law_331 (L : Nat) (xs : Nat → Int32) (r23 : Nat → Nat → Nat → Nat → Int32 → AH → Option (Int32 × AH)) (a0 : Nat) (a1 : Nat) (a2 : Nat) (a3 : Nat) (a4 : Int32) (h : AH) : Option (Int32 × AH) :=
  (sc_i L xs a0 (a4 + (1 : Int32))).bind fun x1 => (f_L_drop a1 x1 a3 h).bind fun q2 => (sc_i L xs a0 (a4 + (1 : Int32))).bind fun x3 => (ok_v q2.2 a2 11).bind fun x4 => (f_X11_drop a2 x3 q2.2).bind fun q5 => (ok_v q5.2 a2 11).bind fun x6 => (f_X11_thrown a2 q5.2).bind fun q7 => if q7.1 = q2.1 then b_L_law_367 L xs r23 a0 a1 a2 a3 a4 q2.1 q5.1 q7.2 else b_L_law_365 L xs q7.2
set_option maxHeartbeats 4000000 in
set_option maxRecDepth 100000 in
theorem q_L_law_331 {hE : AH} {v : Int32} {L : Nat} {xs : Nat → Int32} {r23 : Nat → Nat → Nat → Nat → Int32 → AH → Option (Int32 × AH)} (hr23 : ∀ (b0 : Nat) (b1 : Nat) (b2 : Nat) (b3 : Nat) (b4 : Int32) (h : AH), r23 b0 b1 b2 b3 b4 h = some (v, hE) → JL L xs cL_law 7 RL "law" (some .boolean) (243) 23 [(0, .inr (.inr (b0))), (1, .inr (.inr (b1))), (2, .inr (.inr (b2))), (3, .inr (.inr (b3))), (4, .inl (b4))] [] h hE (some (.inl (v)))) {a0 : Nat} {a1 : Nat} {a2 : Nat} {a3 : Nat} {a4 : Int32} {h : AH} (hf : b_L_law_331 L xs r23 a0 a1 a2 a3 a4 h = some (v, hE)) : JL L xs cL_law 7 RL "law" (some .boolean) (243) 331 [(0, .inr (.inr (a0))), (1, .inr (.inr (a1))), (2, .inr (.inr (a2))), (3, .inr (.inr (a3))), (4, .inl (a4))] [] h hE (some (.inl (v))) := by
  unfold b_L_law_331 at hf
  obtain ⟨x1, e1, hf⟩ := bnd hf
  obtain ⟨⟨x2, h2⟩, e2, hf⟩ := bnd hf
  try dsimp only at hf
  have k2 := c_L_drop e2
  have m2 := (k2 default_g).1
  obtain ⟨x3, e3, hf⟩ := bnd hf
  obtain ⟨x4, e4, hf⟩ := bnd hf
  obtain ⟨⟨x5, h5⟩, e5, hf⟩ := bnd hf
  try dsimp only at hf
  have k5 := c_X11_drop e5
  have m5 := (k5 default_g).1
  obtain ⟨x6, e6, hf⟩ := bnd hf
  obtain ⟨⟨x7, h7⟩, e7, hf⟩ := bnd hf
  try dsimp only at hf
  have k7 := c_X11_thrown e7
  have m7 := (k7 default_g).1
  have mE : hp_n h7 ≤ hp_n hE ∧ hp_s h7 ≤ hp_s hE := by
    by_cases hc : x7 = x2
    · rw [if_pos hc] at hf; exact (q_L_law_367 hr23 hf).1
    · rw [if_neg hc] at hf; exact (q_L_law_365 hf).1
  refine ⟨by omega, fun X g K ok nmx lev hK en => ?_⟩
  refine tj_aload_n ok 1 dL_law_331 rfl rfl ?_
  refine tj_aload_n ok 0 dL_law_332 rfl rfl ?_
  refine tj_iload ok 4 dL_law_333 rfl ?_
  refine tj_iconst (v := 1) ok dL_law_335 (by decide) ?_
  refine tj_iadd ok dL_law_336 ?_
  refine tj_sld ok en dL_law_337 e1 ?_
  refine tj_aload_n ok 3 dL_law_338 rfl rfl ?_
  refine tj_callW (rest := ([] : List TV).map (vl g)) (as := [.inr (.inr (a1)), .inl (x1), .inr (.inr (a3))]) ok lev (by omega) (k2 g) (CaX.ofL en (by omega)) kw_L_drop wm_1338 wm_1339 (rs_ok (Nat.le_of_ble_eq_true rfl)) rfl rfl dL_law_339 ?_
  refine tj_istore (lv' := [(0, .inr (.inr (a0))), (1, .inr (.inr (a1))), (2, .inr (.inr (a2))), (3, .inr (.inr (a3))), (4, .inl (a4)), (5, .inl (x2))]) ok dL_law_342 (by decide) rfl ?_
  refine tj_aload_n ok 2 dL_law_344 rfl rfl ?_
  refine tj_aload_n ok 0 dL_law_345 rfl rfl ?_
  refine tj_iload ok 4 dL_law_346 rfl ?_
  refine tj_iconst (v := 1) ok dL_law_348 (by decide) ?_
  refine tj_iadd ok dL_law_349 ?_
  refine tj_sld ok en dL_law_350 e3 ?_
  refine tj_callV (rest := ([] : List TV).map (vl g)) (as := [.inl (x3)]) ok lev (by omega) fcX11.1 (by decide) rfl (of_if e4).1 (k5 g) (CaX.ofL en (by omega)) kn_X11_drop wm_1340 wm_1341 wm_1342 (rs_ok (Nat.le_of_ble_eq_true rfl)) rfl rfl dL_law_351 ?_
  refine tj_istore (lv' := [(0, .inr (.inr (a0))), (1, .inr (.inr (a1))), (2, .inr (.inr (a2))), (3, .inr (.inr (a3))), (4, .inl (a4)), (5, .inl (x2)), (6, .inl (x5))]) ok dL_law_354 (by decide) rfl ?_
  refine tj_aload_n ok 2 dL_law_356 rfl rfl ?_
  refine tj_callV (rest := ([] : List TV).map (vl g)) (as := []) ok lev (by omega) fcX11.1 (by decide) rfl (of_if e6).1 (k7 g) (CaX.ofL en (by omega)) kn_X11_thrown wm_1329 wm_1330 wm_1331 (rs_ok (Nat.le_of_ble_eq_true rfl)) rfl rfl dL_law_357 ?_
  refine tj_iload ok 5 dL_law_360 rfl ?_
  refine tj_icmp_eq (tgt := 367) ok dL_law_362 (by decide) (fun hc => ?_) (fun hc => ?_)
  · rw [if_pos hc] at hf
    exact (q_L_law_367 hr23 hf).2 X g K ok nmx lev hK en
  · rw [if_neg hc] at hf
    refine tj_sub (lv' := []) [] rfl ?_
    exact (q_L_law_365 hf).2 X g K ok nmx lev hK en
def b_L_law_459 (L : Nat) (xs : Nat → Int32) (r23 : Nat → Nat → Nat → Nat → Int32 → AH → Option (Int32 × AH)) (a0 : Nat) (a1 : Nat) (a2 : Nat) (a3 : Nat) (a4 : Int32) (h : AH) : Option (Int32 × AH) :=
  b_L_law_1569 L xs r23 a0 a1 a2 a3 a4 h
set_option maxHeartbeats 4000000 in
set_option maxRecDepth 100000 in
theorem q_L_law_459 {hE : AH} {v : Int32} {L : Nat} {xs : Nat → Int32} {r23 : Nat → Nat → Nat → Nat → Int32 → AH → Option (Int32 × AH)} (hr23 : ∀ (b0 : Nat) (b1 : Nat) (b2 : Nat) (b3 : Nat) (b4 : Int32) (h : AH), r23 b0 b1 b2 b3 b4 h = some (v, hE) → JL L xs cL_law 7 RL "law" (some .boolean) (243) 23 [(0, .inr (.inr (b0))), (1, .inr (.inr (b1))), (2, .inr (.inr (b2))), (3, .inr (.inr (b3))), (4, .inl (b4))] [] h hE (some (.inl (v)))) {a0 : Nat} {a1 : Nat} {a2 : Nat} {a3 : Nat} {a4 : Int32} {h : AH} (hf : b_L_law_459 L xs r23 a0 a1 a2 a3 a4 h = some (v, hE)) : JL L xs cL_law 7 RL "law" (some .boolean) (243) 459 [(0, .inr (.inr (a0))), (1, .inr (.inr (a1))), (2, .inr (.inr (a2))), (3, .inr (.inr (a3))), (4, .inl (a4))] [] h hE (some (.inl (v))) := by
  unfold b_L_law_459 at hf
  have J := q_L_law_1569 hr23 hf
  have mE := J.1
  refine ⟨by omega, fun X g K ok nmx lev hK en => ?_⟩
  refine tj_goto (tgt := 1569) ok dL_law_459 (by decide) ?_
  exact J.2 X g K ok nmx lev hK en
def b_L_law_457 (L : Nat) (xs : Nat → Int32)  (h : AH) : Option (Int32 × AH) :=
  ok_z (0 : Int32) h
set_option maxHeartbeats 4000000 in
set_option maxRecDepth 100000 in
theorem q_L_law_457 {L : Nat} {xs : Nat → Int32} {h hE : AH} {v : Int32} (hf : b_L_law_457 L xs  h = some (v, hE)) : JL L xs cL_law 7 RL "law" (some .boolean) (243) 457 [] [] h hE (some (.inl (v))) := by
  unfold b_L_law_457 at hf
  have mE : hp_n h ≤ hp_n hE ∧ hp_s h ≤ hp_s hE := by obtain ⟨-, q⟩ := of_if hf; cases q; exact ⟨Nat.le_refl _, Nat.le_refl _⟩
  refine ⟨by omega, fun X g K ok nmx lev hK en => ?_⟩
  refine tj_iconst (v := 0) ok dL_law_457 (by decide) ?_
  exact tj_lawret ok hf en dL_law_458
def b_L_law_447 (L : Nat) (xs : Nat → Int32) (r23 : Nat → Nat → Nat → Nat → Int32 → AH → Option (Int32 × AH)) (a0 : Nat) (a1 : Nat) (a2 : Nat) (a3 : Nat) (a4 : Int32) (a6 : Int32) (h : AH) : Option (Int32 × AH) :=
  (l_j h a3 (0 : Int32)).bind fun x1 => if (lg_cmp x1 a6.toInt64) = 0 then b_L_law_459 L xs r23 a0 a1 a2 a3 a4 h else b_L_law_457 L xs h
set_option maxHeartbeats 4000000 in
set_option maxRecDepth 100000 in
theorem q_L_law_447 {hE : AH} {v : Int32} {L : Nat} {xs : Nat → Int32} {r23 : Nat → Nat → Nat → Nat → Int32 → AH → Option (Int32 × AH)} (hr23 : ∀ (b0 : Nat) (b1 : Nat) (b2 : Nat) (b3 : Nat) (b4 : Int32) (h : AH), r23 b0 b1 b2 b3 b4 h = some (v, hE) → JL L xs cL_law 7 RL "law" (some .boolean) (243) 23 [(0, .inr (.inr (b0))), (1, .inr (.inr (b1))), (2, .inr (.inr (b2))), (3, .inr (.inr (b3))), (4, .inl (b4))] [] h hE (some (.inl (v)))) {a0 : Nat} {a1 : Nat} {a2 : Nat} {a3 : Nat} {a4 : Int32} {a6 : Int32} {h : AH} (hf : b_L_law_447 L xs r23 a0 a1 a2 a3 a4 a6 h = some (v, hE)) : JL L xs cL_law 7 RL "law" (some .boolean) (243) 447 [(0, .inr (.inr (a0))), (1, .inr (.inr (a1))), (2, .inr (.inr (a2))), (3, .inr (.inr (a3))), (4, .inl (a4)), (6, .inl (a6))] [] h hE (some (.inl (v))) := by
  unfold b_L_law_447 at hf
  obtain ⟨x1, e1, hf⟩ := bnd hf
  have mE : hp_n h ≤ hp_n hE ∧ hp_s h ≤ hp_s hE := by
    by_cases hc : (lg_cmp x1 a6.toInt64) = 0
    · rw [if_pos hc] at hf; exact (q_L_law_459 hr23 hf).1
    · rw [if_neg hc] at hf; exact (q_L_law_457 hf).1
  refine ⟨by omega, fun X g K ok nmx lev hK en => ?_⟩
  refine tj_aload_n ok 3 dL_law_447 rfl rfl ?_
  refine tj_iconst (v := 0) ok dL_law_448 (by decide) ?_
  refine tj_laload ok dL_law_449 e1 ?_
  refine tj_iload ok 5 dL_law_450 rfl ?_
  refine tj_i2l ok dL_law_452 ?_
  refine tj_lcmp ok dL_law_453 ?_
  refine tj_if_eq (tgt := 459) ok dL_law_454 (by decide) (fun hc => ?_) (fun hc => ?_)
  · rw [if_pos hc] at hf
    refine tj_sub (lv' := [(0, .inr (.inr (a0))), (1, .inr (.inr (a1))), (2, .inr (.inr (a2))), (3, .inr (.inr (a3))), (4, .inl (a4))]) [0, 1, 2, 3, 4] rfl ?_
    exact (q_L_law_459 hr23 hf).2 X g K ok nmx lev hK en
  · rw [if_neg hc] at hf
    refine tj_sub (lv' := []) [] rfl ?_
    exact (q_L_law_457 hf).2 X g K ok nmx lev hK en
def b_L_law_442 (L : Nat) (xs : Nat → Int32) (r23 : Nat → Nat → Nat → Nat → Int32 → AH → Option (Int32 × AH)) (a0 : Nat) (a1 : Nat) (a2 : Nat) (a3 : Nat) (a4 : Int32) (a5 : Int32) (a6 : Int32) (h : AH) : Option (Int32 × AH) :=
  if a5 = 0 then b_L_law_447 L xs r23 a0 a1 a2 a3 a4 a6 h else b_L_law_459 L xs r23 a0 a1 a2 a3 a4 h
set_option maxHeartbeats 4000000 in
set_option maxRecDepth 100000 in
theorem q_L_law_442 {hE : AH} {v : Int32} {L : Nat} {xs : Nat → Int32} {r23 : Nat → Nat → Nat → Nat → Int32 → AH → Option (Int32 × AH)} (hr23 : ∀ (b0 : Nat) (b1 : Nat) (b2 : Nat) (b3 : Nat) (b4 : Int32) (h : AH), r23 b0 b1 b2 b3 b4 h = some (v, hE) → JL L xs cL_law 7 RL "law" (some .boolean) (243) 23 [(0, .inr (.inr (b0))), (1, .inr (.inr (b1))), (2, .inr (.inr (b2))), (3, .inr (.inr (b3))), (4, .inl (b4))] [] h hE (some (.inl (v)))) {a0 : Nat} {a1 : Nat} {a2 : Nat} {a3 : Nat} {a4 : Int32} {a5 : Int32} {a6 : Int32} {h : AH} (hf : b_L_law_442 L xs r23 a0 a1 a2 a3 a4 a5 a6 h = some (v, hE)) : JL L xs cL_law 7 RL "law" (some .boolean) (243) 442 [(0, .inr (.inr (a0))), (1, .inr (.inr (a1))), (2, .inr (.inr (a2))), (3, .inr (.inr (a3))), (4, .inl (a4)), (5, .inl (a5)), (6, .inl (a6))] [] h hE (some (.inl (v))) := by
  unfold b_L_law_442 at hf
  have mE : hp_n h ≤ hp_n hE ∧ hp_s h ≤ hp_s hE := by
    by_cases hc : a5 = 0
    · rw [if_pos hc] at hf; exact (q_L_law_447 hr23 hf).1
    · rw [if_neg hc] at hf; exact (q_L_law_459 hr23 hf).1
  refine ⟨by omega, fun X g K ok nmx lev hK en => ?_⟩
  refine tj_iload ok 5 dL_law_442 rfl ?_
  refine tj_if_ne (tgt := 459) ok dL_law_444 (by decide) (fun hc => ?_) (fun hc => ?_)
  · rw [if_neg hc] at hf
    refine tj_sub (lv' := [(0, .inr (.inr (a0))), (1, .inr (.inr (a1))), (2, .inr (.inr (a2))), (3, .inr (.inr (a3))), (4, .inl (a4))]) [0, 1, 2, 3, 4] rfl ?_
    exact (q_L_law_459 hr23 hf).2 X g K ok nmx lev hK en
  · rw [if_pos hc] at hf
    refine tj_sub (lv' := [(0, .inr (.inr (a0))), (1, .inr (.inr (a1))), (2, .inr (.inr (a2))), (3, .inr (.inr (a3))), (4, .inl (a4)), (6, .inl (a6))]) [0, 1, 2, 3, 4, 6] rfl ?_
    exact (q_L_law_447 hr23 hf).2 X g K ok nmx lev hK en
def b_L_law_440 (L : Nat) (xs : Nat → Int32)  (h : AH) : Option (Int32 × AH) :=
  ok_z (0 : Int32) h
set_option maxHeartbeats 4000000 in
set_option maxRecDepth 100000 in
theorem q_L_law_440 {L : Nat} {xs : Nat → Int32} {h hE : AH} {v : Int32} (hf : b_L_law_440 L xs  h = some (v, hE)) : JL L xs cL_law 7 RL "law" (some .boolean) (243) 440 [] [] h hE (some (.inl (v))) := by
  unfold b_L_law_440 at hf
  have mE : hp_n h ≤ hp_n hE ∧ hp_s h ≤ hp_s hE := by obtain ⟨-, q⟩ := of_if hf; cases q; exact ⟨Nat.le_refl _, Nat.le_refl _⟩
  refine ⟨by omega, fun X g K ok nmx lev hK en => ?_⟩
  refine tj_iconst (v := 0) ok dL_law_440 (by decide) ?_
  exact tj_lawret ok hf en dL_law_441
def b_L_law_394 (L : Nat) (xs : Nat → Int32) (r23 : Nat → Nat → Nat → Nat → Int32 → AH → Option (Int32 × AH)) (a0 : Nat) (a1 : Nat) (a2 : Nat) (a3 : Nat) (a4 : Int32) (h : AH) : Option (Int32 × AH) :=
  (sc_i L xs a0 (a4 + (1 : Int32))).bind fun x1 => (sc_i L xs a0 (a4 + (2 : Int32))).bind fun x2 => (f_L_look a1 x1 x2 a3 h).bind fun q3 => (sc_i L xs a0 (a4 + (1 : Int32))).bind fun x4 => (sc_i L xs a0 (a4 + (2 : Int32))).bind fun x5 => (ok_v q3.2 a2 11).bind fun x6 => (f_X11_look a2 x4 x5 q3.2).bind fun q7 => (ok_v q7.2 a2 11).bind fun x8 => (f_X11_thrown a2 q7.2).bind fun q9 => if q9.1 = q3.1 then b_L_law_442 L xs r23 a0 a1 a2 a3 a4 q3.1 q7.1 q9.2 else b_L_law_440 L xs q9.2
set_option maxHeartbeats 4000000 in
set_option maxRecDepth 100000 in
theorem q_L_law_394 {hE : AH} {v : Int32} {L : Nat} {xs : Nat → Int32} {r23 : Nat → Nat → Nat → Nat → Int32 → AH → Option (Int32 × AH)} (hr23 : ∀ (b0 : Nat) (b1 : Nat) (b2 : Nat) (b3 : Nat) (b4 : Int32) (h : AH), r23 b0 b1 b2 b3 b4 h = some (v, hE) → JL L xs cL_law 7 RL "law" (some .boolean) (243) 23 [(0, .inr (.inr (b0))), (1, .inr (.inr (b1))), (2, .inr (.inr (b2))), (3, .inr (.inr (b3))), (4, .inl (b4))] [] h hE (some (.inl (v)))) {a0 : Nat} {a1 : Nat} {a2 : Nat} {a3 : Nat} {a4 : Int32} {h : AH} (hf : b_L_law_394 L xs r23 a0 a1 a2 a3 a4 h = some (v, hE)) : JL L xs cL_law 7 RL "law" (some .boolean) (243) 394 [(0, .inr (.inr (a0))), (1, .inr (.inr (a1))), (2, .inr (.inr (a2))), (3, .inr (.inr (a3))), (4, .inl (a4))] [] h hE (some (.inl (v))) := by
  unfold b_L_law_394 at hf
  obtain ⟨x1, e1, hf⟩ := bnd hf
  obtain ⟨x2, e2, hf⟩ := bnd hf
  obtain ⟨⟨x3, h3⟩, e3, hf⟩ := bnd hf
  try dsimp only at hf
  have k3 := c_L_look e3
  have m3 := (k3 default_g).1
  obtain ⟨x4, e4, hf⟩ := bnd hf
  obtain ⟨x5, e5, hf⟩ := bnd hf
  obtain ⟨x6, e6, hf⟩ := bnd hf
  obtain ⟨⟨x7, h7⟩, e7, hf⟩ := bnd hf
  try dsimp only at hf
  have k7 := c_X11_look e7
  have m7 := (k7 default_g).1
  obtain ⟨x8, e8, hf⟩ := bnd hf
  obtain ⟨⟨x9, h9⟩, e9, hf⟩ := bnd hf
  try dsimp only at hf
  have k9 := c_X11_thrown e9
  have m9 := (k9 default_g).1
  have mE : hp_n h9 ≤ hp_n hE ∧ hp_s h9 ≤ hp_s hE := by
    by_cases hc : x9 = x3
    · rw [if_pos hc] at hf; exact (q_L_law_442 hr23 hf).1
    · rw [if_neg hc] at hf; exact (q_L_law_440 hf).1
  refine ⟨by omega, fun X g K ok nmx lev hK en => ?_⟩
  refine tj_aload_n ok 1 dL_law_394 rfl rfl ?_
  refine tj_aload_n ok 0 dL_law_395 rfl rfl ?_
  refine tj_iload ok 4 dL_law_396 rfl ?_
  refine tj_iconst (v := 1) ok dL_law_398 (by decide) ?_
  refine tj_iadd ok dL_law_399 ?_
  refine tj_sld ok en dL_law_400 e1 ?_
  refine tj_aload_n ok 0 dL_law_401 rfl rfl ?_
  refine tj_iload ok 4 dL_law_402 rfl ?_
  refine tj_iconst (v := 2) ok dL_law_404 (by decide) ?_
  refine tj_iadd ok dL_law_405 ?_
  refine tj_sld ok en dL_law_406 e2 ?_
  refine tj_aload_n ok 3 dL_law_407 rfl rfl ?_
  refine tj_callW (rest := ([] : List TV).map (vl g)) (as := [.inr (.inr (a1)), .inl (x1), .inl (x2), .inr (.inr (a3))]) ok lev (by omega) (k3 g) (CaX.ofL en (by omega)) kw_L_look wm_1343 wm_1344 (rs_ok (Nat.le_of_ble_eq_true rfl)) rfl rfl dL_law_408 ?_
  refine tj_istore (lv' := [(0, .inr (.inr (a0))), (1, .inr (.inr (a1))), (2, .inr (.inr (a2))), (3, .inr (.inr (a3))), (4, .inl (a4)), (5, .inl (x3))]) ok dL_law_411 (by decide) rfl ?_
  refine tj_aload_n ok 2 dL_law_413 rfl rfl ?_
  refine tj_aload_n ok 0 dL_law_414 rfl rfl ?_
  refine tj_iload ok 4 dL_law_415 rfl ?_
  refine tj_iconst (v := 1) ok dL_law_417 (by decide) ?_
  refine tj_iadd ok dL_law_418 ?_
  refine tj_sld ok en dL_law_419 e4 ?_
  refine tj_aload_n ok 0 dL_law_420 rfl rfl ?_
  refine tj_iload ok 4 dL_law_421 rfl ?_
  refine tj_iconst (v := 2) ok dL_law_423 (by decide) ?_
  refine tj_iadd ok dL_law_424 ?_
  refine tj_sld ok en dL_law_425 e5 ?_
  refine tj_callV (rest := ([] : List TV).map (vl g)) (as := [.inl (x4), .inl (x5)]) ok lev (by omega) fcX11.1 (by decide) rfl (of_if e6).1 (k7 g) (CaX.ofL en (by omega)) kn_X11_look wm_1345 wm_1346 wm_1347 (rs_ok (Nat.le_of_ble_eq_true rfl)) rfl rfl dL_law_426 ?_
  refine tj_istore (lv' := [(0, .inr (.inr (a0))), (1, .inr (.inr (a1))), (2, .inr (.inr (a2))), (3, .inr (.inr (a3))), (4, .inl (a4)), (5, .inl (x3)), (6, .inl (x7))]) ok dL_law_429 (by decide) rfl ?_
  refine tj_aload_n ok 2 dL_law_431 rfl rfl ?_
  refine tj_callV (rest := ([] : List TV).map (vl g)) (as := []) ok lev (by omega) fcX11.1 (by decide) rfl (of_if e8).1 (k9 g) (CaX.ofL en (by omega)) kn_X11_thrown wm_1329 wm_1330 wm_1331 (rs_ok (Nat.le_of_ble_eq_true rfl)) rfl rfl dL_law_432 ?_
  refine tj_iload ok 5 dL_law_435 rfl ?_
  refine tj_icmp_eq (tgt := 442) ok dL_law_437 (by decide) (fun hc => ?_) (fun hc => ?_)
  · rw [if_pos hc] at hf
    exact (q_L_law_442 hr23 hf).2 X g K ok nmx lev hK en
  · rw [if_neg hc] at hf
    refine tj_sub (lv' := []) [] rfl ?_
    exact (q_L_law_440 hf).2 X g K ok nmx lev hK en
def b_L_law_527 (L : Nat) (xs : Nat → Int32) (r23 : Nat → Nat → Nat → Nat → Int32 → AH → Option (Int32 × AH)) (a0 : Nat) (a1 : Nat) (a2 : Nat) (a3 : Nat) (a4 : Int32) (h : AH) : Option (Int32 × AH) :=
  b_L_law_1569 L xs r23 a0 a1 a2 a3 a4 h
set_option maxHeartbeats 4000000 in
set_option maxRecDepth 100000 in
theorem q_L_law_527 {hE : AH} {v : Int32} {L : Nat} {xs : Nat → Int32} {r23 : Nat → Nat → Nat → Nat → Int32 → AH → Option (Int32 × AH)} (hr23 : ∀ (b0 : Nat) (b1 : Nat) (b2 : Nat) (b3 : Nat) (b4 : Int32) (h : AH), r23 b0 b1 b2 b3 b4 h = some (v, hE) → JL L xs cL_law 7 RL "law" (some .boolean) (243) 23 [(0, .inr (.inr (b0))), (1, .inr (.inr (b1))), (2, .inr (.inr (b2))), (3, .inr (.inr (b3))), (4, .inl (b4))] [] h hE (some (.inl (v)))) {a0 : Nat} {a1 : Nat} {a2 : Nat} {a3 : Nat} {a4 : Int32} {h : AH} (hf : b_L_law_527 L xs r23 a0 a1 a2 a3 a4 h = some (v, hE)) : JL L xs cL_law 7 RL "law" (some .boolean) (243) 527 [(0, .inr (.inr (a0))), (1, .inr (.inr (a1))), (2, .inr (.inr (a2))), (3, .inr (.inr (a3))), (4, .inl (a4))] [] h hE (some (.inl (v))) := by
  unfold b_L_law_527 at hf
  have J := q_L_law_1569 hr23 hf
  have mE := J.1
  refine ⟨by omega, fun X g K ok nmx lev hK en => ?_⟩
  refine tj_goto (tgt := 1569) ok dL_law_527 (by decide) ?_
  exact J.2 X g K ok nmx lev hK en
def b_L_law_525 (L : Nat) (xs : Nat → Int32)  (h : AH) : Option (Int32 × AH) :=
  ok_z (0 : Int32) h
set_option maxHeartbeats 4000000 in
set_option maxRecDepth 100000 in
theorem q_L_law_525 {L : Nat} {xs : Nat → Int32} {h hE : AH} {v : Int32} (hf : b_L_law_525 L xs  h = some (v, hE)) : JL L xs cL_law 7 RL "law" (some .boolean) (243) 525 [] [] h hE (some (.inl (v))) := by
  unfold b_L_law_525 at hf
  have mE : hp_n h ≤ hp_n hE ∧ hp_s h ≤ hp_s hE := by obtain ⟨-, q⟩ := of_if hf; cases q; exact ⟨Nat.le_refl _, Nat.le_refl _⟩
  refine ⟨by omega, fun X g K ok nmx lev hK en => ?_⟩
  refine tj_iconst (v := 0) ok dL_law_525 (by decide) ?_
  exact tj_lawret ok hf en dL_law_526
def b_L_law_515 (L : Nat) (xs : Nat → Int32) (r23 : Nat → Nat → Nat → Nat → Int32 → AH → Option (Int32 × AH)) (a0 : Nat) (a1 : Nat) (a2 : Nat) (a3 : Nat) (a4 : Int32) (a6 : Int32) (h : AH) : Option (Int32 × AH) :=
  (l_j h a3 (0 : Int32)).bind fun x1 => if (lg_cmp x1 a6.toInt64) = 0 then b_L_law_527 L xs r23 a0 a1 a2 a3 a4 h else b_L_law_525 L xs h
set_option maxHeartbeats 4000000 in
set_option maxRecDepth 100000 in
theorem q_L_law_515 {hE : AH} {v : Int32} {L : Nat} {xs : Nat → Int32} {r23 : Nat → Nat → Nat → Nat → Int32 → AH → Option (Int32 × AH)} (hr23 : ∀ (b0 : Nat) (b1 : Nat) (b2 : Nat) (b3 : Nat) (b4 : Int32) (h : AH), r23 b0 b1 b2 b3 b4 h = some (v, hE) → JL L xs cL_law 7 RL "law" (some .boolean) (243) 23 [(0, .inr (.inr (b0))), (1, .inr (.inr (b1))), (2, .inr (.inr (b2))), (3, .inr (.inr (b3))), (4, .inl (b4))] [] h hE (some (.inl (v)))) {a0 : Nat} {a1 : Nat} {a2 : Nat} {a3 : Nat} {a4 : Int32} {a6 : Int32} {h : AH} (hf : b_L_law_515 L xs r23 a0 a1 a2 a3 a4 a6 h = some (v, hE)) : JL L xs cL_law 7 RL "law" (some .boolean) (243) 515 [(0, .inr (.inr (a0))), (1, .inr (.inr (a1))), (2, .inr (.inr (a2))), (3, .inr (.inr (a3))), (4, .inl (a4)), (6, .inl (a6))] [] h hE (some (.inl (v))) := by
  unfold b_L_law_515 at hf
  obtain ⟨x1, e1, hf⟩ := bnd hf
  have mE : hp_n h ≤ hp_n hE ∧ hp_s h ≤ hp_s hE := by
    by_cases hc : (lg_cmp x1 a6.toInt64) = 0
    · rw [if_pos hc] at hf; exact (q_L_law_527 hr23 hf).1
    · rw [if_neg hc] at hf; exact (q_L_law_525 hf).1
  refine ⟨by omega, fun X g K ok nmx lev hK en => ?_⟩
  refine tj_aload_n ok 3 dL_law_515 rfl rfl ?_
  refine tj_iconst (v := 0) ok dL_law_516 (by decide) ?_
  refine tj_laload ok dL_law_517 e1 ?_
  refine tj_iload ok 5 dL_law_518 rfl ?_
  refine tj_i2l ok dL_law_520 ?_
  refine tj_lcmp ok dL_law_521 ?_
  refine tj_if_eq (tgt := 527) ok dL_law_522 (by decide) (fun hc => ?_) (fun hc => ?_)
  · rw [if_pos hc] at hf
    refine tj_sub (lv' := [(0, .inr (.inr (a0))), (1, .inr (.inr (a1))), (2, .inr (.inr (a2))), (3, .inr (.inr (a3))), (4, .inl (a4))]) [0, 1, 2, 3, 4] rfl ?_
    exact (q_L_law_527 hr23 hf).2 X g K ok nmx lev hK en
  · rw [if_neg hc] at hf
    refine tj_sub (lv' := []) [] rfl ?_
    exact (q_L_law_525 hf).2 X g K ok nmx lev hK en
def b_L_law_510 (L : Nat) (xs : Nat → Int32) (r23 : Nat → Nat → Nat → Nat → Int32 → AH → Option (Int32 × AH)) (a0 : Nat) (a1 : Nat) (a2 : Nat) (a3 : Nat) (a4 : Int32) (a5 : Int32) (a6 : Int32) (h : AH) : Option (Int32 × AH) :=
  if a5 = 0 then b_L_law_515 L xs r23 a0 a1 a2 a3 a4 a6 h else b_L_law_527 L xs r23 a0 a1 a2 a3 a4 h
set_option maxHeartbeats 4000000 in
set_option maxRecDepth 100000 in
theorem q_L_law_510 {hE : AH} {v : Int32} {L : Nat} {xs : Nat → Int32} {r23 : Nat → Nat → Nat → Nat → Int32 → AH → Option (Int32 × AH)} (hr23 : ∀ (b0 : Nat) (b1 : Nat) (b2 : Nat) (b3 : Nat) (b4 : Int32) (h : AH), r23 b0 b1 b2 b3 b4 h = some (v, hE) → JL L xs cL_law 7 RL "law" (some .boolean) (243) 23 [(0, .inr (.inr (b0))), (1, .inr (.inr (b1))), (2, .inr (.inr (b2))), (3, .inr (.inr (b3))), (4, .inl (b4))] [] h hE (some (.inl (v)))) {a0 : Nat} {a1 : Nat} {a2 : Nat} {a3 : Nat} {a4 : Int32} {a5 : Int32} {a6 : Int32} {h : AH} (hf : b_L_law_510 L xs r23 a0 a1 a2 a3 a4 a5 a6 h = some (v, hE)) : JL L xs cL_law 7 RL "law" (some .boolean) (243) 510 [(0, .inr (.inr (a0))), (1, .inr (.inr (a1))), (2, .inr (.inr (a2))), (3, .inr (.inr (a3))), (4, .inl (a4)), (5, .inl (a5)), (6, .inl (a6))] [] h hE (some (.inl (v))) := by
  unfold b_L_law_510 at hf
  have mE : hp_n h ≤ hp_n hE ∧ hp_s h ≤ hp_s hE := by
    by_cases hc : a5 = 0
    · rw [if_pos hc] at hf; exact (q_L_law_515 hr23 hf).1
    · rw [if_neg hc] at hf; exact (q_L_law_527 hr23 hf).1
  refine ⟨by omega, fun X g K ok nmx lev hK en => ?_⟩
  refine tj_iload ok 5 dL_law_510 rfl ?_
  refine tj_if_ne (tgt := 527) ok dL_law_512 (by decide) (fun hc => ?_) (fun hc => ?_)
  · rw [if_neg hc] at hf
    refine tj_sub (lv' := [(0, .inr (.inr (a0))), (1, .inr (.inr (a1))), (2, .inr (.inr (a2))), (3, .inr (.inr (a3))), (4, .inl (a4))]) [0, 1, 2, 3, 4] rfl ?_
    exact (q_L_law_527 hr23 hf).2 X g K ok nmx lev hK en
  · rw [if_pos hc] at hf
    refine tj_sub (lv' := [(0, .inr (.inr (a0))), (1, .inr (.inr (a1))), (2, .inr (.inr (a2))), (3, .inr (.inr (a3))), (4, .inl (a4)), (6, .inl (a6))]) [0, 1, 2, 3, 4, 6] rfl ?_
    exact (q_L_law_515 hr23 hf).2 X g K ok nmx lev hK en
def b_L_law_508 (L : Nat) (xs : Nat → Int32)  (h : AH) : Option (Int32 × AH) :=
  ok_z (0 : Int32) h
set_option maxHeartbeats 4000000 in
set_option maxRecDepth 100000 in
theorem q_L_law_508 {L : Nat} {xs : Nat → Int32} {h hE : AH} {v : Int32} (hf : b_L_law_508 L xs  h = some (v, hE)) : JL L xs cL_law 7 RL "law" (some .boolean) (243) 508 [] [] h hE (some (.inl (v))) := by
  unfold b_L_law_508 at hf
  have mE : hp_n h ≤ hp_n hE ∧ hp_s h ≤ hp_s hE := by obtain ⟨-, q⟩ := of_if hf; cases q; exact ⟨Nat.le_refl _, Nat.le_refl _⟩
  refine ⟨by omega, fun X g K ok nmx lev hK en => ?_⟩
  refine tj_iconst (v := 0) ok dL_law_508 (by decide) ?_
  exact tj_lawret ok hf en dL_law_509
def b_L_law_462 (L : Nat) (xs : Nat → Int32) (r23 : Nat → Nat → Nat → Nat → Int32 → AH → Option (Int32 × AH)) (a0 : Nat) (a1 : Nat) (a2 : Nat) (a3 : Nat) (a4 : Int32) (h : AH) : Option (Int32 × AH) :=
  (sc_i L xs a0 (a4 + (1 : Int32))).bind fun x1 => (sc_i L xs a0 (a4 + (2 : Int32))).bind fun x2 => (f_L_kind a1 x1 x2 a3 h).bind fun q3 => (sc_i L xs a0 (a4 + (1 : Int32))).bind fun x4 => (sc_i L xs a0 (a4 + (2 : Int32))).bind fun x5 => (ok_v q3.2 a2 11).bind fun x6 => (f_X11_kind a2 x4 x5 q3.2).bind fun q7 => (ok_v q7.2 a2 11).bind fun x8 => (f_X11_thrown a2 q7.2).bind fun q9 => if q9.1 = q3.1 then b_L_law_510 L xs r23 a0 a1 a2 a3 a4 q3.1 q7.1 q9.2 else b_L_law_508 L xs q9.2
set_option maxHeartbeats 4000000 in
set_option maxRecDepth 100000 in
theorem q_L_law_462 {hE : AH} {v : Int32} {L : Nat} {xs : Nat → Int32} {r23 : Nat → Nat → Nat → Nat → Int32 → AH → Option (Int32 × AH)} (hr23 : ∀ (b0 : Nat) (b1 : Nat) (b2 : Nat) (b3 : Nat) (b4 : Int32) (h : AH), r23 b0 b1 b2 b3 b4 h = some (v, hE) → JL L xs cL_law 7 RL "law" (some .boolean) (243) 23 [(0, .inr (.inr (b0))), (1, .inr (.inr (b1))), (2, .inr (.inr (b2))), (3, .inr (.inr (b3))), (4, .inl (b4))] [] h hE (some (.inl (v)))) {a0 : Nat} {a1 : Nat} {a2 : Nat} {a3 : Nat} {a4 : Int32} {h : AH} (hf : b_L_law_462 L xs r23 a0 a1 a2 a3 a4 h = some (v, hE)) : JL L xs cL_law 7 RL "law" (some .boolean) (243) 462 [(0, .inr (.inr (a0))), (1, .inr (.inr (a1))), (2, .inr (.inr (a2))), (3, .inr (.inr (a3))), (4, .inl (a4))] [] h hE (some (.inl (v))) := by
  unfold b_L_law_462 at hf
  obtain ⟨x1, e1, hf⟩ := bnd hf
  obtain ⟨x2, e2, hf⟩ := bnd hf
  obtain ⟨⟨x3, h3⟩, e3, hf⟩ := bnd hf
  try dsimp only at hf
  have k3 := c_L_kind e3
  have m3 := (k3 default_g).1
  obtain ⟨x4, e4, hf⟩ := bnd hf
  obtain ⟨x5, e5, hf⟩ := bnd hf
  obtain ⟨x6, e6, hf⟩ := bnd hf
  obtain ⟨⟨x7, h7⟩, e7, hf⟩ := bnd hf
  try dsimp only at hf
  have k7 := c_X11_kind e7
  have m7 := (k7 default_g).1
  obtain ⟨x8, e8, hf⟩ := bnd hf
  obtain ⟨⟨x9, h9⟩, e9, hf⟩ := bnd hf
  try dsimp only at hf
  have k9 := c_X11_thrown e9
  have m9 := (k9 default_g).1
  have mE : hp_n h9 ≤ hp_n hE ∧ hp_s h9 ≤ hp_s hE := by
    by_cases hc : x9 = x3
    · rw [if_pos hc] at hf; exact (q_L_law_510 hr23 hf).1
    · rw [if_neg hc] at hf; exact (q_L_law_508 hf).1
  refine ⟨by omega, fun X g K ok nmx lev hK en => ?_⟩
  refine tj_aload_n ok 1 dL_law_462 rfl rfl ?_
  refine tj_aload_n ok 0 dL_law_463 rfl rfl ?_
  refine tj_iload ok 4 dL_law_464 rfl ?_
  refine tj_iconst (v := 1) ok dL_law_466 (by decide) ?_
  refine tj_iadd ok dL_law_467 ?_
  refine tj_sld ok en dL_law_468 e1 ?_
  refine tj_aload_n ok 0 dL_law_469 rfl rfl ?_
  refine tj_iload ok 4 dL_law_470 rfl ?_
  refine tj_iconst (v := 2) ok dL_law_472 (by decide) ?_
  refine tj_iadd ok dL_law_473 ?_
  refine tj_sld ok en dL_law_474 e2 ?_
  refine tj_aload_n ok 3 dL_law_475 rfl rfl ?_
  refine tj_callW (rest := ([] : List TV).map (vl g)) (as := [.inr (.inr (a1)), .inl (x1), .inl (x2), .inr (.inr (a3))]) ok lev (by omega) (k3 g) (CaX.ofL en (by omega)) kw_L_kind wm_1348 wm_1349 (rs_ok (Nat.le_of_ble_eq_true rfl)) rfl rfl dL_law_476 ?_
  refine tj_istore (lv' := [(0, .inr (.inr (a0))), (1, .inr (.inr (a1))), (2, .inr (.inr (a2))), (3, .inr (.inr (a3))), (4, .inl (a4)), (5, .inl (x3))]) ok dL_law_479 (by decide) rfl ?_
  refine tj_aload_n ok 2 dL_law_481 rfl rfl ?_
  refine tj_aload_n ok 0 dL_law_482 rfl rfl ?_
  refine tj_iload ok 4 dL_law_483 rfl ?_
  refine tj_iconst (v := 1) ok dL_law_485 (by decide) ?_
  refine tj_iadd ok dL_law_486 ?_
  refine tj_sld ok en dL_law_487 e4 ?_
  refine tj_aload_n ok 0 dL_law_488 rfl rfl ?_
  refine tj_iload ok 4 dL_law_489 rfl ?_
  refine tj_iconst (v := 2) ok dL_law_491 (by decide) ?_
  refine tj_iadd ok dL_law_492 ?_
  refine tj_sld ok en dL_law_493 e5 ?_
  refine tj_callV (rest := ([] : List TV).map (vl g)) (as := [.inl (x4), .inl (x5)]) ok lev (by omega) fcX11.1 (by decide) rfl (of_if e6).1 (k7 g) (CaX.ofL en (by omega)) kn_X11_kind wm_1350 wm_1351 wm_1352 (rs_ok (Nat.le_of_ble_eq_true rfl)) rfl rfl dL_law_494 ?_
  refine tj_istore (lv' := [(0, .inr (.inr (a0))), (1, .inr (.inr (a1))), (2, .inr (.inr (a2))), (3, .inr (.inr (a3))), (4, .inl (a4)), (5, .inl (x3)), (6, .inl (x7))]) ok dL_law_497 (by decide) rfl ?_
  refine tj_aload_n ok 2 dL_law_499 rfl rfl ?_
  refine tj_callV (rest := ([] : List TV).map (vl g)) (as := []) ok lev (by omega) fcX11.1 (by decide) rfl (of_if e8).1 (k9 g) (CaX.ofL en (by omega)) kn_X11_thrown wm_1329 wm_1330 wm_1331 (rs_ok (Nat.le_of_ble_eq_true rfl)) rfl rfl dL_law_500 ?_
  refine tj_iload ok 5 dL_law_503 rfl ?_
  refine tj_icmp_eq (tgt := 510) ok dL_law_505 (by decide) (fun hc => ?_) (fun hc => ?_)
  · rw [if_pos hc] at hf
    exact (q_L_law_510 hr23 hf).2 X g K ok nmx lev hK en
  · rw [if_neg hc] at hf
    refine tj_sub (lv' := []) [] rfl ?_
    exact (q_L_law_508 hf).2 X g K ok nmx lev hK en
def b_L_law_607 (L : Nat) (xs : Nat → Int32) (r23 : Nat → Nat → Nat → Nat → Int32 → AH → Option (Int32 × AH)) (a0 : Nat) (a1 : Nat) (a2 : Nat) (a3 : Nat) (a4 : Int32) (h : AH) : Option (Int32 × AH) :=
  b_L_law_1569 L xs r23 a0 a1 a2 a3 a4 h
set_option maxHeartbeats 4000000 in
set_option maxRecDepth 100000 in
theorem q_L_law_607 {hE : AH} {v : Int32} {L : Nat} {xs : Nat → Int32} {r23 : Nat → Nat → Nat → Nat → Int32 → AH → Option (Int32 × AH)} (hr23 : ∀ (b0 : Nat) (b1 : Nat) (b2 : Nat) (b3 : Nat) (b4 : Int32) (h : AH), r23 b0 b1 b2 b3 b4 h = some (v, hE) → JL L xs cL_law 7 RL "law" (some .boolean) (243) 23 [(0, .inr (.inr (b0))), (1, .inr (.inr (b1))), (2, .inr (.inr (b2))), (3, .inr (.inr (b3))), (4, .inl (b4))] [] h hE (some (.inl (v)))) {a0 : Nat} {a1 : Nat} {a2 : Nat} {a3 : Nat} {a4 : Int32} {h : AH} (hf : b_L_law_607 L xs r23 a0 a1 a2 a3 a4 h = some (v, hE)) : JL L xs cL_law 7 RL "law" (some .boolean) (243) 607 [(0, .inr (.inr (a0))), (1, .inr (.inr (a1))), (2, .inr (.inr (a2))), (3, .inr (.inr (a3))), (4, .inl (a4))] [] h hE (some (.inl (v))) := by
  unfold b_L_law_607 at hf
  have J := q_L_law_1569 hr23 hf
  have mE := J.1
  refine ⟨by omega, fun X g K ok nmx lev hK en => ?_⟩
  refine tj_goto (tgt := 1569) ok dL_law_607 (by decide) ?_
  exact J.2 X g K ok nmx lev hK en
def b_L_law_605 (L : Nat) (xs : Nat → Int32)  (h : AH) : Option (Int32 × AH) :=
  ok_z (0 : Int32) h
set_option maxHeartbeats 4000000 in
set_option maxRecDepth 100000 in
theorem q_L_law_605 {L : Nat} {xs : Nat → Int32} {h hE : AH} {v : Int32} (hf : b_L_law_605 L xs  h = some (v, hE)) : JL L xs cL_law 7 RL "law" (some .boolean) (243) 605 [] [] h hE (some (.inl (v))) := by
  unfold b_L_law_605 at hf
  have mE : hp_n h ≤ hp_n hE ∧ hp_s h ≤ hp_s hE := by obtain ⟨-, q⟩ := of_if hf; cases q; exact ⟨Nat.le_refl _, Nat.le_refl _⟩
  refine ⟨by omega, fun X g K ok nmx lev hK en => ?_⟩
  refine tj_iconst (v := 0) ok dL_law_605 (by decide) ?_
  exact tj_lawret ok hf en dL_law_606
def b_L_law_595 (L : Nat) (xs : Nat → Int32) (r23 : Nat → Nat → Nat → Nat → Int32 → AH → Option (Int32 × AH)) (a0 : Nat) (a1 : Nat) (a2 : Nat) (a3 : Nat) (a4 : Int32) (a6 : Int32) (h : AH) : Option (Int32 × AH) :=
  (l_j h a3 (0 : Int32)).bind fun x1 => if (lg_cmp x1 a6.toInt64) = 0 then b_L_law_607 L xs r23 a0 a1 a2 a3 a4 h else b_L_law_605 L xs h
set_option maxHeartbeats 4000000 in
set_option maxRecDepth 100000 in
theorem q_L_law_595 {hE : AH} {v : Int32} {L : Nat} {xs : Nat → Int32} {r23 : Nat → Nat → Nat → Nat → Int32 → AH → Option (Int32 × AH)} (hr23 : ∀ (b0 : Nat) (b1 : Nat) (b2 : Nat) (b3 : Nat) (b4 : Int32) (h : AH), r23 b0 b1 b2 b3 b4 h = some (v, hE) → JL L xs cL_law 7 RL "law" (some .boolean) (243) 23 [(0, .inr (.inr (b0))), (1, .inr (.inr (b1))), (2, .inr (.inr (b2))), (3, .inr (.inr (b3))), (4, .inl (b4))] [] h hE (some (.inl (v)))) {a0 : Nat} {a1 : Nat} {a2 : Nat} {a3 : Nat} {a4 : Int32} {a6 : Int32} {h : AH} (hf : b_L_law_595 L xs r23 a0 a1 a2 a3 a4 a6 h = some (v, hE)) : JL L xs cL_law 7 RL "law" (some .boolean) (243) 595 [(0, .inr (.inr (a0))), (1, .inr (.inr (a1))), (2, .inr (.inr (a2))), (3, .inr (.inr (a3))), (4, .inl (a4)), (6, .inl (a6))] [] h hE (some (.inl (v))) := by
  unfold b_L_law_595 at hf
  obtain ⟨x1, e1, hf⟩ := bnd hf
  have mE : hp_n h ≤ hp_n hE ∧ hp_s h ≤ hp_s hE := by
    by_cases hc : (lg_cmp x1 a6.toInt64) = 0
    · rw [if_pos hc] at hf; exact (q_L_law_607 hr23 hf).1
    · rw [if_neg hc] at hf; exact (q_L_law_605 hf).1
  refine ⟨by omega, fun X g K ok nmx lev hK en => ?_⟩
  refine tj_aload_n ok 3 dL_law_595 rfl rfl ?_
  refine tj_iconst (v := 0) ok dL_law_596 (by decide) ?_
  refine tj_laload ok dL_law_597 e1 ?_
  refine tj_iload ok 5 dL_law_598 rfl ?_
  refine tj_i2l ok dL_law_600 ?_
  refine tj_lcmp ok dL_law_601 ?_
  refine tj_if_eq (tgt := 607) ok dL_law_602 (by decide) (fun hc => ?_) (fun hc => ?_)
  · rw [if_pos hc] at hf
    refine tj_sub (lv' := [(0, .inr (.inr (a0))), (1, .inr (.inr (a1))), (2, .inr (.inr (a2))), (3, .inr (.inr (a3))), (4, .inl (a4))]) [0, 1, 2, 3, 4] rfl ?_
    exact (q_L_law_607 hr23 hf).2 X g K ok nmx lev hK en
  · rw [if_neg hc] at hf
    refine tj_sub (lv' := []) [] rfl ?_
    exact (q_L_law_605 hf).2 X g K ok nmx lev hK en
def b_L_law_590 (L : Nat) (xs : Nat → Int32) (r23 : Nat → Nat → Nat → Nat → Int32 → AH → Option (Int32 × AH)) (a0 : Nat) (a1 : Nat) (a2 : Nat) (a3 : Nat) (a4 : Int32) (a5 : Int32) (a6 : Int32) (h : AH) : Option (Int32 × AH) :=
  if a5 = 0 then b_L_law_595 L xs r23 a0 a1 a2 a3 a4 a6 h else b_L_law_607 L xs r23 a0 a1 a2 a3 a4 h
set_option maxHeartbeats 4000000 in
set_option maxRecDepth 100000 in
theorem q_L_law_590 {hE : AH} {v : Int32} {L : Nat} {xs : Nat → Int32} {r23 : Nat → Nat → Nat → Nat → Int32 → AH → Option (Int32 × AH)} (hr23 : ∀ (b0 : Nat) (b1 : Nat) (b2 : Nat) (b3 : Nat) (b4 : Int32) (h : AH), r23 b0 b1 b2 b3 b4 h = some (v, hE) → JL L xs cL_law 7 RL "law" (some .boolean) (243) 23 [(0, .inr (.inr (b0))), (1, .inr (.inr (b1))), (2, .inr (.inr (b2))), (3, .inr (.inr (b3))), (4, .inl (b4))] [] h hE (some (.inl (v)))) {a0 : Nat} {a1 : Nat} {a2 : Nat} {a3 : Nat} {a4 : Int32} {a5 : Int32} {a6 : Int32} {h : AH} (hf : b_L_law_590 L xs r23 a0 a1 a2 a3 a4 a5 a6 h = some (v, hE)) : JL L xs cL_law 7 RL "law" (some .boolean) (243) 590 [(0, .inr (.inr (a0))), (1, .inr (.inr (a1))), (2, .inr (.inr (a2))), (3, .inr (.inr (a3))), (4, .inl (a4)), (5, .inl (a5)), (6, .inl (a6))] [] h hE (some (.inl (v))) := by
  unfold b_L_law_590 at hf
  have mE : hp_n h ≤ hp_n hE ∧ hp_s h ≤ hp_s hE := by
    by_cases hc : a5 = 0
    · rw [if_pos hc] at hf; exact (q_L_law_595 hr23 hf).1
    · rw [if_neg hc] at hf; exact (q_L_law_607 hr23 hf).1
  refine ⟨by omega, fun X g K ok nmx lev hK en => ?_⟩
  refine tj_iload ok 5 dL_law_590 rfl ?_
  refine tj_if_ne (tgt := 607) ok dL_law_592 (by decide) (fun hc => ?_) (fun hc => ?_)
  · rw [if_neg hc] at hf
    refine tj_sub (lv' := [(0, .inr (.inr (a0))), (1, .inr (.inr (a1))), (2, .inr (.inr (a2))), (3, .inr (.inr (a3))), (4, .inl (a4))]) [0, 1, 2, 3, 4] rfl ?_
    exact (q_L_law_607 hr23 hf).2 X g K ok nmx lev hK en
  · rw [if_pos hc] at hf
    refine tj_sub (lv' := [(0, .inr (.inr (a0))), (1, .inr (.inr (a1))), (2, .inr (.inr (a2))), (3, .inr (.inr (a3))), (4, .inl (a4)), (6, .inl (a6))]) [0, 1, 2, 3, 4, 6] rfl ?_
    exact (q_L_law_595 hr23 hf).2 X g K ok nmx lev hK en
def b_L_law_588 (L : Nat) (xs : Nat → Int32)  (h : AH) : Option (Int32 × AH) :=
  ok_z (0 : Int32) h
set_option maxHeartbeats 4000000 in
set_option maxRecDepth 100000 in
theorem q_L_law_588 {L : Nat} {xs : Nat → Int32} {h hE : AH} {v : Int32} (hf : b_L_law_588 L xs  h = some (v, hE)) : JL L xs cL_law 7 RL "law" (some .boolean) (243) 588 [] [] h hE (some (.inl (v))) := by
  unfold b_L_law_588 at hf
  have mE : hp_n h ≤ hp_n hE ∧ hp_s h ≤ hp_s hE := by obtain ⟨-, q⟩ := of_if hf; cases q; exact ⟨Nat.le_refl _, Nat.le_refl _⟩
  refine ⟨by omega, fun X g K ok nmx lev hK en => ?_⟩
  refine tj_iconst (v := 0) ok dL_law_588 (by decide) ?_
  exact tj_lawret ok hf en dL_law_589
def b_L_law_530 (L : Nat) (xs : Nat → Int32) (r23 : Nat → Nat → Nat → Nat → Int32 → AH → Option (Int32 × AH)) (a0 : Nat) (a1 : Nat) (a2 : Nat) (a3 : Nat) (a4 : Int32) (h : AH) : Option (Int32 × AH) :=
  (sc_i L xs a0 (a4 + (1 : Int32))).bind fun x1 => (sc_i L xs a0 (a4 + (2 : Int32))).bind fun x2 => (sc_i L xs a0 (a4 + (3 : Int32))).bind fun x3 => (f_L_action a1 x1 x2 x3 a3 h).bind fun q4 => (sc_i L xs a0 (a4 + (1 : Int32))).bind fun x5 => (sc_i L xs a0 (a4 + (2 : Int32))).bind fun x6 => (sc_i L xs a0 (a4 + (3 : Int32))).bind fun x7 => (ok_v q4.2 a2 11).bind fun x8 => (f_X11_action_ a2 x5 x6 x7 q4.2).bind fun q9 => (ok_v q9.2 a2 11).bind fun x10 => (f_X11_thrown a2 q9.2).bind fun q11 => if q11.1 = q4.1 then b_L_law_590 L xs r23 a0 a1 a2 a3 a4 q4.1 q9.1 q11.2 else b_L_law_588 L xs q11.2
set_option maxHeartbeats 4000000 in
set_option maxRecDepth 100000 in
theorem q_L_law_530 {hE : AH} {v : Int32} {L : Nat} {xs : Nat → Int32} {r23 : Nat → Nat → Nat → Nat → Int32 → AH → Option (Int32 × AH)} (hr23 : ∀ (b0 : Nat) (b1 : Nat) (b2 : Nat) (b3 : Nat) (b4 : Int32) (h : AH), r23 b0 b1 b2 b3 b4 h = some (v, hE) → JL L xs cL_law 7 RL "law" (some .boolean) (243) 23 [(0, .inr (.inr (b0))), (1, .inr (.inr (b1))), (2, .inr (.inr (b2))), (3, .inr (.inr (b3))), (4, .inl (b4))] [] h hE (some (.inl (v)))) {a0 : Nat} {a1 : Nat} {a2 : Nat} {a3 : Nat} {a4 : Int32} {h : AH} (hf : b_L_law_530 L xs r23 a0 a1 a2 a3 a4 h = some (v, hE)) : JL L xs cL_law 7 RL "law" (some .boolean) (243) 530 [(0, .inr (.inr (a0))), (1, .inr (.inr (a1))), (2, .inr (.inr (a2))), (3, .inr (.inr (a3))), (4, .inl (a4))] [] h hE (some (.inl (v))) := by
  unfold b_L_law_530 at hf
  obtain ⟨x1, e1, hf⟩ := bnd hf
  obtain ⟨x2, e2, hf⟩ := bnd hf
  obtain ⟨x3, e3, hf⟩ := bnd hf
  obtain ⟨⟨x4, h4⟩, e4, hf⟩ := bnd hf
  try dsimp only at hf
  have k4 := c_L_action e4
  have m4 := (k4 default_g).1
  obtain ⟨x5, e5, hf⟩ := bnd hf
  obtain ⟨x6, e6, hf⟩ := bnd hf
  obtain ⟨x7, e7, hf⟩ := bnd hf
  obtain ⟨x8, e8, hf⟩ := bnd hf
  obtain ⟨⟨x9, h9⟩, e9, hf⟩ := bnd hf
  try dsimp only at hf
  have k9 := c_X11_action_ e9
  have m9 := (k9 default_g).1
  obtain ⟨x10, e10, hf⟩ := bnd hf
  obtain ⟨⟨x11, h11⟩, e11, hf⟩ := bnd hf
  try dsimp only at hf
  have k11 := c_X11_thrown e11
  have m11 := (k11 default_g).1
  have mE : hp_n h11 ≤ hp_n hE ∧ hp_s h11 ≤ hp_s hE := by
    by_cases hc : x11 = x4
    · rw [if_pos hc] at hf; exact (q_L_law_590 hr23 hf).1
    · rw [if_neg hc] at hf; exact (q_L_law_588 hf).1
  refine ⟨by omega, fun X g K ok nmx lev hK en => ?_⟩
  refine tj_aload_n ok 1 dL_law_530 rfl rfl ?_
  refine tj_aload_n ok 0 dL_law_531 rfl rfl ?_
  refine tj_iload ok 4 dL_law_532 rfl ?_
  refine tj_iconst (v := 1) ok dL_law_534 (by decide) ?_
  refine tj_iadd ok dL_law_535 ?_
  refine tj_sld ok en dL_law_536 e1 ?_
  refine tj_aload_n ok 0 dL_law_537 rfl rfl ?_
  refine tj_iload ok 4 dL_law_538 rfl ?_
  refine tj_iconst (v := 2) ok dL_law_540 (by decide) ?_
  refine tj_iadd ok dL_law_541 ?_
  refine tj_sld ok en dL_law_542 e2 ?_
  refine tj_aload_n ok 0 dL_law_543 rfl rfl ?_
  refine tj_iload ok 4 dL_law_544 rfl ?_
  refine tj_iconst (v := 3) ok dL_law_546 (by decide) ?_
  refine tj_iadd ok dL_law_547 ?_
  refine tj_sld ok en dL_law_548 e3 ?_
  refine tj_aload_n ok 3 dL_law_549 rfl rfl ?_
  refine tj_callW (rest := ([] : List TV).map (vl g)) (as := [.inr (.inr (a1)), .inl (x1), .inl (x2), .inl (x3), .inr (.inr (a3))]) ok lev (by omega) (k4 g) (CaX.ofL en (by omega)) kw_L_action wm_1353 wm_1354 (rs_ok (Nat.le_of_ble_eq_true rfl)) rfl rfl dL_law_550 ?_
  refine tj_istore (lv' := [(0, .inr (.inr (a0))), (1, .inr (.inr (a1))), (2, .inr (.inr (a2))), (3, .inr (.inr (a3))), (4, .inl (a4)), (5, .inl (x4))]) ok dL_law_553 (by decide) rfl ?_
  refine tj_aload_n ok 2 dL_law_555 rfl rfl ?_
  refine tj_aload_n ok 0 dL_law_556 rfl rfl ?_
  refine tj_iload ok 4 dL_law_557 rfl ?_
  refine tj_iconst (v := 1) ok dL_law_559 (by decide) ?_
  refine tj_iadd ok dL_law_560 ?_
  refine tj_sld ok en dL_law_561 e5 ?_
  refine tj_aload_n ok 0 dL_law_562 rfl rfl ?_
  refine tj_iload ok 4 dL_law_563 rfl ?_
  refine tj_iconst (v := 2) ok dL_law_565 (by decide) ?_
  refine tj_iadd ok dL_law_566 ?_
  refine tj_sld ok en dL_law_567 e6 ?_
  refine tj_aload_n ok 0 dL_law_568 rfl rfl ?_
  refine tj_iload ok 4 dL_law_569 rfl ?_
  refine tj_iconst (v := 3) ok dL_law_571 (by decide) ?_
  refine tj_iadd ok dL_law_572 ?_
  refine tj_sld ok en dL_law_573 e7 ?_
  refine tj_callV (rest := ([] : List TV).map (vl g)) (as := [.inl (x5), .inl (x6), .inl (x7)]) ok lev (by omega) fcX11.1 (by decide) rfl (of_if e8).1 (k9 g) (CaX.ofL en (by omega)) kn_X11_action_ wm_1355 wm_1356 wm_1357 (rs_ok (Nat.le_of_ble_eq_true rfl)) rfl rfl dL_law_574 ?_
  refine tj_istore (lv' := [(0, .inr (.inr (a0))), (1, .inr (.inr (a1))), (2, .inr (.inr (a2))), (3, .inr (.inr (a3))), (4, .inl (a4)), (5, .inl (x4)), (6, .inl (x9))]) ok dL_law_577 (by decide) rfl ?_
  refine tj_aload_n ok 2 dL_law_579 rfl rfl ?_
  refine tj_callV (rest := ([] : List TV).map (vl g)) (as := []) ok lev (by omega) fcX11.1 (by decide) rfl (of_if e10).1 (k11 g) (CaX.ofL en (by omega)) kn_X11_thrown wm_1329 wm_1330 wm_1331 (rs_ok (Nat.le_of_ble_eq_true rfl)) rfl rfl dL_law_580 ?_
  refine tj_iload ok 5 dL_law_583 rfl ?_
  refine tj_icmp_eq (tgt := 590) ok dL_law_585 (by decide) (fun hc => ?_) (fun hc => ?_)
  · rw [if_pos hc] at hf
    exact (q_L_law_590 hr23 hf).2 X g K ok nmx lev hK en
  · rw [if_neg hc] at hf
    refine tj_sub (lv' := []) [] rfl ?_
    exact (q_L_law_588 hf).2 X g K ok nmx lev hK en
def b_L_law_663 (L : Nat) (xs : Nat → Int32) (r23 : Nat → Nat → Nat → Nat → Int32 → AH → Option (Int32 × AH)) (a0 : Nat) (a1 : Nat) (a2 : Nat) (a3 : Nat) (a4 : Int32) (h : AH) : Option (Int32 × AH) :=
  b_L_law_1569 L xs r23 a0 a1 a2 a3 a4 h
set_option maxHeartbeats 4000000 in
set_option maxRecDepth 100000 in
theorem q_L_law_663 {hE : AH} {v : Int32} {L : Nat} {xs : Nat → Int32} {r23 : Nat → Nat → Nat → Nat → Int32 → AH → Option (Int32 × AH)} (hr23 : ∀ (b0 : Nat) (b1 : Nat) (b2 : Nat) (b3 : Nat) (b4 : Int32) (h : AH), r23 b0 b1 b2 b3 b4 h = some (v, hE) → JL L xs cL_law 7 RL "law" (some .boolean) (243) 23 [(0, .inr (.inr (b0))), (1, .inr (.inr (b1))), (2, .inr (.inr (b2))), (3, .inr (.inr (b3))), (4, .inl (b4))] [] h hE (some (.inl (v)))) {a0 : Nat} {a1 : Nat} {a2 : Nat} {a3 : Nat} {a4 : Int32} {h : AH} (hf : b_L_law_663 L xs r23 a0 a1 a2 a3 a4 h = some (v, hE)) : JL L xs cL_law 7 RL "law" (some .boolean) (243) 663 [(0, .inr (.inr (a0))), (1, .inr (.inr (a1))), (2, .inr (.inr (a2))), (3, .inr (.inr (a3))), (4, .inl (a4))] [] h hE (some (.inl (v))) := by
  unfold b_L_law_663 at hf
  have J := q_L_law_1569 hr23 hf
  have mE := J.1
  refine ⟨by omega, fun X g K ok nmx lev hK en => ?_⟩
  refine tj_goto (tgt := 1569) ok dL_law_663 (by decide) ?_
  exact J.2 X g K ok nmx lev hK en
def b_L_law_661 (L : Nat) (xs : Nat → Int32)  (h : AH) : Option (Int32 × AH) :=
  ok_z (0 : Int32) h
set_option maxHeartbeats 4000000 in
set_option maxRecDepth 100000 in
theorem q_L_law_661 {L : Nat} {xs : Nat → Int32} {h hE : AH} {v : Int32} (hf : b_L_law_661 L xs  h = some (v, hE)) : JL L xs cL_law 7 RL "law" (some .boolean) (243) 661 [] [] h hE (some (.inl (v))) := by
  unfold b_L_law_661 at hf
  have mE : hp_n h ≤ hp_n hE ∧ hp_s h ≤ hp_s hE := by obtain ⟨-, q⟩ := of_if hf; cases q; exact ⟨Nat.le_refl _, Nat.le_refl _⟩
  refine ⟨by omega, fun X g K ok nmx lev hK en => ?_⟩
  refine tj_iconst (v := 0) ok dL_law_661 (by decide) ?_
  exact tj_lawret ok hf en dL_law_662
def b_L_law_651 (L : Nat) (xs : Nat → Int32) (r23 : Nat → Nat → Nat → Nat → Int32 → AH → Option (Int32 × AH)) (a0 : Nat) (a1 : Nat) (a2 : Nat) (a3 : Nat) (a4 : Int32) (a6 : Int32) (h : AH) : Option (Int32 × AH) :=
  (l_j h a3 (0 : Int32)).bind fun x1 => if (lg_cmp x1 a6.toInt64) = 0 then b_L_law_663 L xs r23 a0 a1 a2 a3 a4 h else b_L_law_661 L xs h
set_option maxHeartbeats 4000000 in
set_option maxRecDepth 100000 in
theorem q_L_law_651 {hE : AH} {v : Int32} {L : Nat} {xs : Nat → Int32} {r23 : Nat → Nat → Nat → Nat → Int32 → AH → Option (Int32 × AH)} (hr23 : ∀ (b0 : Nat) (b1 : Nat) (b2 : Nat) (b3 : Nat) (b4 : Int32) (h : AH), r23 b0 b1 b2 b3 b4 h = some (v, hE) → JL L xs cL_law 7 RL "law" (some .boolean) (243) 23 [(0, .inr (.inr (b0))), (1, .inr (.inr (b1))), (2, .inr (.inr (b2))), (3, .inr (.inr (b3))), (4, .inl (b4))] [] h hE (some (.inl (v)))) {a0 : Nat} {a1 : Nat} {a2 : Nat} {a3 : Nat} {a4 : Int32} {a6 : Int32} {h : AH} (hf : b_L_law_651 L xs r23 a0 a1 a2 a3 a4 a6 h = some (v, hE)) : JL L xs cL_law 7 RL "law" (some .boolean) (243) 651 [(0, .inr (.inr (a0))), (1, .inr (.inr (a1))), (2, .inr (.inr (a2))), (3, .inr (.inr (a3))), (4, .inl (a4)), (6, .inl (a6))] [] h hE (some (.inl (v))) := by
  unfold b_L_law_651 at hf
  obtain ⟨x1, e1, hf⟩ := bnd hf
  have mE : hp_n h ≤ hp_n hE ∧ hp_s h ≤ hp_s hE := by
    by_cases hc : (lg_cmp x1 a6.toInt64) = 0
    · rw [if_pos hc] at hf; exact (q_L_law_663 hr23 hf).1
    · rw [if_neg hc] at hf; exact (q_L_law_661 hf).1
  refine ⟨by omega, fun X g K ok nmx lev hK en => ?_⟩
  refine tj_aload_n ok 3 dL_law_651 rfl rfl ?_
  refine tj_iconst (v := 0) ok dL_law_652 (by decide) ?_
  refine tj_laload ok dL_law_653 e1 ?_
  refine tj_iload ok 5 dL_law_654 rfl ?_
  refine tj_i2l ok dL_law_656 ?_
  refine tj_lcmp ok dL_law_657 ?_
  refine tj_if_eq (tgt := 663) ok dL_law_658 (by decide) (fun hc => ?_) (fun hc => ?_)
  · rw [if_pos hc] at hf
    refine tj_sub (lv' := [(0, .inr (.inr (a0))), (1, .inr (.inr (a1))), (2, .inr (.inr (a2))), (3, .inr (.inr (a3))), (4, .inl (a4))]) [0, 1, 2, 3, 4] rfl ?_
    exact (q_L_law_663 hr23 hf).2 X g K ok nmx lev hK en
  · rw [if_neg hc] at hf
    refine tj_sub (lv' := []) [] rfl ?_
    exact (q_L_law_661 hf).2 X g K ok nmx lev hK en
def b_L_law_646 (L : Nat) (xs : Nat → Int32) (r23 : Nat → Nat → Nat → Nat → Int32 → AH → Option (Int32 × AH)) (a0 : Nat) (a1 : Nat) (a2 : Nat) (a3 : Nat) (a4 : Int32) (a5 : Int32) (a6 : Int32) (h : AH) : Option (Int32 × AH) :=
  if a5 = 0 then b_L_law_651 L xs r23 a0 a1 a2 a3 a4 a6 h else b_L_law_663 L xs r23 a0 a1 a2 a3 a4 h
set_option maxHeartbeats 4000000 in
set_option maxRecDepth 100000 in
theorem q_L_law_646 {hE : AH} {v : Int32} {L : Nat} {xs : Nat → Int32} {r23 : Nat → Nat → Nat → Nat → Int32 → AH → Option (Int32 × AH)} (hr23 : ∀ (b0 : Nat) (b1 : Nat) (b2 : Nat) (b3 : Nat) (b4 : Int32) (h : AH), r23 b0 b1 b2 b3 b4 h = some (v, hE) → JL L xs cL_law 7 RL "law" (some .boolean) (243) 23 [(0, .inr (.inr (b0))), (1, .inr (.inr (b1))), (2, .inr (.inr (b2))), (3, .inr (.inr (b3))), (4, .inl (b4))] [] h hE (some (.inl (v)))) {a0 : Nat} {a1 : Nat} {a2 : Nat} {a3 : Nat} {a4 : Int32} {a5 : Int32} {a6 : Int32} {h : AH} (hf : b_L_law_646 L xs r23 a0 a1 a2 a3 a4 a5 a6 h = some (v, hE)) : JL L xs cL_law 7 RL "law" (some .boolean) (243) 646 [(0, .inr (.inr (a0))), (1, .inr (.inr (a1))), (2, .inr (.inr (a2))), (3, .inr (.inr (a3))), (4, .inl (a4)), (5, .inl (a5)), (6, .inl (a6))] [] h hE (some (.inl (v))) := by
  unfold b_L_law_646 at hf
  have mE : hp_n h ≤ hp_n hE ∧ hp_s h ≤ hp_s hE := by
    by_cases hc : a5 = 0
    · rw [if_pos hc] at hf; exact (q_L_law_651 hr23 hf).1
    · rw [if_neg hc] at hf; exact (q_L_law_663 hr23 hf).1
  refine ⟨by omega, fun X g K ok nmx lev hK en => ?_⟩
  refine tj_iload ok 5 dL_law_646 rfl ?_
  refine tj_if_ne (tgt := 663) ok dL_law_648 (by decide) (fun hc => ?_) (fun hc => ?_)
  · rw [if_neg hc] at hf
    refine tj_sub (lv' := [(0, .inr (.inr (a0))), (1, .inr (.inr (a1))), (2, .inr (.inr (a2))), (3, .inr (.inr (a3))), (4, .inl (a4))]) [0, 1, 2, 3, 4] rfl ?_
    exact (q_L_law_663 hr23 hf).2 X g K ok nmx lev hK en
  · rw [if_pos hc] at hf
    refine tj_sub (lv' := [(0, .inr (.inr (a0))), (1, .inr (.inr (a1))), (2, .inr (.inr (a2))), (3, .inr (.inr (a3))), (4, .inl (a4)), (6, .inl (a6))]) [0, 1, 2, 3, 4, 6] rfl ?_
    exact (q_L_law_651 hr23 hf).2 X g K ok nmx lev hK en
def b_L_law_644 (L : Nat) (xs : Nat → Int32)  (h : AH) : Option (Int32 × AH) :=
  ok_z (0 : Int32) h
set_option maxHeartbeats 4000000 in
set_option maxRecDepth 100000 in
theorem q_L_law_644 {L : Nat} {xs : Nat → Int32} {h hE : AH} {v : Int32} (hf : b_L_law_644 L xs  h = some (v, hE)) : JL L xs cL_law 7 RL "law" (some .boolean) (243) 644 [] [] h hE (some (.inl (v))) := by
  unfold b_L_law_644 at hf
  have mE : hp_n h ≤ hp_n hE ∧ hp_s h ≤ hp_s hE := by obtain ⟨-, q⟩ := of_if hf; cases q; exact ⟨Nat.le_refl _, Nat.le_refl _⟩
  refine ⟨by omega, fun X g K ok nmx lev hK en => ?_⟩
  refine tj_iconst (v := 0) ok dL_law_644 (by decide) ?_
  exact tj_lawret ok hf en dL_law_645
def b_L_law_610 (L : Nat) (xs : Nat → Int32) (r23 : Nat → Nat → Nat → Nat → Int32 → AH → Option (Int32 × AH)) (a0 : Nat) (a1 : Nat) (a2 : Nat) (a3 : Nat) (a4 : Int32) (h : AH) : Option (Int32 × AH) :=
  (sc_i L xs a0 (a4 + (1 : Int32))).bind fun x1 => (f_L_print a1 x1 a3 h).bind fun q2 => (sc_i L xs a0 (a4 + (1 : Int32))).bind fun x3 => (ok_v q2.2 a2 11).bind fun x4 => (f_X11_print a2 x3 q2.2).bind fun q5 => (ok_v q5.2 a2 11).bind fun x6 => (f_X11_thrown a2 q5.2).bind fun q7 => if q7.1 = q2.1 then b_L_law_646 L xs r23 a0 a1 a2 a3 a4 q2.1 q5.1 q7.2 else b_L_law_644 L xs q7.2
set_option maxHeartbeats 4000000 in
set_option maxRecDepth 100000 in
theorem q_L_law_610 {hE : AH} {v : Int32} {L : Nat} {xs : Nat → Int32} {r23 : Nat → Nat → Nat → Nat → Int32 → AH → Option (Int32 × AH)} (hr23 : ∀ (b0 : Nat) (b1 : Nat) (b2 : Nat) (b3 : Nat) (b4 : Int32) (h : AH), r23 b0 b1 b2 b3 b4 h = some (v, hE) → JL L xs cL_law 7 RL "law" (some .boolean) (243) 23 [(0, .inr (.inr (b0))), (1, .inr (.inr (b1))), (2, .inr (.inr (b2))), (3, .inr (.inr (b3))), (4, .inl (b4))] [] h hE (some (.inl (v)))) {a0 : Nat} {a1 : Nat} {a2 : Nat} {a3 : Nat} {a4 : Int32} {h : AH} (hf : b_L_law_610 L xs r23 a0 a1 a2 a3 a4 h = some (v, hE)) : JL L xs cL_law 7 RL "law" (some .boolean) (243) 610 [(0, .inr (.inr (a0))), (1, .inr (.inr (a1))), (2, .inr (.inr (a2))), (3, .inr (.inr (a3))), (4, .inl (a4))] [] h hE (some (.inl (v))) := by
  unfold b_L_law_610 at hf
  obtain ⟨x1, e1, hf⟩ := bnd hf
  obtain ⟨⟨x2, h2⟩, e2, hf⟩ := bnd hf
  try dsimp only at hf
  have k2 := c_L_print e2
  have m2 := (k2 default_g).1
  obtain ⟨x3, e3, hf⟩ := bnd hf
  obtain ⟨x4, e4, hf⟩ := bnd hf
  obtain ⟨⟨x5, h5⟩, e5, hf⟩ := bnd hf
  try dsimp only at hf
  have k5 := c_X11_print e5
  have m5 := (k5 default_g).1
  obtain ⟨x6, e6, hf⟩ := bnd hf
  obtain ⟨⟨x7, h7⟩, e7, hf⟩ := bnd hf
  try dsimp only at hf
  have k7 := c_X11_thrown e7
  have m7 := (k7 default_g).1
  have mE : hp_n h7 ≤ hp_n hE ∧ hp_s h7 ≤ hp_s hE := by
    by_cases hc : x7 = x2
    · rw [if_pos hc] at hf; exact (q_L_law_646 hr23 hf).1
    · rw [if_neg hc] at hf; exact (q_L_law_644 hf).1
  refine ⟨by omega, fun X g K ok nmx lev hK en => ?_⟩
  refine tj_aload_n ok 1 dL_law_610 rfl rfl ?_
  refine tj_aload_n ok 0 dL_law_611 rfl rfl ?_
  refine tj_iload ok 4 dL_law_612 rfl ?_
  refine tj_iconst (v := 1) ok dL_law_614 (by decide) ?_
  refine tj_iadd ok dL_law_615 ?_
  refine tj_sld ok en dL_law_616 e1 ?_
  refine tj_aload_n ok 3 dL_law_617 rfl rfl ?_
  refine tj_callW (rest := ([] : List TV).map (vl g)) (as := [.inr (.inr (a1)), .inl (x1), .inr (.inr (a3))]) ok lev (by omega) (k2 g) (CaX.ofL en (by omega)) kw_L_print wm_1358 wm_1359 (rs_ok (Nat.le_of_ble_eq_true rfl)) rfl rfl dL_law_618 ?_
  refine tj_istore (lv' := [(0, .inr (.inr (a0))), (1, .inr (.inr (a1))), (2, .inr (.inr (a2))), (3, .inr (.inr (a3))), (4, .inl (a4)), (5, .inl (x2))]) ok dL_law_621 (by decide) rfl ?_
  refine tj_aload_n ok 2 dL_law_623 rfl rfl ?_
  refine tj_aload_n ok 0 dL_law_624 rfl rfl ?_
  refine tj_iload ok 4 dL_law_625 rfl ?_
  refine tj_iconst (v := 1) ok dL_law_627 (by decide) ?_
  refine tj_iadd ok dL_law_628 ?_
  refine tj_sld ok en dL_law_629 e3 ?_
  refine tj_callV (rest := ([] : List TV).map (vl g)) (as := [.inl (x3)]) ok lev (by omega) fcX11.1 (by decide) rfl (of_if e4).1 (k5 g) (CaX.ofL en (by omega)) kn_X11_print wm_1360 wm_1361 wm_1362 (rs_ok (Nat.le_of_ble_eq_true rfl)) rfl rfl dL_law_630 ?_
  refine tj_istore (lv' := [(0, .inr (.inr (a0))), (1, .inr (.inr (a1))), (2, .inr (.inr (a2))), (3, .inr (.inr (a3))), (4, .inl (a4)), (5, .inl (x2)), (6, .inl (x5))]) ok dL_law_633 (by decide) rfl ?_
  refine tj_aload_n ok 2 dL_law_635 rfl rfl ?_
  refine tj_callV (rest := ([] : List TV).map (vl g)) (as := []) ok lev (by omega) fcX11.1 (by decide) rfl (of_if e6).1 (k7 g) (CaX.ofL en (by omega)) kn_X11_thrown wm_1329 wm_1330 wm_1331 (rs_ok (Nat.le_of_ble_eq_true rfl)) rfl rfl dL_law_636 ?_
  refine tj_iload ok 5 dL_law_639 rfl ?_
  refine tj_icmp_eq (tgt := 646) ok dL_law_641 (by decide) (fun hc => ?_) (fun hc => ?_)
  · rw [if_pos hc] at hf
    exact (q_L_law_646 hr23 hf).2 X g K ok nmx lev hK en
  · rw [if_neg hc] at hf
    refine tj_sub (lv' := []) [] rfl ?_
    exact (q_L_law_644 hf).2 X g K ok nmx lev hK en
def b_L_law_689 (L : Nat) (xs : Nat → Int32)  (h : AH) : Option (Int32 × AH) :=
  ok_z (0 : Int32) h
set_option maxHeartbeats 4000000 in
set_option maxRecDepth 100000 in
theorem q_L_law_689 {L : Nat} {xs : Nat → Int32} {h hE : AH} {v : Int32} (hf : b_L_law_689 L xs  h = some (v, hE)) : JL L xs cL_law 7 RL "law" (some .boolean) (243) 689 [] [] h hE (some (.inl (v))) := by
  unfold b_L_law_689 at hf
  have mE : hp_n h ≤ hp_n hE ∧ hp_s h ≤ hp_s hE := by obtain ⟨-, q⟩ := of_if hf; cases q; exact ⟨Nat.le_refl _, Nat.le_refl _⟩
  refine ⟨by omega, fun X g K ok nmx lev hK en => ?_⟩
  refine tj_iconst (v := 0) ok dL_law_689 (by decide) ?_
  exact tj_lawret ok hf en dL_law_690
def b_L_law_666 (L : Nat) (xs : Nat → Int32) (r23 : Nat → Nat → Nat → Nat → Int32 → AH → Option (Int32 × AH)) (a0 : Nat) (a1 : Nat) (a2 : Nat) (a3 : Nat) (a4 : Int32) (h : AH) : Option (Int32 × AH) :=
  (sc_i L xs a0 (a4 + (1 : Int32))).bind fun x1 => (ok_v h a1 10).bind fun x2 => (f_X10_out a1 x1 h).bind fun q3 => (sc_i L xs a0 (a4 + (1 : Int32))).bind fun x4 => (ok_v q3.2 a2 11).bind fun x5 => (f_X11_out a2 x4 q3.2).bind fun q6 => if q3.1 = q6.1 then b_L_law_1569 L xs r23 a0 a1 a2 a3 a4 q6.2 else b_L_law_689 L xs q6.2
set_option maxHeartbeats 4000000 in
set_option maxRecDepth 100000 in
theorem q_L_law_666 {hE : AH} {v : Int32} {L : Nat} {xs : Nat → Int32} {r23 : Nat → Nat → Nat → Nat → Int32 → AH → Option (Int32 × AH)} (hr23 : ∀ (b0 : Nat) (b1 : Nat) (b2 : Nat) (b3 : Nat) (b4 : Int32) (h : AH), r23 b0 b1 b2 b3 b4 h = some (v, hE) → JL L xs cL_law 7 RL "law" (some .boolean) (243) 23 [(0, .inr (.inr (b0))), (1, .inr (.inr (b1))), (2, .inr (.inr (b2))), (3, .inr (.inr (b3))), (4, .inl (b4))] [] h hE (some (.inl (v)))) {a0 : Nat} {a1 : Nat} {a2 : Nat} {a3 : Nat} {a4 : Int32} {h : AH} (hf : b_L_law_666 L xs r23 a0 a1 a2 a3 a4 h = some (v, hE)) : JL L xs cL_law 7 RL "law" (some .boolean) (243) 666 [(0, .inr (.inr (a0))), (1, .inr (.inr (a1))), (2, .inr (.inr (a2))), (3, .inr (.inr (a3))), (4, .inl (a4))] [] h hE (some (.inl (v))) := by
  unfold b_L_law_666 at hf
  obtain ⟨x1, e1, hf⟩ := bnd hf
  obtain ⟨x2, e2, hf⟩ := bnd hf
  obtain ⟨⟨x3, h3⟩, e3, hf⟩ := bnd hf
  try dsimp only at hf
  have k3 := c_X10_out e3
  have m3 := (k3 default_g).1
  obtain ⟨x4, e4, hf⟩ := bnd hf
  obtain ⟨x5, e5, hf⟩ := bnd hf
  obtain ⟨⟨x6, h6⟩, e6, hf⟩ := bnd hf
  try dsimp only at hf
  have k6 := c_X11_out e6
  have m6 := (k6 default_g).1
  have mE : hp_n h6 ≤ hp_n hE ∧ hp_s h6 ≤ hp_s hE := by
    by_cases hc : x3 = x6
    · rw [if_pos hc] at hf; exact (q_L_law_1569 hr23 hf).1
    · rw [if_neg hc] at hf; exact (q_L_law_689 hf).1
  refine ⟨by omega, fun X g K ok nmx lev hK en => ?_⟩
  refine tj_aload_n ok 1 dL_law_666 rfl rfl ?_
  refine tj_aload_n ok 0 dL_law_667 rfl rfl ?_
  refine tj_iload ok 4 dL_law_668 rfl ?_
  refine tj_iconst (v := 1) ok dL_law_670 (by decide) ?_
  refine tj_iadd ok dL_law_671 ?_
  refine tj_sld ok en dL_law_672 e1 ?_
  refine tj_callV (rest := ([] : List TV).map (vl g)) (as := [.inl (x1)]) ok lev (by omega) fcX10.1 (by decide) rfl (of_if e2).1 (k3 g) (CaX.ofL en (by omega)) kn_X10_out wm_1363 wm_1364 wm_1365 (rs_ok (Nat.le_of_ble_eq_true rfl)) rfl rfl dL_law_673 ?_
  refine tj_aload_n ok 2 dL_law_676 rfl rfl ?_
  refine tj_aload_n ok 0 dL_law_677 rfl rfl ?_
  refine tj_iload ok 4 dL_law_678 rfl ?_
  refine tj_iconst (v := 1) ok dL_law_680 (by decide) ?_
  refine tj_iadd ok dL_law_681 ?_
  refine tj_sld ok en dL_law_682 e4 ?_
  refine tj_callV (rest := ([.inl (x3)] : List TV).map (vl g)) (as := [.inl (x4)]) ok lev (by omega) fcX11.1 (by decide) rfl (of_if e5).1 (k6 g) (CaX.ofL en (by omega)) kn_X11_out wm_1366 wm_1367 wm_1368 (rs_ok (Nat.le_of_ble_eq_true rfl)) rfl rfl dL_law_683 ?_
  refine tj_icmp_eq (tgt := 1569) ok dL_law_686 (by decide) (fun hc => ?_) (fun hc => ?_)
  · rw [if_pos hc] at hf
    exact (q_L_law_1569 hr23 hf).2 X g K ok nmx lev hK en
  · rw [if_neg hc] at hf
    refine tj_sub (lv' := []) [] rfl ?_
    exact (q_L_law_689 hf).2 X g K ok nmx lev hK en
def b_L_law_702 (L : Nat) (xs : Nat → Int32)  (h : AH) : Option (Int32 × AH) :=
  ok_z (0 : Int32) h
set_option maxHeartbeats 4000000 in
set_option maxRecDepth 100000 in
theorem q_L_law_702 {L : Nat} {xs : Nat → Int32} {h hE : AH} {v : Int32} (hf : b_L_law_702 L xs  h = some (v, hE)) : JL L xs cL_law 7 RL "law" (some .boolean) (243) 702 [] [] h hE (some (.inl (v))) := by
  unfold b_L_law_702 at hf
  have mE : hp_n h ≤ hp_n hE ∧ hp_s h ≤ hp_s hE := by obtain ⟨-, q⟩ := of_if hf; cases q; exact ⟨Nat.le_refl _, Nat.le_refl _⟩
  refine ⟨by omega, fun X g K ok nmx lev hK en => ?_⟩
  refine tj_iconst (v := 0) ok dL_law_702 (by decide) ?_
  exact tj_lawret ok hf en dL_law_703
def b_L_law_691 (L : Nat) (xs : Nat → Int32) (r23 : Nat → Nat → Nat → Nat → Int32 → AH → Option (Int32 × AH)) (a0 : Nat) (a1 : Nat) (a2 : Nat) (a3 : Nat) (a4 : Int32) (h : AH) : Option (Int32 × AH) :=
  (ok_v h a1 10).bind fun x1 => (f_X10_take a1 h).bind fun q2 => (ok_v q2.2 a2 11).bind fun x3 => (f_X11_take a2 q2.2).bind fun q4 => if q2.1 = q4.1 then b_L_law_1569 L xs r23 a0 a1 a2 a3 a4 q4.2 else b_L_law_702 L xs q4.2
set_option maxHeartbeats 4000000 in
set_option maxRecDepth 100000 in
theorem q_L_law_691 {hE : AH} {v : Int32} {L : Nat} {xs : Nat → Int32} {r23 : Nat → Nat → Nat → Nat → Int32 → AH → Option (Int32 × AH)} (hr23 : ∀ (b0 : Nat) (b1 : Nat) (b2 : Nat) (b3 : Nat) (b4 : Int32) (h : AH), r23 b0 b1 b2 b3 b4 h = some (v, hE) → JL L xs cL_law 7 RL "law" (some .boolean) (243) 23 [(0, .inr (.inr (b0))), (1, .inr (.inr (b1))), (2, .inr (.inr (b2))), (3, .inr (.inr (b3))), (4, .inl (b4))] [] h hE (some (.inl (v)))) {a0 : Nat} {a1 : Nat} {a2 : Nat} {a3 : Nat} {a4 : Int32} {h : AH} (hf : b_L_law_691 L xs r23 a0 a1 a2 a3 a4 h = some (v, hE)) : JL L xs cL_law 7 RL "law" (some .boolean) (243) 691 [(0, .inr (.inr (a0))), (1, .inr (.inr (a1))), (2, .inr (.inr (a2))), (3, .inr (.inr (a3))), (4, .inl (a4))] [] h hE (some (.inl (v))) := by
  unfold b_L_law_691 at hf
  obtain ⟨x1, e1, hf⟩ := bnd hf
  obtain ⟨⟨x2, h2⟩, e2, hf⟩ := bnd hf
  try dsimp only at hf
  have k2 := c_X10_take e2
  have m2 := (k2 default_g).1
  obtain ⟨x3, e3, hf⟩ := bnd hf
  obtain ⟨⟨x4, h4⟩, e4, hf⟩ := bnd hf
  try dsimp only at hf
  have k4 := c_X11_take e4
  have m4 := (k4 default_g).1
  have mE : hp_n h4 ≤ hp_n hE ∧ hp_s h4 ≤ hp_s hE := by
    by_cases hc : x2 = x4
    · rw [if_pos hc] at hf; exact (q_L_law_1569 hr23 hf).1
    · rw [if_neg hc] at hf; exact (q_L_law_702 hf).1
  refine ⟨by omega, fun X g K ok nmx lev hK en => ?_⟩
  refine tj_aload_n ok 1 dL_law_691 rfl rfl ?_
  refine tj_callV (rest := ([] : List TV).map (vl g)) (as := []) ok lev (by omega) fcX10.1 (by decide) rfl (of_if e1).1 (k2 g) (CaX.ofL en (by omega)) kn_X10_take wm_1369 wm_1370 wm_1371 (rs_ok (Nat.le_of_ble_eq_true rfl)) rfl rfl dL_law_692 ?_
  refine tj_aload_n ok 2 dL_law_695 rfl rfl ?_
  refine tj_callV (rest := ([.inl (x2)] : List TV).map (vl g)) (as := []) ok lev (by omega) fcX11.1 (by decide) rfl (of_if e3).1 (k4 g) (CaX.ofL en (by omega)) kn_X11_take wm_1372 wm_1373 wm_1374 (rs_ok (Nat.le_of_ble_eq_true rfl)) rfl rfl dL_law_696 ?_
  refine tj_icmp_eq (tgt := 1569) ok dL_law_699 (by decide) (fun hc => ?_) (fun hc => ?_)
  · rw [if_pos hc] at hf
    exact (q_L_law_1569 hr23 hf).2 X g K ok nmx lev hK en
  · rw [if_neg hc] at hf
    refine tj_sub (lv' := []) [] rfl ?_
    exact (q_L_law_702 hf).2 X g K ok nmx lev hK en
def b_L_law_769 (L : Nat) (xs : Nat → Int32) (r23 : Nat → Nat → Nat → Nat → Int32 → AH → Option (Int32 × AH)) (a0 : Nat) (a1 : Nat) (a2 : Nat) (a3 : Nat) (a4 : Int32) (h : AH) : Option (Int32 × AH) :=
  b_L_law_1569 L xs r23 a0 a1 a2 a3 a4 h
set_option maxHeartbeats 4000000 in
set_option maxRecDepth 100000 in
theorem q_L_law_769 {hE : AH} {v : Int32} {L : Nat} {xs : Nat → Int32} {r23 : Nat → Nat → Nat → Nat → Int32 → AH → Option (Int32 × AH)} (hr23 : ∀ (b0 : Nat) (b1 : Nat) (b2 : Nat) (b3 : Nat) (b4 : Int32) (h : AH), r23 b0 b1 b2 b3 b4 h = some (v, hE) → JL L xs cL_law 7 RL "law" (some .boolean) (243) 23 [(0, .inr (.inr (b0))), (1, .inr (.inr (b1))), (2, .inr (.inr (b2))), (3, .inr (.inr (b3))), (4, .inl (b4))] [] h hE (some (.inl (v)))) {a0 : Nat} {a1 : Nat} {a2 : Nat} {a3 : Nat} {a4 : Int32} {h : AH} (hf : b_L_law_769 L xs r23 a0 a1 a2 a3 a4 h = some (v, hE)) : JL L xs cL_law 7 RL "law" (some .boolean) (243) 769 [(0, .inr (.inr (a0))), (1, .inr (.inr (a1))), (2, .inr (.inr (a2))), (3, .inr (.inr (a3))), (4, .inl (a4))] [] h hE (some (.inl (v))) := by
  unfold b_L_law_769 at hf
  have J := q_L_law_1569 hr23 hf
  have mE := J.1
  refine ⟨by omega, fun X g K ok nmx lev hK en => ?_⟩
  refine tj_goto (tgt := 1569) ok dL_law_769 (by decide) ?_
  exact J.2 X g K ok nmx lev hK en
def b_L_law_767 (L : Nat) (xs : Nat → Int32)  (h : AH) : Option (Int32 × AH) :=
  ok_z (0 : Int32) h
set_option maxHeartbeats 4000000 in
set_option maxRecDepth 100000 in
theorem q_L_law_767 {L : Nat} {xs : Nat → Int32} {h hE : AH} {v : Int32} (hf : b_L_law_767 L xs  h = some (v, hE)) : JL L xs cL_law 7 RL "law" (some .boolean) (243) 767 [] [] h hE (some (.inl (v))) := by
  unfold b_L_law_767 at hf
  have mE : hp_n h ≤ hp_n hE ∧ hp_s h ≤ hp_s hE := by obtain ⟨-, q⟩ := of_if hf; cases q; exact ⟨Nat.le_refl _, Nat.le_refl _⟩
  refine ⟨by omega, fun X g K ok nmx lev hK en => ?_⟩
  refine tj_iconst (v := 0) ok dL_law_767 (by decide) ?_
  exact tj_lawret ok hf en dL_law_768
def b_L_law_757 (L : Nat) (xs : Nat → Int32) (r23 : Nat → Nat → Nat → Nat → Int32 → AH → Option (Int32 × AH)) (a0 : Nat) (a1 : Nat) (a2 : Nat) (a3 : Nat) (a4 : Int32) (a6 : Int32) (h : AH) : Option (Int32 × AH) :=
  (l_j h a3 (0 : Int32)).bind fun x1 => if (lg_cmp x1 a6.toInt64) = 0 then b_L_law_769 L xs r23 a0 a1 a2 a3 a4 h else b_L_law_767 L xs h
set_option maxHeartbeats 4000000 in
set_option maxRecDepth 100000 in
theorem q_L_law_757 {hE : AH} {v : Int32} {L : Nat} {xs : Nat → Int32} {r23 : Nat → Nat → Nat → Nat → Int32 → AH → Option (Int32 × AH)} (hr23 : ∀ (b0 : Nat) (b1 : Nat) (b2 : Nat) (b3 : Nat) (b4 : Int32) (h : AH), r23 b0 b1 b2 b3 b4 h = some (v, hE) → JL L xs cL_law 7 RL "law" (some .boolean) (243) 23 [(0, .inr (.inr (b0))), (1, .inr (.inr (b1))), (2, .inr (.inr (b2))), (3, .inr (.inr (b3))), (4, .inl (b4))] [] h hE (some (.inl (v)))) {a0 : Nat} {a1 : Nat} {a2 : Nat} {a3 : Nat} {a4 : Int32} {a6 : Int32} {h : AH} (hf : b_L_law_757 L xs r23 a0 a1 a2 a3 a4 a6 h = some (v, hE)) : JL L xs cL_law 7 RL "law" (some .boolean) (243) 757 [(0, .inr (.inr (a0))), (1, .inr (.inr (a1))), (2, .inr (.inr (a2))), (3, .inr (.inr (a3))), (4, .inl (a4)), (6, .inl (a6))] [] h hE (some (.inl (v))) := by
  unfold b_L_law_757 at hf
  obtain ⟨x1, e1, hf⟩ := bnd hf
  have mE : hp_n h ≤ hp_n hE ∧ hp_s h ≤ hp_s hE := by
    by_cases hc : (lg_cmp x1 a6.toInt64) = 0
    · rw [if_pos hc] at hf; exact (q_L_law_769 hr23 hf).1
    · rw [if_neg hc] at hf; exact (q_L_law_767 hf).1
  refine ⟨by omega, fun X g K ok nmx lev hK en => ?_⟩
  refine tj_aload_n ok 3 dL_law_757 rfl rfl ?_
  refine tj_iconst (v := 0) ok dL_law_758 (by decide) ?_
  refine tj_laload ok dL_law_759 e1 ?_
  refine tj_iload ok 5 dL_law_760 rfl ?_
  refine tj_i2l ok dL_law_762 ?_
  refine tj_lcmp ok dL_law_763 ?_
  refine tj_if_eq (tgt := 769) ok dL_law_764 (by decide) (fun hc => ?_) (fun hc => ?_)
  · rw [if_pos hc] at hf
    refine tj_sub (lv' := [(0, .inr (.inr (a0))), (1, .inr (.inr (a1))), (2, .inr (.inr (a2))), (3, .inr (.inr (a3))), (4, .inl (a4))]) [0, 1, 2, 3, 4] rfl ?_
    exact (q_L_law_769 hr23 hf).2 X g K ok nmx lev hK en
  · rw [if_neg hc] at hf
    refine tj_sub (lv' := []) [] rfl ?_
    exact (q_L_law_767 hf).2 X g K ok nmx lev hK en
def b_L_law_752 (L : Nat) (xs : Nat → Int32) (r23 : Nat → Nat → Nat → Nat → Int32 → AH → Option (Int32 × AH)) (a0 : Nat) (a1 : Nat) (a2 : Nat) (a3 : Nat) (a4 : Int32) (a5 : Int32) (a6 : Int32) (h : AH) : Option (Int32 × AH) :=
  if a5 = 0 then b_L_law_757 L xs r23 a0 a1 a2 a3 a4 a6 h else b_L_law_769 L xs r23 a0 a1 a2 a3 a4 h
set_option maxHeartbeats 4000000 in
set_option maxRecDepth 100000 in
theorem q_L_law_752 {hE : AH} {v : Int32} {L : Nat} {xs : Nat → Int32} {r23 : Nat → Nat → Nat → Nat → Int32 → AH → Option (Int32 × AH)} (hr23 : ∀ (b0 : Nat) (b1 : Nat) (b2 : Nat) (b3 : Nat) (b4 : Int32) (h : AH), r23 b0 b1 b2 b3 b4 h = some (v, hE) → JL L xs cL_law 7 RL "law" (some .boolean) (243) 23 [(0, .inr (.inr (b0))), (1, .inr (.inr (b1))), (2, .inr (.inr (b2))), (3, .inr (.inr (b3))), (4, .inl (b4))] [] h hE (some (.inl (v)))) {a0 : Nat} {a1 : Nat} {a2 : Nat} {a3 : Nat} {a4 : Int32} {a5 : Int32} {a6 : Int32} {h : AH} (hf : b_L_law_752 L xs r23 a0 a1 a2 a3 a4 a5 a6 h = some (v, hE)) : JL L xs cL_law 7 RL "law" (some .boolean) (243) 752 [(0, .inr (.inr (a0))), (1, .inr (.inr (a1))), (2, .inr (.inr (a2))), (3, .inr (.inr (a3))), (4, .inl (a4)), (5, .inl (a5)), (6, .inl (a6))] [] h hE (some (.inl (v))) := by
  unfold b_L_law_752 at hf
  have mE : hp_n h ≤ hp_n hE ∧ hp_s h ≤ hp_s hE := by
    by_cases hc : a5 = 0
    · rw [if_pos hc] at hf; exact (q_L_law_757 hr23 hf).1
    · rw [if_neg hc] at hf; exact (q_L_law_769 hr23 hf).1
  refine ⟨by omega, fun X g K ok nmx lev hK en => ?_⟩
  refine tj_iload ok 5 dL_law_752 rfl ?_
  refine tj_if_ne (tgt := 769) ok dL_law_754 (by decide) (fun hc => ?_) (fun hc => ?_)
  · rw [if_neg hc] at hf
    refine tj_sub (lv' := [(0, .inr (.inr (a0))), (1, .inr (.inr (a1))), (2, .inr (.inr (a2))), (3, .inr (.inr (a3))), (4, .inl (a4))]) [0, 1, 2, 3, 4] rfl ?_
    exact (q_L_law_769 hr23 hf).2 X g K ok nmx lev hK en
  · rw [if_pos hc] at hf
    refine tj_sub (lv' := [(0, .inr (.inr (a0))), (1, .inr (.inr (a1))), (2, .inr (.inr (a2))), (3, .inr (.inr (a3))), (4, .inl (a4)), (6, .inl (a6))]) [0, 1, 2, 3, 4, 6] rfl ?_
    exact (q_L_law_757 hr23 hf).2 X g K ok nmx lev hK en
def b_L_law_750 (L : Nat) (xs : Nat → Int32)  (h : AH) : Option (Int32 × AH) :=
  ok_z (0 : Int32) h
set_option maxHeartbeats 4000000 in
set_option maxRecDepth 100000 in
theorem q_L_law_750 {L : Nat} {xs : Nat → Int32} {h hE : AH} {v : Int32} (hf : b_L_law_750 L xs  h = some (v, hE)) : JL L xs cL_law 7 RL "law" (some .boolean) (243) 750 [] [] h hE (some (.inl (v))) := by
  unfold b_L_law_750 at hf
  have mE : hp_n h ≤ hp_n hE ∧ hp_s h ≤ hp_s hE := by obtain ⟨-, q⟩ := of_if hf; cases q; exact ⟨Nat.le_refl _, Nat.le_refl _⟩
  refine ⟨by omega, fun X g K ok nmx lev hK en => ?_⟩
  refine tj_iconst (v := 0) ok dL_law_750 (by decide) ?_
  exact tj_lawret ok hf en dL_law_751
def b_L_law_704 (L : Nat) (xs : Nat → Int32) (r23 : Nat → Nat → Nat → Nat → Int32 → AH → Option (Int32 × AH)) (a0 : Nat) (a1 : Nat) (a2 : Nat) (a3 : Nat) (a4 : Int32) (h : AH) : Option (Int32 × AH) :=
  (sc_i L xs a0 (a4 + (1 : Int32))).bind fun x1 => (sc_i L xs a0 (a4 + (2 : Int32))).bind fun x2 => (f_L_outcomes a1 x1 x2 a3 h).bind fun q3 => (sc_i L xs a0 (a4 + (1 : Int32))).bind fun x4 => (sc_i L xs a0 (a4 + (2 : Int32))).bind fun x5 => (ok_v q3.2 a2 11).bind fun x6 => (f_X11_outcomes a2 x4 x5 q3.2).bind fun q7 => (ok_v q7.2 a2 11).bind fun x8 => (f_X11_thrown a2 q7.2).bind fun q9 => if q9.1 = q3.1 then b_L_law_752 L xs r23 a0 a1 a2 a3 a4 q3.1 q7.1 q9.2 else b_L_law_750 L xs q9.2
set_option maxHeartbeats 4000000 in
set_option maxRecDepth 100000 in
theorem q_L_law_704 {hE : AH} {v : Int32} {L : Nat} {xs : Nat → Int32} {r23 : Nat → Nat → Nat → Nat → Int32 → AH → Option (Int32 × AH)} (hr23 : ∀ (b0 : Nat) (b1 : Nat) (b2 : Nat) (b3 : Nat) (b4 : Int32) (h : AH), r23 b0 b1 b2 b3 b4 h = some (v, hE) → JL L xs cL_law 7 RL "law" (some .boolean) (243) 23 [(0, .inr (.inr (b0))), (1, .inr (.inr (b1))), (2, .inr (.inr (b2))), (3, .inr (.inr (b3))), (4, .inl (b4))] [] h hE (some (.inl (v)))) {a0 : Nat} {a1 : Nat} {a2 : Nat} {a3 : Nat} {a4 : Int32} {h : AH} (hf : b_L_law_704 L xs r23 a0 a1 a2 a3 a4 h = some (v, hE)) : JL L xs cL_law 7 RL "law" (some .boolean) (243) 704 [(0, .inr (.inr (a0))), (1, .inr (.inr (a1))), (2, .inr (.inr (a2))), (3, .inr (.inr (a3))), (4, .inl (a4))] [] h hE (some (.inl (v))) := by
  unfold b_L_law_704 at hf
  obtain ⟨x1, e1, hf⟩ := bnd hf
  obtain ⟨x2, e2, hf⟩ := bnd hf
  obtain ⟨⟨x3, h3⟩, e3, hf⟩ := bnd hf
  try dsimp only at hf
  have k3 := c_L_outcomes e3
  have m3 := (k3 default_g).1
  obtain ⟨x4, e4, hf⟩ := bnd hf
  obtain ⟨x5, e5, hf⟩ := bnd hf
  obtain ⟨x6, e6, hf⟩ := bnd hf
  obtain ⟨⟨x7, h7⟩, e7, hf⟩ := bnd hf
  try dsimp only at hf
  have k7 := c_X11_outcomes e7
  have m7 := (k7 default_g).1
  obtain ⟨x8, e8, hf⟩ := bnd hf
  obtain ⟨⟨x9, h9⟩, e9, hf⟩ := bnd hf
  try dsimp only at hf
  have k9 := c_X11_thrown e9
  have m9 := (k9 default_g).1
  have mE : hp_n h9 ≤ hp_n hE ∧ hp_s h9 ≤ hp_s hE := by
    by_cases hc : x9 = x3
    · rw [if_pos hc] at hf; exact (q_L_law_752 hr23 hf).1
    · rw [if_neg hc] at hf; exact (q_L_law_750 hf).1
  refine ⟨by omega, fun X g K ok nmx lev hK en => ?_⟩
  refine tj_aload_n ok 1 dL_law_704 rfl rfl ?_
  refine tj_aload_n ok 0 dL_law_705 rfl rfl ?_
  refine tj_iload ok 4 dL_law_706 rfl ?_
  refine tj_iconst (v := 1) ok dL_law_708 (by decide) ?_
  refine tj_iadd ok dL_law_709 ?_
  refine tj_sld ok en dL_law_710 e1 ?_
  refine tj_aload_n ok 0 dL_law_711 rfl rfl ?_
  refine tj_iload ok 4 dL_law_712 rfl ?_
  refine tj_iconst (v := 2) ok dL_law_714 (by decide) ?_
  refine tj_iadd ok dL_law_715 ?_
  refine tj_sld ok en dL_law_716 e2 ?_
  refine tj_aload_n ok 3 dL_law_717 rfl rfl ?_
  refine tj_callW (rest := ([] : List TV).map (vl g)) (as := [.inr (.inr (a1)), .inl (x1), .inl (x2), .inr (.inr (a3))]) ok lev (by omega) (k3 g) (CaX.ofL en (by omega)) kw_L_outcomes wm_1375 wm_1376 (rs_ok (Nat.le_of_ble_eq_true rfl)) rfl rfl dL_law_718 ?_
  refine tj_istore (lv' := [(0, .inr (.inr (a0))), (1, .inr (.inr (a1))), (2, .inr (.inr (a2))), (3, .inr (.inr (a3))), (4, .inl (a4)), (5, .inl (x3))]) ok dL_law_721 (by decide) rfl ?_
  refine tj_aload_n ok 2 dL_law_723 rfl rfl ?_
  refine tj_aload_n ok 0 dL_law_724 rfl rfl ?_
  refine tj_iload ok 4 dL_law_725 rfl ?_
  refine tj_iconst (v := 1) ok dL_law_727 (by decide) ?_
  refine tj_iadd ok dL_law_728 ?_
  refine tj_sld ok en dL_law_729 e4 ?_
  refine tj_aload_n ok 0 dL_law_730 rfl rfl ?_
  refine tj_iload ok 4 dL_law_731 rfl ?_
  refine tj_iconst (v := 2) ok dL_law_733 (by decide) ?_
  refine tj_iadd ok dL_law_734 ?_
  refine tj_sld ok en dL_law_735 e5 ?_
  refine tj_callV (rest := ([] : List TV).map (vl g)) (as := [.inl (x4), .inl (x5)]) ok lev (by omega) fcX11.1 (by decide) rfl (of_if e6).1 (k7 g) (CaX.ofL en (by omega)) kn_X11_outcomes wm_1377 wm_1378 wm_1379 (rs_ok (Nat.le_of_ble_eq_true rfl)) rfl rfl dL_law_736 ?_
  refine tj_istore (lv' := [(0, .inr (.inr (a0))), (1, .inr (.inr (a1))), (2, .inr (.inr (a2))), (3, .inr (.inr (a3))), (4, .inl (a4)), (5, .inl (x3)), (6, .inl (x7))]) ok dL_law_739 (by decide) rfl ?_
  refine tj_aload_n ok 2 dL_law_741 rfl rfl ?_
  refine tj_callV (rest := ([] : List TV).map (vl g)) (as := []) ok lev (by omega) fcX11.1 (by decide) rfl (of_if e8).1 (k9 g) (CaX.ofL en (by omega)) kn_X11_thrown wm_1329 wm_1330 wm_1331 (rs_ok (Nat.le_of_ble_eq_true rfl)) rfl rfl dL_law_742 ?_
  refine tj_iload ok 5 dL_law_745 rfl ?_
  refine tj_icmp_eq (tgt := 752) ok dL_law_747 (by decide) (fun hc => ?_) (fun hc => ?_)
  · rw [if_pos hc] at hf
    exact (q_L_law_752 hr23 hf).2 X g K ok nmx lev hK en
  · rw [if_neg hc] at hf
    refine tj_sub (lv' := []) [] rfl ?_
    exact (q_L_law_750 hf).2 X g K ok nmx lev hK en
def b_L_law_861 (L : Nat) (xs : Nat → Int32) (r23 : Nat → Nat → Nat → Nat → Int32 → AH → Option (Int32 × AH)) (a0 : Nat) (a1 : Nat) (a2 : Nat) (a3 : Nat) (a4 : Int32) (h : AH) : Option (Int32 × AH) :=
  b_L_law_1569 L xs r23 a0 a1 a2 a3 a4 h
set_option maxHeartbeats 4000000 in
set_option maxRecDepth 100000 in
theorem q_L_law_861 {hE : AH} {v : Int32} {L : Nat} {xs : Nat → Int32} {r23 : Nat → Nat → Nat → Nat → Int32 → AH → Option (Int32 × AH)} (hr23 : ∀ (b0 : Nat) (b1 : Nat) (b2 : Nat) (b3 : Nat) (b4 : Int32) (h : AH), r23 b0 b1 b2 b3 b4 h = some (v, hE) → JL L xs cL_law 7 RL "law" (some .boolean) (243) 23 [(0, .inr (.inr (b0))), (1, .inr (.inr (b1))), (2, .inr (.inr (b2))), (3, .inr (.inr (b3))), (4, .inl (b4))] [] h hE (some (.inl (v)))) {a0 : Nat} {a1 : Nat} {a2 : Nat} {a3 : Nat} {a4 : Int32} {h : AH} (hf : b_L_law_861 L xs r23 a0 a1 a2 a3 a4 h = some (v, hE)) : JL L xs cL_law 7 RL "law" (some .boolean) (243) 861 [(0, .inr (.inr (a0))), (1, .inr (.inr (a1))), (2, .inr (.inr (a2))), (3, .inr (.inr (a3))), (4, .inl (a4))] [] h hE (some (.inl (v))) := by
  unfold b_L_law_861 at hf
  have J := q_L_law_1569 hr23 hf
  have mE := J.1
  refine ⟨by omega, fun X g K ok nmx lev hK en => ?_⟩
  refine tj_goto (tgt := 1569) ok dL_law_861 (by decide) ?_
  exact J.2 X g K ok nmx lev hK en
def b_L_law_859 (L : Nat) (xs : Nat → Int32)  (h : AH) : Option (Int32 × AH) :=
  ok_z (0 : Int32) h
set_option maxHeartbeats 4000000 in
set_option maxRecDepth 100000 in
theorem q_L_law_859 {L : Nat} {xs : Nat → Int32} {h hE : AH} {v : Int32} (hf : b_L_law_859 L xs  h = some (v, hE)) : JL L xs cL_law 7 RL "law" (some .boolean) (243) 859 [] [] h hE (some (.inl (v))) := by
  unfold b_L_law_859 at hf
  have mE : hp_n h ≤ hp_n hE ∧ hp_s h ≤ hp_s hE := by obtain ⟨-, q⟩ := of_if hf; cases q; exact ⟨Nat.le_refl _, Nat.le_refl _⟩
  refine ⟨by omega, fun X g K ok nmx lev hK en => ?_⟩
  refine tj_iconst (v := 0) ok dL_law_859 (by decide) ?_
  exact tj_lawret ok hf en dL_law_860
def b_L_law_849 (L : Nat) (xs : Nat → Int32) (r23 : Nat → Nat → Nat → Nat → Int32 → AH → Option (Int32 × AH)) (a0 : Nat) (a1 : Nat) (a2 : Nat) (a3 : Nat) (a4 : Int32) (a6 : Int32) (h : AH) : Option (Int32 × AH) :=
  (l_j h a3 (0 : Int32)).bind fun x1 => if (lg_cmp x1 a6.toInt64) = 0 then b_L_law_861 L xs r23 a0 a1 a2 a3 a4 h else b_L_law_859 L xs h
set_option maxHeartbeats 4000000 in
set_option maxRecDepth 100000 in
theorem q_L_law_849 {hE : AH} {v : Int32} {L : Nat} {xs : Nat → Int32} {r23 : Nat → Nat → Nat → Nat → Int32 → AH → Option (Int32 × AH)} (hr23 : ∀ (b0 : Nat) (b1 : Nat) (b2 : Nat) (b3 : Nat) (b4 : Int32) (h : AH), r23 b0 b1 b2 b3 b4 h = some (v, hE) → JL L xs cL_law 7 RL "law" (some .boolean) (243) 23 [(0, .inr (.inr (b0))), (1, .inr (.inr (b1))), (2, .inr (.inr (b2))), (3, .inr (.inr (b3))), (4, .inl (b4))] [] h hE (some (.inl (v)))) {a0 : Nat} {a1 : Nat} {a2 : Nat} {a3 : Nat} {a4 : Int32} {a6 : Int32} {h : AH} (hf : b_L_law_849 L xs r23 a0 a1 a2 a3 a4 a6 h = some (v, hE)) : JL L xs cL_law 7 RL "law" (some .boolean) (243) 849 [(0, .inr (.inr (a0))), (1, .inr (.inr (a1))), (2, .inr (.inr (a2))), (3, .inr (.inr (a3))), (4, .inl (a4)), (6, .inl (a6))] [] h hE (some (.inl (v))) := by
  unfold b_L_law_849 at hf
  obtain ⟨x1, e1, hf⟩ := bnd hf
  have mE : hp_n h ≤ hp_n hE ∧ hp_s h ≤ hp_s hE := by
    by_cases hc : (lg_cmp x1 a6.toInt64) = 0
    · rw [if_pos hc] at hf; exact (q_L_law_861 hr23 hf).1
    · rw [if_neg hc] at hf; exact (q_L_law_859 hf).1
  refine ⟨by omega, fun X g K ok nmx lev hK en => ?_⟩
  refine tj_aload_n ok 3 dL_law_849 rfl rfl ?_
  refine tj_iconst (v := 0) ok dL_law_850 (by decide) ?_
  refine tj_laload ok dL_law_851 e1 ?_
  refine tj_iload ok 5 dL_law_852 rfl ?_
  refine tj_i2l ok dL_law_854 ?_
  refine tj_lcmp ok dL_law_855 ?_
  refine tj_if_eq (tgt := 861) ok dL_law_856 (by decide) (fun hc => ?_) (fun hc => ?_)
  · rw [if_pos hc] at hf
    refine tj_sub (lv' := [(0, .inr (.inr (a0))), (1, .inr (.inr (a1))), (2, .inr (.inr (a2))), (3, .inr (.inr (a3))), (4, .inl (a4))]) [0, 1, 2, 3, 4] rfl ?_
    exact (q_L_law_861 hr23 hf).2 X g K ok nmx lev hK en
  · rw [if_neg hc] at hf
    refine tj_sub (lv' := []) [] rfl ?_
    exact (q_L_law_859 hf).2 X g K ok nmx lev hK en
def b_L_law_844 (L : Nat) (xs : Nat → Int32) (r23 : Nat → Nat → Nat → Nat → Int32 → AH → Option (Int32 × AH)) (a0 : Nat) (a1 : Nat) (a2 : Nat) (a3 : Nat) (a4 : Int32) (a5 : Int32) (a6 : Int32) (h : AH) : Option (Int32 × AH) :=
  if a5 = 0 then b_L_law_849 L xs r23 a0 a1 a2 a3 a4 a6 h else b_L_law_861 L xs r23 a0 a1 a2 a3 a4 h
set_option maxHeartbeats 4000000 in
set_option maxRecDepth 100000 in
theorem q_L_law_844 {hE : AH} {v : Int32} {L : Nat} {xs : Nat → Int32} {r23 : Nat → Nat → Nat → Nat → Int32 → AH → Option (Int32 × AH)} (hr23 : ∀ (b0 : Nat) (b1 : Nat) (b2 : Nat) (b3 : Nat) (b4 : Int32) (h : AH), r23 b0 b1 b2 b3 b4 h = some (v, hE) → JL L xs cL_law 7 RL "law" (some .boolean) (243) 23 [(0, .inr (.inr (b0))), (1, .inr (.inr (b1))), (2, .inr (.inr (b2))), (3, .inr (.inr (b3))), (4, .inl (b4))] [] h hE (some (.inl (v)))) {a0 : Nat} {a1 : Nat} {a2 : Nat} {a3 : Nat} {a4 : Int32} {a5 : Int32} {a6 : Int32} {h : AH} (hf : b_L_law_844 L xs r23 a0 a1 a2 a3 a4 a5 a6 h = some (v, hE)) : JL L xs cL_law 7 RL "law" (some .boolean) (243) 844 [(0, .inr (.inr (a0))), (1, .inr (.inr (a1))), (2, .inr (.inr (a2))), (3, .inr (.inr (a3))), (4, .inl (a4)), (5, .inl (a5)), (6, .inl (a6))] [] h hE (some (.inl (v))) := by
  unfold b_L_law_844 at hf
  have mE : hp_n h ≤ hp_n hE ∧ hp_s h ≤ hp_s hE := by
    by_cases hc : a5 = 0
    · rw [if_pos hc] at hf; exact (q_L_law_849 hr23 hf).1
    · rw [if_neg hc] at hf; exact (q_L_law_861 hr23 hf).1
  refine ⟨by omega, fun X g K ok nmx lev hK en => ?_⟩
  refine tj_iload ok 5 dL_law_844 rfl ?_
  refine tj_if_ne (tgt := 861) ok dL_law_846 (by decide) (fun hc => ?_) (fun hc => ?_)
  · rw [if_neg hc] at hf
    refine tj_sub (lv' := [(0, .inr (.inr (a0))), (1, .inr (.inr (a1))), (2, .inr (.inr (a2))), (3, .inr (.inr (a3))), (4, .inl (a4))]) [0, 1, 2, 3, 4] rfl ?_
    exact (q_L_law_861 hr23 hf).2 X g K ok nmx lev hK en
  · rw [if_pos hc] at hf
    refine tj_sub (lv' := [(0, .inr (.inr (a0))), (1, .inr (.inr (a1))), (2, .inr (.inr (a2))), (3, .inr (.inr (a3))), (4, .inl (a4)), (6, .inl (a6))]) [0, 1, 2, 3, 4, 6] rfl ?_
    exact (q_L_law_849 hr23 hf).2 X g K ok nmx lev hK en
def b_L_law_842 (L : Nat) (xs : Nat → Int32)  (h : AH) : Option (Int32 × AH) :=
  ok_z (0 : Int32) h
set_option maxHeartbeats 4000000 in
set_option maxRecDepth 100000 in
theorem q_L_law_842 {L : Nat} {xs : Nat → Int32} {h hE : AH} {v : Int32} (hf : b_L_law_842 L xs  h = some (v, hE)) : JL L xs cL_law 7 RL "law" (some .boolean) (243) 842 [] [] h hE (some (.inl (v))) := by
  unfold b_L_law_842 at hf
  have mE : hp_n h ≤ hp_n hE ∧ hp_s h ≤ hp_s hE := by obtain ⟨-, q⟩ := of_if hf; cases q; exact ⟨Nat.le_refl _, Nat.le_refl _⟩
  refine ⟨by omega, fun X g K ok nmx lev hK en => ?_⟩
  refine tj_iconst (v := 0) ok dL_law_842 (by decide) ?_
  exact tj_lawret ok hf en dL_law_843
def b_L_law_772 (L : Nat) (xs : Nat → Int32) (r23 : Nat → Nat → Nat → Nat → Int32 → AH → Option (Int32 × AH)) (a0 : Nat) (a1 : Nat) (a2 : Nat) (a3 : Nat) (a4 : Int32) (h : AH) : Option (Int32 × AH) :=
  (sc_i L xs a0 (a4 + (1 : Int32))).bind fun x1 => (sc_i L xs a0 (a4 + (2 : Int32))).bind fun x2 => (sc_i L xs a0 (a4 + (3 : Int32))).bind fun x3 => (sc_i L xs a0 (a4 + (4 : Int32))).bind fun x4 => (f_L_value a1 x1 x2 x3 x4 a3 h).bind fun q5 => (sc_i L xs a0 (a4 + (1 : Int32))).bind fun x6 => (sc_i L xs a0 (a4 + (2 : Int32))).bind fun x7 => (sc_i L xs a0 (a4 + (3 : Int32))).bind fun x8 => (sc_i L xs a0 (a4 + (4 : Int32))).bind fun x9 => (ok_v q5.2 a2 11).bind fun x10 => (f_X11_value a2 x6 x7 x8 x9 q5.2).bind fun q11 => (ok_v q11.2 a2 11).bind fun x12 => (f_X11_thrown a2 q11.2).bind fun q13 => if q13.1 = q5.1 then b_L_law_844 L xs r23 a0 a1 a2 a3 a4 q5.1 q11.1 q13.2 else b_L_law_842 L xs q13.2
set_option maxHeartbeats 4000000 in
set_option maxRecDepth 100000 in
theorem q_L_law_772 {hE : AH} {v : Int32} {L : Nat} {xs : Nat → Int32} {r23 : Nat → Nat → Nat → Nat → Int32 → AH → Option (Int32 × AH)} (hr23 : ∀ (b0 : Nat) (b1 : Nat) (b2 : Nat) (b3 : Nat) (b4 : Int32) (h : AH), r23 b0 b1 b2 b3 b4 h = some (v, hE) → JL L xs cL_law 7 RL "law" (some .boolean) (243) 23 [(0, .inr (.inr (b0))), (1, .inr (.inr (b1))), (2, .inr (.inr (b2))), (3, .inr (.inr (b3))), (4, .inl (b4))] [] h hE (some (.inl (v)))) {a0 : Nat} {a1 : Nat} {a2 : Nat} {a3 : Nat} {a4 : Int32} {h : AH} (hf : b_L_law_772 L xs r23 a0 a1 a2 a3 a4 h = some (v, hE)) : JL L xs cL_law 7 RL "law" (some .boolean) (243) 772 [(0, .inr (.inr (a0))), (1, .inr (.inr (a1))), (2, .inr (.inr (a2))), (3, .inr (.inr (a3))), (4, .inl (a4))] [] h hE (some (.inl (v))) := by
  unfold b_L_law_772 at hf
  obtain ⟨x1, e1, hf⟩ := bnd hf
  obtain ⟨x2, e2, hf⟩ := bnd hf
  obtain ⟨x3, e3, hf⟩ := bnd hf
  obtain ⟨x4, e4, hf⟩ := bnd hf
  obtain ⟨⟨x5, h5⟩, e5, hf⟩ := bnd hf
  try dsimp only at hf
  have k5 := c_L_value e5
  have m5 := (k5 default_g).1
  obtain ⟨x6, e6, hf⟩ := bnd hf
  obtain ⟨x7, e7, hf⟩ := bnd hf
  obtain ⟨x8, e8, hf⟩ := bnd hf
  obtain ⟨x9, e9, hf⟩ := bnd hf
  obtain ⟨x10, e10, hf⟩ := bnd hf
  obtain ⟨⟨x11, h11⟩, e11, hf⟩ := bnd hf
  try dsimp only at hf
  have k11 := c_X11_value e11
  have m11 := (k11 default_g).1
  obtain ⟨x12, e12, hf⟩ := bnd hf
  obtain ⟨⟨x13, h13⟩, e13, hf⟩ := bnd hf
  try dsimp only at hf
  have k13 := c_X11_thrown e13
  have m13 := (k13 default_g).1
  have mE : hp_n h13 ≤ hp_n hE ∧ hp_s h13 ≤ hp_s hE := by
    by_cases hc : x13 = x5
    · rw [if_pos hc] at hf; exact (q_L_law_844 hr23 hf).1
    · rw [if_neg hc] at hf; exact (q_L_law_842 hf).1
  refine ⟨by omega, fun X g K ok nmx lev hK en => ?_⟩
  refine tj_aload_n ok 1 dL_law_772 rfl rfl ?_
  refine tj_aload_n ok 0 dL_law_773 rfl rfl ?_
  refine tj_iload ok 4 dL_law_774 rfl ?_
  refine tj_iconst (v := 1) ok dL_law_776 (by decide) ?_
  refine tj_iadd ok dL_law_777 ?_
  refine tj_sld ok en dL_law_778 e1 ?_
  refine tj_aload_n ok 0 dL_law_779 rfl rfl ?_
  refine tj_iload ok 4 dL_law_780 rfl ?_
  refine tj_iconst (v := 2) ok dL_law_782 (by decide) ?_
  refine tj_iadd ok dL_law_783 ?_
  refine tj_sld ok en dL_law_784 e2 ?_
  refine tj_aload_n ok 0 dL_law_785 rfl rfl ?_
  refine tj_iload ok 4 dL_law_786 rfl ?_
  refine tj_iconst (v := 3) ok dL_law_788 (by decide) ?_
  refine tj_iadd ok dL_law_789 ?_
  refine tj_sld ok en dL_law_790 e3 ?_
  refine tj_aload_n ok 0 dL_law_791 rfl rfl ?_
  refine tj_iload ok 4 dL_law_792 rfl ?_
  refine tj_iconst (v := 4) ok dL_law_794 (by decide) ?_
  refine tj_iadd ok dL_law_795 ?_
  refine tj_sld ok en dL_law_796 e4 ?_
  refine tj_aload_n ok 3 dL_law_797 rfl rfl ?_
  refine tj_callW (rest := ([] : List TV).map (vl g)) (as := [.inr (.inr (a1)), .inl (x1), .inl (x2), .inl (x3), .inl (x4), .inr (.inr (a3))]) ok lev (by omega) (k5 g) (CaX.ofL en (by omega)) kw_L_value wm_1380 wm_1381 (rs_ok (Nat.le_of_ble_eq_true rfl)) rfl rfl dL_law_798 ?_
  refine tj_istore (lv' := [(0, .inr (.inr (a0))), (1, .inr (.inr (a1))), (2, .inr (.inr (a2))), (3, .inr (.inr (a3))), (4, .inl (a4)), (5, .inl (x5))]) ok dL_law_801 (by decide) rfl ?_
  refine tj_aload_n ok 2 dL_law_803 rfl rfl ?_
  refine tj_aload_n ok 0 dL_law_804 rfl rfl ?_
  refine tj_iload ok 4 dL_law_805 rfl ?_
  refine tj_iconst (v := 1) ok dL_law_807 (by decide) ?_
  refine tj_iadd ok dL_law_808 ?_
  refine tj_sld ok en dL_law_809 e6 ?_
  refine tj_aload_n ok 0 dL_law_810 rfl rfl ?_
  refine tj_iload ok 4 dL_law_811 rfl ?_
  refine tj_iconst (v := 2) ok dL_law_813 (by decide) ?_
  refine tj_iadd ok dL_law_814 ?_
  refine tj_sld ok en dL_law_815 e7 ?_
  refine tj_aload_n ok 0 dL_law_816 rfl rfl ?_
  refine tj_iload ok 4 dL_law_817 rfl ?_
  refine tj_iconst (v := 3) ok dL_law_819 (by decide) ?_
  refine tj_iadd ok dL_law_820 ?_
  refine tj_sld ok en dL_law_821 e8 ?_
  refine tj_aload_n ok 0 dL_law_822 rfl rfl ?_
  refine tj_iload ok 4 dL_law_823 rfl ?_
  refine tj_iconst (v := 4) ok dL_law_825 (by decide) ?_
  refine tj_iadd ok dL_law_826 ?_
  refine tj_sld ok en dL_law_827 e9 ?_
  refine tj_callV (rest := ([] : List TV).map (vl g)) (as := [.inl (x6), .inl (x7), .inl (x8), .inl (x9)]) ok lev (by omega) fcX11.1 (by decide) rfl (of_if e10).1 (k11 g) (CaX.ofL en (by omega)) kn_X11_value wm_1382 wm_1383 wm_1384 (rs_ok (Nat.le_of_ble_eq_true rfl)) rfl rfl dL_law_828 ?_
  refine tj_istore (lv' := [(0, .inr (.inr (a0))), (1, .inr (.inr (a1))), (2, .inr (.inr (a2))), (3, .inr (.inr (a3))), (4, .inl (a4)), (5, .inl (x5)), (6, .inl (x11))]) ok dL_law_831 (by decide) rfl ?_
  refine tj_aload_n ok 2 dL_law_833 rfl rfl ?_
  refine tj_callV (rest := ([] : List TV).map (vl g)) (as := []) ok lev (by omega) fcX11.1 (by decide) rfl (of_if e12).1 (k13 g) (CaX.ofL en (by omega)) kn_X11_thrown wm_1329 wm_1330 wm_1331 (rs_ok (Nat.le_of_ble_eq_true rfl)) rfl rfl dL_law_834 ?_
  refine tj_iload ok 5 dL_law_837 rfl ?_
  refine tj_icmp_eq (tgt := 844) ok dL_law_839 (by decide) (fun hc => ?_) (fun hc => ?_)
  · rw [if_pos hc] at hf
    exact (q_L_law_844 hr23 hf).2 X g K ok nmx lev hK en
  · rw [if_neg hc] at hf
    refine tj_sub (lv' := []) [] rfl ?_
    exact (q_L_law_842 hf).2 X g K ok nmx lev hK en
def b_L_law_941 (L : Nat) (xs : Nat → Int32) (r23 : Nat → Nat → Nat → Nat → Int32 → AH → Option (Int32 × AH)) (a0 : Nat) (a1 : Nat) (a2 : Nat) (a3 : Nat) (a4 : Int32) (h : AH) : Option (Int32 × AH) :=
  b_L_law_1569 L xs r23 a0 a1 a2 a3 a4 h
set_option maxHeartbeats 4000000 in
set_option maxRecDepth 100000 in
theorem q_L_law_941 {hE : AH} {v : Int32} {L : Nat} {xs : Nat → Int32} {r23 : Nat → Nat → Nat → Nat → Int32 → AH → Option (Int32 × AH)} (hr23 : ∀ (b0 : Nat) (b1 : Nat) (b2 : Nat) (b3 : Nat) (b4 : Int32) (h : AH), r23 b0 b1 b2 b3 b4 h = some (v, hE) → JL L xs cL_law 7 RL "law" (some .boolean) (243) 23 [(0, .inr (.inr (b0))), (1, .inr (.inr (b1))), (2, .inr (.inr (b2))), (3, .inr (.inr (b3))), (4, .inl (b4))] [] h hE (some (.inl (v)))) {a0 : Nat} {a1 : Nat} {a2 : Nat} {a3 : Nat} {a4 : Int32} {h : AH} (hf : b_L_law_941 L xs r23 a0 a1 a2 a3 a4 h = some (v, hE)) : JL L xs cL_law 7 RL "law" (some .boolean) (243) 941 [(0, .inr (.inr (a0))), (1, .inr (.inr (a1))), (2, .inr (.inr (a2))), (3, .inr (.inr (a3))), (4, .inl (a4))] [] h hE (some (.inl (v))) := by
  unfold b_L_law_941 at hf
  have J := q_L_law_1569 hr23 hf
  have mE := J.1
  refine ⟨by omega, fun X g K ok nmx lev hK en => ?_⟩
  refine tj_goto (tgt := 1569) ok dL_law_941 (by decide) ?_
  exact J.2 X g K ok nmx lev hK en
def b_L_law_939 (L : Nat) (xs : Nat → Int32)  (h : AH) : Option (Int32 × AH) :=
  ok_z (0 : Int32) h
set_option maxHeartbeats 4000000 in
set_option maxRecDepth 100000 in
theorem q_L_law_939 {L : Nat} {xs : Nat → Int32} {h hE : AH} {v : Int32} (hf : b_L_law_939 L xs  h = some (v, hE)) : JL L xs cL_law 7 RL "law" (some .boolean) (243) 939 [] [] h hE (some (.inl (v))) := by
  unfold b_L_law_939 at hf
  have mE : hp_n h ≤ hp_n hE ∧ hp_s h ≤ hp_s hE := by obtain ⟨-, q⟩ := of_if hf; cases q; exact ⟨Nat.le_refl _, Nat.le_refl _⟩
  refine ⟨by omega, fun X g K ok nmx lev hK en => ?_⟩
  refine tj_iconst (v := 0) ok dL_law_939 (by decide) ?_
  exact tj_lawret ok hf en dL_law_940
def b_L_law_929 (L : Nat) (xs : Nat → Int32) (r23 : Nat → Nat → Nat → Nat → Int32 → AH → Option (Int32 × AH)) (a0 : Nat) (a1 : Nat) (a2 : Nat) (a3 : Nat) (a4 : Int32) (a6 : Int32) (h : AH) : Option (Int32 × AH) :=
  (l_j h a3 (0 : Int32)).bind fun x1 => if (lg_cmp x1 a6.toInt64) = 0 then b_L_law_941 L xs r23 a0 a1 a2 a3 a4 h else b_L_law_939 L xs h
set_option maxHeartbeats 4000000 in
set_option maxRecDepth 100000 in
theorem q_L_law_929 {hE : AH} {v : Int32} {L : Nat} {xs : Nat → Int32} {r23 : Nat → Nat → Nat → Nat → Int32 → AH → Option (Int32 × AH)} (hr23 : ∀ (b0 : Nat) (b1 : Nat) (b2 : Nat) (b3 : Nat) (b4 : Int32) (h : AH), r23 b0 b1 b2 b3 b4 h = some (v, hE) → JL L xs cL_law 7 RL "law" (some .boolean) (243) 23 [(0, .inr (.inr (b0))), (1, .inr (.inr (b1))), (2, .inr (.inr (b2))), (3, .inr (.inr (b3))), (4, .inl (b4))] [] h hE (some (.inl (v)))) {a0 : Nat} {a1 : Nat} {a2 : Nat} {a3 : Nat} {a4 : Int32} {a6 : Int32} {h : AH} (hf : b_L_law_929 L xs r23 a0 a1 a2 a3 a4 a6 h = some (v, hE)) : JL L xs cL_law 7 RL "law" (some .boolean) (243) 929 [(0, .inr (.inr (a0))), (1, .inr (.inr (a1))), (2, .inr (.inr (a2))), (3, .inr (.inr (a3))), (4, .inl (a4)), (6, .inl (a6))] [] h hE (some (.inl (v))) := by
  unfold b_L_law_929 at hf
  obtain ⟨x1, e1, hf⟩ := bnd hf
  have mE : hp_n h ≤ hp_n hE ∧ hp_s h ≤ hp_s hE := by
    by_cases hc : (lg_cmp x1 a6.toInt64) = 0
    · rw [if_pos hc] at hf; exact (q_L_law_941 hr23 hf).1
    · rw [if_neg hc] at hf; exact (q_L_law_939 hf).1
  refine ⟨by omega, fun X g K ok nmx lev hK en => ?_⟩
  refine tj_aload_n ok 3 dL_law_929 rfl rfl ?_
  refine tj_iconst (v := 0) ok dL_law_930 (by decide) ?_
  refine tj_laload ok dL_law_931 e1 ?_
  refine tj_iload ok 5 dL_law_932 rfl ?_
  refine tj_i2l ok dL_law_934 ?_
  refine tj_lcmp ok dL_law_935 ?_
  refine tj_if_eq (tgt := 941) ok dL_law_936 (by decide) (fun hc => ?_) (fun hc => ?_)
  · rw [if_pos hc] at hf
    refine tj_sub (lv' := [(0, .inr (.inr (a0))), (1, .inr (.inr (a1))), (2, .inr (.inr (a2))), (3, .inr (.inr (a3))), (4, .inl (a4))]) [0, 1, 2, 3, 4] rfl ?_
    exact (q_L_law_941 hr23 hf).2 X g K ok nmx lev hK en
  · rw [if_neg hc] at hf
    refine tj_sub (lv' := []) [] rfl ?_
    exact (q_L_law_939 hf).2 X g K ok nmx lev hK en
def b_L_law_924 (L : Nat) (xs : Nat → Int32) (r23 : Nat → Nat → Nat → Nat → Int32 → AH → Option (Int32 × AH)) (a0 : Nat) (a1 : Nat) (a2 : Nat) (a3 : Nat) (a4 : Int32) (a5 : Int32) (a6 : Int32) (h : AH) : Option (Int32 × AH) :=
  if a5 = 0 then b_L_law_929 L xs r23 a0 a1 a2 a3 a4 a6 h else b_L_law_941 L xs r23 a0 a1 a2 a3 a4 h
set_option maxHeartbeats 4000000 in
set_option maxRecDepth 100000 in
theorem q_L_law_924 {hE : AH} {v : Int32} {L : Nat} {xs : Nat → Int32} {r23 : Nat → Nat → Nat → Nat → Int32 → AH → Option (Int32 × AH)} (hr23 : ∀ (b0 : Nat) (b1 : Nat) (b2 : Nat) (b3 : Nat) (b4 : Int32) (h : AH), r23 b0 b1 b2 b3 b4 h = some (v, hE) → JL L xs cL_law 7 RL "law" (some .boolean) (243) 23 [(0, .inr (.inr (b0))), (1, .inr (.inr (b1))), (2, .inr (.inr (b2))), (3, .inr (.inr (b3))), (4, .inl (b4))] [] h hE (some (.inl (v)))) {a0 : Nat} {a1 : Nat} {a2 : Nat} {a3 : Nat} {a4 : Int32} {a5 : Int32} {a6 : Int32} {h : AH} (hf : b_L_law_924 L xs r23 a0 a1 a2 a3 a4 a5 a6 h = some (v, hE)) : JL L xs cL_law 7 RL "law" (some .boolean) (243) 924 [(0, .inr (.inr (a0))), (1, .inr (.inr (a1))), (2, .inr (.inr (a2))), (3, .inr (.inr (a3))), (4, .inl (a4)), (5, .inl (a5)), (6, .inl (a6))] [] h hE (some (.inl (v))) := by
  unfold b_L_law_924 at hf
  have mE : hp_n h ≤ hp_n hE ∧ hp_s h ≤ hp_s hE := by
    by_cases hc : a5 = 0
    · rw [if_pos hc] at hf; exact (q_L_law_929 hr23 hf).1
    · rw [if_neg hc] at hf; exact (q_L_law_941 hr23 hf).1
  refine ⟨by omega, fun X g K ok nmx lev hK en => ?_⟩
  refine tj_iload ok 5 dL_law_924 rfl ?_
  refine tj_if_ne (tgt := 941) ok dL_law_926 (by decide) (fun hc => ?_) (fun hc => ?_)
  · rw [if_neg hc] at hf
    refine tj_sub (lv' := [(0, .inr (.inr (a0))), (1, .inr (.inr (a1))), (2, .inr (.inr (a2))), (3, .inr (.inr (a3))), (4, .inl (a4))]) [0, 1, 2, 3, 4] rfl ?_
    exact (q_L_law_941 hr23 hf).2 X g K ok nmx lev hK en
  · rw [if_pos hc] at hf
    refine tj_sub (lv' := [(0, .inr (.inr (a0))), (1, .inr (.inr (a1))), (2, .inr (.inr (a2))), (3, .inr (.inr (a3))), (4, .inl (a4)), (6, .inl (a6))]) [0, 1, 2, 3, 4, 6] rfl ?_
    exact (q_L_law_929 hr23 hf).2 X g K ok nmx lev hK en
def b_L_law_922 (L : Nat) (xs : Nat → Int32)  (h : AH) : Option (Int32 × AH) :=
  ok_z (0 : Int32) h
set_option maxHeartbeats 4000000 in
set_option maxRecDepth 100000 in
theorem q_L_law_922 {L : Nat} {xs : Nat → Int32} {h hE : AH} {v : Int32} (hf : b_L_law_922 L xs  h = some (v, hE)) : JL L xs cL_law 7 RL "law" (some .boolean) (243) 922 [] [] h hE (some (.inl (v))) := by
  unfold b_L_law_922 at hf
  have mE : hp_n h ≤ hp_n hE ∧ hp_s h ≤ hp_s hE := by obtain ⟨-, q⟩ := of_if hf; cases q; exact ⟨Nat.le_refl _, Nat.le_refl _⟩
  refine ⟨by omega, fun X g K ok nmx lev hK en => ?_⟩
  refine tj_iconst (v := 0) ok dL_law_922 (by decide) ?_
  exact tj_lawret ok hf en dL_law_923
def b_L_law_864 (L : Nat) (xs : Nat → Int32) (r23 : Nat → Nat → Nat → Nat → Int32 → AH → Option (Int32 × AH)) (a0 : Nat) (a1 : Nat) (a2 : Nat) (a3 : Nat) (a4 : Int32) (h : AH) : Option (Int32 × AH) :=
  (sc_i L xs a0 (a4 + (1 : Int32))).bind fun x1 => (sc_i L xs a0 (a4 + (2 : Int32))).bind fun x2 => (sc_i L xs a0 (a4 + (3 : Int32))).bind fun x3 => (f_L_stuck a1 x1 x2 x3 a3 h).bind fun q4 => (sc_i L xs a0 (a4 + (1 : Int32))).bind fun x5 => (sc_i L xs a0 (a4 + (2 : Int32))).bind fun x6 => (sc_i L xs a0 (a4 + (3 : Int32))).bind fun x7 => (ok_v q4.2 a2 11).bind fun x8 => (f_X11_stuck a2 x5 x6 x7 q4.2).bind fun q9 => (ok_v q9.2 a2 11).bind fun x10 => (f_X11_thrown a2 q9.2).bind fun q11 => if q11.1 = q4.1 then b_L_law_924 L xs r23 a0 a1 a2 a3 a4 q4.1 q9.1 q11.2 else b_L_law_922 L xs q11.2
set_option maxHeartbeats 4000000 in
set_option maxRecDepth 100000 in
theorem q_L_law_864 {hE : AH} {v : Int32} {L : Nat} {xs : Nat → Int32} {r23 : Nat → Nat → Nat → Nat → Int32 → AH → Option (Int32 × AH)} (hr23 : ∀ (b0 : Nat) (b1 : Nat) (b2 : Nat) (b3 : Nat) (b4 : Int32) (h : AH), r23 b0 b1 b2 b3 b4 h = some (v, hE) → JL L xs cL_law 7 RL "law" (some .boolean) (243) 23 [(0, .inr (.inr (b0))), (1, .inr (.inr (b1))), (2, .inr (.inr (b2))), (3, .inr (.inr (b3))), (4, .inl (b4))] [] h hE (some (.inl (v)))) {a0 : Nat} {a1 : Nat} {a2 : Nat} {a3 : Nat} {a4 : Int32} {h : AH} (hf : b_L_law_864 L xs r23 a0 a1 a2 a3 a4 h = some (v, hE)) : JL L xs cL_law 7 RL "law" (some .boolean) (243) 864 [(0, .inr (.inr (a0))), (1, .inr (.inr (a1))), (2, .inr (.inr (a2))), (3, .inr (.inr (a3))), (4, .inl (a4))] [] h hE (some (.inl (v))) := by
  unfold b_L_law_864 at hf
  obtain ⟨x1, e1, hf⟩ := bnd hf
  obtain ⟨x2, e2, hf⟩ := bnd hf
  obtain ⟨x3, e3, hf⟩ := bnd hf
  obtain ⟨⟨x4, h4⟩, e4, hf⟩ := bnd hf
  try dsimp only at hf
  have k4 := c_L_stuck e4
  have m4 := (k4 default_g).1
  obtain ⟨x5, e5, hf⟩ := bnd hf
  obtain ⟨x6, e6, hf⟩ := bnd hf
  obtain ⟨x7, e7, hf⟩ := bnd hf
  obtain ⟨x8, e8, hf⟩ := bnd hf
  obtain ⟨⟨x9, h9⟩, e9, hf⟩ := bnd hf
  try dsimp only at hf
  have k9 := c_X11_stuck e9
  have m9 := (k9 default_g).1
  obtain ⟨x10, e10, hf⟩ := bnd hf
  obtain ⟨⟨x11, h11⟩, e11, hf⟩ := bnd hf
  try dsimp only at hf
  have k11 := c_X11_thrown e11
  have m11 := (k11 default_g).1
  have mE : hp_n h11 ≤ hp_n hE ∧ hp_s h11 ≤ hp_s hE := by
    by_cases hc : x11 = x4
    · rw [if_pos hc] at hf; exact (q_L_law_924 hr23 hf).1
    · rw [if_neg hc] at hf; exact (q_L_law_922 hf).1
  refine ⟨by omega, fun X g K ok nmx lev hK en => ?_⟩
  refine tj_aload_n ok 1 dL_law_864 rfl rfl ?_
  refine tj_aload_n ok 0 dL_law_865 rfl rfl ?_
  refine tj_iload ok 4 dL_law_866 rfl ?_
  refine tj_iconst (v := 1) ok dL_law_868 (by decide) ?_
  refine tj_iadd ok dL_law_869 ?_
  refine tj_sld ok en dL_law_870 e1 ?_
  refine tj_aload_n ok 0 dL_law_871 rfl rfl ?_
  refine tj_iload ok 4 dL_law_872 rfl ?_
  refine tj_iconst (v := 2) ok dL_law_874 (by decide) ?_
  refine tj_iadd ok dL_law_875 ?_
  refine tj_sld ok en dL_law_876 e2 ?_
  refine tj_aload_n ok 0 dL_law_877 rfl rfl ?_
  refine tj_iload ok 4 dL_law_878 rfl ?_
  refine tj_iconst (v := 3) ok dL_law_880 (by decide) ?_
  refine tj_iadd ok dL_law_881 ?_
  refine tj_sld ok en dL_law_882 e3 ?_
  refine tj_aload_n ok 3 dL_law_883 rfl rfl ?_
  refine tj_callW (rest := ([] : List TV).map (vl g)) (as := [.inr (.inr (a1)), .inl (x1), .inl (x2), .inl (x3), .inr (.inr (a3))]) ok lev (by omega) (k4 g) (CaX.ofL en (by omega)) kw_L_stuck wm_1385 wm_1386 (rs_ok (Nat.le_of_ble_eq_true rfl)) rfl rfl dL_law_884 ?_
  refine tj_istore (lv' := [(0, .inr (.inr (a0))), (1, .inr (.inr (a1))), (2, .inr (.inr (a2))), (3, .inr (.inr (a3))), (4, .inl (a4)), (5, .inl (x4))]) ok dL_law_887 (by decide) rfl ?_
  refine tj_aload_n ok 2 dL_law_889 rfl rfl ?_
  refine tj_aload_n ok 0 dL_law_890 rfl rfl ?_
  refine tj_iload ok 4 dL_law_891 rfl ?_
  refine tj_iconst (v := 1) ok dL_law_893 (by decide) ?_
  refine tj_iadd ok dL_law_894 ?_
  refine tj_sld ok en dL_law_895 e5 ?_
  refine tj_aload_n ok 0 dL_law_896 rfl rfl ?_
  refine tj_iload ok 4 dL_law_897 rfl ?_
  refine tj_iconst (v := 2) ok dL_law_899 (by decide) ?_
  refine tj_iadd ok dL_law_900 ?_
  refine tj_sld ok en dL_law_901 e6 ?_
  refine tj_aload_n ok 0 dL_law_902 rfl rfl ?_
  refine tj_iload ok 4 dL_law_903 rfl ?_
  refine tj_iconst (v := 3) ok dL_law_905 (by decide) ?_
  refine tj_iadd ok dL_law_906 ?_
  refine tj_sld ok en dL_law_907 e7 ?_
  refine tj_callV (rest := ([] : List TV).map (vl g)) (as := [.inl (x5), .inl (x6), .inl (x7)]) ok lev (by omega) fcX11.1 (by decide) rfl (of_if e8).1 (k9 g) (CaX.ofL en (by omega)) kn_X11_stuck wm_1387 wm_1388 wm_1389 (rs_ok (Nat.le_of_ble_eq_true rfl)) rfl rfl dL_law_908 ?_
  refine tj_istore (lv' := [(0, .inr (.inr (a0))), (1, .inr (.inr (a1))), (2, .inr (.inr (a2))), (3, .inr (.inr (a3))), (4, .inl (a4)), (5, .inl (x4)), (6, .inl (x9))]) ok dL_law_911 (by decide) rfl ?_
  refine tj_aload_n ok 2 dL_law_913 rfl rfl ?_
  refine tj_callV (rest := ([] : List TV).map (vl g)) (as := []) ok lev (by omega) fcX11.1 (by decide) rfl (of_if e10).1 (k11 g) (CaX.ofL en (by omega)) kn_X11_thrown wm_1329 wm_1330 wm_1331 (rs_ok (Nat.le_of_ble_eq_true rfl)) rfl rfl dL_law_914 ?_
  refine tj_iload ok 5 dL_law_917 rfl ?_
  refine tj_icmp_eq (tgt := 924) ok dL_law_919 (by decide) (fun hc => ?_) (fun hc => ?_)
  · rw [if_pos hc] at hf
    exact (q_L_law_924 hr23 hf).2 X g K ok nmx lev hK en
  · rw [if_neg hc] at hf
    refine tj_sub (lv' := []) [] rfl ?_
    exact (q_L_law_922 hf).2 X g K ok nmx lev hK en
def b_L_law_979 (L : Nat) (xs : Nat → Int32)  (h : AH) : Option (Int32 × AH) :=
  ok_z (0 : Int32) h
set_option maxHeartbeats 4000000 in
set_option maxRecDepth 100000 in
theorem q_L_law_979 {L : Nat} {xs : Nat → Int32} {h hE : AH} {v : Int32} (hf : b_L_law_979 L xs  h = some (v, hE)) : JL L xs cL_law 7 RL "law" (some .boolean) (243) 979 [] [] h hE (some (.inl (v))) := by
  unfold b_L_law_979 at hf
  have mE : hp_n h ≤ hp_n hE ∧ hp_s h ≤ hp_s hE := by obtain ⟨-, q⟩ := of_if hf; cases q; exact ⟨Nat.le_refl _, Nat.le_refl _⟩
  refine ⟨by omega, fun X g K ok nmx lev hK en => ?_⟩
  refine tj_iconst (v := 0) ok dL_law_979 (by decide) ?_
  exact tj_lawret ok hf en dL_law_980
def b_L_law_944 (L : Nat) (xs : Nat → Int32) (r23 : Nat → Nat → Nat → Nat → Int32 → AH → Option (Int32 × AH)) (a0 : Nat) (a1 : Nat) (a2 : Nat) (a3 : Nat) (a4 : Int32) (h : AH) : Option (Int32 × AH) :=
  (sc_i L xs a0 (a4 + (1 : Int32))).bind fun x1 => (sc_i L xs a0 (a4 + (2 : Int32))).bind fun x2 => (ok_v h a1 10).bind fun x3 => (f_X10_wish a1 x1 x2 h).bind fun q4 => (sc_i L xs a0 (a4 + (1 : Int32))).bind fun x5 => (sc_i L xs a0 (a4 + (2 : Int32))).bind fun x6 => (ok_v q4.2 a2 11).bind fun x7 => (f_X11_wish a2 x5 x6 q4.2).bind fun q8 => if q4.1 = q8.1 then b_L_law_1569 L xs r23 a0 a1 a2 a3 a4 q8.2 else b_L_law_979 L xs q8.2
set_option maxHeartbeats 4000000 in
set_option maxRecDepth 100000 in
theorem q_L_law_944 {hE : AH} {v : Int32} {L : Nat} {xs : Nat → Int32} {r23 : Nat → Nat → Nat → Nat → Int32 → AH → Option (Int32 × AH)} (hr23 : ∀ (b0 : Nat) (b1 : Nat) (b2 : Nat) (b3 : Nat) (b4 : Int32) (h : AH), r23 b0 b1 b2 b3 b4 h = some (v, hE) → JL L xs cL_law 7 RL "law" (some .boolean) (243) 23 [(0, .inr (.inr (b0))), (1, .inr (.inr (b1))), (2, .inr (.inr (b2))), (3, .inr (.inr (b3))), (4, .inl (b4))] [] h hE (some (.inl (v)))) {a0 : Nat} {a1 : Nat} {a2 : Nat} {a3 : Nat} {a4 : Int32} {h : AH} (hf : b_L_law_944 L xs r23 a0 a1 a2 a3 a4 h = some (v, hE)) : JL L xs cL_law 7 RL "law" (some .boolean) (243) 944 [(0, .inr (.inr (a0))), (1, .inr (.inr (a1))), (2, .inr (.inr (a2))), (3, .inr (.inr (a3))), (4, .inl (a4))] [] h hE (some (.inl (v))) := by
  unfold b_L_law_944 at hf
  obtain ⟨x1, e1, hf⟩ := bnd hf
  obtain ⟨x2, e2, hf⟩ := bnd hf
  obtain ⟨x3, e3, hf⟩ := bnd hf
  obtain ⟨⟨x4, h4⟩, e4, hf⟩ := bnd hf
  try dsimp only at hf
  have k4 := c_X10_wish e4
  have m4 := (k4 default_g).1
  obtain ⟨x5, e5, hf⟩ := bnd hf
  obtain ⟨x6, e6, hf⟩ := bnd hf
  obtain ⟨x7, e7, hf⟩ := bnd hf
  obtain ⟨⟨x8, h8⟩, e8, hf⟩ := bnd hf
  try dsimp only at hf
  have k8 := c_X11_wish e8
  have m8 := (k8 default_g).1
  have mE : hp_n h8 ≤ hp_n hE ∧ hp_s h8 ≤ hp_s hE := by
    by_cases hc : x4 = x8
    · rw [if_pos hc] at hf; exact (q_L_law_1569 hr23 hf).1
    · rw [if_neg hc] at hf; exact (q_L_law_979 hf).1
  refine ⟨by omega, fun X g K ok nmx lev hK en => ?_⟩
  refine tj_aload_n ok 1 dL_law_944 rfl rfl ?_
  refine tj_aload_n ok 0 dL_law_945 rfl rfl ?_
  refine tj_iload ok 4 dL_law_946 rfl ?_
  refine tj_iconst (v := 1) ok dL_law_948 (by decide) ?_
  refine tj_iadd ok dL_law_949 ?_
  refine tj_sld ok en dL_law_950 e1 ?_
  refine tj_aload_n ok 0 dL_law_951 rfl rfl ?_
  refine tj_iload ok 4 dL_law_952 rfl ?_
  refine tj_iconst (v := 2) ok dL_law_954 (by decide) ?_
  refine tj_iadd ok dL_law_955 ?_
  refine tj_sld ok en dL_law_956 e2 ?_
  refine tj_callV (rest := ([] : List TV).map (vl g)) (as := [.inl (x1), .inl (x2)]) ok lev (by omega) fcX10.1 (by decide) rfl (of_if e3).1 (k4 g) (CaX.ofL en (by omega)) kn_X10_wish wm_1390 wm_1391 wm_1392 (rs_ok (Nat.le_of_ble_eq_true rfl)) rfl rfl dL_law_957 ?_
  refine tj_aload_n ok 2 dL_law_960 rfl rfl ?_
  refine tj_aload_n ok 0 dL_law_961 rfl rfl ?_
  refine tj_iload ok 4 dL_law_962 rfl ?_
  refine tj_iconst (v := 1) ok dL_law_964 (by decide) ?_
  refine tj_iadd ok dL_law_965 ?_
  refine tj_sld ok en dL_law_966 e5 ?_
  refine tj_aload_n ok 0 dL_law_967 rfl rfl ?_
  refine tj_iload ok 4 dL_law_968 rfl ?_
  refine tj_iconst (v := 2) ok dL_law_970 (by decide) ?_
  refine tj_iadd ok dL_law_971 ?_
  refine tj_sld ok en dL_law_972 e6 ?_
  refine tj_callV (rest := ([.inl (x4)] : List TV).map (vl g)) (as := [.inl (x5), .inl (x6)]) ok lev (by omega) fcX11.1 (by decide) rfl (of_if e7).1 (k8 g) (CaX.ofL en (by omega)) kn_X11_wish wm_1393 wm_1394 wm_1395 (rs_ok (Nat.le_of_ble_eq_true rfl)) rfl rfl dL_law_973 ?_
  refine tj_icmp_eq (tgt := 1569) ok dL_law_976 (by decide) (fun hc => ?_) (fun hc => ?_)
  · rw [if_pos hc] at hf
    exact (q_L_law_1569 hr23 hf).2 X g K ok nmx lev hK en
  · rw [if_neg hc] at hf
    refine tj_sub (lv' := []) [] rfl ?_
    exact (q_L_law_979 hf).2 X g K ok nmx lev hK en
def b_L_law_1046 (L : Nat) (xs : Nat → Int32) (r23 : Nat → Nat → Nat → Nat → Int32 → AH → Option (Int32 × AH)) (a0 : Nat) (a1 : Nat) (a2 : Nat) (a3 : Nat) (a4 : Int32) (h : AH) : Option (Int32 × AH) :=
  b_L_law_1569 L xs r23 a0 a1 a2 a3 a4 h
set_option maxHeartbeats 4000000 in
set_option maxRecDepth 100000 in
theorem q_L_law_1046 {hE : AH} {v : Int32} {L : Nat} {xs : Nat → Int32} {r23 : Nat → Nat → Nat → Nat → Int32 → AH → Option (Int32 × AH)} (hr23 : ∀ (b0 : Nat) (b1 : Nat) (b2 : Nat) (b3 : Nat) (b4 : Int32) (h : AH), r23 b0 b1 b2 b3 b4 h = some (v, hE) → JL L xs cL_law 7 RL "law" (some .boolean) (243) 23 [(0, .inr (.inr (b0))), (1, .inr (.inr (b1))), (2, .inr (.inr (b2))), (3, .inr (.inr (b3))), (4, .inl (b4))] [] h hE (some (.inl (v)))) {a0 : Nat} {a1 : Nat} {a2 : Nat} {a3 : Nat} {a4 : Int32} {h : AH} (hf : b_L_law_1046 L xs r23 a0 a1 a2 a3 a4 h = some (v, hE)) : JL L xs cL_law 7 RL "law" (some .boolean) (243) 1046 [(0, .inr (.inr (a0))), (1, .inr (.inr (a1))), (2, .inr (.inr (a2))), (3, .inr (.inr (a3))), (4, .inl (a4))] [] h hE (some (.inl (v))) := by
  unfold b_L_law_1046 at hf
  have J := q_L_law_1569 hr23 hf
  have mE := J.1
  refine ⟨by omega, fun X g K ok nmx lev hK en => ?_⟩
  refine tj_goto (tgt := 1569) ok dL_law_1046 (by decide) ?_
  exact J.2 X g K ok nmx lev hK en
def b_L_law_1044 (L : Nat) (xs : Nat → Int32)  (h : AH) : Option (Int32 × AH) :=
  ok_z (0 : Int32) h
set_option maxHeartbeats 4000000 in
set_option maxRecDepth 100000 in
theorem q_L_law_1044 {L : Nat} {xs : Nat → Int32} {h hE : AH} {v : Int32} (hf : b_L_law_1044 L xs  h = some (v, hE)) : JL L xs cL_law 7 RL "law" (some .boolean) (243) 1044 [] [] h hE (some (.inl (v))) := by
  unfold b_L_law_1044 at hf
  have mE : hp_n h ≤ hp_n hE ∧ hp_s h ≤ hp_s hE := by obtain ⟨-, q⟩ := of_if hf; cases q; exact ⟨Nat.le_refl _, Nat.le_refl _⟩
  refine ⟨by omega, fun X g K ok nmx lev hK en => ?_⟩
  refine tj_iconst (v := 0) ok dL_law_1044 (by decide) ?_
  exact tj_lawret ok hf en dL_law_1045
def b_L_law_1034 (L : Nat) (xs : Nat → Int32) (r23 : Nat → Nat → Nat → Nat → Int32 → AH → Option (Int32 × AH)) (a0 : Nat) (a1 : Nat) (a2 : Nat) (a3 : Nat) (a4 : Int32) (a6 : Int32) (h : AH) : Option (Int32 × AH) :=
  (l_j h a3 (0 : Int32)).bind fun x1 => if (lg_cmp x1 a6.toInt64) = 0 then b_L_law_1046 L xs r23 a0 a1 a2 a3 a4 h else b_L_law_1044 L xs h
set_option maxHeartbeats 4000000 in
set_option maxRecDepth 100000 in
theorem q_L_law_1034 {hE : AH} {v : Int32} {L : Nat} {xs : Nat → Int32} {r23 : Nat → Nat → Nat → Nat → Int32 → AH → Option (Int32 × AH)} (hr23 : ∀ (b0 : Nat) (b1 : Nat) (b2 : Nat) (b3 : Nat) (b4 : Int32) (h : AH), r23 b0 b1 b2 b3 b4 h = some (v, hE) → JL L xs cL_law 7 RL "law" (some .boolean) (243) 23 [(0, .inr (.inr (b0))), (1, .inr (.inr (b1))), (2, .inr (.inr (b2))), (3, .inr (.inr (b3))), (4, .inl (b4))] [] h hE (some (.inl (v)))) {a0 : Nat} {a1 : Nat} {a2 : Nat} {a3 : Nat} {a4 : Int32} {a6 : Int32} {h : AH} (hf : b_L_law_1034 L xs r23 a0 a1 a2 a3 a4 a6 h = some (v, hE)) : JL L xs cL_law 7 RL "law" (some .boolean) (243) 1034 [(0, .inr (.inr (a0))), (1, .inr (.inr (a1))), (2, .inr (.inr (a2))), (3, .inr (.inr (a3))), (4, .inl (a4)), (6, .inl (a6))] [] h hE (some (.inl (v))) := by
  unfold b_L_law_1034 at hf
  obtain ⟨x1, e1, hf⟩ := bnd hf
  have mE : hp_n h ≤ hp_n hE ∧ hp_s h ≤ hp_s hE := by
    by_cases hc : (lg_cmp x1 a6.toInt64) = 0
    · rw [if_pos hc] at hf; exact (q_L_law_1046 hr23 hf).1
    · rw [if_neg hc] at hf; exact (q_L_law_1044 hf).1
  refine ⟨by omega, fun X g K ok nmx lev hK en => ?_⟩
  refine tj_aload_n ok 3 dL_law_1034 rfl rfl ?_
  refine tj_iconst (v := 0) ok dL_law_1035 (by decide) ?_
  refine tj_laload ok dL_law_1036 e1 ?_
  refine tj_iload ok 5 dL_law_1037 rfl ?_
  refine tj_i2l ok dL_law_1039 ?_
  refine tj_lcmp ok dL_law_1040 ?_
  refine tj_if_eq (tgt := 1046) ok dL_law_1041 (by decide) (fun hc => ?_) (fun hc => ?_)
  · rw [if_pos hc] at hf
    refine tj_sub (lv' := [(0, .inr (.inr (a0))), (1, .inr (.inr (a1))), (2, .inr (.inr (a2))), (3, .inr (.inr (a3))), (4, .inl (a4))]) [0, 1, 2, 3, 4] rfl ?_
    exact (q_L_law_1046 hr23 hf).2 X g K ok nmx lev hK en
  · rw [if_neg hc] at hf
    refine tj_sub (lv' := []) [] rfl ?_
    exact (q_L_law_1044 hf).2 X g K ok nmx lev hK en
def b_L_law_1029 (L : Nat) (xs : Nat → Int32) (r23 : Nat → Nat → Nat → Nat → Int32 → AH → Option (Int32 × AH)) (a0 : Nat) (a1 : Nat) (a2 : Nat) (a3 : Nat) (a4 : Int32) (a5 : Int32) (a6 : Int32) (h : AH) : Option (Int32 × AH) :=
  if a5 = 0 then b_L_law_1034 L xs r23 a0 a1 a2 a3 a4 a6 h else b_L_law_1046 L xs r23 a0 a1 a2 a3 a4 h
set_option maxHeartbeats 4000000 in
set_option maxRecDepth 100000 in
theorem q_L_law_1029 {hE : AH} {v : Int32} {L : Nat} {xs : Nat → Int32} {r23 : Nat → Nat → Nat → Nat → Int32 → AH → Option (Int32 × AH)} (hr23 : ∀ (b0 : Nat) (b1 : Nat) (b2 : Nat) (b3 : Nat) (b4 : Int32) (h : AH), r23 b0 b1 b2 b3 b4 h = some (v, hE) → JL L xs cL_law 7 RL "law" (some .boolean) (243) 23 [(0, .inr (.inr (b0))), (1, .inr (.inr (b1))), (2, .inr (.inr (b2))), (3, .inr (.inr (b3))), (4, .inl (b4))] [] h hE (some (.inl (v)))) {a0 : Nat} {a1 : Nat} {a2 : Nat} {a3 : Nat} {a4 : Int32} {a5 : Int32} {a6 : Int32} {h : AH} (hf : b_L_law_1029 L xs r23 a0 a1 a2 a3 a4 a5 a6 h = some (v, hE)) : JL L xs cL_law 7 RL "law" (some .boolean) (243) 1029 [(0, .inr (.inr (a0))), (1, .inr (.inr (a1))), (2, .inr (.inr (a2))), (3, .inr (.inr (a3))), (4, .inl (a4)), (5, .inl (a5)), (6, .inl (a6))] [] h hE (some (.inl (v))) := by
  unfold b_L_law_1029 at hf
  have mE : hp_n h ≤ hp_n hE ∧ hp_s h ≤ hp_s hE := by
    by_cases hc : a5 = 0
    · rw [if_pos hc] at hf; exact (q_L_law_1034 hr23 hf).1
    · rw [if_neg hc] at hf; exact (q_L_law_1046 hr23 hf).1
  refine ⟨by omega, fun X g K ok nmx lev hK en => ?_⟩
  refine tj_iload ok 5 dL_law_1029 rfl ?_
  refine tj_if_ne (tgt := 1046) ok dL_law_1031 (by decide) (fun hc => ?_) (fun hc => ?_)
  · rw [if_neg hc] at hf
    refine tj_sub (lv' := [(0, .inr (.inr (a0))), (1, .inr (.inr (a1))), (2, .inr (.inr (a2))), (3, .inr (.inr (a3))), (4, .inl (a4))]) [0, 1, 2, 3, 4] rfl ?_
    exact (q_L_law_1046 hr23 hf).2 X g K ok nmx lev hK en
  · rw [if_pos hc] at hf
    refine tj_sub (lv' := [(0, .inr (.inr (a0))), (1, .inr (.inr (a1))), (2, .inr (.inr (a2))), (3, .inr (.inr (a3))), (4, .inl (a4)), (6, .inl (a6))]) [0, 1, 2, 3, 4, 6] rfl ?_
    exact (q_L_law_1034 hr23 hf).2 X g K ok nmx lev hK en
def b_L_law_1027 (L : Nat) (xs : Nat → Int32)  (h : AH) : Option (Int32 × AH) :=
  ok_z (0 : Int32) h
set_option maxHeartbeats 4000000 in
set_option maxRecDepth 100000 in
theorem q_L_law_1027 {L : Nat} {xs : Nat → Int32} {h hE : AH} {v : Int32} (hf : b_L_law_1027 L xs  h = some (v, hE)) : JL L xs cL_law 7 RL "law" (some .boolean) (243) 1027 [] [] h hE (some (.inl (v))) := by
  unfold b_L_law_1027 at hf
  have mE : hp_n h ≤ hp_n hE ∧ hp_s h ≤ hp_s hE := by obtain ⟨-, q⟩ := of_if hf; cases q; exact ⟨Nat.le_refl _, Nat.le_refl _⟩
  refine ⟨by omega, fun X g K ok nmx lev hK en => ?_⟩
  refine tj_iconst (v := 0) ok dL_law_1027 (by decide) ?_
  exact tj_lawret ok hf en dL_law_1028
def b_L_law_981 (L : Nat) (xs : Nat → Int32) (r23 : Nat → Nat → Nat → Nat → Int32 → AH → Option (Int32 × AH)) (a0 : Nat) (a1 : Nat) (a2 : Nat) (a3 : Nat) (a4 : Int32) (h : AH) : Option (Int32 × AH) :=
  (sc_i L xs a0 (a4 + (1 : Int32))).bind fun x1 => (sc_i L xs a0 (a4 + (2 : Int32))).bind fun x2 => (f_L_allowed a1 x1 x2 a3 h).bind fun q3 => (sc_i L xs a0 (a4 + (1 : Int32))).bind fun x4 => (sc_i L xs a0 (a4 + (2 : Int32))).bind fun x5 => (ok_v q3.2 a2 11).bind fun x6 => (f_X11_allowed a2 x4 x5 q3.2).bind fun q7 => (ok_v q7.2 a2 11).bind fun x8 => (f_X11_thrown a2 q7.2).bind fun q9 => if q9.1 = q3.1 then b_L_law_1029 L xs r23 a0 a1 a2 a3 a4 q3.1 q7.1 q9.2 else b_L_law_1027 L xs q9.2
set_option maxHeartbeats 4000000 in
set_option maxRecDepth 100000 in
theorem q_L_law_981 {hE : AH} {v : Int32} {L : Nat} {xs : Nat → Int32} {r23 : Nat → Nat → Nat → Nat → Int32 → AH → Option (Int32 × AH)} (hr23 : ∀ (b0 : Nat) (b1 : Nat) (b2 : Nat) (b3 : Nat) (b4 : Int32) (h : AH), r23 b0 b1 b2 b3 b4 h = some (v, hE) → JL L xs cL_law 7 RL "law" (some .boolean) (243) 23 [(0, .inr (.inr (b0))), (1, .inr (.inr (b1))), (2, .inr (.inr (b2))), (3, .inr (.inr (b3))), (4, .inl (b4))] [] h hE (some (.inl (v)))) {a0 : Nat} {a1 : Nat} {a2 : Nat} {a3 : Nat} {a4 : Int32} {h : AH} (hf : b_L_law_981 L xs r23 a0 a1 a2 a3 a4 h = some (v, hE)) : JL L xs cL_law 7 RL "law" (some .boolean) (243) 981 [(0, .inr (.inr (a0))), (1, .inr (.inr (a1))), (2, .inr (.inr (a2))), (3, .inr (.inr (a3))), (4, .inl (a4))] [] h hE (some (.inl (v))) := by
  unfold b_L_law_981 at hf
  obtain ⟨x1, e1, hf⟩ := bnd hf
  obtain ⟨x2, e2, hf⟩ := bnd hf
  obtain ⟨⟨x3, h3⟩, e3, hf⟩ := bnd hf
  try dsimp only at hf
  have k3 := c_L_allowed e3
  have m3 := (k3 default_g).1
  obtain ⟨x4, e4, hf⟩ := bnd hf
  obtain ⟨x5, e5, hf⟩ := bnd hf
  obtain ⟨x6, e6, hf⟩ := bnd hf
  obtain ⟨⟨x7, h7⟩, e7, hf⟩ := bnd hf
  try dsimp only at hf
  have k7 := c_X11_allowed e7
  have m7 := (k7 default_g).1
  obtain ⟨x8, e8, hf⟩ := bnd hf
  obtain ⟨⟨x9, h9⟩, e9, hf⟩ := bnd hf
  try dsimp only at hf
  have k9 := c_X11_thrown e9
  have m9 := (k9 default_g).1
  have mE : hp_n h9 ≤ hp_n hE ∧ hp_s h9 ≤ hp_s hE := by
    by_cases hc : x9 = x3
    · rw [if_pos hc] at hf; exact (q_L_law_1029 hr23 hf).1
    · rw [if_neg hc] at hf; exact (q_L_law_1027 hf).1
  refine ⟨by omega, fun X g K ok nmx lev hK en => ?_⟩
  refine tj_aload_n ok 1 dL_law_981 rfl rfl ?_
  refine tj_aload_n ok 0 dL_law_982 rfl rfl ?_
  refine tj_iload ok 4 dL_law_983 rfl ?_
  refine tj_iconst (v := 1) ok dL_law_985 (by decide) ?_
  refine tj_iadd ok dL_law_986 ?_
  refine tj_sld ok en dL_law_987 e1 ?_
  refine tj_aload_n ok 0 dL_law_988 rfl rfl ?_
  refine tj_iload ok 4 dL_law_989 rfl ?_
  refine tj_iconst (v := 2) ok dL_law_991 (by decide) ?_
  refine tj_iadd ok dL_law_992 ?_
  refine tj_sld ok en dL_law_993 e2 ?_
  refine tj_aload_n ok 3 dL_law_994 rfl rfl ?_
  refine tj_callW (rest := ([] : List TV).map (vl g)) (as := [.inr (.inr (a1)), .inl (x1), .inl (x2), .inr (.inr (a3))]) ok lev (by omega) (k3 g) (CaX.ofL en (by omega)) kw_L_allowed wm_1396 wm_1397 (rs_ok (Nat.le_of_ble_eq_true rfl)) rfl rfl dL_law_995 ?_
  refine tj_istore (lv' := [(0, .inr (.inr (a0))), (1, .inr (.inr (a1))), (2, .inr (.inr (a2))), (3, .inr (.inr (a3))), (4, .inl (a4)), (5, .inl (x3))]) ok dL_law_998 (by decide) rfl ?_
  refine tj_aload_n ok 2 dL_law_1000 rfl rfl ?_
  refine tj_aload_n ok 0 dL_law_1001 rfl rfl ?_
  refine tj_iload ok 4 dL_law_1002 rfl ?_
  refine tj_iconst (v := 1) ok dL_law_1004 (by decide) ?_
  refine tj_iadd ok dL_law_1005 ?_
  refine tj_sld ok en dL_law_1006 e4 ?_
  refine tj_aload_n ok 0 dL_law_1007 rfl rfl ?_
  refine tj_iload ok 4 dL_law_1008 rfl ?_
  refine tj_iconst (v := 2) ok dL_law_1010 (by decide) ?_
  refine tj_iadd ok dL_law_1011 ?_
  refine tj_sld ok en dL_law_1012 e5 ?_
  refine tj_callV (rest := ([] : List TV).map (vl g)) (as := [.inl (x4), .inl (x5)]) ok lev (by omega) fcX11.1 (by decide) rfl (of_if e6).1 (k7 g) (CaX.ofL en (by omega)) kn_X11_allowed wm_1398 wm_1399 wm_1400 (rs_ok (Nat.le_of_ble_eq_true rfl)) rfl rfl dL_law_1013 ?_
  refine tj_istore (lv' := [(0, .inr (.inr (a0))), (1, .inr (.inr (a1))), (2, .inr (.inr (a2))), (3, .inr (.inr (a3))), (4, .inl (a4)), (5, .inl (x3)), (6, .inl (x7))]) ok dL_law_1016 (by decide) rfl ?_
  refine tj_aload_n ok 2 dL_law_1018 rfl rfl ?_
  refine tj_callV (rest := ([] : List TV).map (vl g)) (as := []) ok lev (by omega) fcX11.1 (by decide) rfl (of_if e8).1 (k9 g) (CaX.ofL en (by omega)) kn_X11_thrown wm_1329 wm_1330 wm_1331 (rs_ok (Nat.le_of_ble_eq_true rfl)) rfl rfl dL_law_1019 ?_
  refine tj_iload ok 5 dL_law_1022 rfl ?_
  refine tj_icmp_eq (tgt := 1029) ok dL_law_1024 (by decide) (fun hc => ?_) (fun hc => ?_)
  · rw [if_pos hc] at hf
    exact (q_L_law_1029 hr23 hf).2 X g K ok nmx lev hK en
  · rw [if_neg hc] at hf
    refine tj_sub (lv' := []) [] rfl ?_
    exact (q_L_law_1027 hf).2 X g K ok nmx lev hK en
def b_L_law_1102 (L : Nat) (xs : Nat → Int32) (r23 : Nat → Nat → Nat → Nat → Int32 → AH → Option (Int32 × AH)) (a0 : Nat) (a1 : Nat) (a2 : Nat) (a3 : Nat) (a4 : Int32) (h : AH) : Option (Int32 × AH) :=
  b_L_law_1569 L xs r23 a0 a1 a2 a3 a4 h
set_option maxHeartbeats 4000000 in
set_option maxRecDepth 100000 in
theorem q_L_law_1102 {hE : AH} {v : Int32} {L : Nat} {xs : Nat → Int32} {r23 : Nat → Nat → Nat → Nat → Int32 → AH → Option (Int32 × AH)} (hr23 : ∀ (b0 : Nat) (b1 : Nat) (b2 : Nat) (b3 : Nat) (b4 : Int32) (h : AH), r23 b0 b1 b2 b3 b4 h = some (v, hE) → JL L xs cL_law 7 RL "law" (some .boolean) (243) 23 [(0, .inr (.inr (b0))), (1, .inr (.inr (b1))), (2, .inr (.inr (b2))), (3, .inr (.inr (b3))), (4, .inl (b4))] [] h hE (some (.inl (v)))) {a0 : Nat} {a1 : Nat} {a2 : Nat} {a3 : Nat} {a4 : Int32} {h : AH} (hf : b_L_law_1102 L xs r23 a0 a1 a2 a3 a4 h = some (v, hE)) : JL L xs cL_law 7 RL "law" (some .boolean) (243) 1102 [(0, .inr (.inr (a0))), (1, .inr (.inr (a1))), (2, .inr (.inr (a2))), (3, .inr (.inr (a3))), (4, .inl (a4))] [] h hE (some (.inl (v))) := by
  unfold b_L_law_1102 at hf
  have J := q_L_law_1569 hr23 hf
  have mE := J.1
  refine ⟨by omega, fun X g K ok nmx lev hK en => ?_⟩
  refine tj_goto (tgt := 1569) ok dL_law_1102 (by decide) ?_
  exact J.2 X g K ok nmx lev hK en
def b_L_law_1100 (L : Nat) (xs : Nat → Int32)  (h : AH) : Option (Int32 × AH) :=
  ok_z (0 : Int32) h
set_option maxHeartbeats 4000000 in
set_option maxRecDepth 100000 in
theorem q_L_law_1100 {L : Nat} {xs : Nat → Int32} {h hE : AH} {v : Int32} (hf : b_L_law_1100 L xs  h = some (v, hE)) : JL L xs cL_law 7 RL "law" (some .boolean) (243) 1100 [] [] h hE (some (.inl (v))) := by
  unfold b_L_law_1100 at hf
  have mE : hp_n h ≤ hp_n hE ∧ hp_s h ≤ hp_s hE := by obtain ⟨-, q⟩ := of_if hf; cases q; exact ⟨Nat.le_refl _, Nat.le_refl _⟩
  refine ⟨by omega, fun X g K ok nmx lev hK en => ?_⟩
  refine tj_iconst (v := 0) ok dL_law_1100 (by decide) ?_
  exact tj_lawret ok hf en dL_law_1101
def b_L_law_1090 (L : Nat) (xs : Nat → Int32) (r23 : Nat → Nat → Nat → Nat → Int32 → AH → Option (Int32 × AH)) (a0 : Nat) (a1 : Nat) (a2 : Nat) (a3 : Nat) (a4 : Int32) (a6 : Int32) (h : AH) : Option (Int32 × AH) :=
  (l_j h a3 (0 : Int32)).bind fun x1 => if (lg_cmp x1 a6.toInt64) = 0 then b_L_law_1102 L xs r23 a0 a1 a2 a3 a4 h else b_L_law_1100 L xs h
set_option maxHeartbeats 4000000 in
set_option maxRecDepth 100000 in
theorem q_L_law_1090 {hE : AH} {v : Int32} {L : Nat} {xs : Nat → Int32} {r23 : Nat → Nat → Nat → Nat → Int32 → AH → Option (Int32 × AH)} (hr23 : ∀ (b0 : Nat) (b1 : Nat) (b2 : Nat) (b3 : Nat) (b4 : Int32) (h : AH), r23 b0 b1 b2 b3 b4 h = some (v, hE) → JL L xs cL_law 7 RL "law" (some .boolean) (243) 23 [(0, .inr (.inr (b0))), (1, .inr (.inr (b1))), (2, .inr (.inr (b2))), (3, .inr (.inr (b3))), (4, .inl (b4))] [] h hE (some (.inl (v)))) {a0 : Nat} {a1 : Nat} {a2 : Nat} {a3 : Nat} {a4 : Int32} {a6 : Int32} {h : AH} (hf : b_L_law_1090 L xs r23 a0 a1 a2 a3 a4 a6 h = some (v, hE)) : JL L xs cL_law 7 RL "law" (some .boolean) (243) 1090 [(0, .inr (.inr (a0))), (1, .inr (.inr (a1))), (2, .inr (.inr (a2))), (3, .inr (.inr (a3))), (4, .inl (a4)), (6, .inl (a6))] [] h hE (some (.inl (v))) := by
  unfold b_L_law_1090 at hf
  obtain ⟨x1, e1, hf⟩ := bnd hf
  have mE : hp_n h ≤ hp_n hE ∧ hp_s h ≤ hp_s hE := by
    by_cases hc : (lg_cmp x1 a6.toInt64) = 0
    · rw [if_pos hc] at hf; exact (q_L_law_1102 hr23 hf).1
    · rw [if_neg hc] at hf; exact (q_L_law_1100 hf).1
  refine ⟨by omega, fun X g K ok nmx lev hK en => ?_⟩
  refine tj_aload_n ok 3 dL_law_1090 rfl rfl ?_
  refine tj_iconst (v := 0) ok dL_law_1091 (by decide) ?_
  refine tj_laload ok dL_law_1092 e1 ?_
  refine tj_iload ok 5 dL_law_1093 rfl ?_
  refine tj_i2l ok dL_law_1095 ?_
  refine tj_lcmp ok dL_law_1096 ?_
  refine tj_if_eq (tgt := 1102) ok dL_law_1097 (by decide) (fun hc => ?_) (fun hc => ?_)
  · rw [if_pos hc] at hf
    refine tj_sub (lv' := [(0, .inr (.inr (a0))), (1, .inr (.inr (a1))), (2, .inr (.inr (a2))), (3, .inr (.inr (a3))), (4, .inl (a4))]) [0, 1, 2, 3, 4] rfl ?_
    exact (q_L_law_1102 hr23 hf).2 X g K ok nmx lev hK en
  · rw [if_neg hc] at hf
    refine tj_sub (lv' := []) [] rfl ?_
    exact (q_L_law_1100 hf).2 X g K ok nmx lev hK en
def b_L_law_1085 (L : Nat) (xs : Nat → Int32) (r23 : Nat → Nat → Nat → Nat → Int32 → AH → Option (Int32 × AH)) (a0 : Nat) (a1 : Nat) (a2 : Nat) (a3 : Nat) (a4 : Int32) (a5 : Int32) (a6 : Int32) (h : AH) : Option (Int32 × AH) :=
  if a5 = 0 then b_L_law_1090 L xs r23 a0 a1 a2 a3 a4 a6 h else b_L_law_1102 L xs r23 a0 a1 a2 a3 a4 h
set_option maxHeartbeats 4000000 in
set_option maxRecDepth 100000 in
theorem q_L_law_1085 {hE : AH} {v : Int32} {L : Nat} {xs : Nat → Int32} {r23 : Nat → Nat → Nat → Nat → Int32 → AH → Option (Int32 × AH)} (hr23 : ∀ (b0 : Nat) (b1 : Nat) (b2 : Nat) (b3 : Nat) (b4 : Int32) (h : AH), r23 b0 b1 b2 b3 b4 h = some (v, hE) → JL L xs cL_law 7 RL "law" (some .boolean) (243) 23 [(0, .inr (.inr (b0))), (1, .inr (.inr (b1))), (2, .inr (.inr (b2))), (3, .inr (.inr (b3))), (4, .inl (b4))] [] h hE (some (.inl (v)))) {a0 : Nat} {a1 : Nat} {a2 : Nat} {a3 : Nat} {a4 : Int32} {a5 : Int32} {a6 : Int32} {h : AH} (hf : b_L_law_1085 L xs r23 a0 a1 a2 a3 a4 a5 a6 h = some (v, hE)) : JL L xs cL_law 7 RL "law" (some .boolean) (243) 1085 [(0, .inr (.inr (a0))), (1, .inr (.inr (a1))), (2, .inr (.inr (a2))), (3, .inr (.inr (a3))), (4, .inl (a4)), (5, .inl (a5)), (6, .inl (a6))] [] h hE (some (.inl (v))) := by
  unfold b_L_law_1085 at hf
  have mE : hp_n h ≤ hp_n hE ∧ hp_s h ≤ hp_s hE := by
    by_cases hc : a5 = 0
    · rw [if_pos hc] at hf; exact (q_L_law_1090 hr23 hf).1
    · rw [if_neg hc] at hf; exact (q_L_law_1102 hr23 hf).1
  refine ⟨by omega, fun X g K ok nmx lev hK en => ?_⟩
  refine tj_iload ok 5 dL_law_1085 rfl ?_
  refine tj_if_ne (tgt := 1102) ok dL_law_1087 (by decide) (fun hc => ?_) (fun hc => ?_)
  · rw [if_neg hc] at hf
    refine tj_sub (lv' := [(0, .inr (.inr (a0))), (1, .inr (.inr (a1))), (2, .inr (.inr (a2))), (3, .inr (.inr (a3))), (4, .inl (a4))]) [0, 1, 2, 3, 4] rfl ?_
    exact (q_L_law_1102 hr23 hf).2 X g K ok nmx lev hK en
  · rw [if_pos hc] at hf
    refine tj_sub (lv' := [(0, .inr (.inr (a0))), (1, .inr (.inr (a1))), (2, .inr (.inr (a2))), (3, .inr (.inr (a3))), (4, .inl (a4)), (6, .inl (a6))]) [0, 1, 2, 3, 4, 6] rfl ?_
    exact (q_L_law_1090 hr23 hf).2 X g K ok nmx lev hK en
def b_L_law_1083 (L : Nat) (xs : Nat → Int32)  (h : AH) : Option (Int32 × AH) :=
  ok_z (0 : Int32) h
set_option maxHeartbeats 4000000 in
set_option maxRecDepth 100000 in
theorem q_L_law_1083 {L : Nat} {xs : Nat → Int32} {h hE : AH} {v : Int32} (hf : b_L_law_1083 L xs  h = some (v, hE)) : JL L xs cL_law 7 RL "law" (some .boolean) (243) 1083 [] [] h hE (some (.inl (v))) := by
  unfold b_L_law_1083 at hf
  have mE : hp_n h ≤ hp_n hE ∧ hp_s h ≤ hp_s hE := by obtain ⟨-, q⟩ := of_if hf; cases q; exact ⟨Nat.le_refl _, Nat.le_refl _⟩
  refine ⟨by omega, fun X g K ok nmx lev hK en => ?_⟩
  refine tj_iconst (v := 0) ok dL_law_1083 (by decide) ?_
  exact tj_lawret ok hf en dL_law_1084
def b_L_law_1049 (L : Nat) (xs : Nat → Int32) (r23 : Nat → Nat → Nat → Nat → Int32 → AH → Option (Int32 × AH)) (a0 : Nat) (a1 : Nat) (a2 : Nat) (a3 : Nat) (a4 : Int32) (h : AH) : Option (Int32 × AH) :=
  (sc_i L xs a0 (a4 + (1 : Int32))).bind fun x1 => (f_L_witness a1 x1 a3 h).bind fun q2 => (sc_i L xs a0 (a4 + (1 : Int32))).bind fun x3 => (ok_v q2.2 a2 11).bind fun x4 => (f_X11_witness a2 x3 q2.2).bind fun q5 => (ok_v q5.2 a2 11).bind fun x6 => (f_X11_thrown a2 q5.2).bind fun q7 => if q7.1 = q2.1 then b_L_law_1085 L xs r23 a0 a1 a2 a3 a4 q2.1 q5.1 q7.2 else b_L_law_1083 L xs q7.2
set_option maxHeartbeats 4000000 in
set_option maxRecDepth 100000 in
theorem q_L_law_1049 {hE : AH} {v : Int32} {L : Nat} {xs : Nat → Int32} {r23 : Nat → Nat → Nat → Nat → Int32 → AH → Option (Int32 × AH)} (hr23 : ∀ (b0 : Nat) (b1 : Nat) (b2 : Nat) (b3 : Nat) (b4 : Int32) (h : AH), r23 b0 b1 b2 b3 b4 h = some (v, hE) → JL L xs cL_law 7 RL "law" (some .boolean) (243) 23 [(0, .inr (.inr (b0))), (1, .inr (.inr (b1))), (2, .inr (.inr (b2))), (3, .inr (.inr (b3))), (4, .inl (b4))] [] h hE (some (.inl (v)))) {a0 : Nat} {a1 : Nat} {a2 : Nat} {a3 : Nat} {a4 : Int32} {h : AH} (hf : b_L_law_1049 L xs r23 a0 a1 a2 a3 a4 h = some (v, hE)) : JL L xs cL_law 7 RL "law" (some .boolean) (243) 1049 [(0, .inr (.inr (a0))), (1, .inr (.inr (a1))), (2, .inr (.inr (a2))), (3, .inr (.inr (a3))), (4, .inl (a4))] [] h hE (some (.inl (v))) := by
  unfold b_L_law_1049 at hf
  obtain ⟨x1, e1, hf⟩ := bnd hf
  obtain ⟨⟨x2, h2⟩, e2, hf⟩ := bnd hf
  try dsimp only at hf
  have k2 := c_L_witness e2
  have m2 := (k2 default_g).1
  obtain ⟨x3, e3, hf⟩ := bnd hf
  obtain ⟨x4, e4, hf⟩ := bnd hf
  obtain ⟨⟨x5, h5⟩, e5, hf⟩ := bnd hf
  try dsimp only at hf
  have k5 := c_X11_witness e5
  have m5 := (k5 default_g).1
  obtain ⟨x6, e6, hf⟩ := bnd hf
  obtain ⟨⟨x7, h7⟩, e7, hf⟩ := bnd hf
  try dsimp only at hf
  have k7 := c_X11_thrown e7
  have m7 := (k7 default_g).1
  have mE : hp_n h7 ≤ hp_n hE ∧ hp_s h7 ≤ hp_s hE := by
    by_cases hc : x7 = x2
    · rw [if_pos hc] at hf; exact (q_L_law_1085 hr23 hf).1
    · rw [if_neg hc] at hf; exact (q_L_law_1083 hf).1
  refine ⟨by omega, fun X g K ok nmx lev hK en => ?_⟩
  refine tj_aload_n ok 1 dL_law_1049 rfl rfl ?_
  refine tj_aload_n ok 0 dL_law_1050 rfl rfl ?_
  refine tj_iload ok 4 dL_law_1051 rfl ?_
  refine tj_iconst (v := 1) ok dL_law_1053 (by decide) ?_
  refine tj_iadd ok dL_law_1054 ?_
  refine tj_sld ok en dL_law_1055 e1 ?_
  refine tj_aload_n ok 3 dL_law_1056 rfl rfl ?_
  refine tj_callW (rest := ([] : List TV).map (vl g)) (as := [.inr (.inr (a1)), .inl (x1), .inr (.inr (a3))]) ok lev (by omega) (k2 g) (CaX.ofL en (by omega)) kw_L_witness wm_1401 wm_1402 (rs_ok (Nat.le_of_ble_eq_true rfl)) rfl rfl dL_law_1057 ?_
  refine tj_istore (lv' := [(0, .inr (.inr (a0))), (1, .inr (.inr (a1))), (2, .inr (.inr (a2))), (3, .inr (.inr (a3))), (4, .inl (a4)), (5, .inl (x2))]) ok dL_law_1060 (by decide) rfl ?_
  refine tj_aload_n ok 2 dL_law_1062 rfl rfl ?_
  refine tj_aload_n ok 0 dL_law_1063 rfl rfl ?_
  refine tj_iload ok 4 dL_law_1064 rfl ?_
  refine tj_iconst (v := 1) ok dL_law_1066 (by decide) ?_
  refine tj_iadd ok dL_law_1067 ?_
  refine tj_sld ok en dL_law_1068 e3 ?_
  refine tj_callV (rest := ([] : List TV).map (vl g)) (as := [.inl (x3)]) ok lev (by omega) fcX11.1 (by decide) rfl (of_if e4).1 (k5 g) (CaX.ofL en (by omega)) kn_X11_witness wm_1403 wm_1404 wm_1405 (rs_ok (Nat.le_of_ble_eq_true rfl)) rfl rfl dL_law_1069 ?_
  refine tj_istore (lv' := [(0, .inr (.inr (a0))), (1, .inr (.inr (a1))), (2, .inr (.inr (a2))), (3, .inr (.inr (a3))), (4, .inl (a4)), (5, .inl (x2)), (6, .inl (x5))]) ok dL_law_1072 (by decide) rfl ?_
  refine tj_aload_n ok 2 dL_law_1074 rfl rfl ?_
  refine tj_callV (rest := ([] : List TV).map (vl g)) (as := []) ok lev (by omega) fcX11.1 (by decide) rfl (of_if e6).1 (k7 g) (CaX.ofL en (by omega)) kn_X11_thrown wm_1329 wm_1330 wm_1331 (rs_ok (Nat.le_of_ble_eq_true rfl)) rfl rfl dL_law_1075 ?_
  refine tj_iload ok 5 dL_law_1078 rfl ?_
  refine tj_icmp_eq (tgt := 1085) ok dL_law_1080 (by decide) (fun hc => ?_) (fun hc => ?_)
  · rw [if_pos hc] at hf
    exact (q_L_law_1085 hr23 hf).2 X g K ok nmx lev hK en
  · rw [if_neg hc] at hf
    refine tj_sub (lv' := []) [] rfl ?_
    exact (q_L_law_1083 hf).2 X g K ok nmx lev hK en
def b_L_law_1128 (L : Nat) (xs : Nat → Int32)  (h : AH) : Option (Int32 × AH) :=
  ok_z (0 : Int32) h
set_option maxHeartbeats 4000000 in
set_option maxRecDepth 100000 in
theorem q_L_law_1128 {L : Nat} {xs : Nat → Int32} {h hE : AH} {v : Int32} (hf : b_L_law_1128 L xs  h = some (v, hE)) : JL L xs cL_law 7 RL "law" (some .boolean) (243) 1128 [] [] h hE (some (.inl (v))) := by
  unfold b_L_law_1128 at hf
  have mE : hp_n h ≤ hp_n hE ∧ hp_s h ≤ hp_s hE := by obtain ⟨-, q⟩ := of_if hf; cases q; exact ⟨Nat.le_refl _, Nat.le_refl _⟩
  refine ⟨by omega, fun X g K ok nmx lev hK en => ?_⟩
  refine tj_iconst (v := 0) ok dL_law_1128 (by decide) ?_
  exact tj_lawret ok hf en dL_law_1129
def b_L_law_1105 (L : Nat) (xs : Nat → Int32) (r23 : Nat → Nat → Nat → Nat → Int32 → AH → Option (Int32 × AH)) (a0 : Nat) (a1 : Nat) (a2 : Nat) (a3 : Nat) (a4 : Int32) (h : AH) : Option (Int32 × AH) :=
  (sc_i L xs a0 (a4 + (1 : Int32))).bind fun x1 => (ok_v h a1 10).bind fun x2 => (f_X10_step a1 x1 h).bind fun q3 => (sc_i L xs a0 (a4 + (1 : Int32))).bind fun x4 => (ok_v q3.2 a2 11).bind fun x5 => (f_X11_step a2 x4 q3.2).bind fun q6 => if q3.1 = q6.1 then b_L_law_1569 L xs r23 a0 a1 a2 a3 a4 q6.2 else b_L_law_1128 L xs q6.2
set_option maxHeartbeats 4000000 in
set_option maxRecDepth 100000 in
theorem q_L_law_1105 {hE : AH} {v : Int32} {L : Nat} {xs : Nat → Int32} {r23 : Nat → Nat → Nat → Nat → Int32 → AH → Option (Int32 × AH)} (hr23 : ∀ (b0 : Nat) (b1 : Nat) (b2 : Nat) (b3 : Nat) (b4 : Int32) (h : AH), r23 b0 b1 b2 b3 b4 h = some (v, hE) → JL L xs cL_law 7 RL "law" (some .boolean) (243) 23 [(0, .inr (.inr (b0))), (1, .inr (.inr (b1))), (2, .inr (.inr (b2))), (3, .inr (.inr (b3))), (4, .inl (b4))] [] h hE (some (.inl (v)))) {a0 : Nat} {a1 : Nat} {a2 : Nat} {a3 : Nat} {a4 : Int32} {h : AH} (hf : b_L_law_1105 L xs r23 a0 a1 a2 a3 a4 h = some (v, hE)) : JL L xs cL_law 7 RL "law" (some .boolean) (243) 1105 [(0, .inr (.inr (a0))), (1, .inr (.inr (a1))), (2, .inr (.inr (a2))), (3, .inr (.inr (a3))), (4, .inl (a4))] [] h hE (some (.inl (v))) := by
  unfold b_L_law_1105 at hf
  obtain ⟨x1, e1, hf⟩ := bnd hf
  obtain ⟨x2, e2, hf⟩ := bnd hf
  obtain ⟨⟨x3, h3⟩, e3, hf⟩ := bnd hf
  try dsimp only at hf
  have k3 := c_X10_step e3
  have m3 := (k3 default_g).1
  obtain ⟨x4, e4, hf⟩ := bnd hf
  obtain ⟨x5, e5, hf⟩ := bnd hf
  obtain ⟨⟨x6, h6⟩, e6, hf⟩ := bnd hf
  try dsimp only at hf
  have k6 := c_X11_step e6
  have m6 := (k6 default_g).1
  have mE : hp_n h6 ≤ hp_n hE ∧ hp_s h6 ≤ hp_s hE := by
    by_cases hc : x3 = x6
    · rw [if_pos hc] at hf; exact (q_L_law_1569 hr23 hf).1
    · rw [if_neg hc] at hf; exact (q_L_law_1128 hf).1
  refine ⟨by omega, fun X g K ok nmx lev hK en => ?_⟩
  refine tj_aload_n ok 1 dL_law_1105 rfl rfl ?_
  refine tj_aload_n ok 0 dL_law_1106 rfl rfl ?_
  refine tj_iload ok 4 dL_law_1107 rfl ?_
  refine tj_iconst (v := 1) ok dL_law_1109 (by decide) ?_
  refine tj_iadd ok dL_law_1110 ?_
  refine tj_sld ok en dL_law_1111 e1 ?_
  refine tj_callV (rest := ([] : List TV).map (vl g)) (as := [.inl (x1)]) ok lev (by omega) fcX10.1 (by decide) rfl (of_if e2).1 (k3 g) (CaX.ofL en (by omega)) kn_X10_step wm_1406 wm_1407 wm_1408 (rs_ok (Nat.le_of_ble_eq_true rfl)) rfl rfl dL_law_1112 ?_
  refine tj_aload_n ok 2 dL_law_1115 rfl rfl ?_
  refine tj_aload_n ok 0 dL_law_1116 rfl rfl ?_
  refine tj_iload ok 4 dL_law_1117 rfl ?_
  refine tj_iconst (v := 1) ok dL_law_1119 (by decide) ?_
  refine tj_iadd ok dL_law_1120 ?_
  refine tj_sld ok en dL_law_1121 e4 ?_
  refine tj_callV (rest := ([.inl (x3)] : List TV).map (vl g)) (as := [.inl (x4)]) ok lev (by omega) fcX11.1 (by decide) rfl (of_if e5).1 (k6 g) (CaX.ofL en (by omega)) kn_X11_step wm_1409 wm_1410 wm_1411 (rs_ok (Nat.le_of_ble_eq_true rfl)) rfl rfl dL_law_1122 ?_
  refine tj_icmp_eq (tgt := 1569) ok dL_law_1125 (by decide) (fun hc => ?_) (fun hc => ?_)
  · rw [if_pos hc] at hf
    exact (q_L_law_1569 hr23 hf).2 X g K ok nmx lev hK en
  · rw [if_neg hc] at hf
    refine tj_sub (lv' := []) [] rfl ?_
    exact (q_L_law_1128 hf).2 X g K ok nmx lev hK en
def b_L_law_1183 (L : Nat) (xs : Nat → Int32) (r23 : Nat → Nat → Nat → Nat → Int32 → AH → Option (Int32 × AH)) (a0 : Nat) (a1 : Nat) (a2 : Nat) (a3 : Nat) (a4 : Int32) (h : AH) : Option (Int32 × AH) :=
  b_L_law_1569 L xs r23 a0 a1 a2 a3 a4 h
set_option maxHeartbeats 4000000 in
set_option maxRecDepth 100000 in
theorem q_L_law_1183 {hE : AH} {v : Int32} {L : Nat} {xs : Nat → Int32} {r23 : Nat → Nat → Nat → Nat → Int32 → AH → Option (Int32 × AH)} (hr23 : ∀ (b0 : Nat) (b1 : Nat) (b2 : Nat) (b3 : Nat) (b4 : Int32) (h : AH), r23 b0 b1 b2 b3 b4 h = some (v, hE) → JL L xs cL_law 7 RL "law" (some .boolean) (243) 23 [(0, .inr (.inr (b0))), (1, .inr (.inr (b1))), (2, .inr (.inr (b2))), (3, .inr (.inr (b3))), (4, .inl (b4))] [] h hE (some (.inl (v)))) {a0 : Nat} {a1 : Nat} {a2 : Nat} {a3 : Nat} {a4 : Int32} {h : AH} (hf : b_L_law_1183 L xs r23 a0 a1 a2 a3 a4 h = some (v, hE)) : JL L xs cL_law 7 RL "law" (some .boolean) (243) 1183 [(0, .inr (.inr (a0))), (1, .inr (.inr (a1))), (2, .inr (.inr (a2))), (3, .inr (.inr (a3))), (4, .inl (a4))] [] h hE (some (.inl (v))) := by
  unfold b_L_law_1183 at hf
  have J := q_L_law_1569 hr23 hf
  have mE := J.1
  refine ⟨by omega, fun X g K ok nmx lev hK en => ?_⟩
  refine tj_goto (tgt := 1569) ok dL_law_1183 (by decide) ?_
  exact J.2 X g K ok nmx lev hK en
def b_L_law_1181 (L : Nat) (xs : Nat → Int32)  (h : AH) : Option (Int32 × AH) :=
  ok_z (0 : Int32) h
set_option maxHeartbeats 4000000 in
set_option maxRecDepth 100000 in
theorem q_L_law_1181 {L : Nat} {xs : Nat → Int32} {h hE : AH} {v : Int32} (hf : b_L_law_1181 L xs  h = some (v, hE)) : JL L xs cL_law 7 RL "law" (some .boolean) (243) 1181 [] [] h hE (some (.inl (v))) := by
  unfold b_L_law_1181 at hf
  have mE : hp_n h ≤ hp_n hE ∧ hp_s h ≤ hp_s hE := by obtain ⟨-, q⟩ := of_if hf; cases q; exact ⟨Nat.le_refl _, Nat.le_refl _⟩
  refine ⟨by omega, fun X g K ok nmx lev hK en => ?_⟩
  refine tj_iconst (v := 0) ok dL_law_1181 (by decide) ?_
  exact tj_lawret ok hf en dL_law_1182
def b_L_law_1171 (L : Nat) (xs : Nat → Int32) (r23 : Nat → Nat → Nat → Nat → Int32 → AH → Option (Int32 × AH)) (a0 : Nat) (a1 : Nat) (a2 : Nat) (a3 : Nat) (a4 : Int32) (a6 : Int32) (h : AH) : Option (Int32 × AH) :=
  (l_j h a3 (0 : Int32)).bind fun x1 => if (lg_cmp x1 a6.toInt64) = 0 then b_L_law_1183 L xs r23 a0 a1 a2 a3 a4 h else b_L_law_1181 L xs h
set_option maxHeartbeats 4000000 in
set_option maxRecDepth 100000 in
theorem q_L_law_1171 {hE : AH} {v : Int32} {L : Nat} {xs : Nat → Int32} {r23 : Nat → Nat → Nat → Nat → Int32 → AH → Option (Int32 × AH)} (hr23 : ∀ (b0 : Nat) (b1 : Nat) (b2 : Nat) (b3 : Nat) (b4 : Int32) (h : AH), r23 b0 b1 b2 b3 b4 h = some (v, hE) → JL L xs cL_law 7 RL "law" (some .boolean) (243) 23 [(0, .inr (.inr (b0))), (1, .inr (.inr (b1))), (2, .inr (.inr (b2))), (3, .inr (.inr (b3))), (4, .inl (b4))] [] h hE (some (.inl (v)))) {a0 : Nat} {a1 : Nat} {a2 : Nat} {a3 : Nat} {a4 : Int32} {a6 : Int32} {h : AH} (hf : b_L_law_1171 L xs r23 a0 a1 a2 a3 a4 a6 h = some (v, hE)) : JL L xs cL_law 7 RL "law" (some .boolean) (243) 1171 [(0, .inr (.inr (a0))), (1, .inr (.inr (a1))), (2, .inr (.inr (a2))), (3, .inr (.inr (a3))), (4, .inl (a4)), (6, .inl (a6))] [] h hE (some (.inl (v))) := by
  unfold b_L_law_1171 at hf
  obtain ⟨x1, e1, hf⟩ := bnd hf
  have mE : hp_n h ≤ hp_n hE ∧ hp_s h ≤ hp_s hE := by
    by_cases hc : (lg_cmp x1 a6.toInt64) = 0
    · rw [if_pos hc] at hf; exact (q_L_law_1183 hr23 hf).1
    · rw [if_neg hc] at hf; exact (q_L_law_1181 hf).1
  refine ⟨by omega, fun X g K ok nmx lev hK en => ?_⟩
  refine tj_aload_n ok 3 dL_law_1171 rfl rfl ?_
  refine tj_iconst (v := 0) ok dL_law_1172 (by decide) ?_
  refine tj_laload ok dL_law_1173 e1 ?_
  refine tj_iload ok 5 dL_law_1174 rfl ?_
  refine tj_i2l ok dL_law_1176 ?_
  refine tj_lcmp ok dL_law_1177 ?_
  refine tj_if_eq (tgt := 1183) ok dL_law_1178 (by decide) (fun hc => ?_) (fun hc => ?_)
  · rw [if_pos hc] at hf
    refine tj_sub (lv' := [(0, .inr (.inr (a0))), (1, .inr (.inr (a1))), (2, .inr (.inr (a2))), (3, .inr (.inr (a3))), (4, .inl (a4))]) [0, 1, 2, 3, 4] rfl ?_
    exact (q_L_law_1183 hr23 hf).2 X g K ok nmx lev hK en
  · rw [if_neg hc] at hf
    refine tj_sub (lv' := []) [] rfl ?_
    exact (q_L_law_1181 hf).2 X g K ok nmx lev hK en
def b_L_law_1166 (L : Nat) (xs : Nat → Int32) (r23 : Nat → Nat → Nat → Nat → Int32 → AH → Option (Int32 × AH)) (a0 : Nat) (a1 : Nat) (a2 : Nat) (a3 : Nat) (a4 : Int32) (a5 : Int32) (a6 : Int32) (h : AH) : Option (Int32 × AH) :=
  if a5 = 0 then b_L_law_1171 L xs r23 a0 a1 a2 a3 a4 a6 h else b_L_law_1183 L xs r23 a0 a1 a2 a3 a4 h
set_option maxHeartbeats 4000000 in
set_option maxRecDepth 100000 in
theorem q_L_law_1166 {hE : AH} {v : Int32} {L : Nat} {xs : Nat → Int32} {r23 : Nat → Nat → Nat → Nat → Int32 → AH → Option (Int32 × AH)} (hr23 : ∀ (b0 : Nat) (b1 : Nat) (b2 : Nat) (b3 : Nat) (b4 : Int32) (h : AH), r23 b0 b1 b2 b3 b4 h = some (v, hE) → JL L xs cL_law 7 RL "law" (some .boolean) (243) 23 [(0, .inr (.inr (b0))), (1, .inr (.inr (b1))), (2, .inr (.inr (b2))), (3, .inr (.inr (b3))), (4, .inl (b4))] [] h hE (some (.inl (v)))) {a0 : Nat} {a1 : Nat} {a2 : Nat} {a3 : Nat} {a4 : Int32} {a5 : Int32} {a6 : Int32} {h : AH} (hf : b_L_law_1166 L xs r23 a0 a1 a2 a3 a4 a5 a6 h = some (v, hE)) : JL L xs cL_law 7 RL "law" (some .boolean) (243) 1166 [(0, .inr (.inr (a0))), (1, .inr (.inr (a1))), (2, .inr (.inr (a2))), (3, .inr (.inr (a3))), (4, .inl (a4)), (5, .inl (a5)), (6, .inl (a6))] [] h hE (some (.inl (v))) := by
  unfold b_L_law_1166 at hf
  have mE : hp_n h ≤ hp_n hE ∧ hp_s h ≤ hp_s hE := by
    by_cases hc : a5 = 0
    · rw [if_pos hc] at hf; exact (q_L_law_1171 hr23 hf).1
    · rw [if_neg hc] at hf; exact (q_L_law_1183 hr23 hf).1
  refine ⟨by omega, fun X g K ok nmx lev hK en => ?_⟩
  refine tj_iload ok 5 dL_law_1166 rfl ?_
  refine tj_if_ne (tgt := 1183) ok dL_law_1168 (by decide) (fun hc => ?_) (fun hc => ?_)
  · rw [if_neg hc] at hf
    refine tj_sub (lv' := [(0, .inr (.inr (a0))), (1, .inr (.inr (a1))), (2, .inr (.inr (a2))), (3, .inr (.inr (a3))), (4, .inl (a4))]) [0, 1, 2, 3, 4] rfl ?_
    exact (q_L_law_1183 hr23 hf).2 X g K ok nmx lev hK en
  · rw [if_pos hc] at hf
    refine tj_sub (lv' := [(0, .inr (.inr (a0))), (1, .inr (.inr (a1))), (2, .inr (.inr (a2))), (3, .inr (.inr (a3))), (4, .inl (a4)), (6, .inl (a6))]) [0, 1, 2, 3, 4, 6] rfl ?_
    exact (q_L_law_1171 hr23 hf).2 X g K ok nmx lev hK en
def b_L_law_1164 (L : Nat) (xs : Nat → Int32)  (h : AH) : Option (Int32 × AH) :=
  ok_z (0 : Int32) h
set_option maxHeartbeats 4000000 in
set_option maxRecDepth 100000 in
theorem q_L_law_1164 {L : Nat} {xs : Nat → Int32} {h hE : AH} {v : Int32} (hf : b_L_law_1164 L xs  h = some (v, hE)) : JL L xs cL_law 7 RL "law" (some .boolean) (243) 1164 [] [] h hE (some (.inl (v))) := by
  unfold b_L_law_1164 at hf
  have mE : hp_n h ≤ hp_n hE ∧ hp_s h ≤ hp_s hE := by obtain ⟨-, q⟩ := of_if hf; cases q; exact ⟨Nat.le_refl _, Nat.le_refl _⟩
  refine ⟨by omega, fun X g K ok nmx lev hK en => ?_⟩
  refine tj_iconst (v := 0) ok dL_law_1164 (by decide) ?_
  exact tj_lawret ok hf en dL_law_1165
def b_L_law_1130 (L : Nat) (xs : Nat → Int32) (r23 : Nat → Nat → Nat → Nat → Int32 → AH → Option (Int32 × AH)) (a0 : Nat) (a1 : Nat) (a2 : Nat) (a3 : Nat) (a4 : Int32) (h : AH) : Option (Int32 × AH) :=
  (sc_i L xs a0 (a4 + (1 : Int32))).bind fun x1 => (f_L_races a1 x1 a3 h).bind fun q2 => (sc_i L xs a0 (a4 + (1 : Int32))).bind fun x3 => (ok_v q2.2 a2 11).bind fun x4 => (f_X11_races a2 x3 q2.2).bind fun q5 => (ok_v q5.2 a2 11).bind fun x6 => (f_X11_thrown a2 q5.2).bind fun q7 => if q7.1 = q2.1 then b_L_law_1166 L xs r23 a0 a1 a2 a3 a4 q2.1 q5.1 q7.2 else b_L_law_1164 L xs q7.2
set_option maxHeartbeats 4000000 in
set_option maxRecDepth 100000 in
theorem q_L_law_1130 {hE : AH} {v : Int32} {L : Nat} {xs : Nat → Int32} {r23 : Nat → Nat → Nat → Nat → Int32 → AH → Option (Int32 × AH)} (hr23 : ∀ (b0 : Nat) (b1 : Nat) (b2 : Nat) (b3 : Nat) (b4 : Int32) (h : AH), r23 b0 b1 b2 b3 b4 h = some (v, hE) → JL L xs cL_law 7 RL "law" (some .boolean) (243) 23 [(0, .inr (.inr (b0))), (1, .inr (.inr (b1))), (2, .inr (.inr (b2))), (3, .inr (.inr (b3))), (4, .inl (b4))] [] h hE (some (.inl (v)))) {a0 : Nat} {a1 : Nat} {a2 : Nat} {a3 : Nat} {a4 : Int32} {h : AH} (hf : b_L_law_1130 L xs r23 a0 a1 a2 a3 a4 h = some (v, hE)) : JL L xs cL_law 7 RL "law" (some .boolean) (243) 1130 [(0, .inr (.inr (a0))), (1, .inr (.inr (a1))), (2, .inr (.inr (a2))), (3, .inr (.inr (a3))), (4, .inl (a4))] [] h hE (some (.inl (v))) := by
  unfold b_L_law_1130 at hf
  obtain ⟨x1, e1, hf⟩ := bnd hf
  obtain ⟨⟨x2, h2⟩, e2, hf⟩ := bnd hf
  try dsimp only at hf
  have k2 := c_L_races e2
  have m2 := (k2 default_g).1
  obtain ⟨x3, e3, hf⟩ := bnd hf
  obtain ⟨x4, e4, hf⟩ := bnd hf
  obtain ⟨⟨x5, h5⟩, e5, hf⟩ := bnd hf
  try dsimp only at hf
  have k5 := c_X11_races e5
  have m5 := (k5 default_g).1
  obtain ⟨x6, e6, hf⟩ := bnd hf
  obtain ⟨⟨x7, h7⟩, e7, hf⟩ := bnd hf
  try dsimp only at hf
  have k7 := c_X11_thrown e7
  have m7 := (k7 default_g).1
  have mE : hp_n h7 ≤ hp_n hE ∧ hp_s h7 ≤ hp_s hE := by
    by_cases hc : x7 = x2
    · rw [if_pos hc] at hf; exact (q_L_law_1166 hr23 hf).1
    · rw [if_neg hc] at hf; exact (q_L_law_1164 hf).1
  refine ⟨by omega, fun X g K ok nmx lev hK en => ?_⟩
  refine tj_aload_n ok 1 dL_law_1130 rfl rfl ?_
  refine tj_aload_n ok 0 dL_law_1131 rfl rfl ?_
  refine tj_iload ok 4 dL_law_1132 rfl ?_
  refine tj_iconst (v := 1) ok dL_law_1134 (by decide) ?_
  refine tj_iadd ok dL_law_1135 ?_
  refine tj_sld ok en dL_law_1136 e1 ?_
  refine tj_aload_n ok 3 dL_law_1137 rfl rfl ?_
  refine tj_callW (rest := ([] : List TV).map (vl g)) (as := [.inr (.inr (a1)), .inl (x1), .inr (.inr (a3))]) ok lev (by omega) (k2 g) (CaX.ofL en (by omega)) kw_L_races wm_1412 wm_1413 (rs_ok (Nat.le_of_ble_eq_true rfl)) rfl rfl dL_law_1138 ?_
  refine tj_istore (lv' := [(0, .inr (.inr (a0))), (1, .inr (.inr (a1))), (2, .inr (.inr (a2))), (3, .inr (.inr (a3))), (4, .inl (a4)), (5, .inl (x2))]) ok dL_law_1141 (by decide) rfl ?_
  refine tj_aload_n ok 2 dL_law_1143 rfl rfl ?_
  refine tj_aload_n ok 0 dL_law_1144 rfl rfl ?_
  refine tj_iload ok 4 dL_law_1145 rfl ?_
  refine tj_iconst (v := 1) ok dL_law_1147 (by decide) ?_
  refine tj_iadd ok dL_law_1148 ?_
  refine tj_sld ok en dL_law_1149 e3 ?_
  refine tj_callV (rest := ([] : List TV).map (vl g)) (as := [.inl (x3)]) ok lev (by omega) fcX11.1 (by decide) rfl (of_if e4).1 (k5 g) (CaX.ofL en (by omega)) kn_X11_races wm_1414 wm_1415 wm_1416 (rs_ok (Nat.le_of_ble_eq_true rfl)) rfl rfl dL_law_1150 ?_
  refine tj_istore (lv' := [(0, .inr (.inr (a0))), (1, .inr (.inr (a1))), (2, .inr (.inr (a2))), (3, .inr (.inr (a3))), (4, .inl (a4)), (5, .inl (x2)), (6, .inl (x5))]) ok dL_law_1153 (by decide) rfl ?_
  refine tj_aload_n ok 2 dL_law_1155 rfl rfl ?_
  refine tj_callV (rest := ([] : List TV).map (vl g)) (as := []) ok lev (by omega) fcX11.1 (by decide) rfl (of_if e6).1 (k7 g) (CaX.ofL en (by omega)) kn_X11_thrown wm_1329 wm_1330 wm_1331 (rs_ok (Nat.le_of_ble_eq_true rfl)) rfl rfl dL_law_1156 ?_
  refine tj_iload ok 5 dL_law_1159 rfl ?_
  refine tj_icmp_eq (tgt := 1166) ok dL_law_1161 (by decide) (fun hc => ?_) (fun hc => ?_)
  · rw [if_pos hc] at hf
    exact (q_L_law_1166 hr23 hf).2 X g K ok nmx lev hK en
  · rw [if_neg hc] at hf
    refine tj_sub (lv' := []) [] rfl ?_
    exact (q_L_law_1164 hf).2 X g K ok nmx lev hK en
def b_L_law_1263 (L : Nat) (xs : Nat → Int32) (r23 : Nat → Nat → Nat → Nat → Int32 → AH → Option (Int32 × AH)) (a0 : Nat) (a1 : Nat) (a2 : Nat) (a3 : Nat) (a4 : Int32) (h : AH) : Option (Int32 × AH) :=
  b_L_law_1569 L xs r23 a0 a1 a2 a3 a4 h
set_option maxHeartbeats 4000000 in
set_option maxRecDepth 100000 in
theorem q_L_law_1263 {hE : AH} {v : Int32} {L : Nat} {xs : Nat → Int32} {r23 : Nat → Nat → Nat → Nat → Int32 → AH → Option (Int32 × AH)} (hr23 : ∀ (b0 : Nat) (b1 : Nat) (b2 : Nat) (b3 : Nat) (b4 : Int32) (h : AH), r23 b0 b1 b2 b3 b4 h = some (v, hE) → JL L xs cL_law 7 RL "law" (some .boolean) (243) 23 [(0, .inr (.inr (b0))), (1, .inr (.inr (b1))), (2, .inr (.inr (b2))), (3, .inr (.inr (b3))), (4, .inl (b4))] [] h hE (some (.inl (v)))) {a0 : Nat} {a1 : Nat} {a2 : Nat} {a3 : Nat} {a4 : Int32} {h : AH} (hf : b_L_law_1263 L xs r23 a0 a1 a2 a3 a4 h = some (v, hE)) : JL L xs cL_law 7 RL "law" (some .boolean) (243) 1263 [(0, .inr (.inr (a0))), (1, .inr (.inr (a1))), (2, .inr (.inr (a2))), (3, .inr (.inr (a3))), (4, .inl (a4))] [] h hE (some (.inl (v))) := by
  unfold b_L_law_1263 at hf
  have J := q_L_law_1569 hr23 hf
  have mE := J.1
  refine ⟨by omega, fun X g K ok nmx lev hK en => ?_⟩
  refine tj_goto (tgt := 1569) ok dL_law_1263 (by decide) ?_
  exact J.2 X g K ok nmx lev hK en
def b_L_law_1261 (L : Nat) (xs : Nat → Int32)  (h : AH) : Option (Int32 × AH) :=
  ok_z (0 : Int32) h
set_option maxHeartbeats 4000000 in
set_option maxRecDepth 100000 in
theorem q_L_law_1261 {L : Nat} {xs : Nat → Int32} {h hE : AH} {v : Int32} (hf : b_L_law_1261 L xs  h = some (v, hE)) : JL L xs cL_law 7 RL "law" (some .boolean) (243) 1261 [] [] h hE (some (.inl (v))) := by
  unfold b_L_law_1261 at hf
  have mE : hp_n h ≤ hp_n hE ∧ hp_s h ≤ hp_s hE := by obtain ⟨-, q⟩ := of_if hf; cases q; exact ⟨Nat.le_refl _, Nat.le_refl _⟩
  refine ⟨by omega, fun X g K ok nmx lev hK en => ?_⟩
  refine tj_iconst (v := 0) ok dL_law_1261 (by decide) ?_
  exact tj_lawret ok hf en dL_law_1262
def b_L_law_1251 (L : Nat) (xs : Nat → Int32) (r23 : Nat → Nat → Nat → Nat → Int32 → AH → Option (Int32 × AH)) (a0 : Nat) (a1 : Nat) (a2 : Nat) (a3 : Nat) (a4 : Int32) (a6 : Int32) (h : AH) : Option (Int32 × AH) :=
  (l_j h a3 (0 : Int32)).bind fun x1 => if (lg_cmp x1 a6.toInt64) = 0 then b_L_law_1263 L xs r23 a0 a1 a2 a3 a4 h else b_L_law_1261 L xs h
set_option maxHeartbeats 4000000 in
set_option maxRecDepth 100000 in
theorem q_L_law_1251 {hE : AH} {v : Int32} {L : Nat} {xs : Nat → Int32} {r23 : Nat → Nat → Nat → Nat → Int32 → AH → Option (Int32 × AH)} (hr23 : ∀ (b0 : Nat) (b1 : Nat) (b2 : Nat) (b3 : Nat) (b4 : Int32) (h : AH), r23 b0 b1 b2 b3 b4 h = some (v, hE) → JL L xs cL_law 7 RL "law" (some .boolean) (243) 23 [(0, .inr (.inr (b0))), (1, .inr (.inr (b1))), (2, .inr (.inr (b2))), (3, .inr (.inr (b3))), (4, .inl (b4))] [] h hE (some (.inl (v)))) {a0 : Nat} {a1 : Nat} {a2 : Nat} {a3 : Nat} {a4 : Int32} {a6 : Int32} {h : AH} (hf : b_L_law_1251 L xs r23 a0 a1 a2 a3 a4 a6 h = some (v, hE)) : JL L xs cL_law 7 RL "law" (some .boolean) (243) 1251 [(0, .inr (.inr (a0))), (1, .inr (.inr (a1))), (2, .inr (.inr (a2))), (3, .inr (.inr (a3))), (4, .inl (a4)), (6, .inl (a6))] [] h hE (some (.inl (v))) := by
  unfold b_L_law_1251 at hf
  obtain ⟨x1, e1, hf⟩ := bnd hf
  have mE : hp_n h ≤ hp_n hE ∧ hp_s h ≤ hp_s hE := by
    by_cases hc : (lg_cmp x1 a6.toInt64) = 0
    · rw [if_pos hc] at hf; exact (q_L_law_1263 hr23 hf).1
    · rw [if_neg hc] at hf; exact (q_L_law_1261 hf).1
  refine ⟨by omega, fun X g K ok nmx lev hK en => ?_⟩
  refine tj_aload_n ok 3 dL_law_1251 rfl rfl ?_
  refine tj_iconst (v := 0) ok dL_law_1252 (by decide) ?_
  refine tj_laload ok dL_law_1253 e1 ?_
  refine tj_iload ok 5 dL_law_1254 rfl ?_
  refine tj_i2l ok dL_law_1256 ?_
  refine tj_lcmp ok dL_law_1257 ?_
  refine tj_if_eq (tgt := 1263) ok dL_law_1258 (by decide) (fun hc => ?_) (fun hc => ?_)
  · rw [if_pos hc] at hf
    refine tj_sub (lv' := [(0, .inr (.inr (a0))), (1, .inr (.inr (a1))), (2, .inr (.inr (a2))), (3, .inr (.inr (a3))), (4, .inl (a4))]) [0, 1, 2, 3, 4] rfl ?_
    exact (q_L_law_1263 hr23 hf).2 X g K ok nmx lev hK en
  · rw [if_neg hc] at hf
    refine tj_sub (lv' := []) [] rfl ?_
    exact (q_L_law_1261 hf).2 X g K ok nmx lev hK en
def b_L_law_1246 (L : Nat) (xs : Nat → Int32) (r23 : Nat → Nat → Nat → Nat → Int32 → AH → Option (Int32 × AH)) (a0 : Nat) (a1 : Nat) (a2 : Nat) (a3 : Nat) (a4 : Int32) (a5 : Int32) (a6 : Int32) (h : AH) : Option (Int32 × AH) :=
  if a5 = 0 then b_L_law_1251 L xs r23 a0 a1 a2 a3 a4 a6 h else b_L_law_1263 L xs r23 a0 a1 a2 a3 a4 h
set_option maxHeartbeats 4000000 in
set_option maxRecDepth 100000 in
theorem q_L_law_1246 {hE : AH} {v : Int32} {L : Nat} {xs : Nat → Int32} {r23 : Nat → Nat → Nat → Nat → Int32 → AH → Option (Int32 × AH)} (hr23 : ∀ (b0 : Nat) (b1 : Nat) (b2 : Nat) (b3 : Nat) (b4 : Int32) (h : AH), r23 b0 b1 b2 b3 b4 h = some (v, hE) → JL L xs cL_law 7 RL "law" (some .boolean) (243) 23 [(0, .inr (.inr (b0))), (1, .inr (.inr (b1))), (2, .inr (.inr (b2))), (3, .inr (.inr (b3))), (4, .inl (b4))] [] h hE (some (.inl (v)))) {a0 : Nat} {a1 : Nat} {a2 : Nat} {a3 : Nat} {a4 : Int32} {a5 : Int32} {a6 : Int32} {h : AH} (hf : b_L_law_1246 L xs r23 a0 a1 a2 a3 a4 a5 a6 h = some (v, hE)) : JL L xs cL_law 7 RL "law" (some .boolean) (243) 1246 [(0, .inr (.inr (a0))), (1, .inr (.inr (a1))), (2, .inr (.inr (a2))), (3, .inr (.inr (a3))), (4, .inl (a4)), (5, .inl (a5)), (6, .inl (a6))] [] h hE (some (.inl (v))) := by
  unfold b_L_law_1246 at hf
  have mE : hp_n h ≤ hp_n hE ∧ hp_s h ≤ hp_s hE := by
    by_cases hc : a5 = 0
    · rw [if_pos hc] at hf; exact (q_L_law_1251 hr23 hf).1
    · rw [if_neg hc] at hf; exact (q_L_law_1263 hr23 hf).1
  refine ⟨by omega, fun X g K ok nmx lev hK en => ?_⟩
  refine tj_iload ok 5 dL_law_1246 rfl ?_
  refine tj_if_ne (tgt := 1263) ok dL_law_1248 (by decide) (fun hc => ?_) (fun hc => ?_)
  · rw [if_neg hc] at hf
    refine tj_sub (lv' := [(0, .inr (.inr (a0))), (1, .inr (.inr (a1))), (2, .inr (.inr (a2))), (3, .inr (.inr (a3))), (4, .inl (a4))]) [0, 1, 2, 3, 4] rfl ?_
    exact (q_L_law_1263 hr23 hf).2 X g K ok nmx lev hK en
  · rw [if_pos hc] at hf
    refine tj_sub (lv' := [(0, .inr (.inr (a0))), (1, .inr (.inr (a1))), (2, .inr (.inr (a2))), (3, .inr (.inr (a3))), (4, .inl (a4)), (6, .inl (a6))]) [0, 1, 2, 3, 4, 6] rfl ?_
    exact (q_L_law_1251 hr23 hf).2 X g K ok nmx lev hK en
def b_L_law_1244 (L : Nat) (xs : Nat → Int32)  (h : AH) : Option (Int32 × AH) :=
  ok_z (0 : Int32) h
set_option maxHeartbeats 4000000 in
set_option maxRecDepth 100000 in
theorem q_L_law_1244 {L : Nat} {xs : Nat → Int32} {h hE : AH} {v : Int32} (hf : b_L_law_1244 L xs  h = some (v, hE)) : JL L xs cL_law 7 RL "law" (some .boolean) (243) 1244 [] [] h hE (some (.inl (v))) := by
  unfold b_L_law_1244 at hf
  have mE : hp_n h ≤ hp_n hE ∧ hp_s h ≤ hp_s hE := by obtain ⟨-, q⟩ := of_if hf; cases q; exact ⟨Nat.le_refl _, Nat.le_refl _⟩
  refine ⟨by omega, fun X g K ok nmx lev hK en => ?_⟩
  refine tj_iconst (v := 0) ok dL_law_1244 (by decide) ?_
  exact tj_lawret ok hf en dL_law_1245
def b_L_law_1186 (L : Nat) (xs : Nat → Int32) (r23 : Nat → Nat → Nat → Nat → Int32 → AH → Option (Int32 × AH)) (a0 : Nat) (a1 : Nat) (a2 : Nat) (a3 : Nat) (a4 : Int32) (h : AH) : Option (Int32 × AH) :=
  (sc_i L xs a0 (a4 + (1 : Int32))).bind fun x1 => (sc_i L xs a0 (a4 + (2 : Int32))).bind fun x2 => (sc_i L xs a0 (a4 + (3 : Int32))).bind fun x3 => (f_L_race a1 x1 x2 x3 a3 h).bind fun q4 => (sc_i L xs a0 (a4 + (1 : Int32))).bind fun x5 => (sc_i L xs a0 (a4 + (2 : Int32))).bind fun x6 => (sc_i L xs a0 (a4 + (3 : Int32))).bind fun x7 => (ok_v q4.2 a2 11).bind fun x8 => (f_X11_race a2 x5 x6 x7 q4.2).bind fun q9 => (ok_v q9.2 a2 11).bind fun x10 => (f_X11_thrown a2 q9.2).bind fun q11 => if q11.1 = q4.1 then b_L_law_1246 L xs r23 a0 a1 a2 a3 a4 q4.1 q9.1 q11.2 else b_L_law_1244 L xs q11.2
set_option maxHeartbeats 4000000 in
set_option maxRecDepth 100000 in
theorem q_L_law_1186 {hE : AH} {v : Int32} {L : Nat} {xs : Nat → Int32} {r23 : Nat → Nat → Nat → Nat → Int32 → AH → Option (Int32 × AH)} (hr23 : ∀ (b0 : Nat) (b1 : Nat) (b2 : Nat) (b3 : Nat) (b4 : Int32) (h : AH), r23 b0 b1 b2 b3 b4 h = some (v, hE) → JL L xs cL_law 7 RL "law" (some .boolean) (243) 23 [(0, .inr (.inr (b0))), (1, .inr (.inr (b1))), (2, .inr (.inr (b2))), (3, .inr (.inr (b3))), (4, .inl (b4))] [] h hE (some (.inl (v)))) {a0 : Nat} {a1 : Nat} {a2 : Nat} {a3 : Nat} {a4 : Int32} {h : AH} (hf : b_L_law_1186 L xs r23 a0 a1 a2 a3 a4 h = some (v, hE)) : JL L xs cL_law 7 RL "law" (some .boolean) (243) 1186 [(0, .inr (.inr (a0))), (1, .inr (.inr (a1))), (2, .inr (.inr (a2))), (3, .inr (.inr (a3))), (4, .inl (a4))] [] h hE (some (.inl (v))) := by
  unfold b_L_law_1186 at hf
  obtain ⟨x1, e1, hf⟩ := bnd hf
  obtain ⟨x2, e2, hf⟩ := bnd hf
  obtain ⟨x3, e3, hf⟩ := bnd hf
  obtain ⟨⟨x4, h4⟩, e4, hf⟩ := bnd hf
  try dsimp only at hf
  have k4 := c_L_race e4
  have m4 := (k4 default_g).1
  obtain ⟨x5, e5, hf⟩ := bnd hf
  obtain ⟨x6, e6, hf⟩ := bnd hf
  obtain ⟨x7, e7, hf⟩ := bnd hf
  obtain ⟨x8, e8, hf⟩ := bnd hf
  obtain ⟨⟨x9, h9⟩, e9, hf⟩ := bnd hf
  try dsimp only at hf
  have k9 := c_X11_race e9
  have m9 := (k9 default_g).1
  obtain ⟨x10, e10, hf⟩ := bnd hf
  obtain ⟨⟨x11, h11⟩, e11, hf⟩ := bnd hf
  try dsimp only at hf
  have k11 := c_X11_thrown e11
  have m11 := (k11 default_g).1
  have mE : hp_n h11 ≤ hp_n hE ∧ hp_s h11 ≤ hp_s hE := by
    by_cases hc : x11 = x4
    · rw [if_pos hc] at hf; exact (q_L_law_1246 hr23 hf).1
    · rw [if_neg hc] at hf; exact (q_L_law_1244 hf).1
  refine ⟨by omega, fun X g K ok nmx lev hK en => ?_⟩
  refine tj_aload_n ok 1 dL_law_1186 rfl rfl ?_
  refine tj_aload_n ok 0 dL_law_1187 rfl rfl ?_
  refine tj_iload ok 4 dL_law_1188 rfl ?_
  refine tj_iconst (v := 1) ok dL_law_1190 (by decide) ?_
  refine tj_iadd ok dL_law_1191 ?_
  refine tj_sld ok en dL_law_1192 e1 ?_
  refine tj_aload_n ok 0 dL_law_1193 rfl rfl ?_
  refine tj_iload ok 4 dL_law_1194 rfl ?_
  refine tj_iconst (v := 2) ok dL_law_1196 (by decide) ?_
  refine tj_iadd ok dL_law_1197 ?_
  refine tj_sld ok en dL_law_1198 e2 ?_
  refine tj_aload_n ok 0 dL_law_1199 rfl rfl ?_
  refine tj_iload ok 4 dL_law_1200 rfl ?_
  refine tj_iconst (v := 3) ok dL_law_1202 (by decide) ?_
  refine tj_iadd ok dL_law_1203 ?_
  refine tj_sld ok en dL_law_1204 e3 ?_
  refine tj_aload_n ok 3 dL_law_1205 rfl rfl ?_
  refine tj_callW (rest := ([] : List TV).map (vl g)) (as := [.inr (.inr (a1)), .inl (x1), .inl (x2), .inl (x3), .inr (.inr (a3))]) ok lev (by omega) (k4 g) (CaX.ofL en (by omega)) kw_L_race wm_1417 wm_1418 (rs_ok (Nat.le_of_ble_eq_true rfl)) rfl rfl dL_law_1206 ?_
  refine tj_istore (lv' := [(0, .inr (.inr (a0))), (1, .inr (.inr (a1))), (2, .inr (.inr (a2))), (3, .inr (.inr (a3))), (4, .inl (a4)), (5, .inl (x4))]) ok dL_law_1209 (by decide) rfl ?_
  refine tj_aload_n ok 2 dL_law_1211 rfl rfl ?_
  refine tj_aload_n ok 0 dL_law_1212 rfl rfl ?_
  refine tj_iload ok 4 dL_law_1213 rfl ?_
  refine tj_iconst (v := 1) ok dL_law_1215 (by decide) ?_
  refine tj_iadd ok dL_law_1216 ?_
  refine tj_sld ok en dL_law_1217 e5 ?_
  refine tj_aload_n ok 0 dL_law_1218 rfl rfl ?_
  refine tj_iload ok 4 dL_law_1219 rfl ?_
  refine tj_iconst (v := 2) ok dL_law_1221 (by decide) ?_
  refine tj_iadd ok dL_law_1222 ?_
  refine tj_sld ok en dL_law_1223 e6 ?_
  refine tj_aload_n ok 0 dL_law_1224 rfl rfl ?_
  refine tj_iload ok 4 dL_law_1225 rfl ?_
  refine tj_iconst (v := 3) ok dL_law_1227 (by decide) ?_
  refine tj_iadd ok dL_law_1228 ?_
  refine tj_sld ok en dL_law_1229 e7 ?_
  refine tj_callV (rest := ([] : List TV).map (vl g)) (as := [.inl (x5), .inl (x6), .inl (x7)]) ok lev (by omega) fcX11.1 (by decide) rfl (of_if e8).1 (k9 g) (CaX.ofL en (by omega)) kn_X11_race wm_1419 wm_1420 wm_1421 (rs_ok (Nat.le_of_ble_eq_true rfl)) rfl rfl dL_law_1230 ?_
  refine tj_istore (lv' := [(0, .inr (.inr (a0))), (1, .inr (.inr (a1))), (2, .inr (.inr (a2))), (3, .inr (.inr (a3))), (4, .inl (a4)), (5, .inl (x4)), (6, .inl (x9))]) ok dL_law_1233 (by decide) rfl ?_
  refine tj_aload_n ok 2 dL_law_1235 rfl rfl ?_
  refine tj_callV (rest := ([] : List TV).map (vl g)) (as := []) ok lev (by omega) fcX11.1 (by decide) rfl (of_if e10).1 (k11 g) (CaX.ofL en (by omega)) kn_X11_thrown wm_1329 wm_1330 wm_1331 (rs_ok (Nat.le_of_ble_eq_true rfl)) rfl rfl dL_law_1236 ?_
  refine tj_iload ok 5 dL_law_1239 rfl ?_
  refine tj_icmp_eq (tgt := 1246) ok dL_law_1241 (by decide) (fun hc => ?_) (fun hc => ?_)
  · rw [if_pos hc] at hf
    exact (q_L_law_1246 hr23 hf).2 X g K ok nmx lev hK en
  · rw [if_neg hc] at hf
    refine tj_sub (lv' := []) [] rfl ?_
    exact (q_L_law_1244 hf).2 X g K ok nmx lev hK en
def b_L_law_1343 (L : Nat) (xs : Nat → Int32) (r23 : Nat → Nat → Nat → Nat → Int32 → AH → Option (Int32 × AH)) (a0 : Nat) (a1 : Nat) (a2 : Nat) (a3 : Nat) (a4 : Int32) (h : AH) : Option (Int32 × AH) :=
  b_L_law_1569 L xs r23 a0 a1 a2 a3 a4 h
set_option maxHeartbeats 4000000 in
set_option maxRecDepth 100000 in
theorem q_L_law_1343 {hE : AH} {v : Int32} {L : Nat} {xs : Nat → Int32} {r23 : Nat → Nat → Nat → Nat → Int32 → AH → Option (Int32 × AH)} (hr23 : ∀ (b0 : Nat) (b1 : Nat) (b2 : Nat) (b3 : Nat) (b4 : Int32) (h : AH), r23 b0 b1 b2 b3 b4 h = some (v, hE) → JL L xs cL_law 7 RL "law" (some .boolean) (243) 23 [(0, .inr (.inr (b0))), (1, .inr (.inr (b1))), (2, .inr (.inr (b2))), (3, .inr (.inr (b3))), (4, .inl (b4))] [] h hE (some (.inl (v)))) {a0 : Nat} {a1 : Nat} {a2 : Nat} {a3 : Nat} {a4 : Int32} {h : AH} (hf : b_L_law_1343 L xs r23 a0 a1 a2 a3 a4 h = some (v, hE)) : JL L xs cL_law 7 RL "law" (some .boolean) (243) 1343 [(0, .inr (.inr (a0))), (1, .inr (.inr (a1))), (2, .inr (.inr (a2))), (3, .inr (.inr (a3))), (4, .inl (a4))] [] h hE (some (.inl (v))) := by
  unfold b_L_law_1343 at hf
  have J := q_L_law_1569 hr23 hf
  have mE := J.1
  refine ⟨by omega, fun X g K ok nmx lev hK en => ?_⟩
  refine tj_goto (tgt := 1569) ok dL_law_1343 (by decide) ?_
  exact J.2 X g K ok nmx lev hK en
def b_L_law_1341 (L : Nat) (xs : Nat → Int32)  (h : AH) : Option (Int32 × AH) :=
  ok_z (0 : Int32) h
set_option maxHeartbeats 4000000 in
set_option maxRecDepth 100000 in
theorem q_L_law_1341 {L : Nat} {xs : Nat → Int32} {h hE : AH} {v : Int32} (hf : b_L_law_1341 L xs  h = some (v, hE)) : JL L xs cL_law 7 RL "law" (some .boolean) (243) 1341 [] [] h hE (some (.inl (v))) := by
  unfold b_L_law_1341 at hf
  have mE : hp_n h ≤ hp_n hE ∧ hp_s h ≤ hp_s hE := by obtain ⟨-, q⟩ := of_if hf; cases q; exact ⟨Nat.le_refl _, Nat.le_refl _⟩
  refine ⟨by omega, fun X g K ok nmx lev hK en => ?_⟩
  refine tj_iconst (v := 0) ok dL_law_1341 (by decide) ?_
  exact tj_lawret ok hf en dL_law_1342
def b_L_law_1331 (L : Nat) (xs : Nat → Int32) (r23 : Nat → Nat → Nat → Nat → Int32 → AH → Option (Int32 × AH)) (a0 : Nat) (a1 : Nat) (a2 : Nat) (a3 : Nat) (a4 : Int32) (a6 : Int32) (h : AH) : Option (Int32 × AH) :=
  (l_j h a3 (0 : Int32)).bind fun x1 => if (lg_cmp x1 a6.toInt64) = 0 then b_L_law_1343 L xs r23 a0 a1 a2 a3 a4 h else b_L_law_1341 L xs h
set_option maxHeartbeats 4000000 in
set_option maxRecDepth 100000 in
theorem q_L_law_1331 {hE : AH} {v : Int32} {L : Nat} {xs : Nat → Int32} {r23 : Nat → Nat → Nat → Nat → Int32 → AH → Option (Int32 × AH)} (hr23 : ∀ (b0 : Nat) (b1 : Nat) (b2 : Nat) (b3 : Nat) (b4 : Int32) (h : AH), r23 b0 b1 b2 b3 b4 h = some (v, hE) → JL L xs cL_law 7 RL "law" (some .boolean) (243) 23 [(0, .inr (.inr (b0))), (1, .inr (.inr (b1))), (2, .inr (.inr (b2))), (3, .inr (.inr (b3))), (4, .inl (b4))] [] h hE (some (.inl (v)))) {a0 : Nat} {a1 : Nat} {a2 : Nat} {a3 : Nat} {a4 : Int32} {a6 : Int32} {h : AH} (hf : b_L_law_1331 L xs r23 a0 a1 a2 a3 a4 a6 h = some (v, hE)) : JL L xs cL_law 7 RL "law" (some .boolean) (243) 1331 [(0, .inr (.inr (a0))), (1, .inr (.inr (a1))), (2, .inr (.inr (a2))), (3, .inr (.inr (a3))), (4, .inl (a4)), (6, .inl (a6))] [] h hE (some (.inl (v))) := by
  unfold b_L_law_1331 at hf
  obtain ⟨x1, e1, hf⟩ := bnd hf
  have mE : hp_n h ≤ hp_n hE ∧ hp_s h ≤ hp_s hE := by
    by_cases hc : (lg_cmp x1 a6.toInt64) = 0
    · rw [if_pos hc] at hf; exact (q_L_law_1343 hr23 hf).1
    · rw [if_neg hc] at hf; exact (q_L_law_1341 hf).1
  refine ⟨by omega, fun X g K ok nmx lev hK en => ?_⟩
  refine tj_aload_n ok 3 dL_law_1331 rfl rfl ?_
  refine tj_iconst (v := 0) ok dL_law_1332 (by decide) ?_
  refine tj_laload ok dL_law_1333 e1 ?_
  refine tj_iload ok 5 dL_law_1334 rfl ?_
  refine tj_i2l ok dL_law_1336 ?_
  refine tj_lcmp ok dL_law_1337 ?_
  refine tj_if_eq (tgt := 1343) ok dL_law_1338 (by decide) (fun hc => ?_) (fun hc => ?_)
  · rw [if_pos hc] at hf
    refine tj_sub (lv' := [(0, .inr (.inr (a0))), (1, .inr (.inr (a1))), (2, .inr (.inr (a2))), (3, .inr (.inr (a3))), (4, .inl (a4))]) [0, 1, 2, 3, 4] rfl ?_
    exact (q_L_law_1343 hr23 hf).2 X g K ok nmx lev hK en
  · rw [if_neg hc] at hf
    refine tj_sub (lv' := []) [] rfl ?_
    exact (q_L_law_1341 hf).2 X g K ok nmx lev hK en
def b_L_law_1326 (L : Nat) (xs : Nat → Int32) (r23 : Nat → Nat → Nat → Nat → Int32 → AH → Option (Int32 × AH)) (a0 : Nat) (a1 : Nat) (a2 : Nat) (a3 : Nat) (a4 : Int32) (a5 : Int32) (a6 : Int32) (h : AH) : Option (Int32 × AH) :=
  if a5 = 0 then b_L_law_1331 L xs r23 a0 a1 a2 a3 a4 a6 h else b_L_law_1343 L xs r23 a0 a1 a2 a3 a4 h
set_option maxHeartbeats 4000000 in
set_option maxRecDepth 100000 in
theorem q_L_law_1326 {hE : AH} {v : Int32} {L : Nat} {xs : Nat → Int32} {r23 : Nat → Nat → Nat → Nat → Int32 → AH → Option (Int32 × AH)} (hr23 : ∀ (b0 : Nat) (b1 : Nat) (b2 : Nat) (b3 : Nat) (b4 : Int32) (h : AH), r23 b0 b1 b2 b3 b4 h = some (v, hE) → JL L xs cL_law 7 RL "law" (some .boolean) (243) 23 [(0, .inr (.inr (b0))), (1, .inr (.inr (b1))), (2, .inr (.inr (b2))), (3, .inr (.inr (b3))), (4, .inl (b4))] [] h hE (some (.inl (v)))) {a0 : Nat} {a1 : Nat} {a2 : Nat} {a3 : Nat} {a4 : Int32} {a5 : Int32} {a6 : Int32} {h : AH} (hf : b_L_law_1326 L xs r23 a0 a1 a2 a3 a4 a5 a6 h = some (v, hE)) : JL L xs cL_law 7 RL "law" (some .boolean) (243) 1326 [(0, .inr (.inr (a0))), (1, .inr (.inr (a1))), (2, .inr (.inr (a2))), (3, .inr (.inr (a3))), (4, .inl (a4)), (5, .inl (a5)), (6, .inl (a6))] [] h hE (some (.inl (v))) := by
  unfold b_L_law_1326 at hf
  have mE : hp_n h ≤ hp_n hE ∧ hp_s h ≤ hp_s hE := by
    by_cases hc : a5 = 0
    · rw [if_pos hc] at hf; exact (q_L_law_1331 hr23 hf).1
    · rw [if_neg hc] at hf; exact (q_L_law_1343 hr23 hf).1
  refine ⟨by omega, fun X g K ok nmx lev hK en => ?_⟩
  refine tj_iload ok 5 dL_law_1326 rfl ?_
  refine tj_if_ne (tgt := 1343) ok dL_law_1328 (by decide) (fun hc => ?_) (fun hc => ?_)
  · rw [if_neg hc] at hf
    refine tj_sub (lv' := [(0, .inr (.inr (a0))), (1, .inr (.inr (a1))), (2, .inr (.inr (a2))), (3, .inr (.inr (a3))), (4, .inl (a4))]) [0, 1, 2, 3, 4] rfl ?_
    exact (q_L_law_1343 hr23 hf).2 X g K ok nmx lev hK en
  · rw [if_pos hc] at hf
    refine tj_sub (lv' := [(0, .inr (.inr (a0))), (1, .inr (.inr (a1))), (2, .inr (.inr (a2))), (3, .inr (.inr (a3))), (4, .inl (a4)), (6, .inl (a6))]) [0, 1, 2, 3, 4, 6] rfl ?_
    exact (q_L_law_1331 hr23 hf).2 X g K ok nmx lev hK en
def b_L_law_1324 (L : Nat) (xs : Nat → Int32)  (h : AH) : Option (Int32 × AH) :=
  ok_z (0 : Int32) h
set_option maxHeartbeats 4000000 in
set_option maxRecDepth 100000 in
theorem q_L_law_1324 {L : Nat} {xs : Nat → Int32} {h hE : AH} {v : Int32} (hf : b_L_law_1324 L xs  h = some (v, hE)) : JL L xs cL_law 7 RL "law" (some .boolean) (243) 1324 [] [] h hE (some (.inl (v))) := by
  unfold b_L_law_1324 at hf
  have mE : hp_n h ≤ hp_n hE ∧ hp_s h ≤ hp_s hE := by obtain ⟨-, q⟩ := of_if hf; cases q; exact ⟨Nat.le_refl _, Nat.le_refl _⟩
  refine ⟨by omega, fun X g K ok nmx lev hK en => ?_⟩
  refine tj_iconst (v := 0) ok dL_law_1324 (by decide) ?_
  exact tj_lawret ok hf en dL_law_1325
def b_L_law_1266 (L : Nat) (xs : Nat → Int32) (r23 : Nat → Nat → Nat → Nat → Int32 → AH → Option (Int32 × AH)) (a0 : Nat) (a1 : Nat) (a2 : Nat) (a3 : Nat) (a4 : Int32) (h : AH) : Option (Int32 × AH) :=
  (sc_i L xs a0 (a4 + (1 : Int32))).bind fun x1 => (sc_i L xs a0 (a4 + (2 : Int32))).bind fun x2 => (sc_i L xs a0 (a4 + (3 : Int32))).bind fun x3 => (f_L_before a1 x1 x2 x3 a3 h).bind fun q4 => (sc_i L xs a0 (a4 + (1 : Int32))).bind fun x5 => (sc_i L xs a0 (a4 + (2 : Int32))).bind fun x6 => (sc_i L xs a0 (a4 + (3 : Int32))).bind fun x7 => (ok_v q4.2 a2 11).bind fun x8 => (f_X11_before a2 x5 x6 x7 q4.2).bind fun q9 => (ok_v q9.2 a2 11).bind fun x10 => (f_X11_thrown a2 q9.2).bind fun q11 => if q11.1 = q4.1 then b_L_law_1326 L xs r23 a0 a1 a2 a3 a4 q4.1 q9.1 q11.2 else b_L_law_1324 L xs q11.2
set_option maxHeartbeats 4000000 in
set_option maxRecDepth 100000 in
theorem q_L_law_1266 {hE : AH} {v : Int32} {L : Nat} {xs : Nat → Int32} {r23 : Nat → Nat → Nat → Nat → Int32 → AH → Option (Int32 × AH)} (hr23 : ∀ (b0 : Nat) (b1 : Nat) (b2 : Nat) (b3 : Nat) (b4 : Int32) (h : AH), r23 b0 b1 b2 b3 b4 h = some (v, hE) → JL L xs cL_law 7 RL "law" (some .boolean) (243) 23 [(0, .inr (.inr (b0))), (1, .inr (.inr (b1))), (2, .inr (.inr (b2))), (3, .inr (.inr (b3))), (4, .inl (b4))] [] h hE (some (.inl (v)))) {a0 : Nat} {a1 : Nat} {a2 : Nat} {a3 : Nat} {a4 : Int32} {h : AH} (hf : b_L_law_1266 L xs r23 a0 a1 a2 a3 a4 h = some (v, hE)) : JL L xs cL_law 7 RL "law" (some .boolean) (243) 1266 [(0, .inr (.inr (a0))), (1, .inr (.inr (a1))), (2, .inr (.inr (a2))), (3, .inr (.inr (a3))), (4, .inl (a4))] [] h hE (some (.inl (v))) := by
  unfold b_L_law_1266 at hf
  obtain ⟨x1, e1, hf⟩ := bnd hf
  obtain ⟨x2, e2, hf⟩ := bnd hf
  obtain ⟨x3, e3, hf⟩ := bnd hf
  obtain ⟨⟨x4, h4⟩, e4, hf⟩ := bnd hf
  try dsimp only at hf
  have k4 := c_L_before e4
  have m4 := (k4 default_g).1
  obtain ⟨x5, e5, hf⟩ := bnd hf
  obtain ⟨x6, e6, hf⟩ := bnd hf
  obtain ⟨x7, e7, hf⟩ := bnd hf
  obtain ⟨x8, e8, hf⟩ := bnd hf
  obtain ⟨⟨x9, h9⟩, e9, hf⟩ := bnd hf
  try dsimp only at hf
  have k9 := c_X11_before e9
  have m9 := (k9 default_g).1
  obtain ⟨x10, e10, hf⟩ := bnd hf
  obtain ⟨⟨x11, h11⟩, e11, hf⟩ := bnd hf
  try dsimp only at hf
  have k11 := c_X11_thrown e11
  have m11 := (k11 default_g).1
  have mE : hp_n h11 ≤ hp_n hE ∧ hp_s h11 ≤ hp_s hE := by
    by_cases hc : x11 = x4
    · rw [if_pos hc] at hf; exact (q_L_law_1326 hr23 hf).1
    · rw [if_neg hc] at hf; exact (q_L_law_1324 hf).1
  refine ⟨by omega, fun X g K ok nmx lev hK en => ?_⟩
  refine tj_aload_n ok 1 dL_law_1266 rfl rfl ?_
  refine tj_aload_n ok 0 dL_law_1267 rfl rfl ?_
  refine tj_iload ok 4 dL_law_1268 rfl ?_
  refine tj_iconst (v := 1) ok dL_law_1270 (by decide) ?_
  refine tj_iadd ok dL_law_1271 ?_
  refine tj_sld ok en dL_law_1272 e1 ?_
  refine tj_aload_n ok 0 dL_law_1273 rfl rfl ?_
  refine tj_iload ok 4 dL_law_1274 rfl ?_
  refine tj_iconst (v := 2) ok dL_law_1276 (by decide) ?_
  refine tj_iadd ok dL_law_1277 ?_
  refine tj_sld ok en dL_law_1278 e2 ?_
  refine tj_aload_n ok 0 dL_law_1279 rfl rfl ?_
  refine tj_iload ok 4 dL_law_1280 rfl ?_
  refine tj_iconst (v := 3) ok dL_law_1282 (by decide) ?_
  refine tj_iadd ok dL_law_1283 ?_
  refine tj_sld ok en dL_law_1284 e3 ?_
  refine tj_aload_n ok 3 dL_law_1285 rfl rfl ?_
  refine tj_callW (rest := ([] : List TV).map (vl g)) (as := [.inr (.inr (a1)), .inl (x1), .inl (x2), .inl (x3), .inr (.inr (a3))]) ok lev (by omega) (k4 g) (CaX.ofL en (by omega)) kw_L_before wm_1422 wm_1423 (rs_ok (Nat.le_of_ble_eq_true rfl)) rfl rfl dL_law_1286 ?_
  refine tj_istore (lv' := [(0, .inr (.inr (a0))), (1, .inr (.inr (a1))), (2, .inr (.inr (a2))), (3, .inr (.inr (a3))), (4, .inl (a4)), (5, .inl (x4))]) ok dL_law_1289 (by decide) rfl ?_
  refine tj_aload_n ok 2 dL_law_1291 rfl rfl ?_
  refine tj_aload_n ok 0 dL_law_1292 rfl rfl ?_
  refine tj_iload ok 4 dL_law_1293 rfl ?_
  refine tj_iconst (v := 1) ok dL_law_1295 (by decide) ?_
  refine tj_iadd ok dL_law_1296 ?_
  refine tj_sld ok en dL_law_1297 e5 ?_
  refine tj_aload_n ok 0 dL_law_1298 rfl rfl ?_
  refine tj_iload ok 4 dL_law_1299 rfl ?_
  refine tj_iconst (v := 2) ok dL_law_1301 (by decide) ?_
  refine tj_iadd ok dL_law_1302 ?_
  refine tj_sld ok en dL_law_1303 e6 ?_
  refine tj_aload_n ok 0 dL_law_1304 rfl rfl ?_
  refine tj_iload ok 4 dL_law_1305 rfl ?_
  refine tj_iconst (v := 3) ok dL_law_1307 (by decide) ?_
  refine tj_iadd ok dL_law_1308 ?_
  refine tj_sld ok en dL_law_1309 e7 ?_
  refine tj_callV (rest := ([] : List TV).map (vl g)) (as := [.inl (x5), .inl (x6), .inl (x7)]) ok lev (by omega) fcX11.1 (by decide) rfl (of_if e8).1 (k9 g) (CaX.ofL en (by omega)) kn_X11_before wm_1424 wm_1425 wm_1426 (rs_ok (Nat.le_of_ble_eq_true rfl)) rfl rfl dL_law_1310 ?_
  refine tj_istore (lv' := [(0, .inr (.inr (a0))), (1, .inr (.inr (a1))), (2, .inr (.inr (a2))), (3, .inr (.inr (a3))), (4, .inl (a4)), (5, .inl (x4)), (6, .inl (x9))]) ok dL_law_1313 (by decide) rfl ?_
  refine tj_aload_n ok 2 dL_law_1315 rfl rfl ?_
  refine tj_callV (rest := ([] : List TV).map (vl g)) (as := []) ok lev (by omega) fcX11.1 (by decide) rfl (of_if e10).1 (k11 g) (CaX.ofL en (by omega)) kn_X11_thrown wm_1329 wm_1330 wm_1331 (rs_ok (Nat.le_of_ble_eq_true rfl)) rfl rfl dL_law_1316 ?_
  refine tj_iload ok 5 dL_law_1319 rfl ?_
  refine tj_icmp_eq (tgt := 1326) ok dL_law_1321 (by decide) (fun hc => ?_) (fun hc => ?_)
  · rw [if_pos hc] at hf
    exact (q_L_law_1326 hr23 hf).2 X g K ok nmx lev hK en
  · rw [if_neg hc] at hf
    refine tj_sub (lv' := []) [] rfl ?_
    exact (q_L_law_1324 hf).2 X g K ok nmx lev hK en
def b_L_law_1411 (L : Nat) (xs : Nat → Int32) (r23 : Nat → Nat → Nat → Nat → Int32 → AH → Option (Int32 × AH)) (a0 : Nat) (a1 : Nat) (a2 : Nat) (a3 : Nat) (a4 : Int32) (h : AH) : Option (Int32 × AH) :=
  b_L_law_1569 L xs r23 a0 a1 a2 a3 a4 h
set_option maxHeartbeats 4000000 in
set_option maxRecDepth 100000 in
theorem q_L_law_1411 {hE : AH} {v : Int32} {L : Nat} {xs : Nat → Int32} {r23 : Nat → Nat → Nat → Nat → Int32 → AH → Option (Int32 × AH)} (hr23 : ∀ (b0 : Nat) (b1 : Nat) (b2 : Nat) (b3 : Nat) (b4 : Int32) (h : AH), r23 b0 b1 b2 b3 b4 h = some (v, hE) → JL L xs cL_law 7 RL "law" (some .boolean) (243) 23 [(0, .inr (.inr (b0))), (1, .inr (.inr (b1))), (2, .inr (.inr (b2))), (3, .inr (.inr (b3))), (4, .inl (b4))] [] h hE (some (.inl (v)))) {a0 : Nat} {a1 : Nat} {a2 : Nat} {a3 : Nat} {a4 : Int32} {h : AH} (hf : b_L_law_1411 L xs r23 a0 a1 a2 a3 a4 h = some (v, hE)) : JL L xs cL_law 7 RL "law" (some .boolean) (243) 1411 [(0, .inr (.inr (a0))), (1, .inr (.inr (a1))), (2, .inr (.inr (a2))), (3, .inr (.inr (a3))), (4, .inl (a4))] [] h hE (some (.inl (v))) := by
  unfold b_L_law_1411 at hf
  have J := q_L_law_1569 hr23 hf
  have mE := J.1
  refine ⟨by omega, fun X g K ok nmx lev hK en => ?_⟩
  refine tj_goto (tgt := 1569) ok dL_law_1411 (by decide) ?_
  exact J.2 X g K ok nmx lev hK en
def b_L_law_1409 (L : Nat) (xs : Nat → Int32)  (h : AH) : Option (Int32 × AH) :=
  ok_z (0 : Int32) h
set_option maxHeartbeats 4000000 in
set_option maxRecDepth 100000 in
theorem q_L_law_1409 {L : Nat} {xs : Nat → Int32} {h hE : AH} {v : Int32} (hf : b_L_law_1409 L xs  h = some (v, hE)) : JL L xs cL_law 7 RL "law" (some .boolean) (243) 1409 [] [] h hE (some (.inl (v))) := by
  unfold b_L_law_1409 at hf
  have mE : hp_n h ≤ hp_n hE ∧ hp_s h ≤ hp_s hE := by obtain ⟨-, q⟩ := of_if hf; cases q; exact ⟨Nat.le_refl _, Nat.le_refl _⟩
  refine ⟨by omega, fun X g K ok nmx lev hK en => ?_⟩
  refine tj_iconst (v := 0) ok dL_law_1409 (by decide) ?_
  exact tj_lawret ok hf en dL_law_1410
def b_L_law_1399 (L : Nat) (xs : Nat → Int32) (r23 : Nat → Nat → Nat → Nat → Int32 → AH → Option (Int32 × AH)) (a0 : Nat) (a1 : Nat) (a2 : Nat) (a3 : Nat) (a4 : Int32) (a6 : Int32) (h : AH) : Option (Int32 × AH) :=
  (l_j h a3 (0 : Int32)).bind fun x1 => if (lg_cmp x1 a6.toInt64) = 0 then b_L_law_1411 L xs r23 a0 a1 a2 a3 a4 h else b_L_law_1409 L xs h
set_option maxHeartbeats 4000000 in
set_option maxRecDepth 100000 in
theorem q_L_law_1399 {hE : AH} {v : Int32} {L : Nat} {xs : Nat → Int32} {r23 : Nat → Nat → Nat → Nat → Int32 → AH → Option (Int32 × AH)} (hr23 : ∀ (b0 : Nat) (b1 : Nat) (b2 : Nat) (b3 : Nat) (b4 : Int32) (h : AH), r23 b0 b1 b2 b3 b4 h = some (v, hE) → JL L xs cL_law 7 RL "law" (some .boolean) (243) 23 [(0, .inr (.inr (b0))), (1, .inr (.inr (b1))), (2, .inr (.inr (b2))), (3, .inr (.inr (b3))), (4, .inl (b4))] [] h hE (some (.inl (v)))) {a0 : Nat} {a1 : Nat} {a2 : Nat} {a3 : Nat} {a4 : Int32} {a6 : Int32} {h : AH} (hf : b_L_law_1399 L xs r23 a0 a1 a2 a3 a4 a6 h = some (v, hE)) : JL L xs cL_law 7 RL "law" (some .boolean) (243) 1399 [(0, .inr (.inr (a0))), (1, .inr (.inr (a1))), (2, .inr (.inr (a2))), (3, .inr (.inr (a3))), (4, .inl (a4)), (6, .inl (a6))] [] h hE (some (.inl (v))) := by
  unfold b_L_law_1399 at hf
  obtain ⟨x1, e1, hf⟩ := bnd hf
  have mE : hp_n h ≤ hp_n hE ∧ hp_s h ≤ hp_s hE := by
    by_cases hc : (lg_cmp x1 a6.toInt64) = 0
    · rw [if_pos hc] at hf; exact (q_L_law_1411 hr23 hf).1
    · rw [if_neg hc] at hf; exact (q_L_law_1409 hf).1
  refine ⟨by omega, fun X g K ok nmx lev hK en => ?_⟩
  refine tj_aload_n ok 3 dL_law_1399 rfl rfl ?_
  refine tj_iconst (v := 0) ok dL_law_1400 (by decide) ?_
  refine tj_laload ok dL_law_1401 e1 ?_
  refine tj_iload ok 5 dL_law_1402 rfl ?_
  refine tj_i2l ok dL_law_1404 ?_
  refine tj_lcmp ok dL_law_1405 ?_
  refine tj_if_eq (tgt := 1411) ok dL_law_1406 (by decide) (fun hc => ?_) (fun hc => ?_)
  · rw [if_pos hc] at hf
    refine tj_sub (lv' := [(0, .inr (.inr (a0))), (1, .inr (.inr (a1))), (2, .inr (.inr (a2))), (3, .inr (.inr (a3))), (4, .inl (a4))]) [0, 1, 2, 3, 4] rfl ?_
    exact (q_L_law_1411 hr23 hf).2 X g K ok nmx lev hK en
  · rw [if_neg hc] at hf
    refine tj_sub (lv' := []) [] rfl ?_
    exact (q_L_law_1409 hf).2 X g K ok nmx lev hK en
def b_L_law_1394 (L : Nat) (xs : Nat → Int32) (r23 : Nat → Nat → Nat → Nat → Int32 → AH → Option (Int32 × AH)) (a0 : Nat) (a1 : Nat) (a2 : Nat) (a3 : Nat) (a4 : Int32) (a5 : Int32) (a6 : Int32) (h : AH) : Option (Int32 × AH) :=
  if a5 = 0 then b_L_law_1399 L xs r23 a0 a1 a2 a3 a4 a6 h else b_L_law_1411 L xs r23 a0 a1 a2 a3 a4 h
set_option maxHeartbeats 4000000 in
set_option maxRecDepth 100000 in
theorem q_L_law_1394 {hE : AH} {v : Int32} {L : Nat} {xs : Nat → Int32} {r23 : Nat → Nat → Nat → Nat → Int32 → AH → Option (Int32 × AH)} (hr23 : ∀ (b0 : Nat) (b1 : Nat) (b2 : Nat) (b3 : Nat) (b4 : Int32) (h : AH), r23 b0 b1 b2 b3 b4 h = some (v, hE) → JL L xs cL_law 7 RL "law" (some .boolean) (243) 23 [(0, .inr (.inr (b0))), (1, .inr (.inr (b1))), (2, .inr (.inr (b2))), (3, .inr (.inr (b3))), (4, .inl (b4))] [] h hE (some (.inl (v)))) {a0 : Nat} {a1 : Nat} {a2 : Nat} {a3 : Nat} {a4 : Int32} {a5 : Int32} {a6 : Int32} {h : AH} (hf : b_L_law_1394 L xs r23 a0 a1 a2 a3 a4 a5 a6 h = some (v, hE)) : JL L xs cL_law 7 RL "law" (some .boolean) (243) 1394 [(0, .inr (.inr (a0))), (1, .inr (.inr (a1))), (2, .inr (.inr (a2))), (3, .inr (.inr (a3))), (4, .inl (a4)), (5, .inl (a5)), (6, .inl (a6))] [] h hE (some (.inl (v))) := by
  unfold b_L_law_1394 at hf
  have mE : hp_n h ≤ hp_n hE ∧ hp_s h ≤ hp_s hE := by
    by_cases hc : a5 = 0
    · rw [if_pos hc] at hf; exact (q_L_law_1399 hr23 hf).1
    · rw [if_neg hc] at hf; exact (q_L_law_1411 hr23 hf).1
  refine ⟨by omega, fun X g K ok nmx lev hK en => ?_⟩
  refine tj_iload ok 5 dL_law_1394 rfl ?_
  refine tj_if_ne (tgt := 1411) ok dL_law_1396 (by decide) (fun hc => ?_) (fun hc => ?_)
  · rw [if_neg hc] at hf
    refine tj_sub (lv' := [(0, .inr (.inr (a0))), (1, .inr (.inr (a1))), (2, .inr (.inr (a2))), (3, .inr (.inr (a3))), (4, .inl (a4))]) [0, 1, 2, 3, 4] rfl ?_
    exact (q_L_law_1411 hr23 hf).2 X g K ok nmx lev hK en
  · rw [if_pos hc] at hf
    refine tj_sub (lv' := [(0, .inr (.inr (a0))), (1, .inr (.inr (a1))), (2, .inr (.inr (a2))), (3, .inr (.inr (a3))), (4, .inl (a4)), (6, .inl (a6))]) [0, 1, 2, 3, 4, 6] rfl ?_
    exact (q_L_law_1399 hr23 hf).2 X g K ok nmx lev hK en
def b_L_law_1392 (L : Nat) (xs : Nat → Int32)  (h : AH) : Option (Int32 × AH) :=
  ok_z (0 : Int32) h
set_option maxHeartbeats 4000000 in
set_option maxRecDepth 100000 in
theorem q_L_law_1392 {L : Nat} {xs : Nat → Int32} {h hE : AH} {v : Int32} (hf : b_L_law_1392 L xs  h = some (v, hE)) : JL L xs cL_law 7 RL "law" (some .boolean) (243) 1392 [] [] h hE (some (.inl (v))) := by
  unfold b_L_law_1392 at hf
  have mE : hp_n h ≤ hp_n hE ∧ hp_s h ≤ hp_s hE := by obtain ⟨-, q⟩ := of_if hf; cases q; exact ⟨Nat.le_refl _, Nat.le_refl _⟩
  refine ⟨by omega, fun X g K ok nmx lev hK en => ?_⟩
  refine tj_iconst (v := 0) ok dL_law_1392 (by decide) ?_
  exact tj_lawret ok hf en dL_law_1393
def b_L_law_1346 (L : Nat) (xs : Nat → Int32) (r23 : Nat → Nat → Nat → Nat → Int32 → AH → Option (Int32 × AH)) (a0 : Nat) (a1 : Nat) (a2 : Nat) (a3 : Nat) (a4 : Int32) (h : AH) : Option (Int32 × AH) :=
  (sc_i L xs a0 (a4 + (1 : Int32))).bind fun x1 => (sc_i L xs a0 (a4 + (2 : Int32))).bind fun x2 => (f_L_fence a1 x1 x2 a3 h).bind fun q3 => (sc_i L xs a0 (a4 + (1 : Int32))).bind fun x4 => (sc_i L xs a0 (a4 + (2 : Int32))).bind fun x5 => (ok_v q3.2 a2 11).bind fun x6 => (f_X11_fence a2 x4 x5 q3.2).bind fun q7 => (ok_v q7.2 a2 11).bind fun x8 => (f_X11_thrown a2 q7.2).bind fun q9 => if q9.1 = q3.1 then b_L_law_1394 L xs r23 a0 a1 a2 a3 a4 q3.1 q7.1 q9.2 else b_L_law_1392 L xs q9.2
set_option maxHeartbeats 4000000 in
set_option maxRecDepth 100000 in
theorem q_L_law_1346 {hE : AH} {v : Int32} {L : Nat} {xs : Nat → Int32} {r23 : Nat → Nat → Nat → Nat → Int32 → AH → Option (Int32 × AH)} (hr23 : ∀ (b0 : Nat) (b1 : Nat) (b2 : Nat) (b3 : Nat) (b4 : Int32) (h : AH), r23 b0 b1 b2 b3 b4 h = some (v, hE) → JL L xs cL_law 7 RL "law" (some .boolean) (243) 23 [(0, .inr (.inr (b0))), (1, .inr (.inr (b1))), (2, .inr (.inr (b2))), (3, .inr (.inr (b3))), (4, .inl (b4))] [] h hE (some (.inl (v)))) {a0 : Nat} {a1 : Nat} {a2 : Nat} {a3 : Nat} {a4 : Int32} {h : AH} (hf : b_L_law_1346 L xs r23 a0 a1 a2 a3 a4 h = some (v, hE)) : JL L xs cL_law 7 RL "law" (some .boolean) (243) 1346 [(0, .inr (.inr (a0))), (1, .inr (.inr (a1))), (2, .inr (.inr (a2))), (3, .inr (.inr (a3))), (4, .inl (a4))] [] h hE (some (.inl (v))) := by
  unfold b_L_law_1346 at hf
  obtain ⟨x1, e1, hf⟩ := bnd hf
  obtain ⟨x2, e2, hf⟩ := bnd hf
  obtain ⟨⟨x3, h3⟩, e3, hf⟩ := bnd hf
  try dsimp only at hf
  have k3 := c_L_fence e3
  have m3 := (k3 default_g).1
  obtain ⟨x4, e4, hf⟩ := bnd hf
  obtain ⟨x5, e5, hf⟩ := bnd hf
  obtain ⟨x6, e6, hf⟩ := bnd hf
  obtain ⟨⟨x7, h7⟩, e7, hf⟩ := bnd hf
  try dsimp only at hf
  have k7 := c_X11_fence e7
  have m7 := (k7 default_g).1
  obtain ⟨x8, e8, hf⟩ := bnd hf
  obtain ⟨⟨x9, h9⟩, e9, hf⟩ := bnd hf
  try dsimp only at hf
  have k9 := c_X11_thrown e9
  have m9 := (k9 default_g).1
  have mE : hp_n h9 ≤ hp_n hE ∧ hp_s h9 ≤ hp_s hE := by
    by_cases hc : x9 = x3
    · rw [if_pos hc] at hf; exact (q_L_law_1394 hr23 hf).1
    · rw [if_neg hc] at hf; exact (q_L_law_1392 hf).1
  refine ⟨by omega, fun X g K ok nmx lev hK en => ?_⟩
  refine tj_aload_n ok 1 dL_law_1346 rfl rfl ?_
  refine tj_aload_n ok 0 dL_law_1347 rfl rfl ?_
  refine tj_iload ok 4 dL_law_1348 rfl ?_
  refine tj_iconst (v := 1) ok dL_law_1350 (by decide) ?_
  refine tj_iadd ok dL_law_1351 ?_
  refine tj_sld ok en dL_law_1352 e1 ?_
  refine tj_aload_n ok 0 dL_law_1353 rfl rfl ?_
  refine tj_iload ok 4 dL_law_1354 rfl ?_
  refine tj_iconst (v := 2) ok dL_law_1356 (by decide) ?_
  refine tj_iadd ok dL_law_1357 ?_
  refine tj_sld ok en dL_law_1358 e2 ?_
  refine tj_aload_n ok 3 dL_law_1359 rfl rfl ?_
  refine tj_callW (rest := ([] : List TV).map (vl g)) (as := [.inr (.inr (a1)), .inl (x1), .inl (x2), .inr (.inr (a3))]) ok lev (by omega) (k3 g) (CaX.ofL en (by omega)) kw_L_fence wm_1427 wm_1428 (rs_ok (Nat.le_of_ble_eq_true rfl)) rfl rfl dL_law_1360 ?_
  refine tj_istore (lv' := [(0, .inr (.inr (a0))), (1, .inr (.inr (a1))), (2, .inr (.inr (a2))), (3, .inr (.inr (a3))), (4, .inl (a4)), (5, .inl (x3))]) ok dL_law_1363 (by decide) rfl ?_
  refine tj_aload_n ok 2 dL_law_1365 rfl rfl ?_
  refine tj_aload_n ok 0 dL_law_1366 rfl rfl ?_
  refine tj_iload ok 4 dL_law_1367 rfl ?_
  refine tj_iconst (v := 1) ok dL_law_1369 (by decide) ?_
  refine tj_iadd ok dL_law_1370 ?_
  refine tj_sld ok en dL_law_1371 e4 ?_
  refine tj_aload_n ok 0 dL_law_1372 rfl rfl ?_
  refine tj_iload ok 4 dL_law_1373 rfl ?_
  refine tj_iconst (v := 2) ok dL_law_1375 (by decide) ?_
  refine tj_iadd ok dL_law_1376 ?_
  refine tj_sld ok en dL_law_1377 e5 ?_
  refine tj_callV (rest := ([] : List TV).map (vl g)) (as := [.inl (x4), .inl (x5)]) ok lev (by omega) fcX11.1 (by decide) rfl (of_if e6).1 (k7 g) (CaX.ofL en (by omega)) kn_X11_fence wm_1429 wm_1430 wm_1431 (rs_ok (Nat.le_of_ble_eq_true rfl)) rfl rfl dL_law_1378 ?_
  refine tj_istore (lv' := [(0, .inr (.inr (a0))), (1, .inr (.inr (a1))), (2, .inr (.inr (a2))), (3, .inr (.inr (a3))), (4, .inl (a4)), (5, .inl (x3)), (6, .inl (x7))]) ok dL_law_1381 (by decide) rfl ?_
  refine tj_aload_n ok 2 dL_law_1383 rfl rfl ?_
  refine tj_callV (rest := ([] : List TV).map (vl g)) (as := []) ok lev (by omega) fcX11.1 (by decide) rfl (of_if e8).1 (k9 g) (CaX.ofL en (by omega)) kn_X11_thrown wm_1329 wm_1330 wm_1331 (rs_ok (Nat.le_of_ble_eq_true rfl)) rfl rfl dL_law_1384 ?_
  refine tj_iload ok 5 dL_law_1387 rfl ?_
  refine tj_icmp_eq (tgt := 1394) ok dL_law_1389 (by decide) (fun hc => ?_) (fun hc => ?_)
  · rw [if_pos hc] at hf
    exact (q_L_law_1394 hr23 hf).2 X g K ok nmx lev hK en
  · rw [if_neg hc] at hf
    refine tj_sub (lv' := []) [] rfl ?_
    exact (q_L_law_1392 hf).2 X g K ok nmx lev hK en
def b_L_law_1491 (L : Nat) (xs : Nat → Int32) (r23 : Nat → Nat → Nat → Nat → Int32 → AH → Option (Int32 × AH)) (a0 : Nat) (a1 : Nat) (a2 : Nat) (a3 : Nat) (a4 : Int32) (h : AH) : Option (Int32 × AH) :=
  b_L_law_1569 L xs r23 a0 a1 a2 a3 a4 h
set_option maxHeartbeats 4000000 in
set_option maxRecDepth 100000 in
theorem q_L_law_1491 {hE : AH} {v : Int32} {L : Nat} {xs : Nat → Int32} {r23 : Nat → Nat → Nat → Nat → Int32 → AH → Option (Int32 × AH)} (hr23 : ∀ (b0 : Nat) (b1 : Nat) (b2 : Nat) (b3 : Nat) (b4 : Int32) (h : AH), r23 b0 b1 b2 b3 b4 h = some (v, hE) → JL L xs cL_law 7 RL "law" (some .boolean) (243) 23 [(0, .inr (.inr (b0))), (1, .inr (.inr (b1))), (2, .inr (.inr (b2))), (3, .inr (.inr (b3))), (4, .inl (b4))] [] h hE (some (.inl (v)))) {a0 : Nat} {a1 : Nat} {a2 : Nat} {a3 : Nat} {a4 : Int32} {h : AH} (hf : b_L_law_1491 L xs r23 a0 a1 a2 a3 a4 h = some (v, hE)) : JL L xs cL_law 7 RL "law" (some .boolean) (243) 1491 [(0, .inr (.inr (a0))), (1, .inr (.inr (a1))), (2, .inr (.inr (a2))), (3, .inr (.inr (a3))), (4, .inl (a4))] [] h hE (some (.inl (v))) := by
  unfold b_L_law_1491 at hf
  have J := q_L_law_1569 hr23 hf
  have mE := J.1
  refine ⟨by omega, fun X g K ok nmx lev hK en => ?_⟩
  refine tj_goto (tgt := 1569) ok dL_law_1491 (by decide) ?_
  exact J.2 X g K ok nmx lev hK en
def b_L_law_1489 (L : Nat) (xs : Nat → Int32)  (h : AH) : Option (Int32 × AH) :=
  ok_z (0 : Int32) h
set_option maxHeartbeats 4000000 in
set_option maxRecDepth 100000 in
theorem q_L_law_1489 {L : Nat} {xs : Nat → Int32} {h hE : AH} {v : Int32} (hf : b_L_law_1489 L xs  h = some (v, hE)) : JL L xs cL_law 7 RL "law" (some .boolean) (243) 1489 [] [] h hE (some (.inl (v))) := by
  unfold b_L_law_1489 at hf
  have mE : hp_n h ≤ hp_n hE ∧ hp_s h ≤ hp_s hE := by obtain ⟨-, q⟩ := of_if hf; cases q; exact ⟨Nat.le_refl _, Nat.le_refl _⟩
  refine ⟨by omega, fun X g K ok nmx lev hK en => ?_⟩
  refine tj_iconst (v := 0) ok dL_law_1489 (by decide) ?_
  exact tj_lawret ok hf en dL_law_1490
def b_L_law_1479 (L : Nat) (xs : Nat → Int32) (r23 : Nat → Nat → Nat → Nat → Int32 → AH → Option (Int32 × AH)) (a0 : Nat) (a1 : Nat) (a2 : Nat) (a3 : Nat) (a4 : Int32) (a6 : Int32) (h : AH) : Option (Int32 × AH) :=
  (l_j h a3 (0 : Int32)).bind fun x1 => if (lg_cmp x1 a6.toInt64) = 0 then b_L_law_1491 L xs r23 a0 a1 a2 a3 a4 h else b_L_law_1489 L xs h
set_option maxHeartbeats 4000000 in
set_option maxRecDepth 100000 in
theorem q_L_law_1479 {hE : AH} {v : Int32} {L : Nat} {xs : Nat → Int32} {r23 : Nat → Nat → Nat → Nat → Int32 → AH → Option (Int32 × AH)} (hr23 : ∀ (b0 : Nat) (b1 : Nat) (b2 : Nat) (b3 : Nat) (b4 : Int32) (h : AH), r23 b0 b1 b2 b3 b4 h = some (v, hE) → JL L xs cL_law 7 RL "law" (some .boolean) (243) 23 [(0, .inr (.inr (b0))), (1, .inr (.inr (b1))), (2, .inr (.inr (b2))), (3, .inr (.inr (b3))), (4, .inl (b4))] [] h hE (some (.inl (v)))) {a0 : Nat} {a1 : Nat} {a2 : Nat} {a3 : Nat} {a4 : Int32} {a6 : Int32} {h : AH} (hf : b_L_law_1479 L xs r23 a0 a1 a2 a3 a4 a6 h = some (v, hE)) : JL L xs cL_law 7 RL "law" (some .boolean) (243) 1479 [(0, .inr (.inr (a0))), (1, .inr (.inr (a1))), (2, .inr (.inr (a2))), (3, .inr (.inr (a3))), (4, .inl (a4)), (6, .inl (a6))] [] h hE (some (.inl (v))) := by
  unfold b_L_law_1479 at hf
  obtain ⟨x1, e1, hf⟩ := bnd hf
  have mE : hp_n h ≤ hp_n hE ∧ hp_s h ≤ hp_s hE := by
    by_cases hc : (lg_cmp x1 a6.toInt64) = 0
    · rw [if_pos hc] at hf; exact (q_L_law_1491 hr23 hf).1
    · rw [if_neg hc] at hf; exact (q_L_law_1489 hf).1
  refine ⟨by omega, fun X g K ok nmx lev hK en => ?_⟩
  refine tj_aload_n ok 3 dL_law_1479 rfl rfl ?_
  refine tj_iconst (v := 0) ok dL_law_1480 (by decide) ?_
  refine tj_laload ok dL_law_1481 e1 ?_
  refine tj_iload ok 5 dL_law_1482 rfl ?_
  refine tj_i2l ok dL_law_1484 ?_
  refine tj_lcmp ok dL_law_1485 ?_
  refine tj_if_eq (tgt := 1491) ok dL_law_1486 (by decide) (fun hc => ?_) (fun hc => ?_)
  · rw [if_pos hc] at hf
    refine tj_sub (lv' := [(0, .inr (.inr (a0))), (1, .inr (.inr (a1))), (2, .inr (.inr (a2))), (3, .inr (.inr (a3))), (4, .inl (a4))]) [0, 1, 2, 3, 4] rfl ?_
    exact (q_L_law_1491 hr23 hf).2 X g K ok nmx lev hK en
  · rw [if_neg hc] at hf
    refine tj_sub (lv' := []) [] rfl ?_
    exact (q_L_law_1489 hf).2 X g K ok nmx lev hK en
def b_L_law_1474 (L : Nat) (xs : Nat → Int32) (r23 : Nat → Nat → Nat → Nat → Int32 → AH → Option (Int32 × AH)) (a0 : Nat) (a1 : Nat) (a2 : Nat) (a3 : Nat) (a4 : Int32) (a5 : Int32) (a6 : Int32) (h : AH) : Option (Int32 × AH) :=
  if a5 = 0 then b_L_law_1479 L xs r23 a0 a1 a2 a3 a4 a6 h else b_L_law_1491 L xs r23 a0 a1 a2 a3 a4 h
set_option maxHeartbeats 4000000 in
set_option maxRecDepth 100000 in
theorem q_L_law_1474 {hE : AH} {v : Int32} {L : Nat} {xs : Nat → Int32} {r23 : Nat → Nat → Nat → Nat → Int32 → AH → Option (Int32 × AH)} (hr23 : ∀ (b0 : Nat) (b1 : Nat) (b2 : Nat) (b3 : Nat) (b4 : Int32) (h : AH), r23 b0 b1 b2 b3 b4 h = some (v, hE) → JL L xs cL_law 7 RL "law" (some .boolean) (243) 23 [(0, .inr (.inr (b0))), (1, .inr (.inr (b1))), (2, .inr (.inr (b2))), (3, .inr (.inr (b3))), (4, .inl (b4))] [] h hE (some (.inl (v)))) {a0 : Nat} {a1 : Nat} {a2 : Nat} {a3 : Nat} {a4 : Int32} {a5 : Int32} {a6 : Int32} {h : AH} (hf : b_L_law_1474 L xs r23 a0 a1 a2 a3 a4 a5 a6 h = some (v, hE)) : JL L xs cL_law 7 RL "law" (some .boolean) (243) 1474 [(0, .inr (.inr (a0))), (1, .inr (.inr (a1))), (2, .inr (.inr (a2))), (3, .inr (.inr (a3))), (4, .inl (a4)), (5, .inl (a5)), (6, .inl (a6))] [] h hE (some (.inl (v))) := by
  unfold b_L_law_1474 at hf
  have mE : hp_n h ≤ hp_n hE ∧ hp_s h ≤ hp_s hE := by
    by_cases hc : a5 = 0
    · rw [if_pos hc] at hf; exact (q_L_law_1479 hr23 hf).1
    · rw [if_neg hc] at hf; exact (q_L_law_1491 hr23 hf).1
  refine ⟨by omega, fun X g K ok nmx lev hK en => ?_⟩
  refine tj_iload ok 5 dL_law_1474 rfl ?_
  refine tj_if_ne (tgt := 1491) ok dL_law_1476 (by decide) (fun hc => ?_) (fun hc => ?_)
  · rw [if_neg hc] at hf
    refine tj_sub (lv' := [(0, .inr (.inr (a0))), (1, .inr (.inr (a1))), (2, .inr (.inr (a2))), (3, .inr (.inr (a3))), (4, .inl (a4))]) [0, 1, 2, 3, 4] rfl ?_
    exact (q_L_law_1491 hr23 hf).2 X g K ok nmx lev hK en
  · rw [if_pos hc] at hf
    refine tj_sub (lv' := [(0, .inr (.inr (a0))), (1, .inr (.inr (a1))), (2, .inr (.inr (a2))), (3, .inr (.inr (a3))), (4, .inl (a4)), (6, .inl (a6))]) [0, 1, 2, 3, 4, 6] rfl ?_
    exact (q_L_law_1479 hr23 hf).2 X g K ok nmx lev hK en
def b_L_law_1472 (L : Nat) (xs : Nat → Int32)  (h : AH) : Option (Int32 × AH) :=
  ok_z (0 : Int32) h
set_option maxHeartbeats 4000000 in
set_option maxRecDepth 100000 in
theorem q_L_law_1472 {L : Nat} {xs : Nat → Int32} {h hE : AH} {v : Int32} (hf : b_L_law_1472 L xs  h = some (v, hE)) : JL L xs cL_law 7 RL "law" (some .boolean) (243) 1472 [] [] h hE (some (.inl (v))) := by
  unfold b_L_law_1472 at hf
  have mE : hp_n h ≤ hp_n hE ∧ hp_s h ≤ hp_s hE := by obtain ⟨-, q⟩ := of_if hf; cases q; exact ⟨Nat.le_refl _, Nat.le_refl _⟩
  refine ⟨by omega, fun X g K ok nmx lev hK en => ?_⟩
  refine tj_iconst (v := 0) ok dL_law_1472 (by decide) ?_
  exact tj_lawret ok hf en dL_law_1473
def b_L_law_1414 (L : Nat) (xs : Nat → Int32) (r23 : Nat → Nat → Nat → Nat → Int32 → AH → Option (Int32 × AH)) (a0 : Nat) (a1 : Nat) (a2 : Nat) (a3 : Nat) (a4 : Int32) (h : AH) : Option (Int32 × AH) :=
  (sc_i L xs a0 (a4 + (1 : Int32))).bind fun x1 => (sc_i L xs a0 (a4 + (2 : Int32))).bind fun x2 => (sc_i L xs a0 (a4 + (3 : Int32))).bind fun x3 => (f_L_make a1 x1 x2 x3 a3 h).bind fun q4 => (sc_i L xs a0 (a4 + (1 : Int32))).bind fun x5 => (sc_i L xs a0 (a4 + (2 : Int32))).bind fun x6 => (sc_i L xs a0 (a4 + (3 : Int32))).bind fun x7 => (ok_v q4.2 a2 11).bind fun x8 => (f_X11_make a2 x5 x6 x7 q4.2).bind fun q9 => (ok_v q9.2 a2 11).bind fun x10 => (f_X11_thrown a2 q9.2).bind fun q11 => if q11.1 = q4.1 then b_L_law_1474 L xs r23 a0 a1 a2 a3 a4 q4.1 q9.1 q11.2 else b_L_law_1472 L xs q11.2
set_option maxHeartbeats 4000000 in
set_option maxRecDepth 100000 in
theorem q_L_law_1414 {hE : AH} {v : Int32} {L : Nat} {xs : Nat → Int32} {r23 : Nat → Nat → Nat → Nat → Int32 → AH → Option (Int32 × AH)} (hr23 : ∀ (b0 : Nat) (b1 : Nat) (b2 : Nat) (b3 : Nat) (b4 : Int32) (h : AH), r23 b0 b1 b2 b3 b4 h = some (v, hE) → JL L xs cL_law 7 RL "law" (some .boolean) (243) 23 [(0, .inr (.inr (b0))), (1, .inr (.inr (b1))), (2, .inr (.inr (b2))), (3, .inr (.inr (b3))), (4, .inl (b4))] [] h hE (some (.inl (v)))) {a0 : Nat} {a1 : Nat} {a2 : Nat} {a3 : Nat} {a4 : Int32} {h : AH} (hf : b_L_law_1414 L xs r23 a0 a1 a2 a3 a4 h = some (v, hE)) : JL L xs cL_law 7 RL "law" (some .boolean) (243) 1414 [(0, .inr (.inr (a0))), (1, .inr (.inr (a1))), (2, .inr (.inr (a2))), (3, .inr (.inr (a3))), (4, .inl (a4))] [] h hE (some (.inl (v))) := by
  unfold b_L_law_1414 at hf
  obtain ⟨x1, e1, hf⟩ := bnd hf
  obtain ⟨x2, e2, hf⟩ := bnd hf
  obtain ⟨x3, e3, hf⟩ := bnd hf
  obtain ⟨⟨x4, h4⟩, e4, hf⟩ := bnd hf
  try dsimp only at hf
  have k4 := c_L_make e4
  have m4 := (k4 default_g).1
  obtain ⟨x5, e5, hf⟩ := bnd hf
  obtain ⟨x6, e6, hf⟩ := bnd hf
  obtain ⟨x7, e7, hf⟩ := bnd hf
  obtain ⟨x8, e8, hf⟩ := bnd hf
  obtain ⟨⟨x9, h9⟩, e9, hf⟩ := bnd hf
  try dsimp only at hf
  have k9 := c_X11_make e9
  have m9 := (k9 default_g).1
  obtain ⟨x10, e10, hf⟩ := bnd hf
  obtain ⟨⟨x11, h11⟩, e11, hf⟩ := bnd hf
  try dsimp only at hf
  have k11 := c_X11_thrown e11
  have m11 := (k11 default_g).1
  have mE : hp_n h11 ≤ hp_n hE ∧ hp_s h11 ≤ hp_s hE := by
    by_cases hc : x11 = x4
    · rw [if_pos hc] at hf; exact (q_L_law_1474 hr23 hf).1
    · rw [if_neg hc] at hf; exact (q_L_law_1472 hf).1
  refine ⟨by omega, fun X g K ok nmx lev hK en => ?_⟩
  refine tj_aload_n ok 1 dL_law_1414 rfl rfl ?_
  refine tj_aload_n ok 0 dL_law_1415 rfl rfl ?_
  refine tj_iload ok 4 dL_law_1416 rfl ?_
  refine tj_iconst (v := 1) ok dL_law_1418 (by decide) ?_
  refine tj_iadd ok dL_law_1419 ?_
  refine tj_sld ok en dL_law_1420 e1 ?_
  refine tj_aload_n ok 0 dL_law_1421 rfl rfl ?_
  refine tj_iload ok 4 dL_law_1422 rfl ?_
  refine tj_iconst (v := 2) ok dL_law_1424 (by decide) ?_
  refine tj_iadd ok dL_law_1425 ?_
  refine tj_sld ok en dL_law_1426 e2 ?_
  refine tj_aload_n ok 0 dL_law_1427 rfl rfl ?_
  refine tj_iload ok 4 dL_law_1428 rfl ?_
  refine tj_iconst (v := 3) ok dL_law_1430 (by decide) ?_
  refine tj_iadd ok dL_law_1431 ?_
  refine tj_sld ok en dL_law_1432 e3 ?_
  refine tj_aload_n ok 3 dL_law_1433 rfl rfl ?_
  refine tj_callW (rest := ([] : List TV).map (vl g)) (as := [.inr (.inr (a1)), .inl (x1), .inl (x2), .inl (x3), .inr (.inr (a3))]) ok lev (by omega) (k4 g) (CaX.ofL en (by omega)) kw_L_make wm_1432 wm_1433 (rs_ok (Nat.le_of_ble_eq_true rfl)) rfl rfl dL_law_1434 ?_
  refine tj_istore (lv' := [(0, .inr (.inr (a0))), (1, .inr (.inr (a1))), (2, .inr (.inr (a2))), (3, .inr (.inr (a3))), (4, .inl (a4)), (5, .inl (x4))]) ok dL_law_1437 (by decide) rfl ?_
  refine tj_aload_n ok 2 dL_law_1439 rfl rfl ?_
  refine tj_aload_n ok 0 dL_law_1440 rfl rfl ?_
  refine tj_iload ok 4 dL_law_1441 rfl ?_
  refine tj_iconst (v := 1) ok dL_law_1443 (by decide) ?_
  refine tj_iadd ok dL_law_1444 ?_
  refine tj_sld ok en dL_law_1445 e5 ?_
  refine tj_aload_n ok 0 dL_law_1446 rfl rfl ?_
  refine tj_iload ok 4 dL_law_1447 rfl ?_
  refine tj_iconst (v := 2) ok dL_law_1449 (by decide) ?_
  refine tj_iadd ok dL_law_1450 ?_
  refine tj_sld ok en dL_law_1451 e6 ?_
  refine tj_aload_n ok 0 dL_law_1452 rfl rfl ?_
  refine tj_iload ok 4 dL_law_1453 rfl ?_
  refine tj_iconst (v := 3) ok dL_law_1455 (by decide) ?_
  refine tj_iadd ok dL_law_1456 ?_
  refine tj_sld ok en dL_law_1457 e7 ?_
  refine tj_callV (rest := ([] : List TV).map (vl g)) (as := [.inl (x5), .inl (x6), .inl (x7)]) ok lev (by omega) fcX11.1 (by decide) rfl (of_if e8).1 (k9 g) (CaX.ofL en (by omega)) kn_X11_make wm_1434 wm_1435 wm_1436 (rs_ok (Nat.le_of_ble_eq_true rfl)) rfl rfl dL_law_1458 ?_
  refine tj_istore (lv' := [(0, .inr (.inr (a0))), (1, .inr (.inr (a1))), (2, .inr (.inr (a2))), (3, .inr (.inr (a3))), (4, .inl (a4)), (5, .inl (x4)), (6, .inl (x9))]) ok dL_law_1461 (by decide) rfl ?_
  refine tj_aload_n ok 2 dL_law_1463 rfl rfl ?_
  refine tj_callV (rest := ([] : List TV).map (vl g)) (as := []) ok lev (by omega) fcX11.1 (by decide) rfl (of_if e10).1 (k11 g) (CaX.ofL en (by omega)) kn_X11_thrown wm_1329 wm_1330 wm_1331 (rs_ok (Nat.le_of_ble_eq_true rfl)) rfl rfl dL_law_1464 ?_
  refine tj_iload ok 5 dL_law_1467 rfl ?_
  refine tj_icmp_eq (tgt := 1474) ok dL_law_1469 (by decide) (fun hc => ?_) (fun hc => ?_)
  · rw [if_pos hc] at hf
    exact (q_L_law_1474 hr23 hf).2 X g K ok nmx lev hK en
  · rw [if_neg hc] at hf
    refine tj_sub (lv' := []) [] rfl ?_
    exact (q_L_law_1472 hf).2 X g K ok nmx lev hK en
def b_L_law_1566 (L : Nat) (xs : Nat → Int32) (r23 : Nat → Nat → Nat → Nat → Int32 → AH → Option (Int32 × AH)) (a0 : Nat) (a1 : Nat) (a2 : Nat) (a3 : Nat) (a4 : Int32) (h : AH) : Option (Int32 × AH) :=
  b_L_law_1569 L xs r23 a0 a1 a2 a3 a4 h
set_option maxHeartbeats 4000000 in
set_option maxRecDepth 100000 in
theorem q_L_law_1566 {hE : AH} {v : Int32} {L : Nat} {xs : Nat → Int32} {r23 : Nat → Nat → Nat → Nat → Int32 → AH → Option (Int32 × AH)} (hr23 : ∀ (b0 : Nat) (b1 : Nat) (b2 : Nat) (b3 : Nat) (b4 : Int32) (h : AH), r23 b0 b1 b2 b3 b4 h = some (v, hE) → JL L xs cL_law 7 RL "law" (some .boolean) (243) 23 [(0, .inr (.inr (b0))), (1, .inr (.inr (b1))), (2, .inr (.inr (b2))), (3, .inr (.inr (b3))), (4, .inl (b4))] [] h hE (some (.inl (v)))) {a0 : Nat} {a1 : Nat} {a2 : Nat} {a3 : Nat} {a4 : Int32} {h : AH} (hf : b_L_law_1566 L xs r23 a0 a1 a2 a3 a4 h = some (v, hE)) : JL L xs cL_law 7 RL "law" (some .boolean) (243) 1566 [(0, .inr (.inr (a0))), (1, .inr (.inr (a1))), (2, .inr (.inr (a2))), (3, .inr (.inr (a3))), (4, .inl (a4))] [] h hE (some (.inl (v))) := by
  unfold b_L_law_1566 at hf
  have J := q_L_law_1569 hr23 hf
  have mE := J.1
  refine ⟨by omega, fun X g K ok nmx lev hK en => ?_⟩
  refine tj_goto (tgt := 1569) ok dL_law_1566 (by decide) ?_
  exact J.2 X g K ok nmx lev hK en
def b_L_law_1564 (L : Nat) (xs : Nat → Int32)  (h : AH) : Option (Int32 × AH) :=
  ok_z (0 : Int32) h
set_option maxHeartbeats 4000000 in
set_option maxRecDepth 100000 in
theorem q_L_law_1564 {L : Nat} {xs : Nat → Int32} {h hE : AH} {v : Int32} (hf : b_L_law_1564 L xs  h = some (v, hE)) : JL L xs cL_law 7 RL "law" (some .boolean) (243) 1564 [] [] h hE (some (.inl (v))) := by
  unfold b_L_law_1564 at hf
  have mE : hp_n h ≤ hp_n hE ∧ hp_s h ≤ hp_s hE := by obtain ⟨-, q⟩ := of_if hf; cases q; exact ⟨Nat.le_refl _, Nat.le_refl _⟩
  refine ⟨by omega, fun X g K ok nmx lev hK en => ?_⟩
  refine tj_iconst (v := 0) ok dL_law_1564 (by decide) ?_
  exact tj_lawret ok hf en dL_law_1565
def b_L_law_1560 (L : Nat) (xs : Nat → Int32) (r23 : Nat → Nat → Nat → Nat → Int32 → AH → Option (Int32 × AH)) (a0 : Nat) (a1 : Nat) (a2 : Nat) (a3 : Nat) (a4 : Int32) (s0 : Int64) (s1 : Int64) (h : AH) : Option (Int32 × AH) :=
  if (lg_cmp s0 s1) = 0 then b_L_law_1566 L xs r23 a0 a1 a2 a3 a4 h else b_L_law_1564 L xs h
set_option maxHeartbeats 4000000 in
set_option maxRecDepth 100000 in
theorem q_L_law_1560 {hE : AH} {v : Int32} {L : Nat} {xs : Nat → Int32} {r23 : Nat → Nat → Nat → Nat → Int32 → AH → Option (Int32 × AH)} (hr23 : ∀ (b0 : Nat) (b1 : Nat) (b2 : Nat) (b3 : Nat) (b4 : Int32) (h : AH), r23 b0 b1 b2 b3 b4 h = some (v, hE) → JL L xs cL_law 7 RL "law" (some .boolean) (243) 23 [(0, .inr (.inr (b0))), (1, .inr (.inr (b1))), (2, .inr (.inr (b2))), (3, .inr (.inr (b3))), (4, .inl (b4))] [] h hE (some (.inl (v)))) {a0 : Nat} {a1 : Nat} {a2 : Nat} {a3 : Nat} {a4 : Int32} {s0 : Int64} {s1 : Int64} {h : AH} (hf : b_L_law_1560 L xs r23 a0 a1 a2 a3 a4 s0 s1 h = some (v, hE)) : JL L xs cL_law 7 RL "law" (some .boolean) (243) 1560 [(0, .inr (.inr (a0))), (1, .inr (.inr (a1))), (2, .inr (.inr (a2))), (3, .inr (.inr (a3))), (4, .inl (a4))] [.inr (.inl (s1)), .inr (.inl (s0))] h hE (some (.inl (v))) := by
  unfold b_L_law_1560 at hf
  have mE : hp_n h ≤ hp_n hE ∧ hp_s h ≤ hp_s hE := by
    by_cases hc : (lg_cmp s0 s1) = 0
    · rw [if_pos hc] at hf; exact (q_L_law_1566 hr23 hf).1
    · rw [if_neg hc] at hf; exact (q_L_law_1564 hf).1
  refine ⟨by omega, fun X g K ok nmx lev hK en => ?_⟩
  refine tj_lcmp ok dL_law_1560 ?_
  refine tj_if_eq (tgt := 1566) ok dL_law_1561 (by decide) (fun hc => ?_) (fun hc => ?_)
  · rw [if_pos hc] at hf
    exact (q_L_law_1566 hr23 hf).2 X g K ok nmx lev hK en
  · rw [if_neg hc] at hf
    refine tj_sub (lv' := []) [] rfl ?_
    exact (q_L_law_1564 hf).2 X g K ok nmx lev hK en
def b_L_law_1559 (L : Nat) (xs : Nat → Int32) (r23 : Nat → Nat → Nat → Nat → Int32 → AH → Option (Int32 × AH)) (a0 : Nat) (a1 : Nat) (a2 : Nat) (a3 : Nat) (a4 : Int32) (s0 : Int64) (h : AH) : Option (Int32 × AH) :=
  b_L_law_1560 L xs r23 a0 a1 a2 a3 a4 s0 (0 : Int64) h
set_option maxHeartbeats 4000000 in
set_option maxRecDepth 100000 in
theorem q_L_law_1559 {hE : AH} {v : Int32} {L : Nat} {xs : Nat → Int32} {r23 : Nat → Nat → Nat → Nat → Int32 → AH → Option (Int32 × AH)} (hr23 : ∀ (b0 : Nat) (b1 : Nat) (b2 : Nat) (b3 : Nat) (b4 : Int32) (h : AH), r23 b0 b1 b2 b3 b4 h = some (v, hE) → JL L xs cL_law 7 RL "law" (some .boolean) (243) 23 [(0, .inr (.inr (b0))), (1, .inr (.inr (b1))), (2, .inr (.inr (b2))), (3, .inr (.inr (b3))), (4, .inl (b4))] [] h hE (some (.inl (v)))) {a0 : Nat} {a1 : Nat} {a2 : Nat} {a3 : Nat} {a4 : Int32} {s0 : Int64} {h : AH} (hf : b_L_law_1559 L xs r23 a0 a1 a2 a3 a4 s0 h = some (v, hE)) : JL L xs cL_law 7 RL "law" (some .boolean) (243) 1559 [(0, .inr (.inr (a0))), (1, .inr (.inr (a1))), (2, .inr (.inr (a2))), (3, .inr (.inr (a3))), (4, .inl (a4))] [.inr (.inl (s0))] h hE (some (.inl (v))) := by
  unfold b_L_law_1559 at hf
  have J := q_L_law_1560 hr23 hf
  have mE := J.1
  refine ⟨by omega, fun X g K ok nmx lev hK en => ?_⟩
  refine tj_lconst (v := 0) ok dL_law_1559 (by decide) ?_
  exact J.2 X g K ok nmx lev hK en
def b_L_law_1555 (L : Nat) (xs : Nat → Int32) (r23 : Nat → Nat → Nat → Nat → Int32 → AH → Option (Int32 × AH)) (a0 : Nat) (a1 : Nat) (a2 : Nat) (a3 : Nat) (a4 : Int32) (s0 : Int64) (h : AH) : Option (Int32 × AH) :=
  b_L_law_1560 L xs r23 a0 a1 a2 a3 a4 s0 (1 : Int64) h
set_option maxHeartbeats 4000000 in
set_option maxRecDepth 100000 in
theorem q_L_law_1555 {hE : AH} {v : Int32} {L : Nat} {xs : Nat → Int32} {r23 : Nat → Nat → Nat → Nat → Int32 → AH → Option (Int32 × AH)} (hr23 : ∀ (b0 : Nat) (b1 : Nat) (b2 : Nat) (b3 : Nat) (b4 : Int32) (h : AH), r23 b0 b1 b2 b3 b4 h = some (v, hE) → JL L xs cL_law 7 RL "law" (some .boolean) (243) 23 [(0, .inr (.inr (b0))), (1, .inr (.inr (b1))), (2, .inr (.inr (b2))), (3, .inr (.inr (b3))), (4, .inl (b4))] [] h hE (some (.inl (v)))) {a0 : Nat} {a1 : Nat} {a2 : Nat} {a3 : Nat} {a4 : Int32} {s0 : Int64} {h : AH} (hf : b_L_law_1555 L xs r23 a0 a1 a2 a3 a4 s0 h = some (v, hE)) : JL L xs cL_law 7 RL "law" (some .boolean) (243) 1555 [(0, .inr (.inr (a0))), (1, .inr (.inr (a1))), (2, .inr (.inr (a2))), (3, .inr (.inr (a3))), (4, .inl (a4))] [.inr (.inl (s0))] h hE (some (.inl (v))) := by
  unfold b_L_law_1555 at hf
  have J := q_L_law_1560 hr23 hf
  have mE := J.1
  refine ⟨by omega, fun X g K ok nmx lev hK en => ?_⟩
  refine tj_lconst (v := 1) ok dL_law_1555 (by decide) ?_
  refine tj_goto (tgt := 1560) ok dL_law_1556 (by decide) ?_
  exact J.2 X g K ok nmx lev hK en
def b_L_law_1547 (L : Nat) (xs : Nat → Int32) (r23 : Nat → Nat → Nat → Nat → Int32 → AH → Option (Int32 × AH)) (a0 : Nat) (a1 : Nat) (a2 : Nat) (a3 : Nat) (a4 : Int32) (a6 : Int32) (h : AH) : Option (Int32 × AH) :=
  (l_j h a3 (0 : Int32)).bind fun x1 => if a6 = 0 then b_L_law_1559 L xs r23 a0 a1 a2 a3 a4 x1 h else b_L_law_1555 L xs r23 a0 a1 a2 a3 a4 x1 h
set_option maxHeartbeats 4000000 in
set_option maxRecDepth 100000 in
theorem q_L_law_1547 {hE : AH} {v : Int32} {L : Nat} {xs : Nat → Int32} {r23 : Nat → Nat → Nat → Nat → Int32 → AH → Option (Int32 × AH)} (hr23 : ∀ (b0 : Nat) (b1 : Nat) (b2 : Nat) (b3 : Nat) (b4 : Int32) (h : AH), r23 b0 b1 b2 b3 b4 h = some (v, hE) → JL L xs cL_law 7 RL "law" (some .boolean) (243) 23 [(0, .inr (.inr (b0))), (1, .inr (.inr (b1))), (2, .inr (.inr (b2))), (3, .inr (.inr (b3))), (4, .inl (b4))] [] h hE (some (.inl (v)))) {a0 : Nat} {a1 : Nat} {a2 : Nat} {a3 : Nat} {a4 : Int32} {a6 : Int32} {h : AH} (hf : b_L_law_1547 L xs r23 a0 a1 a2 a3 a4 a6 h = some (v, hE)) : JL L xs cL_law 7 RL "law" (some .boolean) (243) 1547 [(0, .inr (.inr (a0))), (1, .inr (.inr (a1))), (2, .inr (.inr (a2))), (3, .inr (.inr (a3))), (4, .inl (a4)), (6, .inl (a6))] [] h hE (some (.inl (v))) := by
  unfold b_L_law_1547 at hf
  obtain ⟨x1, e1, hf⟩ := bnd hf
  have mE : hp_n h ≤ hp_n hE ∧ hp_s h ≤ hp_s hE := by
    by_cases hc : a6 = 0
    · rw [if_pos hc] at hf; exact (q_L_law_1559 hr23 hf).1
    · rw [if_neg hc] at hf; exact (q_L_law_1555 hr23 hf).1
  refine ⟨by omega, fun X g K ok nmx lev hK en => ?_⟩
  refine tj_aload_n ok 3 dL_law_1547 rfl rfl ?_
  refine tj_iconst (v := 0) ok dL_law_1548 (by decide) ?_
  refine tj_laload ok dL_law_1549 e1 ?_
  refine tj_iload ok 5 dL_law_1550 rfl ?_
  refine tj_if_eq (tgt := 1559) ok dL_law_1552 (by decide) (fun hc => ?_) (fun hc => ?_)
  · rw [if_pos hc] at hf
    refine tj_sub (lv' := [(0, .inr (.inr (a0))), (1, .inr (.inr (a1))), (2, .inr (.inr (a2))), (3, .inr (.inr (a3))), (4, .inl (a4))]) [0, 1, 2, 3, 4] rfl ?_
    exact (q_L_law_1559 hr23 hf).2 X g K ok nmx lev hK en
  · rw [if_neg hc] at hf
    refine tj_sub (lv' := [(0, .inr (.inr (a0))), (1, .inr (.inr (a1))), (2, .inr (.inr (a2))), (3, .inr (.inr (a3))), (4, .inl (a4))]) [0, 1, 2, 3, 4] rfl ?_
    exact (q_L_law_1555 hr23 hf).2 X g K ok nmx lev hK en
def b_L_law_1542 (L : Nat) (xs : Nat → Int32) (r23 : Nat → Nat → Nat → Nat → Int32 → AH → Option (Int32 × AH)) (a0 : Nat) (a1 : Nat) (a2 : Nat) (a3 : Nat) (a4 : Int32) (a5 : Int32) (a6 : Int32) (h : AH) : Option (Int32 × AH) :=
  if a5 = 0 then b_L_law_1547 L xs r23 a0 a1 a2 a3 a4 a6 h else b_L_law_1566 L xs r23 a0 a1 a2 a3 a4 h
set_option maxHeartbeats 4000000 in
set_option maxRecDepth 100000 in
theorem q_L_law_1542 {hE : AH} {v : Int32} {L : Nat} {xs : Nat → Int32} {r23 : Nat → Nat → Nat → Nat → Int32 → AH → Option (Int32 × AH)} (hr23 : ∀ (b0 : Nat) (b1 : Nat) (b2 : Nat) (b3 : Nat) (b4 : Int32) (h : AH), r23 b0 b1 b2 b3 b4 h = some (v, hE) → JL L xs cL_law 7 RL "law" (some .boolean) (243) 23 [(0, .inr (.inr (b0))), (1, .inr (.inr (b1))), (2, .inr (.inr (b2))), (3, .inr (.inr (b3))), (4, .inl (b4))] [] h hE (some (.inl (v)))) {a0 : Nat} {a1 : Nat} {a2 : Nat} {a3 : Nat} {a4 : Int32} {a5 : Int32} {a6 : Int32} {h : AH} (hf : b_L_law_1542 L xs r23 a0 a1 a2 a3 a4 a5 a6 h = some (v, hE)) : JL L xs cL_law 7 RL "law" (some .boolean) (243) 1542 [(0, .inr (.inr (a0))), (1, .inr (.inr (a1))), (2, .inr (.inr (a2))), (3, .inr (.inr (a3))), (4, .inl (a4)), (5, .inl (a5)), (6, .inl (a6))] [] h hE (some (.inl (v))) := by
  unfold b_L_law_1542 at hf
  have mE : hp_n h ≤ hp_n hE ∧ hp_s h ≤ hp_s hE := by
    by_cases hc : a5 = 0
    · rw [if_pos hc] at hf; exact (q_L_law_1547 hr23 hf).1
    · rw [if_neg hc] at hf; exact (q_L_law_1566 hr23 hf).1
  refine ⟨by omega, fun X g K ok nmx lev hK en => ?_⟩
  refine tj_iload ok 5 dL_law_1542 rfl ?_
  refine tj_if_ne (tgt := 1566) ok dL_law_1544 (by decide) (fun hc => ?_) (fun hc => ?_)
  · rw [if_neg hc] at hf
    refine tj_sub (lv' := [(0, .inr (.inr (a0))), (1, .inr (.inr (a1))), (2, .inr (.inr (a2))), (3, .inr (.inr (a3))), (4, .inl (a4))]) [0, 1, 2, 3, 4] rfl ?_
    exact (q_L_law_1566 hr23 hf).2 X g K ok nmx lev hK en
  · rw [if_pos hc] at hf
    refine tj_sub (lv' := [(0, .inr (.inr (a0))), (1, .inr (.inr (a1))), (2, .inr (.inr (a2))), (3, .inr (.inr (a3))), (4, .inl (a4)), (6, .inl (a6))]) [0, 1, 2, 3, 4, 6] rfl ?_
    exact (q_L_law_1547 hr23 hf).2 X g K ok nmx lev hK en
def b_L_law_1540 (L : Nat) (xs : Nat → Int32)  (h : AH) : Option (Int32 × AH) :=
  ok_z (0 : Int32) h
set_option maxHeartbeats 4000000 in
set_option maxRecDepth 100000 in
theorem q_L_law_1540 {L : Nat} {xs : Nat → Int32} {h hE : AH} {v : Int32} (hf : b_L_law_1540 L xs  h = some (v, hE)) : JL L xs cL_law 7 RL "law" (some .boolean) (243) 1540 [] [] h hE (some (.inl (v))) := by
  unfold b_L_law_1540 at hf
  have mE : hp_n h ≤ hp_n hE ∧ hp_s h ≤ hp_s hE := by obtain ⟨-, q⟩ := of_if hf; cases q; exact ⟨Nat.le_refl _, Nat.le_refl _⟩
  refine ⟨by omega, fun X g K ok nmx lev hK en => ?_⟩
  refine tj_iconst (v := 0) ok dL_law_1540 (by decide) ?_
  exact tj_lawret ok hf en dL_law_1541
def b_L_law_1494 (L : Nat) (xs : Nat → Int32) (r23 : Nat → Nat → Nat → Nat → Int32 → AH → Option (Int32 × AH)) (a0 : Nat) (a1 : Nat) (a2 : Nat) (a3 : Nat) (a4 : Int32) (h : AH) : Option (Int32 × AH) :=
  (sc_i L xs a0 (a4 + (1 : Int32))).bind fun x1 => (sc_i L xs a0 (a4 + (2 : Int32))).bind fun x2 => (f_L_same a1 x1 x2 a3 h).bind fun q3 => (sc_i L xs a0 (a4 + (1 : Int32))).bind fun x4 => (sc_i L xs a0 (a4 + (2 : Int32))).bind fun x5 => (ok_v q3.2 a2 11).bind fun x6 => (f_X11_same a2 x4 x5 q3.2).bind fun q7 => (ok_v q7.2 a2 11).bind fun x8 => (f_X11_thrown a2 q7.2).bind fun q9 => if q9.1 = q3.1 then b_L_law_1542 L xs r23 a0 a1 a2 a3 a4 q3.1 q7.1 q9.2 else b_L_law_1540 L xs q9.2
set_option maxHeartbeats 4000000 in
set_option maxRecDepth 100000 in
theorem q_L_law_1494 {hE : AH} {v : Int32} {L : Nat} {xs : Nat → Int32} {r23 : Nat → Nat → Nat → Nat → Int32 → AH → Option (Int32 × AH)} (hr23 : ∀ (b0 : Nat) (b1 : Nat) (b2 : Nat) (b3 : Nat) (b4 : Int32) (h : AH), r23 b0 b1 b2 b3 b4 h = some (v, hE) → JL L xs cL_law 7 RL "law" (some .boolean) (243) 23 [(0, .inr (.inr (b0))), (1, .inr (.inr (b1))), (2, .inr (.inr (b2))), (3, .inr (.inr (b3))), (4, .inl (b4))] [] h hE (some (.inl (v)))) {a0 : Nat} {a1 : Nat} {a2 : Nat} {a3 : Nat} {a4 : Int32} {h : AH} (hf : b_L_law_1494 L xs r23 a0 a1 a2 a3 a4 h = some (v, hE)) : JL L xs cL_law 7 RL "law" (some .boolean) (243) 1494 [(0, .inr (.inr (a0))), (1, .inr (.inr (a1))), (2, .inr (.inr (a2))), (3, .inr (.inr (a3))), (4, .inl (a4))] [] h hE (some (.inl (v))) := by
  unfold b_L_law_1494 at hf
  obtain ⟨x1, e1, hf⟩ := bnd hf
  obtain ⟨x2, e2, hf⟩ := bnd hf
  obtain ⟨⟨x3, h3⟩, e3, hf⟩ := bnd hf
  try dsimp only at hf
  have k3 := c_L_same e3
  have m3 := (k3 default_g).1
  obtain ⟨x4, e4, hf⟩ := bnd hf
  obtain ⟨x5, e5, hf⟩ := bnd hf
  obtain ⟨x6, e6, hf⟩ := bnd hf
  obtain ⟨⟨x7, h7⟩, e7, hf⟩ := bnd hf
  try dsimp only at hf
  have k7 := c_X11_same e7
  have m7 := (k7 default_g).1
  obtain ⟨x8, e8, hf⟩ := bnd hf
  obtain ⟨⟨x9, h9⟩, e9, hf⟩ := bnd hf
  try dsimp only at hf
  have k9 := c_X11_thrown e9
  have m9 := (k9 default_g).1
  have mE : hp_n h9 ≤ hp_n hE ∧ hp_s h9 ≤ hp_s hE := by
    by_cases hc : x9 = x3
    · rw [if_pos hc] at hf; exact (q_L_law_1542 hr23 hf).1
    · rw [if_neg hc] at hf; exact (q_L_law_1540 hf).1
  refine ⟨by omega, fun X g K ok nmx lev hK en => ?_⟩
  refine tj_aload_n ok 1 dL_law_1494 rfl rfl ?_
  refine tj_aload_n ok 0 dL_law_1495 rfl rfl ?_
  refine tj_iload ok 4 dL_law_1496 rfl ?_
  refine tj_iconst (v := 1) ok dL_law_1498 (by decide) ?_
  refine tj_iadd ok dL_law_1499 ?_
  refine tj_sld ok en dL_law_1500 e1 ?_
  refine tj_aload_n ok 0 dL_law_1501 rfl rfl ?_
  refine tj_iload ok 4 dL_law_1502 rfl ?_
  refine tj_iconst (v := 2) ok dL_law_1504 (by decide) ?_
  refine tj_iadd ok dL_law_1505 ?_
  refine tj_sld ok en dL_law_1506 e2 ?_
  refine tj_aload_n ok 3 dL_law_1507 rfl rfl ?_
  refine tj_callW (rest := ([] : List TV).map (vl g)) (as := [.inr (.inr (a1)), .inl (x1), .inl (x2), .inr (.inr (a3))]) ok lev (by omega) (k3 g) (CaX.ofL en (by omega)) kw_L_same wm_1437 wm_1438 (rs_ok (Nat.le_of_ble_eq_true rfl)) rfl rfl dL_law_1508 ?_
  refine tj_istore (lv' := [(0, .inr (.inr (a0))), (1, .inr (.inr (a1))), (2, .inr (.inr (a2))), (3, .inr (.inr (a3))), (4, .inl (a4)), (5, .inl (x3))]) ok dL_law_1511 (by decide) rfl ?_
  refine tj_aload_n ok 2 dL_law_1513 rfl rfl ?_
  refine tj_aload_n ok 0 dL_law_1514 rfl rfl ?_
  refine tj_iload ok 4 dL_law_1515 rfl ?_
  refine tj_iconst (v := 1) ok dL_law_1517 (by decide) ?_
  refine tj_iadd ok dL_law_1518 ?_
  refine tj_sld ok en dL_law_1519 e4 ?_
  refine tj_aload_n ok 0 dL_law_1520 rfl rfl ?_
  refine tj_iload ok 4 dL_law_1521 rfl ?_
  refine tj_iconst (v := 2) ok dL_law_1523 (by decide) ?_
  refine tj_iadd ok dL_law_1524 ?_
  refine tj_sld ok en dL_law_1525 e5 ?_
  refine tj_callV (rest := ([] : List TV).map (vl g)) (as := [.inl (x4), .inl (x5)]) ok lev (by omega) fcX11.1 (by decide) rfl (of_if e6).1 (k7 g) (CaX.ofL en (by omega)) kn_X11_same wm_1439 wm_1440 wm_1441 (rs_ok (Nat.le_of_ble_eq_true rfl)) rfl rfl dL_law_1526 ?_
  refine tj_istore (lv' := [(0, .inr (.inr (a0))), (1, .inr (.inr (a1))), (2, .inr (.inr (a2))), (3, .inr (.inr (a3))), (4, .inl (a4)), (5, .inl (x3)), (6, .inl (x7))]) ok dL_law_1529 (by decide) rfl ?_
  refine tj_aload_n ok 2 dL_law_1531 rfl rfl ?_
  refine tj_callV (rest := ([] : List TV).map (vl g)) (as := []) ok lev (by omega) fcX11.1 (by decide) rfl (of_if e8).1 (k9 g) (CaX.ofL en (by omega)) kn_X11_thrown wm_1329 wm_1330 wm_1331 (rs_ok (Nat.le_of_ble_eq_true rfl)) rfl rfl dL_law_1532 ?_
  refine tj_iload ok 5 dL_law_1535 rfl ?_
  refine tj_icmp_eq (tgt := 1542) ok dL_law_1537 (by decide) (fun hc => ?_) (fun hc => ?_)
  · rw [if_pos hc] at hf
    exact (q_L_law_1542 hr23 hf).2 X g K ok nmx lev hK en
  · rw [if_neg hc] at hf
    refine tj_sub (lv' := []) [] rfl ?_
    exact (q_L_law_1540 hf).2 X g K ok nmx lev hK en
def b_L_law_33 (L : Nat) (xs : Nat → Int32) (r23 : Nat → Nat → Nat → Nat → Int32 → AH → Option (Int32 × AH)) (a0 : Nat) (a1 : Nat) (a2 : Nat) (a3 : Nat) (a4 : Int32) (h : AH) : Option (Int32 × AH) :=
  (sc_i L xs a0 a4).bind fun x1 => if (x1 &&& (31 : Int32)) = 0 then b_L_law_152 L xs r23 a0 a1 a2 a3 a4 h else if (x1 &&& (31 : Int32)) = 1 then b_L_law_225 L xs r23 a0 a1 a2 a3 a4 h else if (x1 &&& (31 : Int32)) = 2 then b_L_law_250 L xs r23 a0 a1 a2 a3 a4 h else if (x1 &&& (31 : Int32)) = 3 then b_L_law_306 L xs r23 a0 a1 a2 a3 a4 h else if (x1 &&& (31 : Int32)) = 4 then b_L_law_331 L xs r23 a0 a1 a2 a3 a4 h else if (x1 &&& (31 : Int32)) = 5 then b_L_law_394 L xs r23 a0 a1 a2 a3 a4 h else if (x1 &&& (31 : Int32)) = 6 then b_L_law_462 L xs r23 a0 a1 a2 a3 a4 h else if (x1 &&& (31 : Int32)) = 7 then b_L_law_530 L xs r23 a0 a1 a2 a3 a4 h else if (x1 &&& (31 : Int32)) = 8 then b_L_law_610 L xs r23 a0 a1 a2 a3 a4 h else if (x1 &&& (31 : Int32)) = 9 then b_L_law_666 L xs r23 a0 a1 a2 a3 a4 h else if (x1 &&& (31 : Int32)) = 10 then b_L_law_691 L xs r23 a0 a1 a2 a3 a4 h else if (x1 &&& (31 : Int32)) = 11 then b_L_law_704 L xs r23 a0 a1 a2 a3 a4 h else if (x1 &&& (31 : Int32)) = 12 then b_L_law_772 L xs r23 a0 a1 a2 a3 a4 h else if (x1 &&& (31 : Int32)) = 13 then b_L_law_864 L xs r23 a0 a1 a2 a3 a4 h else if (x1 &&& (31 : Int32)) = 14 then b_L_law_944 L xs r23 a0 a1 a2 a3 a4 h else if (x1 &&& (31 : Int32)) = 15 then b_L_law_981 L xs r23 a0 a1 a2 a3 a4 h else if (x1 &&& (31 : Int32)) = 16 then b_L_law_1049 L xs r23 a0 a1 a2 a3 a4 h else if (x1 &&& (31 : Int32)) = 17 then b_L_law_1105 L xs r23 a0 a1 a2 a3 a4 h else if (x1 &&& (31 : Int32)) = 18 then b_L_law_1130 L xs r23 a0 a1 a2 a3 a4 h else if (x1 &&& (31 : Int32)) = 19 then b_L_law_1186 L xs r23 a0 a1 a2 a3 a4 h else if (x1 &&& (31 : Int32)) = 20 then b_L_law_1266 L xs r23 a0 a1 a2 a3 a4 h else if (x1 &&& (31 : Int32)) = 21 then b_L_law_1346 L xs r23 a0 a1 a2 a3 a4 h else if (x1 &&& (31 : Int32)) = 22 then b_L_law_1414 L xs r23 a0 a1 a2 a3 a4 h else if (x1 &&& (31 : Int32)) = 23 then b_L_law_1494 L xs r23 a0 a1 a2 a3 a4 h else b_L_law_1569 L xs r23 a0 a1 a2 a3 a4 h
set_option maxHeartbeats 4000000 in
set_option maxRecDepth 100000 in
theorem q_L_law_33 {hE : AH} {v : Int32} {L : Nat} {xs : Nat → Int32} {r23 : Nat → Nat → Nat → Nat → Int32 → AH → Option (Int32 × AH)} (hr23 : ∀ (b0 : Nat) (b1 : Nat) (b2 : Nat) (b3 : Nat) (b4 : Int32) (h : AH), r23 b0 b1 b2 b3 b4 h = some (v, hE) → JL L xs cL_law 7 RL "law" (some .boolean) (243) 23 [(0, .inr (.inr (b0))), (1, .inr (.inr (b1))), (2, .inr (.inr (b2))), (3, .inr (.inr (b3))), (4, .inl (b4))] [] h hE (some (.inl (v)))) {a0 : Nat} {a1 : Nat} {a2 : Nat} {a3 : Nat} {a4 : Int32} {h : AH} (hf : b_L_law_33 L xs r23 a0 a1 a2 a3 a4 h = some (v, hE)) : JL L xs cL_law 7 RL "law" (some .boolean) (243) 33 [(0, .inr (.inr (a0))), (1, .inr (.inr (a1))), (2, .inr (.inr (a2))), (3, .inr (.inr (a3))), (4, .inl (a4))] [] h hE (some (.inl (v))) := by
  unfold b_L_law_33 at hf
  obtain ⟨x1, e1, hf⟩ := bnd hf
  have mE : hp_n h ≤ hp_n hE ∧ hp_s h ≤ hp_s hE := by
    by_cases hc0 : (x1 &&& (31 : Int32)) = 0
    · rw [if_pos hc0] at hf; exact (q_L_law_152 hr23 hf).1
    rw [if_neg hc0] at hf
    by_cases hc1 : (x1 &&& (31 : Int32)) = 1
    · rw [if_pos hc1] at hf; exact (q_L_law_225 hr23 hf).1
    rw [if_neg hc1] at hf
    by_cases hc2 : (x1 &&& (31 : Int32)) = 2
    · rw [if_pos hc2] at hf; exact (q_L_law_250 hr23 hf).1
    rw [if_neg hc2] at hf
    by_cases hc3 : (x1 &&& (31 : Int32)) = 3
    · rw [if_pos hc3] at hf; exact (q_L_law_306 hr23 hf).1
    rw [if_neg hc3] at hf
    by_cases hc4 : (x1 &&& (31 : Int32)) = 4
    · rw [if_pos hc4] at hf; exact (q_L_law_331 hr23 hf).1
    rw [if_neg hc4] at hf
    by_cases hc5 : (x1 &&& (31 : Int32)) = 5
    · rw [if_pos hc5] at hf; exact (q_L_law_394 hr23 hf).1
    rw [if_neg hc5] at hf
    by_cases hc6 : (x1 &&& (31 : Int32)) = 6
    · rw [if_pos hc6] at hf; exact (q_L_law_462 hr23 hf).1
    rw [if_neg hc6] at hf
    by_cases hc7 : (x1 &&& (31 : Int32)) = 7
    · rw [if_pos hc7] at hf; exact (q_L_law_530 hr23 hf).1
    rw [if_neg hc7] at hf
    by_cases hc8 : (x1 &&& (31 : Int32)) = 8
    · rw [if_pos hc8] at hf; exact (q_L_law_610 hr23 hf).1
    rw [if_neg hc8] at hf
    by_cases hc9 : (x1 &&& (31 : Int32)) = 9
    · rw [if_pos hc9] at hf; exact (q_L_law_666 hr23 hf).1
    rw [if_neg hc9] at hf
    by_cases hc10 : (x1 &&& (31 : Int32)) = 10
    · rw [if_pos hc10] at hf; exact (q_L_law_691 hr23 hf).1
    rw [if_neg hc10] at hf
    by_cases hc11 : (x1 &&& (31 : Int32)) = 11
    · rw [if_pos hc11] at hf; exact (q_L_law_704 hr23 hf).1
    rw [if_neg hc11] at hf
    by_cases hc12 : (x1 &&& (31 : Int32)) = 12
    · rw [if_pos hc12] at hf; exact (q_L_law_772 hr23 hf).1
    rw [if_neg hc12] at hf
    by_cases hc13 : (x1 &&& (31 : Int32)) = 13
    · rw [if_pos hc13] at hf; exact (q_L_law_864 hr23 hf).1
    rw [if_neg hc13] at hf
    by_cases hc14 : (x1 &&& (31 : Int32)) = 14
    · rw [if_pos hc14] at hf; exact (q_L_law_944 hr23 hf).1
    rw [if_neg hc14] at hf
    by_cases hc15 : (x1 &&& (31 : Int32)) = 15
    · rw [if_pos hc15] at hf; exact (q_L_law_981 hr23 hf).1
    rw [if_neg hc15] at hf
    by_cases hc16 : (x1 &&& (31 : Int32)) = 16
    · rw [if_pos hc16] at hf; exact (q_L_law_1049 hr23 hf).1
    rw [if_neg hc16] at hf
    by_cases hc17 : (x1 &&& (31 : Int32)) = 17
    · rw [if_pos hc17] at hf; exact (q_L_law_1105 hr23 hf).1
    rw [if_neg hc17] at hf
    by_cases hc18 : (x1 &&& (31 : Int32)) = 18
    · rw [if_pos hc18] at hf; exact (q_L_law_1130 hr23 hf).1
    rw [if_neg hc18] at hf
    by_cases hc19 : (x1 &&& (31 : Int32)) = 19
    · rw [if_pos hc19] at hf; exact (q_L_law_1186 hr23 hf).1
    rw [if_neg hc19] at hf
    by_cases hc20 : (x1 &&& (31 : Int32)) = 20
    · rw [if_pos hc20] at hf; exact (q_L_law_1266 hr23 hf).1
    rw [if_neg hc20] at hf
    by_cases hc21 : (x1 &&& (31 : Int32)) = 21
    · rw [if_pos hc21] at hf; exact (q_L_law_1346 hr23 hf).1
    rw [if_neg hc21] at hf
    by_cases hc22 : (x1 &&& (31 : Int32)) = 22
    · rw [if_pos hc22] at hf; exact (q_L_law_1414 hr23 hf).1
    rw [if_neg hc22] at hf
    by_cases hc23 : (x1 &&& (31 : Int32)) = 23
    · rw [if_pos hc23] at hf; exact (q_L_law_1494 hr23 hf).1
    rw [if_neg hc23] at hf
    exact (q_L_law_1569 hr23 hf).1
  refine ⟨by omega, fun X g K ok nmx lev hK en => ?_⟩
  refine tj_aload_n ok 0 dL_law_33 rfl rfl ?_
  refine tj_iload ok 4 dL_law_34 rfl ?_
  refine tj_sld ok en dL_law_36 e1 ?_
  refine tj_bipush (v := 31) ok dL_law_37 (by decide) ?_
  refine tj_iand ok dL_law_39 ?_
  by_cases hc0 : (x1 &&& (31 : Int32)) = 0
  · rw [if_pos hc0] at hf
    have hx : ((x1 &&& (31 : Int32))).toInt = 0 := by rw [hc0]; decide
    refine tj_tabIn (off := 112) (tgt := 152) ok dL_law_40 (by rw [hx]; decide) (by rw [hx]; decide) (by rw [hx]; decide) (by decide) ?_
    exact (q_L_law_152 hr23 hf).2 X g K ok nmx lev hK en
  rw [if_neg hc0] at hf
  have hn0 := tn_i (n := 0) (by decide) hc0
  have hp0 := tn_j hn0
  by_cases hc1 : (x1 &&& (31 : Int32)) = 1
  · rw [if_pos hc1] at hf
    have hx : ((x1 &&& (31 : Int32))).toInt = 1 := by rw [hc1]; decide
    refine tj_tabIn (off := 185) (tgt := 225) ok dL_law_40 (by rw [hx]; decide) (by rw [hx]; decide) (by rw [hx]; decide) (by decide) ?_
    exact (q_L_law_225 hr23 hf).2 X g K ok nmx lev hK en
  rw [if_neg hc1] at hf
  have hn1 := tn_i (n := 1) (by decide) hc1
  have hp1 := tn_j hn1
  by_cases hc2 : (x1 &&& (31 : Int32)) = 2
  · rw [if_pos hc2] at hf
    have hx : ((x1 &&& (31 : Int32))).toInt = 2 := by rw [hc2]; decide
    refine tj_tabIn (off := 210) (tgt := 250) ok dL_law_40 (by rw [hx]; decide) (by rw [hx]; decide) (by rw [hx]; decide) (by decide) ?_
    exact (q_L_law_250 hr23 hf).2 X g K ok nmx lev hK en
  rw [if_neg hc2] at hf
  have hn2 := tn_i (n := 2) (by decide) hc2
  have hp2 := tn_j hn2
  by_cases hc3 : (x1 &&& (31 : Int32)) = 3
  · rw [if_pos hc3] at hf
    have hx : ((x1 &&& (31 : Int32))).toInt = 3 := by rw [hc3]; decide
    refine tj_tabIn (off := 266) (tgt := 306) ok dL_law_40 (by rw [hx]; decide) (by rw [hx]; decide) (by rw [hx]; decide) (by decide) ?_
    exact (q_L_law_306 hr23 hf).2 X g K ok nmx lev hK en
  rw [if_neg hc3] at hf
  have hn3 := tn_i (n := 3) (by decide) hc3
  have hp3 := tn_j hn3
  by_cases hc4 : (x1 &&& (31 : Int32)) = 4
  · rw [if_pos hc4] at hf
    have hx : ((x1 &&& (31 : Int32))).toInt = 4 := by rw [hc4]; decide
    refine tj_tabIn (off := 291) (tgt := 331) ok dL_law_40 (by rw [hx]; decide) (by rw [hx]; decide) (by rw [hx]; decide) (by decide) ?_
    exact (q_L_law_331 hr23 hf).2 X g K ok nmx lev hK en
  rw [if_neg hc4] at hf
  have hn4 := tn_i (n := 4) (by decide) hc4
  have hp4 := tn_j hn4
  by_cases hc5 : (x1 &&& (31 : Int32)) = 5
  · rw [if_pos hc5] at hf
    have hx : ((x1 &&& (31 : Int32))).toInt = 5 := by rw [hc5]; decide
    refine tj_tabIn (off := 354) (tgt := 394) ok dL_law_40 (by rw [hx]; decide) (by rw [hx]; decide) (by rw [hx]; decide) (by decide) ?_
    exact (q_L_law_394 hr23 hf).2 X g K ok nmx lev hK en
  rw [if_neg hc5] at hf
  have hn5 := tn_i (n := 5) (by decide) hc5
  have hp5 := tn_j hn5
  by_cases hc6 : (x1 &&& (31 : Int32)) = 6
  · rw [if_pos hc6] at hf
    have hx : ((x1 &&& (31 : Int32))).toInt = 6 := by rw [hc6]; decide
    refine tj_tabIn (off := 422) (tgt := 462) ok dL_law_40 (by rw [hx]; decide) (by rw [hx]; decide) (by rw [hx]; decide) (by decide) ?_
    exact (q_L_law_462 hr23 hf).2 X g K ok nmx lev hK en
  rw [if_neg hc6] at hf
  have hn6 := tn_i (n := 6) (by decide) hc6
  have hp6 := tn_j hn6
  by_cases hc7 : (x1 &&& (31 : Int32)) = 7
  · rw [if_pos hc7] at hf
    have hx : ((x1 &&& (31 : Int32))).toInt = 7 := by rw [hc7]; decide
    refine tj_tabIn (off := 490) (tgt := 530) ok dL_law_40 (by rw [hx]; decide) (by rw [hx]; decide) (by rw [hx]; decide) (by decide) ?_
    exact (q_L_law_530 hr23 hf).2 X g K ok nmx lev hK en
  rw [if_neg hc7] at hf
  have hn7 := tn_i (n := 7) (by decide) hc7
  have hp7 := tn_j hn7
  by_cases hc8 : (x1 &&& (31 : Int32)) = 8
  · rw [if_pos hc8] at hf
    have hx : ((x1 &&& (31 : Int32))).toInt = 8 := by rw [hc8]; decide
    refine tj_tabIn (off := 570) (tgt := 610) ok dL_law_40 (by rw [hx]; decide) (by rw [hx]; decide) (by rw [hx]; decide) (by decide) ?_
    exact (q_L_law_610 hr23 hf).2 X g K ok nmx lev hK en
  rw [if_neg hc8] at hf
  have hn8 := tn_i (n := 8) (by decide) hc8
  have hp8 := tn_j hn8
  by_cases hc9 : (x1 &&& (31 : Int32)) = 9
  · rw [if_pos hc9] at hf
    have hx : ((x1 &&& (31 : Int32))).toInt = 9 := by rw [hc9]; decide
    refine tj_tabIn (off := 626) (tgt := 666) ok dL_law_40 (by rw [hx]; decide) (by rw [hx]; decide) (by rw [hx]; decide) (by decide) ?_
    exact (q_L_law_666 hr23 hf).2 X g K ok nmx lev hK en
  rw [if_neg hc9] at hf
  have hn9 := tn_i (n := 9) (by decide) hc9
  have hp9 := tn_j hn9
  by_cases hc10 : (x1 &&& (31 : Int32)) = 10
  · rw [if_pos hc10] at hf
    have hx : ((x1 &&& (31 : Int32))).toInt = 10 := by rw [hc10]; decide
    refine tj_tabIn (off := 651) (tgt := 691) ok dL_law_40 (by rw [hx]; decide) (by rw [hx]; decide) (by rw [hx]; decide) (by decide) ?_
    exact (q_L_law_691 hr23 hf).2 X g K ok nmx lev hK en
  rw [if_neg hc10] at hf
  have hn10 := tn_i (n := 10) (by decide) hc10
  have hp10 := tn_j hn10
  by_cases hc11 : (x1 &&& (31 : Int32)) = 11
  · rw [if_pos hc11] at hf
    have hx : ((x1 &&& (31 : Int32))).toInt = 11 := by rw [hc11]; decide
    refine tj_tabIn (off := 664) (tgt := 704) ok dL_law_40 (by rw [hx]; decide) (by rw [hx]; decide) (by rw [hx]; decide) (by decide) ?_
    exact (q_L_law_704 hr23 hf).2 X g K ok nmx lev hK en
  rw [if_neg hc11] at hf
  have hn11 := tn_i (n := 11) (by decide) hc11
  have hp11 := tn_j hn11
  by_cases hc12 : (x1 &&& (31 : Int32)) = 12
  · rw [if_pos hc12] at hf
    have hx : ((x1 &&& (31 : Int32))).toInt = 12 := by rw [hc12]; decide
    refine tj_tabIn (off := 732) (tgt := 772) ok dL_law_40 (by rw [hx]; decide) (by rw [hx]; decide) (by rw [hx]; decide) (by decide) ?_
    exact (q_L_law_772 hr23 hf).2 X g K ok nmx lev hK en
  rw [if_neg hc12] at hf
  have hn12 := tn_i (n := 12) (by decide) hc12
  have hp12 := tn_j hn12
  by_cases hc13 : (x1 &&& (31 : Int32)) = 13
  · rw [if_pos hc13] at hf
    have hx : ((x1 &&& (31 : Int32))).toInt = 13 := by rw [hc13]; decide
    refine tj_tabIn (off := 824) (tgt := 864) ok dL_law_40 (by rw [hx]; decide) (by rw [hx]; decide) (by rw [hx]; decide) (by decide) ?_
    exact (q_L_law_864 hr23 hf).2 X g K ok nmx lev hK en
  rw [if_neg hc13] at hf
  have hn13 := tn_i (n := 13) (by decide) hc13
  have hp13 := tn_j hn13
  by_cases hc14 : (x1 &&& (31 : Int32)) = 14
  · rw [if_pos hc14] at hf
    have hx : ((x1 &&& (31 : Int32))).toInt = 14 := by rw [hc14]; decide
    refine tj_tabIn (off := 904) (tgt := 944) ok dL_law_40 (by rw [hx]; decide) (by rw [hx]; decide) (by rw [hx]; decide) (by decide) ?_
    exact (q_L_law_944 hr23 hf).2 X g K ok nmx lev hK en
  rw [if_neg hc14] at hf
  have hn14 := tn_i (n := 14) (by decide) hc14
  have hp14 := tn_j hn14
  by_cases hc15 : (x1 &&& (31 : Int32)) = 15
  · rw [if_pos hc15] at hf
    have hx : ((x1 &&& (31 : Int32))).toInt = 15 := by rw [hc15]; decide
    refine tj_tabIn (off := 941) (tgt := 981) ok dL_law_40 (by rw [hx]; decide) (by rw [hx]; decide) (by rw [hx]; decide) (by decide) ?_
    exact (q_L_law_981 hr23 hf).2 X g K ok nmx lev hK en
  rw [if_neg hc15] at hf
  have hn15 := tn_i (n := 15) (by decide) hc15
  have hp15 := tn_j hn15
  by_cases hc16 : (x1 &&& (31 : Int32)) = 16
  · rw [if_pos hc16] at hf
    have hx : ((x1 &&& (31 : Int32))).toInt = 16 := by rw [hc16]; decide
    refine tj_tabIn (off := 1009) (tgt := 1049) ok dL_law_40 (by rw [hx]; decide) (by rw [hx]; decide) (by rw [hx]; decide) (by decide) ?_
    exact (q_L_law_1049 hr23 hf).2 X g K ok nmx lev hK en
  rw [if_neg hc16] at hf
  have hn16 := tn_i (n := 16) (by decide) hc16
  have hp16 := tn_j hn16
  by_cases hc17 : (x1 &&& (31 : Int32)) = 17
  · rw [if_pos hc17] at hf
    have hx : ((x1 &&& (31 : Int32))).toInt = 17 := by rw [hc17]; decide
    refine tj_tabIn (off := 1065) (tgt := 1105) ok dL_law_40 (by rw [hx]; decide) (by rw [hx]; decide) (by rw [hx]; decide) (by decide) ?_
    exact (q_L_law_1105 hr23 hf).2 X g K ok nmx lev hK en
  rw [if_neg hc17] at hf
  have hn17 := tn_i (n := 17) (by decide) hc17
  have hp17 := tn_j hn17
  by_cases hc18 : (x1 &&& (31 : Int32)) = 18
  · rw [if_pos hc18] at hf
    have hx : ((x1 &&& (31 : Int32))).toInt = 18 := by rw [hc18]; decide
    refine tj_tabIn (off := 1090) (tgt := 1130) ok dL_law_40 (by rw [hx]; decide) (by rw [hx]; decide) (by rw [hx]; decide) (by decide) ?_
    exact (q_L_law_1130 hr23 hf).2 X g K ok nmx lev hK en
  rw [if_neg hc18] at hf
  have hn18 := tn_i (n := 18) (by decide) hc18
  have hp18 := tn_j hn18
  by_cases hc19 : (x1 &&& (31 : Int32)) = 19
  · rw [if_pos hc19] at hf
    have hx : ((x1 &&& (31 : Int32))).toInt = 19 := by rw [hc19]; decide
    refine tj_tabIn (off := 1146) (tgt := 1186) ok dL_law_40 (by rw [hx]; decide) (by rw [hx]; decide) (by rw [hx]; decide) (by decide) ?_
    exact (q_L_law_1186 hr23 hf).2 X g K ok nmx lev hK en
  rw [if_neg hc19] at hf
  have hn19 := tn_i (n := 19) (by decide) hc19
  have hp19 := tn_j hn19
  by_cases hc20 : (x1 &&& (31 : Int32)) = 20
  · rw [if_pos hc20] at hf
    have hx : ((x1 &&& (31 : Int32))).toInt = 20 := by rw [hc20]; decide
    refine tj_tabIn (off := 1226) (tgt := 1266) ok dL_law_40 (by rw [hx]; decide) (by rw [hx]; decide) (by rw [hx]; decide) (by decide) ?_
    exact (q_L_law_1266 hr23 hf).2 X g K ok nmx lev hK en
  rw [if_neg hc20] at hf
  have hn20 := tn_i (n := 20) (by decide) hc20
  have hp20 := tn_j hn20
  by_cases hc21 : (x1 &&& (31 : Int32)) = 21
  · rw [if_pos hc21] at hf
    have hx : ((x1 &&& (31 : Int32))).toInt = 21 := by rw [hc21]; decide
    refine tj_tabIn (off := 1306) (tgt := 1346) ok dL_law_40 (by rw [hx]; decide) (by rw [hx]; decide) (by rw [hx]; decide) (by decide) ?_
    exact (q_L_law_1346 hr23 hf).2 X g K ok nmx lev hK en
  rw [if_neg hc21] at hf
  have hn21 := tn_i (n := 21) (by decide) hc21
  have hp21 := tn_j hn21
  by_cases hc22 : (x1 &&& (31 : Int32)) = 22
  · rw [if_pos hc22] at hf
    have hx : ((x1 &&& (31 : Int32))).toInt = 22 := by rw [hc22]; decide
    refine tj_tabIn (off := 1374) (tgt := 1414) ok dL_law_40 (by rw [hx]; decide) (by rw [hx]; decide) (by rw [hx]; decide) (by decide) ?_
    exact (q_L_law_1414 hr23 hf).2 X g K ok nmx lev hK en
  rw [if_neg hc22] at hf
  have hn22 := tn_i (n := 22) (by decide) hc22
  have hp22 := tn_j hn22
  by_cases hc23 : (x1 &&& (31 : Int32)) = 23
  · rw [if_pos hc23] at hf
    have hx : ((x1 &&& (31 : Int32))).toInt = 23 := by rw [hc23]; decide
    refine tj_tabIn (off := 1454) (tgt := 1494) ok dL_law_40 (by rw [hx]; decide) (by rw [hx]; decide) (by rw [hx]; decide) (by decide) ?_
    exact (q_L_law_1494 hr23 hf).2 X g K ok nmx lev hK en
  rw [if_neg hc23] at hf
  have hn23 := tn_i (n := 23) (by decide) hc23
  have hp23 := tn_j hn23
  refine tj_tabOut (tgt := 1569) ok dL_law_40 (by omega) (by decide) ?_
  exact (q_L_law_1569 hr23 hf).2 X g K ok nmx lev hK en
def b_L_law_23 (L : Nat) (xs : Nat → Int32) (r23 : Nat → Nat → Nat → Nat → Int32 → AH → Option (Int32 × AH)) (a0 : Nat) (a1 : Nat) (a2 : Nat) (a3 : Nat) (a4 : Int32) (h : AH) : Option (Int32 × AH) :=
  (sc_n L a0).bind fun x1 => if (x1 - (6 : Int32)) < a4 then b_L_law_1575 L xs h else b_L_law_33 L xs r23 a0 a1 a2 a3 a4 h
set_option maxHeartbeats 4000000 in
set_option maxRecDepth 100000 in
theorem q_L_law_23 {hE : AH} {v : Int32} {L : Nat} {xs : Nat → Int32} {r23 : Nat → Nat → Nat → Nat → Int32 → AH → Option (Int32 × AH)} (hr23 : ∀ (b0 : Nat) (b1 : Nat) (b2 : Nat) (b3 : Nat) (b4 : Int32) (h : AH), r23 b0 b1 b2 b3 b4 h = some (v, hE) → JL L xs cL_law 7 RL "law" (some .boolean) (243) 23 [(0, .inr (.inr (b0))), (1, .inr (.inr (b1))), (2, .inr (.inr (b2))), (3, .inr (.inr (b3))), (4, .inl (b4))] [] h hE (some (.inl (v)))) {a0 : Nat} {a1 : Nat} {a2 : Nat} {a3 : Nat} {a4 : Int32} {h : AH} (hf : b_L_law_23 L xs r23 a0 a1 a2 a3 a4 h = some (v, hE)) : JL L xs cL_law 7 RL "law" (some .boolean) (243) 23 [(0, .inr (.inr (a0))), (1, .inr (.inr (a1))), (2, .inr (.inr (a2))), (3, .inr (.inr (a3))), (4, .inl (a4))] [] h hE (some (.inl (v))) := by
  unfold b_L_law_23 at hf
  obtain ⟨x1, e1, hf⟩ := bnd hf
  have mE : hp_n h ≤ hp_n hE ∧ hp_s h ≤ hp_s hE := by
    by_cases hc : (x1 - (6 : Int32)) < a4
    · rw [if_pos hc] at hf; exact (q_L_law_1575 hf).1
    · rw [if_neg hc] at hf; exact (q_L_law_33 hr23 hf).1
  refine ⟨by omega, fun X g K ok nmx lev hK en => ?_⟩
  refine tj_iload ok 4 dL_law_23 rfl ?_
  refine tj_aload_n ok 0 dL_law_25 rfl rfl ?_
  refine tj_slen ok en dL_law_26 e1 ?_
  refine tj_bipush (v := 6) ok dL_law_27 (by decide) ?_
  refine tj_isub ok dL_law_29 ?_
  refine tj_icmp_gt (tgt := 1575) ok dL_law_30 (by decide) (fun hc => ?_) (fun hc => ?_)
  · rw [if_pos hc] at hf
    refine tj_sub (lv' := []) [] rfl ?_
    exact (q_L_law_1575 hf).2 X g K ok nmx lev hK en
  · rw [if_neg hc] at hf
    exact (q_L_law_33 hr23 hf).2 X g K ok nmx lev hK en
def l_L_law_23 (L : Nat) (xs : Nat → Int32) : Nat → Nat → Nat → Nat → Nat → Int32 → AH → Option (Int32 × AH)
  | 0 => fun _ _ _ _ _ _ => none
  | n + 1 => fun a0 a1 a2 a3 a4 h => b_L_law_23 L xs (l_L_law_23 L xs n) a0 a1 a2 a3 a4 h
theorem ql_L_law_23 {L : Nat} {xs : Nat → Int32} {n : Nat} {a0 : Nat} {a1 : Nat} {a2 : Nat} {a3 : Nat} {a4 : Int32} {h hE : AH} {v : Int32} (hf : l_L_law_23 L xs n a0 a1 a2 a3 a4 h = some (v, hE)) : JL L xs cL_law 7 RL "law" (some .boolean) (243) 23 [(0, .inr (.inr (a0))), (1, .inr (.inr (a1))), (2, .inr (.inr (a2))), (3, .inr (.inr (a3))), (4, .inl (a4))] [] h hE (some (.inl (v))) := by
  induction n generalizing a0 a1 a2 a3 a4 h with
  | zero => cases hf
  | succ n ih => exact q_L_law_23 (fun _ _ _ _ _ _ hf => ih hf) hf
def b_L_law_0 (L : Nat) (xs : Nat → Int32) (a0 : Nat) (h : AH) : Option (Int32 × AH) :=
  (ok_h (hp_n h)).bind fun x2 => (f_X10_init (hp_n h) (st_n h 10 10)).bind fun h3 => (ok_h (hp_n h3)).bind fun x5 => (f_X11_init (hp_n h3) (st_n h3 11 47)).bind fun h6 => (n_a h6 101 (1 : Int32)).bind fun h7 => l_L_law_23 L xs fu_ a0 (hp_n h) (hp_n h3) (hp_n h6) (0 : Int32) h7
set_option maxHeartbeats 4000000 in
set_option maxRecDepth 100000 in
theorem q_L_law_0 {L : Nat} {xs : Nat → Int32} {a0 : Nat} {h hE : AH} {v : Int32} (hf : b_L_law_0 L xs a0 h = some (v, hE)) : JL L xs cL_law 7 RL "law" (some .boolean) (243) 0 [(0, .inr (.inr (a0)))] [] h hE (some (.inl (v))) := by
  unfold b_L_law_0 at hf
  have m1 := nn_o (h := h) (c := 10) (n := 10)
  obtain ⟨x2, e2, hf⟩ := bnd hf
  obtain ⟨h3, e3, hf⟩ := bnd hf
  have k3 := c_X10_init e3
  have m3 := (k3 default_g).1
  have m4 := nn_o (h := h3) (c := 11) (n := 47)
  obtain ⟨x5, e5, hf⟩ := bnd hf
  obtain ⟨h6, e6, hf⟩ := bnd hf
  have k6 := c_X11_init e6
  have m6 := (k6 default_g).1
  obtain ⟨h7, e7, hf⟩ := bnd hf
  have m7 := nn_n e7
  have J := ql_L_law_23 hf
  have mE := J.1
  refine ⟨by omega, fun X g K ok nmx lev hK en => ?_⟩
  refine tj_new ok fcX10 wm_1442 wm_1443 wm_90 dL_law_0 nfX10 ndX10 (CaX.ofL en (by omega)) ?_
  refine tj_dupa ok dL_law_3 ?_
  refine tj_callI (rest := ([.inr (.inr (hp_n h))] : List TV).map (vl g)) (as := []) ok lev (by omega) (of_if e2).1 (k3 g) (CaX.ofL en (by omega)) kn_X10_init rfl wm_1444 wm_1445 (rs_ok (Nat.le_of_ble_eq_true rfl)) rfl dL_law_4 ?_
  refine tj_astore_n (lv' := [(0, .inr (.inr (a0))), (1, .inr (.inr (hp_n h)))]) ok dL_law_7 rfl (by decide) rfl ?_
  refine tj_new ok fcX11 wm_1446 wm_1447 wm_502 dL_law_8 nfX11 ndX11 (CaX.ofL en (by omega)) ?_
  refine tj_dupa ok dL_law_11 ?_
  refine tj_callI (rest := ([.inr (.inr (hp_n h3))] : List TV).map (vl g)) (as := []) ok lev (by omega) (of_if e5).1 (k6 g) (CaX.ofL en (by omega)) kn_X11_init rfl wm_1448 wm_1449 (rs_ok (Nat.le_of_ble_eq_true rfl)) rfl dL_law_12 ?_
  refine tj_astore_n (lv' := [(0, .inr (.inr (a0))), (1, .inr (.inr (hp_n h))), (2, .inr (.inr (hp_n h3)))]) ok dL_law_15 rfl (by decide) rfl ?_
  refine tj_iconst (v := 1) ok dL_law_16 (by decide) ?_
  refine tj_newJ ok wm_164 dL_law_17 e7 (CaX.ofL en (by omega)) ?_
  refine tj_astore_n (lv' := [(0, .inr (.inr (a0))), (1, .inr (.inr (hp_n h))), (2, .inr (.inr (hp_n h3))), (3, .inr (.inr (hp_n h6)))]) ok dL_law_19 rfl (by decide) rfl ?_
  refine tj_iconst (v := 0) ok dL_law_20 (by decide) ?_
  refine tj_istore (lv' := [(0, .inr (.inr (a0))), (1, .inr (.inr (hp_n h))), (2, .inr (.inr (hp_n h3))), (3, .inr (.inr (hp_n h6))), (4, .inl ((0 : Int32)))]) ok dL_law_21 (by decide) rfl ?_
  exact J.2 X g K ok nmx lev hK en
def f_L_law (L : Nat) (xs : Nat → Int32) (h : AH) : Option (Int32 × AH) := b_L_law_0 L xs 31 h
