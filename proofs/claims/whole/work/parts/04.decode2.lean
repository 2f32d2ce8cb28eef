theorem dX9_addStep_57 : decode cX9_addStep 57 = .ok (.imul, 1) := by decide +kernel
theorem dX9_addStep_58 : decode cX9_addStep 58 = .ok (.iadd, 1) := by decide +kernel
theorem dX9_addStep_59 : decode cX9_addStep 59 = .ok (.iload 8, 2) := by decide +kernel
theorem dX9_addStep_61 : decode cX9_addStep 61 = .ok (.iadd, 1) := by decide +kernel
theorem dX9_addStep_62 : decode cX9_addStep 62 = .ok (.invokevirtual 71, 3) := by decide +kernel
theorem dX9_addStep_65 : decode cX9_addStep 65 = .ok (.aload_n 0, 1) := by decide +kernel
theorem dX9_addStep_66 : decode cX9_addStep 66 = .ok (.getfield 16, 3) := by decide +kernel
theorem dX9_addStep_69 : decode cX9_addStep 69 = .ok (.iload 6, 2) := by decide +kernel
theorem dX9_addStep_71 : decode cX9_addStep 71 = .ok (.sipush 256, 3) := by decide +kernel
theorem dX9_addStep_74 : decode cX9_addStep 74 = .ok (.irem, 1) := by decide +kernel
theorem dX9_addStep_75 : decode cX9_addStep 75 = .ok (.invokevirtual 71, 3) := by decide +kernel
theorem dX9_addStep_78 : decode cX9_addStep 78 = .ok (.goto 364, 3) := by decide +kernel
theorem dX9_addStep_81 : decode cX9_addStep 81 = .ok (.iload 6, 2) := by decide +kernel
theorem dX9_addStep_83 : decode cX9_addStep 83 = .ok (.ifCond .ne 48, 3) := by decide +kernel
theorem dX9_addStep_86 : decode cX9_addStep 86 = .ok (.iload 5, 2) := by decide +kernel
theorem dX9_addStep_88 : decode cX9_addStep 88 = .ok (.sipush 1280, 3) := by decide +kernel
theorem dX9_addStep_91 : decode cX9_addStep 91 = .ok (.if_icmp .ge 40, 3) := by decide +kernel
theorem dX9_addStep_94 : decode cX9_addStep 94 = .ok (.aload 4, 2) := by decide +kernel
theorem dX9_addStep_96 : decode cX9_addStep 96 = .ok (.iload_n 3, 1) := by decide +kernel
theorem dX9_addStep_97 : decode cX9_addStep 97 = .ok (.bipush 10, 2) := by decide +kernel
theorem dX9_addStep_99 : decode cX9_addStep 99 = .ok (.iadd, 1) := by decide +kernel
theorem dX9_addStep_100 : decode cX9_addStep 100 = .ok (.iload 5, 2) := by decide +kernel
theorem dX9_addStep_102 : decode cX9_addStep 102 = .ok (.sipush 256, 3) := by decide +kernel
theorem dX9_addStep_105 : decode cX9_addStep 105 = .ok (.idiv, 1) := by decide +kernel
theorem dX9_addStep_106 : decode cX9_addStep 106 = .ok (.iconst 2, 1) := by decide +kernel
theorem dX9_addStep_107 : decode cX9_addStep 107 = .ok (.imul, 1) := by decide +kernel
theorem dX9_addStep_108 : decode cX9_addStep 108 = .ok (.iadd, 1) := by decide +kernel
theorem dX9_addStep_109 : decode cX9_addStep 109 = .ok (.iload 7, 2) := by decide +kernel
theorem dX9_addStep_111 : decode cX9_addStep 111 = .ok (.iadd, 1) := by decide +kernel
theorem dX9_addStep_112 : decode cX9_addStep 112 = .ok (.invokevirtual 71, 3) := by decide +kernel
theorem dX9_addStep_115 : decode cX9_addStep 115 = .ok (.aload_n 0, 1) := by decide +kernel
theorem dX9_addStep_116 : decode cX9_addStep 116 = .ok (.getfield 16, 3) := by decide +kernel
theorem dX9_addStep_119 : decode cX9_addStep 119 = .ok (.iload 5, 2) := by decide +kernel
theorem dX9_addStep_121 : decode cX9_addStep 121 = .ok (.sipush 256, 3) := by decide +kernel
theorem dX9_addStep_124 : decode cX9_addStep 124 = .ok (.irem, 1) := by decide +kernel
theorem dX9_addStep_125 : decode cX9_addStep 125 = .ok (.invokevirtual 71, 3) := by decide +kernel
theorem dX9_addStep_128 : decode cX9_addStep 128 = .ok (.goto 314, 3) := by decide +kernel
theorem dX9_addStep_131 : decode cX9_addStep 131 = .ok (.iload 5, 2) := by decide +kernel
theorem dX9_addStep_133 : decode cX9_addStep 133 = .ok (.ifCond .le 88, 3) := by decide +kernel
theorem dX9_addStep_136 : decode cX9_addStep 136 = .ok (.iload 6, 2) := by decide +kernel
theorem dX9_addStep_138 : decode cX9_addStep 138 = .ok (.ifCond .le 83, 3) := by decide +kernel
theorem dX9_addStep_141 : decode cX9_addStep 141 = .ok (.iload 5, 2) := by decide +kernel
theorem dX9_addStep_143 : decode cX9_addStep 143 = .ok (.bipush 65, 2) := by decide +kernel
theorem dX9_addStep_145 : decode cX9_addStep 145 = .ok (.if_icmp .ge 76, 3) := by decide +kernel
theorem dX9_addStep_148 : decode cX9_addStep 148 = .ok (.iload 6, 2) := by decide +kernel
theorem dX9_addStep_150 : decode cX9_addStep 150 = .ok (.bipush 65, 2) := by decide +kernel
theorem dX9_addStep_152 : decode cX9_addStep 152 = .ok (.if_icmp .ge 69, 3) := by decide +kernel
theorem dX9_addStep_155 : decode cX9_addStep 155 = .ok (.aload 4, 2) := by decide +kernel
theorem dX9_addStep_157 : decode cX9_addStep 157 = .ok (.iload_n 3, 1) := by decide +kernel
theorem dX9_addStep_158 : decode cX9_addStep 158 = .ok (.bipush 20, 2) := by decide +kernel
theorem dX9_addStep_160 : decode cX9_addStep 160 = .ok (.iadd, 1) := by decide +kernel
theorem dX9_addStep_161 : decode cX9_addStep 161 = .ok (.iload 5, 2) := by decide +kernel
theorem dX9_addStep_163 : decode cX9_addStep 163 = .ok (.iconst 1, 1) := by decide +kernel
theorem dX9_addStep_164 : decode cX9_addStep 164 = .ok (.isub, 1) := by decide +kernel
theorem dX9_addStep_165 : decode cX9_addStep 165 = .ok (.bipush 16, 2) := by decide +kernel
theorem dX9_addStep_167 : decode cX9_addStep 167 = .ok (.idiv, 1) := by decide +kernel
theorem dX9_addStep_168 : decode cX9_addStep 168 = .ok (.bipush 16, 2) := by decide +kernel
theorem dX9_addStep_170 : decode cX9_addStep 170 = .ok (.imul, 1) := by decide +kernel
theorem dX9_addStep_171 : decode cX9_addStep 171 = .ok (.iadd, 1) := by decide +kernel
theorem dX9_addStep_172 : decode cX9_addStep 172 = .ok (.iload 6, 2) := by decide +kernel
theorem dX9_addStep_174 : decode cX9_addStep 174 = .ok (.iconst 1, 1) := by decide +kernel
theorem dX9_addStep_175 : decode cX9_addStep 175 = .ok (.isub, 1) := by decide +kernel
theorem dX9_addStep_176 : decode cX9_addStep 176 = .ok (.bipush 16, 2) := by decide +kernel
theorem dX9_addStep_178 : decode cX9_addStep 178 = .ok (.idiv, 1) := by decide +kernel
theorem dX9_addStep_179 : decode cX9_addStep 179 = .ok (.iconst 4, 1) := by decide +kernel
theorem dX9_addStep_180 : decode cX9_addStep 180 = .ok (.imul, 1) := by decide +kernel
theorem dX9_addStep_181 : decode cX9_addStep 181 = .ok (.iadd, 1) := by decide +kernel
theorem dX9_addStep_182 : decode cX9_addStep 182 = .ok (.iload 7, 2) := by decide +kernel
theorem dX9_addStep_184 : decode cX9_addStep 184 = .ok (.iadd, 1) := by decide +kernel
theorem dX9_addStep_185 : decode cX9_addStep 185 = .ok (.iconst 2, 1) := by decide +kernel
theorem dX9_addStep_186 : decode cX9_addStep 186 = .ok (.iload 8, 2) := by decide +kernel
theorem dX9_addStep_188 : decode cX9_addStep 188 = .ok (.imul, 1) := by decide +kernel
theorem dX9_addStep_189 : decode cX9_addStep 189 = .ok (.iadd, 1) := by decide +kernel
theorem dX9_addStep_190 : decode cX9_addStep 190 = .ok (.invokevirtual 71, 3) := by decide +kernel
theorem dX9_addStep_193 : decode cX9_addStep 193 = .ok (.aload_n 0, 1) := by decide +kernel
theorem dX9_addStep_194 : decode cX9_addStep 194 = .ok (.getfield 16, 3) := by decide +kernel
theorem dX9_addStep_197 : decode cX9_addStep 197 = .ok (.iload 5, 2) := by decide +kernel
theorem dX9_addStep_199 : decode cX9_addStep 199 = .ok (.iconst 1, 1) := by decide +kernel
theorem dX9_addStep_200 : decode cX9_addStep 200 = .ok (.isub, 1) := by decide +kernel
theorem dX9_addStep_201 : decode cX9_addStep 201 = .ok (.bipush 16, 2) := by decide +kernel
theorem dX9_addStep_203 : decode cX9_addStep 203 = .ok (.irem, 1) := by decide +kernel
theorem dX9_addStep_204 : decode cX9_addStep 204 = .ok (.bipush 16, 2) := by decide +kernel
theorem dX9_addStep_206 : decode cX9_addStep 206 = .ok (.imul, 1) := by decide +kernel
theorem dX9_addStep_207 : decode cX9_addStep 207 = .ok (.iload 6, 2) := by decide +kernel
theorem dX9_addStep_209 : decode cX9_addStep 209 = .ok (.iconst 1, 1) := by decide +kernel
theorem dX9_addStep_210 : decode cX9_addStep 210 = .ok (.isub, 1) := by decide +kernel
theorem dX9_addStep_211 : decode cX9_addStep 211 = .ok (.bipush 16, 2) := by decide +kernel
theorem dX9_addStep_213 : decode cX9_addStep 213 = .ok (.irem, 1) := by decide +kernel
theorem dX9_addStep_214 : decode cX9_addStep 214 = .ok (.iadd, 1) := by decide +kernel
theorem dX9_addStep_215 : decode cX9_addStep 215 = .ok (.invokevirtual 71, 3) := by decide +kernel
theorem dX9_addStep_218 : decode cX9_addStep 218 = .ok (.goto 224, 3) := by decide +kernel
theorem dX9_addStep_221 : decode cX9_addStep 221 = .ok (.iload 5, 2) := by decide +kernel
theorem dX9_addStep_223 : decode cX9_addStep 223 = .ok (.ifCond .le 97, 3) := by decide +kernel
theorem dX9_addStep_226 : decode cX9_addStep 226 = .ok (.iload 6, 2) := by decide +kernel
theorem dX9_addStep_228 : decode cX9_addStep 228 = .ok (.ifCond .le 92, 3) := by decide +kernel
theorem dX9_addStep_231 : decode cX9_addStep 231 = .ok (.iload 5, 2) := by decide +kernel
theorem dX9_addStep_233 : decode cX9_addStep 233 = .ok (.sipush 769, 3) := by decide +kernel
theorem dX9_addStep_236 : decode cX9_addStep 236 = .ok (.if_icmp .ge 84, 3) := by decide +kernel
theorem dX9_addStep_239 : decode cX9_addStep 239 = .ok (.iload 6, 2) := by decide +kernel
theorem dX9_addStep_241 : decode cX9_addStep 241 = .ok (.sipush 769, 3) := by decide +kernel
theorem dX9_addStep_244 : decode cX9_addStep 244 = .ok (.if_icmp .ge 76, 3) := by decide +kernel
theorem dX9_addStep_247 : decode cX9_addStep 247 = .ok (.aload 4, 2) := by decide +kernel
theorem dX9_addStep_249 : decode cX9_addStep 249 = .ok (.iload_n 3, 1) := by decide +kernel
theorem dX9_addStep_250 : decode cX9_addStep 250 = .ok (.bipush 84, 2) := by decide +kernel
theorem dX9_addStep_252 : decode cX9_addStep 252 = .ok (.iadd, 1) := by decide +kernel
theorem dX9_addStep_253 : decode cX9_addStep 253 = .ok (.iload 5, 2) := by decide +kernel
theorem dX9_addStep_255 : decode cX9_addStep 255 = .ok (.iconst 1, 1) := by decide +kernel
theorem dX9_addStep_256 : decode cX9_addStep 256 = .ok (.isub, 1) := by decide +kernel
theorem dX9_addStep_257 : decode cX9_addStep 257 = .ok (.sipush 256, 3) := by decide +kernel
theorem dX9_addStep_260 : decode cX9_addStep 260 = .ok (.idiv, 1) := by decide +kernel
theorem dX9_addStep_261 : decode cX9_addStep 261 = .ok (.bipush 12, 2) := by decide +kernel
theorem dX9_addStep_263 : decode cX9_addStep 263 = .ok (.imul, 1) := by decide +kernel
theorem dX9_addStep_264 : decode cX9_addStep 264 = .ok (.iadd, 1) := by decide +kernel
theorem dX9_addStep_265 : decode cX9_addStep 265 = .ok (.iload 6, 2) := by decide +kernel
theorem dX9_addStep_267 : decode cX9_addStep 267 = .ok (.iconst 1, 1) := by decide +kernel
theorem dX9_addStep_268 : decode cX9_addStep 268 = .ok (.isub, 1) := by decide +kernel
theorem dX9_addStep_269 : decode cX9_addStep 269 = .ok (.sipush 256, 3) := by decide +kernel
theorem dX9_addStep_272 : decode cX9_addStep 272 = .ok (.idiv, 1) := by decide +kernel
theorem dX9_addStep_273 : decode cX9_addStep 273 = .ok (.iconst 4, 1) := by decide +kernel
theorem dX9_addStep_274 : decode cX9_addStep 274 = .ok (.imul, 1) := by decide +kernel
theorem dX9_addStep_275 : decode cX9_addStep 275 = .ok (.iadd, 1) := by decide +kernel
theorem dX9_addStep_276 : decode cX9_addStep 276 = .ok (.iload 7, 2) := by decide +kernel
theorem dX9_addStep_278 : decode cX9_addStep 278 = .ok (.iadd, 1) := by decide +kernel
theorem dX9_addStep_279 : decode cX9_addStep 279 = .ok (.iconst 2, 1) := by decide +kernel
theorem dX9_addStep_280 : decode cX9_addStep 280 = .ok (.iload 8, 2) := by decide +kernel
theorem dX9_addStep_282 : decode cX9_addStep 282 = .ok (.imul, 1) := by decide +kernel
theorem dX9_addStep_283 : decode cX9_addStep 283 = .ok (.iadd, 1) := by decide +kernel
theorem dX9_addStep_284 : decode cX9_addStep 284 = .ok (.invokevirtual 71, 3) := by decide +kernel
theorem dX9_addStep_287 : decode cX9_addStep 287 = .ok (.aload_n 0, 1) := by decide +kernel
theorem dX9_addStep_288 : decode cX9_addStep 288 = .ok (.getfield 16, 3) := by decide +kernel
theorem dX9_addStep_291 : decode cX9_addStep 291 = .ok (.iload 5, 2) := by decide +kernel
theorem dX9_addStep_293 : decode cX9_addStep 293 = .ok (.iconst 1, 1) := by decide +kernel
theorem dX9_addStep_294 : decode cX9_addStep 294 = .ok (.isub, 1) := by decide +kernel
theorem dX9_addStep_295 : decode cX9_addStep 295 = .ok (.sipush 256, 3) := by decide +kernel
theorem dX9_addStep_298 : decode cX9_addStep 298 = .ok (.irem, 1) := by decide +kernel
theorem dX9_addStep_299 : decode cX9_addStep 299 = .ok (.invokevirtual 71, 3) := by decide +kernel
theorem dX9_addStep_302 : decode cX9_addStep 302 = .ok (.aload_n 0, 1) := by decide +kernel
theorem dX9_addStep_303 : decode cX9_addStep 303 = .ok (.getfield 16, 3) := by decide +kernel
theorem dX9_addStep_306 : decode cX9_addStep 306 = .ok (.iload 6, 2) := by decide +kernel
theorem dX9_addStep_308 : decode cX9_addStep 308 = .ok (.iconst 1, 1) := by decide +kernel
theorem dX9_addStep_309 : decode cX9_addStep 309 = .ok (.isub, 1) := by decide +kernel
theorem dX9_addStep_310 : decode cX9_addStep 310 = .ok (.sipush 256, 3) := by decide +kernel
theorem dX9_addStep_313 : decode cX9_addStep 313 = .ok (.irem, 1) := by decide +kernel
theorem dX9_addStep_314 : decode cX9_addStep 314 = .ok (.invokevirtual 71, 3) := by decide +kernel
theorem dX9_addStep_317 : decode cX9_addStep 317 = .ok (.goto 125, 3) := by decide +kernel
theorem dX9_addStep_320 : decode cX9_addStep 320 = .ok (.iload 5, 2) := by decide +kernel
theorem dX9_addStep_322 : decode cX9_addStep 322 = .ok (.sipush 4096, 3) := by decide +kernel
theorem dX9_addStep_325 : decode cX9_addStep 325 = .ok (.if_icmp .ge 78, 3) := by decide +kernel
theorem dX9_addStep_328 : decode cX9_addStep 328 = .ok (.iload 6, 2) := by decide +kernel
theorem dX9_addStep_330 : decode cX9_addStep 330 = .ok (.sipush 4096, 3) := by decide +kernel
theorem dX9_addStep_333 : decode cX9_addStep 333 = .ok (.if_icmp .ge 70, 3) := by decide +kernel
theorem dX9_addStep_336 : decode cX9_addStep 336 = .ok (.aload 4, 2) := by decide +kernel
theorem dX9_addStep_338 : decode cX9_addStep 338 = .ok (.iload_n 3, 1) := by decide +kernel
theorem dX9_addStep_339 : decode cX9_addStep 339 = .ok (.bipush 120, 2) := by decide +kernel
theorem dX9_addStep_341 : decode cX9_addStep 341 = .ok (.iadd, 1) := by decide +kernel
theorem dX9_addStep_342 : decode cX9_addStep 342 = .ok (.iload 7, 2) := by decide +kernel
theorem dX9_addStep_344 : decode cX9_addStep 344 = .ok (.iadd, 1) := by decide +kernel
theorem dX9_addStep_345 : decode cX9_addStep 345 = .ok (.iconst 2, 1) := by decide +kernel
theorem dX9_addStep_346 : decode cX9_addStep 346 = .ok (.iload 8, 2) := by decide +kernel
theorem dX9_addStep_348 : decode cX9_addStep 348 = .ok (.imul, 1) := by decide +kernel
theorem dX9_addStep_349 : decode cX9_addStep 349 = .ok (.iadd, 1) := by decide +kernel
theorem dX9_addStep_350 : decode cX9_addStep 350 = .ok (.invokevirtual 71, 3) := by decide +kernel
theorem dX9_addStep_353 : decode cX9_addStep 353 = .ok (.aload_n 0, 1) := by decide +kernel
theorem dX9_addStep_354 : decode cX9_addStep 354 = .ok (.getfield 16, 3) := by decide +kernel
theorem dX9_addStep_357 : decode cX9_addStep 357 = .ok (.iload 5, 2) := by decide +kernel
theorem dX9_addStep_359 : decode cX9_addStep 359 = .ok (.bipush 16, 2) := by decide +kernel
theorem dX9_addStep_361 : decode cX9_addStep 361 = .ok (.idiv, 1) := by decide +kernel
theorem dX9_addStep_362 : decode cX9_addStep 362 = .ok (.invokevirtual 71, 3) := by decide +kernel
theorem dX9_addStep_365 : decode cX9_addStep 365 = .ok (.aload_n 0, 1) := by decide +kernel
theorem dX9_addStep_366 : decode cX9_addStep 366 = .ok (.getfield 16, 3) := by decide +kernel
theorem dX9_addStep_369 : decode cX9_addStep 369 = .ok (.iload 5, 2) := by decide +kernel
theorem dX9_addStep_371 : decode cX9_addStep 371 = .ok (.bipush 16, 2) := by decide +kernel
theorem dX9_addStep_373 : decode cX9_addStep 373 = .ok (.irem, 1) := by decide +kernel
theorem dX9_addStep_374 : decode cX9_addStep 374 = .ok (.bipush 16, 2) := by decide +kernel
theorem dX9_addStep_376 : decode cX9_addStep 376 = .ok (.imul, 1) := by decide +kernel
theorem dX9_addStep_377 : decode cX9_addStep 377 = .ok (.iload 6, 2) := by decide +kernel
theorem dX9_addStep_379 : decode cX9_addStep 379 = .ok (.sipush 256, 3) := by decide +kernel
theorem dX9_addStep_382 : decode cX9_addStep 382 = .ok (.idiv, 1) := by decide +kernel
theorem dX9_addStep_383 : decode cX9_addStep 383 = .ok (.iadd, 1) := by decide +kernel
theorem dX9_addStep_384 : decode cX9_addStep 384 = .ok (.invokevirtual 71, 3) := by decide +kernel
theorem dX9_addStep_387 : decode cX9_addStep 387 = .ok (.aload_n 0, 1) := by decide +kernel
theorem dX9_addStep_388 : decode cX9_addStep 388 = .ok (.getfield 16, 3) := by decide +kernel
theorem dX9_addStep_391 : decode cX9_addStep 391 = .ok (.iload 6, 2) := by decide +kernel
theorem dX9_addStep_393 : decode cX9_addStep 393 = .ok (.sipush 256, 3) := by decide +kernel
theorem dX9_addStep_396 : decode cX9_addStep 396 = .ok (.irem, 1) := by decide +kernel
theorem dX9_addStep_397 : decode cX9_addStep 397 = .ok (.invokevirtual 71, 3) := by decide +kernel
theorem dX9_addStep_400 : decode cX9_addStep 400 = .ok (.goto 42, 3) := by decide +kernel
theorem dX9_addStep_403 : decode cX9_addStep 403 = .ok (.aload 4, 2) := by decide +kernel
theorem dX9_addStep_405 : decode cX9_addStep 405 = .ok (.iload_n 3, 1) := by decide +kernel
theorem dX9_addStep_406 : decode cX9_addStep 406 = .ok (.bipush 124, 2) := by decide +kernel
theorem dX9_addStep_408 : decode cX9_addStep 408 = .ok (.iadd, 1) := by decide +kernel
theorem dX9_addStep_409 : decode cX9_addStep 409 = .ok (.iload 7, 2) := by decide +kernel
theorem dX9_addStep_411 : decode cX9_addStep 411 = .ok (.iadd, 1) := by decide +kernel
theorem dX9_addStep_412 : decode cX9_addStep 412 = .ok (.iconst 2, 1) := by decide +kernel
theorem dX9_addStep_413 : decode cX9_addStep 413 = .ok (.iload 8, 2) := by decide +kernel
theorem dX9_addStep_415 : decode cX9_addStep 415 = .ok (.imul, 1) := by decide +kernel
theorem dX9_addStep_416 : decode cX9_addStep 416 = .ok (.iadd, 1) := by decide +kernel
theorem dX9_addStep_417 : decode cX9_addStep 417 = .ok (.invokevirtual 71, 3) := by decide +kernel
theorem dX9_addStep_420 : decode cX9_addStep 420 = .ok (.aload_n 0, 1) := by decide +kernel
theorem dX9_addStep_421 : decode cX9_addStep 421 = .ok (.getfield 16, 3) := by decide +kernel
theorem dX9_addStep_424 : decode cX9_addStep 424 = .ok (.iload 5, 2) := by decide +kernel
theorem dX9_addStep_426 : decode cX9_addStep 426 = .ok (.i2l, 1) := by decide +kernel
theorem dX9_addStep_427 : decode cX9_addStep 427 = .ok (.iconst 2, 1) := by decide +kernel
theorem dX9_addStep_428 : decode cX9_addStep 428 = .ok (.invokevirtual 85, 3) := by decide +kernel
theorem dX9_addStep_431 : decode cX9_addStep 431 = .ok (.aload_n 0, 1) := by decide +kernel
theorem dX9_addStep_432 : decode cX9_addStep 432 = .ok (.getfield 16, 3) := by decide +kernel
theorem dX9_addStep_435 : decode cX9_addStep 435 = .ok (.iload 6, 2) := by decide +kernel
theorem dX9_addStep_437 : decode cX9_addStep 437 = .ok (.i2l, 1) := by decide +kernel
theorem dX9_addStep_438 : decode cX9_addStep 438 = .ok (.iconst 2, 1) := by decide +kernel
theorem dX9_addStep_439 : decode cX9_addStep 439 = .ok (.invokevirtual 85, 3) := by decide +kernel
theorem dX9_addStep_442 : decode cX9_addStep 442 = .ok (.return_, 1) := by decide +kernel
theorem dX10_init_0 : decode cX10_init 0 = .ok (.aload_n 0, 1) := by decide +kernel
theorem dX10_init_1 : decode cX10_init 1 = .ok (.invokespecial 1, 3) := by decide +kernel
theorem dX10_init_4 : decode cX10_init 4 = .ok (.aload_n 0, 1) := by decide +kernel
theorem dX10_init_5 : decode cX10_init 5 = .ok (.new 7, 3) := by decide +kernel
theorem dX10_init_8 : decode cX10_init 8 = .ok (.dup, 1) := by decide +kernel
theorem dX10_init_9 : decode cX10_init 9 = .ok (.sipush 1500, 3) := by decide +kernel
theorem dX10_init_12 : decode cX10_init 12 = .ok (.invokespecial 11, 3) := by decide +kernel
theorem dX10_init_15 : decode cX10_init 15 = .ok (.putfield 14, 3) := by decide +kernel
theorem dX10_init_18 : decode cX10_init 18 = .ok (.aload_n 0, 1) := by decide +kernel
theorem dX10_init_19 : decode cX10_init 19 = .ok (.new 18, 3) := by decide +kernel
theorem dX10_init_22 : decode cX10_init 22 = .ok (.dup, 1) := by decide +kernel
theorem dX10_init_23 : decode cX10_init 23 = .ok (.invokespecial 20, 3) := by decide +kernel
theorem dX10_init_26 : decode cX10_init 26 = .ok (.putfield 21, 3) := by decide +kernel
theorem dX10_init_29 : decode cX10_init 29 = .ok (.aload_n 0, 1) := by decide +kernel
theorem dX10_init_30 : decode cX10_init 30 = .ok (.new 25, 3) := by decide +kernel
theorem dX10_init_33 : decode cX10_init 33 = .ok (.dup, 1) := by decide +kernel
theorem dX10_init_34 : decode cX10_init 34 = .ok (.invokespecial 27, 3) := by decide +kernel
theorem dX10_init_37 : decode cX10_init 37 = .ok (.putfield 28, 3) := by decide +kernel
theorem dX10_init_40 : decode cX10_init 40 = .ok (.aload_n 0, 1) := by decide +kernel
theorem dX10_init_41 : decode cX10_init 41 = .ok (.new 32, 3) := by decide +kernel
theorem dX10_init_44 : decode cX10_init 44 = .ok (.dup, 1) := by decide +kernel
theorem dX10_init_45 : decode cX10_init 45 = .ok (.invokespecial 34, 3) := by decide +kernel
theorem dX10_init_48 : decode cX10_init 48 = .ok (.putfield 35, 3) := by decide +kernel
theorem dX10_init_51 : decode cX10_init 51 = .ok (.aload_n 0, 1) := by decide +kernel
theorem dX10_init_52 : decode cX10_init 52 = .ok (.new 32, 3) := by decide +kernel
theorem dX10_init_55 : decode cX10_init 55 = .ok (.dup, 1) := by decide +kernel
theorem dX10_init_56 : decode cX10_init 56 = .ok (.invokespecial 34, 3) := by decide +kernel
theorem dX10_init_59 : decode cX10_init 59 = .ok (.putfield 39, 3) := by decide +kernel
theorem dX10_init_62 : decode cX10_init 62 = .ok (.aload_n 0, 1) := by decide +kernel
theorem dX10_init_63 : decode cX10_init 63 = .ok (.iconst 0, 1) := by decide +kernel
theorem dX10_init_64 : decode cX10_init 64 = .ok (.putfield 42, 3) := by decide +kernel
theorem dX10_init_67 : decode cX10_init 67 = .ok (.return_, 1) := by decide +kernel
theorem dX10_glyph_0 : decode cX10_glyph 0 = .ok (.iload_n 1, 1) := by decide +kernel
theorem dX10_glyph_1 : decode cX10_glyph 1 = .ok (.ifCond .lt 10, 3) := by decide +kernel
theorem dX10_glyph_4 : decode cX10_glyph 4 = .ok (.iload_n 1, 1) := by decide +kernel
theorem dX10_glyph_5 : decode cX10_glyph 5 = .ok (.sipush 2000, 3) := by decide +kernel
theorem dX10_glyph_8 : decode cX10_glyph 8 = .ok (.if_icmp .le 13, 3) := by decide +kernel
theorem dX10_glyph_11 : decode cX10_glyph 11 = .ok (.new 46, 3) := by decide +kernel
theorem dX10_glyph_14 : decode cX10_glyph 14 = .ok (.dup, 1) := by decide +kernel
theorem dX10_glyph_15 : decode cX10_glyph 15 = .ok (.ldc 48, 2) := by decide +kernel
theorem dX10_glyph_17 : decode cX10_glyph 17 = .ok (.invokespecial 50, 3) := by decide +kernel
theorem dX10_glyph_20 : decode cX10_glyph 20 = .ok (.athrow, 1) := by decide +kernel
theorem dX10_glyph_21 : decode cX10_glyph 21 = .ok (.aload_n 0, 1) := by decide +kernel
theorem dX10_glyph_22 : decode cX10_glyph 22 = .ok (.getfield 35, 3) := by decide +kernel
theorem dX10_glyph_25 : decode cX10_glyph 25 = .ok (.invokevirtual 53, 3) := by decide +kernel
theorem dX10_glyph_28 : decode cX10_glyph 28 = .ok (.bipush 6, 2) := by decide +kernel
theorem dX10_glyph_30 : decode cX10_glyph 30 = .ok (.if_icmp .lt 13, 3) := by decide +kernel
theorem dX10_glyph_33 : decode cX10_glyph 33 = .ok (.new 57, 3) := by decide +kernel
theorem dX10_glyph_36 : decode cX10_glyph 36 = .ok (.dup, 1) := by decide +kernel
theorem dX10_glyph_37 : decode cX10_glyph 37 = .ok (.ldc 59, 2) := by decide +kernel
theorem dX10_glyph_39 : decode cX10_glyph 39 = .ok (.invokespecial 61, 3) := by decide +kernel
theorem dX10_glyph_42 : decode cX10_glyph 42 = .ok (.athrow, 1) := by decide +kernel
theorem dX10_glyph_43 : decode cX10_glyph 43 = .ok (.aload_n 0, 1) := by decide +kernel
theorem dX10_glyph_44 : decode cX10_glyph 44 = .ok (.invokevirtual 62, 3) := by decide +kernel
theorem dX10_glyph_47 : decode cX10_glyph 47 = .ok (.aload_n 0, 1) := by decide +kernel
theorem dX10_glyph_48 : decode cX10_glyph 48 = .ok (.getfield 35, 3) := by decide +kernel
theorem dX10_glyph_51 : decode cX10_glyph 51 = .ok (.iload_n 1, 1) := by decide +kernel
theorem dX10_glyph_52 : decode cX10_glyph 52 = .ok (.invokevirtual 65, 3) := by decide +kernel
theorem dX10_glyph_55 : decode cX10_glyph 55 = .ok (.ireturn, 1) := by decide +kernel
theorem dX10_contour_0 : decode cX10_contour 0 = .ok (.aload_n 0, 1) := by decide +kernel
theorem dX10_contour_1 : decode cX10_contour 1 = .ok (.getfield 35, 3) := by decide +kernel
theorem dX10_contour_4 : decode cX10_contour 4 = .ok (.invokevirtual 53, 3) := by decide +kernel
theorem dX10_contour_7 : decode cX10_contour 7 = .ok (.ifCond .ne 13, 3) := by decide +kernel
theorem dX10_contour_10 : decode cX10_contour 10 = .ok (.new 57, 3) := by decide +kernel
theorem dX10_contour_13 : decode cX10_contour 13 = .ok (.dup, 1) := by decide +kernel
theorem dX10_contour_14 : decode cX10_contour 14 = .ok (.ldc 69, 2) := by decide +kernel
theorem dX10_contour_16 : decode cX10_contour 16 = .ok (.invokespecial 61, 3) := by decide +kernel
theorem dX10_contour_19 : decode cX10_contour 19 = .ok (.athrow, 1) := by decide +kernel
theorem dX10_contour_20 : decode cX10_contour 20 = .ok (.aload_n 0, 1) := by decide +kernel
theorem dX10_contour_21 : decode cX10_contour 21 = .ok (.getfield 35, 3) := by decide +kernel
theorem dX10_contour_24 : decode cX10_contour 24 = .ok (.invokevirtual 71, 3) := by decide +kernel
theorem dX10_contour_27 : decode cX10_contour 27 = .ok (.astore_n 1, 1) := by decide +kernel
theorem dX10_contour_28 : decode cX10_contour 28 = .ok (.aload_n 1, 1) := by decide +kernel
theorem dX10_contour_29 : decode cX10_contour 29 = .ok (.invokevirtual 75, 3) := by decide +kernel
theorem dX10_contour_32 : decode cX10_contour 32 = .ok (.iconst 4, 1) := by decide +kernel
theorem dX10_contour_33 : decode cX10_contour 33 = .ok (.if_icmp .lt 13, 3) := by decide +kernel
theorem dX10_contour_36 : decode cX10_contour 36 = .ok (.new 57, 3) := by decide +kernel
theorem dX10_contour_39 : decode cX10_contour 39 = .ok (.dup, 1) := by decide +kernel
theorem dX10_contour_40 : decode cX10_contour 40 = .ok (.ldc 80, 2) := by decide +kernel
theorem dX10_contour_42 : decode cX10_contour 42 = .ok (.invokespecial 61, 3) := by decide +kernel
theorem dX10_contour_45 : decode cX10_contour 45 = .ok (.athrow, 1) := by decide +kernel
theorem dX10_contour_46 : decode cX10_contour 46 = .ok (.aload_n 1, 1) := by decide +kernel
theorem dX10_contour_47 : decode cX10_contour 47 = .ok (.invokevirtual 82, 3) := by decide +kernel
theorem dX10_contour_50 : decode cX10_contour 50 = .ok (.bipush 16, 2) := by decide +kernel
theorem dX10_contour_52 : decode cX10_contour 52 = .ok (.if_icmp .lt 13, 3) := by decide +kernel
theorem dX10_contour_55 : decode cX10_contour 55 = .ok (.new 57, 3) := by decide +kernel
theorem dX10_contour_58 : decode cX10_contour 58 = .ok (.dup, 1) := by decide +kernel
theorem dX10_contour_59 : decode cX10_contour 59 = .ok (.ldc 85, 2) := by decide +kernel
theorem dX10_contour_61 : decode cX10_contour 61 = .ok (.invokespecial 61, 3) := by decide +kernel
theorem dX10_contour_64 : decode cX10_contour 64 = .ok (.athrow, 1) := by decide +kernel
theorem dX10_contour_65 : decode cX10_contour 65 = .ok (.aload_n 0, 1) := by decide +kernel
theorem dX10_contour_66 : decode cX10_contour 66 = .ok (.invokevirtual 62, 3) := by decide +kernel
theorem dX10_contour_69 : decode cX10_contour 69 = .ok (.aload_n 1, 1) := by decide +kernel
theorem dX10_contour_70 : decode cX10_contour 70 = .ok (.invokevirtual 87, 3) := by decide +kernel
theorem dX10_contour_73 : decode cX10_contour 73 = .ok (.ireturn, 1) := by decide +kernel
theorem dX10_point_0 : decode cX10_point 0 = .ok (.iload_n 1, 1) := by decide +kernel
theorem dX10_point_1 : decode cX10_point 1 = .ok (.invokestatic 90, 3) := by decide +kernel
theorem dX10_point_4 : decode cX10_point 4 = .ok (.ifCond .ne 10, 3) := by decide +kernel
theorem dX10_point_7 : decode cX10_point 7 = .ok (.iload_n 2, 1) := by decide +kernel
theorem dX10_point_8 : decode cX10_point 8 = .ok (.invokestatic 90, 3) := by decide +kernel
theorem dX10_point_11 : decode cX10_point 11 = .ok (.ifCond .eq 13, 3) := by decide +kernel
theorem dX10_point_14 : decode cX10_point 14 = .ok (.new 46, 3) := by decide +kernel
theorem dX10_point_17 : decode cX10_point 17 = .ok (.dup, 1) := by decide +kernel
theorem dX10_point_18 : decode cX10_point 18 = .ok (.ldc 94, 2) := by decide +kernel
theorem dX10_point_20 : decode cX10_point 20 = .ok (.invokespecial 50, 3) := by decide +kernel
theorem dX10_point_23 : decode cX10_point 23 = .ok (.athrow, 1) := by decide +kernel
theorem dX10_point_24 : decode cX10_point 24 = .ok (.aload_n 0, 1) := by decide +kernel
theorem dX10_point_25 : decode cX10_point 25 = .ok (.getfield 35, 3) := by decide +kernel
theorem dX10_point_28 : decode cX10_point 28 = .ok (.invokevirtual 53, 3) := by decide +kernel
theorem dX10_point_31 : decode cX10_point 31 = .ok (.ifCond .ne 13, 3) := by decide +kernel
theorem dX10_point_34 : decode cX10_point 34 = .ok (.new 57, 3) := by decide +kernel
theorem dX10_point_37 : decode cX10_point 37 = .ok (.dup, 1) := by decide +kernel
theorem dX10_point_38 : decode cX10_point 38 = .ok (.ldc 69, 2) := by decide +kernel
theorem dX10_point_40 : decode cX10_point 40 = .ok (.invokespecial 61, 3) := by decide +kernel
theorem dX10_point_43 : decode cX10_point 43 = .ok (.athrow, 1) := by decide +kernel
theorem dX10_point_44 : decode cX10_point 44 = .ok (.aload_n 0, 1) := by decide +kernel
theorem dX10_point_45 : decode cX10_point 45 = .ok (.getfield 35, 3) := by decide +kernel
theorem dX10_point_48 : decode cX10_point 48 = .ok (.invokevirtual 71, 3) := by decide +kernel
theorem dX10_point_51 : decode cX10_point 51 = .ok (.astore 4, 2) := by decide +kernel
theorem dX10_point_53 : decode cX10_point 53 = .ok (.aload 4, 2) := by decide +kernel
theorem dX10_point_55 : decode cX10_point 55 = .ok (.invokevirtual 75, 3) := by decide +kernel
theorem dX10_point_58 : decode cX10_point 58 = .ok (.ifCond .ne 13, 3) := by decide +kernel
theorem dX10_point_61 : decode cX10_point 61 = .ok (.new 57, 3) := by decide +kernel
theorem dX10_point_64 : decode cX10_point 64 = .ok (.dup, 1) := by decide +kernel
theorem dX10_point_65 : decode cX10_point 65 = .ok (.ldc 96, 2) := by decide +kernel
theorem dX10_point_67 : decode cX10_point 67 = .ok (.invokespecial 61, 3) := by decide +kernel
theorem dX10_point_70 : decode cX10_point 70 = .ok (.athrow, 1) := by decide +kernel
theorem dX10_point_71 : decode cX10_point 71 = .ok (.aload 4, 2) := by decide +kernel
theorem dX10_point_73 : decode cX10_point 73 = .ok (.invokevirtual 82, 3) := by decide +kernel
theorem dX10_point_76 : decode cX10_point 76 = .ok (.bipush 16, 2) := by decide +kernel
theorem dX10_point_78 : decode cX10_point 78 = .ok (.if_icmp .lt 13, 3) := by decide +kernel
theorem dX10_point_81 : decode cX10_point 81 = .ok (.new 57, 3) := by decide +kernel
theorem dX10_point_84 : decode cX10_point 84 = .ok (.dup, 1) := by decide +kernel
theorem dX10_point_85 : decode cX10_point 85 = .ok (.ldc 85, 2) := by decide +kernel
theorem dX10_point_87 : decode cX10_point 87 = .ok (.invokespecial 61, 3) := by decide +kernel
theorem dX10_point_90 : decode cX10_point 90 = .ok (.athrow, 1) := by decide +kernel
theorem dX10_point_91 : decode cX10_point 91 = .ok (.aload 4, 2) := by decide +kernel
theorem dX10_point_93 : decode cX10_point 93 = .ok (.invokevirtual 98, 3) := by decide +kernel
theorem dX10_point_96 : decode cX10_point 96 = .ok (.aload 4, 2) := by decide +kernel
theorem dX10_point_98 : decode cX10_point 98 = .ok (.iload_n 1, 1) := by decide +kernel
theorem dX10_point_99 : decode cX10_point 99 = .ok (.iload_n 2, 1) := by decide +kernel
theorem dX10_point_100 : decode cX10_point 100 = .ok (.iload_n 3, 1) := by decide +kernel
theorem dX10_point_101 : decode cX10_point 101 = .ok (.invokevirtual 101, 3) := by decide +kernel
theorem dX10_point_104 : decode cX10_point 104 = .ok (.ireturn, 1) := by decide +kernel
theorem dX10_table_0 : decode cX10_table 0 = .ok (.iload_n 1, 1) := by decide +kernel
theorem dX10_table_1 : decode cX10_table 1 = .ok (.iconst 2, 1) := by decide +kernel
theorem dX10_table_2 : decode cX10_table 2 = .ok (.if_icmp .lt 9, 3) := by decide +kernel
theorem dX10_table_5 : decode cX10_table 5 = .ok (.iload_n 1, 1) := by decide +kernel
theorem dX10_table_6 : decode cX10_table 6 = .ok (.bipush 7, 2) := by decide +kernel
theorem dX10_table_8 : decode cX10_table 8 = .ok (.if_icmp .lt 13, 3) := by decide +kernel
theorem dX10_table_11 : decode cX10_table 11 = .ok (.new 46, 3) := by decide +kernel
theorem dX10_table_14 : decode cX10_table 14 = .ok (.dup, 1) := by decide +kernel
theorem dX10_table_15 : decode cX10_table 15 = .ok (.ldc 105, 2) := by decide +kernel
theorem dX10_table_17 : decode cX10_table 17 = .ok (.invokespecial 50, 3) := by decide +kernel
theorem dX10_table_20 : decode cX10_table 20 = .ok (.athrow, 1) := by decide +kernel
theorem dX10_table_21 : decode cX10_table 21 = .ok (.iload 4, 2) := by decide +kernel
theorem dX10_table_23 : decode cX10_table 23 = .ok (.iconst 1, 1) := by decide +kernel
theorem dX10_table_24 : decode cX10_table 24 = .ok (.if_icmp .lt 10, 3) := by decide +kernel
theorem dX10_table_27 : decode cX10_table 27 = .ok (.iload 4, 2) := by decide +kernel
theorem dX10_table_29 : decode cX10_table 29 = .ok (.bipush 8, 2) := by decide +kernel
theorem dX10_table_31 : decode cX10_table 31 = .ok (.if_icmp .le 13, 3) := by decide +kernel
theorem dX10_table_34 : decode cX10_table 34 = .ok (.new 46, 3) := by decide +kernel
theorem dX10_table_37 : decode cX10_table 37 = .ok (.dup, 1) := by decide +kernel
theorem dX10_table_38 : decode cX10_table 38 = .ok (.ldc 107, 2) := by decide +kernel
theorem dX10_table_40 : decode cX10_table 40 = .ok (.invokespecial 50, 3) := by decide +kernel
theorem dX10_table_43 : decode cX10_table 43 = .ok (.athrow, 1) := by decide +kernel
theorem dX10_table_44 : decode cX10_table 44 = .ok (.aload_n 0, 1) := by decide +kernel
theorem dX10_table_45 : decode cX10_table 45 = .ok (.getfield 35, 3) := by decide +kernel
theorem dX10_table_48 : decode cX10_table 48 = .ok (.iload_n 1, 1) := by decide +kernel
theorem dX10_table_49 : decode cX10_table 49 = .ok (.invokevirtual 109, 3) := by decide +kernel
theorem dX10_table_52 : decode cX10_table 52 = .ok (.astore 5, 2) := by decide +kernel
theorem dX10_table_54 : decode cX10_table 54 = .ok (.aload 5, 2) := by decide +kernel
theorem dX10_table_56 : decode cX10_table 56 = .ok (.invokevirtual 113, 3) := by decide +kernel
theorem dX10_table_59 : decode cX10_table 59 = .ok (.iload 4, 2) := by decide +kernel
theorem dX10_table_61 : decode cX10_table 61 = .ok (.iadd, 1) := by decide +kernel
theorem dX10_table_62 : decode cX10_table 62 = .ok (.bipush 20, 2) := by decide +kernel
theorem dX10_table_64 : decode cX10_table 64 = .ok (.if_icmp .le 13, 3) := by decide +kernel
theorem dX10_table_67 : decode cX10_table 67 = .ok (.new 57, 3) := by decide +kernel
theorem dX10_table_70 : decode cX10_table 70 = .ok (.dup, 1) := by decide +kernel
theorem dX10_table_71 : decode cX10_table 71 = .ok (.ldc 116, 2) := by decide +kernel
theorem dX10_table_73 : decode cX10_table 73 = .ok (.invokespecial 61, 3) := by decide +kernel
theorem dX10_table_76 : decode cX10_table 76 = .ok (.athrow, 1) := by decide +kernel
theorem dX10_table_77 : decode cX10_table 77 = .ok (.aload 5, 2) := by decide +kernel
theorem dX10_table_79 : decode cX10_table 79 = .ok (.lload_n 2, 1) := by decide +kernel
theorem dX10_table_80 : decode cX10_table 80 = .ok (.iload 4, 2) := by decide +kernel
theorem dX10_table_82 : decode cX10_table 82 = .ok (.invokevirtual 118, 3) := by decide +kernel
theorem dX10_table_85 : decode cX10_table 85 = .ok (.aload 5, 2) := by decide +kernel
theorem dX10_table_87 : decode cX10_table 87 = .ok (.invokevirtual 113, 3) := by decide +kernel
theorem dX10_table_90 : decode cX10_table 90 = .ok (.ireturn, 1) := by decide +kernel
theorem dX10_clear_0 : decode cX10_clear 0 = .ok (.aload_n 0, 1) := by decide +kernel
theorem dX10_clear_1 : decode cX10_clear 1 = .ok (.getfield 35, 3) := by decide +kernel
theorem dX10_clear_4 : decode cX10_clear 4 = .ok (.invokevirtual 122, 3) := by decide +kernel
theorem dX10_clear_7 : decode cX10_clear 7 = .ok (.return_, 1) := by decide +kernel
theorem dX10_pack_0 : decode cX10_pack 0 = .ok (.aload_n 0, 1) := by decide +kernel
theorem dX10_pack_1 : decode cX10_pack 1 = .ok (.invokevirtual 62, 3) := by decide +kernel
theorem dX10_pack_4 : decode cX10_pack 4 = .ok (.aload_n 0, 1) := by decide +kernel
theorem dX10_pack_5 : decode cX10_pack 5 = .ok (.getfield 21, 3) := by decide +kernel
theorem dX10_pack_8 : decode cX10_pack 8 = .ok (.aload_n 0, 1) := by decide +kernel
theorem dX10_pack_9 : decode cX10_pack 9 = .ok (.getfield 35, 3) := by decide +kernel
theorem dX10_pack_12 : decode cX10_pack 12 = .ok (.aload_n 0, 1) := by decide +kernel
theorem dX10_pack_13 : decode cX10_pack 13 = .ok (.getfield 14, 3) := by decide +kernel
theorem dX10_pack_16 : decode cX10_pack 16 = .ok (.invokevirtual 125, 3) := by decide +kernel
theorem dX10_pack_19 : decode cX10_pack 19 = .ok (.aload_n 0, 1) := by decide +kernel
theorem dX10_pack_20 : decode cX10_pack 20 = .ok (.getfield 14, 3) := by decide +kernel
theorem dX10_pack_23 : decode cX10_pack 23 = .ok (.invokevirtual 113, 3) := by decide +kernel
theorem dX10_pack_26 : decode cX10_pack 26 = .ok (.ireturn, 1) := by decide +kernel
theorem dX10_plain_0 : decode cX10_plain 0 = .ok (.aload_n 0, 1) := by decide +kernel
theorem dX10_plain_1 : decode cX10_plain 1 = .ok (.invokevirtual 62, 3) := by decide +kernel
theorem dX10_plain_4 : decode cX10_plain 4 = .ok (.aload_n 0, 1) := by decide +kernel
theorem dX10_plain_5 : decode cX10_plain 5 = .ok (.getfield 35, 3) := by decide +kernel
theorem dX10_plain_8 : decode cX10_plain 8 = .ok (.aload_n 0, 1) := by decide +kernel
theorem dX10_plain_9 : decode cX10_plain 9 = .ok (.getfield 14, 3) := by decide +kernel
theorem dX10_plain_12 : decode cX10_plain 12 = .ok (.invokestatic 129, 3) := by decide +kernel
theorem dX10_plain_15 : decode cX10_plain 15 = .ok (.aload_n 0, 1) := by decide +kernel
theorem dX10_plain_16 : decode cX10_plain 16 = .ok (.getfield 14, 3) := by decide +kernel
theorem dX10_plain_19 : decode cX10_plain 19 = .ok (.invokevirtual 113, 3) := by decide +kernel
theorem dX10_plain_22 : decode cX10_plain 22 = .ok (.ireturn, 1) := by decide +kernel
theorem dX10_read_0 : decode cX10_read 0 = .ok (.aload_n 0, 1) := by decide +kernel
theorem dX10_read_1 : decode cX10_read 1 = .ok (.aload_n 0, 1) := by decide +kernel
theorem dX10_read_2 : decode cX10_read 2 = .ok (.getfield 28, 3) := by decide +kernel
theorem dX10_read_5 : decode cX10_read 5 = .ok (.aload_n 0, 1) := by decide +kernel
theorem dX10_read_6 : decode cX10_read 6 = .ok (.getfield 14, 3) := by decide +kernel
theorem dX10_read_9 : decode cX10_read 9 = .ok (.aload_n 0, 1) := by decide +kernel
theorem dX10_read_10 : decode cX10_read 10 = .ok (.getfield 39, 3) := by decide +kernel
theorem dX10_read_13 : decode cX10_read 13 = .ok (.invokevirtual 134, 3) := by decide +kernel
theorem dX10_read_16 : decode cX10_read 16 = .ok (.putfield 42, 3) := by decide +kernel
theorem dX10_read_19 : decode cX10_read 19 = .ok (.aload_n 0, 1) := by decide +kernel
theorem dX10_read_20 : decode cX10_read 20 = .ok (.getfield 42, 3) := by decide +kernel
theorem dX10_read_23 : decode cX10_read 23 = .ok (.ifCond .eq 13, 3) := by decide +kernel
theorem dX10_read_26 : decode cX10_read 26 = .ok (.new 46, 3) := by decide +kernel
theorem dX10_read_29 : decode cX10_read 29 = .ok (.dup, 1) := by decide +kernel
theorem dX10_read_30 : decode cX10_read 30 = .ok (.ldc 138, 2) := by decide +kernel
theorem dX10_read_32 : decode cX10_read 32 = .ok (.invokespecial 50, 3) := by decide +kernel
theorem dX10_read_35 : decode cX10_read 35 = .ok (.athrow, 1) := by decide +kernel
theorem dX10_read_36 : decode cX10_read 36 = .ok (.aload_n 0, 1) := by decide +kernel
theorem dX10_read_37 : decode cX10_read 37 = .ok (.getfield 35, 3) := by decide +kernel
theorem dX10_read_40 : decode cX10_read 40 = .ok (.astore_n 1, 1) := by decide +kernel
theorem dX10_read_41 : decode cX10_read 41 = .ok (.aload_n 0, 1) := by decide +kernel
theorem dX10_read_42 : decode cX10_read 42 = .ok (.aload_n 0, 1) := by decide +kernel
theorem dX10_read_43 : decode cX10_read 43 = .ok (.getfield 39, 3) := by decide +kernel
theorem dX10_read_46 : decode cX10_read 46 = .ok (.putfield 35, 3) := by decide +kernel
theorem dX10_read_49 : decode cX10_read 49 = .ok (.aload_n 0, 1) := by decide +kernel
theorem dX10_read_50 : decode cX10_read 50 = .ok (.aload_n 1, 1) := by decide +kernel
theorem dX10_read_51 : decode cX10_read 51 = .ok (.putfield 39, 3) := by decide +kernel
theorem dX10_read_54 : decode cX10_read 54 = .ok (.aload_n 0, 1) := by decide +kernel
theorem dX10_read_55 : decode cX10_read 55 = .ok (.getfield 35, 3) := by decide +kernel
theorem dX10_read_58 : decode cX10_read 58 = .ok (.invokevirtual 140, 3) := by decide +kernel
theorem dX10_read_61 : decode cX10_read 61 = .ok (.ireturn, 1) := by decide +kernel
theorem dX10_stage_0 : decode cX10_stage 0 = .ok (.aload_n 0, 1) := by decide +kernel
theorem dX10_stage_1 : decode cX10_stage 1 = .ok (.getfield 42, 3) := by decide +kernel
theorem dX10_stage_4 : decode cX10_stage 4 = .ok (.ireturn, 1) := by decide +kernel
theorem dX10_put_0 : decode cX10_put 0 = .ok (.iload_n 3, 1) := by decide +kernel
theorem dX10_put_1 : decode cX10_put 1 = .ok (.iconst 1, 1) := by decide +kernel
theorem dX10_put_2 : decode cX10_put 2 = .ok (.if_icmp .lt 9, 3) := by decide +kernel
theorem dX10_put_5 : decode cX10_put 5 = .ok (.iload_n 3, 1) := by decide +kernel
theorem dX10_put_6 : decode cX10_put 6 = .ok (.bipush 8, 2) := by decide +kernel
theorem dX10_put_8 : decode cX10_put 8 = .ok (.if_icmp .le 13, 3) := by decide +kernel
theorem dX10_put_11 : decode cX10_put 11 = .ok (.new 46, 3) := by decide +kernel
theorem dX10_put_14 : decode cX10_put 14 = .ok (.dup, 1) := by decide +kernel
theorem dX10_put_15 : decode cX10_put 15 = .ok (.ldc 107, 2) := by decide +kernel
theorem dX10_put_17 : decode cX10_put 17 = .ok (.invokespecial 50, 3) := by decide +kernel
theorem dX10_put_20 : decode cX10_put 20 = .ok (.athrow, 1) := by decide +kernel
theorem dX10_put_21 : decode cX10_put 21 = .ok (.aload_n 0, 1) := by decide +kernel
theorem dX10_put_22 : decode cX10_put 22 = .ok (.getfield 14, 3) := by decide +kernel
theorem dX10_put_25 : decode cX10_put 25 = .ok (.invokevirtual 113, 3) := by decide +kernel
theorem dX10_put_28 : decode cX10_put 28 = .ok (.iload_n 3, 1) := by decide +kernel
theorem dX10_put_29 : decode cX10_put 29 = .ok (.iadd, 1) := by decide +kernel
theorem dX10_put_30 : decode cX10_put 30 = .ok (.sipush 1500, 3) := by decide +kernel
theorem dX10_put_33 : decode cX10_put 33 = .ok (.if_icmp .le 13, 3) := by decide +kernel
theorem dX10_put_36 : decode cX10_put 36 = .ok (.new 57, 3) := by decide +kernel
theorem dX10_put_39 : decode cX10_put 39 = .ok (.dup, 1) := by decide +kernel
theorem dX10_put_40 : decode cX10_put 40 = .ok (.ldc 143, 2) := by decide +kernel
theorem dX10_put_42 : decode cX10_put 42 = .ok (.invokespecial 61, 3) := by decide +kernel
theorem dX10_put_45 : decode cX10_put 45 = .ok (.athrow, 1) := by decide +kernel
theorem dX10_put_46 : decode cX10_put 46 = .ok (.aload_n 0, 1) := by decide +kernel
theorem dX10_put_47 : decode cX10_put 47 = .ok (.getfield 14, 3) := by decide +kernel
theorem dX10_put_50 : decode cX10_put 50 = .ok (.lload_n 1, 1) := by decide +kernel
theorem dX10_put_51 : decode cX10_put 51 = .ok (.iload_n 3, 1) := by decide +kernel
theorem dX10_put_52 : decode cX10_put 52 = .ok (.invokevirtual 118, 3) := by decide +kernel
theorem dX10_put_55 : decode cX10_put 55 = .ok (.aload_n 0, 1) := by decide +kernel
theorem dX10_put_56 : decode cX10_put 56 = .ok (.getfield 14, 3) := by decide +kernel
theorem dX10_put_59 : decode cX10_put 59 = .ok (.invokevirtual 113, 3) := by decide +kernel
theorem dX10_put_62 : decode cX10_put 62 = .ok (.ireturn, 1) := by decide +kernel
theorem dX10_set_0 : decode cX10_set 0 = .ok (.aload_n 0, 1) := by decide +kernel
theorem dX10_set_1 : decode cX10_set 1 = .ok (.iload_n 1, 1) := by decide +kernel
theorem dX10_set_2 : decode cX10_set 2 = .ok (.invokevirtual 145, 3) := by decide +kernel
theorem dX10_set_5 : decode cX10_set 5 = .ok (.iload_n 2, 1) := by decide +kernel
theorem dX10_set_6 : decode cX10_set 6 = .ok (.ifCond .lt 10, 3) := by decide +kernel
theorem dX10_set_9 : decode cX10_set 9 = .ok (.iload_n 2, 1) := by decide +kernel
theorem dX10_set_10 : decode cX10_set 10 = .ok (.sipush 255, 3) := by decide +kernel
theorem dX10_set_13 : decode cX10_set 13 = .ok (.if_icmp .le 13, 3) := by decide +kernel
theorem dX10_set_16 : decode cX10_set 16 = .ok (.new 46, 3) := by decide +kernel
theorem dX10_set_19 : decode cX10_set 19 = .ok (.dup, 1) := by decide +kernel
theorem dX10_set_20 : decode cX10_set 20 = .ok (.ldc 148, 2) := by decide +kernel
theorem dX10_set_22 : decode cX10_set 22 = .ok (.invokespecial 50, 3) := by decide +kernel
theorem dX10_set_25 : decode cX10_set 25 = .ok (.athrow, 1) := by decide +kernel
theorem dX10_set_26 : decode cX10_set 26 = .ok (.aload_n 0, 1) := by decide +kernel
theorem dX10_set_27 : decode cX10_set 27 = .ok (.getfield 14, 3) := by decide +kernel
theorem dX10_set_30 : decode cX10_set 30 = .ok (.iload_n 1, 1) := by decide +kernel
theorem dX10_set_31 : decode cX10_set 31 = .ok (.iload_n 2, 1) := by decide +kernel
theorem dX10_set_32 : decode cX10_set 32 = .ok (.invokevirtual 150, 3) := by decide +kernel
theorem dX10_set_35 : decode cX10_set 35 = .ok (.return_, 1) := by decide +kernel
theorem dX10_cut_0 : decode cX10_cut 0 = .ok (.iload_n 1, 1) := by decide +kernel
theorem dX10_cut_1 : decode cX10_cut 1 = .ok (.ifCond .lt 14, 3) := by decide +kernel
theorem dX10_cut_4 : decode cX10_cut 4 = .ok (.iload_n 1, 1) := by decide +kernel
theorem dX10_cut_5 : decode cX10_cut 5 = .ok (.aload_n 0, 1) := by decide +kernel
theorem dX10_cut_6 : decode cX10_cut 6 = .ok (.getfield 14, 3) := by decide +kernel
theorem dX10_cut_9 : decode cX10_cut 9 = .ok (.invokevirtual 113, 3) := by decide +kernel
theorem dX10_cut_12 : decode cX10_cut 12 = .ok (.if_icmp .le 13, 3) := by decide +kernel
theorem dX10_cut_15 : decode cX10_cut 15 = .ok (.new 46, 3) := by decide +kernel
theorem dX10_cut_18 : decode cX10_cut 18 = .ok (.dup, 1) := by decide +kernel
theorem dX10_cut_19 : decode cX10_cut 19 = .ok (.ldc 154, 2) := by decide +kernel
theorem dX10_cut_21 : decode cX10_cut 21 = .ok (.invokespecial 50, 3) := by decide +kernel
theorem dX10_cut_24 : decode cX10_cut 24 = .ok (.athrow, 1) := by decide +kernel
theorem dX10_cut_25 : decode cX10_cut 25 = .ok (.aload_n 0, 1) := by decide +kernel
theorem dX10_cut_26 : decode cX10_cut 26 = .ok (.getfield 14, 3) := by decide +kernel
theorem dX10_cut_29 : decode cX10_cut 29 = .ok (.iload_n 1, 1) := by decide +kernel
theorem dX10_cut_30 : decode cX10_cut 30 = .ok (.invokevirtual 156, 3) := by decide +kernel
theorem dX10_cut_33 : decode cX10_cut 33 = .ok (.return_, 1) := by decide +kernel
theorem dX10_at_0 : decode cX10_at 0 = .ok (.iload_n 1, 1) := by decide +kernel
theorem dX10_at_1 : decode cX10_at 1 = .ok (.iconst (-1), 1) := by decide +kernel
theorem dX10_at_2 : decode cX10_at 2 = .ok (.if_icmp .ne 11, 3) := by decide +kernel
theorem dX10_at_5 : decode cX10_at 5 = .ok (.aload_n 0, 1) := by decide +kernel
theorem dX10_at_6 : decode cX10_at 6 = .ok (.getfield 14, 3) := by decide +kernel
theorem dX10_at_9 : decode cX10_at 9 = .ok (.invokevirtual 113, 3) := by decide +kernel
theorem dX10_at_12 : decode cX10_at 12 = .ok (.ireturn, 1) := by decide +kernel
theorem dX10_at_13 : decode cX10_at 13 = .ok (.aload_n 0, 1) := by decide +kernel
theorem dX10_at_14 : decode cX10_at 14 = .ok (.iload_n 1, 1) := by decide +kernel
theorem dX10_at_15 : decode cX10_at 15 = .ok (.invokevirtual 145, 3) := by decide +kernel
theorem dX10_at_18 : decode cX10_at 18 = .ok (.aload_n 0, 1) := by decide +kernel
theorem dX10_at_19 : decode cX10_at 19 = .ok (.getfield 14, 3) := by decide +kernel
theorem dX10_at_22 : decode cX10_at 22 = .ok (.iload_n 1, 1) := by decide +kernel
theorem dX10_at_23 : decode cX10_at 23 = .ok (.invokevirtual 159, 3) := by decide +kernel
theorem dX10_at_26 : decode cX10_at 26 = .ok (.ireturn, 1) := by decide +kernel
theorem dX10_count_0 : decode cX10_count 0 = .ok (.iload_n 1, 1) := by decide +kernel
theorem dX10_count_1 : decode cX10_count 1 = .ok (.iconst (-1), 1) := by decide +kernel
theorem dX10_count_2 : decode cX10_count 2 = .ok (.if_icmp .ne 11, 3) := by decide +kernel
theorem dX10_count_5 : decode cX10_count 5 = .ok (.aload_n 0, 1) := by decide +kernel
theorem dX10_count_6 : decode cX10_count 6 = .ok (.getfield 35, 3) := by decide +kernel
theorem dX10_count_9 : decode cX10_count 9 = .ok (.invokevirtual 53, 3) := by decide +kernel
theorem dX10_count_12 : decode cX10_count 12 = .ok (.ireturn, 1) := by decide +kernel
theorem dX10_count_13 : decode cX10_count 13 = .ok (.aload_n 0, 1) := by decide +kernel
theorem dX10_count_14 : decode cX10_count 14 = .ok (.iload_n 1, 1) := by decide +kernel
theorem dX10_count_15 : decode cX10_count 15 = .ok (.invokevirtual 162, 3) := by decide +kernel
theorem dX10_count_18 : decode cX10_count 18 = .ok (.aload_n 0, 1) := by decide +kernel
theorem dX10_count_19 : decode cX10_count 19 = .ok (.getfield 35, 3) := by decide +kernel
theorem dX10_count_22 : decode cX10_count 22 = .ok (.iload_n 1, 1) := by decide +kernel
theorem dX10_count_23 : decode cX10_count 23 = .ok (.invokevirtual 165, 3) := by decide +kernel
theorem dX10_count_26 : decode cX10_count 26 = .ok (.invokevirtual 82, 3) := by decide +kernel
theorem dX10_count_29 : decode cX10_count 29 = .ok (.ireturn, 1) := by decide +kernel
theorem dX10_outline_0 : decode cX10_outline 0 = .ok (.aload_n 0, 1) := by decide +kernel
theorem dX10_outline_1 : decode cX10_outline 1 = .ok (.iload_n 1, 1) := by decide +kernel
theorem dX10_outline_2 : decode cX10_outline 2 = .ok (.invokevirtual 162, 3) := by decide +kernel
theorem dX10_outline_5 : decode cX10_outline 5 = .ok (.iload_n 3, 1) := by decide +kernel
theorem dX10_outline_6 : decode cX10_outline 6 = .ok (.ifCond .lt 8, 3) := by decide +kernel
theorem dX10_outline_9 : decode cX10_outline 9 = .ok (.iload_n 3, 1) := by decide +kernel
theorem dX10_outline_10 : decode cX10_outline 10 = .ok (.iconst 3, 1) := by decide +kernel
theorem dX10_outline_11 : decode cX10_outline 11 = .ok (.if_icmp .le 13, 3) := by decide +kernel
theorem dX10_outline_14 : decode cX10_outline 14 = .ok (.new 46, 3) := by decide +kernel
theorem dX10_outline_17 : decode cX10_outline 17 = .ok (.dup, 1) := by decide +kernel
theorem dX10_outline_18 : decode cX10_outline 18 = .ok (.ldc 169, 2) := by decide +kernel
theorem dX10_outline_20 : decode cX10_outline 20 = .ok (.invokespecial 50, 3) := by decide +kernel
theorem dX10_outline_23 : decode cX10_outline 23 = .ok (.athrow, 1) := by decide +kernel
theorem dX10_outline_24 : decode cX10_outline 24 = .ok (.aload_n 0, 1) := by decide +kernel
theorem dX10_outline_25 : decode cX10_outline 25 = .ok (.getfield 35, 3) := by decide +kernel
theorem dX10_outline_28 : decode cX10_outline 28 = .ok (.iload_n 1, 1) := by decide +kernel
theorem dX10_outline_29 : decode cX10_outline 29 = .ok (.invokevirtual 165, 3) := by decide +kernel
theorem dX10_outline_32 : decode cX10_outline 32 = .ok (.astore 4, 2) := by decide +kernel
theorem dX10_outline_34 : decode cX10_outline 34 = .ok (.iload_n 2, 1) := by decide +kernel
theorem dX10_outline_35 : decode cX10_outline 35 = .ok (.ifCond .lt 12, 3) := by decide +kernel
theorem dX10_outline_38 : decode cX10_outline 38 = .ok (.iload_n 2, 1) := by decide +kernel
theorem dX10_outline_39 : decode cX10_outline 39 = .ok (.aload 4, 2) := by decide +kernel
theorem dX10_outline_41 : decode cX10_outline 41 = .ok (.invokevirtual 82, 3) := by decide +kernel
theorem dX10_outline_44 : decode cX10_outline 44 = .ok (.if_icmp .lt 13, 3) := by decide +kernel
theorem dX10_outline_47 : decode cX10_outline 47 = .ok (.new 171, 3) := by decide +kernel
theorem dX10_outline_50 : decode cX10_outline 50 = .ok (.dup, 1) := by decide +kernel
theorem dX10_outline_51 : decode cX10_outline 51 = .ok (.ldc 173, 2) := by decide +kernel
theorem dX10_outline_53 : decode cX10_outline 53 = .ok (.invokespecial 175, 3) := by decide +kernel
theorem dX10_outline_56 : decode cX10_outline 56 = .ok (.athrow, 1) := by decide +kernel
theorem dX10_outline_57 : decode cX10_outline 57 = .ok (.iload_n 3, 1) := by decide +kernel
theorem dX10_outline_58 : decode cX10_outline 58 = .ok (.tableswitch 55 0 2 #[26, 33, 40], 26) := by decide +kernel
theorem dX10_outline_84 : decode cX10_outline 84 = .ok (.aload 4, 2) := by decide +kernel
theorem dX10_outline_86 : decode cX10_outline 86 = .ok (.iload_n 2, 1) := by decide +kernel
theorem dX10_outline_87 : decode cX10_outline 87 = .ok (.invokevirtual 176, 3) := by decide +kernel
theorem dX10_outline_90 : decode cX10_outline 90 = .ok (.ireturn, 1) := by decide +kernel
theorem dX10_outline_91 : decode cX10_outline 91 = .ok (.aload 4, 2) := by decide +kernel
theorem dX10_outline_93 : decode cX10_outline 93 = .ok (.iload_n 2, 1) := by decide +kernel
theorem dX10_outline_94 : decode cX10_outline 94 = .ok (.invokevirtual 179, 3) := by decide +kernel
theorem dX10_outline_97 : decode cX10_outline 97 = .ok (.ireturn, 1) := by decide +kernel
theorem dX10_outline_98 : decode cX10_outline 98 = .ok (.aload 4, 2) := by decide +kernel
theorem dX10_outline_100 : decode cX10_outline 100 = .ok (.iload_n 2, 1) := by decide +kernel
theorem dX10_outline_101 : decode cX10_outline 101 = .ok (.invokevirtual 182, 3) := by decide +kernel
theorem dX10_outline_104 : decode cX10_outline 104 = .ok (.ifCond .eq 7, 3) := by decide +kernel
theorem dX10_outline_107 : decode cX10_outline 107 = .ok (.iconst 1, 1) := by decide +kernel
theorem dX10_outline_108 : decode cX10_outline 108 = .ok (.goto 4, 3) := by decide +kernel
theorem dX10_outline_111 : decode cX10_outline 111 = .ok (.iconst 0, 1) := by decide +kernel
theorem dX10_outline_112 : decode cX10_outline 112 = .ok (.ireturn, 1) := by decide +kernel
theorem dX10_outline_113 : decode cX10_outline 113 = .ok (.aload 4, 2) := by decide +kernel
theorem dX10_outline_115 : decode cX10_outline 115 = .ok (.iload_n 2, 1) := by decide +kernel
theorem dX10_outline_116 : decode cX10_outline 116 = .ok (.invokevirtual 185, 3) := by decide +kernel
theorem dX10_outline_119 : decode cX10_outline 119 = .ok (.ireturn, 1) := by decide +kernel
theorem dX10_refuseEmptyContour_0 : decode cX10_refuseEmptyContour 0 = .ok (.aload_n 0, 1) := by decide +kernel
theorem dX10_refuseEmptyContour_1 : decode cX10_refuseEmptyContour 1 = .ok (.getfield 35, 3) := by decide +kernel
theorem dX10_refuseEmptyContour_4 : decode cX10_refuseEmptyContour 4 = .ok (.invokevirtual 188, 3) := by decide +kernel
theorem dX10_refuseEmptyContour_7 : decode cX10_refuseEmptyContour 7 = .ok (.ifCond .eq 13, 3) := by decide +kernel
theorem dX10_refuseEmptyContour_10 : decode cX10_refuseEmptyContour 10 = .ok (.new 57, 3) := by decide +kernel
theorem dX10_refuseEmptyContour_13 : decode cX10_refuseEmptyContour 13 = .ok (.dup, 1) := by decide +kernel
theorem dX10_refuseEmptyContour_14 : decode cX10_refuseEmptyContour 14 = .ok (.ldc 192, 2) := by decide +kernel
theorem dX10_refuseEmptyContour_16 : decode cX10_refuseEmptyContour 16 = .ok (.invokespecial 61, 3) := by decide +kernel
theorem dX10_refuseEmptyContour_19 : decode cX10_refuseEmptyContour 19 = .ok (.athrow, 1) := by decide +kernel
theorem dX10_refuseEmptyContour_20 : decode cX10_refuseEmptyContour 20 = .ok (.return_, 1) := by decide +kernel
theorem dX10_refuseMissingByte_0 : decode cX10_refuseMissingByte 0 = .ok (.iload_n 1, 1) := by decide +kernel
theorem dX10_refuseMissingByte_1 : decode cX10_refuseMissingByte 1 = .ok (.ifCond .lt 14, 3) := by decide +kernel
theorem dX10_refuseMissingByte_4 : decode cX10_refuseMissingByte 4 = .ok (.iload_n 1, 1) := by decide +kernel
theorem dX10_refuseMissingByte_5 : decode cX10_refuseMissingByte 5 = .ok (.aload_n 0, 1) := by decide +kernel
theorem dX10_refuseMissingByte_6 : decode cX10_refuseMissingByte 6 = .ok (.getfield 14, 3) := by decide +kernel
theorem dX10_refuseMissingByte_9 : decode cX10_refuseMissingByte 9 = .ok (.invokevirtual 113, 3) := by decide +kernel
theorem dX10_refuseMissingByte_12 : decode cX10_refuseMissingByte 12 = .ok (.if_icmp .lt 13, 3) := by decide +kernel
theorem dX10_refuseMissingByte_15 : decode cX10_refuseMissingByte 15 = .ok (.new 171, 3) := by decide +kernel
theorem dX10_refuseMissingByte_18 : decode cX10_refuseMissingByte 18 = .ok (.dup, 1) := by decide +kernel
theorem dX10_refuseMissingByte_19 : decode cX10_refuseMissingByte 19 = .ok (.ldc 194, 2) := by decide +kernel
theorem dX10_refuseMissingByte_21 : decode cX10_refuseMissingByte 21 = .ok (.invokespecial 175, 3) := by decide +kernel
theorem dX10_refuseMissingByte_24 : decode cX10_refuseMissingByte 24 = .ok (.athrow, 1) := by decide +kernel
theorem dX10_refuseMissingByte_25 : decode cX10_refuseMissingByte 25 = .ok (.return_, 1) := by decide +kernel
theorem dX10_refuseMissingGlyph_0 : decode cX10_refuseMissingGlyph 0 = .ok (.iload_n 1, 1) := by decide +kernel
theorem dX10_refuseMissingGlyph_1 : decode cX10_refuseMissingGlyph 1 = .ok (.ifCond .lt 14, 3) := by decide +kernel
theorem dX10_refuseMissingGlyph_4 : decode cX10_refuseMissingGlyph 4 = .ok (.iload_n 1, 1) := by decide +kernel
theorem dX10_refuseMissingGlyph_5 : decode cX10_refuseMissingGlyph 5 = .ok (.aload_n 0, 1) := by decide +kernel
theorem dX10_refuseMissingGlyph_6 : decode cX10_refuseMissingGlyph 6 = .ok (.getfield 35, 3) := by decide +kernel
theorem dX10_refuseMissingGlyph_9 : decode cX10_refuseMissingGlyph 9 = .ok (.invokevirtual 53, 3) := by decide +kernel
theorem dX10_refuseMissingGlyph_12 : decode cX10_refuseMissingGlyph 12 = .ok (.if_icmp .lt 13, 3) := by decide +kernel
theorem dX10_refuseMissingGlyph_15 : decode cX10_refuseMissingGlyph 15 = .ok (.new 46, 3) := by decide +kernel
theorem dX10_refuseMissingGlyph_18 : decode cX10_refuseMissingGlyph 18 = .ok (.dup, 1) := by decide +kernel
theorem dX10_refuseMissingGlyph_19 : decode cX10_refuseMissingGlyph 19 = .ok (.ldc 196, 2) := by decide +kernel
theorem dX10_refuseMissingGlyph_21 : decode cX10_refuseMissingGlyph 21 = .ok (.invokespecial 50, 3) := by decide +kernel
theorem dX10_refuseMissingGlyph_24 : decode cX10_refuseMissingGlyph 24 = .ok (.athrow, 1) := by decide +kernel
theorem dX10_refuseMissingGlyph_25 : decode cX10_refuseMissingGlyph 25 = .ok (.return_, 1) := by decide +kernel
theorem dX10_isTooFar_0 : decode cX10_isTooFar 0 = .ok (.iload_n 0, 1) := by decide +kernel
theorem dX10_isTooFar_1 : decode cX10_isTooFar 1 = .ok (.sipush (-4000), 3) := by decide +kernel
theorem dX10_isTooFar_4 : decode cX10_isTooFar 4 = .ok (.if_icmp .lt 10, 3) := by decide +kernel
theorem dX10_isTooFar_7 : decode cX10_isTooFar 7 = .ok (.iload_n 0, 1) := by decide +kernel
theorem dX10_isTooFar_8 : decode cX10_isTooFar 8 = .ok (.sipush 4000, 3) := by decide +kernel
theorem dX10_isTooFar_11 : decode cX10_isTooFar 11 = .ok (.if_icmp .le 7, 3) := by decide +kernel
theorem dX10_isTooFar_14 : decode cX10_isTooFar 14 = .ok (.iconst 1, 1) := by decide +kernel
theorem dX10_isTooFar_15 : decode cX10_isTooFar 15 = .ok (.goto 4, 3) := by decide +kernel
theorem dX10_isTooFar_18 : decode cX10_isTooFar 18 = .ok (.iconst 0, 1) := by decide +kernel
theorem dX10_isTooFar_19 : decode cX10_isTooFar 19 = .ok (.ireturn, 1) := by decide +kernel
theorem dX11_init_0 : decode cX11_init 0 = .ok (.aload_n 0, 1) := by decide +kernel
theorem dX11_init_1 : decode cX11_init 1 = .ok (.invokespecial 1, 3) := by decide +kernel
theorem dX11_init_4 : decode cX11_init 4 = .ok (.aload_n 0, 1) := by decide +kernel
theorem dX11_init_5 : decode cX11_init 5 = .ok (.bipush 6, 2) := by decide +kernel
theorem dX11_init_7 : decode cX11_init 7 = .ok (.newarray .int, 2) := by decide +kernel
theorem dX11_init_9 : decode cX11_init 9 = .ok (.putfield 7, 3) := by decide +kernel
theorem dX11_init_12 : decode cX11_init 12 = .ok (.aload_n 0, 1) := by decide +kernel
theorem dX11_init_13 : decode cX11_init 13 = .ok (.bipush 6, 2) := by decide +kernel
theorem dX11_init_15 : decode cX11_init 15 = .ok (.newarray .int, 2) := by decide +kernel
theorem dX11_init_17 : decode cX11_init 17 = .ok (.putfield 13, 3) := by decide +kernel
theorem dX11_init_20 : decode cX11_init 20 = .ok (.aload_n 0, 1) := by decide +kernel
theorem dX11_init_21 : decode cX11_init 21 = .ok (.bipush 6, 2) := by decide +kernel
theorem dX11_init_23 : decode cX11_init 23 = .ok (.newarray .int, 2) := by decide +kernel
theorem dX11_init_25 : decode cX11_init 25 = .ok (.putfield 16, 3) := by decide +kernel
theorem dX11_init_28 : decode cX11_init 28 = .ok (.aload_n 0, 1) := by decide +kernel
theorem dX11_init_29 : decode cX11_init 29 = .ok (.bipush 96, 2) := by decide +kernel
theorem dX11_init_31 : decode cX11_init 31 = .ok (.newarray .int, 2) := by decide +kernel
theorem dX11_init_33 : decode cX11_init 33 = .ok (.putfield 19, 3) := by decide +kernel
theorem dX11_init_36 : decode cX11_init 36 = .ok (.aload_n 0, 1) := by decide +kernel
theorem dX11_init_37 : decode cX11_init 37 = .ok (.bipush 96, 2) := by decide +kernel
theorem dX11_init_39 : decode cX11_init 39 = .ok (.newarray .int, 2) := by decide +kernel
theorem dX11_init_41 : decode cX11_init 41 = .ok (.putfield 22, 3) := by decide +kernel
theorem dX11_init_44 : decode cX11_init 44 = .ok (.aload_n 0, 1) := by decide +kernel
theorem dX11_init_45 : decode cX11_init 45 = .ok (.bipush 96, 2) := by decide +kernel
theorem dX11_init_47 : decode cX11_init 47 = .ok (.newarray .boolean, 2) := by decide +kernel
theorem dX11_init_49 : decode cX11_init 49 = .ok (.putfield 25, 3) := by decide +kernel
theorem dX11_init_52 : decode cX11_init 52 = .ok (.aload_n 0, 1) := by decide +kernel
theorem dX11_init_53 : decode cX11_init 53 = .ok (.bipush 96, 2) := by decide +kernel
theorem dX11_init_55 : decode cX11_init 55 = .ok (.newarray .int, 2) := by decide +kernel
theorem dX11_init_57 : decode cX11_init 57 = .ok (.putfield 29, 3) := by decide +kernel
theorem dX11_init_60 : decode cX11_init 60 = .ok (.aload_n 0, 1) := by decide +kernel
theorem dX11_init_61 : decode cX11_init 61 = .ok (.bipush 7, 2) := by decide +kernel
theorem dX11_init_63 : decode cX11_init 63 = .ok (.newarray .int, 2) := by decide +kernel
theorem dX11_init_65 : decode cX11_init 65 = .ok (.putfield 32, 3) := by decide +kernel
theorem dX11_init_68 : decode cX11_init 68 = .ok (.aload_n 0, 1) := by decide +kernel
theorem dX11_init_69 : decode cX11_init 69 = .ok (.sipush 140, 3) := by decide +kernel
theorem dX11_init_72 : decode cX11_init 72 = .ok (.newarray .int, 2) := by decide +kernel
theorem dX11_init_74 : decode cX11_init 74 = .ok (.putfield 35, 3) := by decide +kernel
theorem dX11_init_77 : decode cX11_init 77 = .ok (.aload_n 0, 1) := by decide +kernel
theorem dX11_init_78 : decode cX11_init 78 = .ok (.bipush 6, 2) := by decide +kernel
theorem dX11_init_80 : decode cX11_init 80 = .ok (.newarray .int, 2) := by decide +kernel
theorem dX11_init_82 : decode cX11_init 82 = .ok (.putfield 38, 3) := by decide +kernel
theorem dX11_init_85 : decode cX11_init 85 = .ok (.aload_n 0, 1) := by decide +kernel
theorem dX11_init_86 : decode cX11_init 86 = .ok (.bipush 6, 2) := by decide +kernel
theorem dX11_init_88 : decode cX11_init 88 = .ok (.newarray .int, 2) := by decide +kernel
theorem dX11_init_90 : decode cX11_init 90 = .ok (.putfield 41, 3) := by decide +kernel
theorem dX11_init_93 : decode cX11_init 93 = .ok (.aload_n 0, 1) := by decide +kernel
theorem dX11_init_94 : decode cX11_init 94 = .ok (.bipush 6, 2) := by decide +kernel
theorem dX11_init_96 : decode cX11_init 96 = .ok (.newarray .int, 2) := by decide +kernel
theorem dX11_init_98 : decode cX11_init 98 = .ok (.putfield 44, 3) := by decide +kernel
theorem dX11_init_101 : decode cX11_init 101 = .ok (.aload_n 0, 1) := by decide +kernel
theorem dX11_init_102 : decode cX11_init 102 = .ok (.bipush 96, 2) := by decide +kernel
theorem dX11_init_104 : decode cX11_init 104 = .ok (.newarray .int, 2) := by decide +kernel
theorem dX11_init_106 : decode cX11_init 106 = .ok (.putfield 47, 3) := by decide +kernel
theorem dX11_init_109 : decode cX11_init 109 = .ok (.aload_n 0, 1) := by decide +kernel
theorem dX11_init_110 : decode cX11_init 110 = .ok (.bipush 96, 2) := by decide +kernel
theorem dX11_init_112 : decode cX11_init 112 = .ok (.newarray .int, 2) := by decide +kernel
theorem dX11_init_114 : decode cX11_init 114 = .ok (.putfield 50, 3) := by decide +kernel
theorem dX11_init_117 : decode cX11_init 117 = .ok (.aload_n 0, 1) := by decide +kernel
theorem dX11_init_118 : decode cX11_init 118 = .ok (.bipush 96, 2) := by decide +kernel
theorem dX11_init_120 : decode cX11_init 120 = .ok (.newarray .int, 2) := by decide +kernel
theorem dX11_init_122 : decode cX11_init 122 = .ok (.putfield 53, 3) := by decide +kernel
theorem dX11_init_125 : decode cX11_init 125 = .ok (.aload_n 0, 1) := by decide +kernel
theorem dX11_init_126 : decode cX11_init 126 = .ok (.bipush 96, 2) := by decide +kernel
theorem dX11_init_128 : decode cX11_init 128 = .ok (.newarray .int, 2) := by decide +kernel
theorem dX11_init_130 : decode cX11_init 130 = .ok (.putfield 56, 3) := by decide +kernel
theorem dX11_init_133 : decode cX11_init 133 = .ok (.aload_n 0, 1) := by decide +kernel
theorem dX11_init_134 : decode cX11_init 134 = .ok (.bipush 24, 2) := by decide +kernel
theorem dX11_init_136 : decode cX11_init 136 = .ok (.newarray .int, 2) := by decide +kernel
theorem dX11_init_138 : decode cX11_init 138 = .ok (.putfield 59, 3) := by decide +kernel
theorem dX11_init_141 : decode cX11_init 141 = .ok (.aload_n 0, 1) := by decide +kernel
theorem dX11_init_142 : decode cX11_init 142 = .ok (.bipush 7, 2) := by decide +kernel
theorem dX11_init_144 : decode cX11_init 144 = .ok (.newarray .int, 2) := by decide +kernel
theorem dX11_init_146 : decode cX11_init 146 = .ok (.putfield 62, 3) := by decide +kernel
theorem dX11_init_149 : decode cX11_init 149 = .ok (.aload_n 0, 1) := by decide +kernel
theorem dX11_init_150 : decode cX11_init 150 = .ok (.sipush 140, 3) := by decide +kernel
theorem dX11_init_153 : decode cX11_init 153 = .ok (.newarray .int, 2) := by decide +kernel
theorem dX11_init_155 : decode cX11_init 155 = .ok (.putfield 65, 3) := by decide +kernel
theorem dX11_init_158 : decode cX11_init 158 = .ok (.aload_n 0, 1) := by decide +kernel
theorem dX11_init_159 : decode cX11_init 159 = .ok (.sipush 1500, 3) := by decide +kernel
theorem dX11_init_162 : decode cX11_init 162 = .ok (.newarray .int, 2) := by decide +kernel
theorem dX11_init_164 : decode cX11_init 164 = .ok (.putfield 68, 3) := by decide +kernel
theorem dX11_init_167 : decode cX11_init 167 = .ok (.aload_n 0, 1) := by decide +kernel
theorem dX11_init_168 : decode cX11_init 168 = .ok (.sipush 1100, 3) := by decide +kernel
theorem dX11_init_171 : decode cX11_init 171 = .ok (.newarray .int, 2) := by decide +kernel
theorem dX11_init_173 : decode cX11_init 173 = .ok (.putfield 71, 3) := by decide +kernel
theorem dX11_init_176 : decode cX11_init 176 = .ok (.aload_n 0, 1) := by decide +kernel
theorem dX11_init_177 : decode cX11_init 177 = .ok (.sipush 1100, 3) := by decide +kernel
theorem dX11_init_180 : decode cX11_init 180 = .ok (.newarray .int, 2) := by decide +kernel
theorem dX11_init_182 : decode cX11_init 182 = .ok (.putfield 74, 3) := by decide +kernel
theorem dX11_init_185 : decode cX11_init 185 = .ok (.aload_n 0, 1) := by decide +kernel
theorem dX11_init_186 : decode cX11_init 186 = .ok (.bipush 7, 2) := by decide +kernel
theorem dX11_init_188 : decode cX11_init 188 = .ok (.newarray .int, 2) := by decide +kernel
theorem dX11_init_190 : decode cX11_init 190 = .ok (.putfield 77, 3) := by decide +kernel
theorem dX11_init_193 : decode cX11_init 193 = .ok (.aload_n 0, 1) := by decide +kernel
theorem dX11_init_194 : decode cX11_init 194 = .ok (.bipush 7, 2) := by decide +kernel
theorem dX11_init_196 : decode cX11_init 196 = .ok (.newarray .int, 2) := by decide +kernel
theorem dX11_init_198 : decode cX11_init 198 = .ok (.putfield 80, 3) := by decide +kernel
theorem dX11_init_201 : decode cX11_init 201 = .ok (.return_, 1) := by decide +kernel
theorem dX11_thrown_0 : decode cX11_thrown 0 = .ok (.aload_n 0, 1) := by decide +kernel
theorem dX11_thrown_1 : decode cX11_thrown 1 = .ok (.getfield 83, 3) := by decide +kernel
theorem dX11_thrown_4 : decode cX11_thrown 4 = .ok (.ireturn, 1) := by decide +kernel
theorem dX11_out_0 : decode cX11_out 0 = .ok (.iload_n 0, 1) := by decide +kernel
theorem dX11_out_1 : decode cX11_out 1 = .ok (.ifCond .lt 8, 3) := by decide +kernel
theorem dX11_out_4 : decode cX11_out 4 = .ok (.iload_n 0, 1) := by decide +kernel
theorem dX11_out_5 : decode cX11_out 5 = .ok (.iload_n 1, 1) := by decide +kernel
theorem dX11_out_6 : decode cX11_out 6 = .ok (.if_icmp .lt 7, 3) := by decide +kernel
theorem dX11_out_9 : decode cX11_out 9 = .ok (.iconst 1, 1) := by decide +kernel
theorem dX11_out_10 : decode cX11_out 10 = .ok (.goto 4, 3) := by decide +kernel
theorem dX11_out_13 : decode cX11_out 13 = .ok (.iconst 0, 1) := by decide +kernel
theorem dX11_out_14 : decode cX11_out 14 = .ok (.ireturn, 1) := by decide +kernel
theorem dX11_fail_0 : decode cX11_fail 0 = .ok (.aload_n 0, 1) := by decide +kernel
theorem dX11_fail_1 : decode cX11_fail 1 = .ok (.iload_n 1, 1) := by decide +kernel
theorem dX11_fail_2 : decode cX11_fail 2 = .ok (.putfield 83, 3) := by decide +kernel
theorem dX11_fail_5 : decode cX11_fail 5 = .ok (.iconst 0, 1) := by decide +kernel
theorem dX11_fail_6 : decode cX11_fail 6 = .ok (.ireturn, 1) := by decide +kernel
theorem dX11_abs_0 : decode cX11_abs 0 = .ok (.iload_n 0, 1) := by decide +kernel
theorem dX11_abs_1 : decode cX11_abs 1 = .ok (.ifCond .ge 8, 3) := by decide +kernel
theorem dX11_abs_4 : decode cX11_abs 4 = .ok (.iload_n 0, 1) := by decide +kernel
theorem dX11_abs_5 : decode cX11_abs 5 = .ok (.ineg, 1) := by decide +kernel
theorem dX11_abs_6 : decode cX11_abs 6 = .ok (.goto 4, 3) := by decide +kernel
theorem dX11_abs_9 : decode cX11_abs 9 = .ok (.iload_n 0, 1) := by decide +kernel
theorem dX11_abs_10 : decode cX11_abs 10 = .ok (.ireturn, 1) := by decide +kernel
theorem dX11_open_0 : decode cX11_open 0 = .ok (.aload_n 0, 1) := by decide +kernel
theorem dX11_open_1 : decode cX11_open 1 = .ok (.getfield 87, 3) := by decide +kernel
theorem dX11_open_4 : decode cX11_open 4 = .ok (.ifCond .ne 5, 3) := by decide +kernel
theorem dX11_open_7 : decode cX11_open 7 = .ok (.iconst 0, 1) := by decide +kernel
theorem dX11_open_8 : decode cX11_open 8 = .ok (.ireturn, 1) := by decide +kernel
theorem dX11_open_9 : decode cX11_open 9 = .ok (.aload_n 0, 1) := by decide +kernel
theorem dX11_open_10 : decode cX11_open 10 = .ok (.getfield 87, 3) := by decide +kernel
theorem dX11_open_13 : decode cX11_open 13 = .ok (.iconst 1, 1) := by decide +kernel
theorem dX11_open_14 : decode cX11_open 14 = .ok (.isub, 1) := by decide +kernel
theorem dX11_open_15 : decode cX11_open 15 = .ok (.istore_n 1, 1) := by decide +kernel
theorem dX11_open_16 : decode cX11_open 16 = .ok (.aload_n 0, 1) := by decide +kernel
theorem dX11_open_17 : decode cX11_open 17 = .ok (.getfield 13, 3) := by decide +kernel
theorem dX11_open_20 : decode cX11_open 20 = .ok (.iload_n 1, 1) := by decide +kernel
theorem dX11_open_21 : decode cX11_open 21 = .ok (.iaload, 1) := by decide +kernel
theorem dX11_open_22 : decode cX11_open 22 = .ok (.ifCond .le 45, 3) := by decide +kernel
theorem dX11_open_25 : decode cX11_open 25 = .ok (.aload_n 0, 1) := by decide +kernel
theorem dX11_open_26 : decode cX11_open 26 = .ok (.getfield 16, 3) := by decide +kernel
theorem dX11_open_29 : decode cX11_open 29 = .ok (.iload_n 1, 1) := by decide +kernel
theorem dX11_open_30 : decode cX11_open 30 = .ok (.iaload, 1) := by decide +kernel
theorem dX11_open_31 : decode cX11_open 31 = .ok (.ifCond .eq 32, 3) := by decide +kernel
theorem dX11_open_34 : decode cX11_open 34 = .ok (.aload_n 0, 1) := by decide +kernel
theorem dX11_open_35 : decode cX11_open 35 = .ok (.getfield 29, 3) := by decide +kernel
theorem dX11_open_38 : decode cX11_open 38 = .ok (.bipush 16, 2) := by decide +kernel
theorem dX11_open_40 : decode cX11_open 40 = .ok (.iload_n 1, 1) := by decide +kernel
theorem dX11_open_41 : decode cX11_open 41 = .ok (.imul, 1) := by decide +kernel
theorem dX11_open_42 : decode cX11_open 42 = .ok (.aload_n 0, 1) := by decide +kernel
theorem dX11_open_43 : decode cX11_open 43 = .ok (.getfield 16, 3) := by decide +kernel
theorem dX11_open_46 : decode cX11_open 46 = .ok (.iload_n 1, 1) := by decide +kernel
theorem dX11_open_47 : decode cX11_open 47 = .ok (.iaload, 1) := by decide +kernel
theorem dX11_open_48 : decode cX11_open 48 = .ok (.iadd, 1) := by decide +kernel
theorem dX11_open_49 : decode cX11_open 49 = .ok (.iconst 1, 1) := by decide +kernel
theorem dX11_open_50 : decode cX11_open 50 = .ok (.isub, 1) := by decide +kernel
theorem dX11_open_51 : decode cX11_open 51 = .ok (.iaload, 1) := by decide +kernel
theorem dX11_open_52 : decode cX11_open 52 = .ok (.aload_n 0, 1) := by decide +kernel
theorem dX11_open_53 : decode cX11_open 53 = .ok (.getfield 13, 3) := by decide +kernel
theorem dX11_open_56 : decode cX11_open 56 = .ok (.iload_n 1, 1) := by decide +kernel
theorem dX11_open_57 : decode cX11_open 57 = .ok (.iaload, 1) := by decide +kernel
theorem dX11_open_58 : decode cX11_open 58 = .ok (.iconst 1, 1) := by decide +kernel
theorem dX11_open_59 : decode cX11_open 59 = .ok (.isub, 1) := by decide +kernel
theorem dX11_open_60 : decode cX11_open 60 = .ok (.if_icmp .ge 7, 3) := by decide +kernel
theorem dX11_open_63 : decode cX11_open 63 = .ok (.iconst 1, 1) := by decide +kernel
theorem dX11_open_64 : decode cX11_open 64 = .ok (.goto 4, 3) := by decide +kernel
theorem dX11_open_67 : decode cX11_open 67 = .ok (.iconst 0, 1) := by decide +kernel
theorem dX11_open_68 : decode cX11_open 68 = .ok (.ireturn, 1) := by decide +kernel
theorem dX11_glyph_0 : decode cX11_glyph 0 = .ok (.aload_n 0, 1) := by decide +kernel
theorem dX11_glyph_1 : decode cX11_glyph 1 = .ok (.iload_n 1, 1) := by decide +kernel
theorem dX11_glyph_2 : decode cX11_glyph 2 = .ok (.sipush 2001, 3) := by decide +kernel
theorem dX11_glyph_5 : decode cX11_glyph 5 = .ok (.invokestatic 90, 3) := by decide +kernel
theorem dX11_glyph_8 : decode cX11_glyph 8 = .ok (.ifCond .eq 7, 3) := by decide +kernel
theorem dX11_glyph_11 : decode cX11_glyph 11 = .ok (.iconst 1, 1) := by decide +kernel
theorem dX11_glyph_12 : decode cX11_glyph 12 = .ok (.goto 24, 3) := by decide +kernel
theorem dX11_glyph_15 : decode cX11_glyph 15 = .ok (.aload_n 0, 1) := by decide +kernel
theorem dX11_glyph_16 : decode cX11_glyph 16 = .ok (.getfield 87, 3) := by decide +kernel
theorem dX11_glyph_19 : decode cX11_glyph 19 = .ok (.bipush 6, 2) := by decide +kernel
theorem dX11_glyph_21 : decode cX11_glyph 21 = .ok (.if_icmp .eq 10, 3) := by decide +kernel
theorem dX11_glyph_24 : decode cX11_glyph 24 = .ok (.aload_n 0, 1) := by decide +kernel
theorem dX11_glyph_25 : decode cX11_glyph 25 = .ok (.invokevirtual 94, 3) := by decide +kernel
theorem dX11_glyph_28 : decode cX11_glyph 28 = .ok (.ifCond .eq 7, 3) := by decide +kernel
theorem dX11_glyph_31 : decode cX11_glyph 31 = .ok (.iconst 2, 1) := by decide +kernel
theorem dX11_glyph_32 : decode cX11_glyph 32 = .ok (.goto 4, 3) := by decide +kernel
theorem dX11_glyph_35 : decode cX11_glyph 35 = .ok (.iconst 0, 1) := by decide +kernel
theorem dX11_glyph_36 : decode cX11_glyph 36 = .ok (.putfield 83, 3) := by decide +kernel
theorem dX11_glyph_39 : decode cX11_glyph 39 = .ok (.aload_n 0, 1) := by decide +kernel
theorem dX11_glyph_40 : decode cX11_glyph 40 = .ok (.getfield 83, 3) := by decide +kernel
theorem dX11_glyph_43 : decode cX11_glyph 43 = .ok (.ifCond .le 5, 3) := by decide +kernel
theorem dX11_glyph_46 : decode cX11_glyph 46 = .ok (.iconst 0, 1) := by decide +kernel
theorem dX11_glyph_47 : decode cX11_glyph 47 = .ok (.ireturn, 1) := by decide +kernel
theorem dX11_glyph_48 : decode cX11_glyph 48 = .ok (.aload_n 0, 1) := by decide +kernel
theorem dX11_glyph_49 : decode cX11_glyph 49 = .ok (.getfield 7, 3) := by decide +kernel
theorem dX11_glyph_52 : decode cX11_glyph 52 = .ok (.aload_n 0, 1) := by decide +kernel
theorem dX11_glyph_53 : decode cX11_glyph 53 = .ok (.getfield 87, 3) := by decide +kernel
theorem dX11_glyph_56 : decode cX11_glyph 56 = .ok (.iload_n 1, 1) := by decide +kernel
theorem dX11_glyph_57 : decode cX11_glyph 57 = .ok (.iastore, 1) := by decide +kernel
theorem dX11_glyph_58 : decode cX11_glyph 58 = .ok (.aload_n 0, 1) := by decide +kernel
theorem dX11_glyph_59 : decode cX11_glyph 59 = .ok (.getfield 13, 3) := by decide +kernel
theorem dX11_glyph_62 : decode cX11_glyph 62 = .ok (.aload_n 0, 1) := by decide +kernel
theorem dX11_glyph_63 : decode cX11_glyph 63 = .ok (.getfield 87, 3) := by decide +kernel
theorem dX11_glyph_66 : decode cX11_glyph 66 = .ok (.iconst 0, 1) := by decide +kernel
theorem dX11_glyph_67 : decode cX11_glyph 67 = .ok (.iastore, 1) := by decide +kernel
theorem dX11_glyph_68 : decode cX11_glyph 68 = .ok (.aload_n 0, 1) := by decide +kernel
theorem dX11_glyph_69 : decode cX11_glyph 69 = .ok (.getfield 16, 3) := by decide +kernel
theorem dX11_glyph_72 : decode cX11_glyph 72 = .ok (.aload_n 0, 1) := by decide +kernel
theorem dX11_glyph_73 : decode cX11_glyph 73 = .ok (.getfield 87, 3) := by decide +kernel
theorem dX11_glyph_76 : decode cX11_glyph 76 = .ok (.iconst 0, 1) := by decide +kernel
theorem dX11_glyph_77 : decode cX11_glyph 77 = .ok (.iastore, 1) := by decide +kernel
theorem dX11_glyph_78 : decode cX11_glyph 78 = .ok (.aload_n 0, 1) := by decide +kernel
theorem dX11_glyph_79 : decode cX11_glyph 79 = .ok (.dup, 1) := by decide +kernel
theorem dX11_glyph_80 : decode cX11_glyph 80 = .ok (.getfield 87, 3) := by decide +kernel
theorem dX11_glyph_83 : decode cX11_glyph 83 = .ok (.iconst 1, 1) := by decide +kernel
theorem dX11_glyph_84 : decode cX11_glyph 84 = .ok (.iadd, 1) := by decide +kernel
theorem dX11_glyph_85 : decode cX11_glyph 85 = .ok (.putfield 87, 3) := by decide +kernel
theorem dX11_glyph_88 : decode cX11_glyph 88 = .ok (.aload_n 0, 1) := by decide +kernel
theorem dX11_glyph_89 : decode cX11_glyph 89 = .ok (.getfield 87, 3) := by decide +kernel
theorem dX11_glyph_92 : decode cX11_glyph 92 = .ok (.iconst 1, 1) := by decide +kernel
theorem dX11_glyph_93 : decode cX11_glyph 93 = .ok (.isub, 1) := by decide +kernel
theorem dX11_glyph_94 : decode cX11_glyph 94 = .ok (.ireturn, 1) := by decide +kernel
theorem dX11_contour_0 : decode cX11_contour 0 = .ok (.aload_n 0, 1) := by decide +kernel
theorem dX11_contour_1 : decode cX11_contour 1 = .ok (.getfield 87, 3) := by decide +kernel
theorem dX11_contour_4 : decode cX11_contour 4 = .ok (.iconst 1, 1) := by decide +kernel
theorem dX11_contour_5 : decode cX11_contour 5 = .ok (.isub, 1) := by decide +kernel
theorem dX11_contour_6 : decode cX11_contour 6 = .ok (.istore_n 1, 1) := by decide +kernel
theorem dX11_contour_7 : decode cX11_contour 7 = .ok (.aload_n 0, 1) := by decide +kernel
theorem dX11_contour_8 : decode cX11_contour 8 = .ok (.iload_n 1, 1) := by decide +kernel
theorem dX11_contour_9 : decode cX11_contour 9 = .ok (.ifCond .lt 31, 3) := by decide +kernel
theorem dX11_contour_12 : decode cX11_contour 12 = .ok (.aload_n 0, 1) := by decide +kernel
theorem dX11_contour_13 : decode cX11_contour 13 = .ok (.invokevirtual 94, 3) := by decide +kernel
theorem dX11_contour_16 : decode cX11_contour 16 = .ok (.ifCond .ne 24, 3) := by decide +kernel
theorem dX11_contour_19 : decode cX11_contour 19 = .ok (.aload_n 0, 1) := by decide +kernel
theorem dX11_contour_20 : decode cX11_contour 20 = .ok (.getfield 13, 3) := by decide +kernel
theorem dX11_contour_23 : decode cX11_contour 23 = .ok (.iload_n 1, 1) := by decide +kernel
theorem dX11_contour_24 : decode cX11_contour 24 = .ok (.iaload, 1) := by decide +kernel
theorem dX11_contour_25 : decode cX11_contour 25 = .ok (.iconst 4, 1) := by decide +kernel
theorem dX11_contour_26 : decode cX11_contour 26 = .ok (.if_icmp .eq 14, 3) := by decide +kernel
theorem dX11_contour_29 : decode cX11_contour 29 = .ok (.aload_n 0, 1) := by decide +kernel
theorem dX11_contour_30 : decode cX11_contour 30 = .ok (.getfield 16, 3) := by decide +kernel
theorem dX11_contour_33 : decode cX11_contour 33 = .ok (.iload_n 1, 1) := by decide +kernel
theorem dX11_contour_34 : decode cX11_contour 34 = .ok (.iaload, 1) := by decide +kernel
theorem dX11_contour_35 : decode cX11_contour 35 = .ok (.bipush 16, 2) := by decide +kernel
theorem dX11_contour_37 : decode cX11_contour 37 = .ok (.if_icmp .ne 7, 3) := by decide +kernel
theorem dX11_contour_40 : decode cX11_contour 40 = .ok (.iconst 1, 1) := by decide +kernel
theorem dX11_contour_41 : decode cX11_contour 41 = .ok (.goto 4, 3) := by decide +kernel
theorem dX11_contour_44 : decode cX11_contour 44 = .ok (.iconst 0, 1) := by decide +kernel
theorem dX11_contour_45 : decode cX11_contour 45 = .ok (.putfield 83, 3) := by decide +kernel
theorem dX11_contour_48 : decode cX11_contour 48 = .ok (.aload_n 0, 1) := by decide +kernel
theorem dX11_contour_49 : decode cX11_contour 49 = .ok (.getfield 83, 3) := by decide +kernel
theorem dX11_contour_52 : decode cX11_contour 52 = .ok (.ifCond .le 5, 3) := by decide +kernel
theorem dX11_contour_55 : decode cX11_contour 55 = .ok (.iconst 0, 1) := by decide +kernel
theorem dX11_contour_56 : decode cX11_contour 56 = .ok (.ireturn, 1) := by decide +kernel
theorem dX11_contour_57 : decode cX11_contour 57 = .ok (.aload_n 0, 1) := by decide +kernel
theorem dX11_contour_58 : decode cX11_contour 58 = .ok (.getfield 13, 3) := by decide +kernel
theorem dX11_contour_61 : decode cX11_contour 61 = .ok (.iload_n 1, 1) := by decide +kernel
theorem dX11_contour_62 : decode cX11_contour 62 = .ok (.dup2, 1) := by decide +kernel
theorem dX11_contour_63 : decode cX11_contour 63 = .ok (.iaload, 1) := by decide +kernel
theorem dX11_contour_64 : decode cX11_contour 64 = .ok (.iconst 1, 1) := by decide +kernel
theorem dX11_contour_65 : decode cX11_contour 65 = .ok (.iadd, 1) := by decide +kernel
theorem dX11_contour_66 : decode cX11_contour 66 = .ok (.iastore, 1) := by decide +kernel
theorem dX11_contour_67 : decode cX11_contour 67 = .ok (.aload_n 0, 1) := by decide +kernel
theorem dX11_contour_68 : decode cX11_contour 68 = .ok (.getfield 13, 3) := by decide +kernel
theorem dX11_contour_71 : decode cX11_contour 71 = .ok (.iload_n 1, 1) := by decide +kernel
theorem dX11_contour_72 : decode cX11_contour 72 = .ok (.iaload, 1) := by decide +kernel
theorem dX11_contour_73 : decode cX11_contour 73 = .ok (.iconst 1, 1) := by decide +kernel
theorem dX11_contour_74 : decode cX11_contour 74 = .ok (.isub, 1) := by decide +kernel
theorem dX11_contour_75 : decode cX11_contour 75 = .ok (.ireturn, 1) := by decide +kernel
theorem dX11_far_0 : decode cX11_far 0 = .ok (.iload_n 0, 1) := by decide +kernel
theorem dX11_far_1 : decode cX11_far 1 = .ok (.sipush (-4000), 3) := by decide +kernel
theorem dX11_far_4 : decode cX11_far 4 = .ok (.if_icmp .lt 10, 3) := by decide +kernel
theorem dX11_far_7 : decode cX11_far 7 = .ok (.iload_n 0, 1) := by decide +kernel
theorem dX11_far_8 : decode cX11_far 8 = .ok (.sipush 4000, 3) := by decide +kernel
theorem dX11_far_11 : decode cX11_far 11 = .ok (.if_icmp .le 7, 3) := by decide +kernel
theorem dX11_far_14 : decode cX11_far 14 = .ok (.iconst 1, 1) := by decide +kernel
theorem dX11_far_15 : decode cX11_far 15 = .ok (.goto 4, 3) := by decide +kernel
theorem dX11_far_18 : decode cX11_far 18 = .ok (.iconst 0, 1) := by decide +kernel
theorem dX11_far_19 : decode cX11_far 19 = .ok (.ireturn, 1) := by decide +kernel
theorem dX11_point_0 : decode cX11_point 0 = .ok (.aload_n 0, 1) := by decide +kernel
theorem dX11_point_1 : decode cX11_point 1 = .ok (.getfield 87, 3) := by decide +kernel
theorem dX11_point_4 : decode cX11_point 4 = .ok (.iconst 1, 1) := by decide +kernel
theorem dX11_point_5 : decode cX11_point 5 = .ok (.isub, 1) := by decide +kernel
theorem dX11_point_6 : decode cX11_point 6 = .ok (.istore 4, 2) := by decide +kernel
theorem dX11_point_8 : decode cX11_point 8 = .ok (.aload_n 0, 1) := by decide +kernel
theorem dX11_point_9 : decode cX11_point 9 = .ok (.iload_n 1, 1) := by decide +kernel
theorem dX11_point_10 : decode cX11_point 10 = .ok (.invokestatic 98, 3) := by decide +kernel
theorem dX11_point_13 : decode cX11_point 13 = .ok (.ifCond .ne 10, 3) := by decide +kernel
theorem dX11_point_16 : decode cX11_point 16 = .ok (.iload_n 2, 1) := by decide +kernel
theorem dX11_point_17 : decode cX11_point 17 = .ok (.invokestatic 98, 3) := by decide +kernel
theorem dX11_point_20 : decode cX11_point 20 = .ok (.ifCond .eq 7, 3) := by decide +kernel
theorem dX11_point_23 : decode cX11_point 23 = .ok (.iconst 1, 1) := by decide +kernel
theorem dX11_point_24 : decode cX11_point 24 = .ok (.goto 35, 3) := by decide +kernel
theorem dX11_point_27 : decode cX11_point 27 = .ok (.iload 4, 2) := by decide +kernel
theorem dX11_point_29 : decode cX11_point 29 = .ok (.ifCond .lt 25, 3) := by decide +kernel
theorem dX11_point_32 : decode cX11_point 32 = .ok (.aload_n 0, 1) := by decide +kernel
theorem dX11_point_33 : decode cX11_point 33 = .ok (.getfield 13, 3) := by decide +kernel
theorem dX11_point_36 : decode cX11_point 36 = .ok (.iload 4, 2) := by decide +kernel
theorem dX11_point_38 : decode cX11_point 38 = .ok (.iaload, 1) := by decide +kernel
theorem dX11_point_39 : decode cX11_point 39 = .ok (.ifCond .eq 15, 3) := by decide +kernel
theorem dX11_point_42 : decode cX11_point 42 = .ok (.aload_n 0, 1) := by decide +kernel
theorem dX11_point_43 : decode cX11_point 43 = .ok (.getfield 16, 3) := by decide +kernel
theorem dX11_point_46 : decode cX11_point 46 = .ok (.iload 4, 2) := by decide +kernel
theorem dX11_point_48 : decode cX11_point 48 = .ok (.iaload, 1) := by decide +kernel
theorem dX11_point_49 : decode cX11_point 49 = .ok (.bipush 16, 2) := by decide +kernel
theorem dX11_point_51 : decode cX11_point 51 = .ok (.if_icmp .ne 7, 3) := by decide +kernel
theorem dX11_point_54 : decode cX11_point 54 = .ok (.iconst 2, 1) := by decide +kernel
theorem dX11_point_55 : decode cX11_point 55 = .ok (.goto 4, 3) := by decide +kernel
theorem dX11_point_58 : decode cX11_point 58 = .ok (.iconst 0, 1) := by decide +kernel
theorem dX11_point_59 : decode cX11_point 59 = .ok (.putfield 83, 3) := by decide +kernel
theorem dX11_point_62 : decode cX11_point 62 = .ok (.aload_n 0, 1) := by decide +kernel
theorem dX11_point_63 : decode cX11_point 63 = .ok (.getfield 83, 3) := by decide +kernel
theorem dX11_point_66 : decode cX11_point 66 = .ok (.ifCond .le 5, 3) := by decide +kernel
theorem dX11_point_69 : decode cX11_point 69 = .ok (.iconst 0, 1) := by decide +kernel
theorem dX11_point_70 : decode cX11_point 70 = .ok (.ireturn, 1) := by decide +kernel
theorem dX11_point_71 : decode cX11_point 71 = .ok (.bipush 16, 2) := by decide +kernel
theorem dX11_point_73 : decode cX11_point 73 = .ok (.iload 4, 2) := by decide +kernel
theorem dX11_point_75 : decode cX11_point 75 = .ok (.imul, 1) := by decide +kernel
theorem dX11_point_76 : decode cX11_point 76 = .ok (.aload_n 0, 1) := by decide +kernel
theorem dX11_point_77 : decode cX11_point 77 = .ok (.getfield 16, 3) := by decide +kernel
theorem dX11_point_80 : decode cX11_point 80 = .ok (.iload 4, 2) := by decide +kernel
theorem dX11_point_82 : decode cX11_point 82 = .ok (.iaload, 1) := by decide +kernel
theorem dX11_point_83 : decode cX11_point 83 = .ok (.iadd, 1) := by decide +kernel
theorem dX11_point_84 : decode cX11_point 84 = .ok (.istore 5, 2) := by decide +kernel
theorem dX11_point_86 : decode cX11_point 86 = .ok (.aload_n 0, 1) := by decide +kernel
theorem dX11_point_87 : decode cX11_point 87 = .ok (.getfield 19, 3) := by decide +kernel
theorem dX11_point_90 : decode cX11_point 90 = .ok (.iload 5, 2) := by decide +kernel
theorem dX11_point_92 : decode cX11_point 92 = .ok (.iload_n 1, 1) := by decide +kernel
theorem dX11_point_93 : decode cX11_point 93 = .ok (.iastore, 1) := by decide +kernel
theorem dX11_point_94 : decode cX11_point 94 = .ok (.aload_n 0, 1) := by decide +kernel
theorem dX11_point_95 : decode cX11_point 95 = .ok (.getfield 22, 3) := by decide +kernel
theorem dX11_point_98 : decode cX11_point 98 = .ok (.iload 5, 2) := by decide +kernel
theorem dX11_point_100 : decode cX11_point 100 = .ok (.iload_n 2, 1) := by decide +kernel
theorem dX11_point_101 : decode cX11_point 101 = .ok (.iastore, 1) := by decide +kernel
theorem dX11_point_102 : decode cX11_point 102 = .ok (.aload_n 0, 1) := by decide +kernel
theorem dX11_point_103 : decode cX11_point 103 = .ok (.getfield 25, 3) := by decide +kernel
theorem dX11_point_106 : decode cX11_point 106 = .ok (.iload 5, 2) := by decide +kernel
theorem dX11_point_108 : decode cX11_point 108 = .ok (.iload_n 3, 1) := by decide +kernel
theorem dX11_point_109 : decode cX11_point 109 = .ok (.bastore, 1) := by decide +kernel
theorem dX11_point_110 : decode cX11_point 110 = .ok (.aload_n 0, 1) := by decide +kernel
theorem dX11_point_111 : decode cX11_point 111 = .ok (.getfield 29, 3) := by decide +kernel
theorem dX11_point_114 : decode cX11_point 114 = .ok (.iload 5, 2) := by decide +kernel
theorem dX11_point_116 : decode cX11_point 116 = .ok (.aload_n 0, 1) := by decide +kernel
theorem dX11_point_117 : decode cX11_point 117 = .ok (.getfield 13, 3) := by decide +kernel
theorem dX11_point_120 : decode cX11_point 120 = .ok (.iload 4, 2) := by decide +kernel
theorem dX11_point_122 : decode cX11_point 122 = .ok (.iaload, 1) := by decide +kernel
theorem dX11_point_123 : decode cX11_point 123 = .ok (.iconst 1, 1) := by decide +kernel
theorem dX11_point_124 : decode cX11_point 124 = .ok (.isub, 1) := by decide +kernel
theorem dX11_point_125 : decode cX11_point 125 = .ok (.iastore, 1) := by decide +kernel
theorem dX11_point_126 : decode cX11_point 126 = .ok (.aload_n 0, 1) := by decide +kernel
theorem dX11_point_127 : decode cX11_point 127 = .ok (.getfield 16, 3) := by decide +kernel
theorem dX11_point_130 : decode cX11_point 130 = .ok (.iload 4, 2) := by decide +kernel
theorem dX11_point_132 : decode cX11_point 132 = .ok (.dup2, 1) := by decide +kernel
theorem dX11_point_133 : decode cX11_point 133 = .ok (.iaload, 1) := by decide +kernel
theorem dX11_point_134 : decode cX11_point 134 = .ok (.iconst 1, 1) := by decide +kernel
theorem dX11_point_135 : decode cX11_point 135 = .ok (.iadd, 1) := by decide +kernel
theorem dX11_point_136 : decode cX11_point 136 = .ok (.iastore, 1) := by decide +kernel
theorem dX11_point_137 : decode cX11_point 137 = .ok (.aload_n 0, 1) := by decide +kernel
theorem dX11_point_138 : decode cX11_point 138 = .ok (.getfield 16, 3) := by decide +kernel
theorem dX11_point_141 : decode cX11_point 141 = .ok (.iload 4, 2) := by decide +kernel
theorem dX11_point_143 : decode cX11_point 143 = .ok (.iaload, 1) := by decide +kernel
theorem dX11_point_144 : decode cX11_point 144 = .ok (.iconst 1, 1) := by decide +kernel
theorem dX11_point_145 : decode cX11_point 145 = .ok (.isub, 1) := by decide +kernel
theorem dX11_point_146 : decode cX11_point 146 = .ok (.ireturn, 1) := by decide +kernel
theorem dX11_table_0 : decode cX11_table 0 = .ok (.aload_n 0, 1) := by decide +kernel
theorem dX11_table_1 : decode cX11_table 1 = .ok (.iload_n 1, 1) := by decide +kernel
theorem dX11_table_2 : decode cX11_table 2 = .ok (.iconst 2, 1) := by decide +kernel
theorem dX11_table_3 : decode cX11_table 3 = .ok (.if_icmp .lt 22, 3) := by decide +kernel
theorem dX11_table_6 : decode cX11_table 6 = .ok (.iload_n 1, 1) := by decide +kernel
theorem dX11_table_7 : decode cX11_table 7 = .ok (.bipush 6, 2) := by decide +kernel
theorem dX11_table_9 : decode cX11_table 9 = .ok (.if_icmp .gt 16, 3) := by decide +kernel
theorem dX11_table_12 : decode cX11_table 12 = .ok (.iload 4, 2) := by decide +kernel
theorem dX11_table_14 : decode cX11_table 14 = .ok (.iconst 1, 1) := by decide +kernel
theorem dX11_table_15 : decode cX11_table 15 = .ok (.if_icmp .lt 10, 3) := by decide +kernel
theorem dX11_table_18 : decode cX11_table 18 = .ok (.iload 4, 2) := by decide +kernel
theorem dX11_table_20 : decode cX11_table 20 = .ok (.bipush 8, 2) := by decide +kernel
theorem dX11_table_22 : decode cX11_table 22 = .ok (.if_icmp .le 7, 3) := by decide +kernel
theorem dX11_table_25 : decode cX11_table 25 = .ok (.iconst 1, 1) := by decide +kernel
theorem dX11_table_26 : decode cX11_table 26 = .ok (.goto 22, 3) := by decide +kernel
theorem dX11_table_29 : decode cX11_table 29 = .ok (.aload_n 0, 1) := by decide +kernel
theorem dX11_table_30 : decode cX11_table 30 = .ok (.getfield 32, 3) := by decide +kernel
theorem dX11_table_33 : decode cX11_table 33 = .ok (.iload_n 1, 1) := by decide +kernel
theorem dX11_table_34 : decode cX11_table 34 = .ok (.iaload, 1) := by decide +kernel
theorem dX11_table_35 : decode cX11_table 35 = .ok (.iload 4, 2) := by decide +kernel
theorem dX11_table_37 : decode cX11_table 37 = .ok (.iadd, 1) := by decide +kernel
theorem dX11_table_38 : decode cX11_table 38 = .ok (.bipush 20, 2) := by decide +kernel
theorem dX11_table_40 : decode cX11_table 40 = .ok (.if_icmp .le 7, 3) := by decide +kernel
theorem dX11_table_43 : decode cX11_table 43 = .ok (.iconst 2, 1) := by decide +kernel
theorem dX11_table_44 : decode cX11_table 44 = .ok (.goto 4, 3) := by decide +kernel
theorem dX11_table_47 : decode cX11_table 47 = .ok (.iconst 0, 1) := by decide +kernel
theorem dX11_table_48 : decode cX11_table 48 = .ok (.putfield 83, 3) := by decide +kernel
theorem dX11_table_51 : decode cX11_table 51 = .ok (.aload_n 0, 1) := by decide +kernel
theorem dX11_table_52 : decode cX11_table 52 = .ok (.getfield 83, 3) := by decide +kernel
theorem dX11_table_55 : decode cX11_table 55 = .ok (.ifCond .le 5, 3) := by decide +kernel
theorem dX11_table_58 : decode cX11_table 58 = .ok (.iconst 0, 1) := by decide +kernel
theorem dX11_table_59 : decode cX11_table 59 = .ok (.ireturn, 1) := by decide +kernel
theorem dX11_table_60 : decode cX11_table 60 = .ok (.iload 4, 2) := by decide +kernel
theorem dX11_table_62 : decode cX11_table 62 = .ok (.iconst 1, 1) := by decide +kernel
theorem dX11_table_63 : decode cX11_table 63 = .ok (.isub, 1) := by decide +kernel
theorem dX11_table_64 : decode cX11_table 64 = .ok (.istore 5, 2) := by decide +kernel
theorem dX11_table_66 : decode cX11_table 66 = .ok (.iload 5, 2) := by decide +kernel
theorem dX11_table_68 : decode cX11_table 68 = .ok (.ifCond .lt 47, 3) := by decide +kernel
theorem dX11_table_71 : decode cX11_table 71 = .ok (.aload_n 0, 1) := by decide +kernel
theorem dX11_table_72 : decode cX11_table 72 = .ok (.getfield 35, 3) := by decide +kernel
theorem dX11_table_75 : decode cX11_table 75 = .ok (.bipush 20, 2) := by decide +kernel
theorem dX11_table_77 : decode cX11_table 77 = .ok (.iload_n 1, 1) := by decide +kernel
theorem dX11_table_78 : decode cX11_table 78 = .ok (.imul, 1) := by decide +kernel
theorem dX11_table_79 : decode cX11_table 79 = .ok (.aload_n 0, 1) := by decide +kernel
theorem dX11_table_80 : decode cX11_table 80 = .ok (.getfield 32, 3) := by decide +kernel
theorem dX11_table_83 : decode cX11_table 83 = .ok (.iload_n 1, 1) := by decide +kernel
theorem dX11_table_84 : decode cX11_table 84 = .ok (.iaload, 1) := by decide +kernel
theorem dX11_table_85 : decode cX11_table 85 = .ok (.iadd, 1) := by decide +kernel
theorem dX11_table_86 : decode cX11_table 86 = .ok (.lload_n 2, 1) := by decide +kernel
theorem dX11_table_87 : decode cX11_table 87 = .ok (.bipush 8, 2) := by decide +kernel
theorem dX11_table_89 : decode cX11_table 89 = .ok (.iload 5, 2) := by decide +kernel
theorem dX11_table_91 : decode cX11_table 91 = .ok (.imul, 1) := by decide +kernel
theorem dX11_table_92 : decode cX11_table 92 = .ok (.lshr, 1) := by decide +kernel
theorem dX11_table_93 : decode cX11_table 93 = .ok (.ldc2_w 102, 3) := by decide +kernel
theorem dX11_table_96 : decode cX11_table 96 = .ok (.land, 1) := by decide +kernel
theorem dX11_table_97 : decode cX11_table 97 = .ok (.l2i, 1) := by decide +kernel
theorem dX11_table_98 : decode cX11_table 98 = .ok (.iastore, 1) := by decide +kernel
theorem dX11_table_99 : decode cX11_table 99 = .ok (.aload_n 0, 1) := by decide +kernel
theorem dX11_table_100 : decode cX11_table 100 = .ok (.getfield 32, 3) := by decide +kernel
theorem dX11_table_103 : decode cX11_table 103 = .ok (.iload_n 1, 1) := by decide +kernel
theorem dX11_table_104 : decode cX11_table 104 = .ok (.dup2, 1) := by decide +kernel
theorem dX11_table_105 : decode cX11_table 105 = .ok (.iaload, 1) := by decide +kernel
theorem dX11_table_106 : decode cX11_table 106 = .ok (.iconst 1, 1) := by decide +kernel
theorem dX11_table_107 : decode cX11_table 107 = .ok (.iadd, 1) := by decide +kernel
theorem dX11_table_108 : decode cX11_table 108 = .ok (.iastore, 1) := by decide +kernel
theorem dX11_table_109 : decode cX11_table 109 = .ok (.iinc 5 (-1), 3) := by decide +kernel
theorem dX11_table_112 : decode cX11_table 112 = .ok (.goto (-46), 3) := by decide +kernel
theorem dX11_table_115 : decode cX11_table 115 = .ok (.aload_n 0, 1) := by decide +kernel
theorem dX11_table_116 : decode cX11_table 116 = .ok (.getfield 32, 3) := by decide +kernel
theorem dX11_table_119 : decode cX11_table 119 = .ok (.iload_n 1, 1) := by decide +kernel
theorem dX11_table_120 : decode cX11_table 120 = .ok (.iaload, 1) := by decide +kernel
theorem dX11_table_121 : decode cX11_table 121 = .ok (.ireturn, 1) := by decide +kernel
theorem dX11_clear_0 : decode cX11_clear 0 = .ok (.aload_n 0, 1) := by decide +kernel
theorem dX11_clear_1 : decode cX11_clear 1 = .ok (.iconst 0, 1) := by decide +kernel
theorem dX11_clear_2 : decode cX11_clear 2 = .ok (.putfield 83, 3) := by decide +kernel
theorem dX11_clear_5 : decode cX11_clear 5 = .ok (.aload_n 0, 1) := by decide +kernel
theorem dX11_clear_6 : decode cX11_clear 6 = .ok (.iconst 0, 1) := by decide +kernel
theorem dX11_clear_7 : decode cX11_clear 7 = .ok (.putfield 87, 3) := by decide +kernel
theorem dX11_clear_10 : decode cX11_clear 10 = .ok (.iconst 0, 1) := by decide +kernel
theorem dX11_clear_11 : decode cX11_clear 11 = .ok (.istore_n 1, 1) := by decide +kernel
theorem dX11_clear_12 : decode cX11_clear 12 = .ok (.iload_n 1, 1) := by decide +kernel
theorem dX11_clear_13 : decode cX11_clear 13 = .ok (.bipush 7, 2) := by decide +kernel
theorem dX11_clear_15 : decode cX11_clear 15 = .ok (.if_icmp .ge 16, 3) := by decide +kernel
theorem dX11_clear_18 : decode cX11_clear 18 = .ok (.aload_n 0, 1) := by decide +kernel
theorem dX11_clear_19 : decode cX11_clear 19 = .ok (.getfield 32, 3) := by decide +kernel
theorem dX11_clear_22 : decode cX11_clear 22 = .ok (.iload_n 1, 1) := by decide +kernel
theorem dX11_clear_23 : decode cX11_clear 23 = .ok (.iconst 0, 1) := by decide +kernel
theorem dX11_clear_24 : decode cX11_clear 24 = .ok (.iastore, 1) := by decide +kernel
theorem dX11_clear_25 : decode cX11_clear 25 = .ok (.iinc 1 1, 3) := by decide +kernel
theorem dX11_clear_28 : decode cX11_clear 28 = .ok (.goto (-16), 3) := by decide +kernel
theorem dX11_clear_31 : decode cX11_clear 31 = .ok (.return_, 1) := by decide +kernel
theorem dX11_has_0 : decode cX11_has 0 = .ok (.iload_n 1, 1) := by decide +kernel
theorem dX11_has_1 : decode cX11_has 1 = .ok (.iconst 2, 1) := by decide +kernel
theorem dX11_has_2 : decode cX11_has 2 = .ok (.if_icmp .ge 18, 3) := by decide +kernel
theorem dX11_has_5 : decode cX11_has 5 = .ok (.aload_n 0, 1) := by decide +kernel
theorem dX11_has_6 : decode cX11_has 6 = .ok (.getfield 87, 3) := by decide +kernel
theorem dX11_has_9 : decode cX11_has 9 = .ok (.ifCond .le 7, 3) := by decide +kernel
theorem dX11_has_12 : decode cX11_has 12 = .ok (.iconst 1, 1) := by decide +kernel
theorem dX11_has_13 : decode cX11_has 13 = .ok (.goto 21, 3) := by decide +kernel
theorem dX11_has_16 : decode cX11_has 16 = .ok (.iconst 0, 1) := by decide +kernel
theorem dX11_has_17 : decode cX11_has 17 = .ok (.goto 17, 3) := by decide +kernel
theorem dX11_has_20 : decode cX11_has 20 = .ok (.aload_n 0, 1) := by decide +kernel
theorem dX11_has_21 : decode cX11_has 21 = .ok (.getfield 32, 3) := by decide +kernel
theorem dX11_has_24 : decode cX11_has 24 = .ok (.iload_n 1, 1) := by decide +kernel
theorem dX11_has_25 : decode cX11_has 25 = .ok (.iaload, 1) := by decide +kernel
theorem dX11_has_26 : decode cX11_has 26 = .ok (.ifCond .le 7, 3) := by decide +kernel
theorem dX11_has_29 : decode cX11_has 29 = .ok (.iconst 1, 1) := by decide +kernel
theorem dX11_has_30 : decode cX11_has 30 = .ok (.goto 4, 3) := by decide +kernel
theorem dX11_has_33 : decode cX11_has 33 = .ok (.iconst 0, 1) := by decide +kernel
theorem dX11_has_34 : decode cX11_has 34 = .ok (.ireturn, 1) := by decide +kernel
theorem dX11_tables_0 : decode cX11_tables 0 = .ok (.iconst 0, 1) := by decide +kernel
theorem dX11_tables_1 : decode cX11_tables 1 = .ok (.istore_n 1, 1) := by decide +kernel
theorem dX11_tables_2 : decode cX11_tables 2 = .ok (.iconst 0, 1) := by decide +kernel
theorem dX11_tables_3 : decode cX11_tables 3 = .ok (.istore_n 2, 1) := by decide +kernel
theorem dX11_tables_4 : decode cX11_tables 4 = .ok (.iload_n 2, 1) := by decide +kernel
theorem dX11_tables_5 : decode cX11_tables 5 = .ok (.bipush 7, 2) := by decide +kernel
theorem dX11_tables_7 : decode cX11_tables 7 = .ok (.if_icmp .ge 25, 3) := by decide +kernel
theorem dX11_tables_10 : decode cX11_tables 10 = .ok (.aload_n 0, 1) := by decide +kernel
theorem dX11_tables_11 : decode cX11_tables 11 = .ok (.iload_n 2, 1) := by decide +kernel
theorem dX11_tables_12 : decode cX11_tables 12 = .ok (.invokevirtual 104, 3) := by decide +kernel
theorem dX11_tables_15 : decode cX11_tables 15 = .ok (.ifCond .eq 9, 3) := by decide +kernel
theorem dX11_tables_18 : decode cX11_tables 18 = .ok (.iload_n 1, 1) := by decide +kernel
theorem dX11_tables_19 : decode cX11_tables 19 = .ok (.iconst 1, 1) := by decide +kernel
theorem dX11_tables_20 : decode cX11_tables 20 = .ok (.iadd, 1) := by decide +kernel
theorem dX11_tables_21 : decode cX11_tables 21 = .ok (.goto 4, 3) := by decide +kernel
theorem dX11_tables_24 : decode cX11_tables 24 = .ok (.iload_n 1, 1) := by decide +kernel
theorem dX11_tables_25 : decode cX11_tables 25 = .ok (.istore_n 1, 1) := by decide +kernel
theorem dX11_tables_26 : decode cX11_tables 26 = .ok (.iinc 2 1, 3) := by decide +kernel
theorem dX11_tables_29 : decode cX11_tables 29 = .ok (.goto (-25), 3) := by decide +kernel
theorem dX11_tables_32 : decode cX11_tables 32 = .ok (.iload_n 1, 1) := by decide +kernel
theorem dX11_tables_33 : decode cX11_tables 33 = .ok (.ireturn, 1) := by decide +kernel
theorem dX11_lay_0 : decode cX11_lay 0 = .ok (.aload_n 0, 1) := by decide +kernel
theorem dX11_lay_1 : decode cX11_lay 1 = .ok (.getfield 74, 3) := by decide +kernel
theorem dX11_lay_4 : decode cX11_lay 4 = .ok (.aload_n 0, 1) := by decide +kernel
theorem dX11_lay_5 : decode cX11_lay 5 = .ok (.getfield 107, 3) := by decide +kernel
theorem dX11_lay_8 : decode cX11_lay 8 = .ok (.iload_n 1, 1) := by decide +kernel
theorem dX11_lay_9 : decode cX11_lay 9 = .ok (.sipush 255, 3) := by decide +kernel
theorem dX11_lay_12 : decode cX11_lay 12 = .ok (.iand, 1) := by decide +kernel
theorem dX11_lay_13 : decode cX11_lay 13 = .ok (.iastore, 1) := by decide +kernel
theorem dX11_lay_14 : decode cX11_lay 14 = .ok (.aload_n 0, 1) := by decide +kernel
theorem dX11_lay_15 : decode cX11_lay 15 = .ok (.dup, 1) := by decide +kernel
theorem dX11_lay_16 : decode cX11_lay 16 = .ok (.getfield 107, 3) := by decide +kernel
theorem dX11_lay_19 : decode cX11_lay 19 = .ok (.iconst 1, 1) := by decide +kernel
theorem dX11_lay_20 : decode cX11_lay 20 = .ok (.iadd, 1) := by decide +kernel
theorem dX11_lay_21 : decode cX11_lay 21 = .ok (.putfield 107, 3) := by decide +kernel
theorem dX11_lay_24 : decode cX11_lay 24 = .ok (.return_, 1) := by decide +kernel
theorem dX11_stepX_0 : decode cX11_stepX 0 = .ok (.aload_n 0, 1) := by decide +kernel
theorem dX11_stepX_1 : decode cX11_stepX 1 = .ok (.getfield 19, 3) := by decide +kernel
theorem dX11_stepX_4 : decode cX11_stepX 4 = .ok (.bipush 16, 2) := by decide +kernel
theorem dX11_stepX_6 : decode cX11_stepX 6 = .ok (.iload_n 1, 1) := by decide +kernel
theorem dX11_stepX_7 : decode cX11_stepX 7 = .ok (.imul, 1) := by decide +kernel
theorem dX11_stepX_8 : decode cX11_stepX 8 = .ok (.iload_n 2, 1) := by decide +kernel
theorem dX11_stepX_9 : decode cX11_stepX 9 = .ok (.iadd, 1) := by decide +kernel
theorem dX11_stepX_10 : decode cX11_stepX 10 = .ok (.iaload, 1) := by decide +kernel
theorem dX11_stepX_11 : decode cX11_stepX 11 = .ok (.iload_n 2, 1) := by decide +kernel
theorem dX11_stepX_12 : decode cX11_stepX 12 = .ok (.ifCond .le 19, 3) := by decide +kernel
theorem dX11_stepX_15 : decode cX11_stepX 15 = .ok (.aload_n 0, 1) := by decide +kernel
theorem dX11_stepX_16 : decode cX11_stepX 16 = .ok (.getfield 19, 3) := by decide +kernel
theorem dX11_stepX_19 : decode cX11_stepX 19 = .ok (.bipush 16, 2) := by decide +kernel
theorem dX11_stepX_21 : decode cX11_stepX 21 = .ok (.iload_n 1, 1) := by decide +kernel
theorem dX11_stepX_22 : decode cX11_stepX 22 = .ok (.imul, 1) := by decide +kernel
theorem dX11_stepX_23 : decode cX11_stepX 23 = .ok (.iload_n 2, 1) := by decide +kernel
theorem dX11_stepX_24 : decode cX11_stepX 24 = .ok (.iadd, 1) := by decide +kernel
theorem dX11_stepX_25 : decode cX11_stepX 25 = .ok (.iconst 1, 1) := by decide +kernel
theorem dX11_stepX_26 : decode cX11_stepX 26 = .ok (.isub, 1) := by decide +kernel
theorem dX11_stepX_27 : decode cX11_stepX 27 = .ok (.iaload, 1) := by decide +kernel
theorem dX11_stepX_28 : decode cX11_stepX 28 = .ok (.goto 4, 3) := by decide +kernel
theorem dX11_stepX_31 : decode cX11_stepX 31 = .ok (.iconst 0, 1) := by decide +kernel
theorem dX11_stepX_32 : decode cX11_stepX 32 = .ok (.isub, 1) := by decide +kernel
theorem dX11_stepX_33 : decode cX11_stepX 33 = .ok (.ireturn, 1) := by decide +kernel
theorem dX11_stepY_0 : decode cX11_stepY 0 = .ok (.aload_n 0, 1) := by decide +kernel
theorem dX11_stepY_1 : decode cX11_stepY 1 = .ok (.getfield 22, 3) := by decide +kernel
theorem dX11_stepY_4 : decode cX11_stepY 4 = .ok (.bipush 16, 2) := by decide +kernel
theorem dX11_stepY_6 : decode cX11_stepY 6 = .ok (.iload_n 1, 1) := by decide +kernel
theorem dX11_stepY_7 : decode cX11_stepY 7 = .ok (.imul, 1) := by decide +kernel
theorem dX11_stepY_8 : decode cX11_stepY 8 = .ok (.iload_n 2, 1) := by decide +kernel
theorem dX11_stepY_9 : decode cX11_stepY 9 = .ok (.iadd, 1) := by decide +kernel
theorem dX11_stepY_10 : decode cX11_stepY 10 = .ok (.iaload, 1) := by decide +kernel
theorem dX11_stepY_11 : decode cX11_stepY 11 = .ok (.iload_n 2, 1) := by decide +kernel
theorem dX11_stepY_12 : decode cX11_stepY 12 = .ok (.ifCond .le 19, 3) := by decide +kernel
theorem dX11_stepY_15 : decode cX11_stepY 15 = .ok (.aload_n 0, 1) := by decide +kernel
theorem dX11_stepY_16 : decode cX11_stepY 16 = .ok (.getfield 22, 3) := by decide +kernel
theorem dX11_stepY_19 : decode cX11_stepY 19 = .ok (.bipush 16, 2) := by decide +kernel
theorem dX11_stepY_21 : decode cX11_stepY 21 = .ok (.iload_n 1, 1) := by decide +kernel
theorem dX11_stepY_22 : decode cX11_stepY 22 = .ok (.imul, 1) := by decide +kernel
theorem dX11_stepY_23 : decode cX11_stepY 23 = .ok (.iload_n 2, 1) := by decide +kernel
theorem dX11_stepY_24 : decode cX11_stepY 24 = .ok (.iadd, 1) := by decide +kernel
theorem dX11_stepY_25 : decode cX11_stepY 25 = .ok (.iconst 1, 1) := by decide +kernel
theorem dX11_stepY_26 : decode cX11_stepY 26 = .ok (.isub, 1) := by decide +kernel
theorem dX11_stepY_27 : decode cX11_stepY 27 = .ok (.iaload, 1) := by decide +kernel
theorem dX11_stepY_28 : decode cX11_stepY 28 = .ok (.goto 4, 3) := by decide +kernel
theorem dX11_stepY_31 : decode cX11_stepY 31 = .ok (.iconst 0, 1) := by decide +kernel
theorem dX11_stepY_32 : decode cX11_stepY 32 = .ok (.isub, 1) := by decide +kernel
theorem dX11_stepY_33 : decode cX11_stepY 33 = .ok (.ireturn, 1) := by decide +kernel
theorem dX11_flag_0 : decode cX11_flag 0 = .ok (.aload_n 0, 1) := by decide +kernel
theorem dX11_flag_1 : decode cX11_flag 1 = .ok (.iload_n 1, 1) := by decide +kernel
theorem dX11_flag_2 : decode cX11_flag 2 = .ok (.iload_n 2, 1) := by decide +kernel
theorem dX11_flag_3 : decode cX11_flag 3 = .ok (.invokevirtual 110, 3) := by decide +kernel
theorem dX11_flag_6 : decode cX11_flag 6 = .ok (.istore_n 3, 1) := by decide +kernel
theorem dX11_flag_7 : decode cX11_flag 7 = .ok (.aload_n 0, 1) := by decide +kernel
theorem dX11_flag_8 : decode cX11_flag 8 = .ok (.iload_n 1, 1) := by decide +kernel
theorem dX11_flag_9 : decode cX11_flag 9 = .ok (.iload_n 2, 1) := by decide +kernel
theorem dX11_flag_10 : decode cX11_flag 10 = .ok (.invokevirtual 114, 3) := by decide +kernel
theorem dX11_flag_13 : decode cX11_flag 13 = .ok (.istore 4, 2) := by decide +kernel
theorem dX11_flag_15 : decode cX11_flag 15 = .ok (.aload_n 0, 1) := by decide +kernel
theorem dX11_flag_16 : decode cX11_flag 16 = .ok (.getfield 25, 3) := by decide +kernel
theorem dX11_flag_19 : decode cX11_flag 19 = .ok (.bipush 16, 2) := by decide +kernel
theorem dX11_flag_21 : decode cX11_flag 21 = .ok (.iload_n 1, 1) := by decide +kernel
theorem dX11_flag_22 : decode cX11_flag 22 = .ok (.imul, 1) := by decide +kernel
theorem dX11_flag_23 : decode cX11_flag 23 = .ok (.iload_n 2, 1) := by decide +kernel
theorem dX11_flag_24 : decode cX11_flag 24 = .ok (.iadd, 1) := by decide +kernel
theorem dX11_flag_25 : decode cX11_flag 25 = .ok (.baload, 1) := by decide +kernel
theorem dX11_flag_26 : decode cX11_flag 26 = .ok (.ifCond .eq 7, 3) := by decide +kernel
theorem dX11_flag_29 : decode cX11_flag 29 = .ok (.iconst 1, 1) := by decide +kernel
theorem dX11_flag_30 : decode cX11_flag 30 = .ok (.goto 4, 3) := by decide +kernel
theorem dX11_flag_33 : decode cX11_flag 33 = .ok (.iconst 0, 1) := by decide +kernel
theorem dX11_flag_34 : decode cX11_flag 34 = .ok (.istore 5, 2) := by decide +kernel
theorem dX11_flag_36 : decode cX11_flag 36 = .ok (.iload_n 3, 1) := by decide +kernel
theorem dX11_flag_37 : decode cX11_flag 37 = .ok (.ifCond .ne 13, 3) := by decide +kernel
theorem dX11_flag_40 : decode cX11_flag 40 = .ok (.iload 5, 2) := by decide +kernel
theorem dX11_flag_42 : decode cX11_flag 42 = .ok (.bipush 16, 2) := by decide +kernel
theorem dX11_flag_44 : decode cX11_flag 44 = .ok (.iadd, 1) := by decide +kernel
theorem dX11_flag_45 : decode cX11_flag 45 = .ok (.istore 5, 2) := by decide +kernel
theorem dX11_flag_47 : decode cX11_flag 47 = .ok (.goto 28, 3) := by decide +kernel
theorem dX11_flag_50 : decode cX11_flag 50 = .ok (.iload_n 3, 1) := by decide +kernel
theorem dX11_flag_51 : decode cX11_flag 51 = .ok (.invokestatic 117, 3) := by decide +kernel
theorem dX11_flag_54 : decode cX11_flag 54 = .ok (.sipush 256, 3) := by decide +kernel
theorem dX11_flag_57 : decode cX11_flag 57 = .ok (.if_icmp .ge 18, 3) := by decide +kernel
theorem dX11_flag_60 : decode cX11_flag 60 = .ok (.iload 5, 2) := by decide +kernel
theorem dX11_flag_62 : decode cX11_flag 62 = .ok (.iload_n 3, 1) := by decide +kernel
theorem dX11_flag_63 : decode cX11_flag 63 = .ok (.ifCond .le 8, 3) := by decide +kernel
