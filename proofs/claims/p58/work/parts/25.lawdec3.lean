theorem dL_bundles_0 : decode cL_bundles 0 = .ok (.new 29, 3) := by decide +kernel
theorem dL_bundles_3 : decode cL_bundles 3 = .ok (.dup, 1) := by decide +kernel
theorem dL_bundles_4 : decode cL_bundles 4 = .ok (.invokespecial 179, 3) := by decide +kernel
theorem dL_bundles_7 : decode cL_bundles 7 = .ok (.astore_n 0, 1) := by decide +kernel
theorem dL_bundles_8 : decode cL_bundles 8 = .ok (.aload_n 0, 1) := by decide +kernel
theorem dL_bundles_9 : decode cL_bundles 9 = .ok (.bipush 10, 2) := by decide +kernel
theorem dL_bundles_11 : decode cL_bundles 11 = .ok (.iconst 0, 1) := by decide +kernel
theorem dL_bundles_12 : decode cL_bundles 12 = .ok (.iconst 0, 1) := by decide +kernel
theorem dL_bundles_13 : decode cL_bundles 13 = .ok (.iconst 0, 1) := by decide +kernel
theorem dL_bundles_14 : decode cL_bundles 14 = .ok (.iconst 0, 1) := by decide +kernel
theorem dL_bundles_15 : decode cL_bundles 15 = .ok (.invokestatic 161, 3) := by decide +kernel
theorem dL_bundles_18 : decode cL_bundles 18 = .ok (.sipush (-2013), 3) := by decide +kernel
theorem dL_bundles_21 : decode cL_bundles 21 = .ok (.if_icmp .ne 442, 3) := by decide +kernel
theorem dL_bundles_24 : decode cL_bundles 24 = .ok (.aload_n 0, 1) := by decide +kernel
theorem dL_bundles_25 : decode cL_bundles 25 = .ok (.bipush 11, 2) := by decide +kernel
theorem dL_bundles_27 : decode cL_bundles 27 = .ok (.iconst 0, 1) := by decide +kernel
theorem dL_bundles_28 : decode cL_bundles 28 = .ok (.iconst 0, 1) := by decide +kernel
theorem dL_bundles_29 : decode cL_bundles 29 = .ok (.iconst 0, 1) := by decide +kernel
theorem dL_bundles_30 : decode cL_bundles 30 = .ok (.iconst 0, 1) := by decide +kernel
theorem dL_bundles_31 : decode cL_bundles 31 = .ok (.invokestatic 161, 3) := by decide +kernel
theorem dL_bundles_34 : decode cL_bundles 34 = .ok (.sipush (-2013), 3) := by decide +kernel
theorem dL_bundles_37 : decode cL_bundles 37 = .ok (.if_icmp .ne 426, 3) := by decide +kernel
theorem dL_bundles_40 : decode cL_bundles 40 = .ok (.aload_n 0, 1) := by decide +kernel
theorem dL_bundles_41 : decode cL_bundles 41 = .ok (.invokevirtual 180, 3) := by decide +kernel
theorem dL_bundles_44 : decode cL_bundles 44 = .ok (.ifCond .ne 419, 3) := by decide +kernel
theorem dL_bundles_47 : decode cL_bundles 47 = .ok (.aload_n 0, 1) := by decide +kernel
theorem dL_bundles_48 : decode cL_bundles 48 = .ok (.invokevirtual 143, 3) := by decide +kernel
theorem dL_bundles_51 : decode cL_bundles 51 = .ok (.ifCond .ne 412, 3) := by decide +kernel
theorem dL_bundles_54 : decode cL_bundles 54 = .ok (.aload_n 0, 1) := by decide +kernel
theorem dL_bundles_55 : decode cL_bundles 55 = .ok (.invokevirtual 146, 3) := by decide +kernel
theorem dL_bundles_58 : decode cL_bundles 58 = .ok (.ifCond .ne 405, 3) := by decide +kernel
theorem dL_bundles_61 : decode cL_bundles 61 = .ok (.aload_n 0, 1) := by decide +kernel
theorem dL_bundles_62 : decode cL_bundles 62 = .ok (.invokevirtual 149, 3) := by decide +kernel
theorem dL_bundles_65 : decode cL_bundles 65 = .ok (.iconst (-1), 1) := by decide +kernel
theorem dL_bundles_66 : decode cL_bundles 66 = .ok (.if_icmp .ne 397, 3) := by decide +kernel
theorem dL_bundles_69 : decode cL_bundles 69 = .ok (.aload_n 0, 1) := by decide +kernel
theorem dL_bundles_70 : decode cL_bundles 70 = .ok (.invokevirtual 183, 3) := by decide +kernel
theorem dL_bundles_73 : decode cL_bundles 73 = .ok (.dconst 0, 1) := by decide +kernel
theorem dL_bundles_74 : decode cL_bundles 74 = .ok (.dcmp .l, 1) := by decide +kernel
theorem dL_bundles_75 : decode cL_bundles 75 = .ok (.ifCond .ne 388, 3) := by decide +kernel
theorem dL_bundles_78 : decode cL_bundles 78 = .ok (.aload_n 0, 1) := by decide +kernel
theorem dL_bundles_79 : decode cL_bundles 79 = .ok (.invokevirtual 187, 3) := by decide +kernel
theorem dL_bundles_82 : decode cL_bundles 82 = .ok (.ifCond .eq 381, 3) := by decide +kernel
theorem dL_bundles_85 : decode cL_bundles 85 = .ok (.aload_n 0, 1) := by decide +kernel
theorem dL_bundles_86 : decode cL_bundles 86 = .ok (.invokevirtual 155, 3) := by decide +kernel
theorem dL_bundles_89 : decode cL_bundles 89 = .ok (.iconst 1, 1) := by decide +kernel
theorem dL_bundles_90 : decode cL_bundles 90 = .ok (.if_icmp .ne 373, 3) := by decide +kernel
theorem dL_bundles_93 : decode cL_bundles 93 = .ok (.aload_n 0, 1) := by decide +kernel
theorem dL_bundles_94 : decode cL_bundles 94 = .ok (.invokevirtual 191, 3) := by decide +kernel
theorem dL_bundles_97 : decode cL_bundles 97 = .ok (.iconst 1, 1) := by decide +kernel
theorem dL_bundles_98 : decode cL_bundles 98 = .ok (.if_icmp .ne 365, 3) := by decide +kernel
theorem dL_bundles_101 : decode cL_bundles 101 = .ok (.aload_n 0, 1) := by decide +kernel
theorem dL_bundles_102 : decode cL_bundles 102 = .ok (.invokevirtual 194, 3) := by decide +kernel
theorem dL_bundles_105 : decode cL_bundles 105 = .ok (.iconst 2, 1) := by decide +kernel
theorem dL_bundles_106 : decode cL_bundles 106 = .ok (.if_icmp .ne 357, 3) := by decide +kernel
theorem dL_bundles_109 : decode cL_bundles 109 = .ok (.aload_n 0, 1) := by decide +kernel
theorem dL_bundles_110 : decode cL_bundles 110 = .ok (.invokevirtual 158, 3) := by decide +kernel
theorem dL_bundles_113 : decode cL_bundles 113 = .ok (.ifCond .ne 350, 3) := by decide +kernel
theorem dL_bundles_116 : decode cL_bundles 116 = .ok (.aload_n 0, 1) := by decide +kernel
theorem dL_bundles_117 : decode cL_bundles 117 = .ok (.invokevirtual 197, 3) := by decide +kernel
theorem dL_bundles_120 : decode cL_bundles 120 = .ok (.ifCond .ne 343, 3) := by decide +kernel
theorem dL_bundles_123 : decode cL_bundles 123 = .ok (.aload_n 0, 1) := by decide +kernel
theorem dL_bundles_124 : decode cL_bundles 124 = .ok (.bipush 20, 2) := by decide +kernel
theorem dL_bundles_126 : decode cL_bundles 126 = .ok (.invokevirtual 127, 3) := by decide +kernel
theorem dL_bundles_129 : decode cL_bundles 129 = .ok (.ifCond .ne 334, 3) := by decide +kernel
theorem dL_bundles_132 : decode cL_bundles 132 = .ok (.aload_n 0, 1) := by decide +kernel
theorem dL_bundles_133 : decode cL_bundles 133 = .ok (.invokevirtual 200, 3) := by decide +kernel
theorem dL_bundles_136 : decode cL_bundles 136 = .ok (.ifCond .ne 327, 3) := by decide +kernel
theorem dL_bundles_139 : decode cL_bundles 139 = .ok (.aload_n 0, 1) := by decide +kernel
theorem dL_bundles_140 : decode cL_bundles 140 = .ok (.invokestatic 203, 3) := by decide +kernel
theorem dL_bundles_143 : decode cL_bundles 143 = .ok (.ifCond .eq 320, 3) := by decide +kernel
theorem dL_bundles_146 : decode cL_bundles 146 = .ok (.aload_n 0, 1) := by decide +kernel
theorem dL_bundles_147 : decode cL_bundles 147 = .ok (.ldc2_w 207, 3) := by decide +kernel
theorem dL_bundles_150 : decode cL_bundles 150 = .ok (.invokestatic 209, 3) := by decide +kernel
theorem dL_bundles_153 : decode cL_bundles 153 = .ok (.ifCond .eq 310, 3) := by decide +kernel
theorem dL_bundles_156 : decode cL_bundles 156 = .ok (.aload_n 0, 1) := by decide +kernel
theorem dL_bundles_157 : decode cL_bundles 157 = .ok (.ldc2_w 213, 3) := by decide +kernel
theorem dL_bundles_160 : decode cL_bundles 160 = .ok (.invokestatic 209, 3) := by decide +kernel
theorem dL_bundles_163 : decode cL_bundles 163 = .ok (.ifCond .eq 300, 3) := by decide +kernel
theorem dL_bundles_166 : decode cL_bundles 166 = .ok (.aload_n 0, 1) := by decide +kernel
theorem dL_bundles_167 : decode cL_bundles 167 = .ok (.ldc2_w 215, 3) := by decide +kernel
theorem dL_bundles_170 : decode cL_bundles 170 = .ok (.invokestatic 209, 3) := by decide +kernel
theorem dL_bundles_173 : decode cL_bundles 173 = .ok (.ifCond .eq 290, 3) := by decide +kernel
theorem dL_bundles_176 : decode cL_bundles 176 = .ok (.aload_n 0, 1) := by decide +kernel
theorem dL_bundles_177 : decode cL_bundles 177 = .ok (.ldc2_w 217, 3) := by decide +kernel
theorem dL_bundles_180 : decode cL_bundles 180 = .ok (.invokestatic 209, 3) := by decide +kernel
theorem dL_bundles_183 : decode cL_bundles 183 = .ok (.ifCond .eq 280, 3) := by decide +kernel
theorem dL_bundles_186 : decode cL_bundles 186 = .ok (.aload_n 0, 1) := by decide +kernel
theorem dL_bundles_187 : decode cL_bundles 187 = .ok (.invokevirtual 60, 3) := by decide +kernel
theorem dL_bundles_190 : decode cL_bundles 190 = .ok (.iconst 5, 1) := by decide +kernel
theorem dL_bundles_191 : decode cL_bundles 191 = .ok (.if_icmp .ne 272, 3) := by decide +kernel
theorem dL_bundles_194 : decode cL_bundles 194 = .ok (.aload_n 0, 1) := by decide +kernel
theorem dL_bundles_195 : decode cL_bundles 195 = .ok (.invokevirtual 219, 3) := by decide +kernel
theorem dL_bundles_198 : decode cL_bundles 198 = .ok (.ifCond .ne 265, 3) := by decide +kernel
theorem dL_bundles_201 : decode cL_bundles 201 = .ok (.aload_n 0, 1) := by decide +kernel
theorem dL_bundles_202 : decode cL_bundles 202 = .ok (.iconst 0, 1) := by decide +kernel
theorem dL_bundles_203 : decode cL_bundles 203 = .ok (.iconst 1, 1) := by decide +kernel
theorem dL_bundles_204 : decode cL_bundles 204 = .ok (.invokevirtual 94, 3) := by decide +kernel
theorem dL_bundles_207 : decode cL_bundles 207 = .ok (.iconst 1, 1) := by decide +kernel
theorem dL_bundles_208 : decode cL_bundles 208 = .ok (.if_icmp .ne 255, 3) := by decide +kernel
theorem dL_bundles_211 : decode cL_bundles 211 = .ok (.aload_n 0, 1) := by decide +kernel
theorem dL_bundles_212 : decode cL_bundles 212 = .ok (.iconst 1, 1) := by decide +kernel
theorem dL_bundles_213 : decode cL_bundles 213 = .ok (.iconst 2, 1) := by decide +kernel
theorem dL_bundles_214 : decode cL_bundles 214 = .ok (.invokevirtual 94, 3) := by decide +kernel
theorem dL_bundles_217 : decode cL_bundles 217 = .ok (.iconst 1, 1) := by decide +kernel
theorem dL_bundles_218 : decode cL_bundles 218 = .ok (.if_icmp .ne 245, 3) := by decide +kernel
theorem dL_bundles_221 : decode cL_bundles 221 = .ok (.aload_n 0, 1) := by decide +kernel
theorem dL_bundles_222 : decode cL_bundles 222 = .ok (.iconst 2, 1) := by decide +kernel
theorem dL_bundles_223 : decode cL_bundles 223 = .ok (.iconst 3, 1) := by decide +kernel
theorem dL_bundles_224 : decode cL_bundles 224 = .ok (.invokevirtual 94, 3) := by decide +kernel
theorem dL_bundles_227 : decode cL_bundles 227 = .ok (.iconst 3, 1) := by decide +kernel
theorem dL_bundles_228 : decode cL_bundles 228 = .ok (.if_icmp .ne 235, 3) := by decide +kernel
theorem dL_bundles_231 : decode cL_bundles 231 = .ok (.aload_n 0, 1) := by decide +kernel
theorem dL_bundles_232 : decode cL_bundles 232 = .ok (.iconst 0, 1) := by decide +kernel
theorem dL_bundles_233 : decode cL_bundles 233 = .ok (.iconst 3, 1) := by decide +kernel
theorem dL_bundles_234 : decode cL_bundles 234 = .ok (.invokevirtual 94, 3) := by decide +kernel
theorem dL_bundles_237 : decode cL_bundles 237 = .ok (.iconst 1, 1) := by decide +kernel
theorem dL_bundles_238 : decode cL_bundles 238 = .ok (.if_icmp .ne 225, 3) := by decide +kernel
theorem dL_bundles_241 : decode cL_bundles 241 = .ok (.aload_n 0, 1) := by decide +kernel
theorem dL_bundles_242 : decode cL_bundles 242 = .ok (.iconst 3, 1) := by decide +kernel
theorem dL_bundles_243 : decode cL_bundles 243 = .ok (.iconst 4, 1) := by decide +kernel
theorem dL_bundles_244 : decode cL_bundles 244 = .ok (.invokevirtual 94, 3) := by decide +kernel
theorem dL_bundles_247 : decode cL_bundles 247 = .ok (.iconst 1, 1) := by decide +kernel
theorem dL_bundles_248 : decode cL_bundles 248 = .ok (.if_icmp .ne 215, 3) := by decide +kernel
theorem dL_bundles_251 : decode cL_bundles 251 = .ok (.aload_n 0, 1) := by decide +kernel
theorem dL_bundles_252 : decode cL_bundles 252 = .ok (.iconst 0, 1) := by decide +kernel
theorem dL_bundles_253 : decode cL_bundles 253 = .ok (.iconst 4, 1) := by decide +kernel
theorem dL_bundles_254 : decode cL_bundles 254 = .ok (.invokevirtual 94, 3) := by decide +kernel
theorem dL_bundles_257 : decode cL_bundles 257 = .ok (.iconst 1, 1) := by decide +kernel
theorem dL_bundles_258 : decode cL_bundles 258 = .ok (.if_icmp .ne 205, 3) := by decide +kernel
theorem dL_bundles_261 : decode cL_bundles 261 = .ok (.aload_n 0, 1) := by decide +kernel
theorem dL_bundles_262 : decode cL_bundles 262 = .ok (.iconst 0, 1) := by decide +kernel
theorem dL_bundles_263 : decode cL_bundles 263 = .ok (.iconst 2, 1) := by decide +kernel
theorem dL_bundles_264 : decode cL_bundles 264 = .ok (.invokevirtual 94, 3) := by decide +kernel
theorem dL_bundles_267 : decode cL_bundles 267 = .ok (.bipush (-99), 2) := by decide +kernel
theorem dL_bundles_269 : decode cL_bundles 269 = .ok (.if_icmp .ne 194, 3) := by decide +kernel
theorem dL_bundles_272 : decode cL_bundles 272 = .ok (.aload_n 0, 1) := by decide +kernel
theorem dL_bundles_273 : decode cL_bundles 273 = .ok (.iconst 2, 1) := by decide +kernel
theorem dL_bundles_274 : decode cL_bundles 274 = .ok (.iconst 4, 1) := by decide +kernel
theorem dL_bundles_275 : decode cL_bundles 275 = .ok (.invokevirtual 94, 3) := by decide +kernel
theorem dL_bundles_278 : decode cL_bundles 278 = .ok (.bipush (-99), 2) := by decide +kernel
theorem dL_bundles_280 : decode cL_bundles 280 = .ok (.if_icmp .ne 183, 3) := by decide +kernel
theorem dL_bundles_283 : decode cL_bundles 283 = .ok (.aload_n 0, 1) := by decide +kernel
theorem dL_bundles_284 : decode cL_bundles 284 = .ok (.iconst 4, 1) := by decide +kernel
theorem dL_bundles_285 : decode cL_bundles 285 = .ok (.iconst 3, 1) := by decide +kernel
theorem dL_bundles_286 : decode cL_bundles 286 = .ok (.invokevirtual 94, 3) := by decide +kernel
theorem dL_bundles_289 : decode cL_bundles 289 = .ok (.bipush (-99), 2) := by decide +kernel
theorem dL_bundles_291 : decode cL_bundles 291 = .ok (.if_icmp .ne 172, 3) := by decide +kernel
theorem dL_bundles_294 : decode cL_bundles 294 = .ok (.aload_n 0, 1) := by decide +kernel
theorem dL_bundles_295 : decode cL_bundles 295 = .ok (.iconst 3, 1) := by decide +kernel
theorem dL_bundles_296 : decode cL_bundles 296 = .ok (.iconst 3, 1) := by decide +kernel
theorem dL_bundles_297 : decode cL_bundles 297 = .ok (.invokevirtual 94, 3) := by decide +kernel
theorem dL_bundles_300 : decode cL_bundles 300 = .ok (.bipush (-99), 2) := by decide +kernel
theorem dL_bundles_302 : decode cL_bundles 302 = .ok (.if_icmp .ne 161, 3) := by decide +kernel
theorem dL_bundles_305 : decode cL_bundles 305 = .ok (.aload_n 0, 1) := by decide +kernel
theorem dL_bundles_306 : decode cL_bundles 306 = .ok (.iconst 1, 1) := by decide +kernel
theorem dL_bundles_307 : decode cL_bundles 307 = .ok (.iconst 0, 1) := by decide +kernel
theorem dL_bundles_308 : decode cL_bundles 308 = .ok (.invokevirtual 97, 3) := by decide +kernel
theorem dL_bundles_311 : decode cL_bundles 311 = .ok (.ifCond .ne 152, 3) := by decide +kernel
theorem dL_bundles_314 : decode cL_bundles 314 = .ok (.aload_n 0, 1) := by decide +kernel
theorem dL_bundles_315 : decode cL_bundles 315 = .ok (.iconst 3, 1) := by decide +kernel
theorem dL_bundles_316 : decode cL_bundles 316 = .ok (.iconst 0, 1) := by decide +kernel
theorem dL_bundles_317 : decode cL_bundles 317 = .ok (.invokevirtual 97, 3) := by decide +kernel
theorem dL_bundles_320 : decode cL_bundles 320 = .ok (.ifCond .ne 143, 3) := by decide +kernel
theorem dL_bundles_323 : decode cL_bundles 323 = .ok (.aload_n 0, 1) := by decide +kernel
theorem dL_bundles_324 : decode cL_bundles 324 = .ok (.iconst 3, 1) := by decide +kernel
theorem dL_bundles_325 : decode cL_bundles 325 = .ok (.iconst 2, 1) := by decide +kernel
theorem dL_bundles_326 : decode cL_bundles 326 = .ok (.invokevirtual 97, 3) := by decide +kernel
theorem dL_bundles_329 : decode cL_bundles 329 = .ok (.bipush (-2), 2) := by decide +kernel
theorem dL_bundles_331 : decode cL_bundles 331 = .ok (.if_icmp .ne 132, 3) := by decide +kernel
theorem dL_bundles_334 : decode cL_bundles 334 = .ok (.aload_n 0, 1) := by decide +kernel
theorem dL_bundles_335 : decode cL_bundles 335 = .ok (.iconst 0, 1) := by decide +kernel
theorem dL_bundles_336 : decode cL_bundles 336 = .ok (.iconst 1, 1) := by decide +kernel
theorem dL_bundles_337 : decode cL_bundles 337 = .ok (.invokevirtual 97, 3) := by decide +kernel
theorem dL_bundles_340 : decode cL_bundles 340 = .ok (.bipush (-99), 2) := by decide +kernel
theorem dL_bundles_342 : decode cL_bundles 342 = .ok (.if_icmp .ne 121, 3) := by decide +kernel
theorem dL_bundles_345 : decode cL_bundles 345 = .ok (.aload_n 0, 1) := by decide +kernel
theorem dL_bundles_346 : decode cL_bundles 346 = .ok (.iconst 4, 1) := by decide +kernel
theorem dL_bundles_347 : decode cL_bundles 347 = .ok (.iconst 4, 1) := by decide +kernel
theorem dL_bundles_348 : decode cL_bundles 348 = .ok (.invokevirtual 97, 3) := by decide +kernel
theorem dL_bundles_351 : decode cL_bundles 351 = .ok (.iconst 1, 1) := by decide +kernel
theorem dL_bundles_352 : decode cL_bundles 352 = .ok (.if_icmp .ne 111, 3) := by decide +kernel
theorem dL_bundles_355 : decode cL_bundles 355 = .ok (.aload_n 0, 1) := by decide +kernel
theorem dL_bundles_356 : decode cL_bundles 356 = .ok (.iconst 3, 1) := by decide +kernel
theorem dL_bundles_357 : decode cL_bundles 357 = .ok (.iconst 3, 1) := by decide +kernel
theorem dL_bundles_358 : decode cL_bundles 358 = .ok (.invokevirtual 97, 3) := by decide +kernel
theorem dL_bundles_361 : decode cL_bundles 361 = .ok (.iconst 1, 1) := by decide +kernel
theorem dL_bundles_362 : decode cL_bundles 362 = .ok (.if_icmp .ne 101, 3) := by decide +kernel
theorem dL_bundles_365 : decode cL_bundles 365 = .ok (.aload_n 0, 1) := by decide +kernel
theorem dL_bundles_366 : decode cL_bundles 366 = .ok (.iconst 3, 1) := by decide +kernel
theorem dL_bundles_367 : decode cL_bundles 367 = .ok (.iconst 4, 1) := by decide +kernel
theorem dL_bundles_368 : decode cL_bundles 368 = .ok (.invokevirtual 97, 3) := by decide +kernel
theorem dL_bundles_371 : decode cL_bundles 371 = .ok (.iconst 1, 1) := by decide +kernel
theorem dL_bundles_372 : decode cL_bundles 372 = .ok (.if_icmp .ne 91, 3) := by decide +kernel
theorem dL_bundles_375 : decode cL_bundles 375 = .ok (.aload_n 0, 1) := by decide +kernel
theorem dL_bundles_376 : decode cL_bundles 376 = .ok (.iconst 4, 1) := by decide +kernel
theorem dL_bundles_377 : decode cL_bundles 377 = .ok (.iconst 3, 1) := by decide +kernel
theorem dL_bundles_378 : decode cL_bundles 378 = .ok (.invokevirtual 97, 3) := by decide +kernel
theorem dL_bundles_381 : decode cL_bundles 381 = .ok (.ifCond .ne 82, 3) := by decide +kernel
theorem dL_bundles_384 : decode cL_bundles 384 = .ok (.aload_n 0, 1) := by decide +kernel
theorem dL_bundles_385 : decode cL_bundles 385 = .ok (.iconst 3, 1) := by decide +kernel
theorem dL_bundles_386 : decode cL_bundles 386 = .ok (.invokevirtual 73, 3) := by decide +kernel
theorem dL_bundles_389 : decode cL_bundles 389 = .ok (.iconst 5, 1) := by decide +kernel
theorem dL_bundles_390 : decode cL_bundles 390 = .ok (.if_icmp .ne 73, 3) := by decide +kernel
theorem dL_bundles_393 : decode cL_bundles 393 = .ok (.aload_n 0, 1) := by decide +kernel
theorem dL_bundles_394 : decode cL_bundles 394 = .ok (.iconst 3, 1) := by decide +kernel
theorem dL_bundles_395 : decode cL_bundles 395 = .ok (.invokevirtual 76, 3) := by decide +kernel
theorem dL_bundles_398 : decode cL_bundles 398 = .ok (.iconst (-1), 1) := by decide +kernel
theorem dL_bundles_399 : decode cL_bundles 399 = .ok (.if_icmp .ne 64, 3) := by decide +kernel
theorem dL_bundles_402 : decode cL_bundles 402 = .ok (.aload_n 0, 1) := by decide +kernel
theorem dL_bundles_403 : decode cL_bundles 403 = .ok (.iconst 0, 1) := by decide +kernel
theorem dL_bundles_404 : decode cL_bundles 404 = .ok (.invokevirtual 73, 3) := by decide +kernel
theorem dL_bundles_407 : decode cL_bundles 407 = .ok (.ifCond .ne 56, 3) := by decide +kernel
theorem dL_bundles_410 : decode cL_bundles 410 = .ok (.aload_n 0, 1) := by decide +kernel
theorem dL_bundles_411 : decode cL_bundles 411 = .ok (.invokevirtual 146, 3) := by decide +kernel
theorem dL_bundles_414 : decode cL_bundles 414 = .ok (.iconst 1, 1) := by decide +kernel
theorem dL_bundles_415 : decode cL_bundles 415 = .ok (.if_icmp .ne 48, 3) := by decide +kernel
theorem dL_bundles_418 : decode cL_bundles 418 = .ok (.aload_n 0, 1) := by decide +kernel
theorem dL_bundles_419 : decode cL_bundles 419 = .ok (.invokevirtual 149, 3) := by decide +kernel
theorem dL_bundles_422 : decode cL_bundles 422 = .ok (.ifCond .ne 41, 3) := by decide +kernel
theorem dL_bundles_425 : decode cL_bundles 425 = .ok (.aload_n 0, 1) := by decide +kernel
theorem dL_bundles_426 : decode cL_bundles 426 = .ok (.invokevirtual 187, 3) := by decide +kernel
theorem dL_bundles_429 : decode cL_bundles 429 = .ok (.ifCond .ne 34, 3) := by decide +kernel
theorem dL_bundles_432 : decode cL_bundles 432 = .ok (.aload_n 0, 1) := by decide +kernel
theorem dL_bundles_433 : decode cL_bundles 433 = .ok (.invokevirtual 152, 3) := by decide +kernel
theorem dL_bundles_436 : decode cL_bundles 436 = .ok (.bipush 7, 2) := by decide +kernel
theorem dL_bundles_438 : decode cL_bundles 438 = .ok (.if_icmp .ne 25, 3) := by decide +kernel
theorem dL_bundles_441 : decode cL_bundles 441 = .ok (.aload_n 0, 1) := by decide +kernel
theorem dL_bundles_442 : decode cL_bundles 442 = .ok (.invokevirtual 143, 3) := by decide +kernel
theorem dL_bundles_445 : decode cL_bundles 445 = .ok (.ifCond .ne 18, 3) := by decide +kernel
theorem dL_bundles_448 : decode cL_bundles 448 = .ok (.aload_n 0, 1) := by decide +kernel
theorem dL_bundles_449 : decode cL_bundles 449 = .ok (.invokevirtual 222, 3) := by decide +kernel
theorem dL_bundles_452 : decode cL_bundles 452 = .ok (.iconst 5, 1) := by decide +kernel
theorem dL_bundles_453 : decode cL_bundles 453 = .ok (.if_icmp .ne 10, 3) := by decide +kernel
theorem dL_bundles_456 : decode cL_bundles 456 = .ok (.aload_n 0, 1) := by decide +kernel
theorem dL_bundles_457 : decode cL_bundles 457 = .ok (.invokestatic 203, 3) := by decide +kernel
theorem dL_bundles_460 : decode cL_bundles 460 = .ok (.ifCond .ne 5, 3) := by decide +kernel
theorem dL_bundles_463 : decode cL_bundles 463 = .ok (.iconst 0, 1) := by decide +kernel
theorem dL_bundles_464 : decode cL_bundles 464 = .ok (.ireturn, 1) := by decide +kernel
theorem dL_bundles_465 : decode cL_bundles 465 = .ok (.aload_n 0, 1) := by decide +kernel
theorem dL_bundles_466 : decode cL_bundles 466 = .ok (.invokevirtual 180, 3) := by decide +kernel
theorem dL_bundles_469 : decode cL_bundles 469 = .ok (.bipush 7, 2) := by decide +kernel
theorem dL_bundles_471 : decode cL_bundles 471 = .ok (.if_icmp .ne 362, 3) := by decide +kernel
theorem dL_bundles_474 : decode cL_bundles 474 = .ok (.aload_n 0, 1) := by decide +kernel
theorem dL_bundles_475 : decode cL_bundles 475 = .ok (.iconst 0, 1) := by decide +kernel
theorem dL_bundles_476 : decode cL_bundles 476 = .ok (.iconst 1, 1) := by decide +kernel
theorem dL_bundles_477 : decode cL_bundles 477 = .ok (.bipush 8, 2) := by decide +kernel
theorem dL_bundles_479 : decode cL_bundles 479 = .ok (.iconst 0, 1) := by decide +kernel
theorem dL_bundles_480 : decode cL_bundles 480 = .ok (.iconst 0, 1) := by decide +kernel
theorem dL_bundles_481 : decode cL_bundles 481 = .ok (.iconst 0, 1) := by decide +kernel
theorem dL_bundles_482 : decode cL_bundles 482 = .ok (.invokestatic 225, 3) := by decide +kernel
theorem dL_bundles_485 : decode cL_bundles 485 = .ok (.ifCond .eq 348, 3) := by decide +kernel
theorem dL_bundles_488 : decode cL_bundles 488 = .ok (.aload_n 0, 1) := by decide +kernel
theorem dL_bundles_489 : decode cL_bundles 489 = .ok (.iconst 1, 1) := by decide +kernel
theorem dL_bundles_490 : decode cL_bundles 490 = .ok (.iconst 1, 1) := by decide +kernel
theorem dL_bundles_491 : decode cL_bundles 491 = .ok (.bipush 7, 2) := by decide +kernel
theorem dL_bundles_493 : decode cL_bundles 493 = .ok (.iconst 1, 1) := by decide +kernel
theorem dL_bundles_494 : decode cL_bundles 494 = .ok (.iconst 1, 1) := by decide +kernel
theorem dL_bundles_495 : decode cL_bundles 495 = .ok (.iconst 1, 1) := by decide +kernel
theorem dL_bundles_496 : decode cL_bundles 496 = .ok (.invokestatic 225, 3) := by decide +kernel
theorem dL_bundles_499 : decode cL_bundles 499 = .ok (.ifCond .eq 334, 3) := by decide +kernel
theorem dL_bundles_502 : decode cL_bundles 502 = .ok (.aload_n 0, 1) := by decide +kernel
theorem dL_bundles_503 : decode cL_bundles 503 = .ok (.iconst 2, 1) := by decide +kernel
theorem dL_bundles_504 : decode cL_bundles 504 = .ok (.iconst 3, 1) := by decide +kernel
theorem dL_bundles_505 : decode cL_bundles 505 = .ok (.bipush 6, 2) := by decide +kernel
theorem dL_bundles_507 : decode cL_bundles 507 = .ok (.iconst 2, 1) := by decide +kernel
theorem dL_bundles_508 : decode cL_bundles 508 = .ok (.iconst 2, 1) := by decide +kernel
theorem dL_bundles_509 : decode cL_bundles 509 = .ok (.iconst 2, 1) := by decide +kernel
theorem dL_bundles_510 : decode cL_bundles 510 = .ok (.invokestatic 225, 3) := by decide +kernel
theorem dL_bundles_513 : decode cL_bundles 513 = .ok (.ifCond .eq 320, 3) := by decide +kernel
theorem dL_bundles_516 : decode cL_bundles 516 = .ok (.aload_n 0, 1) := by decide +kernel
theorem dL_bundles_517 : decode cL_bundles 517 = .ok (.iconst 3, 1) := by decide +kernel
theorem dL_bundles_518 : decode cL_bundles 518 = .ok (.iconst 1, 1) := by decide +kernel
theorem dL_bundles_519 : decode cL_bundles 519 = .ok (.iconst 3, 1) := by decide +kernel
theorem dL_bundles_520 : decode cL_bundles 520 = .ok (.iconst 5, 1) := by decide +kernel
theorem dL_bundles_521 : decode cL_bundles 521 = .ok (.iconst 5, 1) := by decide +kernel
theorem dL_bundles_522 : decode cL_bundles 522 = .ok (.iconst 5, 1) := by decide +kernel
theorem dL_bundles_523 : decode cL_bundles 523 = .ok (.invokestatic 225, 3) := by decide +kernel
theorem dL_bundles_526 : decode cL_bundles 526 = .ok (.ifCond .eq 307, 3) := by decide +kernel
theorem dL_bundles_529 : decode cL_bundles 529 = .ok (.aload_n 0, 1) := by decide +kernel
theorem dL_bundles_530 : decode cL_bundles 530 = .ok (.iconst 4, 1) := by decide +kernel
theorem dL_bundles_531 : decode cL_bundles 531 = .ok (.iconst 2, 1) := by decide +kernel
theorem dL_bundles_532 : decode cL_bundles 532 = .ok (.iconst 2, 1) := by decide +kernel
theorem dL_bundles_533 : decode cL_bundles 533 = .ok (.bipush 6, 2) := by decide +kernel
theorem dL_bundles_535 : decode cL_bundles 535 = .ok (.bipush 6, 2) := by decide +kernel
theorem dL_bundles_537 : decode cL_bundles 537 = .ok (.bipush 6, 2) := by decide +kernel
theorem dL_bundles_539 : decode cL_bundles 539 = .ok (.invokestatic 225, 3) := by decide +kernel
theorem dL_bundles_542 : decode cL_bundles 542 = .ok (.ifCond .eq 291, 3) := by decide +kernel
theorem dL_bundles_545 : decode cL_bundles 545 = .ok (.aload_n 0, 1) := by decide +kernel
theorem dL_bundles_546 : decode cL_bundles 546 = .ok (.invokevirtual 229, 3) := by decide +kernel
theorem dL_bundles_549 : decode cL_bundles 549 = .ok (.bipush 8, 2) := by decide +kernel
theorem dL_bundles_551 : decode cL_bundles 551 = .ok (.if_icmp .ne 282, 3) := by decide +kernel
theorem dL_bundles_554 : decode cL_bundles 554 = .ok (.aload_n 0, 1) := by decide +kernel
theorem dL_bundles_555 : decode cL_bundles 555 = .ok (.invokevirtual 200, 3) := by decide +kernel
theorem dL_bundles_558 : decode cL_bundles 558 = .ok (.bipush 8, 2) := by decide +kernel
theorem dL_bundles_560 : decode cL_bundles 560 = .ok (.if_icmp .ne 273, 3) := by decide +kernel
theorem dL_bundles_563 : decode cL_bundles 563 = .ok (.aload_n 0, 1) := by decide +kernel
theorem dL_bundles_564 : decode cL_bundles 564 = .ok (.invokevirtual 146, 3) := by decide +kernel
theorem dL_bundles_567 : decode cL_bundles 567 = .ok (.ifCond .ne 266, 3) := by decide +kernel
theorem dL_bundles_570 : decode cL_bundles 570 = .ok (.aload_n 0, 1) := by decide +kernel
theorem dL_bundles_571 : decode cL_bundles 571 = .ok (.invokevirtual 187, 3) := by decide +kernel
theorem dL_bundles_574 : decode cL_bundles 574 = .ok (.ifCond .eq 259, 3) := by decide +kernel
theorem dL_bundles_577 : decode cL_bundles 577 = .ok (.aload_n 0, 1) := by decide +kernel
theorem dL_bundles_578 : decode cL_bundles 578 = .ok (.invokevirtual 183, 3) := by decide +kernel
theorem dL_bundles_581 : decode cL_bundles 581 = .ok (.ldc2_w 232, 3) := by decide +kernel
theorem dL_bundles_584 : decode cL_bundles 584 = .ok (.dcmp .l, 1) := by decide +kernel
theorem dL_bundles_585 : decode cL_bundles 585 = .ok (.ifCond .ne 248, 3) := by decide +kernel
theorem dL_bundles_588 : decode cL_bundles 588 = .ok (.aload_n 0, 1) := by decide +kernel
theorem dL_bundles_589 : decode cL_bundles 589 = .ok (.iconst 5, 1) := by decide +kernel
theorem dL_bundles_590 : decode cL_bundles 590 = .ok (.invokevirtual 124, 3) := by decide +kernel
theorem dL_bundles_593 : decode cL_bundles 593 = .ok (.bipush 8, 2) := by decide +kernel
theorem dL_bundles_595 : decode cL_bundles 595 = .ok (.if_icmp .ne 238, 3) := by decide +kernel
theorem dL_bundles_598 : decode cL_bundles 598 = .ok (.aload_n 0, 1) := by decide +kernel
theorem dL_bundles_599 : decode cL_bundles 599 = .ok (.iconst 3, 1) := by decide +kernel
theorem dL_bundles_600 : decode cL_bundles 600 = .ok (.invokevirtual 124, 3) := by decide +kernel
theorem dL_bundles_603 : decode cL_bundles 603 = .ok (.ifCond .ne 230, 3) := by decide +kernel
theorem dL_bundles_606 : decode cL_bundles 606 = .ok (.aload_n 0, 1) := by decide +kernel
theorem dL_bundles_607 : decode cL_bundles 607 = .ok (.iconst 2, 1) := by decide +kernel
theorem dL_bundles_608 : decode cL_bundles 608 = .ok (.invokevirtual 100, 3) := by decide +kernel
theorem dL_bundles_611 : decode cL_bundles 611 = .ok (.bipush 100, 2) := by decide +kernel
theorem dL_bundles_613 : decode cL_bundles 613 = .ok (.if_icmp .ne 220, 3) := by decide +kernel
theorem dL_bundles_616 : decode cL_bundles 616 = .ok (.aload_n 0, 1) := by decide +kernel
theorem dL_bundles_617 : decode cL_bundles 617 = .ok (.iconst 3, 1) := by decide +kernel
theorem dL_bundles_618 : decode cL_bundles 618 = .ok (.invokevirtual 103, 3) := by decide +kernel
theorem dL_bundles_621 : decode cL_bundles 621 = .ok (.bipush 100, 2) := by decide +kernel
theorem dL_bundles_623 : decode cL_bundles 623 = .ok (.if_icmp .ne 210, 3) := by decide +kernel
theorem dL_bundles_626 : decode cL_bundles 626 = .ok (.aload_n 0, 1) := by decide +kernel
theorem dL_bundles_627 : decode cL_bundles 627 = .ok (.iconst 5, 1) := by decide +kernel
theorem dL_bundles_628 : decode cL_bundles 628 = .ok (.invokevirtual 109, 3) := by decide +kernel
theorem dL_bundles_631 : decode cL_bundles 631 = .ok (.bipush 100, 2) := by decide +kernel
theorem dL_bundles_633 : decode cL_bundles 633 = .ok (.if_icmp .ne 200, 3) := by decide +kernel
theorem dL_bundles_636 : decode cL_bundles 636 = .ok (.aload_n 0, 1) := by decide +kernel
theorem dL_bundles_637 : decode cL_bundles 637 = .ok (.iconst 5, 1) := by decide +kernel
theorem dL_bundles_638 : decode cL_bundles 638 = .ok (.invokevirtual 106, 3) := by decide +kernel
theorem dL_bundles_641 : decode cL_bundles 641 = .ok (.bipush 100, 2) := by decide +kernel
theorem dL_bundles_643 : decode cL_bundles 643 = .ok (.if_icmp .ne 190, 3) := by decide +kernel
theorem dL_bundles_646 : decode cL_bundles 646 = .ok (.aload_n 0, 1) := by decide +kernel
theorem dL_bundles_647 : decode cL_bundles 647 = .ok (.iconst 0, 1) := by decide +kernel
theorem dL_bundles_648 : decode cL_bundles 648 = .ok (.iconst 0, 1) := by decide +kernel
theorem dL_bundles_649 : decode cL_bundles 649 = .ok (.invokevirtual 112, 3) := by decide +kernel
theorem dL_bundles_652 : decode cL_bundles 652 = .ok (.ifCond .ne 181, 3) := by decide +kernel
theorem dL_bundles_655 : decode cL_bundles 655 = .ok (.aload_n 0, 1) := by decide +kernel
theorem dL_bundles_656 : decode cL_bundles 656 = .ok (.iconst 1, 1) := by decide +kernel
theorem dL_bundles_657 : decode cL_bundles 657 = .ok (.iconst 0, 1) := by decide +kernel
theorem dL_bundles_658 : decode cL_bundles 658 = .ok (.invokevirtual 112, 3) := by decide +kernel
theorem dL_bundles_661 : decode cL_bundles 661 = .ok (.iconst 5, 1) := by decide +kernel
theorem dL_bundles_662 : decode cL_bundles 662 = .ok (.if_icmp .ne 171, 3) := by decide +kernel
theorem dL_bundles_665 : decode cL_bundles 665 = .ok (.aload_n 0, 1) := by decide +kernel
theorem dL_bundles_666 : decode cL_bundles 666 = .ok (.iconst 4, 1) := by decide +kernel
theorem dL_bundles_667 : decode cL_bundles 667 = .ok (.iconst 2, 1) := by decide +kernel
theorem dL_bundles_668 : decode cL_bundles 668 = .ok (.invokevirtual 112, 3) := by decide +kernel
theorem dL_bundles_671 : decode cL_bundles 671 = .ok (.ifCond .ne 162, 3) := by decide +kernel
theorem dL_bundles_674 : decode cL_bundles 674 = .ok (.aload_n 0, 1) := by decide +kernel
theorem dL_bundles_675 : decode cL_bundles 675 = .ok (.iconst 5, 1) := by decide +kernel
theorem dL_bundles_676 : decode cL_bundles 676 = .ok (.iconst 2, 1) := by decide +kernel
theorem dL_bundles_677 : decode cL_bundles 677 = .ok (.invokevirtual 112, 3) := by decide +kernel
theorem dL_bundles_680 : decode cL_bundles 680 = .ok (.bipush 100, 2) := by decide +kernel
theorem dL_bundles_682 : decode cL_bundles 682 = .ok (.if_icmp .ne 151, 3) := by decide +kernel
theorem dL_bundles_685 : decode cL_bundles 685 = .ok (.aload_n 0, 1) := by decide +kernel
theorem dL_bundles_686 : decode cL_bundles 686 = .ok (.bipush 7, 2) := by decide +kernel
theorem dL_bundles_688 : decode cL_bundles 688 = .ok (.iconst 3, 1) := by decide +kernel
theorem dL_bundles_689 : decode cL_bundles 689 = .ok (.invokevirtual 112, 3) := by decide +kernel
theorem dL_bundles_692 : decode cL_bundles 692 = .ok (.ifCond .ne 141, 3) := by decide +kernel
theorem dL_bundles_695 : decode cL_bundles 695 = .ok (.aload_n 0, 1) := by decide +kernel
theorem dL_bundles_696 : decode cL_bundles 696 = .ok (.bipush 8, 2) := by decide +kernel
theorem dL_bundles_698 : decode cL_bundles 698 = .ok (.iconst 3, 1) := by decide +kernel
theorem dL_bundles_699 : decode cL_bundles 699 = .ok (.invokevirtual 112, 3) := by decide +kernel
theorem dL_bundles_702 : decode cL_bundles 702 = .ok (.bipush 100, 2) := by decide +kernel
theorem dL_bundles_704 : decode cL_bundles 704 = .ok (.if_icmp .ne 129, 3) := by decide +kernel
theorem dL_bundles_707 : decode cL_bundles 707 = .ok (.aload_n 0, 1) := by decide +kernel
theorem dL_bundles_708 : decode cL_bundles 708 = .ok (.invokevirtual 155, 3) := by decide +kernel
theorem dL_bundles_711 : decode cL_bundles 711 = .ok (.iconst 2, 1) := by decide +kernel
theorem dL_bundles_712 : decode cL_bundles 712 = .ok (.if_icmp .ne 121, 3) := by decide +kernel
theorem dL_bundles_715 : decode cL_bundles 715 = .ok (.aload_n 0, 1) := by decide +kernel
theorem dL_bundles_716 : decode cL_bundles 716 = .ok (.invokevirtual 191, 3) := by decide +kernel
theorem dL_bundles_719 : decode cL_bundles 719 = .ok (.bipush 6, 2) := by decide +kernel
theorem dL_bundles_721 : decode cL_bundles 721 = .ok (.if_icmp .ne 112, 3) := by decide +kernel
theorem dL_bundles_724 : decode cL_bundles 724 = .ok (.aload_n 0, 1) := by decide +kernel
theorem dL_bundles_725 : decode cL_bundles 725 = .ok (.invokevirtual 234, 3) := by decide +kernel
theorem dL_bundles_728 : decode cL_bundles 728 = .ok (.bipush 6, 2) := by decide +kernel
theorem dL_bundles_730 : decode cL_bundles 730 = .ok (.if_icmp .ne 103, 3) := by decide +kernel
theorem dL_bundles_733 : decode cL_bundles 733 = .ok (.aload_n 0, 1) := by decide +kernel
theorem dL_bundles_734 : decode cL_bundles 734 = .ok (.invokevirtual 194, 3) := by decide +kernel
theorem dL_bundles_737 : decode cL_bundles 737 = .ok (.bipush 6, 2) := by decide +kernel
theorem dL_bundles_739 : decode cL_bundles 739 = .ok (.if_icmp .ne 94, 3) := by decide +kernel
theorem dL_bundles_742 : decode cL_bundles 742 = .ok (.aload_n 0, 1) := by decide +kernel
theorem dL_bundles_743 : decode cL_bundles 743 = .ok (.invokevirtual 158, 3) := by decide +kernel
theorem dL_bundles_746 : decode cL_bundles 746 = .ok (.iconst 4, 1) := by decide +kernel
theorem dL_bundles_747 : decode cL_bundles 747 = .ok (.if_icmp .ne 86, 3) := by decide +kernel
theorem dL_bundles_750 : decode cL_bundles 750 = .ok (.aload_n 0, 1) := by decide +kernel
theorem dL_bundles_751 : decode cL_bundles 751 = .ok (.invokevirtual 197, 3) := by decide +kernel
theorem dL_bundles_754 : decode cL_bundles 754 = .ok (.iconst 2, 1) := by decide +kernel
theorem dL_bundles_755 : decode cL_bundles 755 = .ok (.if_icmp .ne 78, 3) := by decide +kernel
theorem dL_bundles_758 : decode cL_bundles 758 = .ok (.aload_n 0, 1) := by decide +kernel
theorem dL_bundles_759 : decode cL_bundles 759 = .ok (.iconst 3, 1) := by decide +kernel
theorem dL_bundles_760 : decode cL_bundles 760 = .ok (.invokevirtual 127, 3) := by decide +kernel
theorem dL_bundles_763 : decode cL_bundles 763 = .ok (.bipush 19, 2) := by decide +kernel
theorem dL_bundles_765 : decode cL_bundles 765 = .ok (.if_icmp .ne 68, 3) := by decide +kernel
theorem dL_bundles_768 : decode cL_bundles 768 = .ok (.aload_n 0, 1) := by decide +kernel
theorem dL_bundles_769 : decode cL_bundles 769 = .ok (.iconst 0, 1) := by decide +kernel
theorem dL_bundles_770 : decode cL_bundles 770 = .ok (.invokevirtual 127, 3) := by decide +kernel
theorem dL_bundles_773 : decode cL_bundles 773 = .ok (.ifCond .ne 60, 3) := by decide +kernel
theorem dL_bundles_776 : decode cL_bundles 776 = .ok (.aload_n 0, 1) := by decide +kernel
theorem dL_bundles_777 : decode cL_bundles 777 = .ok (.iconst 2, 1) := by decide +kernel
theorem dL_bundles_778 : decode cL_bundles 778 = .ok (.iconst 3, 1) := by decide +kernel
theorem dL_bundles_779 : decode cL_bundles 779 = .ok (.invokevirtual 115, 3) := by decide +kernel
theorem dL_bundles_782 : decode cL_bundles 782 = .ok (.bipush 100, 2) := by decide +kernel
theorem dL_bundles_784 : decode cL_bundles 784 = .ok (.if_icmp .ne 49, 3) := by decide +kernel
theorem dL_bundles_787 : decode cL_bundles 787 = .ok (.aload_n 0, 1) := by decide +kernel
theorem dL_bundles_788 : decode cL_bundles 788 = .ok (.iconst 2, 1) := by decide +kernel
theorem dL_bundles_789 : decode cL_bundles 789 = .ok (.iconst 3, 1) := by decide +kernel
theorem dL_bundles_790 : decode cL_bundles 790 = .ok (.invokevirtual 118, 3) := by decide +kernel
theorem dL_bundles_793 : decode cL_bundles 793 = .ok (.bipush 100, 2) := by decide +kernel
theorem dL_bundles_795 : decode cL_bundles 795 = .ok (.if_icmp .ne 38, 3) := by decide +kernel
theorem dL_bundles_798 : decode cL_bundles 798 = .ok (.aload_n 0, 1) := by decide +kernel
theorem dL_bundles_799 : decode cL_bundles 799 = .ok (.iconst 0, 1) := by decide +kernel
theorem dL_bundles_800 : decode cL_bundles 800 = .ok (.iconst 0, 1) := by decide +kernel
theorem dL_bundles_801 : decode cL_bundles 801 = .ok (.invokevirtual 115, 3) := by decide +kernel
theorem dL_bundles_804 : decode cL_bundles 804 = .ok (.ifCond .ne 29, 3) := by decide +kernel
theorem dL_bundles_807 : decode cL_bundles 807 = .ok (.aload_n 0, 1) := by decide +kernel
theorem dL_bundles_808 : decode cL_bundles 808 = .ok (.iconst 1, 1) := by decide +kernel
theorem dL_bundles_809 : decode cL_bundles 809 = .ok (.iconst 5, 1) := by decide +kernel
theorem dL_bundles_810 : decode cL_bundles 810 = .ok (.invokevirtual 121, 3) := by decide +kernel
theorem dL_bundles_813 : decode cL_bundles 813 = .ok (.bipush 100, 2) := by decide +kernel
theorem dL_bundles_815 : decode cL_bundles 815 = .ok (.if_icmp .ne 18, 3) := by decide +kernel
theorem dL_bundles_818 : decode cL_bundles 818 = .ok (.aload_n 0, 1) := by decide +kernel
theorem dL_bundles_819 : decode cL_bundles 819 = .ok (.invokevirtual 237, 3) := by decide +kernel
theorem dL_bundles_822 : decode cL_bundles 822 = .ok (.iconst 3, 1) := by decide +kernel
theorem dL_bundles_823 : decode cL_bundles 823 = .ok (.if_icmp .ne 10, 3) := by decide +kernel
theorem dL_bundles_826 : decode cL_bundles 826 = .ok (.aload_n 0, 1) := by decide +kernel
theorem dL_bundles_827 : decode cL_bundles 827 = .ok (.invokestatic 203, 3) := by decide +kernel
theorem dL_bundles_830 : decode cL_bundles 830 = .ok (.ifCond .ne 5, 3) := by decide +kernel
theorem dL_bundles_833 : decode cL_bundles 833 = .ok (.iconst 0, 1) := by decide +kernel
theorem dL_bundles_834 : decode cL_bundles 834 = .ok (.ireturn, 1) := by decide +kernel
theorem dL_bundles_835 : decode cL_bundles 835 = .ok (.aload_n 0, 1) := by decide +kernel
theorem dL_bundles_836 : decode cL_bundles 836 = .ok (.iconst 2, 1) := by decide +kernel
theorem dL_bundles_837 : decode cL_bundles 837 = .ok (.iconst 1, 1) := by decide +kernel
theorem dL_bundles_838 : decode cL_bundles 838 = .ok (.invokevirtual 51, 3) := by decide +kernel
theorem dL_bundles_841 : decode cL_bundles 841 = .ok (.iconst 2, 1) := by decide +kernel
theorem dL_bundles_842 : decode cL_bundles 842 = .ok (.if_icmp .ne 291, 3) := by decide +kernel
theorem dL_bundles_845 : decode cL_bundles 845 = .ok (.aload_n 0, 1) := by decide +kernel
theorem dL_bundles_846 : decode cL_bundles 846 = .ok (.invokevirtual 146, 3) := by decide +kernel
theorem dL_bundles_849 : decode cL_bundles 849 = .ok (.iconst 3, 1) := by decide +kernel
theorem dL_bundles_850 : decode cL_bundles 850 = .ok (.if_icmp .ne 283, 3) := by decide +kernel
theorem dL_bundles_853 : decode cL_bundles 853 = .ok (.aload_n 0, 1) := by decide +kernel
theorem dL_bundles_854 : decode cL_bundles 854 = .ok (.invokevirtual 149, 3) := by decide +kernel
theorem dL_bundles_857 : decode cL_bundles 857 = .ok (.iconst 2, 1) := by decide +kernel
theorem dL_bundles_858 : decode cL_bundles 858 = .ok (.if_icmp .ne 275, 3) := by decide +kernel
theorem dL_bundles_861 : decode cL_bundles 861 = .ok (.aload_n 0, 1) := by decide +kernel
theorem dL_bundles_862 : decode cL_bundles 862 = .ok (.invokevirtual 187, 3) := by decide +kernel
theorem dL_bundles_865 : decode cL_bundles 865 = .ok (.ifCond .ne 268, 3) := by decide +kernel
theorem dL_bundles_868 : decode cL_bundles 868 = .ok (.aload_n 0, 1) := by decide +kernel
theorem dL_bundles_869 : decode cL_bundles 869 = .ok (.iconst 2, 1) := by decide +kernel
theorem dL_bundles_870 : decode cL_bundles 870 = .ok (.invokevirtual 103, 3) := by decide +kernel
theorem dL_bundles_873 : decode cL_bundles 873 = .ok (.ifCond .ne 260, 3) := by decide +kernel
theorem dL_bundles_876 : decode cL_bundles 876 = .ok (.aload_n 0, 1) := by decide +kernel
theorem dL_bundles_877 : decode cL_bundles 877 = .ok (.iconst 5, 1) := by decide +kernel
theorem dL_bundles_878 : decode cL_bundles 878 = .ok (.invokevirtual 109, 3) := by decide +kernel
theorem dL_bundles_881 : decode cL_bundles 881 = .ok (.ifCond .ne 252, 3) := by decide +kernel
theorem dL_bundles_884 : decode cL_bundles 884 = .ok (.aload_n 0, 1) := by decide +kernel
theorem dL_bundles_885 : decode cL_bundles 885 = .ok (.iconst 4, 1) := by decide +kernel
theorem dL_bundles_886 : decode cL_bundles 886 = .ok (.invokevirtual 54, 3) := by decide +kernel
theorem dL_bundles_889 : decode cL_bundles 889 = .ok (.bipush 6, 2) := by decide +kernel
theorem dL_bundles_891 : decode cL_bundles 891 = .ok (.if_icmp .ne 242, 3) := by decide +kernel
theorem dL_bundles_894 : decode cL_bundles 894 = .ok (.aload_n 0, 1) := by decide +kernel
theorem dL_bundles_895 : decode cL_bundles 895 = .ok (.bipush 7, 2) := by decide +kernel
theorem dL_bundles_897 : decode cL_bundles 897 = .ok (.iconst 4, 1) := by decide +kernel
theorem dL_bundles_898 : decode cL_bundles 898 = .ok (.iconst 0, 1) := by decide +kernel
theorem dL_bundles_899 : decode cL_bundles 899 = .ok (.iconst 0, 1) := by decide +kernel
theorem dL_bundles_900 : decode cL_bundles 900 = .ok (.iconst 0, 1) := by decide +kernel
theorem dL_bundles_901 : decode cL_bundles 901 = .ok (.invokestatic 161, 3) := by decide +kernel
theorem dL_bundles_904 : decode cL_bundles 904 = .ok (.sipush (-2013), 3) := by decide +kernel
theorem dL_bundles_907 : decode cL_bundles 907 = .ok (.if_icmp .ne 226, 3) := by decide +kernel
theorem dL_bundles_910 : decode cL_bundles 910 = .ok (.aload_n 0, 1) := by decide +kernel
theorem dL_bundles_911 : decode cL_bundles 911 = .ok (.invokevirtual 146, 3) := by decide +kernel
theorem dL_bundles_914 : decode cL_bundles 914 = .ok (.iconst 1, 1) := by decide +kernel
theorem dL_bundles_915 : decode cL_bundles 915 = .ok (.if_icmp .ne 218, 3) := by decide +kernel
theorem dL_bundles_918 : decode cL_bundles 918 = .ok (.aload_n 0, 1) := by decide +kernel
theorem dL_bundles_919 : decode cL_bundles 919 = .ok (.invokevirtual 149, 3) := by decide +kernel
theorem dL_bundles_922 : decode cL_bundles 922 = .ok (.iconst 4, 1) := by decide +kernel
theorem dL_bundles_923 : decode cL_bundles 923 = .ok (.if_icmp .ne 210, 3) := by decide +kernel
theorem dL_bundles_926 : decode cL_bundles 926 = .ok (.aload_n 0, 1) := by decide +kernel
theorem dL_bundles_927 : decode cL_bundles 927 = .ok (.iconst 4, 1) := by decide +kernel
theorem dL_bundles_928 : decode cL_bundles 928 = .ok (.bipush 8, 2) := by decide +kernel
theorem dL_bundles_930 : decode cL_bundles 930 = .ok (.invokevirtual 51, 3) := by decide +kernel
theorem dL_bundles_933 : decode cL_bundles 933 = .ok (.iconst (-1), 1) := by decide +kernel
theorem dL_bundles_934 : decode cL_bundles 934 = .ok (.if_icmp .ne 199, 3) := by decide +kernel
theorem dL_bundles_937 : decode cL_bundles 937 = .ok (.aload_n 0, 1) := by decide +kernel
theorem dL_bundles_938 : decode cL_bundles 938 = .ok (.iconst 2, 1) := by decide +kernel
theorem dL_bundles_939 : decode cL_bundles 939 = .ok (.iconst 2, 1) := by decide +kernel
theorem dL_bundles_940 : decode cL_bundles 940 = .ok (.invokevirtual 51, 3) := by decide +kernel
theorem dL_bundles_943 : decode cL_bundles 943 = .ok (.iconst 1, 1) := by decide +kernel
theorem dL_bundles_944 : decode cL_bundles 944 = .ok (.if_icmp .ne 189, 3) := by decide +kernel
theorem dL_bundles_947 : decode cL_bundles 947 = .ok (.aload_n 0, 1) := by decide +kernel
theorem dL_bundles_948 : decode cL_bundles 948 = .ok (.invokevirtual 146, 3) := by decide +kernel
theorem dL_bundles_951 : decode cL_bundles 951 = .ok (.ifCond .ne 182, 3) := by decide +kernel
theorem dL_bundles_954 : decode cL_bundles 954 = .ok (.aload_n 0, 1) := by decide +kernel
theorem dL_bundles_955 : decode cL_bundles 955 = .ok (.invokevirtual 143, 3) := by decide +kernel
theorem dL_bundles_958 : decode cL_bundles 958 = .ok (.bipush 9, 2) := by decide +kernel
theorem dL_bundles_960 : decode cL_bundles 960 = .ok (.if_icmp .ne 173, 3) := by decide +kernel
theorem dL_bundles_963 : decode cL_bundles 963 = .ok (.aload_n 0, 1) := by decide +kernel
theorem dL_bundles_964 : decode cL_bundles 964 = .ok (.iconst 1, 1) := by decide +kernel
theorem dL_bundles_965 : decode cL_bundles 965 = .ok (.iconst 0, 1) := by decide +kernel
theorem dL_bundles_966 : decode cL_bundles 966 = .ok (.invokevirtual 51, 3) := by decide +kernel
theorem dL_bundles_969 : decode cL_bundles 969 = .ok (.iconst 1, 1) := by decide +kernel
theorem dL_bundles_970 : decode cL_bundles 970 = .ok (.if_icmp .ne 163, 3) := by decide +kernel
theorem dL_bundles_973 : decode cL_bundles 973 = .ok (.aload_n 0, 1) := by decide +kernel
theorem dL_bundles_974 : decode cL_bundles 974 = .ok (.invokevirtual 146, 3) := by decide +kernel
theorem dL_bundles_977 : decode cL_bundles 977 = .ok (.iconst 3, 1) := by decide +kernel
theorem dL_bundles_978 : decode cL_bundles 978 = .ok (.if_icmp .ne 155, 3) := by decide +kernel
theorem dL_bundles_981 : decode cL_bundles 981 = .ok (.aload_n 0, 1) := by decide +kernel
theorem dL_bundles_982 : decode cL_bundles 982 = .ok (.invokevirtual 149, 3) := by decide +kernel
theorem dL_bundles_985 : decode cL_bundles 985 = .ok (.iconst 1, 1) := by decide +kernel
theorem dL_bundles_986 : decode cL_bundles 986 = .ok (.if_icmp .ne 147, 3) := by decide +kernel
theorem dL_bundles_989 : decode cL_bundles 989 = .ok (.aload_n 0, 1) := by decide +kernel
theorem dL_bundles_990 : decode cL_bundles 990 = .ok (.iconst 0, 1) := by decide +kernel
theorem dL_bundles_991 : decode cL_bundles 991 = .ok (.iconst 1, 1) := by decide +kernel
theorem dL_bundles_992 : decode cL_bundles 992 = .ok (.invokevirtual 42, 3) := by decide +kernel
theorem dL_bundles_995 : decode cL_bundles 995 = .ok (.iconst 2, 1) := by decide +kernel
theorem dL_bundles_996 : decode cL_bundles 996 = .ok (.if_icmp .ne 137, 3) := by decide +kernel
theorem dL_bundles_999 : decode cL_bundles 999 = .ok (.aload_n 0, 1) := by decide +kernel
theorem dL_bundles_1000 : decode cL_bundles 1000 = .ok (.invokevirtual 146, 3) := by decide +kernel
theorem dL_bundles_1003 : decode cL_bundles 1003 = .ok (.iconst 2, 1) := by decide +kernel
theorem dL_bundles_1004 : decode cL_bundles 1004 = .ok (.if_icmp .ne 129, 3) := by decide +kernel
theorem dL_bundles_1007 : decode cL_bundles 1007 = .ok (.aload_n 0, 1) := by decide +kernel
theorem dL_bundles_1008 : decode cL_bundles 1008 = .ok (.invokevirtual 149, 3) := by decide +kernel
theorem dL_bundles_1011 : decode cL_bundles 1011 = .ok (.ifCond .ne 122, 3) := by decide +kernel
theorem dL_bundles_1014 : decode cL_bundles 1014 = .ok (.aload_n 0, 1) := by decide +kernel
theorem dL_bundles_1015 : decode cL_bundles 1015 = .ok (.invokevirtual 67, 3) := by decide +kernel
theorem dL_bundles_1018 : decode cL_bundles 1018 = .ok (.iconst 5, 1) := by decide +kernel
theorem dL_bundles_1019 : decode cL_bundles 1019 = .ok (.if_icmp .ne 114, 3) := by decide +kernel
theorem dL_bundles_1022 : decode cL_bundles 1022 = .ok (.aload_n 0, 1) := by decide +kernel
theorem dL_bundles_1023 : decode cL_bundles 1023 = .ok (.iconst 0, 1) := by decide +kernel
theorem dL_bundles_1024 : decode cL_bundles 1024 = .ok (.invokevirtual 88, 3) := by decide +kernel
theorem dL_bundles_1027 : decode cL_bundles 1027 = .ok (.iconst (-1), 1) := by decide +kernel
theorem dL_bundles_1028 : decode cL_bundles 1028 = .ok (.if_icmp .ne 105, 3) := by decide +kernel
theorem dL_bundles_1031 : decode cL_bundles 1031 = .ok (.aload_n 0, 1) := by decide +kernel
theorem dL_bundles_1032 : decode cL_bundles 1032 = .ok (.iconst 1, 1) := by decide +kernel
theorem dL_bundles_1033 : decode cL_bundles 1033 = .ok (.bipush 6, 2) := by decide +kernel
theorem dL_bundles_1035 : decode cL_bundles 1035 = .ok (.invokevirtual 45, 3) := by decide +kernel
theorem dL_bundles_1038 : decode cL_bundles 1038 = .ok (.iconst 3, 1) := by decide +kernel
theorem dL_bundles_1039 : decode cL_bundles 1039 = .ok (.if_icmp .ne 94, 3) := by decide +kernel
theorem dL_bundles_1042 : decode cL_bundles 1042 = .ok (.aload_n 0, 1) := by decide +kernel
theorem dL_bundles_1043 : decode cL_bundles 1043 = .ok (.iconst 2, 1) := by decide +kernel
theorem dL_bundles_1044 : decode cL_bundles 1044 = .ok (.iconst 3, 1) := by decide +kernel
theorem dL_bundles_1045 : decode cL_bundles 1045 = .ok (.invokevirtual 94, 3) := by decide +kernel
theorem dL_bundles_1048 : decode cL_bundles 1048 = .ok (.bipush 6, 2) := by decide +kernel
theorem dL_bundles_1050 : decode cL_bundles 1050 = .ok (.if_icmp .ne 83, 3) := by decide +kernel
theorem dL_bundles_1053 : decode cL_bundles 1053 = .ok (.aload_n 0, 1) := by decide +kernel
theorem dL_bundles_1054 : decode cL_bundles 1054 = .ok (.invokevirtual 152, 3) := by decide +kernel
theorem dL_bundles_1057 : decode cL_bundles 1057 = .ok (.bipush 10, 2) := by decide +kernel
theorem dL_bundles_1059 : decode cL_bundles 1059 = .ok (.if_icmp .ne 74, 3) := by decide +kernel
theorem dL_bundles_1062 : decode cL_bundles 1062 = .ok (.aload_n 0, 1) := by decide +kernel
theorem dL_bundles_1063 : decode cL_bundles 1063 = .ok (.iconst 0, 1) := by decide +kernel
theorem dL_bundles_1064 : decode cL_bundles 1064 = .ok (.iconst 4, 1) := by decide +kernel
theorem dL_bundles_1065 : decode cL_bundles 1065 = .ok (.invokevirtual 38, 3) := by decide +kernel
theorem dL_bundles_1068 : decode cL_bundles 1068 = .ok (.ifCond .ne 65, 3) := by decide +kernel
theorem dL_bundles_1071 : decode cL_bundles 1071 = .ok (.aload_n 0, 1) := by decide +kernel
theorem dL_bundles_1072 : decode cL_bundles 1072 = .ok (.iconst 0, 1) := by decide +kernel
theorem dL_bundles_1073 : decode cL_bundles 1073 = .ok (.invokevirtual 70, 3) := by decide +kernel
theorem dL_bundles_1076 : decode cL_bundles 1076 = .ok (.iconst 5, 1) := by decide +kernel
theorem dL_bundles_1077 : decode cL_bundles 1077 = .ok (.if_icmp .ne 56, 3) := by decide +kernel
theorem dL_bundles_1080 : decode cL_bundles 1080 = .ok (.aload_n 0, 1) := by decide +kernel
theorem dL_bundles_1081 : decode cL_bundles 1081 = .ok (.iconst 4, 1) := by decide +kernel
theorem dL_bundles_1082 : decode cL_bundles 1082 = .ok (.invokevirtual 70, 3) := by decide +kernel
theorem dL_bundles_1085 : decode cL_bundles 1085 = .ok (.ifCond .ne 48, 3) := by decide +kernel
theorem dL_bundles_1088 : decode cL_bundles 1088 = .ok (.aload_n 0, 1) := by decide +kernel
theorem dL_bundles_1089 : decode cL_bundles 1089 = .ok (.iconst 2, 1) := by decide +kernel
theorem dL_bundles_1090 : decode cL_bundles 1090 = .ok (.iconst 2, 1) := by decide +kernel
theorem dL_bundles_1091 : decode cL_bundles 1091 = .ok (.invokevirtual 38, 3) := by decide +kernel
theorem dL_bundles_1094 : decode cL_bundles 1094 = .ok (.bipush (-99), 2) := by decide +kernel
theorem dL_bundles_1096 : decode cL_bundles 1096 = .ok (.if_icmp .ne 37, 3) := by decide +kernel
theorem dL_bundles_1099 : decode cL_bundles 1099 = .ok (.aload_n 0, 1) := by decide +kernel
theorem dL_bundles_1100 : decode cL_bundles 1100 = .ok (.iconst 0, 1) := by decide +kernel
theorem dL_bundles_1101 : decode cL_bundles 1101 = .ok (.invokevirtual 34, 3) := by decide +kernel
theorem dL_bundles_1104 : decode cL_bundles 1104 = .ok (.iconst 4, 1) := by decide +kernel
theorem dL_bundles_1105 : decode cL_bundles 1105 = .ok (.if_icmp .ne 28, 3) := by decide +kernel
theorem dL_bundles_1108 : decode cL_bundles 1108 = .ok (.aload_n 0, 1) := by decide +kernel
theorem dL_bundles_1109 : decode cL_bundles 1109 = .ok (.iconst 0, 1) := by decide +kernel
theorem dL_bundles_1110 : decode cL_bundles 1110 = .ok (.invokevirtual 70, 3) := by decide +kernel
theorem dL_bundles_1113 : decode cL_bundles 1113 = .ok (.iconst 1, 1) := by decide +kernel
theorem dL_bundles_1114 : decode cL_bundles 1114 = .ok (.if_icmp .ne 19, 3) := by decide +kernel
theorem dL_bundles_1117 : decode cL_bundles 1117 = .ok (.aload_n 0, 1) := by decide +kernel
theorem dL_bundles_1118 : decode cL_bundles 1118 = .ok (.invokevirtual 64, 3) := by decide +kernel
theorem dL_bundles_1121 : decode cL_bundles 1121 = .ok (.iconst 4, 1) := by decide +kernel
theorem dL_bundles_1122 : decode cL_bundles 1122 = .ok (.if_icmp .ne 11, 3) := by decide +kernel
theorem dL_bundles_1125 : decode cL_bundles 1125 = .ok (.aload_n 0, 1) := by decide +kernel
theorem dL_bundles_1126 : decode cL_bundles 1126 = .ok (.invokevirtual 140, 3) := by decide +kernel
theorem dL_bundles_1129 : decode cL_bundles 1129 = .ok (.iconst 5, 1) := by decide +kernel
theorem dL_bundles_1130 : decode cL_bundles 1130 = .ok (.if_icmp .eq 5, 3) := by decide +kernel
theorem dL_bundles_1133 : decode cL_bundles 1133 = .ok (.iconst 0, 1) := by decide +kernel
theorem dL_bundles_1134 : decode cL_bundles 1134 = .ok (.ireturn, 1) := by decide +kernel
theorem dL_bundles_1135 : decode cL_bundles 1135 = .ok (.invokestatic 240, 3) := by decide +kernel
theorem dL_bundles_1138 : decode cL_bundles 1138 = .ok (.ifCond .eq 19, 3) := by decide +kernel
theorem dL_bundles_1141 : decode cL_bundles 1141 = .ok (.invokestatic 243, 3) := by decide +kernel
theorem dL_bundles_1144 : decode cL_bundles 1144 = .ok (.ifCond .eq 13, 3) := by decide +kernel
theorem dL_bundles_1147 : decode cL_bundles 1147 = .ok (.invokestatic 246, 3) := by decide +kernel
theorem dL_bundles_1150 : decode cL_bundles 1150 = .ok (.ifCond .eq 7, 3) := by decide +kernel
theorem dL_bundles_1153 : decode cL_bundles 1153 = .ok (.iconst 1, 1) := by decide +kernel
theorem dL_bundles_1154 : decode cL_bundles 1154 = .ok (.goto 4, 3) := by decide +kernel
theorem dL_bundles_1157 : decode cL_bundles 1157 = .ok (.iconst 0, 1) := by decide +kernel
theorem dL_bundles_1158 : decode cL_bundles 1158 = .ok (.ireturn, 1) := by decide +kernel
