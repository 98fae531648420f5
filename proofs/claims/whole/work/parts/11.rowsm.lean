theorem dX9_init_0 : decode cX9_init 0 = .ok (.aload_n 0, 1) := by decide +kernel
theorem dX9_init_1 : decode cX9_init 1 = .ok (.invokespecial 1, 3) := by decide +kernel
theorem dX9_init_4 : decode cX9_init 4 = .ok (.aload_n 0, 1) := by decide +kernel
theorem dX9_init_5 : decode cX9_init 5 = .ok (.sipush 200, 3) := by decide +kernel
theorem dX9_init_8 : decode cX9_init 8 = .ok (.newarray .int, 2) := by decide +kernel
theorem dX9_init_10 : decode cX9_init 10 = .ok (.putfield 7, 3) := by decide +kernel
theorem dX9_init_13 : decode cX9_init 13 = .ok (.aload_n 0, 1) := by decide +kernel
theorem dX9_init_14 : decode cX9_init 14 = .ok (.iconst 2, 1) := by decide +kernel
theorem dX9_init_15 : decode cX9_init 15 = .ok (.newarray .int, 2) := by decide +kernel
theorem dX9_init_17 : decode cX9_init 17 = .ok (.putfield 13, 3) := by decide +kernel
theorem dX9_init_20 : decode cX9_init 20 = .ok (.aload_n 0, 1) := by decide +kernel
theorem dX9_init_21 : decode cX9_init 21 = .ok (.bipush 16, 2) := by decide +kernel
theorem dX9_init_23 : decode cX9_init 23 = .ok (.newarray .int, 2) := by decide +kernel
theorem dX9_init_25 : decode cX9_init 25 = .ok (.putfield 16, 3) := by decide +kernel
theorem dX9_init_28 : decode cX9_init 28 = .ok (.aload_n 0, 1) := by decide +kernel
theorem dX9_init_29 : decode cX9_init 29 = .ok (.bipush 16, 2) := by decide +kernel
theorem dX9_init_31 : decode cX9_init 31 = .ok (.newarray .int, 2) := by decide +kernel
theorem dX9_init_33 : decode cX9_init 33 = .ok (.putfield 19, 3) := by decide +kernel
theorem dX9_init_36 : decode cX9_init 36 = .ok (.aload_n 0, 1) := by decide +kernel
theorem dX9_init_37 : decode cX9_init 37 = .ok (.iconst 4, 1) := by decide +kernel
theorem dX9_init_38 : decode cX9_init 38 = .ok (.newarray .int, 2) := by decide +kernel
theorem dX9_init_40 : decode cX9_init 40 = .ok (.putfield 22, 3) := by decide +kernel
theorem dX9_init_43 : decode cX9_init 43 = .ok (.aload_n 0, 1) := by decide +kernel
theorem dX9_init_44 : decode cX9_init 44 = .ok (.iconst 4, 1) := by decide +kernel
theorem dX9_init_45 : decode cX9_init 45 = .ok (.newarray .int, 2) := by decide +kernel
theorem dX9_init_47 : decode cX9_init 47 = .ok (.putfield 25, 3) := by decide +kernel
theorem dX9_init_50 : decode cX9_init 50 = .ok (.aload_n 0, 1) := by decide +kernel
theorem dX9_init_51 : decode cX9_init 51 = .ok (.iconst 2, 1) := by decide +kernel
theorem dX9_init_52 : decode cX9_init 52 = .ok (.newarray .int, 2) := by decide +kernel
theorem dX9_init_54 : decode cX9_init 54 = .ok (.putfield 28, 3) := by decide +kernel
theorem dX9_init_57 : decode cX9_init 57 = .ok (.aload_n 0, 1) := by decide +kernel
theorem dX9_init_58 : decode cX9_init 58 = .ok (.bipush 8, 2) := by decide +kernel
theorem dX9_init_60 : decode cX9_init 60 = .ok (.newarray .int, 2) := by decide +kernel
theorem dX9_init_62 : decode cX9_init 62 = .ok (.putfield 31, 3) := by decide +kernel
theorem dX9_init_65 : decode cX9_init 65 = .ok (.aload_n 0, 1) := by decide +kernel
theorem dX9_init_66 : decode cX9_init 66 = .ok (.bipush 8, 2) := by decide +kernel
theorem dX9_init_68 : decode cX9_init 68 = .ok (.newarray .int, 2) := by decide +kernel
theorem dX9_init_70 : decode cX9_init 70 = .ok (.putfield 34, 3) := by decide +kernel
theorem dX9_init_73 : decode cX9_init 73 = .ok (.aload_n 0, 1) := by decide +kernel
theorem dX9_init_74 : decode cX9_init 74 = .ok (.iconst 2, 1) := by decide +kernel
theorem dX9_init_75 : decode cX9_init 75 = .ok (.newarray .int, 2) := by decide +kernel
theorem dX9_init_77 : decode cX9_init 77 = .ok (.putfield 37, 3) := by decide +kernel
theorem dX9_init_80 : decode cX9_init 80 = .ok (.aload_n 0, 1) := by decide +kernel
theorem dX9_init_81 : decode cX9_init 81 = .ok (.bipush 8, 2) := by decide +kernel
theorem dX9_init_83 : decode cX9_init 83 = .ok (.newarray .int, 2) := by decide +kernel
theorem dX9_init_85 : decode cX9_init 85 = .ok (.putfield 40, 3) := by decide +kernel
theorem dX9_init_88 : decode cX9_init 88 = .ok (.aload_n 0, 1) := by decide +kernel
theorem dX9_init_89 : decode cX9_init 89 = .ok (.bipush 8, 2) := by decide +kernel
theorem dX9_init_91 : decode cX9_init 91 = .ok (.newarray .int, 2) := by decide +kernel
theorem dX9_init_93 : decode cX9_init 93 = .ok (.putfield 43, 3) := by decide +kernel
theorem dX9_init_96 : decode cX9_init 96 = .ok (.aload_n 0, 1) := by decide +kernel
theorem dX9_init_97 : decode cX9_init 97 = .ok (.bipush 8, 2) := by decide +kernel
theorem dX9_init_99 : decode cX9_init 99 = .ok (.newarray .int, 2) := by decide +kernel
theorem dX9_init_101 : decode cX9_init 101 = .ok (.putfield 46, 3) := by decide +kernel
theorem dX9_init_104 : decode cX9_init 104 = .ok (.aload_n 0, 1) := by decide +kernel
theorem dX9_init_105 : decode cX9_init 105 = .ok (.iconst 2, 1) := by decide +kernel
theorem dX9_init_106 : decode cX9_init 106 = .ok (.newarray .int, 2) := by decide +kernel
theorem dX9_init_108 : decode cX9_init 108 = .ok (.putfield 49, 3) := by decide +kernel
theorem dX9_init_111 : decode cX9_init 111 = .ok (.aload_n 0, 1) := by decide +kernel
theorem dX9_init_112 : decode cX9_init 112 = .ok (.bipush 32, 2) := by decide +kernel
theorem dX9_init_114 : decode cX9_init 114 = .ok (.newarray .int, 2) := by decide +kernel
theorem dX9_init_116 : decode cX9_init 116 = .ok (.putfield 52, 3) := by decide +kernel
theorem dX9_init_119 : decode cX9_init 119 = .ok (.aload_n 0, 1) := by decide +kernel
theorem dX9_init_120 : decode cX9_init 120 = .ok (.iconst 2, 1) := by decide +kernel
theorem dX9_init_121 : decode cX9_init 121 = .ok (.newarray .int, 2) := by decide +kernel
theorem dX9_init_123 : decode cX9_init 123 = .ok (.putfield 55, 3) := by decide +kernel
theorem dX9_init_126 : decode cX9_init 126 = .ok (.aload_n 0, 1) := by decide +kernel
theorem dX9_init_127 : decode cX9_init 127 = .ok (.bipush 10, 2) := by decide +kernel
theorem dX9_init_129 : decode cX9_init 129 = .ok (.newarray .int, 2) := by decide +kernel
theorem dX9_init_131 : decode cX9_init 131 = .ok (.putfield 58, 3) := by decide +kernel
theorem dX9_init_134 : decode cX9_init 134 = .ok (.aload_n 0, 1) := by decide +kernel
theorem dX9_init_135 : decode cX9_init 135 = .ok (.bipush 10, 2) := by decide +kernel
theorem dX9_init_137 : decode cX9_init 137 = .ok (.newarray .int, 2) := by decide +kernel
theorem dX9_init_139 : decode cX9_init 139 = .ok (.putfield 61, 3) := by decide +kernel
theorem dX9_init_142 : decode cX9_init 142 = .ok (.aload_n 0, 1) := by decide +kernel
theorem dX9_init_143 : decode cX9_init 143 = .ok (.bipush 10, 2) := by decide +kernel
theorem dX9_init_145 : decode cX9_init 145 = .ok (.newarray .int, 2) := by decide +kernel
theorem dX9_init_147 : decode cX9_init 147 = .ok (.putfield 64, 3) := by decide +kernel
theorem dX9_init_150 : decode cX9_init 150 = .ok (.aload_n 0, 1) := by decide +kernel
theorem dX9_init_151 : decode cX9_init 151 = .ok (.iconst 3, 1) := by decide +kernel
theorem dX9_init_152 : decode cX9_init 152 = .ok (.newarray .int, 2) := by decide +kernel
theorem dX9_init_154 : decode cX9_init 154 = .ok (.putfield 67, 3) := by decide +kernel
theorem dX9_init_157 : decode cX9_init 157 = .ok (.aload_n 0, 1) := by decide +kernel
theorem dX9_init_158 : decode cX9_init 158 = .ok (.bipush 90, 2) := by decide +kernel
theorem dX9_init_160 : decode cX9_init 160 = .ok (.newarray .int, 2) := by decide +kernel
theorem dX9_init_162 : decode cX9_init 162 = .ok (.putfield 70, 3) := by decide +kernel
theorem dX9_init_165 : decode cX9_init 165 = .ok (.aload_n 0, 1) := by decide +kernel
theorem dX9_init_166 : decode cX9_init 166 = .ok (.bipush 90, 2) := by decide +kernel
theorem dX9_init_168 : decode cX9_init 168 = .ok (.newarray .int, 2) := by decide +kernel
theorem dX9_init_170 : decode cX9_init 170 = .ok (.putfield 73, 3) := by decide +kernel
theorem dX9_init_173 : decode cX9_init 173 = .ok (.aload_n 0, 1) := by decide +kernel
theorem dX9_init_174 : decode cX9_init 174 = .ok (.bipush 90, 2) := by decide +kernel
theorem dX9_init_176 : decode cX9_init 176 = .ok (.newarray .int, 2) := by decide +kernel
theorem dX9_init_178 : decode cX9_init 178 = .ok (.putfield 76, 3) := by decide +kernel
theorem dX9_init_181 : decode cX9_init 181 = .ok (.aload_n 0, 1) := by decide +kernel
theorem dX9_init_182 : decode cX9_init 182 = .ok (.bipush 90, 2) := by decide +kernel
theorem dX9_init_184 : decode cX9_init 184 = .ok (.newarray .int, 2) := by decide +kernel
theorem dX9_init_186 : decode cX9_init 186 = .ok (.putfield 79, 3) := by decide +kernel
theorem dX9_init_189 : decode cX9_init 189 = .ok (.aload_n 0, 1) := by decide +kernel
theorem dX9_init_190 : decode cX9_init 190 = .ok (.bipush 8, 2) := by decide +kernel
theorem dX9_init_192 : decode cX9_init 192 = .ok (.newarray .int, 2) := by decide +kernel
theorem dX9_init_194 : decode cX9_init 194 = .ok (.putfield 82, 3) := by decide +kernel
theorem dX9_init_197 : decode cX9_init 197 = .ok (.aload_n 0, 1) := by decide +kernel
theorem dX9_init_198 : decode cX9_init 198 = .ok (.bipush 8, 2) := by decide +kernel
theorem dX9_init_200 : decode cX9_init 200 = .ok (.newarray .int, 2) := by decide +kernel
theorem dX9_init_202 : decode cX9_init 202 = .ok (.putfield 85, 3) := by decide +kernel
theorem dX9_init_205 : decode cX9_init 205 = .ok (.aload_n 0, 1) := by decide +kernel
theorem dX9_init_206 : decode cX9_init 206 = .ok (.iconst 4, 1) := by decide +kernel
theorem dX9_init_207 : decode cX9_init 207 = .ok (.newarray .int, 2) := by decide +kernel
theorem dX9_init_209 : decode cX9_init 209 = .ok (.putfield 88, 3) := by decide +kernel
theorem dX9_init_212 : decode cX9_init 212 = .ok (.aload_n 0, 1) := by decide +kernel
theorem dX9_init_213 : decode cX9_init 213 = .ok (.bipush 16, 2) := by decide +kernel
theorem dX9_init_215 : decode cX9_init 215 = .ok (.newarray .int, 2) := by decide +kernel
theorem dX9_init_217 : decode cX9_init 217 = .ok (.putfield 91, 3) := by decide +kernel
theorem dX9_init_220 : decode cX9_init 220 = .ok (.aload_n 0, 1) := by decide +kernel
theorem dX9_init_221 : decode cX9_init 221 = .ok (.bipush 16, 2) := by decide +kernel
theorem dX9_init_223 : decode cX9_init 223 = .ok (.newarray .int, 2) := by decide +kernel
theorem dX9_init_225 : decode cX9_init 225 = .ok (.putfield 94, 3) := by decide +kernel
theorem dX9_init_228 : decode cX9_init 228 = .ok (.aload_n 0, 1) := by decide +kernel
theorem dX9_init_229 : decode cX9_init 229 = .ok (.bipush 16, 2) := by decide +kernel
theorem dX9_init_231 : decode cX9_init 231 = .ok (.newarray .int, 2) := by decide +kernel
theorem dX9_init_233 : decode cX9_init 233 = .ok (.putfield 97, 3) := by decide +kernel
theorem dX9_init_236 : decode cX9_init 236 = .ok (.aload_n 0, 1) := by decide +kernel
theorem dX9_init_237 : decode cX9_init 237 = .ok (.iconst 2, 1) := by decide +kernel
theorem dX9_init_238 : decode cX9_init 238 = .ok (.newarray .int, 2) := by decide +kernel
theorem dX9_init_240 : decode cX9_init 240 = .ok (.putfield 100, 3) := by decide +kernel
theorem dX9_init_243 : decode cX9_init 243 = .ok (.aload_n 0, 1) := by decide +kernel
theorem dX9_init_244 : decode cX9_init 244 = .ok (.iconst 2, 1) := by decide +kernel
theorem dX9_init_245 : decode cX9_init 245 = .ok (.newarray .int, 2) := by decide +kernel
theorem dX9_init_247 : decode cX9_init 247 = .ok (.putfield 103, 3) := by decide +kernel
theorem dX9_init_250 : decode cX9_init 250 = .ok (.aload_n 0, 1) := by decide +kernel
theorem dX9_init_251 : decode cX9_init 251 = .ok (.iconst 2, 1) := by decide +kernel
theorem dX9_init_252 : decode cX9_init 252 = .ok (.newarray .int, 2) := by decide +kernel
theorem dX9_init_254 : decode cX9_init 254 = .ok (.putfield 106, 3) := by decide +kernel
theorem dX9_init_257 : decode cX9_init 257 = .ok (.aload_n 0, 1) := by decide +kernel
theorem dX9_init_258 : decode cX9_init 258 = .ok (.iconst 2, 1) := by decide +kernel
theorem dX9_init_259 : decode cX9_init 259 = .ok (.newarray .int, 2) := by decide +kernel
theorem dX9_init_261 : decode cX9_init 261 = .ok (.putfield 109, 3) := by decide +kernel
theorem dX9_init_264 : decode cX9_init 264 = .ok (.aload_n 0, 1) := by decide +kernel
theorem dX9_init_265 : decode cX9_init 265 = .ok (.bipush 8, 2) := by decide +kernel
theorem dX9_init_267 : decode cX9_init 267 = .ok (.newarray .int, 2) := by decide +kernel
theorem dX9_init_269 : decode cX9_init 269 = .ok (.putfield 112, 3) := by decide +kernel
theorem dX9_init_272 : decode cX9_init 272 = .ok (.aload_n 0, 1) := by decide +kernel
theorem dX9_init_273 : decode cX9_init 273 = .ok (.bipush 8, 2) := by decide +kernel
theorem dX9_init_275 : decode cX9_init 275 = .ok (.newarray .int, 2) := by decide +kernel
theorem dX9_init_277 : decode cX9_init 277 = .ok (.putfield 115, 3) := by decide +kernel
theorem dX9_init_280 : decode cX9_init 280 = .ok (.aload_n 0, 1) := by decide +kernel
theorem dX9_init_281 : decode cX9_init 281 = .ok (.iconst 4, 1) := by decide +kernel
theorem dX9_init_282 : decode cX9_init 282 = .ok (.newarray .int, 2) := by decide +kernel
theorem dX9_init_284 : decode cX9_init 284 = .ok (.putfield 118, 3) := by decide +kernel
theorem dX9_init_287 : decode cX9_init 287 = .ok (.aload_n 0, 1) := by decide +kernel
theorem dX9_init_288 : decode cX9_init 288 = .ok (.iconst 5, 1) := by decide +kernel
theorem dX9_init_289 : decode cX9_init 289 = .ok (.newarray .int, 2) := by decide +kernel
theorem dX9_init_291 : decode cX9_init 291 = .ok (.putfield 121, 3) := by decide +kernel
theorem dX9_init_294 : decode cX9_init 294 = .ok (.aload_n 0, 1) := by decide +kernel
theorem dX9_init_295 : decode cX9_init 295 = .ok (.iconst 5, 1) := by decide +kernel
theorem dX9_init_296 : decode cX9_init 296 = .ok (.newarray .int, 2) := by decide +kernel
theorem dX9_init_298 : decode cX9_init 298 = .ok (.putfield 124, 3) := by decide +kernel
theorem dX9_init_301 : decode cX9_init 301 = .ok (.aload_n 0, 1) := by decide +kernel
theorem dX9_init_302 : decode cX9_init 302 = .ok (.iconst 0, 1) := by decide +kernel
theorem dX9_init_303 : decode cX9_init 303 = .ok (.invokevirtual 127, 3) := by decide +kernel
theorem dX9_init_306 : decode cX9_init 306 = .ok (.aload_n 0, 1) := by decide +kernel
theorem dX9_init_307 : decode cX9_init 307 = .ok (.getfield 13, 3) := by decide +kernel
theorem dX9_init_310 : decode cX9_init 310 = .ok (.iconst 0, 1) := by decide +kernel
theorem dX9_init_311 : decode cX9_init 311 = .ok (.iconst 3, 1) := by decide +kernel
theorem dX9_init_312 : decode cX9_init 312 = .ok (.iastore, 1) := by decide +kernel
theorem dX9_init_313 : decode cX9_init 313 = .ok (.aload_n 0, 1) := by decide +kernel
theorem dX9_init_314 : decode cX9_init 314 = .ok (.getfield 16, 3) := by decide +kernel
theorem dX9_init_317 : decode cX9_init 317 = .ok (.iconst 0, 1) := by decide +kernel
theorem dX9_init_318 : decode cX9_init 318 = .ok (.bipush 10, 2) := by decide +kernel
theorem dX9_init_320 : decode cX9_init 320 = .ok (.iastore, 1) := by decide +kernel
theorem dX9_init_321 : decode cX9_init 321 = .ok (.aload_n 0, 1) := by decide +kernel
theorem dX9_init_322 : decode cX9_init 322 = .ok (.getfield 16, 3) := by decide +kernel
theorem dX9_init_325 : decode cX9_init 325 = .ok (.iconst 1, 1) := by decide +kernel
theorem dX9_init_326 : decode cX9_init 326 = .ok (.bipush 8, 2) := by decide +kernel
theorem dX9_init_328 : decode cX9_init 328 = .ok (.iastore, 1) := by decide +kernel
theorem dX9_init_329 : decode cX9_init 329 = .ok (.aload_n 0, 1) := by decide +kernel
theorem dX9_init_330 : decode cX9_init 330 = .ok (.getfield 19, 3) := by decide +kernel
theorem dX9_init_333 : decode cX9_init 333 = .ok (.iconst 1, 1) := by decide +kernel
theorem dX9_init_334 : decode cX9_init 334 = .ok (.iconst 1, 1) := by decide +kernel
theorem dX9_init_335 : decode cX9_init 335 = .ok (.iastore, 1) := by decide +kernel
theorem dX9_init_336 : decode cX9_init 336 = .ok (.aload_n 0, 1) := by decide +kernel
theorem dX9_init_337 : decode cX9_init 337 = .ok (.getfield 16, 3) := by decide +kernel
theorem dX9_init_340 : decode cX9_init 340 = .ok (.iconst 2, 1) := by decide +kernel
theorem dX9_init_341 : decode cX9_init 341 = .ok (.bipush 12, 2) := by decide +kernel
theorem dX9_init_343 : decode cX9_init 343 = .ok (.iastore, 1) := by decide +kernel
theorem dX9_init_344 : decode cX9_init 344 = .ok (.aload_n 0, 1) := by decide +kernel
theorem dX9_init_345 : decode cX9_init 345 = .ok (.getfield 19, 3) := by decide +kernel
theorem dX9_init_348 : decode cX9_init 348 = .ok (.iconst 2, 1) := by decide +kernel
theorem dX9_init_349 : decode cX9_init 349 = .ok (.iconst 3, 1) := by decide +kernel
theorem dX9_init_350 : decode cX9_init 350 = .ok (.iastore, 1) := by decide +kernel
theorem dX9_init_351 : decode cX9_init 351 = .ok (.aload_n 0, 1) := by decide +kernel
theorem dX9_init_352 : decode cX9_init 352 = .ok (.getfield 28, 3) := by decide +kernel
theorem dX9_init_355 : decode cX9_init 355 = .ok (.iconst 0, 1) := by decide +kernel
theorem dX9_init_356 : decode cX9_init 356 = .ok (.iconst 1, 1) := by decide +kernel
theorem dX9_init_357 : decode cX9_init 357 = .ok (.iastore, 1) := by decide +kernel
theorem dX9_init_358 : decode cX9_init 358 = .ok (.aload_n 0, 1) := by decide +kernel
theorem dX9_init_359 : decode cX9_init 359 = .ok (.getfield 34, 3) := by decide +kernel
theorem dX9_init_362 : decode cX9_init 362 = .ok (.iconst 0, 1) := by decide +kernel
theorem dX9_init_363 : decode cX9_init 363 = .ok (.bipush 9, 2) := by decide +kernel
theorem dX9_init_365 : decode cX9_init 365 = .ok (.iastore, 1) := by decide +kernel
theorem dX9_init_366 : decode cX9_init 366 = .ok (.aload_n 0, 1) := by decide +kernel
theorem dX9_init_367 : decode cX9_init 367 = .ok (.getfield 49, 3) := by decide +kernel
theorem dX9_init_370 : decode cX9_init 370 = .ok (.iconst 0, 1) := by decide +kernel
theorem dX9_init_371 : decode cX9_init 371 = .ok (.iconst 2, 1) := by decide +kernel
theorem dX9_init_372 : decode cX9_init 372 = .ok (.iastore, 1) := by decide +kernel
theorem dX9_init_373 : decode cX9_init 373 = .ok (.aload_n 0, 1) := by decide +kernel
theorem dX9_init_374 : decode cX9_init 374 = .ok (.getfield 52, 3) := by decide +kernel
theorem dX9_init_377 : decode cX9_init 377 = .ok (.iconst 0, 1) := by decide +kernel
theorem dX9_init_378 : decode cX9_init 378 = .ok (.iconst 3, 1) := by decide +kernel
theorem dX9_init_379 : decode cX9_init 379 = .ok (.iastore, 1) := by decide +kernel
theorem dX9_init_380 : decode cX9_init 380 = .ok (.aload_n 0, 1) := by decide +kernel
theorem dX9_init_381 : decode cX9_init 381 = .ok (.getfield 52, 3) := by decide +kernel
theorem dX9_init_384 : decode cX9_init 384 = .ok (.iconst 1, 1) := by decide +kernel
theorem dX9_init_385 : decode cX9_init 385 = .ok (.iconst 1, 1) := by decide +kernel
theorem dX9_init_386 : decode cX9_init 386 = .ok (.iastore, 1) := by decide +kernel
theorem dX9_init_387 : decode cX9_init 387 = .ok (.aload_n 0, 1) := by decide +kernel
theorem dX9_init_388 : decode cX9_init 388 = .ok (.getfield 52, 3) := by decide +kernel
theorem dX9_init_391 : decode cX9_init 391 = .ok (.iconst 3, 1) := by decide +kernel
theorem dX9_init_392 : decode cX9_init 392 = .ok (.iconst 2, 1) := by decide +kernel
theorem dX9_init_393 : decode cX9_init 393 = .ok (.iastore, 1) := by decide +kernel
theorem dX9_init_394 : decode cX9_init 394 = .ok (.aload_n 0, 1) := by decide +kernel
theorem dX9_init_395 : decode cX9_init 395 = .ok (.getfield 52, 3) := by decide +kernel
theorem dX9_init_398 : decode cX9_init 398 = .ok (.iconst 4, 1) := by decide +kernel
theorem dX9_init_399 : decode cX9_init 399 = .ok (.iconst 1, 1) := by decide +kernel
theorem dX9_init_400 : decode cX9_init 400 = .ok (.iastore, 1) := by decide +kernel
theorem dX9_init_401 : decode cX9_init 401 = .ok (.aload_n 0, 1) := by decide +kernel
theorem dX9_init_402 : decode cX9_init 402 = .ok (.getfield 52, 3) := by decide +kernel
theorem dX9_init_405 : decode cX9_init 405 = .ok (.iconst 5, 1) := by decide +kernel
theorem dX9_init_406 : decode cX9_init 406 = .ok (.iconst 2, 1) := by decide +kernel
theorem dX9_init_407 : decode cX9_init 407 = .ok (.iastore, 1) := by decide +kernel
theorem dX9_init_408 : decode cX9_init 408 = .ok (.aload_n 0, 1) := by decide +kernel
theorem dX9_init_409 : decode cX9_init 409 = .ok (.getfield 52, 3) := by decide +kernel
theorem dX9_init_412 : decode cX9_init 412 = .ok (.bipush 6, 2) := by decide +kernel
theorem dX9_init_414 : decode cX9_init 414 = .ok (.iconst 1, 1) := by decide +kernel
theorem dX9_init_415 : decode cX9_init 415 = .ok (.iastore, 1) := by decide +kernel
theorem dX9_init_416 : decode cX9_init 416 = .ok (.aload_n 0, 1) := by decide +kernel
theorem dX9_init_417 : decode cX9_init 417 = .ok (.getfield 55, 3) := by decide +kernel
theorem dX9_init_420 : decode cX9_init 420 = .ok (.iconst 0, 1) := by decide +kernel
theorem dX9_init_421 : decode cX9_init 421 = .ok (.iconst 2, 1) := by decide +kernel
theorem dX9_init_422 : decode cX9_init 422 = .ok (.iastore, 1) := by decide +kernel
theorem dX9_init_423 : decode cX9_init 423 = .ok (.aload_n 0, 1) := by decide +kernel
theorem dX9_init_424 : decode cX9_init 424 = .ok (.getfield 64, 3) := by decide +kernel
theorem dX9_init_427 : decode cX9_init 427 = .ok (.iconst 0, 1) := by decide +kernel
theorem dX9_init_428 : decode cX9_init 428 = .ok (.bipush 6, 2) := by decide +kernel
theorem dX9_init_430 : decode cX9_init 430 = .ok (.iastore, 1) := by decide +kernel
theorem dX9_init_431 : decode cX9_init 431 = .ok (.aload_n 0, 1) := by decide +kernel
theorem dX9_init_432 : decode cX9_init 432 = .ok (.getfield 58, 3) := by decide +kernel
theorem dX9_init_435 : decode cX9_init 435 = .ok (.iconst 1, 1) := by decide +kernel
theorem dX9_init_436 : decode cX9_init 436 = .ok (.iconst 1, 1) := by decide +kernel
theorem dX9_init_437 : decode cX9_init 437 = .ok (.iastore, 1) := by decide +kernel
theorem dX9_init_438 : decode cX9_init 438 = .ok (.aload_n 0, 1) := by decide +kernel
theorem dX9_init_439 : decode cX9_init 439 = .ok (.getfield 61, 3) := by decide +kernel
theorem dX9_init_442 : decode cX9_init 442 = .ok (.iconst 1, 1) := by decide +kernel
theorem dX9_init_443 : decode cX9_init 443 = .ok (.iconst 1, 1) := by decide +kernel
theorem dX9_init_444 : decode cX9_init 444 = .ok (.iastore, 1) := by decide +kernel
theorem dX9_init_445 : decode cX9_init 445 = .ok (.aload_n 0, 1) := by decide +kernel
theorem dX9_init_446 : decode cX9_init 446 = .ok (.getfield 64, 3) := by decide +kernel
theorem dX9_init_449 : decode cX9_init 449 = .ok (.iconst 1, 1) := by decide +kernel
theorem dX9_init_450 : decode cX9_init 450 = .ok (.iconst 4, 1) := by decide +kernel
theorem dX9_init_451 : decode cX9_init 451 = .ok (.iastore, 1) := by decide +kernel
theorem dX9_init_452 : decode cX9_init 452 = .ok (.aload_n 0, 1) := by decide +kernel
theorem dX9_init_453 : decode cX9_init 453 = .ok (.invokevirtual 131, 3) := by decide +kernel
theorem dX9_init_456 : decode cX9_init 456 = .ok (.return_, 1) := by decide +kernel
theorem dX9_in_0 : decode cX9_in 0 = .ok (.lload_n 0, 1) := by decide +kernel
theorem dX9_in_1 : decode cX9_in 1 = .ok (.lload_n 2, 1) := by decide +kernel
theorem dX9_in_2 : decode cX9_in 2 = .ok (.lcmp, 1) := by decide +kernel
theorem dX9_in_3 : decode cX9_in 3 = .ok (.ifCond .lt 14, 3) := by decide +kernel
theorem dX9_in_6 : decode cX9_in 6 = .ok (.lload_n 0, 1) := by decide +kernel
theorem dX9_in_7 : decode cX9_in 7 = .ok (.lload 4, 2) := by decide +kernel
theorem dX9_in_9 : decode cX9_in 9 = .ok (.lcmp, 1) := by decide +kernel
theorem dX9_in_10 : decode cX9_in 10 = .ok (.ifCond .gt 7, 3) := by decide +kernel
theorem dX9_in_13 : decode cX9_in 13 = .ok (.iconst 1, 1) := by decide +kernel
theorem dX9_in_14 : decode cX9_in 14 = .ok (.goto 4, 3) := by decide +kernel
theorem dX9_in_17 : decode cX9_in 17 = .ok (.iconst 0, 1) := by decide +kernel
theorem dX9_in_18 : decode cX9_in 18 = .ok (.ireturn, 1) := by decide +kernel
theorem dX9_noDam_0 : decode cX9_noDam 0 = .ok (.aload_n 0, 1) := by decide +kernel
theorem dX9_noDam_1 : decode cX9_noDam 1 = .ok (.getfield 13, 3) := by decide +kernel
theorem dX9_noDam_4 : decode cX9_noDam 4 = .ok (.iload_n 1, 1) := by decide +kernel
theorem dX9_noDam_5 : decode cX9_noDam 5 = .ok (.iconst 0, 1) := by decide +kernel
theorem dX9_noDam_6 : decode cX9_noDam 6 = .ok (.iastore, 1) := by decide +kernel
theorem dX9_noDam_7 : decode cX9_noDam 7 = .ok (.aload_n 0, 1) := by decide +kernel
theorem dX9_noDam_8 : decode cX9_noDam 8 = .ok (.getfield 22, 3) := by decide +kernel
theorem dX9_noDam_11 : decode cX9_noDam 11 = .ok (.iconst 2, 1) := by decide +kernel
theorem dX9_noDam_12 : decode cX9_noDam 12 = .ok (.iload_n 1, 1) := by decide +kernel
theorem dX9_noDam_13 : decode cX9_noDam 13 = .ok (.imul, 1) := by decide +kernel
theorem dX9_noDam_14 : decode cX9_noDam 14 = .ok (.bipush 20, 2) := by decide +kernel
theorem dX9_noDam_16 : decode cX9_noDam 16 = .ok (.iastore, 1) := by decide +kernel
theorem dX9_noDam_17 : decode cX9_noDam 17 = .ok (.aload_n 0, 1) := by decide +kernel
theorem dX9_noDam_18 : decode cX9_noDam 18 = .ok (.getfield 22, 3) := by decide +kernel
theorem dX9_noDam_21 : decode cX9_noDam 21 = .ok (.iconst 2, 1) := by decide +kernel
theorem dX9_noDam_22 : decode cX9_noDam 22 = .ok (.iload_n 1, 1) := by decide +kernel
theorem dX9_noDam_23 : decode cX9_noDam 23 = .ok (.imul, 1) := by decide +kernel
theorem dX9_noDam_24 : decode cX9_noDam 24 = .ok (.iconst 1, 1) := by decide +kernel
theorem dX9_noDam_25 : decode cX9_noDam 25 = .ok (.iadd, 1) := by decide +kernel
theorem dX9_noDam_26 : decode cX9_noDam 26 = .ok (.bipush 20, 2) := by decide +kernel
theorem dX9_noDam_28 : decode cX9_noDam 28 = .ok (.iastore, 1) := by decide +kernel
theorem dX9_noDam_29 : decode cX9_noDam 29 = .ok (.aload_n 0, 1) := by decide +kernel
theorem dX9_noDam_30 : decode cX9_noDam 30 = .ok (.getfield 25, 3) := by decide +kernel
theorem dX9_noDam_33 : decode cX9_noDam 33 = .ok (.iconst 2, 1) := by decide +kernel
theorem dX9_noDam_34 : decode cX9_noDam 34 = .ok (.iload_n 1, 1) := by decide +kernel
theorem dX9_noDam_35 : decode cX9_noDam 35 = .ok (.imul, 1) := by decide +kernel
theorem dX9_noDam_36 : decode cX9_noDam 36 = .ok (.bipush 6, 2) := by decide +kernel
theorem dX9_noDam_38 : decode cX9_noDam 38 = .ok (.iastore, 1) := by decide +kernel
theorem dX9_noDam_39 : decode cX9_noDam 39 = .ok (.aload_n 0, 1) := by decide +kernel
theorem dX9_noDam_40 : decode cX9_noDam 40 = .ok (.getfield 25, 3) := by decide +kernel
theorem dX9_noDam_43 : decode cX9_noDam 43 = .ok (.iconst 2, 1) := by decide +kernel
theorem dX9_noDam_44 : decode cX9_noDam 44 = .ok (.iload_n 1, 1) := by decide +kernel
theorem dX9_noDam_45 : decode cX9_noDam 45 = .ok (.imul, 1) := by decide +kernel
theorem dX9_noDam_46 : decode cX9_noDam 46 = .ok (.iconst 1, 1) := by decide +kernel
theorem dX9_noDam_47 : decode cX9_noDam 47 = .ok (.iadd, 1) := by decide +kernel
theorem dX9_noDam_48 : decode cX9_noDam 48 = .ok (.iconst 1, 1) := by decide +kernel
theorem dX9_noDam_49 : decode cX9_noDam 49 = .ok (.iastore, 1) := by decide +kernel
theorem dX9_noDam_50 : decode cX9_noDam 50 = .ok (.aload_n 0, 1) := by decide +kernel
theorem dX9_noDam_51 : decode cX9_noDam 51 = .ok (.getfield 28, 3) := by decide +kernel
theorem dX9_noDam_54 : decode cX9_noDam 54 = .ok (.iload_n 1, 1) := by decide +kernel
theorem dX9_noDam_55 : decode cX9_noDam 55 = .ok (.iconst 0, 1) := by decide +kernel
theorem dX9_noDam_56 : decode cX9_noDam 56 = .ok (.iastore, 1) := by decide +kernel
theorem dX9_noDam_57 : decode cX9_noDam 57 = .ok (.aload_n 0, 1) := by decide +kernel
theorem dX9_noDam_58 : decode cX9_noDam 58 = .ok (.getfield 37, 3) := by decide +kernel
theorem dX9_noDam_61 : decode cX9_noDam 61 = .ok (.iload_n 1, 1) := by decide +kernel
theorem dX9_noDam_62 : decode cX9_noDam 62 = .ok (.iconst 0, 1) := by decide +kernel
theorem dX9_noDam_63 : decode cX9_noDam 63 = .ok (.iastore, 1) := by decide +kernel
theorem dX9_noDam_64 : decode cX9_noDam 64 = .ok (.aload_n 0, 1) := by decide +kernel
theorem dX9_noDam_65 : decode cX9_noDam 65 = .ok (.getfield 49, 3) := by decide +kernel
theorem dX9_noDam_68 : decode cX9_noDam 68 = .ok (.iload_n 1, 1) := by decide +kernel
theorem dX9_noDam_69 : decode cX9_noDam 69 = .ok (.iconst 0, 1) := by decide +kernel
theorem dX9_noDam_70 : decode cX9_noDam 70 = .ok (.iastore, 1) := by decide +kernel
theorem dX9_noDam_71 : decode cX9_noDam 71 = .ok (.aload_n 0, 1) := by decide +kernel
theorem dX9_noDam_72 : decode cX9_noDam 72 = .ok (.getfield 55, 3) := by decide +kernel
theorem dX9_noDam_75 : decode cX9_noDam 75 = .ok (.iload_n 1, 1) := by decide +kernel
theorem dX9_noDam_76 : decode cX9_noDam 76 = .ok (.iconst 0, 1) := by decide +kernel
theorem dX9_noDam_77 : decode cX9_noDam 77 = .ok (.iastore, 1) := by decide +kernel
theorem dX9_noDam_78 : decode cX9_noDam 78 = .ok (.return_, 1) := by decide +kernel
theorem dX9_write_0 : decode cX9_write 0 = .ok (.iload_n 1, 1) := by decide +kernel
theorem dX9_write_1 : decode cX9_write 1 = .ok (.i2l, 1) := by decide +kernel
theorem dX9_write_2 : decode cX9_write 2 = .ok (.ldc2_w 134, 3) := by decide +kernel
theorem dX9_write_5 : decode cX9_write 5 = .ok (.ldc2_w 136, 3) := by decide +kernel
theorem dX9_write_8 : decode cX9_write 8 = .ok (.invokestatic 138, 3) := by decide +kernel
theorem dX9_write_11 : decode cX9_write 11 = .ok (.ifCond .ne 5, 3) := by decide +kernel
theorem dX9_write_14 : decode cX9_write 14 = .ok (.iconst (-1), 1) := by decide +kernel
theorem dX9_write_15 : decode cX9_write 15 = .ok (.ireturn, 1) := by decide +kernel
theorem dX9_write_16 : decode cX9_write 16 = .ok (.aload_n 0, 1) := by decide +kernel
theorem dX9_write_17 : decode cX9_write 17 = .ok (.getfield 142, 3) := by decide +kernel
theorem dX9_write_20 : decode cX9_write 20 = .ok (.sipush 200, 3) := by decide +kernel
theorem dX9_write_23 : decode cX9_write 23 = .ok (.if_icmp .ne 6, 3) := by decide +kernel
theorem dX9_write_26 : decode cX9_write 26 = .ok (.bipush (-3), 2) := by decide +kernel
theorem dX9_write_28 : decode cX9_write 28 = .ok (.ireturn, 1) := by decide +kernel
theorem dX9_write_29 : decode cX9_write 29 = .ok (.aload_n 0, 1) := by decide +kernel
theorem dX9_write_30 : decode cX9_write 30 = .ok (.getfield 7, 3) := by decide +kernel
theorem dX9_write_33 : decode cX9_write 33 = .ok (.aload_n 0, 1) := by decide +kernel
theorem dX9_write_34 : decode cX9_write 34 = .ok (.getfield 142, 3) := by decide +kernel
theorem dX9_write_37 : decode cX9_write 37 = .ok (.iload_n 1, 1) := by decide +kernel
theorem dX9_write_38 : decode cX9_write 38 = .ok (.iastore, 1) := by decide +kernel
theorem dX9_write_39 : decode cX9_write 39 = .ok (.aload_n 0, 1) := by decide +kernel
theorem dX9_write_40 : decode cX9_write 40 = .ok (.dup, 1) := by decide +kernel
theorem dX9_write_41 : decode cX9_write 41 = .ok (.getfield 142, 3) := by decide +kernel
theorem dX9_write_44 : decode cX9_write 44 = .ok (.iconst 1, 1) := by decide +kernel
theorem dX9_write_45 : decode cX9_write 45 = .ok (.iadd, 1) := by decide +kernel
theorem dX9_write_46 : decode cX9_write 46 = .ok (.putfield 142, 3) := by decide +kernel
theorem dX9_write_49 : decode cX9_write 49 = .ok (.aload_n 0, 1) := by decide +kernel
theorem dX9_write_50 : decode cX9_write 50 = .ok (.getfield 142, 3) := by decide +kernel
theorem dX9_write_53 : decode cX9_write 53 = .ok (.ireturn, 1) := by decide +kernel
theorem dX9_wipe_0 : decode cX9_wipe 0 = .ok (.aload_n 0, 1) := by decide +kernel
theorem dX9_wipe_1 : decode cX9_wipe 1 = .ok (.getfield 142, 3) := by decide +kernel
theorem dX9_wipe_4 : decode cX9_wipe 4 = .ok (.istore_n 1, 1) := by decide +kernel
theorem dX9_wipe_5 : decode cX9_wipe 5 = .ok (.aload_n 0, 1) := by decide +kernel
theorem dX9_wipe_6 : decode cX9_wipe 6 = .ok (.iconst 0, 1) := by decide +kernel
theorem dX9_wipe_7 : decode cX9_wipe 7 = .ok (.putfield 142, 3) := by decide +kernel
theorem dX9_wipe_10 : decode cX9_wipe 10 = .ok (.iload_n 1, 1) := by decide +kernel
theorem dX9_wipe_11 : decode cX9_wipe 11 = .ok (.ireturn, 1) := by decide +kernel
theorem dX9_letterAt_0 : decode cX9_letterAt 0 = .ok (.iload_n 1, 1) := by decide +kernel
theorem dX9_letterAt_1 : decode cX9_letterAt 1 = .ok (.aload_n 0, 1) := by decide +kernel
theorem dX9_letterAt_2 : decode cX9_letterAt 2 = .ok (.getfield 142, 3) := by decide +kernel
theorem dX9_letterAt_5 : decode cX9_letterAt 5 = .ok (.if_icmp .ge 12, 3) := by decide +kernel
theorem dX9_letterAt_8 : decode cX9_letterAt 8 = .ok (.aload_n 0, 1) := by decide +kernel
theorem dX9_letterAt_9 : decode cX9_letterAt 9 = .ok (.getfield 7, 3) := by decide +kernel
theorem dX9_letterAt_12 : decode cX9_letterAt 12 = .ok (.iload_n 1, 1) := by decide +kernel
theorem dX9_letterAt_13 : decode cX9_letterAt 13 = .ok (.iaload, 1) := by decide +kernel
theorem dX9_letterAt_14 : decode cX9_letterAt 14 = .ok (.goto 4, 3) := by decide +kernel
theorem dX9_letterAt_17 : decode cX9_letterAt 17 = .ok (.iconst 0, 1) := by decide +kernel
theorem dX9_letterAt_18 : decode cX9_letterAt 18 = .ok (.ireturn, 1) := by decide +kernel
theorem dX9_figures_0 : decode cX9_figures 0 = .ok (.iconst 0, 1) := by decide +kernel
theorem dX9_figures_1 : decode cX9_figures 1 = .ok (.istore_n 2, 1) := by decide +kernel
theorem dX9_figures_2 : decode cX9_figures 2 = .ok (.iload_n 2, 1) := by decide +kernel
theorem dX9_figures_3 : decode cX9_figures 3 = .ok (.iload_n 1, 1) := by decide +kernel
theorem dX9_figures_4 : decode cX9_figures 4 = .ok (.if_icmp .ge 132, 3) := by decide +kernel
theorem dX9_figures_7 : decode cX9_figures 7 = .ok (.iconst 0, 1) := by decide +kernel
theorem dX9_figures_8 : decode cX9_figures 8 = .ok (.istore_n 3, 1) := by decide +kernel
theorem dX9_figures_9 : decode cX9_figures 9 = .ok (.iconst 0, 1) := by decide +kernel
theorem dX9_figures_10 : decode cX9_figures 10 = .ok (.istore 4, 2) := by decide +kernel
theorem dX9_figures_12 : decode cX9_figures 12 = .ok (.aload_n 0, 1) := by decide +kernel
theorem dX9_figures_13 : decode cX9_figures 13 = .ok (.aload_n 0, 1) := by decide +kernel
theorem dX9_figures_14 : decode cX9_figures 14 = .ok (.getfield 146, 3) := by decide +kernel
theorem dX9_figures_17 : decode cX9_figures 17 = .ok (.invokevirtual 149, 3) := by decide +kernel
theorem dX9_figures_20 : decode cX9_figures 20 = .ok (.i2l, 1) := by decide +kernel
theorem dX9_figures_21 : decode cX9_figures 21 = .ok (.ldc2_w 153, 3) := by decide +kernel
theorem dX9_figures_24 : decode cX9_figures 24 = .ok (.ldc2_w 155, 3) := by decide +kernel
theorem dX9_figures_27 : decode cX9_figures 27 = .ok (.invokestatic 138, 3) := by decide +kernel
theorem dX9_figures_30 : decode cX9_figures 30 = .ok (.ifCond .eq 43, 3) := by decide +kernel
theorem dX9_figures_33 : decode cX9_figures 33 = .ok (.iload_n 3, 1) := by decide +kernel
theorem dX9_figures_34 : decode cX9_figures 34 = .ok (.iconst 3, 1) := by decide +kernel
theorem dX9_figures_35 : decode cX9_figures 35 = .ok (.if_icmp .ge 38, 3) := by decide +kernel
theorem dX9_figures_38 : decode cX9_figures 38 = .ok (.bipush 10, 2) := by decide +kernel
theorem dX9_figures_40 : decode cX9_figures 40 = .ok (.iload 4, 2) := by decide +kernel
theorem dX9_figures_42 : decode cX9_figures 42 = .ok (.imul, 1) := by decide +kernel
theorem dX9_figures_43 : decode cX9_figures 43 = .ok (.aload_n 0, 1) := by decide +kernel
theorem dX9_figures_44 : decode cX9_figures 44 = .ok (.aload_n 0, 1) := by decide +kernel
theorem dX9_figures_45 : decode cX9_figures 45 = .ok (.getfield 146, 3) := by decide +kernel
theorem dX9_figures_48 : decode cX9_figures 48 = .ok (.invokevirtual 149, 3) := by decide +kernel
theorem dX9_figures_51 : decode cX9_figures 51 = .ok (.iadd, 1) := by decide +kernel
theorem dX9_figures_52 : decode cX9_figures 52 = .ok (.bipush 48, 2) := by decide +kernel
theorem dX9_figures_54 : decode cX9_figures 54 = .ok (.isub, 1) := by decide +kernel
theorem dX9_figures_55 : decode cX9_figures 55 = .ok (.istore 4, 2) := by decide +kernel
theorem dX9_figures_57 : decode cX9_figures 57 = .ok (.iinc 3 1, 3) := by decide +kernel
theorem dX9_figures_60 : decode cX9_figures 60 = .ok (.aload_n 0, 1) := by decide +kernel
theorem dX9_figures_61 : decode cX9_figures 61 = .ok (.dup, 1) := by decide +kernel
theorem dX9_figures_62 : decode cX9_figures 62 = .ok (.getfield 146, 3) := by decide +kernel
theorem dX9_figures_65 : decode cX9_figures 65 = .ok (.iconst 1, 1) := by decide +kernel
theorem dX9_figures_66 : decode cX9_figures 66 = .ok (.iadd, 1) := by decide +kernel
theorem dX9_figures_67 : decode cX9_figures 67 = .ok (.putfield 146, 3) := by decide +kernel
theorem dX9_figures_70 : decode cX9_figures 70 = .ok (.goto (-58), 3) := by decide +kernel
theorem dX9_figures_73 : decode cX9_figures 73 = .ok (.iload_n 3, 1) := by decide +kernel
theorem dX9_figures_74 : decode cX9_figures 74 = .ok (.i2l, 1) := by decide +kernel
theorem dX9_figures_75 : decode cX9_figures 75 = .ok (.lconst 1, 1) := by decide +kernel
theorem dX9_figures_76 : decode cX9_figures 76 = .ok (.ldc2_w 157, 3) := by decide +kernel
theorem dX9_figures_79 : decode cX9_figures 79 = .ok (.invokestatic 138, 3) := by decide +kernel
theorem dX9_figures_82 : decode cX9_figures 82 = .ok (.ifCond .eq 28, 3) := by decide +kernel
theorem dX9_figures_85 : decode cX9_figures 85 = .ok (.aload_n 0, 1) := by decide +kernel
theorem dX9_figures_86 : decode cX9_figures 86 = .ok (.aload_n 0, 1) := by decide +kernel
theorem dX9_figures_87 : decode cX9_figures 87 = .ok (.getfield 146, 3) := by decide +kernel
theorem dX9_figures_90 : decode cX9_figures 90 = .ok (.invokevirtual 149, 3) := by decide +kernel
theorem dX9_figures_93 : decode cX9_figures 93 = .ok (.iload_n 2, 1) := by decide +kernel
theorem dX9_figures_94 : decode cX9_figures 94 = .ok (.iload_n 1, 1) := by decide +kernel
theorem dX9_figures_95 : decode cX9_figures 95 = .ok (.iconst 1, 1) := by decide +kernel
theorem dX9_figures_96 : decode cX9_figures 96 = .ok (.isub, 1) := by decide +kernel
theorem dX9_figures_97 : decode cX9_figures 97 = .ok (.if_icmp .ge 8, 3) := by decide +kernel
theorem dX9_figures_100 : decode cX9_figures 100 = .ok (.bipush 44, 2) := by decide +kernel
theorem dX9_figures_102 : decode cX9_figures 102 = .ok (.goto 5, 3) := by decide +kernel
theorem dX9_figures_105 : decode cX9_figures 105 = .ok (.bipush 59, 2) := by decide +kernel
theorem dX9_figures_107 : decode cX9_figures 107 = .ok (.if_icmp .eq 5, 3) := by decide +kernel
theorem dX9_figures_110 : decode cX9_figures 110 = .ok (.iconst 0, 1) := by decide +kernel
theorem dX9_figures_111 : decode cX9_figures 111 = .ok (.ireturn, 1) := by decide +kernel
theorem dX9_figures_112 : decode cX9_figures 112 = .ok (.aload_n 0, 1) := by decide +kernel
theorem dX9_figures_113 : decode cX9_figures 113 = .ok (.getfield 88, 3) := by decide +kernel
theorem dX9_figures_116 : decode cX9_figures 116 = .ok (.iload_n 2, 1) := by decide +kernel
theorem dX9_figures_117 : decode cX9_figures 117 = .ok (.iload 4, 2) := by decide +kernel
theorem dX9_figures_119 : decode cX9_figures 119 = .ok (.iastore, 1) := by decide +kernel
theorem dX9_figures_120 : decode cX9_figures 120 = .ok (.aload_n 0, 1) := by decide +kernel
theorem dX9_figures_121 : decode cX9_figures 121 = .ok (.dup, 1) := by decide +kernel
theorem dX9_figures_122 : decode cX9_figures 122 = .ok (.getfield 146, 3) := by decide +kernel
theorem dX9_figures_125 : decode cX9_figures 125 = .ok (.iconst 1, 1) := by decide +kernel
theorem dX9_figures_126 : decode cX9_figures 126 = .ok (.iadd, 1) := by decide +kernel
theorem dX9_figures_127 : decode cX9_figures 127 = .ok (.putfield 146, 3) := by decide +kernel
theorem dX9_figures_130 : decode cX9_figures 130 = .ok (.iinc 2 1, 3) := by decide +kernel
theorem dX9_figures_133 : decode cX9_figures 133 = .ok (.goto (-131), 3) := by decide +kernel
theorem dX9_figures_136 : decode cX9_figures 136 = .ok (.iconst 1, 1) := by decide +kernel
theorem dX9_figures_137 : decode cX9_figures 137 = .ok (.ireturn, 1) := by decide +kernel
theorem dX9_cellItem_0 : decode cX9_cellItem 0 = .ok (.aload_n 0, 1) := by decide +kernel
theorem dX9_cellItem_1 : decode cX9_cellItem 1 = .ok (.iconst 2, 1) := by decide +kernel
theorem dX9_cellItem_2 : decode cX9_cellItem 2 = .ok (.invokevirtual 159, 3) := by decide +kernel
theorem dX9_cellItem_5 : decode cX9_cellItem 5 = .ok (.ifCond .eq 35, 3) := by decide +kernel
theorem dX9_cellItem_8 : decode cX9_cellItem 8 = .ok (.aload_n 0, 1) := by decide +kernel
theorem dX9_cellItem_9 : decode cX9_cellItem 9 = .ok (.getfield 13, 3) := by decide +kernel
theorem dX9_cellItem_12 : decode cX9_cellItem 12 = .ok (.iconst 1, 1) := by decide +kernel
theorem dX9_cellItem_13 : decode cX9_cellItem 13 = .ok (.iaload, 1) := by decide +kernel
theorem dX9_cellItem_14 : decode cX9_cellItem 14 = .ok (.bipush 8, 2) := by decide +kernel
theorem dX9_cellItem_16 : decode cX9_cellItem 16 = .ok (.if_icmp .eq 24, 3) := by decide +kernel
theorem dX9_cellItem_19 : decode cX9_cellItem 19 = .ok (.aload_n 0, 1) := by decide +kernel
theorem dX9_cellItem_20 : decode cX9_cellItem 20 = .ok (.getfield 88, 3) := by decide +kernel
theorem dX9_cellItem_23 : decode cX9_cellItem 23 = .ok (.iconst 0, 1) := by decide +kernel
theorem dX9_cellItem_24 : decode cX9_cellItem 24 = .ok (.iaload, 1) := by decide +kernel
theorem dX9_cellItem_25 : decode cX9_cellItem 25 = .ok (.bipush 40, 2) := by decide +kernel
theorem dX9_cellItem_27 : decode cX9_cellItem 27 = .ok (.if_icmp .gt 13, 3) := by decide +kernel
theorem dX9_cellItem_30 : decode cX9_cellItem 30 = .ok (.aload_n 0, 1) := by decide +kernel
theorem dX9_cellItem_31 : decode cX9_cellItem 31 = .ok (.getfield 88, 3) := by decide +kernel
theorem dX9_cellItem_34 : decode cX9_cellItem 34 = .ok (.iconst 1, 1) := by decide +kernel
theorem dX9_cellItem_35 : decode cX9_cellItem 35 = .ok (.iaload, 1) := by decide +kernel
theorem dX9_cellItem_36 : decode cX9_cellItem 36 = .ok (.iconst 3, 1) := by decide +kernel
theorem dX9_cellItem_37 : decode cX9_cellItem 37 = .ok (.if_icmp .le 5, 3) := by decide +kernel
theorem dX9_cellItem_40 : decode cX9_cellItem 40 = .ok (.iconst 0, 1) := by decide +kernel
theorem dX9_cellItem_41 : decode cX9_cellItem 41 = .ok (.ireturn, 1) := by decide +kernel
theorem dX9_cellItem_42 : decode cX9_cellItem 42 = .ok (.aload_n 0, 1) := by decide +kernel
theorem dX9_cellItem_43 : decode cX9_cellItem 43 = .ok (.getfield 16, 3) := by decide +kernel
theorem dX9_cellItem_46 : decode cX9_cellItem 46 = .ok (.bipush 8, 2) := by decide +kernel
theorem dX9_cellItem_48 : decode cX9_cellItem 48 = .ok (.aload_n 0, 1) := by decide +kernel
theorem dX9_cellItem_49 : decode cX9_cellItem 49 = .ok (.getfield 13, 3) := by decide +kernel
theorem dX9_cellItem_52 : decode cX9_cellItem 52 = .ok (.iconst 1, 1) := by decide +kernel
theorem dX9_cellItem_53 : decode cX9_cellItem 53 = .ok (.iaload, 1) := by decide +kernel
theorem dX9_cellItem_54 : decode cX9_cellItem 54 = .ok (.iadd, 1) := by decide +kernel
theorem dX9_cellItem_55 : decode cX9_cellItem 55 = .ok (.aload_n 0, 1) := by decide +kernel
theorem dX9_cellItem_56 : decode cX9_cellItem 56 = .ok (.getfield 88, 3) := by decide +kernel
theorem dX9_cellItem_59 : decode cX9_cellItem 59 = .ok (.iconst 0, 1) := by decide +kernel
theorem dX9_cellItem_60 : decode cX9_cellItem 60 = .ok (.iaload, 1) := by decide +kernel
theorem dX9_cellItem_61 : decode cX9_cellItem 61 = .ok (.iastore, 1) := by decide +kernel
theorem dX9_cellItem_62 : decode cX9_cellItem 62 = .ok (.aload_n 0, 1) := by decide +kernel
theorem dX9_cellItem_63 : decode cX9_cellItem 63 = .ok (.getfield 19, 3) := by decide +kernel
theorem dX9_cellItem_66 : decode cX9_cellItem 66 = .ok (.bipush 8, 2) := by decide +kernel
theorem dX9_cellItem_68 : decode cX9_cellItem 68 = .ok (.aload_n 0, 1) := by decide +kernel
theorem dX9_cellItem_69 : decode cX9_cellItem 69 = .ok (.getfield 13, 3) := by decide +kernel
theorem dX9_cellItem_72 : decode cX9_cellItem 72 = .ok (.iconst 1, 1) := by decide +kernel
theorem dX9_cellItem_73 : decode cX9_cellItem 73 = .ok (.iaload, 1) := by decide +kernel
theorem dX9_cellItem_74 : decode cX9_cellItem 74 = .ok (.iadd, 1) := by decide +kernel
theorem dX9_cellItem_75 : decode cX9_cellItem 75 = .ok (.aload_n 0, 1) := by decide +kernel
theorem dX9_cellItem_76 : decode cX9_cellItem 76 = .ok (.getfield 88, 3) := by decide +kernel
theorem dX9_cellItem_79 : decode cX9_cellItem 79 = .ok (.iconst 1, 1) := by decide +kernel
theorem dX9_cellItem_80 : decode cX9_cellItem 80 = .ok (.iaload, 1) := by decide +kernel
theorem dX9_cellItem_81 : decode cX9_cellItem 81 = .ok (.iastore, 1) := by decide +kernel
theorem dX9_cellItem_82 : decode cX9_cellItem 82 = .ok (.aload_n 0, 1) := by decide +kernel
theorem dX9_cellItem_83 : decode cX9_cellItem 83 = .ok (.getfield 13, 3) := by decide +kernel
theorem dX9_cellItem_86 : decode cX9_cellItem 86 = .ok (.iconst 1, 1) := by decide +kernel
theorem dX9_cellItem_87 : decode cX9_cellItem 87 = .ok (.dup2, 1) := by decide +kernel
theorem dX9_cellItem_88 : decode cX9_cellItem 88 = .ok (.iaload, 1) := by decide +kernel
theorem dX9_cellItem_89 : decode cX9_cellItem 89 = .ok (.iconst 1, 1) := by decide +kernel
theorem dX9_cellItem_90 : decode cX9_cellItem 90 = .ok (.iadd, 1) := by decide +kernel
theorem dX9_cellItem_91 : decode cX9_cellItem 91 = .ok (.iastore, 1) := by decide +kernel
theorem dX9_cellItem_92 : decode cX9_cellItem 92 = .ok (.iconst 1, 1) := by decide +kernel
theorem dX9_cellItem_93 : decode cX9_cellItem 93 = .ok (.ireturn, 1) := by decide +kernel
theorem dX9_flowItem_0 : decode cX9_flowItem 0 = .ok (.aload_n 0, 1) := by decide +kernel
theorem dX9_flowItem_1 : decode cX9_flowItem 1 = .ok (.iconst 2, 1) := by decide +kernel
theorem dX9_flowItem_2 : decode cX9_flowItem 2 = .ok (.invokevirtual 159, 3) := by decide +kernel
theorem dX9_flowItem_5 : decode cX9_flowItem 5 = .ok (.ifCond .eq 24, 3) := by decide +kernel
theorem dX9_flowItem_8 : decode cX9_flowItem 8 = .ok (.aload_n 0, 1) := by decide +kernel
theorem dX9_flowItem_9 : decode cX9_flowItem 9 = .ok (.getfield 28, 3) := by decide +kernel
theorem dX9_flowItem_12 : decode cX9_flowItem 12 = .ok (.iconst 1, 1) := by decide +kernel
theorem dX9_flowItem_13 : decode cX9_flowItem 13 = .ok (.iaload, 1) := by decide +kernel
theorem dX9_flowItem_14 : decode cX9_flowItem 14 = .ok (.iconst 4, 1) := by decide +kernel
theorem dX9_flowItem_15 : decode cX9_flowItem 15 = .ok (.if_icmp .eq 14, 3) := by decide +kernel
theorem dX9_flowItem_18 : decode cX9_flowItem 18 = .ok (.aload_n 0, 1) := by decide +kernel
theorem dX9_flowItem_19 : decode cX9_flowItem 19 = .ok (.getfield 88, 3) := by decide +kernel
theorem dX9_flowItem_22 : decode cX9_flowItem 22 = .ok (.iconst 1, 1) := by decide +kernel
theorem dX9_flowItem_23 : decode cX9_flowItem 23 = .ok (.iaload, 1) := by decide +kernel
theorem dX9_flowItem_24 : decode cX9_flowItem 24 = .ok (.bipush 60, 2) := by decide +kernel
theorem dX9_flowItem_26 : decode cX9_flowItem 26 = .ok (.if_icmp .le 5, 3) := by decide +kernel
theorem dX9_flowItem_29 : decode cX9_flowItem 29 = .ok (.iconst 0, 1) := by decide +kernel
theorem dX9_flowItem_30 : decode cX9_flowItem 30 = .ok (.ireturn, 1) := by decide +kernel
theorem dX9_flowItem_31 : decode cX9_flowItem 31 = .ok (.aload_n 0, 1) := by decide +kernel
theorem dX9_flowItem_32 : decode cX9_flowItem 32 = .ok (.getfield 31, 3) := by decide +kernel
theorem dX9_flowItem_35 : decode cX9_flowItem 35 = .ok (.iconst 4, 1) := by decide +kernel
theorem dX9_flowItem_36 : decode cX9_flowItem 36 = .ok (.aload_n 0, 1) := by decide +kernel
theorem dX9_flowItem_37 : decode cX9_flowItem 37 = .ok (.getfield 28, 3) := by decide +kernel
theorem dX9_flowItem_40 : decode cX9_flowItem 40 = .ok (.iconst 1, 1) := by decide +kernel
theorem dX9_flowItem_41 : decode cX9_flowItem 41 = .ok (.iaload, 1) := by decide +kernel
theorem dX9_flowItem_42 : decode cX9_flowItem 42 = .ok (.iadd, 1) := by decide +kernel
theorem dX9_flowItem_43 : decode cX9_flowItem 43 = .ok (.aload_n 0, 1) := by decide +kernel
theorem dX9_flowItem_44 : decode cX9_flowItem 44 = .ok (.getfield 88, 3) := by decide +kernel
theorem dX9_flowItem_47 : decode cX9_flowItem 47 = .ok (.iconst 0, 1) := by decide +kernel
theorem dX9_flowItem_48 : decode cX9_flowItem 48 = .ok (.iaload, 1) := by decide +kernel
theorem dX9_flowItem_49 : decode cX9_flowItem 49 = .ok (.iastore, 1) := by decide +kernel
theorem dX9_flowItem_50 : decode cX9_flowItem 50 = .ok (.aload_n 0, 1) := by decide +kernel
theorem dX9_flowItem_51 : decode cX9_flowItem 51 = .ok (.getfield 34, 3) := by decide +kernel
theorem dX9_flowItem_54 : decode cX9_flowItem 54 = .ok (.iconst 4, 1) := by decide +kernel
theorem dX9_flowItem_55 : decode cX9_flowItem 55 = .ok (.aload_n 0, 1) := by decide +kernel
theorem dX9_flowItem_56 : decode cX9_flowItem 56 = .ok (.getfield 28, 3) := by decide +kernel
theorem dX9_flowItem_59 : decode cX9_flowItem 59 = .ok (.iconst 1, 1) := by decide +kernel
theorem dX9_flowItem_60 : decode cX9_flowItem 60 = .ok (.iaload, 1) := by decide +kernel
theorem dX9_flowItem_61 : decode cX9_flowItem 61 = .ok (.iadd, 1) := by decide +kernel
theorem dX9_flowItem_62 : decode cX9_flowItem 62 = .ok (.aload_n 0, 1) := by decide +kernel
theorem dX9_flowItem_63 : decode cX9_flowItem 63 = .ok (.getfield 88, 3) := by decide +kernel
theorem dX9_flowItem_66 : decode cX9_flowItem 66 = .ok (.iconst 1, 1) := by decide +kernel
theorem dX9_flowItem_67 : decode cX9_flowItem 67 = .ok (.iaload, 1) := by decide +kernel
theorem dX9_flowItem_68 : decode cX9_flowItem 68 = .ok (.iastore, 1) := by decide +kernel
theorem dX9_flowItem_69 : decode cX9_flowItem 69 = .ok (.aload_n 0, 1) := by decide +kernel
theorem dX9_flowItem_70 : decode cX9_flowItem 70 = .ok (.getfield 28, 3) := by decide +kernel
theorem dX9_flowItem_73 : decode cX9_flowItem 73 = .ok (.iconst 1, 1) := by decide +kernel
theorem dX9_flowItem_74 : decode cX9_flowItem 74 = .ok (.dup2, 1) := by decide +kernel
theorem dX9_flowItem_75 : decode cX9_flowItem 75 = .ok (.iaload, 1) := by decide +kernel
theorem dX9_flowItem_76 : decode cX9_flowItem 76 = .ok (.iconst 1, 1) := by decide +kernel
theorem dX9_flowItem_77 : decode cX9_flowItem 77 = .ok (.iadd, 1) := by decide +kernel
theorem dX9_flowItem_78 : decode cX9_flowItem 78 = .ok (.iastore, 1) := by decide +kernel
theorem dX9_flowItem_79 : decode cX9_flowItem 79 = .ok (.iconst 1, 1) := by decide +kernel
theorem dX9_flowItem_80 : decode cX9_flowItem 80 = .ok (.ireturn, 1) := by decide +kernel
theorem dX9_rainItem_0 : decode cX9_rainItem 0 = .ok (.aload_n 0, 1) := by decide +kernel
theorem dX9_rainItem_1 : decode cX9_rainItem 1 = .ok (.iconst 3, 1) := by decide +kernel
theorem dX9_rainItem_2 : decode cX9_rainItem 2 = .ok (.invokevirtual 159, 3) := by decide +kernel
theorem dX9_rainItem_5 : decode cX9_rainItem 5 = .ok (.ifCond .eq 39, 3) := by decide +kernel
theorem dX9_rainItem_8 : decode cX9_rainItem 8 = .ok (.aload_n 0, 1) := by decide +kernel
theorem dX9_rainItem_9 : decode cX9_rainItem 9 = .ok (.getfield 37, 3) := by decide +kernel
theorem dX9_rainItem_12 : decode cX9_rainItem 12 = .ok (.iconst 1, 1) := by decide +kernel
theorem dX9_rainItem_13 : decode cX9_rainItem 13 = .ok (.iaload, 1) := by decide +kernel
theorem dX9_rainItem_14 : decode cX9_rainItem 14 = .ok (.iconst 4, 1) := by decide +kernel
theorem dX9_rainItem_15 : decode cX9_rainItem 15 = .ok (.if_icmp .eq 29, 3) := by decide +kernel
theorem dX9_rainItem_18 : decode cX9_rainItem 18 = .ok (.aload_n 0, 1) := by decide +kernel
theorem dX9_rainItem_19 : decode cX9_rainItem 19 = .ok (.getfield 88, 3) := by decide +kernel
theorem dX9_rainItem_22 : decode cX9_rainItem 22 = .ok (.iconst 0, 1) := by decide +kernel
theorem dX9_rainItem_23 : decode cX9_rainItem 23 = .ok (.iaload, 1) := by decide +kernel
theorem dX9_rainItem_24 : decode cX9_rainItem 24 = .ok (.aload_n 0, 1) := by decide +kernel
theorem dX9_rainItem_25 : decode cX9_rainItem 25 = .ok (.getfield 88, 3) := by decide +kernel
theorem dX9_rainItem_28 : decode cX9_rainItem 28 = .ok (.iconst 1, 1) := by decide +kernel
theorem dX9_rainItem_29 : decode cX9_rainItem 29 = .ok (.iaload, 1) := by decide +kernel
theorem dX9_rainItem_30 : decode cX9_rainItem 30 = .ok (.if_icmp .gt 14, 3) := by decide +kernel
theorem dX9_rainItem_33 : decode cX9_rainItem 33 = .ok (.aload_n 0, 1) := by decide +kernel
theorem dX9_rainItem_34 : decode cX9_rainItem 34 = .ok (.getfield 88, 3) := by decide +kernel
theorem dX9_rainItem_37 : decode cX9_rainItem 37 = .ok (.iconst 2, 1) := by decide +kernel
theorem dX9_rainItem_38 : decode cX9_rainItem 38 = .ok (.iaload, 1) := by decide +kernel
theorem dX9_rainItem_39 : decode cX9_rainItem 39 = .ok (.bipush 30, 2) := by decide +kernel
theorem dX9_rainItem_41 : decode cX9_rainItem 41 = .ok (.if_icmp .le 5, 3) := by decide +kernel
theorem dX9_rainItem_44 : decode cX9_rainItem 44 = .ok (.iconst 0, 1) := by decide +kernel
theorem dX9_rainItem_45 : decode cX9_rainItem 45 = .ok (.ireturn, 1) := by decide +kernel
theorem dX9_rainItem_46 : decode cX9_rainItem 46 = .ok (.aload_n 0, 1) := by decide +kernel
theorem dX9_rainItem_47 : decode cX9_rainItem 47 = .ok (.getfield 40, 3) := by decide +kernel
theorem dX9_rainItem_50 : decode cX9_rainItem 50 = .ok (.iconst 4, 1) := by decide +kernel
theorem dX9_rainItem_51 : decode cX9_rainItem 51 = .ok (.aload_n 0, 1) := by decide +kernel
theorem dX9_rainItem_52 : decode cX9_rainItem 52 = .ok (.getfield 37, 3) := by decide +kernel
theorem dX9_rainItem_55 : decode cX9_rainItem 55 = .ok (.iconst 1, 1) := by decide +kernel
theorem dX9_rainItem_56 : decode cX9_rainItem 56 = .ok (.iaload, 1) := by decide +kernel
theorem dX9_rainItem_57 : decode cX9_rainItem 57 = .ok (.iadd, 1) := by decide +kernel
theorem dX9_rainItem_58 : decode cX9_rainItem 58 = .ok (.aload_n 0, 1) := by decide +kernel
theorem dX9_rainItem_59 : decode cX9_rainItem 59 = .ok (.getfield 88, 3) := by decide +kernel
theorem dX9_rainItem_62 : decode cX9_rainItem 62 = .ok (.iconst 0, 1) := by decide +kernel
theorem dX9_rainItem_63 : decode cX9_rainItem 63 = .ok (.iaload, 1) := by decide +kernel
theorem dX9_rainItem_64 : decode cX9_rainItem 64 = .ok (.iastore, 1) := by decide +kernel
theorem dX9_rainItem_65 : decode cX9_rainItem 65 = .ok (.aload_n 0, 1) := by decide +kernel
theorem dX9_rainItem_66 : decode cX9_rainItem 66 = .ok (.getfield 43, 3) := by decide +kernel
theorem dX9_rainItem_69 : decode cX9_rainItem 69 = .ok (.iconst 4, 1) := by decide +kernel
theorem dX9_rainItem_70 : decode cX9_rainItem 70 = .ok (.aload_n 0, 1) := by decide +kernel
theorem dX9_rainItem_71 : decode cX9_rainItem 71 = .ok (.getfield 37, 3) := by decide +kernel
theorem dX9_rainItem_74 : decode cX9_rainItem 74 = .ok (.iconst 1, 1) := by decide +kernel
theorem dX9_rainItem_75 : decode cX9_rainItem 75 = .ok (.iaload, 1) := by decide +kernel
theorem dX9_rainItem_76 : decode cX9_rainItem 76 = .ok (.iadd, 1) := by decide +kernel
theorem dX9_rainItem_77 : decode cX9_rainItem 77 = .ok (.aload_n 0, 1) := by decide +kernel
theorem dX9_rainItem_78 : decode cX9_rainItem 78 = .ok (.getfield 88, 3) := by decide +kernel
theorem dX9_rainItem_81 : decode cX9_rainItem 81 = .ok (.iconst 1, 1) := by decide +kernel
theorem dX9_rainItem_82 : decode cX9_rainItem 82 = .ok (.iaload, 1) := by decide +kernel
theorem dX9_rainItem_83 : decode cX9_rainItem 83 = .ok (.iastore, 1) := by decide +kernel
theorem dX9_rainItem_84 : decode cX9_rainItem 84 = .ok (.aload_n 0, 1) := by decide +kernel
theorem dX9_rainItem_85 : decode cX9_rainItem 85 = .ok (.getfield 46, 3) := by decide +kernel
theorem dX9_rainItem_88 : decode cX9_rainItem 88 = .ok (.iconst 4, 1) := by decide +kernel
theorem dX9_rainItem_89 : decode cX9_rainItem 89 = .ok (.aload_n 0, 1) := by decide +kernel
theorem dX9_rainItem_90 : decode cX9_rainItem 90 = .ok (.getfield 37, 3) := by decide +kernel
theorem dX9_rainItem_93 : decode cX9_rainItem 93 = .ok (.iconst 1, 1) := by decide +kernel
theorem dX9_rainItem_94 : decode cX9_rainItem 94 = .ok (.iaload, 1) := by decide +kernel
theorem dX9_rainItem_95 : decode cX9_rainItem 95 = .ok (.iadd, 1) := by decide +kernel
theorem dX9_rainItem_96 : decode cX9_rainItem 96 = .ok (.aload_n 0, 1) := by decide +kernel
theorem dX9_rainItem_97 : decode cX9_rainItem 97 = .ok (.getfield 88, 3) := by decide +kernel
theorem dX9_rainItem_100 : decode cX9_rainItem 100 = .ok (.iconst 2, 1) := by decide +kernel
theorem dX9_rainItem_101 : decode cX9_rainItem 101 = .ok (.iaload, 1) := by decide +kernel
theorem dX9_rainItem_102 : decode cX9_rainItem 102 = .ok (.iastore, 1) := by decide +kernel
theorem dX9_rainItem_103 : decode cX9_rainItem 103 = .ok (.aload_n 0, 1) := by decide +kernel
theorem dX9_rainItem_104 : decode cX9_rainItem 104 = .ok (.getfield 37, 3) := by decide +kernel
theorem dX9_rainItem_107 : decode cX9_rainItem 107 = .ok (.iconst 1, 1) := by decide +kernel
theorem dX9_rainItem_108 : decode cX9_rainItem 108 = .ok (.dup2, 1) := by decide +kernel
theorem dX9_rainItem_109 : decode cX9_rainItem 109 = .ok (.iaload, 1) := by decide +kernel
theorem dX9_rainItem_110 : decode cX9_rainItem 110 = .ok (.iconst 1, 1) := by decide +kernel
theorem dX9_rainItem_111 : decode cX9_rainItem 111 = .ok (.iadd, 1) := by decide +kernel
theorem dX9_rainItem_112 : decode cX9_rainItem 112 = .ok (.iastore, 1) := by decide +kernel
theorem dX9_rainItem_113 : decode cX9_rainItem 113 = .ok (.iconst 1, 1) := by decide +kernel
theorem dX9_rainItem_114 : decode cX9_rainItem 114 = .ok (.ireturn, 1) := by decide +kernel
theorem dX9_childItem_0 : decode cX9_childItem 0 = .ok (.aload_n 0, 1) := by decide +kernel
theorem dX9_childItem_1 : decode cX9_childItem 1 = .ok (.iconst 4, 1) := by decide +kernel
theorem dX9_childItem_2 : decode cX9_childItem 2 = .ok (.invokevirtual 159, 3) := by decide +kernel
theorem dX9_childItem_5 : decode cX9_childItem 5 = .ok (.ifCond .eq 17, 3) := by decide +kernel
theorem dX9_childItem_8 : decode cX9_childItem 8 = .ok (.aload_n 0, 1) := by decide +kernel
theorem dX9_childItem_9 : decode cX9_childItem 9 = .ok (.getfield 49, 3) := by decide +kernel
theorem dX9_childItem_12 : decode cX9_childItem 12 = .ok (.iconst 1, 1) := by decide +kernel
theorem dX9_childItem_13 : decode cX9_childItem 13 = .ok (.iaload, 1) := by decide +kernel
theorem dX9_childItem_14 : decode cX9_childItem 14 = .ok (.iconst 4, 1) := by decide +kernel
theorem dX9_childItem_15 : decode cX9_childItem 15 = .ok (.if_icmp .ge 7, 3) := by decide +kernel
theorem dX9_childItem_18 : decode cX9_childItem 18 = .ok (.iconst 1, 1) := by decide +kernel
theorem dX9_childItem_19 : decode cX9_childItem 19 = .ok (.goto 4, 3) := by decide +kernel
theorem dX9_childItem_22 : decode cX9_childItem 22 = .ok (.iconst 0, 1) := by decide +kernel
theorem dX9_childItem_23 : decode cX9_childItem 23 = .ok (.istore_n 1, 1) := by decide +kernel
theorem dX9_childItem_24 : decode cX9_childItem 24 = .ok (.iconst 0, 1) := by decide +kernel
theorem dX9_childItem_25 : decode cX9_childItem 25 = .ok (.istore_n 2, 1) := by decide +kernel
theorem dX9_childItem_26 : decode cX9_childItem 26 = .ok (.iload_n 2, 1) := by decide +kernel
theorem dX9_childItem_27 : decode cX9_childItem 27 = .ok (.iconst 4, 1) := by decide +kernel
theorem dX9_childItem_28 : decode cX9_childItem 28 = .ok (.if_icmp .ge 54, 3) := by decide +kernel
theorem dX9_childItem_31 : decode cX9_childItem 31 = .ok (.iload_n 1, 1) := by decide +kernel
theorem dX9_childItem_32 : decode cX9_childItem 32 = .ok (.ifCond .eq 50, 3) := by decide +kernel
theorem dX9_childItem_35 : decode cX9_childItem 35 = .ok (.aload_n 0, 1) := by decide +kernel
theorem dX9_childItem_36 : decode cX9_childItem 36 = .ok (.getfield 88, 3) := by decide +kernel
theorem dX9_childItem_39 : decode cX9_childItem 39 = .ok (.iload_n 2, 1) := by decide +kernel
theorem dX9_childItem_40 : decode cX9_childItem 40 = .ok (.iaload, 1) := by decide +kernel
theorem dX9_childItem_41 : decode cX9_childItem 41 = .ok (.bipush 10, 2) := by decide +kernel
theorem dX9_childItem_43 : decode cX9_childItem 43 = .ok (.if_icmp .ge 7, 3) := by decide +kernel
theorem dX9_childItem_46 : decode cX9_childItem 46 = .ok (.iconst 1, 1) := by decide +kernel
theorem dX9_childItem_47 : decode cX9_childItem 47 = .ok (.goto 4, 3) := by decide +kernel
theorem dX9_childItem_50 : decode cX9_childItem 50 = .ok (.iconst 0, 1) := by decide +kernel
theorem dX9_childItem_51 : decode cX9_childItem 51 = .ok (.istore_n 1, 1) := by decide +kernel
theorem dX9_childItem_52 : decode cX9_childItem 52 = .ok (.aload_n 0, 1) := by decide +kernel
theorem dX9_childItem_53 : decode cX9_childItem 53 = .ok (.getfield 52, 3) := by decide +kernel
theorem dX9_childItem_56 : decode cX9_childItem 56 = .ok (.bipush 16, 2) := by decide +kernel
theorem dX9_childItem_58 : decode cX9_childItem 58 = .ok (.iconst 4, 1) := by decide +kernel
theorem dX9_childItem_59 : decode cX9_childItem 59 = .ok (.aload_n 0, 1) := by decide +kernel
theorem dX9_childItem_60 : decode cX9_childItem 60 = .ok (.getfield 49, 3) := by decide +kernel
theorem dX9_childItem_63 : decode cX9_childItem 63 = .ok (.iconst 1, 1) := by decide +kernel
theorem dX9_childItem_64 : decode cX9_childItem 64 = .ok (.iaload, 1) := by decide +kernel
theorem dX9_childItem_65 : decode cX9_childItem 65 = .ok (.imul, 1) := by decide +kernel
theorem dX9_childItem_66 : decode cX9_childItem 66 = .ok (.iadd, 1) := by decide +kernel
theorem dX9_childItem_67 : decode cX9_childItem 67 = .ok (.iload_n 2, 1) := by decide +kernel
theorem dX9_childItem_68 : decode cX9_childItem 68 = .ok (.iadd, 1) := by decide +kernel
theorem dX9_childItem_69 : decode cX9_childItem 69 = .ok (.aload_n 0, 1) := by decide +kernel
theorem dX9_childItem_70 : decode cX9_childItem 70 = .ok (.getfield 88, 3) := by decide +kernel
theorem dX9_childItem_73 : decode cX9_childItem 73 = .ok (.iload_n 2, 1) := by decide +kernel
theorem dX9_childItem_74 : decode cX9_childItem 74 = .ok (.iaload, 1) := by decide +kernel
theorem dX9_childItem_75 : decode cX9_childItem 75 = .ok (.iastore, 1) := by decide +kernel
theorem dX9_childItem_76 : decode cX9_childItem 76 = .ok (.iinc 2 1, 3) := by decide +kernel
theorem dX9_childItem_79 : decode cX9_childItem 79 = .ok (.goto (-53), 3) := by decide +kernel
theorem dX9_childItem_82 : decode cX9_childItem 82 = .ok (.aload_n 0, 1) := by decide +kernel
theorem dX9_childItem_83 : decode cX9_childItem 83 = .ok (.getfield 49, 3) := by decide +kernel
theorem dX9_childItem_86 : decode cX9_childItem 86 = .ok (.iconst 1, 1) := by decide +kernel
theorem dX9_childItem_87 : decode cX9_childItem 87 = .ok (.dup2, 1) := by decide +kernel
theorem dX9_childItem_88 : decode cX9_childItem 88 = .ok (.iaload, 1) := by decide +kernel
theorem dX9_childItem_89 : decode cX9_childItem 89 = .ok (.iload_n 1, 1) := by decide +kernel
theorem dX9_childItem_90 : decode cX9_childItem 90 = .ok (.ifCond .eq 7, 3) := by decide +kernel
theorem dX9_childItem_93 : decode cX9_childItem 93 = .ok (.iconst 1, 1) := by decide +kernel
theorem dX9_childItem_94 : decode cX9_childItem 94 = .ok (.goto 4, 3) := by decide +kernel
theorem dX9_childItem_97 : decode cX9_childItem 97 = .ok (.iconst 0, 1) := by decide +kernel
theorem dX9_childItem_98 : decode cX9_childItem 98 = .ok (.iadd, 1) := by decide +kernel
theorem dX9_childItem_99 : decode cX9_childItem 99 = .ok (.iastore, 1) := by decide +kernel
theorem dX9_childItem_100 : decode cX9_childItem 100 = .ok (.iload_n 1, 1) := by decide +kernel
theorem dX9_childItem_101 : decode cX9_childItem 101 = .ok (.ireturn, 1) := by decide +kernel
theorem dX9_jobItem_0 : decode cX9_jobItem 0 = .ok (.aload_n 0, 1) := by decide +kernel
theorem dX9_jobItem_1 : decode cX9_jobItem 1 = .ok (.iconst 3, 1) := by decide +kernel
theorem dX9_jobItem_2 : decode cX9_jobItem 2 = .ok (.invokevirtual 159, 3) := by decide +kernel
theorem dX9_jobItem_5 : decode cX9_jobItem 5 = .ok (.ifCond .eq 55, 3) := by decide +kernel
theorem dX9_jobItem_8 : decode cX9_jobItem 8 = .ok (.aload_n 0, 1) := by decide +kernel
theorem dX9_jobItem_9 : decode cX9_jobItem 9 = .ok (.getfield 55, 3) := by decide +kernel
theorem dX9_jobItem_12 : decode cX9_jobItem 12 = .ok (.iconst 1, 1) := by decide +kernel
theorem dX9_jobItem_13 : decode cX9_jobItem 13 = .ok (.iaload, 1) := by decide +kernel
theorem dX9_jobItem_14 : decode cX9_jobItem 14 = .ok (.iconst 5, 1) := by decide +kernel
theorem dX9_jobItem_15 : decode cX9_jobItem 15 = .ok (.if_icmp .eq 45, 3) := by decide +kernel
theorem dX9_jobItem_18 : decode cX9_jobItem 18 = .ok (.aload_n 0, 1) := by decide +kernel
theorem dX9_jobItem_19 : decode cX9_jobItem 19 = .ok (.getfield 88, 3) := by decide +kernel
theorem dX9_jobItem_22 : decode cX9_jobItem 22 = .ok (.iconst 0, 1) := by decide +kernel
theorem dX9_jobItem_23 : decode cX9_jobItem 23 = .ok (.iaload, 1) := by decide +kernel
theorem dX9_jobItem_24 : decode cX9_jobItem 24 = .ok (.aload_n 0, 1) := by decide +kernel
theorem dX9_jobItem_25 : decode cX9_jobItem 25 = .ok (.getfield 13, 3) := by decide +kernel
theorem dX9_jobItem_28 : decode cX9_jobItem 28 = .ok (.iconst 1, 1) := by decide +kernel
theorem dX9_jobItem_29 : decode cX9_jobItem 29 = .ok (.iaload, 1) := by decide +kernel
theorem dX9_jobItem_30 : decode cX9_jobItem 30 = .ok (.if_icmp .ge 30, 3) := by decide +kernel
theorem dX9_jobItem_33 : decode cX9_jobItem 33 = .ok (.aload_n 0, 1) := by decide +kernel
theorem dX9_jobItem_34 : decode cX9_jobItem 34 = .ok (.getfield 88, 3) := by decide +kernel
theorem dX9_jobItem_37 : decode cX9_jobItem 37 = .ok (.iconst 1, 1) := by decide +kernel
theorem dX9_jobItem_38 : decode cX9_jobItem 38 = .ok (.iaload, 1) := by decide +kernel
theorem dX9_jobItem_39 : decode cX9_jobItem 39 = .ok (.iconst 3, 1) := by decide +kernel
theorem dX9_jobItem_40 : decode cX9_jobItem 40 = .ok (.if_icmp .gt 20, 3) := by decide +kernel
theorem dX9_jobItem_43 : decode cX9_jobItem 43 = .ok (.aload_n 0, 1) := by decide +kernel
theorem dX9_jobItem_44 : decode cX9_jobItem 44 = .ok (.getfield 88, 3) := by decide +kernel
theorem dX9_jobItem_47 : decode cX9_jobItem 47 = .ok (.iconst 2, 1) := by decide +kernel
theorem dX9_jobItem_48 : decode cX9_jobItem 48 = .ok (.iaload, 1) := by decide +kernel
theorem dX9_jobItem_49 : decode cX9_jobItem 49 = .ok (.i2l, 1) := by decide +kernel
theorem dX9_jobItem_50 : decode cX9_jobItem 50 = .ok (.lconst 1, 1) := by decide +kernel
theorem dX9_jobItem_51 : decode cX9_jobItem 51 = .ok (.ldc2_w 163, 3) := by decide +kernel
theorem dX9_jobItem_54 : decode cX9_jobItem 54 = .ok (.invokestatic 138, 3) := by decide +kernel
theorem dX9_jobItem_57 : decode cX9_jobItem 57 = .ok (.ifCond .ne 5, 3) := by decide +kernel
theorem dX9_jobItem_60 : decode cX9_jobItem 60 = .ok (.iconst 0, 1) := by decide +kernel
theorem dX9_jobItem_61 : decode cX9_jobItem 61 = .ok (.ireturn, 1) := by decide +kernel
theorem dX9_jobItem_62 : decode cX9_jobItem 62 = .ok (.aload_n 0, 1) := by decide +kernel
theorem dX9_jobItem_63 : decode cX9_jobItem 63 = .ok (.getfield 58, 3) := by decide +kernel
theorem dX9_jobItem_66 : decode cX9_jobItem 66 = .ok (.iconst 5, 1) := by decide +kernel
theorem dX9_jobItem_67 : decode cX9_jobItem 67 = .ok (.aload_n 0, 1) := by decide +kernel
theorem dX9_jobItem_68 : decode cX9_jobItem 68 = .ok (.getfield 55, 3) := by decide +kernel
theorem dX9_jobItem_71 : decode cX9_jobItem 71 = .ok (.iconst 1, 1) := by decide +kernel
theorem dX9_jobItem_72 : decode cX9_jobItem 72 = .ok (.iaload, 1) := by decide +kernel
theorem dX9_jobItem_73 : decode cX9_jobItem 73 = .ok (.iadd, 1) := by decide +kernel
theorem dX9_jobItem_74 : decode cX9_jobItem 74 = .ok (.aload_n 0, 1) := by decide +kernel
theorem dX9_jobItem_75 : decode cX9_jobItem 75 = .ok (.getfield 88, 3) := by decide +kernel
theorem dX9_jobItem_78 : decode cX9_jobItem 78 = .ok (.iconst 0, 1) := by decide +kernel
theorem dX9_jobItem_79 : decode cX9_jobItem 79 = .ok (.iaload, 1) := by decide +kernel
theorem dX9_jobItem_80 : decode cX9_jobItem 80 = .ok (.iastore, 1) := by decide +kernel
theorem dX9_jobItem_81 : decode cX9_jobItem 81 = .ok (.aload_n 0, 1) := by decide +kernel
theorem dX9_jobItem_82 : decode cX9_jobItem 82 = .ok (.getfield 61, 3) := by decide +kernel
theorem dX9_jobItem_85 : decode cX9_jobItem 85 = .ok (.iconst 5, 1) := by decide +kernel
theorem dX9_jobItem_86 : decode cX9_jobItem 86 = .ok (.aload_n 0, 1) := by decide +kernel
theorem dX9_jobItem_87 : decode cX9_jobItem 87 = .ok (.getfield 55, 3) := by decide +kernel
theorem dX9_jobItem_90 : decode cX9_jobItem 90 = .ok (.iconst 1, 1) := by decide +kernel
theorem dX9_jobItem_91 : decode cX9_jobItem 91 = .ok (.iaload, 1) := by decide +kernel
theorem dX9_jobItem_92 : decode cX9_jobItem 92 = .ok (.iadd, 1) := by decide +kernel
theorem dX9_jobItem_93 : decode cX9_jobItem 93 = .ok (.aload_n 0, 1) := by decide +kernel
theorem dX9_jobItem_94 : decode cX9_jobItem 94 = .ok (.getfield 88, 3) := by decide +kernel
theorem dX9_jobItem_97 : decode cX9_jobItem 97 = .ok (.iconst 1, 1) := by decide +kernel
theorem dX9_jobItem_98 : decode cX9_jobItem 98 = .ok (.iaload, 1) := by decide +kernel
theorem dX9_jobItem_99 : decode cX9_jobItem 99 = .ok (.iastore, 1) := by decide +kernel
theorem dX9_jobItem_100 : decode cX9_jobItem 100 = .ok (.aload_n 0, 1) := by decide +kernel
theorem dX9_jobItem_101 : decode cX9_jobItem 101 = .ok (.getfield 64, 3) := by decide +kernel
theorem dX9_jobItem_104 : decode cX9_jobItem 104 = .ok (.iconst 5, 1) := by decide +kernel
theorem dX9_jobItem_105 : decode cX9_jobItem 105 = .ok (.aload_n 0, 1) := by decide +kernel
theorem dX9_jobItem_106 : decode cX9_jobItem 106 = .ok (.getfield 55, 3) := by decide +kernel
theorem dX9_jobItem_109 : decode cX9_jobItem 109 = .ok (.iconst 1, 1) := by decide +kernel
theorem dX9_jobItem_110 : decode cX9_jobItem 110 = .ok (.iaload, 1) := by decide +kernel
theorem dX9_jobItem_111 : decode cX9_jobItem 111 = .ok (.iadd, 1) := by decide +kernel
theorem dX9_jobItem_112 : decode cX9_jobItem 112 = .ok (.aload_n 0, 1) := by decide +kernel
theorem dX9_jobItem_113 : decode cX9_jobItem 113 = .ok (.getfield 88, 3) := by decide +kernel
theorem dX9_jobItem_116 : decode cX9_jobItem 116 = .ok (.iconst 2, 1) := by decide +kernel
theorem dX9_jobItem_117 : decode cX9_jobItem 117 = .ok (.iaload, 1) := by decide +kernel
theorem dX9_jobItem_118 : decode cX9_jobItem 118 = .ok (.iastore, 1) := by decide +kernel
theorem dX9_jobItem_119 : decode cX9_jobItem 119 = .ok (.aload_n 0, 1) := by decide +kernel
theorem dX9_jobItem_120 : decode cX9_jobItem 120 = .ok (.getfield 55, 3) := by decide +kernel
theorem dX9_jobItem_123 : decode cX9_jobItem 123 = .ok (.iconst 1, 1) := by decide +kernel
theorem dX9_jobItem_124 : decode cX9_jobItem 124 = .ok (.dup2, 1) := by decide +kernel
theorem dX9_jobItem_125 : decode cX9_jobItem 125 = .ok (.iaload, 1) := by decide +kernel
theorem dX9_jobItem_126 : decode cX9_jobItem 126 = .ok (.iconst 1, 1) := by decide +kernel
theorem dX9_jobItem_127 : decode cX9_jobItem 127 = .ok (.iadd, 1) := by decide +kernel
theorem dX9_jobItem_128 : decode cX9_jobItem 128 = .ok (.iastore, 1) := by decide +kernel
theorem dX9_jobItem_129 : decode cX9_jobItem 129 = .ok (.iconst 1, 1) := by decide +kernel
theorem dX9_jobItem_130 : decode cX9_jobItem 130 = .ok (.ireturn, 1) := by decide +kernel
theorem dX9_item_0 : decode cX9_item 0 = .ok (.aload_n 0, 1) := by decide +kernel
theorem dX9_item_1 : decode cX9_item 1 = .ok (.aload_n 0, 1) := by decide +kernel
theorem dX9_item_2 : decode cX9_item 2 = .ok (.getfield 146, 3) := by decide +kernel
theorem dX9_item_5 : decode cX9_item 5 = .ok (.invokevirtual 149, 3) := by decide +kernel
theorem dX9_item_8 : decode cX9_item 8 = .ok (.istore_n 1, 1) := by decide +kernel
theorem dX9_item_9 : decode cX9_item 9 = .ok (.aload_n 0, 1) := by decide +kernel
theorem dX9_item_10 : decode cX9_item 10 = .ok (.dup, 1) := by decide +kernel
theorem dX9_item_11 : decode cX9_item 11 = .ok (.getfield 146, 3) := by decide +kernel
theorem dX9_item_14 : decode cX9_item 14 = .ok (.iconst 1, 1) := by decide +kernel
theorem dX9_item_15 : decode cX9_item 15 = .ok (.iadd, 1) := by decide +kernel
theorem dX9_item_16 : decode cX9_item 16 = .ok (.putfield 146, 3) := by decide +kernel
theorem dX9_item_19 : decode cX9_item 19 = .ok (.iload_n 1, 1) := by decide +kernel
theorem dX9_item_20 : decode cX9_item 20 = .ok (.tableswitch 234 97 114 #[151, 93, 88, 234, 234, 214, 234, 234, 234, 229, 234, 234, 234, 234, 234, 224, 234, 219], 88) := by decide +kernel
theorem dX9_item_108 : decode cX9_item 108 = .ok (.aload_n 0, 1) := by decide +kernel
theorem dX9_item_109 : decode cX9_item 109 = .ok (.invokevirtual 165, 3) := by decide +kernel
theorem dX9_item_112 : decode cX9_item 112 = .ok (.ireturn, 1) := by decide +kernel
theorem dX9_item_113 : decode cX9_item 113 = .ok (.aload_n 0, 1) := by decide +kernel
theorem dX9_item_114 : decode cX9_item 114 = .ok (.iconst 2, 1) := by decide +kernel
theorem dX9_item_115 : decode cX9_item 115 = .ok (.invokevirtual 159, 3) := by decide +kernel
theorem dX9_item_118 : decode cX9_item 118 = .ok (.ifCond .eq 25, 3) := by decide +kernel
theorem dX9_item_121 : decode cX9_item 121 = .ok (.aload_n 0, 1) := by decide +kernel
theorem dX9_item_122 : decode cX9_item 122 = .ok (.getfield 88, 3) := by decide +kernel
theorem dX9_item_125 : decode cX9_item 125 = .ok (.iconst 0, 1) := by decide +kernel
theorem dX9_item_126 : decode cX9_item 126 = .ok (.iaload, 1) := by decide +kernel
theorem dX9_item_127 : decode cX9_item 127 = .ok (.bipush 50, 2) := by decide +kernel
theorem dX9_item_129 : decode cX9_item 129 = .ok (.if_icmp .gt 14, 3) := by decide +kernel
theorem dX9_item_132 : decode cX9_item 132 = .ok (.aload_n 0, 1) := by decide +kernel
theorem dX9_item_133 : decode cX9_item 133 = .ok (.getfield 88, 3) := by decide +kernel
theorem dX9_item_136 : decode cX9_item 136 = .ok (.iconst 1, 1) := by decide +kernel
theorem dX9_item_137 : decode cX9_item 137 = .ok (.iaload, 1) := by decide +kernel
theorem dX9_item_138 : decode cX9_item 138 = .ok (.bipush 50, 2) := by decide +kernel
theorem dX9_item_140 : decode cX9_item 140 = .ok (.if_icmp .le 5, 3) := by decide +kernel
theorem dX9_item_143 : decode cX9_item 143 = .ok (.iconst 0, 1) := by decide +kernel
theorem dX9_item_144 : decode cX9_item 144 = .ok (.ireturn, 1) := by decide +kernel
theorem dX9_item_145 : decode cX9_item 145 = .ok (.aload_n 0, 1) := by decide +kernel
theorem dX9_item_146 : decode cX9_item 146 = .ok (.getfield 22, 3) := by decide +kernel
theorem dX9_item_149 : decode cX9_item 149 = .ok (.iconst 2, 1) := by decide +kernel
theorem dX9_item_150 : decode cX9_item 150 = .ok (.aload_n 0, 1) := by decide +kernel
theorem dX9_item_151 : decode cX9_item 151 = .ok (.getfield 88, 3) := by decide +kernel
theorem dX9_item_154 : decode cX9_item 154 = .ok (.iconst 0, 1) := by decide +kernel
theorem dX9_item_155 : decode cX9_item 155 = .ok (.iaload, 1) := by decide +kernel
theorem dX9_item_156 : decode cX9_item 156 = .ok (.iastore, 1) := by decide +kernel
theorem dX9_item_157 : decode cX9_item 157 = .ok (.aload_n 0, 1) := by decide +kernel
theorem dX9_item_158 : decode cX9_item 158 = .ok (.getfield 22, 3) := by decide +kernel
theorem dX9_item_161 : decode cX9_item 161 = .ok (.iconst 3, 1) := by decide +kernel
theorem dX9_item_162 : decode cX9_item 162 = .ok (.aload_n 0, 1) := by decide +kernel
theorem dX9_item_163 : decode cX9_item 163 = .ok (.getfield 88, 3) := by decide +kernel
theorem dX9_item_166 : decode cX9_item 166 = .ok (.iconst 1, 1) := by decide +kernel
theorem dX9_item_167 : decode cX9_item 167 = .ok (.iaload, 1) := by decide +kernel
theorem dX9_item_168 : decode cX9_item 168 = .ok (.iastore, 1) := by decide +kernel
theorem dX9_item_169 : decode cX9_item 169 = .ok (.iconst 1, 1) := by decide +kernel
theorem dX9_item_170 : decode cX9_item 170 = .ok (.ireturn, 1) := by decide +kernel
theorem dX9_item_171 : decode cX9_item 171 = .ok (.aload_n 0, 1) := by decide +kernel
theorem dX9_item_172 : decode cX9_item 172 = .ok (.iconst 2, 1) := by decide +kernel
theorem dX9_item_173 : decode cX9_item 173 = .ok (.invokevirtual 159, 3) := by decide +kernel
theorem dX9_item_176 : decode cX9_item 176 = .ok (.ifCond .eq 30, 3) := by decide +kernel
theorem dX9_item_179 : decode cX9_item 179 = .ok (.aload_n 0, 1) := by decide +kernel
theorem dX9_item_180 : decode cX9_item 180 = .ok (.getfield 88, 3) := by decide +kernel
theorem dX9_item_183 : decode cX9_item 183 = .ok (.iconst 0, 1) := by decide +kernel
theorem dX9_item_184 : decode cX9_item 184 = .ok (.iaload, 1) := by decide +kernel
theorem dX9_item_185 : decode cX9_item 185 = .ok (.i2l, 1) := by decide +kernel
theorem dX9_item_186 : decode cX9_item 186 = .ok (.lconst 1, 1) := by decide +kernel
theorem dX9_item_187 : decode cX9_item 187 = .ok (.ldc2_w 169, 3) := by decide +kernel
theorem dX9_item_190 : decode cX9_item 190 = .ok (.invokestatic 138, 3) := by decide +kernel
theorem dX9_item_193 : decode cX9_item 193 = .ok (.ifCond .eq 13, 3) := by decide +kernel
theorem dX9_item_196 : decode cX9_item 196 = .ok (.aload_n 0, 1) := by decide +kernel
theorem dX9_item_197 : decode cX9_item 197 = .ok (.getfield 88, 3) := by decide +kernel
theorem dX9_item_200 : decode cX9_item 200 = .ok (.iconst 1, 1) := by decide +kernel
theorem dX9_item_201 : decode cX9_item 201 = .ok (.iaload, 1) := by decide +kernel
theorem dX9_item_202 : decode cX9_item 202 = .ok (.iconst 5, 1) := by decide +kernel
theorem dX9_item_203 : decode cX9_item 203 = .ok (.if_icmp .le 5, 3) := by decide +kernel
theorem dX9_item_206 : decode cX9_item 206 = .ok (.iconst 0, 1) := by decide +kernel
theorem dX9_item_207 : decode cX9_item 207 = .ok (.ireturn, 1) := by decide +kernel
theorem dX9_item_208 : decode cX9_item 208 = .ok (.aload_n 0, 1) := by decide +kernel
theorem dX9_item_209 : decode cX9_item 209 = .ok (.getfield 25, 3) := by decide +kernel
theorem dX9_item_212 : decode cX9_item 212 = .ok (.iconst 2, 1) := by decide +kernel
theorem dX9_item_213 : decode cX9_item 213 = .ok (.aload_n 0, 1) := by decide +kernel
theorem dX9_item_214 : decode cX9_item 214 = .ok (.getfield 88, 3) := by decide +kernel
theorem dX9_item_217 : decode cX9_item 217 = .ok (.iconst 0, 1) := by decide +kernel
theorem dX9_item_218 : decode cX9_item 218 = .ok (.iaload, 1) := by decide +kernel
theorem dX9_item_219 : decode cX9_item 219 = .ok (.iastore, 1) := by decide +kernel
theorem dX9_item_220 : decode cX9_item 220 = .ok (.aload_n 0, 1) := by decide +kernel
theorem dX9_item_221 : decode cX9_item 221 = .ok (.getfield 25, 3) := by decide +kernel
theorem dX9_item_224 : decode cX9_item 224 = .ok (.iconst 3, 1) := by decide +kernel
theorem dX9_item_225 : decode cX9_item 225 = .ok (.aload_n 0, 1) := by decide +kernel
theorem dX9_item_226 : decode cX9_item 226 = .ok (.getfield 88, 3) := by decide +kernel
theorem dX9_item_229 : decode cX9_item 229 = .ok (.iconst 1, 1) := by decide +kernel
theorem dX9_item_230 : decode cX9_item 230 = .ok (.iaload, 1) := by decide +kernel
theorem dX9_item_231 : decode cX9_item 231 = .ok (.iastore, 1) := by decide +kernel
theorem dX9_item_232 : decode cX9_item 232 = .ok (.iconst 1, 1) := by decide +kernel
theorem dX9_item_233 : decode cX9_item 233 = .ok (.ireturn, 1) := by decide +kernel
theorem dX9_item_234 : decode cX9_item 234 = .ok (.aload_n 0, 1) := by decide +kernel
theorem dX9_item_235 : decode cX9_item 235 = .ok (.invokevirtual 171, 3) := by decide +kernel
theorem dX9_item_238 : decode cX9_item 238 = .ok (.ireturn, 1) := by decide +kernel
theorem dX9_item_239 : decode cX9_item 239 = .ok (.aload_n 0, 1) := by decide +kernel
theorem dX9_item_240 : decode cX9_item 240 = .ok (.invokevirtual 174, 3) := by decide +kernel
theorem dX9_item_243 : decode cX9_item 243 = .ok (.ireturn, 1) := by decide +kernel
theorem dX9_item_244 : decode cX9_item 244 = .ok (.aload_n 0, 1) := by decide +kernel
theorem dX9_item_245 : decode cX9_item 245 = .ok (.invokevirtual 177, 3) := by decide +kernel
theorem dX9_item_248 : decode cX9_item 248 = .ok (.ireturn, 1) := by decide +kernel
theorem dX9_item_249 : decode cX9_item 249 = .ok (.aload_n 0, 1) := by decide +kernel
theorem dX9_item_250 : decode cX9_item 250 = .ok (.invokevirtual 180, 3) := by decide +kernel
theorem dX9_item_253 : decode cX9_item 253 = .ok (.ireturn, 1) := by decide +kernel
theorem dX9_item_254 : decode cX9_item 254 = .ok (.iconst 0, 1) := by decide +kernel
theorem dX9_item_255 : decode cX9_item 255 = .ok (.ireturn, 1) := by decide +kernel
theorem dX9_readAll_0 : decode cX9_readAll 0 = .ok (.aload_n 0, 1) := by decide +kernel
theorem dX9_readAll_1 : decode cX9_readAll 1 = .ok (.iconst 1, 1) := by decide +kernel
theorem dX9_readAll_2 : decode cX9_readAll 2 = .ok (.invokevirtual 127, 3) := by decide +kernel
theorem dX9_readAll_5 : decode cX9_readAll 5 = .ok (.aload_n 0, 1) := by decide +kernel
theorem dX9_readAll_6 : decode cX9_readAll 6 = .ok (.iconst 0, 1) := by decide +kernel
theorem dX9_readAll_7 : decode cX9_readAll 7 = .ok (.putfield 146, 3) := by decide +kernel
theorem dX9_readAll_10 : decode cX9_readAll 10 = .ok (.aload_n 0, 1) := by decide +kernel
theorem dX9_readAll_11 : decode cX9_readAll 11 = .ok (.getfield 146, 3) := by decide +kernel
theorem dX9_readAll_14 : decode cX9_readAll 14 = .ok (.aload_n 0, 1) := by decide +kernel
theorem dX9_readAll_15 : decode cX9_readAll 15 = .ok (.getfield 142, 3) := by decide +kernel
theorem dX9_readAll_18 : decode cX9_readAll 18 = .ok (.if_icmp .ge 20, 3) := by decide +kernel
theorem dX9_readAll_21 : decode cX9_readAll 21 = .ok (.aload_n 0, 1) := by decide +kernel
theorem dX9_readAll_22 : decode cX9_readAll 22 = .ok (.getfield 146, 3) := by decide +kernel
theorem dX9_readAll_25 : decode cX9_readAll 25 = .ok (.istore_n 1, 1) := by decide +kernel
theorem dX9_readAll_26 : decode cX9_readAll 26 = .ok (.aload_n 0, 1) := by decide +kernel
theorem dX9_readAll_27 : decode cX9_readAll 27 = .ok (.invokevirtual 183, 3) := by decide +kernel
theorem dX9_readAll_30 : decode cX9_readAll 30 = .ok (.ifCond .ne 5, 3) := by decide +kernel
theorem dX9_readAll_33 : decode cX9_readAll 33 = .ok (.iload_n 1, 1) := by decide +kernel
theorem dX9_readAll_34 : decode cX9_readAll 34 = .ok (.ireturn, 1) := by decide +kernel
theorem dX9_readAll_35 : decode cX9_readAll 35 = .ok (.goto (-25), 3) := by decide +kernel
theorem dX9_readAll_38 : decode cX9_readAll 38 = .ok (.bipush (-4), 2) := by decide +kernel
theorem dX9_readAll_40 : decode cX9_readAll 40 = .ok (.ireturn, 1) := by decide +kernel
theorem dX9_fault_0 : decode cX9_fault 0 = .ok (.aload_n 0, 1) := by decide +kernel
theorem dX9_fault_1 : decode cX9_fault 1 = .ok (.invokevirtual 186, 3) := by decide +kernel
theorem dX9_fault_4 : decode cX9_fault 4 = .ok (.ireturn, 1) := by decide +kernel
theorem dX9_laid_0 : decode cX9_laid 0 = .ok (.aload_n 0, 1) := by decide +kernel
theorem dX9_laid_1 : decode cX9_laid 1 = .ok (.invokevirtual 186, 3) := by decide +kernel
theorem dX9_laid_4 : decode cX9_laid 4 = .ok (.bipush (-4), 2) := by decide +kernel
theorem dX9_laid_6 : decode cX9_laid 6 = .ok (.if_icmp .ne 12, 3) := by decide +kernel
theorem dX9_laid_9 : decode cX9_laid 9 = .ok (.aload_n 0, 1) := by decide +kernel
theorem dX9_laid_10 : decode cX9_laid 10 = .ok (.getfield 13, 3) := by decide +kernel
theorem dX9_laid_13 : decode cX9_laid 13 = .ok (.iconst 1, 1) := by decide +kernel
theorem dX9_laid_14 : decode cX9_laid 14 = .ok (.iaload, 1) := by decide +kernel
theorem dX9_laid_15 : decode cX9_laid 15 = .ok (.ifCond .ne 6, 3) := by decide +kernel
theorem dX9_laid_18 : decode cX9_laid 18 = .ok (.bipush (-2), 2) := by decide +kernel
theorem dX9_laid_20 : decode cX9_laid 20 = .ok (.ireturn, 1) := by decide +kernel
theorem dX9_laid_21 : decode cX9_laid 21 = .ok (.aload_n 0, 1) := by decide +kernel
theorem dX9_laid_22 : decode cX9_laid 22 = .ok (.getfield 13, 3) := by decide +kernel
theorem dX9_laid_25 : decode cX9_laid 25 = .ok (.iconst 0, 1) := by decide +kernel
theorem dX9_laid_26 : decode cX9_laid 26 = .ok (.aload_n 0, 1) := by decide +kernel
theorem dX9_laid_27 : decode cX9_laid 27 = .ok (.getfield 13, 3) := by decide +kernel
theorem dX9_laid_30 : decode cX9_laid 30 = .ok (.iconst 1, 1) := by decide +kernel
theorem dX9_laid_31 : decode cX9_laid 31 = .ok (.iaload, 1) := by decide +kernel
theorem dX9_laid_32 : decode cX9_laid 32 = .ok (.iastore, 1) := by decide +kernel
theorem dX9_laid_33 : decode cX9_laid 33 = .ok (.aload_n 0, 1) := by decide +kernel
theorem dX9_laid_34 : decode cX9_laid 34 = .ok (.getfield 28, 3) := by decide +kernel
theorem dX9_laid_37 : decode cX9_laid 37 = .ok (.iconst 0, 1) := by decide +kernel
theorem dX9_laid_38 : decode cX9_laid 38 = .ok (.aload_n 0, 1) := by decide +kernel
theorem dX9_laid_39 : decode cX9_laid 39 = .ok (.getfield 28, 3) := by decide +kernel
theorem dX9_laid_42 : decode cX9_laid 42 = .ok (.iconst 1, 1) := by decide +kernel
theorem dX9_laid_43 : decode cX9_laid 43 = .ok (.iaload, 1) := by decide +kernel
theorem dX9_laid_44 : decode cX9_laid 44 = .ok (.iastore, 1) := by decide +kernel
theorem dX9_laid_45 : decode cX9_laid 45 = .ok (.aload_n 0, 1) := by decide +kernel
theorem dX9_laid_46 : decode cX9_laid 46 = .ok (.getfield 37, 3) := by decide +kernel
theorem dX9_laid_49 : decode cX9_laid 49 = .ok (.iconst 0, 1) := by decide +kernel
theorem dX9_laid_50 : decode cX9_laid 50 = .ok (.aload_n 0, 1) := by decide +kernel
theorem dX9_laid_51 : decode cX9_laid 51 = .ok (.getfield 37, 3) := by decide +kernel
theorem dX9_laid_54 : decode cX9_laid 54 = .ok (.iconst 1, 1) := by decide +kernel
theorem dX9_laid_55 : decode cX9_laid 55 = .ok (.iaload, 1) := by decide +kernel
theorem dX9_laid_56 : decode cX9_laid 56 = .ok (.iastore, 1) := by decide +kernel
theorem dX9_laid_57 : decode cX9_laid 57 = .ok (.aload_n 0, 1) := by decide +kernel
theorem dX9_laid_58 : decode cX9_laid 58 = .ok (.getfield 49, 3) := by decide +kernel
theorem dX9_laid_61 : decode cX9_laid 61 = .ok (.iconst 0, 1) := by decide +kernel
theorem dX9_laid_62 : decode cX9_laid 62 = .ok (.aload_n 0, 1) := by decide +kernel
theorem dX9_laid_63 : decode cX9_laid 63 = .ok (.getfield 49, 3) := by decide +kernel
theorem dX9_laid_66 : decode cX9_laid 66 = .ok (.iconst 1, 1) := by decide +kernel
theorem dX9_laid_67 : decode cX9_laid 67 = .ok (.iaload, 1) := by decide +kernel
theorem dX9_laid_68 : decode cX9_laid 68 = .ok (.iastore, 1) := by decide +kernel
theorem dX9_laid_69 : decode cX9_laid 69 = .ok (.aload_n 0, 1) := by decide +kernel
theorem dX9_laid_70 : decode cX9_laid 70 = .ok (.getfield 55, 3) := by decide +kernel
theorem dX9_laid_73 : decode cX9_laid 73 = .ok (.iconst 0, 1) := by decide +kernel
theorem dX9_laid_74 : decode cX9_laid 74 = .ok (.aload_n 0, 1) := by decide +kernel
theorem dX9_laid_75 : decode cX9_laid 75 = .ok (.getfield 55, 3) := by decide +kernel
theorem dX9_laid_78 : decode cX9_laid 78 = .ok (.iconst 1, 1) := by decide +kernel
theorem dX9_laid_79 : decode cX9_laid 79 = .ok (.iaload, 1) := by decide +kernel
theorem dX9_laid_80 : decode cX9_laid 80 = .ok (.iastore, 1) := by decide +kernel
theorem dX9_laid_81 : decode cX9_laid 81 = .ok (.iconst 0, 1) := by decide +kernel
theorem dX9_laid_82 : decode cX9_laid 82 = .ok (.istore_n 1, 1) := by decide +kernel
theorem dX9_laid_83 : decode cX9_laid 83 = .ok (.iload_n 1, 1) := by decide +kernel
theorem dX9_laid_84 : decode cX9_laid 84 = .ok (.iconst 2, 1) := by decide +kernel
theorem dX9_laid_85 : decode cX9_laid 85 = .ok (.if_icmp .ge 37, 3) := by decide +kernel
theorem dX9_laid_88 : decode cX9_laid 88 = .ok (.aload_n 0, 1) := by decide +kernel
theorem dX9_laid_89 : decode cX9_laid 89 = .ok (.getfield 22, 3) := by decide +kernel
theorem dX9_laid_92 : decode cX9_laid 92 = .ok (.iload_n 1, 1) := by decide +kernel
theorem dX9_laid_93 : decode cX9_laid 93 = .ok (.aload_n 0, 1) := by decide +kernel
theorem dX9_laid_94 : decode cX9_laid 94 = .ok (.getfield 22, 3) := by decide +kernel
theorem dX9_laid_97 : decode cX9_laid 97 = .ok (.iconst 2, 1) := by decide +kernel
theorem dX9_laid_98 : decode cX9_laid 98 = .ok (.iload_n 1, 1) := by decide +kernel
theorem dX9_laid_99 : decode cX9_laid 99 = .ok (.iadd, 1) := by decide +kernel
theorem dX9_laid_100 : decode cX9_laid 100 = .ok (.iaload, 1) := by decide +kernel
theorem dX9_laid_101 : decode cX9_laid 101 = .ok (.iastore, 1) := by decide +kernel
theorem dX9_laid_102 : decode cX9_laid 102 = .ok (.aload_n 0, 1) := by decide +kernel
theorem dX9_laid_103 : decode cX9_laid 103 = .ok (.getfield 25, 3) := by decide +kernel
theorem dX9_laid_106 : decode cX9_laid 106 = .ok (.iload_n 1, 1) := by decide +kernel
theorem dX9_laid_107 : decode cX9_laid 107 = .ok (.aload_n 0, 1) := by decide +kernel
theorem dX9_laid_108 : decode cX9_laid 108 = .ok (.getfield 25, 3) := by decide +kernel
theorem dX9_laid_111 : decode cX9_laid 111 = .ok (.iconst 2, 1) := by decide +kernel
theorem dX9_laid_112 : decode cX9_laid 112 = .ok (.iload_n 1, 1) := by decide +kernel
theorem dX9_laid_113 : decode cX9_laid 113 = .ok (.iadd, 1) := by decide +kernel
theorem dX9_laid_114 : decode cX9_laid 114 = .ok (.iaload, 1) := by decide +kernel
theorem dX9_laid_115 : decode cX9_laid 115 = .ok (.iastore, 1) := by decide +kernel
theorem dX9_laid_116 : decode cX9_laid 116 = .ok (.iinc 1 1, 3) := by decide +kernel
theorem dX9_laid_119 : decode cX9_laid 119 = .ok (.goto (-36), 3) := by decide +kernel
theorem dX9_laid_122 : decode cX9_laid 122 = .ok (.iconst 0, 1) := by decide +kernel
theorem dX9_laid_123 : decode cX9_laid 123 = .ok (.istore_n 1, 1) := by decide +kernel
theorem dX9_laid_124 : decode cX9_laid 124 = .ok (.iload_n 1, 1) := by decide +kernel
theorem dX9_laid_125 : decode cX9_laid 125 = .ok (.bipush 8, 2) := by decide +kernel
theorem dX9_laid_127 : decode cX9_laid 127 = .ok (.if_icmp .ge 39, 3) := by decide +kernel
theorem dX9_laid_130 : decode cX9_laid 130 = .ok (.aload_n 0, 1) := by decide +kernel
theorem dX9_laid_131 : decode cX9_laid 131 = .ok (.getfield 16, 3) := by decide +kernel
theorem dX9_laid_134 : decode cX9_laid 134 = .ok (.iload_n 1, 1) := by decide +kernel
theorem dX9_laid_135 : decode cX9_laid 135 = .ok (.aload_n 0, 1) := by decide +kernel
theorem dX9_laid_136 : decode cX9_laid 136 = .ok (.getfield 16, 3) := by decide +kernel
theorem dX9_laid_139 : decode cX9_laid 139 = .ok (.bipush 8, 2) := by decide +kernel
theorem dX9_laid_141 : decode cX9_laid 141 = .ok (.iload_n 1, 1) := by decide +kernel
theorem dX9_laid_142 : decode cX9_laid 142 = .ok (.iadd, 1) := by decide +kernel
theorem dX9_laid_143 : decode cX9_laid 143 = .ok (.iaload, 1) := by decide +kernel
theorem dX9_laid_144 : decode cX9_laid 144 = .ok (.iastore, 1) := by decide +kernel
theorem dX9_laid_145 : decode cX9_laid 145 = .ok (.aload_n 0, 1) := by decide +kernel
theorem dX9_laid_146 : decode cX9_laid 146 = .ok (.getfield 19, 3) := by decide +kernel
theorem dX9_laid_149 : decode cX9_laid 149 = .ok (.iload_n 1, 1) := by decide +kernel
theorem dX9_laid_150 : decode cX9_laid 150 = .ok (.aload_n 0, 1) := by decide +kernel
theorem dX9_laid_151 : decode cX9_laid 151 = .ok (.getfield 19, 3) := by decide +kernel
theorem dX9_laid_154 : decode cX9_laid 154 = .ok (.bipush 8, 2) := by decide +kernel
theorem dX9_laid_156 : decode cX9_laid 156 = .ok (.iload_n 1, 1) := by decide +kernel
theorem dX9_laid_157 : decode cX9_laid 157 = .ok (.iadd, 1) := by decide +kernel
theorem dX9_laid_158 : decode cX9_laid 158 = .ok (.iaload, 1) := by decide +kernel
theorem dX9_laid_159 : decode cX9_laid 159 = .ok (.iastore, 1) := by decide +kernel
theorem dX9_laid_160 : decode cX9_laid 160 = .ok (.iinc 1 1, 3) := by decide +kernel
theorem dX9_laid_163 : decode cX9_laid 163 = .ok (.goto (-39), 3) := by decide +kernel
theorem dX9_laid_166 : decode cX9_laid 166 = .ok (.iconst 0, 1) := by decide +kernel
theorem dX9_laid_167 : decode cX9_laid 167 = .ok (.istore_n 1, 1) := by decide +kernel
theorem dX9_laid_168 : decode cX9_laid 168 = .ok (.iload_n 1, 1) := by decide +kernel
theorem dX9_laid_169 : decode cX9_laid 169 = .ok (.iconst 4, 1) := by decide +kernel
theorem dX9_laid_170 : decode cX9_laid 170 = .ok (.if_icmp .ge 79, 3) := by decide +kernel
theorem dX9_laid_173 : decode cX9_laid 173 = .ok (.aload_n 0, 1) := by decide +kernel
theorem dX9_laid_174 : decode cX9_laid 174 = .ok (.getfield 31, 3) := by decide +kernel
theorem dX9_laid_177 : decode cX9_laid 177 = .ok (.iload_n 1, 1) := by decide +kernel
theorem dX9_laid_178 : decode cX9_laid 178 = .ok (.aload_n 0, 1) := by decide +kernel
theorem dX9_laid_179 : decode cX9_laid 179 = .ok (.getfield 31, 3) := by decide +kernel
theorem dX9_laid_182 : decode cX9_laid 182 = .ok (.iconst 4, 1) := by decide +kernel
theorem dX9_laid_183 : decode cX9_laid 183 = .ok (.iload_n 1, 1) := by decide +kernel
theorem dX9_laid_184 : decode cX9_laid 184 = .ok (.iadd, 1) := by decide +kernel
theorem dX9_laid_185 : decode cX9_laid 185 = .ok (.iaload, 1) := by decide +kernel
theorem dX9_laid_186 : decode cX9_laid 186 = .ok (.iastore, 1) := by decide +kernel
theorem dX9_laid_187 : decode cX9_laid 187 = .ok (.aload_n 0, 1) := by decide +kernel
theorem dX9_laid_188 : decode cX9_laid 188 = .ok (.getfield 34, 3) := by decide +kernel
theorem dX9_laid_191 : decode cX9_laid 191 = .ok (.iload_n 1, 1) := by decide +kernel
theorem dX9_laid_192 : decode cX9_laid 192 = .ok (.aload_n 0, 1) := by decide +kernel
theorem dX9_laid_193 : decode cX9_laid 193 = .ok (.getfield 34, 3) := by decide +kernel
theorem dX9_laid_196 : decode cX9_laid 196 = .ok (.iconst 4, 1) := by decide +kernel
theorem dX9_laid_197 : decode cX9_laid 197 = .ok (.iload_n 1, 1) := by decide +kernel
theorem dX9_laid_198 : decode cX9_laid 198 = .ok (.iadd, 1) := by decide +kernel
theorem dX9_laid_199 : decode cX9_laid 199 = .ok (.iaload, 1) := by decide +kernel
theorem dX9_laid_200 : decode cX9_laid 200 = .ok (.iastore, 1) := by decide +kernel
theorem dX9_laid_201 : decode cX9_laid 201 = .ok (.aload_n 0, 1) := by decide +kernel
theorem dX9_laid_202 : decode cX9_laid 202 = .ok (.getfield 40, 3) := by decide +kernel
theorem dX9_laid_205 : decode cX9_laid 205 = .ok (.iload_n 1, 1) := by decide +kernel
theorem dX9_laid_206 : decode cX9_laid 206 = .ok (.aload_n 0, 1) := by decide +kernel
theorem dX9_laid_207 : decode cX9_laid 207 = .ok (.getfield 40, 3) := by decide +kernel
theorem dX9_laid_210 : decode cX9_laid 210 = .ok (.iconst 4, 1) := by decide +kernel
theorem dX9_laid_211 : decode cX9_laid 211 = .ok (.iload_n 1, 1) := by decide +kernel
theorem dX9_laid_212 : decode cX9_laid 212 = .ok (.iadd, 1) := by decide +kernel
theorem dX9_laid_213 : decode cX9_laid 213 = .ok (.iaload, 1) := by decide +kernel
theorem dX9_laid_214 : decode cX9_laid 214 = .ok (.iastore, 1) := by decide +kernel
theorem dX9_laid_215 : decode cX9_laid 215 = .ok (.aload_n 0, 1) := by decide +kernel
theorem dX9_laid_216 : decode cX9_laid 216 = .ok (.getfield 43, 3) := by decide +kernel
theorem dX9_laid_219 : decode cX9_laid 219 = .ok (.iload_n 1, 1) := by decide +kernel
theorem dX9_laid_220 : decode cX9_laid 220 = .ok (.aload_n 0, 1) := by decide +kernel
theorem dX9_laid_221 : decode cX9_laid 221 = .ok (.getfield 43, 3) := by decide +kernel
theorem dX9_laid_224 : decode cX9_laid 224 = .ok (.iconst 4, 1) := by decide +kernel
theorem dX9_laid_225 : decode cX9_laid 225 = .ok (.iload_n 1, 1) := by decide +kernel
theorem dX9_laid_226 : decode cX9_laid 226 = .ok (.iadd, 1) := by decide +kernel
theorem dX9_laid_227 : decode cX9_laid 227 = .ok (.iaload, 1) := by decide +kernel
theorem dX9_laid_228 : decode cX9_laid 228 = .ok (.iastore, 1) := by decide +kernel
theorem dX9_laid_229 : decode cX9_laid 229 = .ok (.aload_n 0, 1) := by decide +kernel
theorem dX9_laid_230 : decode cX9_laid 230 = .ok (.getfield 46, 3) := by decide +kernel
theorem dX9_laid_233 : decode cX9_laid 233 = .ok (.iload_n 1, 1) := by decide +kernel
theorem dX9_laid_234 : decode cX9_laid 234 = .ok (.aload_n 0, 1) := by decide +kernel
theorem dX9_laid_235 : decode cX9_laid 235 = .ok (.getfield 46, 3) := by decide +kernel
theorem dX9_laid_238 : decode cX9_laid 238 = .ok (.iconst 4, 1) := by decide +kernel
theorem dX9_laid_239 : decode cX9_laid 239 = .ok (.iload_n 1, 1) := by decide +kernel
theorem dX9_laid_240 : decode cX9_laid 240 = .ok (.iadd, 1) := by decide +kernel
theorem dX9_laid_241 : decode cX9_laid 241 = .ok (.iaload, 1) := by decide +kernel
theorem dX9_laid_242 : decode cX9_laid 242 = .ok (.iastore, 1) := by decide +kernel
theorem dX9_laid_243 : decode cX9_laid 243 = .ok (.iinc 1 1, 3) := by decide +kernel
theorem dX9_laid_246 : decode cX9_laid 246 = .ok (.goto (-78), 3) := by decide +kernel
theorem dX9_laid_249 : decode cX9_laid 249 = .ok (.iconst 0, 1) := by decide +kernel
theorem dX9_laid_250 : decode cX9_laid 250 = .ok (.istore_n 1, 1) := by decide +kernel
theorem dX9_laid_251 : decode cX9_laid 251 = .ok (.iload_n 1, 1) := by decide +kernel
theorem dX9_laid_252 : decode cX9_laid 252 = .ok (.bipush 16, 2) := by decide +kernel
theorem dX9_laid_254 : decode cX9_laid 254 = .ok (.if_icmp .ge 24, 3) := by decide +kernel
theorem dX9_laid_257 : decode cX9_laid 257 = .ok (.aload_n 0, 1) := by decide +kernel
theorem dX9_laid_258 : decode cX9_laid 258 = .ok (.getfield 52, 3) := by decide +kernel
theorem dX9_laid_261 : decode cX9_laid 261 = .ok (.iload_n 1, 1) := by decide +kernel
theorem dX9_laid_262 : decode cX9_laid 262 = .ok (.aload_n 0, 1) := by decide +kernel
theorem dX9_laid_263 : decode cX9_laid 263 = .ok (.getfield 52, 3) := by decide +kernel
theorem dX9_laid_266 : decode cX9_laid 266 = .ok (.bipush 16, 2) := by decide +kernel
theorem dX9_laid_268 : decode cX9_laid 268 = .ok (.iload_n 1, 1) := by decide +kernel
theorem dX9_laid_269 : decode cX9_laid 269 = .ok (.iadd, 1) := by decide +kernel
theorem dX9_laid_270 : decode cX9_laid 270 = .ok (.iaload, 1) := by decide +kernel
theorem dX9_laid_271 : decode cX9_laid 271 = .ok (.iastore, 1) := by decide +kernel
theorem dX9_laid_272 : decode cX9_laid 272 = .ok (.iinc 1 1, 3) := by decide +kernel
theorem dX9_laid_275 : decode cX9_laid 275 = .ok (.goto (-24), 3) := by decide +kernel
theorem dX9_laid_278 : decode cX9_laid 278 = .ok (.iconst 0, 1) := by decide +kernel
theorem dX9_laid_279 : decode cX9_laid 279 = .ok (.istore_n 1, 1) := by decide +kernel
theorem dX9_laid_280 : decode cX9_laid 280 = .ok (.iload_n 1, 1) := by decide +kernel
theorem dX9_laid_281 : decode cX9_laid 281 = .ok (.iconst 5, 1) := by decide +kernel
theorem dX9_laid_282 : decode cX9_laid 282 = .ok (.if_icmp .ge 51, 3) := by decide +kernel
theorem dX9_laid_285 : decode cX9_laid 285 = .ok (.aload_n 0, 1) := by decide +kernel
theorem dX9_laid_286 : decode cX9_laid 286 = .ok (.getfield 58, 3) := by decide +kernel
theorem dX9_laid_289 : decode cX9_laid 289 = .ok (.iload_n 1, 1) := by decide +kernel
theorem dX9_laid_290 : decode cX9_laid 290 = .ok (.aload_n 0, 1) := by decide +kernel
theorem dX9_laid_291 : decode cX9_laid 291 = .ok (.getfield 58, 3) := by decide +kernel
theorem dX9_laid_294 : decode cX9_laid 294 = .ok (.iconst 5, 1) := by decide +kernel
theorem dX9_laid_295 : decode cX9_laid 295 = .ok (.iload_n 1, 1) := by decide +kernel
theorem dX9_laid_296 : decode cX9_laid 296 = .ok (.iadd, 1) := by decide +kernel
theorem dX9_laid_297 : decode cX9_laid 297 = .ok (.iaload, 1) := by decide +kernel
theorem dX9_laid_298 : decode cX9_laid 298 = .ok (.iastore, 1) := by decide +kernel
theorem dX9_laid_299 : decode cX9_laid 299 = .ok (.aload_n 0, 1) := by decide +kernel
theorem dX9_laid_300 : decode cX9_laid 300 = .ok (.getfield 61, 3) := by decide +kernel
theorem dX9_laid_303 : decode cX9_laid 303 = .ok (.iload_n 1, 1) := by decide +kernel
theorem dX9_laid_304 : decode cX9_laid 304 = .ok (.aload_n 0, 1) := by decide +kernel
theorem dX9_laid_305 : decode cX9_laid 305 = .ok (.getfield 61, 3) := by decide +kernel
theorem dX9_laid_308 : decode cX9_laid 308 = .ok (.iconst 5, 1) := by decide +kernel
theorem dX9_laid_309 : decode cX9_laid 309 = .ok (.iload_n 1, 1) := by decide +kernel
theorem dX9_laid_310 : decode cX9_laid 310 = .ok (.iadd, 1) := by decide +kernel
theorem dX9_laid_311 : decode cX9_laid 311 = .ok (.iaload, 1) := by decide +kernel
theorem dX9_laid_312 : decode cX9_laid 312 = .ok (.iastore, 1) := by decide +kernel
theorem dX9_laid_313 : decode cX9_laid 313 = .ok (.aload_n 0, 1) := by decide +kernel
theorem dX9_laid_314 : decode cX9_laid 314 = .ok (.getfield 64, 3) := by decide +kernel
theorem dX9_laid_317 : decode cX9_laid 317 = .ok (.iload_n 1, 1) := by decide +kernel
theorem dX9_laid_318 : decode cX9_laid 318 = .ok (.aload_n 0, 1) := by decide +kernel
theorem dX9_laid_319 : decode cX9_laid 319 = .ok (.getfield 64, 3) := by decide +kernel
theorem dX9_laid_322 : decode cX9_laid 322 = .ok (.iconst 5, 1) := by decide +kernel
theorem dX9_laid_323 : decode cX9_laid 323 = .ok (.iload_n 1, 1) := by decide +kernel
theorem dX9_laid_324 : decode cX9_laid 324 = .ok (.iadd, 1) := by decide +kernel
theorem dX9_laid_325 : decode cX9_laid 325 = .ok (.iaload, 1) := by decide +kernel
theorem dX9_laid_326 : decode cX9_laid 326 = .ok (.iastore, 1) := by decide +kernel
theorem dX9_laid_327 : decode cX9_laid 327 = .ok (.iinc 1 1, 3) := by decide +kernel
theorem dX9_laid_330 : decode cX9_laid 330 = .ok (.goto (-50), 3) := by decide +kernel
theorem dX9_laid_333 : decode cX9_laid 333 = .ok (.aload_n 0, 1) := by decide +kernel
theorem dX9_laid_334 : decode cX9_laid 334 = .ok (.getfield 67, 3) := by decide +kernel
theorem dX9_laid_337 : decode cX9_laid 337 = .ok (.iconst 0, 1) := by decide +kernel
theorem dX9_laid_338 : decode cX9_laid 338 = .ok (.iconst 0, 1) := by decide +kernel
theorem dX9_laid_339 : decode cX9_laid 339 = .ok (.iastore, 1) := by decide +kernel
theorem dX9_laid_340 : decode cX9_laid 340 = .ok (.aload_n 0, 1) := by decide +kernel
theorem dX9_laid_341 : decode cX9_laid 341 = .ok (.iconst 0, 1) := by decide +kernel
theorem dX9_laid_342 : decode cX9_laid 342 = .ok (.putfield 190, 3) := by decide +kernel
theorem dX9_laid_345 : decode cX9_laid 345 = .ok (.aload_n 0, 1) := by decide +kernel
theorem dX9_laid_346 : decode cX9_laid 346 = .ok (.iconst 0, 1) := by decide +kernel
theorem dX9_laid_347 : decode cX9_laid 347 = .ok (.putfield 193, 3) := by decide +kernel
theorem dX9_laid_350 : decode cX9_laid 350 = .ok (.aload_n 0, 1) := by decide +kernel
theorem dX9_laid_351 : decode cX9_laid 351 = .ok (.invokevirtual 131, 3) := by decide +kernel
theorem dX9_laid_354 : decode cX9_laid 354 = .ok (.aload_n 0, 1) := by decide +kernel
theorem dX9_laid_355 : decode cX9_laid 355 = .ok (.getfield 13, 3) := by decide +kernel
theorem dX9_laid_358 : decode cX9_laid 358 = .ok (.iconst 0, 1) := by decide +kernel
theorem dX9_laid_359 : decode cX9_laid 359 = .ok (.iaload, 1) := by decide +kernel
theorem dX9_laid_360 : decode cX9_laid 360 = .ok (.ireturn, 1) := by decide +kernel
theorem dX9_isCell_0 : decode cX9_isCell 0 = .ok (.iload_n 1, 1) := by decide +kernel
theorem dX9_isCell_1 : decode cX9_isCell 1 = .ok (.i2l, 1) := by decide +kernel
theorem dX9_isCell_2 : decode cX9_isCell 2 = .ok (.lconst 0, 1) := by decide +kernel
theorem dX9_isCell_3 : decode cX9_isCell 3 = .ok (.aload_n 0, 1) := by decide +kernel
theorem dX9_isCell_4 : decode cX9_isCell 4 = .ok (.getfield 13, 3) := by decide +kernel
theorem dX9_isCell_7 : decode cX9_isCell 7 = .ok (.iconst 0, 1) := by decide +kernel
theorem dX9_isCell_8 : decode cX9_isCell 8 = .ok (.iaload, 1) := by decide +kernel
theorem dX9_isCell_9 : decode cX9_isCell 9 = .ok (.iconst 1, 1) := by decide +kernel
theorem dX9_isCell_10 : decode cX9_isCell 10 = .ok (.isub, 1) := by decide +kernel
theorem dX9_isCell_11 : decode cX9_isCell 11 = .ok (.i2l, 1) := by decide +kernel
theorem dX9_isCell_12 : decode cX9_isCell 12 = .ok (.invokestatic 138, 3) := by decide +kernel
theorem dX9_isCell_15 : decode cX9_isCell 15 = .ok (.ireturn, 1) := by decide +kernel
theorem dX9_takes_0 : decode cX9_takes 0 = .ok (.iconst 0, 1) := by decide +kernel
theorem dX9_takes_1 : decode cX9_takes 1 = .ok (.istore_n 2, 1) := by decide +kernel
theorem dX9_takes_2 : decode cX9_takes 2 = .ok (.iconst 1, 1) := by decide +kernel
theorem dX9_takes_3 : decode cX9_takes 3 = .ok (.istore_n 3, 1) := by decide +kernel
theorem dX9_takes_4 : decode cX9_takes 4 = .ok (.iload_n 3, 1) := by decide +kernel
theorem dX9_takes_5 : decode cX9_takes 5 = .ok (.iload_n 1, 1) := by decide +kernel
theorem dX9_takes_6 : decode cX9_takes 6 = .ok (.if_icmp .gt 27, 3) := by decide +kernel
theorem dX9_takes_9 : decode cX9_takes 9 = .ok (.iload_n 2, 1) := by decide +kernel
theorem dX9_takes_10 : decode cX9_takes 10 = .ok (.aload_n 0, 1) := by decide +kernel
theorem dX9_takes_11 : decode cX9_takes 11 = .ok (.getfield 25, 3) := by decide +kernel
theorem dX9_takes_14 : decode cX9_takes 14 = .ok (.iconst 0, 1) := by decide +kernel
theorem dX9_takes_15 : decode cX9_takes 15 = .ok (.iaload, 1) := by decide +kernel
theorem dX9_takes_16 : decode cX9_takes 16 = .ok (.aload_n 0, 1) := by decide +kernel
theorem dX9_takes_17 : decode cX9_takes 17 = .ok (.getfield 25, 3) := by decide +kernel
theorem dX9_takes_20 : decode cX9_takes 20 = .ok (.iconst 1, 1) := by decide +kernel
theorem dX9_takes_21 : decode cX9_takes 21 = .ok (.iaload, 1) := by decide +kernel
theorem dX9_takes_22 : decode cX9_takes 22 = .ok (.iload_n 3, 1) := by decide +kernel
theorem dX9_takes_23 : decode cX9_takes 23 = .ok (.imul, 1) := by decide +kernel
theorem dX9_takes_24 : decode cX9_takes 24 = .ok (.iadd, 1) := by decide +kernel
theorem dX9_takes_25 : decode cX9_takes 25 = .ok (.iadd, 1) := by decide +kernel
theorem dX9_takes_26 : decode cX9_takes 26 = .ok (.istore_n 2, 1) := by decide +kernel
theorem dX9_takes_27 : decode cX9_takes 27 = .ok (.iinc 3 1, 3) := by decide +kernel
theorem dX9_takes_30 : decode cX9_takes 30 = .ok (.goto (-26), 3) := by decide +kernel
theorem dX9_takes_33 : decode cX9_takes 33 = .ok (.iload_n 2, 1) := by decide +kernel
theorem dX9_takes_34 : decode cX9_takes 34 = .ok (.ireturn, 1) := by decide +kernel
theorem dX9_levelOf_0 : decode cX9_levelOf 0 = .ok (.iconst 0, 1) := by decide +kernel
theorem dX9_levelOf_1 : decode cX9_levelOf 1 = .ok (.istore_n 2, 1) := by decide +kernel
theorem dX9_levelOf_2 : decode cX9_levelOf 2 = .ok (.iload_n 2, 1) := by decide +kernel
theorem dX9_levelOf_3 : decode cX9_levelOf 3 = .ok (.bipush 60, 2) := by decide +kernel
theorem dX9_levelOf_5 : decode cX9_levelOf 5 = .ok (.if_icmp .ge 20, 3) := by decide +kernel
theorem dX9_levelOf_8 : decode cX9_levelOf 8 = .ok (.aload_n 0, 1) := by decide +kernel
theorem dX9_levelOf_9 : decode cX9_levelOf 9 = .ok (.iload_n 2, 1) := by decide +kernel
theorem dX9_levelOf_10 : decode cX9_levelOf 10 = .ok (.iconst 1, 1) := by decide +kernel
theorem dX9_levelOf_11 : decode cX9_levelOf 11 = .ok (.iadd, 1) := by decide +kernel
theorem dX9_levelOf_12 : decode cX9_levelOf 12 = .ok (.invokevirtual 196, 3) := by decide +kernel
theorem dX9_levelOf_15 : decode cX9_levelOf 15 = .ok (.iload_n 1, 1) := by decide +kernel
theorem dX9_levelOf_16 : decode cX9_levelOf 16 = .ok (.if_icmp .gt 9, 3) := by decide +kernel
theorem dX9_levelOf_19 : decode cX9_levelOf 19 = .ok (.iinc 2 1, 3) := by decide +kernel
theorem dX9_levelOf_22 : decode cX9_levelOf 22 = .ok (.goto (-20), 3) := by decide +kernel
theorem dX9_levelOf_25 : decode cX9_levelOf 25 = .ok (.iload_n 2, 1) := by decide +kernel
theorem dX9_levelOf_26 : decode cX9_levelOf 26 = .ok (.ireturn, 1) := by decide +kernel
theorem dX9_comesIn_0 : decode cX9_comesIn 0 = .ok (.iconst (-1), 1) := by decide +kernel
theorem dX9_comesIn_1 : decode cX9_comesIn 1 = .ok (.istore_n 2, 1) := by decide +kernel
theorem dX9_comesIn_2 : decode cX9_comesIn 2 = .ok (.iconst 0, 1) := by decide +kernel
theorem dX9_comesIn_3 : decode cX9_comesIn 3 = .ok (.istore_n 3, 1) := by decide +kernel
theorem dX9_comesIn_4 : decode cX9_comesIn 4 = .ok (.iconst 0, 1) := by decide +kernel
theorem dX9_comesIn_5 : decode cX9_comesIn 5 = .ok (.istore 4, 2) := by decide +kernel
theorem dX9_comesIn_7 : decode cX9_comesIn 7 = .ok (.iload 4, 2) := by decide +kernel
theorem dX9_comesIn_9 : decode cX9_comesIn 9 = .ok (.aload_n 0, 1) := by decide +kernel
theorem dX9_comesIn_10 : decode cX9_comesIn 10 = .ok (.getfield 28, 3) := by decide +kernel
theorem dX9_comesIn_13 : decode cX9_comesIn 13 = .ok (.iconst 0, 1) := by decide +kernel
theorem dX9_comesIn_14 : decode cX9_comesIn 14 = .ok (.iaload, 1) := by decide +kernel
theorem dX9_comesIn_15 : decode cX9_comesIn 15 = .ok (.if_icmp .ge 47, 3) := by decide +kernel
theorem dX9_comesIn_18 : decode cX9_comesIn 18 = .ok (.aload_n 0, 1) := by decide +kernel
theorem dX9_comesIn_19 : decode cX9_comesIn 19 = .ok (.getfield 31, 3) := by decide +kernel
theorem dX9_comesIn_22 : decode cX9_comesIn 22 = .ok (.iload 4, 2) := by decide +kernel
theorem dX9_comesIn_24 : decode cX9_comesIn 24 = .ok (.iaload, 1) := by decide +kernel
theorem dX9_comesIn_25 : decode cX9_comesIn 25 = .ok (.iload_n 1, 1) := by decide +kernel
theorem dX9_comesIn_26 : decode cX9_comesIn 26 = .ok (.if_icmp .gt 30, 3) := by decide +kernel
theorem dX9_comesIn_29 : decode cX9_comesIn 29 = .ok (.aload_n 0, 1) := by decide +kernel
theorem dX9_comesIn_30 : decode cX9_comesIn 30 = .ok (.getfield 31, 3) := by decide +kernel
theorem dX9_comesIn_33 : decode cX9_comesIn 33 = .ok (.iload 4, 2) := by decide +kernel
theorem dX9_comesIn_35 : decode cX9_comesIn 35 = .ok (.iaload, 1) := by decide +kernel
theorem dX9_comesIn_36 : decode cX9_comesIn 36 = .ok (.iload_n 2, 1) := by decide +kernel
theorem dX9_comesIn_37 : decode cX9_comesIn 37 = .ok (.if_icmp .lt 19, 3) := by decide +kernel
theorem dX9_comesIn_40 : decode cX9_comesIn 40 = .ok (.aload_n 0, 1) := by decide +kernel
theorem dX9_comesIn_41 : decode cX9_comesIn 41 = .ok (.getfield 31, 3) := by decide +kernel
theorem dX9_comesIn_44 : decode cX9_comesIn 44 = .ok (.iload 4, 2) := by decide +kernel
theorem dX9_comesIn_46 : decode cX9_comesIn 46 = .ok (.iaload, 1) := by decide +kernel
theorem dX9_comesIn_47 : decode cX9_comesIn 47 = .ok (.istore_n 2, 1) := by decide +kernel
theorem dX9_comesIn_48 : decode cX9_comesIn 48 = .ok (.aload_n 0, 1) := by decide +kernel
theorem dX9_comesIn_49 : decode cX9_comesIn 49 = .ok (.getfield 34, 3) := by decide +kernel
theorem dX9_comesIn_52 : decode cX9_comesIn 52 = .ok (.iload 4, 2) := by decide +kernel
theorem dX9_comesIn_54 : decode cX9_comesIn 54 = .ok (.iaload, 1) := by decide +kernel
theorem dX9_comesIn_55 : decode cX9_comesIn 55 = .ok (.istore_n 3, 1) := by decide +kernel
theorem dX9_comesIn_56 : decode cX9_comesIn 56 = .ok (.iinc 4 1, 3) := by decide +kernel
theorem dX9_comesIn_59 : decode cX9_comesIn 59 = .ok (.goto (-52), 3) := by decide +kernel
theorem dX9_comesIn_62 : decode cX9_comesIn 62 = .ok (.iconst 0, 1) := by decide +kernel
theorem dX9_comesIn_63 : decode cX9_comesIn 63 = .ok (.istore 4, 2) := by decide +kernel
theorem dX9_comesIn_65 : decode cX9_comesIn 65 = .ok (.iload 4, 2) := by decide +kernel
theorem dX9_comesIn_67 : decode cX9_comesIn 67 = .ok (.aload_n 0, 1) := by decide +kernel
theorem dX9_comesIn_68 : decode cX9_comesIn 68 = .ok (.getfield 37, 3) := by decide +kernel
theorem dX9_comesIn_71 : decode cX9_comesIn 71 = .ok (.iconst 0, 1) := by decide +kernel
theorem dX9_comesIn_72 : decode cX9_comesIn 72 = .ok (.iaload, 1) := by decide +kernel
theorem dX9_comesIn_73 : decode cX9_comesIn 73 = .ok (.if_icmp .ge 47, 3) := by decide +kernel
theorem dX9_comesIn_76 : decode cX9_comesIn 76 = .ok (.iload_n 3, 1) := by decide +kernel
theorem dX9_comesIn_77 : decode cX9_comesIn 77 = .ok (.iload_n 1, 1) := by decide +kernel
theorem dX9_comesIn_78 : decode cX9_comesIn 78 = .ok (.i2l, 1) := by decide +kernel
theorem dX9_comesIn_79 : decode cX9_comesIn 79 = .ok (.aload_n 0, 1) := by decide +kernel
theorem dX9_comesIn_80 : decode cX9_comesIn 80 = .ok (.getfield 40, 3) := by decide +kernel
theorem dX9_comesIn_83 : decode cX9_comesIn 83 = .ok (.iload 4, 2) := by decide +kernel
theorem dX9_comesIn_85 : decode cX9_comesIn 85 = .ok (.iaload, 1) := by decide +kernel
theorem dX9_comesIn_86 : decode cX9_comesIn 86 = .ok (.i2l, 1) := by decide +kernel
theorem dX9_comesIn_87 : decode cX9_comesIn 87 = .ok (.aload_n 0, 1) := by decide +kernel
theorem dX9_comesIn_88 : decode cX9_comesIn 88 = .ok (.getfield 43, 3) := by decide +kernel
theorem dX9_comesIn_91 : decode cX9_comesIn 91 = .ok (.iload 4, 2) := by decide +kernel
theorem dX9_comesIn_93 : decode cX9_comesIn 93 = .ok (.iaload, 1) := by decide +kernel
theorem dX9_comesIn_94 : decode cX9_comesIn 94 = .ok (.i2l, 1) := by decide +kernel
theorem dX9_comesIn_95 : decode cX9_comesIn 95 = .ok (.invokestatic 138, 3) := by decide +kernel
theorem dX9_comesIn_98 : decode cX9_comesIn 98 = .ok (.ifCond .eq 13, 3) := by decide +kernel
theorem dX9_comesIn_101 : decode cX9_comesIn 101 = .ok (.aload_n 0, 1) := by decide +kernel
theorem dX9_comesIn_102 : decode cX9_comesIn 102 = .ok (.getfield 46, 3) := by decide +kernel
theorem dX9_comesIn_105 : decode cX9_comesIn 105 = .ok (.iload 4, 2) := by decide +kernel
theorem dX9_comesIn_107 : decode cX9_comesIn 107 = .ok (.iaload, 1) := by decide +kernel
theorem dX9_comesIn_108 : decode cX9_comesIn 108 = .ok (.goto 4, 3) := by decide +kernel
theorem dX9_comesIn_111 : decode cX9_comesIn 111 = .ok (.iconst 0, 1) := by decide +kernel
theorem dX9_comesIn_112 : decode cX9_comesIn 112 = .ok (.iadd, 1) := by decide +kernel
theorem dX9_comesIn_113 : decode cX9_comesIn 113 = .ok (.istore_n 3, 1) := by decide +kernel
theorem dX9_comesIn_114 : decode cX9_comesIn 114 = .ok (.iinc 4 1, 3) := by decide +kernel
theorem dX9_comesIn_117 : decode cX9_comesIn 117 = .ok (.goto (-52), 3) := by decide +kernel
theorem dX9_comesIn_120 : decode cX9_comesIn 120 = .ok (.iload_n 3, 1) := by decide +kernel
theorem dX9_comesIn_121 : decode cX9_comesIn 121 = .ok (.ireturn, 1) := by decide +kernel
theorem dX9_edgeOf_0 : decode cX9_edgeOf 0 = .ok (.aload_n 0, 1) := by decide +kernel
theorem dX9_edgeOf_1 : decode cX9_edgeOf 1 = .ok (.getfield 22, 3) := by decide +kernel
theorem dX9_edgeOf_4 : decode cX9_edgeOf 4 = .ok (.iconst 0, 1) := by decide +kernel
theorem dX9_edgeOf_5 : decode cX9_edgeOf 5 = .ok (.iaload, 1) := by decide +kernel
theorem dX9_edgeOf_6 : decode cX9_edgeOf 6 = .ok (.aload_n 0, 1) := by decide +kernel
theorem dX9_edgeOf_7 : decode cX9_edgeOf 7 = .ok (.getfield 22, 3) := by decide +kernel
theorem dX9_edgeOf_10 : decode cX9_edgeOf 10 = .ok (.iconst 1, 1) := by decide +kernel
theorem dX9_edgeOf_11 : decode cX9_edgeOf 11 = .ok (.iaload, 1) := by decide +kernel
theorem dX9_edgeOf_12 : decode cX9_edgeOf 12 = .ok (.if_icmp .ge 12, 3) := by decide +kernel
theorem dX9_edgeOf_15 : decode cX9_edgeOf 15 = .ok (.aload_n 0, 1) := by decide +kernel
theorem dX9_edgeOf_16 : decode cX9_edgeOf 16 = .ok (.getfield 22, 3) := by decide +kernel
theorem dX9_edgeOf_19 : decode cX9_edgeOf 19 = .ok (.iconst 0, 1) := by decide +kernel
theorem dX9_edgeOf_20 : decode cX9_edgeOf 20 = .ok (.iaload, 1) := by decide +kernel
theorem dX9_edgeOf_21 : decode cX9_edgeOf 21 = .ok (.goto 9, 3) := by decide +kernel
theorem dX9_edgeOf_24 : decode cX9_edgeOf 24 = .ok (.aload_n 0, 1) := by decide +kernel
theorem dX9_edgeOf_25 : decode cX9_edgeOf 25 = .ok (.getfield 22, 3) := by decide +kernel
theorem dX9_edgeOf_28 : decode cX9_edgeOf 28 = .ok (.iconst 1, 1) := by decide +kernel
theorem dX9_edgeOf_29 : decode cX9_edgeOf 29 = .ok (.iaload, 1) := by decide +kernel
theorem dX9_edgeOf_30 : decode cX9_edgeOf 30 = .ok (.istore_n 2, 1) := by decide +kernel
theorem dX9_edgeOf_31 : decode cX9_edgeOf 31 = .ok (.iconst 0, 1) := by decide +kernel
theorem dX9_edgeOf_32 : decode cX9_edgeOf 32 = .ok (.istore_n 3, 1) := by decide +kernel
theorem dX9_edgeOf_33 : decode cX9_edgeOf 33 = .ok (.iload_n 3, 1) := by decide +kernel
theorem dX9_edgeOf_34 : decode cX9_edgeOf 34 = .ok (.aload_n 0, 1) := by decide +kernel
theorem dX9_edgeOf_35 : decode cX9_edgeOf 35 = .ok (.getfield 13, 3) := by decide +kernel
theorem dX9_edgeOf_38 : decode cX9_edgeOf 38 = .ok (.iconst 0, 1) := by decide +kernel
theorem dX9_edgeOf_39 : decode cX9_edgeOf 39 = .ok (.iaload, 1) := by decide +kernel
theorem dX9_edgeOf_40 : decode cX9_edgeOf 40 = .ok (.if_icmp .ge 40, 3) := by decide +kernel
theorem dX9_edgeOf_43 : decode cX9_edgeOf 43 = .ok (.aload_n 0, 1) := by decide +kernel
theorem dX9_edgeOf_44 : decode cX9_edgeOf 44 = .ok (.getfield 91, 3) := by decide +kernel
theorem dX9_edgeOf_47 : decode cX9_edgeOf 47 = .ok (.bipush 8, 2) := by decide +kernel
theorem dX9_edgeOf_49 : decode cX9_edgeOf 49 = .ok (.iload_n 1, 1) := by decide +kernel
theorem dX9_edgeOf_50 : decode cX9_edgeOf 50 = .ok (.imul, 1) := by decide +kernel
theorem dX9_edgeOf_51 : decode cX9_edgeOf 51 = .ok (.iload_n 3, 1) := by decide +kernel
theorem dX9_edgeOf_52 : decode cX9_edgeOf 52 = .ok (.iadd, 1) := by decide +kernel
theorem dX9_edgeOf_53 : decode cX9_edgeOf 53 = .ok (.iaload, 1) := by decide +kernel
theorem dX9_edgeOf_54 : decode cX9_edgeOf 54 = .ok (.iload_n 2, 1) := by decide +kernel
theorem dX9_edgeOf_55 : decode cX9_edgeOf 55 = .ok (.if_icmp .ge 17, 3) := by decide +kernel
theorem dX9_edgeOf_58 : decode cX9_edgeOf 58 = .ok (.aload_n 0, 1) := by decide +kernel
theorem dX9_edgeOf_59 : decode cX9_edgeOf 59 = .ok (.getfield 91, 3) := by decide +kernel
theorem dX9_edgeOf_62 : decode cX9_edgeOf 62 = .ok (.bipush 8, 2) := by decide +kernel
theorem dX9_edgeOf_64 : decode cX9_edgeOf 64 = .ok (.iload_n 1, 1) := by decide +kernel
theorem dX9_edgeOf_65 : decode cX9_edgeOf 65 = .ok (.imul, 1) := by decide +kernel
theorem dX9_edgeOf_66 : decode cX9_edgeOf 66 = .ok (.iload_n 3, 1) := by decide +kernel
theorem dX9_edgeOf_67 : decode cX9_edgeOf 67 = .ok (.iadd, 1) := by decide +kernel
theorem dX9_edgeOf_68 : decode cX9_edgeOf 68 = .ok (.iaload, 1) := by decide +kernel
theorem dX9_edgeOf_69 : decode cX9_edgeOf 69 = .ok (.goto 4, 3) := by decide +kernel
theorem dX9_edgeOf_72 : decode cX9_edgeOf 72 = .ok (.iload_n 2, 1) := by decide +kernel
theorem dX9_edgeOf_73 : decode cX9_edgeOf 73 = .ok (.istore_n 2, 1) := by decide +kernel
theorem dX9_edgeOf_74 : decode cX9_edgeOf 74 = .ok (.iinc 3 1, 3) := by decide +kernel
theorem dX9_edgeOf_77 : decode cX9_edgeOf 77 = .ok (.goto (-44), 3) := by decide +kernel
theorem dX9_edgeOf_80 : decode cX9_edgeOf 80 = .ok (.iload_n 2, 1) := by decide +kernel
theorem dX9_edgeOf_81 : decode cX9_edgeOf 81 = .ok (.ireturn, 1) := by decide +kernel
theorem dX9_placeOf_0 : decode cX9_placeOf 0 = .ok (.aload_n 0, 1) := by decide +kernel
theorem dX9_placeOf_1 : decode cX9_placeOf 1 = .ok (.iload_n 1, 1) := by decide +kernel
theorem dX9_placeOf_2 : decode cX9_placeOf 2 = .ok (.invokevirtual 199, 3) := by decide +kernel
theorem dX9_placeOf_5 : decode cX9_placeOf 5 = .ok (.istore_n 2, 1) := by decide +kernel
theorem dX9_placeOf_6 : decode cX9_placeOf 6 = .ok (.iconst 0, 1) := by decide +kernel
theorem dX9_placeOf_7 : decode cX9_placeOf 7 = .ok (.istore_n 3, 1) := by decide +kernel
theorem dX9_placeOf_8 : decode cX9_placeOf 8 = .ok (.iload_n 3, 1) := by decide +kernel
theorem dX9_placeOf_9 : decode cX9_placeOf 9 = .ok (.aload_n 0, 1) := by decide +kernel
theorem dX9_placeOf_10 : decode cX9_placeOf 10 = .ok (.getfield 13, 3) := by decide +kernel
theorem dX9_placeOf_13 : decode cX9_placeOf 13 = .ok (.iconst 0, 1) := by decide +kernel
theorem dX9_placeOf_14 : decode cX9_placeOf 14 = .ok (.iaload, 1) := by decide +kernel
theorem dX9_placeOf_15 : decode cX9_placeOf 15 = .ok (.if_icmp .ge 26, 3) := by decide +kernel
theorem dX9_placeOf_18 : decode cX9_placeOf 18 = .ok (.aload_n 0, 1) := by decide +kernel
theorem dX9_placeOf_19 : decode cX9_placeOf 19 = .ok (.getfield 91, 3) := by decide +kernel
theorem dX9_placeOf_22 : decode cX9_placeOf 22 = .ok (.bipush 8, 2) := by decide +kernel
theorem dX9_placeOf_24 : decode cX9_placeOf 24 = .ok (.iload_n 1, 1) := by decide +kernel
theorem dX9_placeOf_25 : decode cX9_placeOf 25 = .ok (.imul, 1) := by decide +kernel
theorem dX9_placeOf_26 : decode cX9_placeOf 26 = .ok (.iload_n 3, 1) := by decide +kernel
theorem dX9_placeOf_27 : decode cX9_placeOf 27 = .ok (.iadd, 1) := by decide +kernel
theorem dX9_placeOf_28 : decode cX9_placeOf 28 = .ok (.iaload, 1) := by decide +kernel
theorem dX9_placeOf_29 : decode cX9_placeOf 29 = .ok (.iload_n 2, 1) := by decide +kernel
theorem dX9_placeOf_30 : decode cX9_placeOf 30 = .ok (.if_icmp .ne 5, 3) := by decide +kernel
theorem dX9_placeOf_33 : decode cX9_placeOf 33 = .ok (.iload_n 3, 1) := by decide +kernel
theorem dX9_placeOf_34 : decode cX9_placeOf 34 = .ok (.ireturn, 1) := by decide +kernel
theorem dX9_placeOf_35 : decode cX9_placeOf 35 = .ok (.iinc 3 1, 3) := by decide +kernel
theorem dX9_placeOf_38 : decode cX9_placeOf 38 = .ok (.goto (-30), 3) := by decide +kernel
theorem dX9_placeOf_41 : decode cX9_placeOf 41 = .ok (.aload_n 0, 1) := by decide +kernel
theorem dX9_placeOf_42 : decode cX9_placeOf 42 = .ok (.getfield 22, 3) := by decide +kernel
theorem dX9_placeOf_45 : decode cX9_placeOf 45 = .ok (.iconst 0, 1) := by decide +kernel
theorem dX9_placeOf_46 : decode cX9_placeOf 46 = .ok (.iaload, 1) := by decide +kernel
theorem dX9_placeOf_47 : decode cX9_placeOf 47 = .ok (.iload_n 2, 1) := by decide +kernel
theorem dX9_placeOf_48 : decode cX9_placeOf 48 = .ok (.if_icmp .ne 8, 3) := by decide +kernel
theorem dX9_placeOf_51 : decode cX9_placeOf 51 = .ok (.bipush 8, 2) := by decide +kernel
theorem dX9_placeOf_53 : decode cX9_placeOf 53 = .ok (.goto 5, 3) := by decide +kernel
theorem dX9_placeOf_56 : decode cX9_placeOf 56 = .ok (.bipush 9, 2) := by decide +kernel
theorem dX9_placeOf_58 : decode cX9_placeOf 58 = .ok (.ireturn, 1) := by decide +kernel
theorem dX9_wear_0 : decode cX9_wear 0 = .ok (.bipush 8, 2) := by decide +kernel
theorem dX9_wear_2 : decode cX9_wear 2 = .ok (.iload_n 1, 1) := by decide +kernel
theorem dX9_wear_3 : decode cX9_wear 3 = .ok (.imul, 1) := by decide +kernel
theorem dX9_wear_4 : decode cX9_wear 4 = .ok (.iload_n 2, 1) := by decide +kernel
theorem dX9_wear_5 : decode cX9_wear 5 = .ok (.iadd, 1) := by decide +kernel
theorem dX9_wear_6 : decode cX9_wear 6 = .ok (.istore_n 3, 1) := by decide +kernel
theorem dX9_wear_7 : decode cX9_wear 7 = .ok (.aload_n 0, 1) := by decide +kernel
theorem dX9_wear_8 : decode cX9_wear 8 = .ok (.getfield 94, 3) := by decide +kernel
theorem dX9_wear_11 : decode cX9_wear 11 = .ok (.iload_n 3, 1) := by decide +kernel
theorem dX9_wear_12 : decode cX9_wear 12 = .ok (.iaload, 1) := by decide +kernel
theorem dX9_wear_13 : decode cX9_wear 13 = .ok (.ifCond .ne 7, 3) := by decide +kernel
theorem dX9_wear_16 : decode cX9_wear 16 = .ok (.iconst 2, 1) := by decide +kernel
theorem dX9_wear_17 : decode cX9_wear 17 = .ok (.goto 29, 3) := by decide +kernel
theorem dX9_wear_20 : decode cX9_wear 20 = .ok (.aload_n 0, 1) := by decide +kernel
theorem dX9_wear_21 : decode cX9_wear 21 = .ok (.getfield 94, 3) := by decide +kernel
theorem dX9_wear_24 : decode cX9_wear 24 = .ok (.iload_n 3, 1) := by decide +kernel
theorem dX9_wear_25 : decode cX9_wear 25 = .ok (.iaload, 1) := by decide +kernel
theorem dX9_wear_26 : decode cX9_wear 26 = .ok (.iconst 1, 1) := by decide +kernel
theorem dX9_wear_27 : decode cX9_wear 27 = .ok (.if_icmp .ne 18, 3) := by decide +kernel
theorem dX9_wear_30 : decode cX9_wear 30 = .ok (.aload_n 0, 1) := by decide +kernel
theorem dX9_wear_31 : decode cX9_wear 31 = .ok (.getfield 103, 3) := by decide +kernel
theorem dX9_wear_34 : decode cX9_wear 34 = .ok (.iload_n 1, 1) := by decide +kernel
theorem dX9_wear_35 : decode cX9_wear 35 = .ok (.iaload, 1) := by decide +kernel
theorem dX9_wear_36 : decode cX9_wear 36 = .ok (.iconst 2, 1) := by decide +kernel
theorem dX9_wear_37 : decode cX9_wear 37 = .ok (.irem, 1) := by decide +kernel
theorem dX9_wear_38 : decode cX9_wear 38 = .ok (.ifCond .ne 7, 3) := by decide +kernel
theorem dX9_wear_41 : decode cX9_wear 41 = .ok (.iconst 1, 1) := by decide +kernel
theorem dX9_wear_42 : decode cX9_wear 42 = .ok (.goto 4, 3) := by decide +kernel
theorem dX9_wear_45 : decode cX9_wear 45 = .ok (.iconst 0, 1) := by decide +kernel
theorem dX9_wear_46 : decode cX9_wear 46 = .ok (.istore 4, 2) := by decide +kernel
theorem dX9_wear_48 : decode cX9_wear 48 = .ok (.aload_n 0, 1) := by decide +kernel
theorem dX9_wear_49 : decode cX9_wear 49 = .ok (.getfield 91, 3) := by decide +kernel
theorem dX9_wear_52 : decode cX9_wear 52 = .ok (.iload_n 3, 1) := by decide +kernel
theorem dX9_wear_53 : decode cX9_wear 53 = .ok (.iaload, 1) := by decide +kernel
theorem dX9_wear_54 : decode cX9_wear 54 = .ok (.istore 5, 2) := by decide +kernel
theorem dX9_wear_56 : decode cX9_wear 56 = .ok (.aload_n 0, 1) := by decide +kernel
theorem dX9_wear_57 : decode cX9_wear 57 = .ok (.getfield 91, 3) := by decide +kernel
theorem dX9_wear_60 : decode cX9_wear 60 = .ok (.iload_n 3, 1) := by decide +kernel
theorem dX9_wear_61 : decode cX9_wear 61 = .ok (.iload 5, 2) := by decide +kernel
theorem dX9_wear_63 : decode cX9_wear 63 = .ok (.iload 4, 2) := by decide +kernel
theorem dX9_wear_65 : decode cX9_wear 65 = .ok (.if_icmp .le 11, 3) := by decide +kernel
theorem dX9_wear_68 : decode cX9_wear 68 = .ok (.iload 5, 2) := by decide +kernel
theorem dX9_wear_70 : decode cX9_wear 70 = .ok (.iload 4, 2) := by decide +kernel
theorem dX9_wear_72 : decode cX9_wear 72 = .ok (.isub, 1) := by decide +kernel
theorem dX9_wear_73 : decode cX9_wear 73 = .ok (.goto 4, 3) := by decide +kernel
theorem dX9_wear_76 : decode cX9_wear 76 = .ok (.iconst 0, 1) := by decide +kernel
theorem dX9_wear_77 : decode cX9_wear 77 = .ok (.iastore, 1) := by decide +kernel
theorem dX9_wear_78 : decode cX9_wear 78 = .ok (.iload 5, 2) := by decide +kernel
theorem dX9_wear_80 : decode cX9_wear 80 = .ok (.ifCond .le 27, 3) := by decide +kernel
theorem dX9_wear_83 : decode cX9_wear 83 = .ok (.aload_n 0, 1) := by decide +kernel
theorem dX9_wear_84 : decode cX9_wear 84 = .ok (.getfield 91, 3) := by decide +kernel
theorem dX9_wear_87 : decode cX9_wear 87 = .ok (.iload_n 3, 1) := by decide +kernel
theorem dX9_wear_88 : decode cX9_wear 88 = .ok (.iaload, 1) := by decide +kernel
theorem dX9_wear_89 : decode cX9_wear 89 = .ok (.ifCond .ne 18, 3) := by decide +kernel
theorem dX9_wear_92 : decode cX9_wear 92 = .ok (.aload_n 0, 1) := by decide +kernel
theorem dX9_wear_93 : decode cX9_wear 93 = .ok (.getfield 97, 3) := by decide +kernel
theorem dX9_wear_96 : decode cX9_wear 96 = .ok (.iload_n 3, 1) := by decide +kernel
theorem dX9_wear_97 : decode cX9_wear 97 = .ok (.dup2, 1) := by decide +kernel
theorem dX9_wear_98 : decode cX9_wear 98 = .ok (.iaload, 1) := by decide +kernel
theorem dX9_wear_99 : decode cX9_wear 99 = .ok (.iconst 1, 1) := by decide +kernel
theorem dX9_wear_100 : decode cX9_wear 100 = .ok (.iadd, 1) := by decide +kernel
theorem dX9_wear_101 : decode cX9_wear 101 = .ok (.iastore, 1) := by decide +kernel
theorem dX9_wear_102 : decode cX9_wear 102 = .ok (.aload_n 0, 1) := by decide +kernel
theorem dX9_wear_103 : decode cX9_wear 103 = .ok (.iload_n 2, 1) := by decide +kernel
theorem dX9_wear_104 : decode cX9_wear 104 = .ok (.putfield 202, 3) := by decide +kernel
theorem dX9_wear_107 : decode cX9_wear 107 = .ok (.return_, 1) := by decide +kernel
theorem dX9_go_0 : decode cX9_go 0 = .ok (.aload_n 0, 1) := by decide +kernel
theorem dX9_go_1 : decode cX9_go 1 = .ok (.getfield 103, 3) := by decide +kernel
theorem dX9_go_4 : decode cX9_go 4 = .ok (.iload_n 1, 1) := by decide +kernel
theorem dX9_go_5 : decode cX9_go 5 = .ok (.dup2, 1) := by decide +kernel
theorem dX9_go_6 : decode cX9_go 6 = .ok (.iaload, 1) := by decide +kernel
theorem dX9_go_7 : decode cX9_go 7 = .ok (.iconst 1, 1) := by decide +kernel
theorem dX9_go_8 : decode cX9_go 8 = .ok (.iadd, 1) := by decide +kernel
theorem dX9_go_9 : decode cX9_go 9 = .ok (.iastore, 1) := by decide +kernel
theorem dX9_go_10 : decode cX9_go 10 = .ok (.aload_n 0, 1) := by decide +kernel
theorem dX9_go_11 : decode cX9_go 11 = .ok (.getfield 100, 3) := by decide +kernel
theorem dX9_go_14 : decode cX9_go 14 = .ok (.iload_n 1, 1) := by decide +kernel
theorem dX9_go_15 : decode cX9_go 15 = .ok (.dup2, 1) := by decide +kernel
theorem dX9_go_16 : decode cX9_go 16 = .ok (.iaload, 1) := by decide +kernel
theorem dX9_go_17 : decode cX9_go 17 = .ok (.aload_n 0, 1) := by decide +kernel
theorem dX9_go_18 : decode cX9_go 18 = .ok (.aload_n 0, 1) := by decide +kernel
theorem dX9_go_19 : decode cX9_go 19 = .ok (.getfield 103, 3) := by decide +kernel
theorem dX9_go_22 : decode cX9_go 22 = .ok (.iload_n 1, 1) := by decide +kernel
theorem dX9_go_23 : decode cX9_go 23 = .ok (.iaload, 1) := by decide +kernel
theorem dX9_go_24 : decode cX9_go 24 = .ok (.invokevirtual 205, 3) := by decide +kernel
theorem dX9_go_27 : decode cX9_go 27 = .ok (.iload_n 2, 1) := by decide +kernel
theorem dX9_go_28 : decode cX9_go 28 = .ok (.iadd, 1) := by decide +kernel
theorem dX9_go_29 : decode cX9_go 29 = .ok (.iadd, 1) := by decide +kernel
theorem dX9_go_30 : decode cX9_go 30 = .ok (.iastore, 1) := by decide +kernel
theorem dX9_go_31 : decode cX9_go 31 = .ok (.aload_n 0, 1) := by decide +kernel
theorem dX9_go_32 : decode cX9_go 32 = .ok (.aload_n 0, 1) := by decide +kernel
theorem dX9_go_33 : decode cX9_go 33 = .ok (.getfield 100, 3) := by decide +kernel
theorem dX9_go_36 : decode cX9_go 36 = .ok (.iload_n 1, 1) := by decide +kernel
theorem dX9_go_37 : decode cX9_go 37 = .ok (.iaload, 1) := by decide +kernel
theorem dX9_go_38 : decode cX9_go 38 = .ok (.invokevirtual 208, 3) := by decide +kernel
theorem dX9_go_41 : decode cX9_go 41 = .ok (.istore_n 3, 1) := by decide +kernel
theorem dX9_go_42 : decode cX9_go 42 = .ok (.iconst 0, 1) := by decide +kernel
theorem dX9_go_43 : decode cX9_go 43 = .ok (.istore 4, 2) := by decide +kernel
theorem dX9_go_45 : decode cX9_go 45 = .ok (.iconst 0, 1) := by decide +kernel
theorem dX9_go_46 : decode cX9_go 46 = .ok (.istore 5, 2) := by decide +kernel
theorem dX9_go_48 : decode cX9_go 48 = .ok (.iload 5, 2) := by decide +kernel
theorem dX9_go_50 : decode cX9_go 50 = .ok (.aload_n 0, 1) := by decide +kernel
theorem dX9_go_51 : decode cX9_go 51 = .ok (.getfield 13, 3) := by decide +kernel
theorem dX9_go_54 : decode cX9_go 54 = .ok (.iconst 0, 1) := by decide +kernel
theorem dX9_go_55 : decode cX9_go 55 = .ok (.iaload, 1) := by decide +kernel
theorem dX9_go_56 : decode cX9_go 56 = .ok (.if_icmp .ge 73, 3) := by decide +kernel
theorem dX9_go_59 : decode cX9_go 59 = .ok (.bipush 8, 2) := by decide +kernel
theorem dX9_go_61 : decode cX9_go 61 = .ok (.iload_n 1, 1) := by decide +kernel
theorem dX9_go_62 : decode cX9_go 62 = .ok (.imul, 1) := by decide +kernel
theorem dX9_go_63 : decode cX9_go 63 = .ok (.iload 5, 2) := by decide +kernel
theorem dX9_go_65 : decode cX9_go 65 = .ok (.iadd, 1) := by decide +kernel
theorem dX9_go_66 : decode cX9_go 66 = .ok (.istore 6, 2) := by decide +kernel
theorem dX9_go_68 : decode cX9_go 68 = .ok (.iload 4, 2) := by decide +kernel
theorem dX9_go_70 : decode cX9_go 70 = .ok (.aload_n 0, 1) := by decide +kernel
theorem dX9_go_71 : decode cX9_go 71 = .ok (.getfield 91, 3) := by decide +kernel
theorem dX9_go_74 : decode cX9_go 74 = .ok (.iload 6, 2) := by decide +kernel
theorem dX9_go_76 : decode cX9_go 76 = .ok (.iaload, 1) := by decide +kernel
theorem dX9_go_77 : decode cX9_go 77 = .ok (.ifCond .ne 7, 3) := by decide +kernel
theorem dX9_go_80 : decode cX9_go 80 = .ok (.iconst 0, 1) := by decide +kernel
theorem dX9_go_81 : decode cX9_go 81 = .ok (.goto 39, 3) := by decide +kernel
theorem dX9_go_84 : decode cX9_go 84 = .ok (.aload_n 0, 1) := by decide +kernel
theorem dX9_go_85 : decode cX9_go 85 = .ok (.getfield 94, 3) := by decide +kernel
theorem dX9_go_88 : decode cX9_go 88 = .ok (.iload 6, 2) := by decide +kernel
theorem dX9_go_90 : decode cX9_go 90 = .ok (.iaload, 1) := by decide +kernel
theorem dX9_go_91 : decode cX9_go 91 = .ok (.iconst 1, 1) := by decide +kernel
theorem dX9_go_92 : decode cX9_go 92 = .ok (.if_icmp .ne 10, 3) := by decide +kernel
theorem dX9_go_95 : decode cX9_go 95 = .ok (.iload_n 3, 1) := by decide +kernel
theorem dX9_go_96 : decode cX9_go 96 = .ok (.bipush 8, 2) := by decide +kernel
theorem dX9_go_98 : decode cX9_go 98 = .ok (.idiv, 1) := by decide +kernel
theorem dX9_go_99 : decode cX9_go 99 = .ok (.goto 21, 3) := by decide +kernel
theorem dX9_go_102 : decode cX9_go 102 = .ok (.aload_n 0, 1) := by decide +kernel
theorem dX9_go_103 : decode cX9_go 103 = .ok (.getfield 94, 3) := by decide +kernel
theorem dX9_go_106 : decode cX9_go 106 = .ok (.iload 6, 2) := by decide +kernel
theorem dX9_go_108 : decode cX9_go 108 = .ok (.iaload, 1) := by decide +kernel
theorem dX9_go_109 : decode cX9_go 109 = .ok (.iconst 3, 1) := by decide +kernel
theorem dX9_go_110 : decode cX9_go 110 = .ok (.if_icmp .ne 9, 3) := by decide +kernel
theorem dX9_go_113 : decode cX9_go 113 = .ok (.iload_n 3, 1) := by decide +kernel
theorem dX9_go_114 : decode cX9_go 114 = .ok (.iconst 3, 1) := by decide +kernel
theorem dX9_go_115 : decode cX9_go 115 = .ok (.idiv, 1) := by decide +kernel
theorem dX9_go_116 : decode cX9_go 116 = .ok (.goto 4, 3) := by decide +kernel
theorem dX9_go_119 : decode cX9_go 119 = .ok (.iconst 0, 1) := by decide +kernel
theorem dX9_go_120 : decode cX9_go 120 = .ok (.iadd, 1) := by decide +kernel
theorem dX9_go_121 : decode cX9_go 121 = .ok (.istore 4, 2) := by decide +kernel
theorem dX9_go_123 : decode cX9_go 123 = .ok (.iinc 5 1, 3) := by decide +kernel
theorem dX9_go_126 : decode cX9_go 126 = .ok (.goto (-78), 3) := by decide +kernel
theorem dX9_go_129 : decode cX9_go 129 = .ok (.iload 4, 2) := by decide +kernel
theorem dX9_go_131 : decode cX9_go 131 = .ok (.aload_n 0, 1) := by decide +kernel
theorem dX9_go_132 : decode cX9_go 132 = .ok (.getfield 100, 3) := by decide +kernel
theorem dX9_go_135 : decode cX9_go 135 = .ok (.iload_n 1, 1) := by decide +kernel
theorem dX9_go_136 : decode cX9_go 136 = .ok (.iaload, 1) := by decide +kernel
theorem dX9_go_137 : decode cX9_go 137 = .ok (.if_icmp .ge 8, 3) := by decide +kernel
theorem dX9_go_140 : decode cX9_go 140 = .ok (.iload 4, 2) := by decide +kernel
theorem dX9_go_142 : decode cX9_go 142 = .ok (.goto 9, 3) := by decide +kernel
theorem dX9_go_145 : decode cX9_go 145 = .ok (.aload_n 0, 1) := by decide +kernel
theorem dX9_go_146 : decode cX9_go 146 = .ok (.getfield 100, 3) := by decide +kernel
theorem dX9_go_149 : decode cX9_go 149 = .ok (.iload_n 1, 1) := by decide +kernel
theorem dX9_go_150 : decode cX9_go 150 = .ok (.iaload, 1) := by decide +kernel
theorem dX9_go_151 : decode cX9_go 151 = .ok (.istore 4, 2) := by decide +kernel
theorem dX9_go_153 : decode cX9_go 153 = .ok (.aload_n 0, 1) := by decide +kernel
theorem dX9_go_154 : decode cX9_go 154 = .ok (.getfield 100, 3) := by decide +kernel
theorem dX9_go_157 : decode cX9_go 157 = .ok (.iload_n 1, 1) := by decide +kernel
theorem dX9_go_158 : decode cX9_go 158 = .ok (.dup2, 1) := by decide +kernel
theorem dX9_go_159 : decode cX9_go 159 = .ok (.iaload, 1) := by decide +kernel
theorem dX9_go_160 : decode cX9_go 160 = .ok (.iload 4, 2) := by decide +kernel
theorem dX9_go_162 : decode cX9_go 162 = .ok (.isub, 1) := by decide +kernel
theorem dX9_go_163 : decode cX9_go 163 = .ok (.iastore, 1) := by decide +kernel
theorem dX9_go_164 : decode cX9_go 164 = .ok (.aload_n 0, 1) := by decide +kernel
theorem dX9_go_165 : decode cX9_go 165 = .ok (.getfield 109, 3) := by decide +kernel
theorem dX9_go_168 : decode cX9_go 168 = .ok (.iload_n 1, 1) := by decide +kernel
theorem dX9_go_169 : decode cX9_go 169 = .ok (.dup2, 1) := by decide +kernel
theorem dX9_go_170 : decode cX9_go 170 = .ok (.iaload, 1) := by decide +kernel
theorem dX9_go_171 : decode cX9_go 171 = .ok (.iload 4, 2) := by decide +kernel
theorem dX9_go_173 : decode cX9_go 173 = .ok (.iadd, 1) := by decide +kernel
theorem dX9_go_174 : decode cX9_go 174 = .ok (.iastore, 1) := by decide +kernel
theorem dX9_go_175 : decode cX9_go 175 = .ok (.aload_n 0, 1) := by decide +kernel
theorem dX9_go_176 : decode cX9_go 176 = .ok (.aload_n 0, 1) := by decide +kernel
theorem dX9_go_177 : decode cX9_go 177 = .ok (.iload_n 1, 1) := by decide +kernel
theorem dX9_go_178 : decode cX9_go 178 = .ok (.invokevirtual 199, 3) := by decide +kernel
theorem dX9_go_181 : decode cX9_go 181 = .ok (.invokevirtual 196, 3) := by decide +kernel
theorem dX9_go_184 : decode cX9_go 184 = .ok (.istore 5, 2) := by decide +kernel
theorem dX9_go_186 : decode cX9_go 186 = .ok (.aload_n 0, 1) := by decide +kernel
theorem dX9_go_187 : decode cX9_go 187 = .ok (.aload_n 0, 1) := by decide +kernel
theorem dX9_go_188 : decode cX9_go 188 = .ok (.getfield 100, 3) := by decide +kernel
theorem dX9_go_191 : decode cX9_go 191 = .ok (.iload_n 1, 1) := by decide +kernel
theorem dX9_go_192 : decode cX9_go 192 = .ok (.iaload, 1) := by decide +kernel
theorem dX9_go_193 : decode cX9_go 193 = .ok (.iload 5, 2) := by decide +kernel
theorem dX9_go_195 : decode cX9_go 195 = .ok (.if_icmp .le 15, 3) := by decide +kernel
theorem dX9_go_198 : decode cX9_go 198 = .ok (.aload_n 0, 1) := by decide +kernel
theorem dX9_go_199 : decode cX9_go 199 = .ok (.getfield 100, 3) := by decide +kernel
theorem dX9_go_202 : decode cX9_go 202 = .ok (.iload_n 1, 1) := by decide +kernel
theorem dX9_go_203 : decode cX9_go 203 = .ok (.iaload, 1) := by decide +kernel
theorem dX9_go_204 : decode cX9_go 204 = .ok (.iload 5, 2) := by decide +kernel
theorem dX9_go_206 : decode cX9_go 206 = .ok (.isub, 1) := by decide +kernel
theorem dX9_go_207 : decode cX9_go 207 = .ok (.goto 4, 3) := by decide +kernel
theorem dX9_go_210 : decode cX9_go 210 = .ok (.iconst 0, 1) := by decide +kernel
theorem dX9_go_211 : decode cX9_go 211 = .ok (.putfield 211, 3) := by decide +kernel
theorem dX9_go_214 : decode cX9_go 214 = .ok (.aload_n 0, 1) := by decide +kernel
theorem dX9_go_215 : decode cX9_go 215 = .ok (.aload_n 0, 1) := by decide +kernel
theorem dX9_go_216 : decode cX9_go 216 = .ok (.iload_n 1, 1) := by decide +kernel
theorem dX9_go_217 : decode cX9_go 217 = .ok (.invokevirtual 214, 3) := by decide +kernel
theorem dX9_go_220 : decode cX9_go 220 = .ok (.putfield 217, 3) := by decide +kernel
theorem dX9_go_223 : decode cX9_go 223 = .ok (.aload_n 0, 1) := by decide +kernel
theorem dX9_go_224 : decode cX9_go 224 = .ok (.bipush (-4), 2) := by decide +kernel
theorem dX9_go_226 : decode cX9_go 226 = .ok (.putfield 202, 3) := by decide +kernel
theorem dX9_go_229 : decode cX9_go 229 = .ok (.aload_n 0, 1) := by decide +kernel
theorem dX9_go_230 : decode cX9_go 230 = .ok (.getfield 100, 3) := by decide +kernel
theorem dX9_go_233 : decode cX9_go 233 = .ok (.iload_n 1, 1) := by decide +kernel
theorem dX9_go_234 : decode cX9_go 234 = .ok (.dup2, 1) := by decide +kernel
theorem dX9_go_235 : decode cX9_go 235 = .ok (.iaload, 1) := by decide +kernel
theorem dX9_go_236 : decode cX9_go 236 = .ok (.aload_n 0, 1) := by decide +kernel
theorem dX9_go_237 : decode cX9_go 237 = .ok (.getfield 211, 3) := by decide +kernel
theorem dX9_go_240 : decode cX9_go 240 = .ok (.isub, 1) := by decide +kernel
theorem dX9_go_241 : decode cX9_go 241 = .ok (.iastore, 1) := by decide +kernel
theorem dX9_go_242 : decode cX9_go 242 = .ok (.aload_n 0, 1) := by decide +kernel
theorem dX9_go_243 : decode cX9_go 243 = .ok (.getfield 106, 3) := by decide +kernel
theorem dX9_go_246 : decode cX9_go 246 = .ok (.iload_n 1, 1) := by decide +kernel
theorem dX9_go_247 : decode cX9_go 247 = .ok (.dup2, 1) := by decide +kernel
theorem dX9_go_248 : decode cX9_go 248 = .ok (.iaload, 1) := by decide +kernel
theorem dX9_go_249 : decode cX9_go 249 = .ok (.aload_n 0, 1) := by decide +kernel
theorem dX9_go_250 : decode cX9_go 250 = .ok (.getfield 211, 3) := by decide +kernel
theorem dX9_go_253 : decode cX9_go 253 = .ok (.iadd, 1) := by decide +kernel
theorem dX9_go_254 : decode cX9_go 254 = .ok (.iastore, 1) := by decide +kernel
theorem dX9_go_255 : decode cX9_go 255 = .ok (.aload_n 0, 1) := by decide +kernel
theorem dX9_go_256 : decode cX9_go 256 = .ok (.getfield 211, 3) := by decide +kernel
theorem dX9_go_259 : decode cX9_go 259 = .ok (.ifCond .le 21, 3) := by decide +kernel
theorem dX9_go_262 : decode cX9_go 262 = .ok (.aload_n 0, 1) := by decide +kernel
theorem dX9_go_263 : decode cX9_go 263 = .ok (.getfield 217, 3) := by decide +kernel
theorem dX9_go_266 : decode cX9_go 266 = .ok (.bipush 8, 2) := by decide +kernel
theorem dX9_go_268 : decode cX9_go 268 = .ok (.if_icmp .ge 12, 3) := by decide +kernel
theorem dX9_go_271 : decode cX9_go 271 = .ok (.aload_n 0, 1) := by decide +kernel
theorem dX9_go_272 : decode cX9_go 272 = .ok (.iload_n 1, 1) := by decide +kernel
theorem dX9_go_273 : decode cX9_go 273 = .ok (.aload_n 0, 1) := by decide +kernel
theorem dX9_go_274 : decode cX9_go 274 = .ok (.getfield 217, 3) := by decide +kernel
theorem dX9_go_277 : decode cX9_go 277 = .ok (.invokevirtual 220, 3) := by decide +kernel
theorem dX9_go_280 : decode cX9_go 280 = .ok (.return_, 1) := by decide +kernel
theorem dX9_canDo_0 : decode cX9_canDo 0 = .ok (.bipush 8, 2) := by decide +kernel
theorem dX9_canDo_2 : decode cX9_canDo 2 = .ok (.iload_n 1, 1) := by decide +kernel
theorem dX9_canDo_3 : decode cX9_canDo 3 = .ok (.imul, 1) := by decide +kernel
theorem dX9_canDo_4 : decode cX9_canDo 4 = .ok (.aload_n 0, 1) := by decide +kernel
theorem dX9_canDo_5 : decode cX9_canDo 5 = .ok (.getfield 73, 3) := by decide +kernel
theorem dX9_canDo_8 : decode cX9_canDo 8 = .ok (.iload_n 2, 1) := by decide +kernel
theorem dX9_canDo_9 : decode cX9_canDo 9 = .ok (.iaload, 1) := by decide +kernel
theorem dX9_canDo_10 : decode cX9_canDo 10 = .ok (.iadd, 1) := by decide +kernel
theorem dX9_canDo_11 : decode cX9_canDo 11 = .ok (.istore_n 3, 1) := by decide +kernel
theorem dX9_canDo_12 : decode cX9_canDo 12 = .ok (.aload_n 0, 1) := by decide +kernel
theorem dX9_canDo_13 : decode cX9_canDo 13 = .ok (.getfield 70, 3) := by decide +kernel
theorem dX9_canDo_16 : decode cX9_canDo 16 = .ok (.iload_n 2, 1) := by decide +kernel
theorem dX9_canDo_17 : decode cX9_canDo 17 = .ok (.iaload, 1) := by decide +kernel
theorem dX9_canDo_18 : decode cX9_canDo 18 = .ok (.ifCond .ne 29, 3) := by decide +kernel
theorem dX9_canDo_21 : decode cX9_canDo 21 = .ok (.aload_n 0, 1) := by decide +kernel
theorem dX9_canDo_22 : decode cX9_canDo 22 = .ok (.getfield 91, 3) := by decide +kernel
theorem dX9_canDo_25 : decode cX9_canDo 25 = .ok (.iload_n 3, 1) := by decide +kernel
theorem dX9_canDo_26 : decode cX9_canDo 26 = .ok (.iaload, 1) := by decide +kernel
theorem dX9_canDo_27 : decode cX9_canDo 27 = .ok (.aload_n 0, 1) := by decide +kernel
theorem dX9_canDo_28 : decode cX9_canDo 28 = .ok (.getfield 79, 3) := by decide +kernel
theorem dX9_canDo_31 : decode cX9_canDo 31 = .ok (.iload_n 2, 1) := by decide +kernel
theorem dX9_canDo_32 : decode cX9_canDo 32 = .ok (.iaload, 1) := by decide +kernel
theorem dX9_canDo_33 : decode cX9_canDo 33 = .ok (.iadd, 1) := by decide +kernel
theorem dX9_canDo_34 : decode cX9_canDo 34 = .ok (.bipush 40, 2) := by decide +kernel
theorem dX9_canDo_36 : decode cX9_canDo 36 = .ok (.if_icmp .gt 7, 3) := by decide +kernel
theorem dX9_canDo_39 : decode cX9_canDo 39 = .ok (.iconst 1, 1) := by decide +kernel
theorem dX9_canDo_40 : decode cX9_canDo 40 = .ok (.goto 37, 3) := by decide +kernel
theorem dX9_canDo_43 : decode cX9_canDo 43 = .ok (.iconst 0, 1) := by decide +kernel
theorem dX9_canDo_44 : decode cX9_canDo 44 = .ok (.goto 33, 3) := by decide +kernel
theorem dX9_canDo_47 : decode cX9_canDo 47 = .ok (.aload_n 0, 1) := by decide +kernel
theorem dX9_canDo_48 : decode cX9_canDo 48 = .ok (.getfield 70, 3) := by decide +kernel
theorem dX9_canDo_51 : decode cX9_canDo 51 = .ok (.iload_n 2, 1) := by decide +kernel
theorem dX9_canDo_52 : decode cX9_canDo 52 = .ok (.iaload, 1) := by decide +kernel
theorem dX9_canDo_53 : decode cX9_canDo 53 = .ok (.iconst 1, 1) := by decide +kernel
theorem dX9_canDo_54 : decode cX9_canDo 54 = .ok (.if_icmp .ne 18, 3) := by decide +kernel
theorem dX9_canDo_57 : decode cX9_canDo 57 = .ok (.aload_n 0, 1) := by decide +kernel
theorem dX9_canDo_58 : decode cX9_canDo 58 = .ok (.getfield 91, 3) := by decide +kernel
theorem dX9_canDo_61 : decode cX9_canDo 61 = .ok (.iload_n 3, 1) := by decide +kernel
theorem dX9_canDo_62 : decode cX9_canDo 62 = .ok (.iaload, 1) := by decide +kernel
theorem dX9_canDo_63 : decode cX9_canDo 63 = .ok (.aload_n 0, 1) := by decide +kernel
theorem dX9_canDo_64 : decode cX9_canDo 64 = .ok (.getfield 79, 3) := by decide +kernel
theorem dX9_canDo_67 : decode cX9_canDo 67 = .ok (.iload_n 2, 1) := by decide +kernel
theorem dX9_canDo_68 : decode cX9_canDo 68 = .ok (.iaload, 1) := by decide +kernel
theorem dX9_canDo_69 : decode cX9_canDo 69 = .ok (.if_icmp .lt 7, 3) := by decide +kernel
theorem dX9_canDo_72 : decode cX9_canDo 72 = .ok (.iconst 1, 1) := by decide +kernel
theorem dX9_canDo_73 : decode cX9_canDo 73 = .ok (.goto 4, 3) := by decide +kernel
theorem dX9_canDo_76 : decode cX9_canDo 76 = .ok (.iconst 0, 1) := by decide +kernel
theorem dX9_canDo_77 : decode cX9_canDo 77 = .ok (.ireturn, 1) := by decide +kernel
theorem dX9_doAct_0 : decode cX9_doAct 0 = .ok (.bipush 8, 2) := by decide +kernel
theorem dX9_doAct_2 : decode cX9_doAct 2 = .ok (.iload_n 1, 1) := by decide +kernel
theorem dX9_doAct_3 : decode cX9_doAct 3 = .ok (.imul, 1) := by decide +kernel
theorem dX9_doAct_4 : decode cX9_doAct 4 = .ok (.aload_n 0, 1) := by decide +kernel
theorem dX9_doAct_5 : decode cX9_doAct 5 = .ok (.getfield 73, 3) := by decide +kernel
theorem dX9_doAct_8 : decode cX9_doAct 8 = .ok (.iload_n 2, 1) := by decide +kernel
theorem dX9_doAct_9 : decode cX9_doAct 9 = .ok (.iaload, 1) := by decide +kernel
theorem dX9_doAct_10 : decode cX9_doAct 10 = .ok (.iadd, 1) := by decide +kernel
theorem dX9_doAct_11 : decode cX9_doAct 11 = .ok (.istore_n 3, 1) := by decide +kernel
theorem dX9_doAct_12 : decode cX9_doAct 12 = .ok (.aload_n 0, 1) := by decide +kernel
theorem dX9_doAct_13 : decode cX9_doAct 13 = .ok (.getfield 70, 3) := by decide +kernel
theorem dX9_doAct_16 : decode cX9_doAct 16 = .ok (.iload_n 2, 1) := by decide +kernel
theorem dX9_doAct_17 : decode cX9_doAct 17 = .ok (.iaload, 1) := by decide +kernel
theorem dX9_doAct_18 : decode cX9_doAct 18 = .ok (.lookupswitch 74 #[(0, 26), (1, 56)], 26) := by decide +kernel
theorem dX9_doAct_44 : decode cX9_doAct 44 = .ok (.aload_n 0, 1) := by decide +kernel
theorem dX9_doAct_45 : decode cX9_doAct 45 = .ok (.getfield 91, 3) := by decide +kernel
theorem dX9_doAct_48 : decode cX9_doAct 48 = .ok (.iload_n 3, 1) := by decide +kernel
theorem dX9_doAct_49 : decode cX9_doAct 49 = .ok (.dup2, 1) := by decide +kernel
theorem dX9_doAct_50 : decode cX9_doAct 50 = .ok (.iaload, 1) := by decide +kernel
theorem dX9_doAct_51 : decode cX9_doAct 51 = .ok (.aload_n 0, 1) := by decide +kernel
theorem dX9_doAct_52 : decode cX9_doAct 52 = .ok (.getfield 79, 3) := by decide +kernel
theorem dX9_doAct_55 : decode cX9_doAct 55 = .ok (.iload_n 2, 1) := by decide +kernel
theorem dX9_doAct_56 : decode cX9_doAct 56 = .ok (.iaload, 1) := by decide +kernel
theorem dX9_doAct_57 : decode cX9_doAct 57 = .ok (.iadd, 1) := by decide +kernel
theorem dX9_doAct_58 : decode cX9_doAct 58 = .ok (.iastore, 1) := by decide +kernel
theorem dX9_doAct_59 : decode cX9_doAct 59 = .ok (.aload_n 0, 1) := by decide +kernel
theorem dX9_doAct_60 : decode cX9_doAct 60 = .ok (.getfield 94, 3) := by decide +kernel
theorem dX9_doAct_63 : decode cX9_doAct 63 = .ok (.iload_n 3, 1) := by decide +kernel
theorem dX9_doAct_64 : decode cX9_doAct 64 = .ok (.aload_n 0, 1) := by decide +kernel
theorem dX9_doAct_65 : decode cX9_doAct 65 = .ok (.getfield 76, 3) := by decide +kernel
theorem dX9_doAct_68 : decode cX9_doAct 68 = .ok (.iload_n 2, 1) := by decide +kernel
theorem dX9_doAct_69 : decode cX9_doAct 69 = .ok (.iaload, 1) := by decide +kernel
theorem dX9_doAct_70 : decode cX9_doAct 70 = .ok (.iastore, 1) := by decide +kernel
theorem dX9_doAct_71 : decode cX9_doAct 71 = .ok (.goto 47, 3) := by decide +kernel
theorem dX9_doAct_74 : decode cX9_doAct 74 = .ok (.aload_n 0, 1) := by decide +kernel
theorem dX9_doAct_75 : decode cX9_doAct 75 = .ok (.getfield 91, 3) := by decide +kernel
theorem dX9_doAct_78 : decode cX9_doAct 78 = .ok (.iload_n 3, 1) := by decide +kernel
theorem dX9_doAct_79 : decode cX9_doAct 79 = .ok (.dup2, 1) := by decide +kernel
theorem dX9_doAct_80 : decode cX9_doAct 80 = .ok (.iaload, 1) := by decide +kernel
theorem dX9_doAct_81 : decode cX9_doAct 81 = .ok (.aload_n 0, 1) := by decide +kernel
theorem dX9_doAct_82 : decode cX9_doAct 82 = .ok (.getfield 79, 3) := by decide +kernel
theorem dX9_doAct_85 : decode cX9_doAct 85 = .ok (.iload_n 2, 1) := by decide +kernel
theorem dX9_doAct_86 : decode cX9_doAct 86 = .ok (.iaload, 1) := by decide +kernel
theorem dX9_doAct_87 : decode cX9_doAct 87 = .ok (.isub, 1) := by decide +kernel
theorem dX9_doAct_88 : decode cX9_doAct 88 = .ok (.iastore, 1) := by decide +kernel
theorem dX9_doAct_89 : decode cX9_doAct 89 = .ok (.goto 29, 3) := by decide +kernel
theorem dX9_doAct_92 : decode cX9_doAct 92 = .ok (.iconst 0, 1) := by decide +kernel
theorem dX9_doAct_93 : decode cX9_doAct 93 = .ok (.istore 4, 2) := by decide +kernel
theorem dX9_doAct_95 : decode cX9_doAct 95 = .ok (.iload 4, 2) := by decide +kernel
theorem dX9_doAct_97 : decode cX9_doAct 97 = .ok (.aload_n 0, 1) := by decide +kernel
theorem dX9_doAct_98 : decode cX9_doAct 98 = .ok (.getfield 79, 3) := by decide +kernel
theorem dX9_doAct_101 : decode cX9_doAct 101 = .ok (.iload_n 2, 1) := by decide +kernel
theorem dX9_doAct_102 : decode cX9_doAct 102 = .ok (.iaload, 1) := by decide +kernel
theorem dX9_doAct_103 : decode cX9_doAct 103 = .ok (.if_icmp .ge 15, 3) := by decide +kernel
theorem dX9_doAct_106 : decode cX9_doAct 106 = .ok (.aload_n 0, 1) := by decide +kernel
theorem dX9_doAct_107 : decode cX9_doAct 107 = .ok (.iload_n 1, 1) := by decide +kernel
theorem dX9_doAct_108 : decode cX9_doAct 108 = .ok (.iconst 0, 1) := by decide +kernel
theorem dX9_doAct_109 : decode cX9_doAct 109 = .ok (.invokevirtual 224, 3) := by decide +kernel
theorem dX9_doAct_112 : decode cX9_doAct 112 = .ok (.iinc 4 1, 3) := by decide +kernel
theorem dX9_doAct_115 : decode cX9_doAct 115 = .ok (.goto (-20), 3) := by decide +kernel
theorem dX9_doAct_118 : decode cX9_doAct 118 = .ok (.return_, 1) := by decide +kernel
theorem dX9_beginBut_0 : decode cX9_beginBut 0 = .ok (.iconst 0, 1) := by decide +kernel
theorem dX9_beginBut_1 : decode cX9_beginBut 1 = .ok (.istore_n 3, 1) := by decide +kernel
theorem dX9_beginBut_2 : decode cX9_beginBut 2 = .ok (.iload_n 3, 1) := by decide +kernel
theorem dX9_beginBut_3 : decode cX9_beginBut 3 = .ok (.bipush 8, 2) := by decide +kernel
theorem dX9_beginBut_5 : decode cX9_beginBut 5 = .ok (.if_icmp .ge 55, 3) := by decide +kernel
theorem dX9_beginBut_8 : decode cX9_beginBut 8 = .ok (.aload_n 0, 1) := by decide +kernel
theorem dX9_beginBut_9 : decode cX9_beginBut 9 = .ok (.getfield 91, 3) := by decide +kernel
theorem dX9_beginBut_12 : decode cX9_beginBut 12 = .ok (.bipush 8, 2) := by decide +kernel
theorem dX9_beginBut_14 : decode cX9_beginBut 14 = .ok (.iload_n 1, 1) := by decide +kernel
theorem dX9_beginBut_15 : decode cX9_beginBut 15 = .ok (.imul, 1) := by decide +kernel
theorem dX9_beginBut_16 : decode cX9_beginBut 16 = .ok (.iload_n 3, 1) := by decide +kernel
theorem dX9_beginBut_17 : decode cX9_beginBut 17 = .ok (.iadd, 1) := by decide +kernel
theorem dX9_beginBut_18 : decode cX9_beginBut 18 = .ok (.aload_n 0, 1) := by decide +kernel
theorem dX9_beginBut_19 : decode cX9_beginBut 19 = .ok (.getfield 16, 3) := by decide +kernel
theorem dX9_beginBut_22 : decode cX9_beginBut 22 = .ok (.iload_n 3, 1) := by decide +kernel
theorem dX9_beginBut_23 : decode cX9_beginBut 23 = .ok (.iaload, 1) := by decide +kernel
theorem dX9_beginBut_24 : decode cX9_beginBut 24 = .ok (.iastore, 1) := by decide +kernel
theorem dX9_beginBut_25 : decode cX9_beginBut 25 = .ok (.aload_n 0, 1) := by decide +kernel
theorem dX9_beginBut_26 : decode cX9_beginBut 26 = .ok (.getfield 94, 3) := by decide +kernel
theorem dX9_beginBut_29 : decode cX9_beginBut 29 = .ok (.bipush 8, 2) := by decide +kernel
theorem dX9_beginBut_31 : decode cX9_beginBut 31 = .ok (.iload_n 1, 1) := by decide +kernel
theorem dX9_beginBut_32 : decode cX9_beginBut 32 = .ok (.imul, 1) := by decide +kernel
theorem dX9_beginBut_33 : decode cX9_beginBut 33 = .ok (.iload_n 3, 1) := by decide +kernel
theorem dX9_beginBut_34 : decode cX9_beginBut 34 = .ok (.iadd, 1) := by decide +kernel
theorem dX9_beginBut_35 : decode cX9_beginBut 35 = .ok (.aload_n 0, 1) := by decide +kernel
theorem dX9_beginBut_36 : decode cX9_beginBut 36 = .ok (.getfield 19, 3) := by decide +kernel
theorem dX9_beginBut_39 : decode cX9_beginBut 39 = .ok (.iload_n 3, 1) := by decide +kernel
theorem dX9_beginBut_40 : decode cX9_beginBut 40 = .ok (.iaload, 1) := by decide +kernel
theorem dX9_beginBut_41 : decode cX9_beginBut 41 = .ok (.iastore, 1) := by decide +kernel
theorem dX9_beginBut_42 : decode cX9_beginBut 42 = .ok (.aload_n 0, 1) := by decide +kernel
theorem dX9_beginBut_43 : decode cX9_beginBut 43 = .ok (.getfield 97, 3) := by decide +kernel
theorem dX9_beginBut_46 : decode cX9_beginBut 46 = .ok (.bipush 8, 2) := by decide +kernel
theorem dX9_beginBut_48 : decode cX9_beginBut 48 = .ok (.iload_n 1, 1) := by decide +kernel
theorem dX9_beginBut_49 : decode cX9_beginBut 49 = .ok (.imul, 1) := by decide +kernel
theorem dX9_beginBut_50 : decode cX9_beginBut 50 = .ok (.iload_n 3, 1) := by decide +kernel
theorem dX9_beginBut_51 : decode cX9_beginBut 51 = .ok (.iadd, 1) := by decide +kernel
theorem dX9_beginBut_52 : decode cX9_beginBut 52 = .ok (.iconst 0, 1) := by decide +kernel
theorem dX9_beginBut_53 : decode cX9_beginBut 53 = .ok (.iastore, 1) := by decide +kernel
theorem dX9_beginBut_54 : decode cX9_beginBut 54 = .ok (.iinc 3 1, 3) := by decide +kernel
theorem dX9_beginBut_57 : decode cX9_beginBut 57 = .ok (.goto (-55), 3) := by decide +kernel
theorem dX9_beginBut_60 : decode cX9_beginBut 60 = .ok (.aload_n 0, 1) := by decide +kernel
theorem dX9_beginBut_61 : decode cX9_beginBut 61 = .ok (.getfield 100, 3) := by decide +kernel
theorem dX9_beginBut_64 : decode cX9_beginBut 64 = .ok (.iload_n 1, 1) := by decide +kernel
theorem dX9_beginBut_65 : decode cX9_beginBut 65 = .ok (.iconst 0, 1) := by decide +kernel
theorem dX9_beginBut_66 : decode cX9_beginBut 66 = .ok (.iastore, 1) := by decide +kernel
theorem dX9_beginBut_67 : decode cX9_beginBut 67 = .ok (.aload_n 0, 1) := by decide +kernel
theorem dX9_beginBut_68 : decode cX9_beginBut 68 = .ok (.getfield 103, 3) := by decide +kernel
theorem dX9_beginBut_71 : decode cX9_beginBut 71 = .ok (.iload_n 1, 1) := by decide +kernel
theorem dX9_beginBut_72 : decode cX9_beginBut 72 = .ok (.iconst 0, 1) := by decide +kernel
theorem dX9_beginBut_73 : decode cX9_beginBut 73 = .ok (.iastore, 1) := by decide +kernel
theorem dX9_beginBut_74 : decode cX9_beginBut 74 = .ok (.aload_n 0, 1) := by decide +kernel
theorem dX9_beginBut_75 : decode cX9_beginBut 75 = .ok (.getfield 106, 3) := by decide +kernel
theorem dX9_beginBut_78 : decode cX9_beginBut 78 = .ok (.iload_n 1, 1) := by decide +kernel
theorem dX9_beginBut_79 : decode cX9_beginBut 79 = .ok (.iconst 0, 1) := by decide +kernel
theorem dX9_beginBut_80 : decode cX9_beginBut 80 = .ok (.iastore, 1) := by decide +kernel
theorem dX9_beginBut_81 : decode cX9_beginBut 81 = .ok (.aload_n 0, 1) := by decide +kernel
theorem dX9_beginBut_82 : decode cX9_beginBut 82 = .ok (.getfield 109, 3) := by decide +kernel
theorem dX9_beginBut_85 : decode cX9_beginBut 85 = .ok (.iload_n 1, 1) := by decide +kernel
theorem dX9_beginBut_86 : decode cX9_beginBut 86 = .ok (.iconst 0, 1) := by decide +kernel
theorem dX9_beginBut_87 : decode cX9_beginBut 87 = .ok (.iastore, 1) := by decide +kernel
theorem dX9_beginBut_88 : decode cX9_beginBut 88 = .ok (.iconst 0, 1) := by decide +kernel
theorem dX9_beginBut_89 : decode cX9_beginBut 89 = .ok (.istore_n 3, 1) := by decide +kernel
theorem dX9_beginBut_90 : decode cX9_beginBut 90 = .ok (.iload_n 3, 1) := by decide +kernel
theorem dX9_beginBut_91 : decode cX9_beginBut 91 = .ok (.aload_n 0, 1) := by decide +kernel
theorem dX9_beginBut_92 : decode cX9_beginBut 92 = .ok (.getfield 67, 3) := by decide +kernel
theorem dX9_beginBut_95 : decode cX9_beginBut 95 = .ok (.iconst 0, 1) := by decide +kernel
theorem dX9_beginBut_96 : decode cX9_beginBut 96 = .ok (.iaload, 1) := by decide +kernel
theorem dX9_beginBut_97 : decode cX9_beginBut 97 = .ok (.if_icmp .ge 29, 3) := by decide +kernel
theorem dX9_beginBut_100 : decode cX9_beginBut 100 = .ok (.iload_n 3, 1) := by decide +kernel
theorem dX9_beginBut_101 : decode cX9_beginBut 101 = .ok (.iload_n 2, 1) := by decide +kernel
theorem dX9_beginBut_102 : decode cX9_beginBut 102 = .ok (.if_icmp .eq 18, 3) := by decide +kernel
theorem dX9_beginBut_105 : decode cX9_beginBut 105 = .ok (.aload_n 0, 1) := by decide +kernel
theorem dX9_beginBut_106 : decode cX9_beginBut 106 = .ok (.iload_n 1, 1) := by decide +kernel
theorem dX9_beginBut_107 : decode cX9_beginBut 107 = .ok (.iload_n 3, 1) := by decide +kernel
theorem dX9_beginBut_108 : decode cX9_beginBut 108 = .ok (.invokevirtual 227, 3) := by decide +kernel
theorem dX9_beginBut_111 : decode cX9_beginBut 111 = .ok (.ifCond .eq 9, 3) := by decide +kernel
theorem dX9_beginBut_114 : decode cX9_beginBut 114 = .ok (.aload_n 0, 1) := by decide +kernel
theorem dX9_beginBut_115 : decode cX9_beginBut 115 = .ok (.iload_n 1, 1) := by decide +kernel
theorem dX9_beginBut_116 : decode cX9_beginBut 116 = .ok (.iload_n 3, 1) := by decide +kernel
theorem dX9_beginBut_117 : decode cX9_beginBut 117 = .ok (.invokevirtual 231, 3) := by decide +kernel
theorem dX9_beginBut_120 : decode cX9_beginBut 120 = .ok (.iinc 3 1, 3) := by decide +kernel
theorem dX9_beginBut_123 : decode cX9_beginBut 123 = .ok (.goto (-33), 3) := by decide +kernel
theorem dX9_beginBut_126 : decode cX9_beginBut 126 = .ok (.return_, 1) := by decide +kernel
theorem dX9_begin_0 : decode cX9_begin 0 = .ok (.aload_n 0, 1) := by decide +kernel
theorem dX9_begin_1 : decode cX9_begin 1 = .ok (.iconst 0, 1) := by decide +kernel
theorem dX9_begin_2 : decode cX9_begin 2 = .ok (.bipush (-4), 2) := by decide +kernel
theorem dX9_begin_4 : decode cX9_begin 4 = .ok (.invokevirtual 234, 3) := by decide +kernel
theorem dX9_begin_7 : decode cX9_begin 7 = .ok (.return_, 1) := by decide +kernel
theorem dX9_tryIt_0 : decode cX9_tryIt 0 = .ok (.iconst 0, 1) := by decide +kernel
theorem dX9_tryIt_1 : decode cX9_tryIt 1 = .ok (.istore_n 1, 1) := by decide +kernel
theorem dX9_tryIt_2 : decode cX9_tryIt 2 = .ok (.iload_n 1, 1) := by decide +kernel
theorem dX9_tryIt_3 : decode cX9_tryIt 3 = .ok (.bipush 8, 2) := by decide +kernel
theorem dX9_tryIt_5 : decode cX9_tryIt 5 = .ok (.if_icmp .ge 54, 3) := by decide +kernel
theorem dX9_tryIt_8 : decode cX9_tryIt 8 = .ok (.aload_n 0, 1) := by decide +kernel
theorem dX9_tryIt_9 : decode cX9_tryIt 9 = .ok (.getfield 91, 3) := by decide +kernel
theorem dX9_tryIt_12 : decode cX9_tryIt 12 = .ok (.bipush 8, 2) := by decide +kernel
theorem dX9_tryIt_14 : decode cX9_tryIt 14 = .ok (.iload_n 1, 1) := by decide +kernel
theorem dX9_tryIt_15 : decode cX9_tryIt 15 = .ok (.iadd, 1) := by decide +kernel
theorem dX9_tryIt_16 : decode cX9_tryIt 16 = .ok (.aload_n 0, 1) := by decide +kernel
theorem dX9_tryIt_17 : decode cX9_tryIt 17 = .ok (.getfield 91, 3) := by decide +kernel
theorem dX9_tryIt_20 : decode cX9_tryIt 20 = .ok (.iload_n 1, 1) := by decide +kernel
theorem dX9_tryIt_21 : decode cX9_tryIt 21 = .ok (.iaload, 1) := by decide +kernel
theorem dX9_tryIt_22 : decode cX9_tryIt 22 = .ok (.iastore, 1) := by decide +kernel
theorem dX9_tryIt_23 : decode cX9_tryIt 23 = .ok (.aload_n 0, 1) := by decide +kernel
theorem dX9_tryIt_24 : decode cX9_tryIt 24 = .ok (.getfield 94, 3) := by decide +kernel
theorem dX9_tryIt_27 : decode cX9_tryIt 27 = .ok (.bipush 8, 2) := by decide +kernel
theorem dX9_tryIt_29 : decode cX9_tryIt 29 = .ok (.iload_n 1, 1) := by decide +kernel
theorem dX9_tryIt_30 : decode cX9_tryIt 30 = .ok (.iadd, 1) := by decide +kernel
theorem dX9_tryIt_31 : decode cX9_tryIt 31 = .ok (.aload_n 0, 1) := by decide +kernel
theorem dX9_tryIt_32 : decode cX9_tryIt 32 = .ok (.getfield 94, 3) := by decide +kernel
theorem dX9_tryIt_35 : decode cX9_tryIt 35 = .ok (.iload_n 1, 1) := by decide +kernel
theorem dX9_tryIt_36 : decode cX9_tryIt 36 = .ok (.iaload, 1) := by decide +kernel
theorem dX9_tryIt_37 : decode cX9_tryIt 37 = .ok (.iastore, 1) := by decide +kernel
theorem dX9_tryIt_38 : decode cX9_tryIt 38 = .ok (.aload_n 0, 1) := by decide +kernel
theorem dX9_tryIt_39 : decode cX9_tryIt 39 = .ok (.getfield 97, 3) := by decide +kernel
theorem dX9_tryIt_42 : decode cX9_tryIt 42 = .ok (.bipush 8, 2) := by decide +kernel
theorem dX9_tryIt_44 : decode cX9_tryIt 44 = .ok (.iload_n 1, 1) := by decide +kernel
theorem dX9_tryIt_45 : decode cX9_tryIt 45 = .ok (.iadd, 1) := by decide +kernel
theorem dX9_tryIt_46 : decode cX9_tryIt 46 = .ok (.aload_n 0, 1) := by decide +kernel
theorem dX9_tryIt_47 : decode cX9_tryIt 47 = .ok (.getfield 97, 3) := by decide +kernel
theorem dX9_tryIt_50 : decode cX9_tryIt 50 = .ok (.iload_n 1, 1) := by decide +kernel
theorem dX9_tryIt_51 : decode cX9_tryIt 51 = .ok (.iaload, 1) := by decide +kernel
theorem dX9_tryIt_52 : decode cX9_tryIt 52 = .ok (.iastore, 1) := by decide +kernel
theorem dX9_tryIt_53 : decode cX9_tryIt 53 = .ok (.iinc 1 1, 3) := by decide +kernel
theorem dX9_tryIt_56 : decode cX9_tryIt 56 = .ok (.goto (-54), 3) := by decide +kernel
theorem dX9_tryIt_59 : decode cX9_tryIt 59 = .ok (.aload_n 0, 1) := by decide +kernel
theorem dX9_tryIt_60 : decode cX9_tryIt 60 = .ok (.getfield 100, 3) := by decide +kernel
theorem dX9_tryIt_63 : decode cX9_tryIt 63 = .ok (.iconst 1, 1) := by decide +kernel
theorem dX9_tryIt_64 : decode cX9_tryIt 64 = .ok (.aload_n 0, 1) := by decide +kernel
theorem dX9_tryIt_65 : decode cX9_tryIt 65 = .ok (.getfield 100, 3) := by decide +kernel
theorem dX9_tryIt_68 : decode cX9_tryIt 68 = .ok (.iconst 0, 1) := by decide +kernel
theorem dX9_tryIt_69 : decode cX9_tryIt 69 = .ok (.iaload, 1) := by decide +kernel
theorem dX9_tryIt_70 : decode cX9_tryIt 70 = .ok (.iastore, 1) := by decide +kernel
theorem dX9_tryIt_71 : decode cX9_tryIt 71 = .ok (.aload_n 0, 1) := by decide +kernel
theorem dX9_tryIt_72 : decode cX9_tryIt 72 = .ok (.getfield 103, 3) := by decide +kernel
theorem dX9_tryIt_75 : decode cX9_tryIt 75 = .ok (.iconst 1, 1) := by decide +kernel
theorem dX9_tryIt_76 : decode cX9_tryIt 76 = .ok (.aload_n 0, 1) := by decide +kernel
theorem dX9_tryIt_77 : decode cX9_tryIt 77 = .ok (.getfield 103, 3) := by decide +kernel
theorem dX9_tryIt_80 : decode cX9_tryIt 80 = .ok (.iconst 0, 1) := by decide +kernel
theorem dX9_tryIt_81 : decode cX9_tryIt 81 = .ok (.iaload, 1) := by decide +kernel
theorem dX9_tryIt_82 : decode cX9_tryIt 82 = .ok (.iastore, 1) := by decide +kernel
theorem dX9_tryIt_83 : decode cX9_tryIt 83 = .ok (.aload_n 0, 1) := by decide +kernel
theorem dX9_tryIt_84 : decode cX9_tryIt 84 = .ok (.getfield 106, 3) := by decide +kernel
theorem dX9_tryIt_87 : decode cX9_tryIt 87 = .ok (.iconst 1, 1) := by decide +kernel
theorem dX9_tryIt_88 : decode cX9_tryIt 88 = .ok (.aload_n 0, 1) := by decide +kernel
theorem dX9_tryIt_89 : decode cX9_tryIt 89 = .ok (.getfield 106, 3) := by decide +kernel
theorem dX9_tryIt_92 : decode cX9_tryIt 92 = .ok (.iconst 0, 1) := by decide +kernel
theorem dX9_tryIt_93 : decode cX9_tryIt 93 = .ok (.iaload, 1) := by decide +kernel
theorem dX9_tryIt_94 : decode cX9_tryIt 94 = .ok (.iastore, 1) := by decide +kernel
theorem dX9_tryIt_95 : decode cX9_tryIt 95 = .ok (.aload_n 0, 1) := by decide +kernel
theorem dX9_tryIt_96 : decode cX9_tryIt 96 = .ok (.getfield 109, 3) := by decide +kernel
theorem dX9_tryIt_99 : decode cX9_tryIt 99 = .ok (.iconst 1, 1) := by decide +kernel
theorem dX9_tryIt_100 : decode cX9_tryIt 100 = .ok (.aload_n 0, 1) := by decide +kernel
theorem dX9_tryIt_101 : decode cX9_tryIt 101 = .ok (.getfield 109, 3) := by decide +kernel
theorem dX9_tryIt_104 : decode cX9_tryIt 104 = .ok (.iconst 0, 1) := by decide +kernel
theorem dX9_tryIt_105 : decode cX9_tryIt 105 = .ok (.iaload, 1) := by decide +kernel
theorem dX9_tryIt_106 : decode cX9_tryIt 106 = .ok (.iastore, 1) := by decide +kernel
theorem dX9_tryIt_107 : decode cX9_tryIt 107 = .ok (.return_, 1) := by decide +kernel
theorem dX9_cell_0 : decode cX9_cell 0 = .ok (.aload_n 0, 1) := by decide +kernel
theorem dX9_cell_1 : decode cX9_cell 1 = .ok (.iload_n 1, 1) := by decide +kernel
theorem dX9_cell_2 : decode cX9_cell 2 = .ok (.invokevirtual 237, 3) := by decide +kernel
theorem dX9_cell_5 : decode cX9_cell 5 = .ok (.ifCond .eq 15, 3) := by decide +kernel
theorem dX9_cell_8 : decode cX9_cell 8 = .ok (.iload_n 2, 1) := by decide +kernel
theorem dX9_cell_9 : decode cX9_cell 9 = .ok (.i2l, 1) := by decide +kernel
theorem dX9_cell_10 : decode cX9_cell 10 = .ok (.lconst 0, 1) := by decide +kernel
theorem dX9_cell_11 : decode cX9_cell 11 = .ok (.ldc2_w 157, 3) := by decide +kernel
theorem dX9_cell_14 : decode cX9_cell 14 = .ok (.invokestatic 138, 3) := by decide +kernel
theorem dX9_cell_17 : decode cX9_cell 17 = .ok (.ifCond .ne 5, 3) := by decide +kernel
theorem dX9_cell_20 : decode cX9_cell 20 = .ok (.iconst (-1), 1) := by decide +kernel
theorem dX9_cell_21 : decode cX9_cell 21 = .ok (.ireturn, 1) := by decide +kernel
theorem dX9_cell_22 : decode cX9_cell 22 = .ok (.iload_n 2, 1) := by decide +kernel
theorem dX9_cell_23 : decode cX9_cell 23 = .ok (.ifCond .ne 12, 3) := by decide +kernel
theorem dX9_cell_26 : decode cX9_cell 26 = .ok (.aload_n 0, 1) := by decide +kernel
theorem dX9_cell_27 : decode cX9_cell 27 = .ok (.getfield 91, 3) := by decide +kernel
theorem dX9_cell_30 : decode cX9_cell 30 = .ok (.iload_n 1, 1) := by decide +kernel
theorem dX9_cell_31 : decode cX9_cell 31 = .ok (.iaload, 1) := by decide +kernel
theorem dX9_cell_32 : decode cX9_cell 32 = .ok (.goto 23, 3) := by decide +kernel
theorem dX9_cell_35 : decode cX9_cell 35 = .ok (.iload_n 2, 1) := by decide +kernel
theorem dX9_cell_36 : decode cX9_cell 36 = .ok (.iconst 1, 1) := by decide +kernel
theorem dX9_cell_37 : decode cX9_cell 37 = .ok (.if_icmp .ne 12, 3) := by decide +kernel
theorem dX9_cell_40 : decode cX9_cell 40 = .ok (.aload_n 0, 1) := by decide +kernel
theorem dX9_cell_41 : decode cX9_cell 41 = .ok (.getfield 94, 3) := by decide +kernel
theorem dX9_cell_44 : decode cX9_cell 44 = .ok (.iload_n 1, 1) := by decide +kernel
theorem dX9_cell_45 : decode cX9_cell 45 = .ok (.iaload, 1) := by decide +kernel
theorem dX9_cell_46 : decode cX9_cell 46 = .ok (.goto 9, 3) := by decide +kernel
theorem dX9_cell_49 : decode cX9_cell 49 = .ok (.aload_n 0, 1) := by decide +kernel
theorem dX9_cell_50 : decode cX9_cell 50 = .ok (.getfield 97, 3) := by decide +kernel
theorem dX9_cell_53 : decode cX9_cell 53 = .ok (.iload_n 1, 1) := by decide +kernel
theorem dX9_cell_54 : decode cX9_cell 54 = .ok (.iaload, 1) := by decide +kernel
theorem dX9_cell_55 : decode cX9_cell 55 = .ok (.ireturn, 1) := by decide +kernel
theorem dX9_lake_0 : decode cX9_lake 0 = .ok (.iload_n 1, 1) := by decide +kernel
theorem dX9_lake_1 : decode cX9_lake 1 = .ok (.tableswitch 74 0 4 #[35, 46, 53, 60, 67], 35) := by decide +kernel
theorem dX9_lake_36 : decode cX9_lake 36 = .ok (.aload_n 0, 1) := by decide +kernel
theorem dX9_lake_37 : decode cX9_lake 37 = .ok (.aload_n 0, 1) := by decide +kernel
theorem dX9_lake_38 : decode cX9_lake 38 = .ok (.getfield 100, 3) := by decide +kernel
theorem dX9_lake_41 : decode cX9_lake 41 = .ok (.iconst 0, 1) := by decide +kernel
theorem dX9_lake_42 : decode cX9_lake 42 = .ok (.iaload, 1) := by decide +kernel
theorem dX9_lake_43 : decode cX9_lake 43 = .ok (.invokevirtual 208, 3) := by decide +kernel
theorem dX9_lake_46 : decode cX9_lake 46 = .ok (.ireturn, 1) := by decide +kernel
theorem dX9_lake_47 : decode cX9_lake 47 = .ok (.aload_n 0, 1) := by decide +kernel
theorem dX9_lake_48 : decode cX9_lake 48 = .ok (.getfield 100, 3) := by decide +kernel
theorem dX9_lake_51 : decode cX9_lake 51 = .ok (.iconst 0, 1) := by decide +kernel
theorem dX9_lake_52 : decode cX9_lake 52 = .ok (.iaload, 1) := by decide +kernel
theorem dX9_lake_53 : decode cX9_lake 53 = .ok (.ireturn, 1) := by decide +kernel
theorem dX9_lake_54 : decode cX9_lake 54 = .ok (.aload_n 0, 1) := by decide +kernel
theorem dX9_lake_55 : decode cX9_lake 55 = .ok (.getfield 103, 3) := by decide +kernel
theorem dX9_lake_58 : decode cX9_lake 58 = .ok (.iconst 0, 1) := by decide +kernel
theorem dX9_lake_59 : decode cX9_lake 59 = .ok (.iaload, 1) := by decide +kernel
theorem dX9_lake_60 : decode cX9_lake 60 = .ok (.ireturn, 1) := by decide +kernel
theorem dX9_lake_61 : decode cX9_lake 61 = .ok (.aload_n 0, 1) := by decide +kernel
theorem dX9_lake_62 : decode cX9_lake 62 = .ok (.getfield 106, 3) := by decide +kernel
theorem dX9_lake_65 : decode cX9_lake 65 = .ok (.iconst 0, 1) := by decide +kernel
theorem dX9_lake_66 : decode cX9_lake 66 = .ok (.iaload, 1) := by decide +kernel
theorem dX9_lake_67 : decode cX9_lake 67 = .ok (.ireturn, 1) := by decide +kernel
theorem dX9_lake_68 : decode cX9_lake 68 = .ok (.aload_n 0, 1) := by decide +kernel
theorem dX9_lake_69 : decode cX9_lake 69 = .ok (.getfield 109, 3) := by decide +kernel
theorem dX9_lake_72 : decode cX9_lake 72 = .ok (.iconst 0, 1) := by decide +kernel
theorem dX9_lake_73 : decode cX9_lake 73 = .ok (.iaload, 1) := by decide +kernel
theorem dX9_lake_74 : decode cX9_lake 74 = .ok (.ireturn, 1) := by decide +kernel
theorem dX9_lake_75 : decode cX9_lake 75 = .ok (.iconst (-1), 1) := by decide +kernel
theorem dX9_lake_76 : decode cX9_lake 76 = .ok (.ireturn, 1) := by decide +kernel
theorem dX9_edge_0 : decode cX9_edge 0 = .ok (.iload_n 1, 1) := by decide +kernel
theorem dX9_edge_1 : decode cX9_edge 1 = .ok (.i2l, 1) := by decide +kernel
theorem dX9_edge_2 : decode cX9_edge 2 = .ok (.lconst 0, 1) := by decide +kernel
theorem dX9_edge_3 : decode cX9_edge 3 = .ok (.lconst 1, 1) := by decide +kernel
theorem dX9_edge_4 : decode cX9_edge 4 = .ok (.invokestatic 138, 3) := by decide +kernel
theorem dX9_edge_7 : decode cX9_edge 7 = .ok (.ifCond .ne 7, 3) := by decide +kernel
theorem dX9_edge_10 : decode cX9_edge 10 = .ok (.iconst (-1), 1) := by decide +kernel
theorem dX9_edge_11 : decode cX9_edge 11 = .ok (.goto 20, 3) := by decide +kernel
theorem dX9_edge_14 : decode cX9_edge 14 = .ok (.iload_n 1, 1) := by decide +kernel
theorem dX9_edge_15 : decode cX9_edge 15 = .ok (.ifCond .ne 11, 3) := by decide +kernel
theorem dX9_edge_18 : decode cX9_edge 18 = .ok (.aload_n 0, 1) := by decide +kernel
theorem dX9_edge_19 : decode cX9_edge 19 = .ok (.iconst 0, 1) := by decide +kernel
theorem dX9_edge_20 : decode cX9_edge 20 = .ok (.invokevirtual 199, 3) := by decide +kernel
theorem dX9_edge_23 : decode cX9_edge 23 = .ok (.goto 8, 3) := by decide +kernel
theorem dX9_edge_26 : decode cX9_edge 26 = .ok (.aload_n 0, 1) := by decide +kernel
theorem dX9_edge_27 : decode cX9_edge 27 = .ok (.iconst 0, 1) := by decide +kernel
theorem dX9_edge_28 : decode cX9_edge 28 = .ok (.invokevirtual 214, 3) := by decide +kernel
theorem dX9_edge_31 : decode cX9_edge 31 = .ok (.ireturn, 1) := by decide +kernel
theorem dX9_comes_0 : decode cX9_comes 0 = .ok (.iload_n 1, 1) := by decide +kernel
theorem dX9_comes_1 : decode cX9_comes 1 = .ok (.i2l, 1) := by decide +kernel
theorem dX9_comes_2 : decode cX9_comes 2 = .ok (.lconst 1, 1) := by decide +kernel
theorem dX9_comes_3 : decode cX9_comes 3 = .ok (.ldc2_w 240, 3) := by decide +kernel
theorem dX9_comes_6 : decode cX9_comes 6 = .ok (.invokestatic 138, 3) := by decide +kernel
theorem dX9_comes_9 : decode cX9_comes 9 = .ok (.ifCond .eq 11, 3) := by decide +kernel
theorem dX9_comes_12 : decode cX9_comes 12 = .ok (.aload_n 0, 1) := by decide +kernel
theorem dX9_comes_13 : decode cX9_comes 13 = .ok (.iload_n 1, 1) := by decide +kernel
theorem dX9_comes_14 : decode cX9_comes 14 = .ok (.invokevirtual 205, 3) := by decide +kernel
theorem dX9_comes_17 : decode cX9_comes 17 = .ok (.goto 4, 3) := by decide +kernel
theorem dX9_comes_20 : decode cX9_comes 20 = .ok (.iconst (-1), 1) := by decide +kernel
theorem dX9_comes_21 : decode cX9_comes 21 = .ok (.ireturn, 1) := by decide +kernel
theorem dX9_note_0 : decode cX9_note 0 = .ok (.aload_n 0, 1) := by decide +kernel
theorem dX9_note_1 : decode cX9_note 1 = .ok (.getfield 67, 3) := by decide +kernel
theorem dX9_note_4 : decode cX9_note 4 = .ok (.iconst 0, 1) := by decide +kernel
theorem dX9_note_5 : decode cX9_note 5 = .ok (.iaload, 1) := by decide +kernel
theorem dX9_note_6 : decode cX9_note 6 = .ok (.istore 5, 2) := by decide +kernel
theorem dX9_note_8 : decode cX9_note 8 = .ok (.aload_n 0, 1) := by decide +kernel
theorem dX9_note_9 : decode cX9_note 9 = .ok (.getfield 70, 3) := by decide +kernel
theorem dX9_note_12 : decode cX9_note 12 = .ok (.iload 5, 2) := by decide +kernel
theorem dX9_note_14 : decode cX9_note 14 = .ok (.iload_n 1, 1) := by decide +kernel
theorem dX9_note_15 : decode cX9_note 15 = .ok (.iastore, 1) := by decide +kernel
theorem dX9_note_16 : decode cX9_note 16 = .ok (.aload_n 0, 1) := by decide +kernel
theorem dX9_note_17 : decode cX9_note 17 = .ok (.getfield 73, 3) := by decide +kernel
theorem dX9_note_20 : decode cX9_note 20 = .ok (.iload 5, 2) := by decide +kernel
theorem dX9_note_22 : decode cX9_note 22 = .ok (.iload_n 2, 1) := by decide +kernel
theorem dX9_note_23 : decode cX9_note 23 = .ok (.iastore, 1) := by decide +kernel
theorem dX9_note_24 : decode cX9_note 24 = .ok (.aload_n 0, 1) := by decide +kernel
theorem dX9_note_25 : decode cX9_note 25 = .ok (.getfield 76, 3) := by decide +kernel
theorem dX9_note_28 : decode cX9_note 28 = .ok (.iload 5, 2) := by decide +kernel
theorem dX9_note_30 : decode cX9_note 30 = .ok (.iload_n 3, 1) := by decide +kernel
theorem dX9_note_31 : decode cX9_note 31 = .ok (.iastore, 1) := by decide +kernel
theorem dX9_note_32 : decode cX9_note 32 = .ok (.aload_n 0, 1) := by decide +kernel
theorem dX9_note_33 : decode cX9_note 33 = .ok (.getfield 79, 3) := by decide +kernel
theorem dX9_note_36 : decode cX9_note 36 = .ok (.iload 5, 2) := by decide +kernel
theorem dX9_note_38 : decode cX9_note 38 = .ok (.iload 4, 2) := by decide +kernel
theorem dX9_note_40 : decode cX9_note 40 = .ok (.iastore, 1) := by decide +kernel
theorem dX9_note_41 : decode cX9_note 41 = .ok (.aload_n 0, 1) := by decide +kernel
theorem dX9_note_42 : decode cX9_note 42 = .ok (.getfield 67, 3) := by decide +kernel
theorem dX9_note_45 : decode cX9_note 45 = .ok (.iconst 0, 1) := by decide +kernel
theorem dX9_note_46 : decode cX9_note 46 = .ok (.dup2, 1) := by decide +kernel
theorem dX9_note_47 : decode cX9_note 47 = .ok (.iaload, 1) := by decide +kernel
theorem dX9_note_48 : decode cX9_note 48 = .ok (.iconst 1, 1) := by decide +kernel
theorem dX9_note_49 : decode cX9_note 49 = .ok (.iadd, 1) := by decide +kernel
theorem dX9_note_50 : decode cX9_note 50 = .ok (.iastore, 1) := by decide +kernel
theorem dX9_note_51 : decode cX9_note 51 = .ok (.aload_n 0, 1) := by decide +kernel
theorem dX9_note_52 : decode cX9_note 52 = .ok (.iconst 0, 1) := by decide +kernel
theorem dX9_note_53 : decode cX9_note 53 = .ok (.iload 5, 2) := by decide +kernel
theorem dX9_note_55 : decode cX9_note 55 = .ok (.invokevirtual 231, 3) := by decide +kernel
theorem dX9_note_58 : decode cX9_note 58 = .ok (.return_, 1) := by decide +kernel
theorem dX9_put_0 : decode cX9_put 0 = .ok (.aload_n 0, 1) := by decide +kernel
theorem dX9_put_1 : decode cX9_put 1 = .ok (.iload_n 1, 1) := by decide +kernel
theorem dX9_put_2 : decode cX9_put 2 = .ok (.invokevirtual 237, 3) := by decide +kernel
theorem dX9_put_5 : decode cX9_put 5 = .ok (.ifCond .eq 27, 3) := by decide +kernel
theorem dX9_put_8 : decode cX9_put 8 = .ok (.iload_n 2, 1) := by decide +kernel
theorem dX9_put_9 : decode cX9_put 9 = .ok (.i2l, 1) := by decide +kernel
theorem dX9_put_10 : decode cX9_put 10 = .ok (.lconst 0, 1) := by decide +kernel
theorem dX9_put_11 : decode cX9_put 11 = .ok (.ldc2_w 242, 3) := by decide +kernel
theorem dX9_put_14 : decode cX9_put 14 = .ok (.invokestatic 138, 3) := by decide +kernel
theorem dX9_put_17 : decode cX9_put 17 = .ok (.ifCond .eq 15, 3) := by decide +kernel
theorem dX9_put_20 : decode cX9_put 20 = .ok (.iload_n 3, 1) := by decide +kernel
theorem dX9_put_21 : decode cX9_put 21 = .ok (.i2l, 1) := by decide +kernel
theorem dX9_put_22 : decode cX9_put 22 = .ok (.lconst 1, 1) := by decide +kernel
theorem dX9_put_23 : decode cX9_put 23 = .ok (.ldc2_w 244, 3) := by decide +kernel
theorem dX9_put_26 : decode cX9_put 26 = .ok (.invokestatic 138, 3) := by decide +kernel
theorem dX9_put_29 : decode cX9_put 29 = .ok (.ifCond .ne 5, 3) := by decide +kernel
theorem dX9_put_32 : decode cX9_put 32 = .ok (.iconst (-1), 1) := by decide +kernel
theorem dX9_put_33 : decode cX9_put 33 = .ok (.ireturn, 1) := by decide +kernel
theorem dX9_put_34 : decode cX9_put 34 = .ok (.aload_n 0, 1) := by decide +kernel
theorem dX9_put_35 : decode cX9_put 35 = .ok (.getfield 91, 3) := by decide +kernel
theorem dX9_put_38 : decode cX9_put 38 = .ok (.iload_n 1, 1) := by decide +kernel
theorem dX9_put_39 : decode cX9_put 39 = .ok (.iaload, 1) := by decide +kernel
theorem dX9_put_40 : decode cX9_put 40 = .ok (.iload_n 3, 1) := by decide +kernel
theorem dX9_put_41 : decode cX9_put 41 = .ok (.iadd, 1) := by decide +kernel
theorem dX9_put_42 : decode cX9_put 42 = .ok (.bipush 40, 2) := by decide +kernel
theorem dX9_put_44 : decode cX9_put 44 = .ok (.if_icmp .le 6, 3) := by decide +kernel
theorem dX9_put_47 : decode cX9_put 47 = .ok (.bipush (-2), 2) := by decide +kernel
theorem dX9_put_49 : decode cX9_put 49 = .ok (.ireturn, 1) := by decide +kernel
theorem dX9_put_50 : decode cX9_put 50 = .ok (.aload_n 0, 1) := by decide +kernel
theorem dX9_put_51 : decode cX9_put 51 = .ok (.getfield 67, 3) := by decide +kernel
theorem dX9_put_54 : decode cX9_put 54 = .ok (.iconst 0, 1) := by decide +kernel
theorem dX9_put_55 : decode cX9_put 55 = .ok (.iaload, 1) := by decide +kernel
theorem dX9_put_56 : decode cX9_put 56 = .ok (.bipush 30, 2) := by decide +kernel
theorem dX9_put_58 : decode cX9_put 58 = .ok (.if_icmp .ne 6, 3) := by decide +kernel
theorem dX9_put_61 : decode cX9_put 61 = .ok (.bipush (-3), 2) := by decide +kernel
theorem dX9_put_63 : decode cX9_put 63 = .ok (.ireturn, 1) := by decide +kernel
theorem dX9_put_64 : decode cX9_put 64 = .ok (.aload_n 0, 1) := by decide +kernel
theorem dX9_put_65 : decode cX9_put 65 = .ok (.iconst 0, 1) := by decide +kernel
theorem dX9_put_66 : decode cX9_put 66 = .ok (.iload_n 1, 1) := by decide +kernel
theorem dX9_put_67 : decode cX9_put 67 = .ok (.iload_n 2, 1) := by decide +kernel
theorem dX9_put_68 : decode cX9_put 68 = .ok (.iload_n 3, 1) := by decide +kernel
theorem dX9_put_69 : decode cX9_put 69 = .ok (.invokevirtual 246, 3) := by decide +kernel
theorem dX9_put_72 : decode cX9_put 72 = .ok (.aload_n 0, 1) := by decide +kernel
theorem dX9_put_73 : decode cX9_put 73 = .ok (.getfield 91, 3) := by decide +kernel
theorem dX9_put_76 : decode cX9_put 76 = .ok (.iload_n 1, 1) := by decide +kernel
theorem dX9_put_77 : decode cX9_put 77 = .ok (.iaload, 1) := by decide +kernel
theorem dX9_put_78 : decode cX9_put 78 = .ok (.ireturn, 1) := by decide +kernel
theorem dX9_dig_0 : decode cX9_dig 0 = .ok (.aload_n 0, 1) := by decide +kernel
theorem dX9_dig_1 : decode cX9_dig 1 = .ok (.iload_n 1, 1) := by decide +kernel
theorem dX9_dig_2 : decode cX9_dig 2 = .ok (.invokevirtual 237, 3) := by decide +kernel
theorem dX9_dig_5 : decode cX9_dig 5 = .ok (.ifCond .eq 15, 3) := by decide +kernel
theorem dX9_dig_8 : decode cX9_dig 8 = .ok (.iload_n 2, 1) := by decide +kernel
theorem dX9_dig_9 : decode cX9_dig 9 = .ok (.i2l, 1) := by decide +kernel
theorem dX9_dig_10 : decode cX9_dig 10 = .ok (.lconst 1, 1) := by decide +kernel
theorem dX9_dig_11 : decode cX9_dig 11 = .ok (.ldc2_w 244, 3) := by decide +kernel
theorem dX9_dig_14 : decode cX9_dig 14 = .ok (.invokestatic 138, 3) := by decide +kernel
theorem dX9_dig_17 : decode cX9_dig 17 = .ok (.ifCond .ne 5, 3) := by decide +kernel
theorem dX9_dig_20 : decode cX9_dig 20 = .ok (.iconst (-1), 1) := by decide +kernel
theorem dX9_dig_21 : decode cX9_dig 21 = .ok (.ireturn, 1) := by decide +kernel
theorem dX9_dig_22 : decode cX9_dig 22 = .ok (.aload_n 0, 1) := by decide +kernel
theorem dX9_dig_23 : decode cX9_dig 23 = .ok (.getfield 91, 3) := by decide +kernel
theorem dX9_dig_26 : decode cX9_dig 26 = .ok (.iload_n 1, 1) := by decide +kernel
theorem dX9_dig_27 : decode cX9_dig 27 = .ok (.iaload, 1) := by decide +kernel
theorem dX9_dig_28 : decode cX9_dig 28 = .ok (.iload_n 2, 1) := by decide +kernel
theorem dX9_dig_29 : decode cX9_dig 29 = .ok (.if_icmp .ge 6, 3) := by decide +kernel
theorem dX9_dig_32 : decode cX9_dig 32 = .ok (.bipush (-2), 2) := by decide +kernel
theorem dX9_dig_34 : decode cX9_dig 34 = .ok (.ireturn, 1) := by decide +kernel
theorem dX9_dig_35 : decode cX9_dig 35 = .ok (.aload_n 0, 1) := by decide +kernel
theorem dX9_dig_36 : decode cX9_dig 36 = .ok (.getfield 67, 3) := by decide +kernel
theorem dX9_dig_39 : decode cX9_dig 39 = .ok (.iconst 0, 1) := by decide +kernel
theorem dX9_dig_40 : decode cX9_dig 40 = .ok (.iaload, 1) := by decide +kernel
theorem dX9_dig_41 : decode cX9_dig 41 = .ok (.bipush 30, 2) := by decide +kernel
theorem dX9_dig_43 : decode cX9_dig 43 = .ok (.if_icmp .ne 6, 3) := by decide +kernel
theorem dX9_dig_46 : decode cX9_dig 46 = .ok (.bipush (-3), 2) := by decide +kernel
theorem dX9_dig_48 : decode cX9_dig 48 = .ok (.ireturn, 1) := by decide +kernel
theorem dX9_dig_49 : decode cX9_dig 49 = .ok (.aload_n 0, 1) := by decide +kernel
theorem dX9_dig_50 : decode cX9_dig 50 = .ok (.iconst 1, 1) := by decide +kernel
theorem dX9_dig_51 : decode cX9_dig 51 = .ok (.iload_n 1, 1) := by decide +kernel
theorem dX9_dig_52 : decode cX9_dig 52 = .ok (.iconst 0, 1) := by decide +kernel
theorem dX9_dig_53 : decode cX9_dig 53 = .ok (.iload_n 2, 1) := by decide +kernel
theorem dX9_dig_54 : decode cX9_dig 54 = .ok (.invokevirtual 246, 3) := by decide +kernel
theorem dX9_dig_57 : decode cX9_dig 57 = .ok (.aload_n 0, 1) := by decide +kernel
theorem dX9_dig_58 : decode cX9_dig 58 = .ok (.getfield 91, 3) := by decide +kernel
theorem dX9_dig_61 : decode cX9_dig 61 = .ok (.iload_n 1, 1) := by decide +kernel
theorem dX9_dig_62 : decode cX9_dig 62 = .ok (.iaload, 1) := by decide +kernel
theorem dX9_dig_63 : decode cX9_dig 63 = .ok (.ireturn, 1) := by decide +kernel
theorem dX9_pass_0 : decode cX9_pass 0 = .ok (.iload_n 1, 1) := by decide +kernel
theorem dX9_pass_1 : decode cX9_pass 1 = .ok (.i2l, 1) := by decide +kernel
theorem dX9_pass_2 : decode cX9_pass 2 = .ok (.lconst 1, 1) := by decide +kernel
theorem dX9_pass_3 : decode cX9_pass 3 = .ok (.ldc2_w 250, 3) := by decide +kernel
theorem dX9_pass_6 : decode cX9_pass 6 = .ok (.invokestatic 138, 3) := by decide +kernel
theorem dX9_pass_9 : decode cX9_pass 9 = .ok (.ifCond .ne 5, 3) := by decide +kernel
theorem dX9_pass_12 : decode cX9_pass 12 = .ok (.iconst (-1), 1) := by decide +kernel
theorem dX9_pass_13 : decode cX9_pass 13 = .ok (.ireturn, 1) := by decide +kernel
theorem dX9_pass_14 : decode cX9_pass 14 = .ok (.aload_n 0, 1) := by decide +kernel
theorem dX9_pass_15 : decode cX9_pass 15 = .ok (.getfield 103, 3) := by decide +kernel
theorem dX9_pass_18 : decode cX9_pass 18 = .ok (.iconst 0, 1) := by decide +kernel
theorem dX9_pass_19 : decode cX9_pass 19 = .ok (.iaload, 1) := by decide +kernel
theorem dX9_pass_20 : decode cX9_pass 20 = .ok (.iload_n 1, 1) := by decide +kernel
theorem dX9_pass_21 : decode cX9_pass 21 = .ok (.iadd, 1) := by decide +kernel
theorem dX9_pass_22 : decode cX9_pass 22 = .ok (.sipush 999, 3) := by decide +kernel
theorem dX9_pass_25 : decode cX9_pass 25 = .ok (.if_icmp .le 6, 3) := by decide +kernel
theorem dX9_pass_28 : decode cX9_pass 28 = .ok (.bipush (-2), 2) := by decide +kernel
theorem dX9_pass_30 : decode cX9_pass 30 = .ok (.ireturn, 1) := by decide +kernel
theorem dX9_pass_31 : decode cX9_pass 31 = .ok (.aload_n 0, 1) := by decide +kernel
theorem dX9_pass_32 : decode cX9_pass 32 = .ok (.getfield 67, 3) := by decide +kernel
theorem dX9_pass_35 : decode cX9_pass 35 = .ok (.iconst 0, 1) := by decide +kernel
theorem dX9_pass_36 : decode cX9_pass 36 = .ok (.iaload, 1) := by decide +kernel
theorem dX9_pass_37 : decode cX9_pass 37 = .ok (.bipush 30, 2) := by decide +kernel
theorem dX9_pass_39 : decode cX9_pass 39 = .ok (.if_icmp .ne 6, 3) := by decide +kernel
theorem dX9_pass_42 : decode cX9_pass 42 = .ok (.bipush (-3), 2) := by decide +kernel
theorem dX9_pass_44 : decode cX9_pass 44 = .ok (.ireturn, 1) := by decide +kernel
theorem dX9_pass_45 : decode cX9_pass 45 = .ok (.aload_n 0, 1) := by decide +kernel
theorem dX9_pass_46 : decode cX9_pass 46 = .ok (.iconst 2, 1) := by decide +kernel
theorem dX9_pass_47 : decode cX9_pass 47 = .ok (.iconst 0, 1) := by decide +kernel
theorem dX9_pass_48 : decode cX9_pass 48 = .ok (.iconst 0, 1) := by decide +kernel
theorem dX9_pass_49 : decode cX9_pass 49 = .ok (.iload_n 1, 1) := by decide +kernel
theorem dX9_pass_50 : decode cX9_pass 50 = .ok (.invokevirtual 246, 3) := by decide +kernel
theorem dX9_pass_53 : decode cX9_pass 53 = .ok (.aload_n 0, 1) := by decide +kernel
theorem dX9_pass_54 : decode cX9_pass 54 = .ok (.aload_n 0, 1) := by decide +kernel
theorem dX9_pass_55 : decode cX9_pass 55 = .ok (.getfield 100, 3) := by decide +kernel
theorem dX9_pass_58 : decode cX9_pass 58 = .ok (.iconst 0, 1) := by decide +kernel
theorem dX9_pass_59 : decode cX9_pass 59 = .ok (.iaload, 1) := by decide +kernel
theorem dX9_pass_60 : decode cX9_pass 60 = .ok (.invokevirtual 208, 3) := by decide +kernel
theorem dX9_pass_63 : decode cX9_pass 63 = .ok (.ireturn, 1) := by decide +kernel
theorem dX9_undo_0 : decode cX9_undo 0 = .ok (.aload_n 0, 1) := by decide +kernel
theorem dX9_undo_1 : decode cX9_undo 1 = .ok (.getfield 67, 3) := by decide +kernel
theorem dX9_undo_4 : decode cX9_undo 4 = .ok (.iconst 0, 1) := by decide +kernel
theorem dX9_undo_5 : decode cX9_undo 5 = .ok (.iaload, 1) := by decide +kernel
theorem dX9_undo_6 : decode cX9_undo 6 = .ok (.ifCond .ne 6, 3) := by decide +kernel
theorem dX9_undo_9 : decode cX9_undo 9 = .ok (.bipush (-2), 2) := by decide +kernel
theorem dX9_undo_11 : decode cX9_undo 11 = .ok (.ireturn, 1) := by decide +kernel
theorem dX9_undo_12 : decode cX9_undo 12 = .ok (.aload_n 0, 1) := by decide +kernel
theorem dX9_undo_13 : decode cX9_undo 13 = .ok (.getfield 67, 3) := by decide +kernel
theorem dX9_undo_16 : decode cX9_undo 16 = .ok (.iconst 0, 1) := by decide +kernel
theorem dX9_undo_17 : decode cX9_undo 17 = .ok (.dup2, 1) := by decide +kernel
theorem dX9_undo_18 : decode cX9_undo 18 = .ok (.iaload, 1) := by decide +kernel
theorem dX9_undo_19 : decode cX9_undo 19 = .ok (.iconst 1, 1) := by decide +kernel
theorem dX9_undo_20 : decode cX9_undo 20 = .ok (.isub, 1) := by decide +kernel
theorem dX9_undo_21 : decode cX9_undo 21 = .ok (.iastore, 1) := by decide +kernel
theorem dX9_undo_22 : decode cX9_undo 22 = .ok (.aload_n 0, 1) := by decide +kernel
theorem dX9_undo_23 : decode cX9_undo 23 = .ok (.invokevirtual 131, 3) := by decide +kernel
theorem dX9_undo_26 : decode cX9_undo 26 = .ok (.aload_n 0, 1) := by decide +kernel
theorem dX9_undo_27 : decode cX9_undo 27 = .ok (.getfield 67, 3) := by decide +kernel
theorem dX9_undo_30 : decode cX9_undo 30 = .ok (.iconst 0, 1) := by decide +kernel
theorem dX9_undo_31 : decode cX9_undo 31 = .ok (.iaload, 1) := by decide +kernel
theorem dX9_undo_32 : decode cX9_undo 32 = .ok (.ireturn, 1) := by decide +kernel
theorem dX9_areMinutes_0 : decode cX9_areMinutes 0 = .ok (.iload_n 0, 1) := by decide +kernel
theorem dX9_areMinutes_1 : decode cX9_areMinutes 1 = .ok (.i2l, 1) := by decide +kernel
theorem dX9_areMinutes_2 : decode cX9_areMinutes 2 = .ok (.lconst 0, 1) := by decide +kernel
theorem dX9_areMinutes_3 : decode cX9_areMinutes 3 = .ok (.ldc2_w 252, 3) := by decide +kernel
theorem dX9_areMinutes_6 : decode cX9_areMinutes 6 = .ok (.invokestatic 138, 3) := by decide +kernel
theorem dX9_areMinutes_9 : decode cX9_areMinutes 9 = .ok (.ireturn, 1) := by decide +kernel
theorem dX9_goOn_0 : decode cX9_goOn 0 = .ok (.aload_n 0, 1) := by decide +kernel
theorem dX9_goOn_1 : decode cX9_goOn 1 = .ok (.invokevirtual 254, 3) := by decide +kernel
theorem dX9_goOn_4 : decode cX9_goOn 4 = .ok (.iconst 0, 1) := by decide +kernel
theorem dX9_goOn_5 : decode cX9_goOn 5 = .ok (.istore_n 2, 1) := by decide +kernel
theorem dX9_goOn_6 : decode cX9_goOn 6 = .ok (.iload_n 2, 1) := by decide +kernel
theorem dX9_goOn_7 : decode cX9_goOn 7 = .ok (.iload_n 1, 1) := by decide +kernel
theorem dX9_goOn_8 : decode cX9_goOn 8 = .ok (.if_icmp .ge 15, 3) := by decide +kernel
theorem dX9_goOn_11 : decode cX9_goOn 11 = .ok (.aload_n 0, 1) := by decide +kernel
theorem dX9_goOn_12 : decode cX9_goOn 12 = .ok (.iconst 1, 1) := by decide +kernel
theorem dX9_goOn_13 : decode cX9_goOn 13 = .ok (.iconst 0, 1) := by decide +kernel
theorem dX9_goOn_14 : decode cX9_goOn 14 = .ok (.invokevirtual 224, 3) := by decide +kernel
theorem dX9_goOn_17 : decode cX9_goOn 17 = .ok (.iinc 2 1, 3) := by decide +kernel
theorem dX9_goOn_20 : decode cX9_goOn 20 = .ok (.goto (-14), 3) := by decide +kernel
theorem dX9_goOn_23 : decode cX9_goOn 23 = .ok (.return_, 1) := by decide +kernel
theorem dX9_behind_0 : decode cX9_behind 0 = .ok (.iload_n 1, 1) := by decide +kernel
theorem dX9_behind_1 : decode cX9_behind 1 = .ok (.invokestatic 257, 3) := by decide +kernel
theorem dX9_behind_4 : decode cX9_behind 4 = .ok (.ifCond .eq 15, 3) := by decide +kernel
theorem dX9_behind_7 : decode cX9_behind 7 = .ok (.iload_n 2, 1) := by decide +kernel
theorem dX9_behind_8 : decode cX9_behind 8 = .ok (.i2l, 1) := by decide +kernel
theorem dX9_behind_9 : decode cX9_behind 9 = .ok (.lconst 0, 1) := by decide +kernel
theorem dX9_behind_10 : decode cX9_behind 10 = .ok (.ldc2_w 157, 3) := by decide +kernel
theorem dX9_behind_13 : decode cX9_behind 13 = .ok (.invokestatic 138, 3) := by decide +kernel
theorem dX9_behind_16 : decode cX9_behind 16 = .ok (.ifCond .ne 5, 3) := by decide +kernel
theorem dX9_behind_19 : decode cX9_behind 19 = .ok (.iconst (-1), 1) := by decide +kernel
theorem dX9_behind_20 : decode cX9_behind 20 = .ok (.ireturn, 1) := by decide +kernel
theorem dX9_behind_21 : decode cX9_behind 21 = .ok (.aload_n 0, 1) := by decide +kernel
theorem dX9_behind_22 : decode cX9_behind 22 = .ok (.iload_n 1, 1) := by decide +kernel
theorem dX9_behind_23 : decode cX9_behind 23 = .ok (.invokevirtual 260, 3) := by decide +kernel
theorem dX9_behind_26 : decode cX9_behind 26 = .ok (.iload_n 2, 1) := by decide +kernel
theorem dX9_behind_27 : decode cX9_behind 27 = .ok (.ifCond .ne 16, 3) := by decide +kernel
theorem dX9_behind_30 : decode cX9_behind 30 = .ok (.aload_n 0, 1) := by decide +kernel
theorem dX9_behind_31 : decode cX9_behind 31 = .ok (.aload_n 0, 1) := by decide +kernel
theorem dX9_behind_32 : decode cX9_behind 32 = .ok (.getfield 100, 3) := by decide +kernel
theorem dX9_behind_35 : decode cX9_behind 35 = .ok (.iconst 1, 1) := by decide +kernel
theorem dX9_behind_36 : decode cX9_behind 36 = .ok (.iaload, 1) := by decide +kernel
theorem dX9_behind_37 : decode cX9_behind 37 = .ok (.invokevirtual 208, 3) := by decide +kernel
theorem dX9_behind_40 : decode cX9_behind 40 = .ok (.goto 30, 3) := by decide +kernel
theorem dX9_behind_43 : decode cX9_behind 43 = .ok (.iload_n 2, 1) := by decide +kernel
theorem dX9_behind_44 : decode cX9_behind 44 = .ok (.iconst 1, 1) := by decide +kernel
theorem dX9_behind_45 : decode cX9_behind 45 = .ok (.if_icmp .ne 12, 3) := by decide +kernel
theorem dX9_behind_48 : decode cX9_behind 48 = .ok (.aload_n 0, 1) := by decide +kernel
theorem dX9_behind_49 : decode cX9_behind 49 = .ok (.getfield 100, 3) := by decide +kernel
theorem dX9_behind_52 : decode cX9_behind 52 = .ok (.iconst 1, 1) := by decide +kernel
theorem dX9_behind_53 : decode cX9_behind 53 = .ok (.iaload, 1) := by decide +kernel
theorem dX9_behind_54 : decode cX9_behind 54 = .ok (.goto 16, 3) := by decide +kernel
theorem dX9_behind_57 : decode cX9_behind 57 = .ok (.aload_n 0, 1) := by decide +kernel
theorem dX9_behind_58 : decode cX9_behind 58 = .ok (.getfield 106, 3) := by decide +kernel
theorem dX9_behind_61 : decode cX9_behind 61 = .ok (.iconst 1, 1) := by decide +kernel
theorem dX9_behind_62 : decode cX9_behind 62 = .ok (.iaload, 1) := by decide +kernel
theorem dX9_behind_63 : decode cX9_behind 63 = .ok (.aload_n 0, 1) := by decide +kernel
theorem dX9_behind_64 : decode cX9_behind 64 = .ok (.getfield 106, 3) := by decide +kernel
theorem dX9_behind_67 : decode cX9_behind 67 = .ok (.iconst 0, 1) := by decide +kernel
theorem dX9_behind_68 : decode cX9_behind 68 = .ok (.iaload, 1) := by decide +kernel
theorem dX9_behind_69 : decode cX9_behind 69 = .ok (.isub, 1) := by decide +kernel
theorem dX9_behind_70 : decode cX9_behind 70 = .ok (.ireturn, 1) := by decide +kernel
theorem dX9_worn_0 : decode cX9_worn 0 = .ok (.aload_n 0, 1) := by decide +kernel
theorem dX9_worn_1 : decode cX9_worn 1 = .ok (.iload_n 1, 1) := by decide +kernel
theorem dX9_worn_2 : decode cX9_worn 2 = .ok (.invokevirtual 237, 3) := by decide +kernel
theorem dX9_worn_5 : decode cX9_worn 5 = .ok (.ifCond .eq 10, 3) := by decide +kernel
theorem dX9_worn_8 : decode cX9_worn 8 = .ok (.iload_n 2, 1) := by decide +kernel
theorem dX9_worn_9 : decode cX9_worn 9 = .ok (.invokestatic 257, 3) := by decide +kernel
theorem dX9_worn_12 : decode cX9_worn 12 = .ok (.ifCond .ne 5, 3) := by decide +kernel
theorem dX9_worn_15 : decode cX9_worn 15 = .ok (.iconst (-1), 1) := by decide +kernel
theorem dX9_worn_16 : decode cX9_worn 16 = .ok (.ireturn, 1) := by decide +kernel
theorem dX9_worn_17 : decode cX9_worn 17 = .ok (.aload_n 0, 1) := by decide +kernel
theorem dX9_worn_18 : decode cX9_worn 18 = .ok (.iload_n 2, 1) := by decide +kernel
theorem dX9_worn_19 : decode cX9_worn 19 = .ok (.invokevirtual 260, 3) := by decide +kernel
theorem dX9_worn_22 : decode cX9_worn 22 = .ok (.aload_n 0, 1) := by decide +kernel
theorem dX9_worn_23 : decode cX9_worn 23 = .ok (.getfield 91, 3) := by decide +kernel
theorem dX9_worn_26 : decode cX9_worn 26 = .ok (.bipush 8, 2) := by decide +kernel
theorem dX9_worn_28 : decode cX9_worn 28 = .ok (.iload_n 1, 1) := by decide +kernel
theorem dX9_worn_29 : decode cX9_worn 29 = .ok (.iadd, 1) := by decide +kernel
theorem dX9_worn_30 : decode cX9_worn 30 = .ok (.iaload, 1) := by decide +kernel
theorem dX9_worn_31 : decode cX9_worn 31 = .ok (.ireturn, 1) := by decide +kernel
theorem dX9_over_0 : decode cX9_over 0 = .ok (.iload_n 1, 1) := by decide +kernel
theorem dX9_over_1 : decode cX9_over 1 = .ok (.i2l, 1) := by decide +kernel
theorem dX9_over_2 : decode cX9_over 2 = .ok (.lconst 0, 1) := by decide +kernel
theorem dX9_over_3 : decode cX9_over 3 = .ok (.lconst 1, 1) := by decide +kernel
theorem dX9_over_4 : decode cX9_over 4 = .ok (.invokestatic 138, 3) := by decide +kernel
theorem dX9_over_7 : decode cX9_over 7 = .ok (.ifCond .ne 5, 3) := by decide +kernel
theorem dX9_over_10 : decode cX9_over 10 = .ok (.iconst (-1), 1) := by decide +kernel
theorem dX9_over_11 : decode cX9_over 11 = .ok (.ireturn, 1) := by decide +kernel
theorem dX9_over_12 : decode cX9_over 12 = .ok (.aload_n 0, 1) := by decide +kernel
theorem dX9_over_13 : decode cX9_over 13 = .ok (.invokevirtual 254, 3) := by decide +kernel
theorem dX9_over_16 : decode cX9_over 16 = .ok (.iconst 1, 1) := by decide +kernel
theorem dX9_over_17 : decode cX9_over 17 = .ok (.istore_n 2, 1) := by decide +kernel
theorem dX9_over_18 : decode cX9_over 18 = .ok (.iload_n 2, 1) := by decide +kernel
theorem dX9_over_19 : decode cX9_over 19 = .ok (.sipush 200, 3) := by decide +kernel
theorem dX9_over_22 : decode cX9_over 22 = .ok (.if_icmp .gt 35, 3) := by decide +kernel
theorem dX9_over_25 : decode cX9_over 25 = .ok (.aload_n 0, 1) := by decide +kernel
theorem dX9_over_26 : decode cX9_over 26 = .ok (.iconst 1, 1) := by decide +kernel
theorem dX9_over_27 : decode cX9_over 27 = .ok (.iconst 0, 1) := by decide +kernel
theorem dX9_over_28 : decode cX9_over 28 = .ok (.invokevirtual 224, 3) := by decide +kernel
theorem dX9_over_31 : decode cX9_over 31 = .ok (.aload_n 0, 1) := by decide +kernel
theorem dX9_over_32 : decode cX9_over 32 = .ok (.getfield 211, 3) := by decide +kernel
theorem dX9_over_35 : decode cX9_over 35 = .ok (.ifCond .le 16, 3) := by decide +kernel
theorem dX9_over_38 : decode cX9_over 38 = .ok (.iload_n 1, 1) := by decide +kernel
theorem dX9_over_39 : decode cX9_over 39 = .ok (.ifCond .ne 7, 3) := by decide +kernel
theorem dX9_over_42 : decode cX9_over 42 = .ok (.iload_n 2, 1) := by decide +kernel
theorem dX9_over_43 : decode cX9_over 43 = .ok (.goto 7, 3) := by decide +kernel
theorem dX9_over_46 : decode cX9_over 46 = .ok (.aload_n 0, 1) := by decide +kernel
theorem dX9_over_47 : decode cX9_over 47 = .ok (.getfield 217, 3) := by decide +kernel
theorem dX9_over_50 : decode cX9_over 50 = .ok (.ireturn, 1) := by decide +kernel
theorem dX9_over_51 : decode cX9_over 51 = .ok (.iinc 2 1, 3) := by decide +kernel
theorem dX9_over_54 : decode cX9_over 54 = .ok (.goto (-36), 3) := by decide +kernel
theorem dX9_over_57 : decode cX9_over 57 = .ok (.bipush (-4), 2) := by decide +kernel
theorem dX9_over_59 : decode cX9_over 59 = .ok (.ireturn, 1) := by decide +kernel
theorem dX9_goneFrom_0 : decode cX9_goneFrom 0 = .ok (.iconst 1, 1) := by decide +kernel
theorem dX9_goneFrom_1 : decode cX9_goneFrom 1 = .ok (.istore_n 1, 1) := by decide +kernel
theorem dX9_goneFrom_2 : decode cX9_goneFrom 2 = .ok (.iload_n 1, 1) := by decide +kernel
theorem dX9_goneFrom_3 : decode cX9_goneFrom 3 = .ok (.sipush 200, 3) := by decide +kernel
theorem dX9_goneFrom_6 : decode cX9_goneFrom 6 = .ok (.if_icmp .gt 32, 3) := by decide +kernel
theorem dX9_goneFrom_9 : decode cX9_goneFrom 9 = .ok (.aload_n 0, 1) := by decide +kernel
theorem dX9_goneFrom_10 : decode cX9_goneFrom 10 = .ok (.iconst 1, 1) := by decide +kernel
theorem dX9_goneFrom_11 : decode cX9_goneFrom 11 = .ok (.iconst 0, 1) := by decide +kernel
theorem dX9_goneFrom_12 : decode cX9_goneFrom 12 = .ok (.invokevirtual 224, 3) := by decide +kernel
theorem dX9_goneFrom_15 : decode cX9_goneFrom 15 = .ok (.aload_n 0, 1) := by decide +kernel
theorem dX9_goneFrom_16 : decode cX9_goneFrom 16 = .ok (.getfield 202, 3) := by decide +kernel
theorem dX9_goneFrom_19 : decode cX9_goneFrom 19 = .ok (.ifCond .lt 13, 3) := by decide +kernel
theorem dX9_goneFrom_22 : decode cX9_goneFrom 22 = .ok (.aload_n 0, 1) := by decide +kernel
theorem dX9_goneFrom_23 : decode cX9_goneFrom 23 = .ok (.aload_n 0, 1) := by decide +kernel
theorem dX9_goneFrom_24 : decode cX9_goneFrom 24 = .ok (.getfield 202, 3) := by decide +kernel
theorem dX9_goneFrom_27 : decode cX9_goneFrom 27 = .ok (.putfield 263, 3) := by decide +kernel
theorem dX9_goneFrom_30 : decode cX9_goneFrom 30 = .ok (.iload_n 1, 1) := by decide +kernel
theorem dX9_goneFrom_31 : decode cX9_goneFrom 31 = .ok (.ireturn, 1) := by decide +kernel
theorem dX9_goneFrom_32 : decode cX9_goneFrom 32 = .ok (.iinc 1 1, 3) := by decide +kernel
theorem dX9_goneFrom_35 : decode cX9_goneFrom 35 = .ok (.goto (-33), 3) := by decide +kernel
theorem dX9_goneFrom_38 : decode cX9_goneFrom 38 = .ok (.bipush (-4), 2) := by decide +kernel
theorem dX9_goneFrom_40 : decode cX9_goneFrom 40 = .ok (.ireturn, 1) := by decide +kernel
theorem dX9_gone_0 : decode cX9_gone 0 = .ok (.iload_n 1, 1) := by decide +kernel
theorem dX9_gone_1 : decode cX9_gone 1 = .ok (.i2l, 1) := by decide +kernel
theorem dX9_gone_2 : decode cX9_gone 2 = .ok (.lconst 0, 1) := by decide +kernel
theorem dX9_gone_3 : decode cX9_gone 3 = .ok (.lconst 1, 1) := by decide +kernel
theorem dX9_gone_4 : decode cX9_gone 4 = .ok (.invokestatic 138, 3) := by decide +kernel
theorem dX9_gone_7 : decode cX9_gone 7 = .ok (.ifCond .ne 5, 3) := by decide +kernel
theorem dX9_gone_10 : decode cX9_gone 10 = .ok (.iconst (-1), 1) := by decide +kernel
theorem dX9_gone_11 : decode cX9_gone 11 = .ok (.ireturn, 1) := by decide +kernel
theorem dX9_gone_12 : decode cX9_gone 12 = .ok (.aload_n 0, 1) := by decide +kernel
theorem dX9_gone_13 : decode cX9_gone 13 = .ok (.invokevirtual 254, 3) := by decide +kernel
theorem dX9_gone_16 : decode cX9_gone 16 = .ok (.aload_n 0, 1) := by decide +kernel
theorem dX9_gone_17 : decode cX9_gone 17 = .ok (.invokevirtual 266, 3) := by decide +kernel
theorem dX9_gone_20 : decode cX9_gone 20 = .ok (.istore_n 2, 1) := by decide +kernel
theorem dX9_gone_21 : decode cX9_gone 21 = .ok (.iload_n 2, 1) := by decide +kernel
theorem dX9_gone_22 : decode cX9_gone 22 = .ok (.ifCond .lt 7, 3) := by decide +kernel
theorem dX9_gone_25 : decode cX9_gone 25 = .ok (.iload_n 1, 1) := by decide +kernel
theorem dX9_gone_26 : decode cX9_gone 26 = .ok (.ifCond .ne 7, 3) := by decide +kernel
theorem dX9_gone_29 : decode cX9_gone 29 = .ok (.iload_n 2, 1) := by decide +kernel
theorem dX9_gone_30 : decode cX9_gone 30 = .ok (.goto 7, 3) := by decide +kernel
theorem dX9_gone_33 : decode cX9_gone 33 = .ok (.aload_n 0, 1) := by decide +kernel
theorem dX9_gone_34 : decode cX9_gone 34 = .ok (.getfield 263, 3) := by decide +kernel
theorem dX9_gone_37 : decode cX9_gone 37 = .ok (.ireturn, 1) := by decide +kernel
theorem dX9_nextRow_0 : decode cX9_nextRow 0 = .ok (.aload_n 0, 1) := by decide +kernel
theorem dX9_nextRow_1 : decode cX9_nextRow 1 = .ok (.getfield 13, 3) := by decide +kernel
theorem dX9_nextRow_4 : decode cX9_nextRow 4 = .ok (.iconst 0, 1) := by decide +kernel
theorem dX9_nextRow_5 : decode cX9_nextRow 5 = .ok (.iaload, 1) := by decide +kernel
theorem dX9_nextRow_6 : decode cX9_nextRow 6 = .ok (.iconst 1, 1) := by decide +kernel
theorem dX9_nextRow_7 : decode cX9_nextRow 7 = .ok (.isub, 1) := by decide +kernel
theorem dX9_nextRow_8 : decode cX9_nextRow 8 = .ok (.istore_n 1, 1) := by decide +kernel
theorem dX9_nextRow_9 : decode cX9_nextRow 9 = .ok (.iload_n 1, 1) := by decide +kernel
theorem dX9_nextRow_10 : decode cX9_nextRow 10 = .ok (.iconst 1, 1) := by decide +kernel
theorem dX9_nextRow_11 : decode cX9_nextRow 11 = .ok (.isub, 1) := by decide +kernel
theorem dX9_nextRow_12 : decode cX9_nextRow 12 = .ok (.istore_n 2, 1) := by decide +kernel
theorem dX9_nextRow_13 : decode cX9_nextRow 13 = .ok (.iload_n 2, 1) := by decide +kernel
theorem dX9_nextRow_14 : decode cX9_nextRow 14 = .ok (.ifCond .lt 18, 3) := by decide +kernel
theorem dX9_nextRow_17 : decode cX9_nextRow 17 = .ok (.aload_n 0, 1) := by decide +kernel
theorem dX9_nextRow_18 : decode cX9_nextRow 18 = .ok (.getfield 112, 3) := by decide +kernel
theorem dX9_nextRow_21 : decode cX9_nextRow 21 = .ok (.iload_n 2, 1) := by decide +kernel
theorem dX9_nextRow_22 : decode cX9_nextRow 22 = .ok (.iaload, 1) := by decide +kernel
theorem dX9_nextRow_23 : decode cX9_nextRow 23 = .ok (.ifCond .ne 9, 3) := by decide +kernel
theorem dX9_nextRow_26 : decode cX9_nextRow 26 = .ok (.iinc 2 (-1), 3) := by decide +kernel
theorem dX9_nextRow_29 : decode cX9_nextRow 29 = .ok (.goto (-16), 3) := by decide +kernel
theorem dX9_nextRow_32 : decode cX9_nextRow 32 = .ok (.iload_n 2, 1) := by decide +kernel
theorem dX9_nextRow_33 : decode cX9_nextRow 33 = .ok (.ifCond .ge 5, 3) := by decide +kernel
theorem dX9_nextRow_36 : decode cX9_nextRow 36 = .ok (.iconst 0, 1) := by decide +kernel
theorem dX9_nextRow_37 : decode cX9_nextRow 37 = .ok (.ireturn, 1) := by decide +kernel
theorem dX9_nextRow_38 : decode cX9_nextRow 38 = .ok (.aload_n 0, 1) := by decide +kernel
theorem dX9_nextRow_39 : decode cX9_nextRow 39 = .ok (.getfield 112, 3) := by decide +kernel
theorem dX9_nextRow_42 : decode cX9_nextRow 42 = .ok (.iload_n 1, 1) := by decide +kernel
theorem dX9_nextRow_43 : decode cX9_nextRow 43 = .ok (.iaload, 1) := by decide +kernel
theorem dX9_nextRow_44 : decode cX9_nextRow 44 = .ok (.iconst 1, 1) := by decide +kernel
theorem dX9_nextRow_45 : decode cX9_nextRow 45 = .ok (.iadd, 1) := by decide +kernel
theorem dX9_nextRow_46 : decode cX9_nextRow 46 = .ok (.istore_n 3, 1) := by decide +kernel
theorem dX9_nextRow_47 : decode cX9_nextRow 47 = .ok (.aload_n 0, 1) := by decide +kernel
theorem dX9_nextRow_48 : decode cX9_nextRow 48 = .ok (.getfield 112, 3) := by decide +kernel
theorem dX9_nextRow_51 : decode cX9_nextRow 51 = .ok (.iload_n 1, 1) := by decide +kernel
theorem dX9_nextRow_52 : decode cX9_nextRow 52 = .ok (.iconst 0, 1) := by decide +kernel
theorem dX9_nextRow_53 : decode cX9_nextRow 53 = .ok (.iastore, 1) := by decide +kernel
theorem dX9_nextRow_54 : decode cX9_nextRow 54 = .ok (.aload_n 0, 1) := by decide +kernel
theorem dX9_nextRow_55 : decode cX9_nextRow 55 = .ok (.getfield 112, 3) := by decide +kernel
theorem dX9_nextRow_58 : decode cX9_nextRow 58 = .ok (.iload_n 2, 1) := by decide +kernel
theorem dX9_nextRow_59 : decode cX9_nextRow 59 = .ok (.dup2, 1) := by decide +kernel
theorem dX9_nextRow_60 : decode cX9_nextRow 60 = .ok (.iaload, 1) := by decide +kernel
theorem dX9_nextRow_61 : decode cX9_nextRow 61 = .ok (.iconst 1, 1) := by decide +kernel
theorem dX9_nextRow_62 : decode cX9_nextRow 62 = .ok (.isub, 1) := by decide +kernel
theorem dX9_nextRow_63 : decode cX9_nextRow 63 = .ok (.iastore, 1) := by decide +kernel
theorem dX9_nextRow_64 : decode cX9_nextRow 64 = .ok (.aload_n 0, 1) := by decide +kernel
theorem dX9_nextRow_65 : decode cX9_nextRow 65 = .ok (.getfield 112, 3) := by decide +kernel
theorem dX9_nextRow_68 : decode cX9_nextRow 68 = .ok (.iload_n 2, 1) := by decide +kernel
theorem dX9_nextRow_69 : decode cX9_nextRow 69 = .ok (.iconst 1, 1) := by decide +kernel
theorem dX9_nextRow_70 : decode cX9_nextRow 70 = .ok (.iadd, 1) := by decide +kernel
theorem dX9_nextRow_71 : decode cX9_nextRow 71 = .ok (.iload_n 3, 1) := by decide +kernel
theorem dX9_nextRow_72 : decode cX9_nextRow 72 = .ok (.iastore, 1) := by decide +kernel
theorem dX9_nextRow_73 : decode cX9_nextRow 73 = .ok (.iconst 1, 1) := by decide +kernel
theorem dX9_nextRow_74 : decode cX9_nextRow 74 = .ok (.ireturn, 1) := by decide +kernel
theorem dX9_layRow_0 : decode cX9_layRow 0 = .ok (.aload_n 0, 1) := by decide +kernel
theorem dX9_layRow_1 : decode cX9_layRow 1 = .ok (.invokevirtual 254, 3) := by decide +kernel
theorem dX9_layRow_4 : decode cX9_layRow 4 = .ok (.iconst 1, 1) := by decide +kernel
theorem dX9_layRow_5 : decode cX9_layRow 5 = .ok (.istore_n 2, 1) := by decide +kernel
theorem dX9_layRow_6 : decode cX9_layRow 6 = .ok (.iconst 0, 1) := by decide +kernel
theorem dX9_layRow_7 : decode cX9_layRow 7 = .ok (.istore_n 3, 1) := by decide +kernel
theorem dX9_layRow_8 : decode cX9_layRow 8 = .ok (.iload_n 3, 1) := by decide +kernel
theorem dX9_layRow_9 : decode cX9_layRow 9 = .ok (.aload_n 0, 1) := by decide +kernel
theorem dX9_layRow_10 : decode cX9_layRow 10 = .ok (.getfield 13, 3) := by decide +kernel
theorem dX9_layRow_13 : decode cX9_layRow 13 = .ok (.iconst 0, 1) := by decide +kernel
theorem dX9_layRow_14 : decode cX9_layRow 14 = .ok (.iaload, 1) := by decide +kernel
theorem dX9_layRow_15 : decode cX9_layRow 15 = .ok (.if_icmp .ge 98, 3) := by decide +kernel
theorem dX9_layRow_18 : decode cX9_layRow 18 = .ok (.iload_n 2, 1) := by decide +kernel
theorem dX9_layRow_19 : decode cX9_layRow 19 = .ok (.ifCond .eq 37, 3) := by decide +kernel
theorem dX9_layRow_22 : decode cX9_layRow 22 = .ok (.aload_n 0, 1) := by decide +kernel
theorem dX9_layRow_23 : decode cX9_layRow 23 = .ok (.getfield 112, 3) := by decide +kernel
theorem dX9_layRow_26 : decode cX9_layRow 26 = .ok (.iload_n 3, 1) := by decide +kernel
theorem dX9_layRow_27 : decode cX9_layRow 27 = .ok (.iaload, 1) := by decide +kernel
theorem dX9_layRow_28 : decode cX9_layRow 28 = .ok (.ifCond .eq 24, 3) := by decide +kernel
theorem dX9_layRow_31 : decode cX9_layRow 31 = .ok (.aload_n 0, 1) := by decide +kernel
theorem dX9_layRow_32 : decode cX9_layRow 32 = .ok (.getfield 91, 3) := by decide +kernel
theorem dX9_layRow_35 : decode cX9_layRow 35 = .ok (.bipush 8, 2) := by decide +kernel
theorem dX9_layRow_37 : decode cX9_layRow 37 = .ok (.iload_n 3, 1) := by decide +kernel
theorem dX9_layRow_38 : decode cX9_layRow 38 = .ok (.iadd, 1) := by decide +kernel
theorem dX9_layRow_39 : decode cX9_layRow 39 = .ok (.iaload, 1) := by decide +kernel
theorem dX9_layRow_40 : decode cX9_layRow 40 = .ok (.aload_n 0, 1) := by decide +kernel
theorem dX9_layRow_41 : decode cX9_layRow 41 = .ok (.getfield 112, 3) := by decide +kernel
theorem dX9_layRow_44 : decode cX9_layRow 44 = .ok (.iload_n 3, 1) := by decide +kernel
theorem dX9_layRow_45 : decode cX9_layRow 45 = .ok (.iaload, 1) := by decide +kernel
theorem dX9_layRow_46 : decode cX9_layRow 46 = .ok (.iadd, 1) := by decide +kernel
theorem dX9_layRow_47 : decode cX9_layRow 47 = .ok (.bipush 40, 2) := by decide +kernel
theorem dX9_layRow_49 : decode cX9_layRow 49 = .ok (.if_icmp .gt 7, 3) := by decide +kernel
theorem dX9_layRow_52 : decode cX9_layRow 52 = .ok (.iconst 1, 1) := by decide +kernel
theorem dX9_layRow_53 : decode cX9_layRow 53 = .ok (.goto 4, 3) := by decide +kernel
theorem dX9_layRow_56 : decode cX9_layRow 56 = .ok (.iconst 0, 1) := by decide +kernel
theorem dX9_layRow_57 : decode cX9_layRow 57 = .ok (.istore_n 2, 1) := by decide +kernel
theorem dX9_layRow_58 : decode cX9_layRow 58 = .ok (.aload_n 0, 1) := by decide +kernel
theorem dX9_layRow_59 : decode cX9_layRow 59 = .ok (.getfield 91, 3) := by decide +kernel
theorem dX9_layRow_62 : decode cX9_layRow 62 = .ok (.bipush 8, 2) := by decide +kernel
theorem dX9_layRow_64 : decode cX9_layRow 64 = .ok (.iload_n 3, 1) := by decide +kernel
theorem dX9_layRow_65 : decode cX9_layRow 65 = .ok (.iadd, 1) := by decide +kernel
theorem dX9_layRow_66 : decode cX9_layRow 66 = .ok (.dup2, 1) := by decide +kernel
theorem dX9_layRow_67 : decode cX9_layRow 67 = .ok (.iaload, 1) := by decide +kernel
theorem dX9_layRow_68 : decode cX9_layRow 68 = .ok (.aload_n 0, 1) := by decide +kernel
theorem dX9_layRow_69 : decode cX9_layRow 69 = .ok (.getfield 112, 3) := by decide +kernel
theorem dX9_layRow_72 : decode cX9_layRow 72 = .ok (.iload_n 3, 1) := by decide +kernel
theorem dX9_layRow_73 : decode cX9_layRow 73 = .ok (.iaload, 1) := by decide +kernel
theorem dX9_layRow_74 : decode cX9_layRow 74 = .ok (.iadd, 1) := by decide +kernel
theorem dX9_layRow_75 : decode cX9_layRow 75 = .ok (.iastore, 1) := by decide +kernel
theorem dX9_layRow_76 : decode cX9_layRow 76 = .ok (.aload_n 0, 1) := by decide +kernel
theorem dX9_layRow_77 : decode cX9_layRow 77 = .ok (.getfield 94, 3) := by decide +kernel
theorem dX9_layRow_80 : decode cX9_layRow 80 = .ok (.bipush 8, 2) := by decide +kernel
theorem dX9_layRow_82 : decode cX9_layRow 82 = .ok (.iload_n 3, 1) := by decide +kernel
theorem dX9_layRow_83 : decode cX9_layRow 83 = .ok (.iadd, 1) := by decide +kernel
theorem dX9_layRow_84 : decode cX9_layRow 84 = .ok (.aload_n 0, 1) := by decide +kernel
theorem dX9_layRow_85 : decode cX9_layRow 85 = .ok (.getfield 112, 3) := by decide +kernel
theorem dX9_layRow_88 : decode cX9_layRow 88 = .ok (.iload_n 3, 1) := by decide +kernel
theorem dX9_layRow_89 : decode cX9_layRow 89 = .ok (.iaload, 1) := by decide +kernel
theorem dX9_layRow_90 : decode cX9_layRow 90 = .ok (.ifCond .le 7, 3) := by decide +kernel
theorem dX9_layRow_93 : decode cX9_layRow 93 = .ok (.iload_n 1, 1) := by decide +kernel
theorem dX9_layRow_94 : decode cX9_layRow 94 = .ok (.goto 12, 3) := by decide +kernel
theorem dX9_layRow_97 : decode cX9_layRow 97 = .ok (.aload_n 0, 1) := by decide +kernel
theorem dX9_layRow_98 : decode cX9_layRow 98 = .ok (.getfield 94, 3) := by decide +kernel
theorem dX9_layRow_101 : decode cX9_layRow 101 = .ok (.bipush 8, 2) := by decide +kernel
theorem dX9_layRow_103 : decode cX9_layRow 103 = .ok (.iload_n 3, 1) := by decide +kernel
theorem dX9_layRow_104 : decode cX9_layRow 104 = .ok (.iadd, 1) := by decide +kernel
theorem dX9_layRow_105 : decode cX9_layRow 105 = .ok (.iaload, 1) := by decide +kernel
theorem dX9_layRow_106 : decode cX9_layRow 106 = .ok (.iastore, 1) := by decide +kernel
theorem dX9_layRow_107 : decode cX9_layRow 107 = .ok (.iinc 3 1, 3) := by decide +kernel
theorem dX9_layRow_110 : decode cX9_layRow 110 = .ok (.goto (-102), 3) := by decide +kernel
theorem dX9_layRow_113 : decode cX9_layRow 113 = .ok (.iload_n 2, 1) := by decide +kernel
theorem dX9_layRow_114 : decode cX9_layRow 114 = .ok (.ireturn, 1) := by decide +kernel
theorem dX9_best_0 : decode cX9_best 0 = .ok (.iload_n 1, 1) := by decide +kernel
theorem dX9_best_1 : decode cX9_best 1 = .ok (.i2l, 1) := by decide +kernel
theorem dX9_best_2 : decode cX9_best 2 = .ok (.lconst 1, 1) := by decide +kernel
theorem dX9_best_3 : decode cX9_best 3 = .ok (.ldc2_w 269, 3) := by decide +kernel
theorem dX9_best_6 : decode cX9_best 6 = .ok (.invokestatic 138, 3) := by decide +kernel
theorem dX9_best_9 : decode cX9_best 9 = .ok (.ifCond .eq 42, 3) := by decide +kernel
theorem dX9_best_12 : decode cX9_best 12 = .ok (.iload_n 2, 1) := by decide +kernel
theorem dX9_best_13 : decode cX9_best 13 = .ok (.i2l, 1) := by decide +kernel
theorem dX9_best_14 : decode cX9_best 14 = .ok (.lconst 0, 1) := by decide +kernel
theorem dX9_best_15 : decode cX9_best 15 = .ok (.ldc2_w 242, 3) := by decide +kernel
theorem dX9_best_18 : decode cX9_best 18 = .ok (.invokestatic 138, 3) := by decide +kernel
theorem dX9_best_21 : decode cX9_best 21 = .ok (.ifCond .eq 30, 3) := by decide +kernel
theorem dX9_best_24 : decode cX9_best 24 = .ok (.iload_n 3, 1) := by decide +kernel
theorem dX9_best_25 : decode cX9_best 25 = .ok (.i2l, 1) := by decide +kernel
theorem dX9_best_26 : decode cX9_best 26 = .ok (.lconst 1, 1) := by decide +kernel
theorem dX9_best_27 : decode cX9_best 27 = .ok (.ldc2_w 250, 3) := by decide +kernel
theorem dX9_best_30 : decode cX9_best 30 = .ok (.invokestatic 138, 3) := by decide +kernel
theorem dX9_best_33 : decode cX9_best 33 = .ok (.ifCond .eq 18, 3) := by decide +kernel
theorem dX9_best_36 : decode cX9_best 36 = .ok (.iload 4, 2) := by decide +kernel
theorem dX9_best_38 : decode cX9_best 38 = .ok (.iconst (-1), 1) := by decide +kernel
theorem dX9_best_39 : decode cX9_best 39 = .ok (.if_icmp .eq 14, 3) := by decide +kernel
theorem dX9_best_42 : decode cX9_best 42 = .ok (.aload_n 0, 1) := by decide +kernel
theorem dX9_best_43 : decode cX9_best 43 = .ok (.iload 4, 2) := by decide +kernel
theorem dX9_best_45 : decode cX9_best 45 = .ok (.invokevirtual 237, 3) := by decide +kernel
theorem dX9_best_48 : decode cX9_best 48 = .ok (.ifCond .ne 5, 3) := by decide +kernel
theorem dX9_best_51 : decode cX9_best 51 = .ok (.iconst (-1), 1) := by decide +kernel
theorem dX9_best_52 : decode cX9_best 52 = .ok (.ireturn, 1) := by decide +kernel
theorem dX9_best_53 : decode cX9_best 53 = .ok (.iconst 0, 1) := by decide +kernel
theorem dX9_best_54 : decode cX9_best 54 = .ok (.istore 5, 2) := by decide +kernel
theorem dX9_best_56 : decode cX9_best 56 = .ok (.iload 5, 2) := by decide +kernel
theorem dX9_best_58 : decode cX9_best 58 = .ok (.bipush 8, 2) := by decide +kernel
theorem dX9_best_60 : decode cX9_best 60 = .ok (.if_icmp .ge 26, 3) := by decide +kernel
theorem dX9_best_63 : decode cX9_best 63 = .ok (.aload_n 0, 1) := by decide +kernel
theorem dX9_best_64 : decode cX9_best 64 = .ok (.getfield 112, 3) := by decide +kernel
theorem dX9_best_67 : decode cX9_best 67 = .ok (.iload 5, 2) := by decide +kernel
theorem dX9_best_69 : decode cX9_best 69 = .ok (.iload 5, 2) := by decide +kernel
theorem dX9_best_71 : decode cX9_best 71 = .ok (.ifCond .ne 7, 3) := by decide +kernel
theorem dX9_best_74 : decode cX9_best 74 = .ok (.iload_n 1, 1) := by decide +kernel
theorem dX9_best_75 : decode cX9_best 75 = .ok (.goto 4, 3) := by decide +kernel
theorem dX9_best_78 : decode cX9_best 78 = .ok (.iconst 0, 1) := by decide +kernel
theorem dX9_best_79 : decode cX9_best 79 = .ok (.iastore, 1) := by decide +kernel
theorem dX9_best_80 : decode cX9_best 80 = .ok (.iinc 5 1, 3) := by decide +kernel
theorem dX9_best_83 : decode cX9_best 83 = .ok (.goto (-27), 3) := by decide +kernel
theorem dX9_best_86 : decode cX9_best 86 = .ok (.bipush (-4), 2) := by decide +kernel
theorem dX9_best_88 : decode cX9_best 88 = .ok (.istore 5, 2) := by decide +kernel
theorem dX9_best_90 : decode cX9_best 90 = .ok (.iconst 1, 1) := by decide +kernel
theorem dX9_best_91 : decode cX9_best 91 = .ok (.istore 6, 2) := by decide +kernel
theorem dX9_best_93 : decode cX9_best 93 = .ok (.iload 6, 2) := by decide +kernel
theorem dX9_best_95 : decode cX9_best 95 = .ok (.ifCond .eq 90, 3) := by decide +kernel
theorem dX9_best_98 : decode cX9_best 98 = .ok (.aload_n 0, 1) := by decide +kernel
theorem dX9_best_99 : decode cX9_best 99 = .ok (.iload_n 2, 1) := by decide +kernel
theorem dX9_best_100 : decode cX9_best 100 = .ok (.invokevirtual 271, 3) := by decide +kernel
theorem dX9_best_103 : decode cX9_best 103 = .ok (.ifCond .eq 73, 3) := by decide +kernel
theorem dX9_best_106 : decode cX9_best 106 = .ok (.iconst 0, 1) := by decide +kernel
theorem dX9_best_107 : decode cX9_best 107 = .ok (.istore 7, 2) := by decide +kernel
theorem dX9_best_109 : decode cX9_best 109 = .ok (.iload 7, 2) := by decide +kernel
theorem dX9_best_111 : decode cX9_best 111 = .ok (.iload_n 3, 1) := by decide +kernel
theorem dX9_best_112 : decode cX9_best 112 = .ok (.if_icmp .ge 15, 3) := by decide +kernel
theorem dX9_best_115 : decode cX9_best 115 = .ok (.aload_n 0, 1) := by decide +kernel
theorem dX9_best_116 : decode cX9_best 116 = .ok (.iconst 1, 1) := by decide +kernel
theorem dX9_best_117 : decode cX9_best 117 = .ok (.iconst 0, 1) := by decide +kernel
theorem dX9_best_118 : decode cX9_best 118 = .ok (.invokevirtual 224, 3) := by decide +kernel
theorem dX9_best_121 : decode cX9_best 121 = .ok (.iinc 7 1, 3) := by decide +kernel
theorem dX9_best_124 : decode cX9_best 124 = .ok (.goto (-15), 3) := by decide +kernel
theorem dX9_best_127 : decode cX9_best 127 = .ok (.aload_n 0, 1) := by decide +kernel
theorem dX9_best_128 : decode cX9_best 128 = .ok (.getfield 100, 3) := by decide +kernel
theorem dX9_best_131 : decode cX9_best 131 = .ok (.iconst 1, 1) := by decide +kernel
theorem dX9_best_132 : decode cX9_best 132 = .ok (.iaload, 1) := by decide +kernel
theorem dX9_best_133 : decode cX9_best 133 = .ok (.iload 5, 2) := by decide +kernel
theorem dX9_best_135 : decode cX9_best 135 = .ok (.if_icmp .le 41, 3) := by decide +kernel
theorem dX9_best_138 : decode cX9_best 138 = .ok (.aload_n 0, 1) := by decide +kernel
theorem dX9_best_139 : decode cX9_best 139 = .ok (.getfield 100, 3) := by decide +kernel
theorem dX9_best_142 : decode cX9_best 142 = .ok (.iconst 1, 1) := by decide +kernel
theorem dX9_best_143 : decode cX9_best 143 = .ok (.iaload, 1) := by decide +kernel
theorem dX9_best_144 : decode cX9_best 144 = .ok (.istore 5, 2) := by decide +kernel
theorem dX9_best_146 : decode cX9_best 146 = .ok (.iconst 0, 1) := by decide +kernel
theorem dX9_best_147 : decode cX9_best 147 = .ok (.istore 7, 2) := by decide +kernel
theorem dX9_best_149 : decode cX9_best 149 = .ok (.iload 7, 2) := by decide +kernel
theorem dX9_best_151 : decode cX9_best 151 = .ok (.bipush 8, 2) := by decide +kernel
theorem dX9_best_153 : decode cX9_best 153 = .ok (.if_icmp .ge 23, 3) := by decide +kernel
theorem dX9_best_156 : decode cX9_best 156 = .ok (.aload_n 0, 1) := by decide +kernel
theorem dX9_best_157 : decode cX9_best 157 = .ok (.getfield 115, 3) := by decide +kernel
theorem dX9_best_160 : decode cX9_best 160 = .ok (.iload 7, 2) := by decide +kernel
theorem dX9_best_162 : decode cX9_best 162 = .ok (.aload_n 0, 1) := by decide +kernel
theorem dX9_best_163 : decode cX9_best 163 = .ok (.getfield 112, 3) := by decide +kernel
theorem dX9_best_166 : decode cX9_best 166 = .ok (.iload 7, 2) := by decide +kernel
theorem dX9_best_168 : decode cX9_best 168 = .ok (.iaload, 1) := by decide +kernel
theorem dX9_best_169 : decode cX9_best 169 = .ok (.iastore, 1) := by decide +kernel
theorem dX9_best_170 : decode cX9_best 170 = .ok (.iinc 7 1, 3) := by decide +kernel
theorem dX9_best_173 : decode cX9_best 173 = .ok (.goto (-24), 3) := by decide +kernel
theorem dX9_best_176 : decode cX9_best 176 = .ok (.aload_n 0, 1) := by decide +kernel
theorem dX9_best_177 : decode cX9_best 177 = .ok (.invokevirtual 274, 3) := by decide +kernel
theorem dX9_best_180 : decode cX9_best 180 = .ok (.istore 6, 2) := by decide +kernel
theorem dX9_best_182 : decode cX9_best 182 = .ok (.goto (-89), 3) := by decide +kernel
theorem dX9_best_185 : decode cX9_best 185 = .ok (.iload 5, 2) := by decide +kernel
theorem dX9_best_187 : decode cX9_best 187 = .ok (.ifCond .lt 8, 3) := by decide +kernel
theorem dX9_best_190 : decode cX9_best 190 = .ok (.iload 4, 2) := by decide +kernel
theorem dX9_best_192 : decode cX9_best 192 = .ok (.ifCond .ge 8, 3) := by decide +kernel
theorem dX9_best_195 : decode cX9_best 195 = .ok (.iload 5, 2) := by decide +kernel
theorem dX9_best_197 : decode cX9_best 197 = .ok (.goto 10, 3) := by decide +kernel
theorem dX9_best_200 : decode cX9_best 200 = .ok (.aload_n 0, 1) := by decide +kernel
theorem dX9_best_201 : decode cX9_best 201 = .ok (.getfield 115, 3) := by decide +kernel
theorem dX9_best_204 : decode cX9_best 204 = .ok (.iload 4, 2) := by decide +kernel
theorem dX9_best_206 : decode cX9_best 206 = .ok (.iaload, 1) := by decide +kernel
theorem dX9_best_207 : decode cX9_best 207 = .ok (.ireturn, 1) := by decide +kernel
theorem dX9_isGap_0 : decode cX9_isGap 0 = .ok (.aload_n 0, 1) := by decide +kernel
theorem dX9_isGap_1 : decode cX9_isGap 1 = .ok (.invokevirtual 254, 3) := by decide +kernel
theorem dX9_isGap_4 : decode cX9_isGap 4 = .ok (.aload_n 0, 1) := by decide +kernel
theorem dX9_isGap_5 : decode cX9_isGap 5 = .ok (.getfield 91, 3) := by decide +kernel
theorem dX9_isGap_8 : decode cX9_isGap 8 = .ok (.bipush 8, 2) := by decide +kernel
theorem dX9_isGap_10 : decode cX9_isGap 10 = .ok (.iload_n 1, 1) := by decide +kernel
theorem dX9_isGap_11 : decode cX9_isGap 11 = .ok (.iadd, 1) := by decide +kernel
theorem dX9_isGap_12 : decode cX9_isGap 12 = .ok (.iload_n 2, 1) := by decide +kernel
theorem dX9_isGap_13 : decode cX9_isGap 13 = .ok (.iastore, 1) := by decide +kernel
theorem dX9_isGap_14 : decode cX9_isGap 14 = .ok (.aload_n 0, 1) := by decide +kernel
theorem dX9_isGap_15 : decode cX9_isGap 15 = .ok (.getfield 94, 3) := by decide +kernel
theorem dX9_isGap_18 : decode cX9_isGap 18 = .ok (.bipush 8, 2) := by decide +kernel
theorem dX9_isGap_20 : decode cX9_isGap 20 = .ok (.iload_n 1, 1) := by decide +kernel
theorem dX9_isGap_21 : decode cX9_isGap 21 = .ok (.iadd, 1) := by decide +kernel
theorem dX9_isGap_22 : decode cX9_isGap 22 = .ok (.iconst 2, 1) := by decide +kernel
theorem dX9_isGap_23 : decode cX9_isGap 23 = .ok (.iastore, 1) := by decide +kernel
theorem dX9_isGap_24 : decode cX9_isGap 24 = .ok (.iconst 1, 1) := by decide +kernel
theorem dX9_isGap_25 : decode cX9_isGap 25 = .ok (.istore 4, 2) := by decide +kernel
theorem dX9_isGap_27 : decode cX9_isGap 27 = .ok (.iconst 0, 1) := by decide +kernel
theorem dX9_isGap_28 : decode cX9_isGap 28 = .ok (.istore 5, 2) := by decide +kernel
theorem dX9_isGap_30 : decode cX9_isGap 30 = .ok (.iload 5, 2) := by decide +kernel
theorem dX9_isGap_32 : decode cX9_isGap 32 = .ok (.iload_n 3, 1) := by decide +kernel
theorem dX9_isGap_33 : decode cX9_isGap 33 = .ok (.if_icmp .ge 42, 3) := by decide +kernel
theorem dX9_isGap_36 : decode cX9_isGap 36 = .ok (.iload 4, 2) := by decide +kernel
theorem dX9_isGap_38 : decode cX9_isGap 38 = .ok (.ifCond .eq 37, 3) := by decide +kernel
theorem dX9_isGap_41 : decode cX9_isGap 41 = .ok (.aload_n 0, 1) := by decide +kernel
theorem dX9_isGap_42 : decode cX9_isGap 42 = .ok (.iconst 1, 1) := by decide +kernel
theorem dX9_isGap_43 : decode cX9_isGap 43 = .ok (.iconst 0, 1) := by decide +kernel
theorem dX9_isGap_44 : decode cX9_isGap 44 = .ok (.invokevirtual 224, 3) := by decide +kernel
theorem dX9_isGap_47 : decode cX9_isGap 47 = .ok (.aload_n 0, 1) := by decide +kernel
theorem dX9_isGap_48 : decode cX9_isGap 48 = .ok (.getfield 211, 3) := by decide +kernel
theorem dX9_isGap_51 : decode cX9_isGap 51 = .ok (.ifCond .eq 11, 3) := by decide +kernel
theorem dX9_isGap_54 : decode cX9_isGap 54 = .ok (.aload_n 0, 1) := by decide +kernel
theorem dX9_isGap_55 : decode cX9_isGap 55 = .ok (.getfield 217, 3) := by decide +kernel
theorem dX9_isGap_58 : decode cX9_isGap 58 = .ok (.iload_n 1, 1) := by decide +kernel
theorem dX9_isGap_59 : decode cX9_isGap 59 = .ok (.if_icmp .ne 7, 3) := by decide +kernel
theorem dX9_isGap_62 : decode cX9_isGap 62 = .ok (.iconst 1, 1) := by decide +kernel
theorem dX9_isGap_63 : decode cX9_isGap 63 = .ok (.goto 4, 3) := by decide +kernel
theorem dX9_isGap_66 : decode cX9_isGap 66 = .ok (.iconst 0, 1) := by decide +kernel
theorem dX9_isGap_67 : decode cX9_isGap 67 = .ok (.istore 4, 2) := by decide +kernel
theorem dX9_isGap_69 : decode cX9_isGap 69 = .ok (.iinc 5 1, 3) := by decide +kernel
theorem dX9_isGap_72 : decode cX9_isGap 72 = .ok (.goto (-42), 3) := by decide +kernel
theorem dX9_isGap_75 : decode cX9_isGap 75 = .ok (.iload 4, 2) := by decide +kernel
theorem dX9_isGap_77 : decode cX9_isGap 77 = .ok (.ireturn, 1) := by decide +kernel
theorem dX9_gap_0 : decode cX9_gap 0 = .ok (.iload_n 1, 1) := by decide +kernel
theorem dX9_gap_1 : decode cX9_gap 1 = .ok (.i2l, 1) := by decide +kernel
theorem dX9_gap_2 : decode cX9_gap 2 = .ok (.lconst 1, 1) := by decide +kernel
theorem dX9_gap_3 : decode cX9_gap 3 = .ok (.ldc2_w 250, 3) := by decide +kernel
theorem dX9_gap_6 : decode cX9_gap 6 = .ok (.invokestatic 138, 3) := by decide +kernel
theorem dX9_gap_9 : decode cX9_gap 9 = .ok (.ifCond .eq 13, 3) := by decide +kernel
theorem dX9_gap_12 : decode cX9_gap 12 = .ok (.iload_n 2, 1) := by decide +kernel
theorem dX9_gap_13 : decode cX9_gap 13 = .ok (.i2l, 1) := by decide +kernel
theorem dX9_gap_14 : decode cX9_gap 14 = .ok (.lconst 0, 1) := by decide +kernel
theorem dX9_gap_15 : decode cX9_gap 15 = .ok (.lconst 1, 1) := by decide +kernel
theorem dX9_gap_16 : decode cX9_gap 16 = .ok (.invokestatic 138, 3) := by decide +kernel
theorem dX9_gap_19 : decode cX9_gap 19 = .ok (.ifCond .ne 5, 3) := by decide +kernel
theorem dX9_gap_22 : decode cX9_gap 22 = .ok (.iconst (-1), 1) := by decide +kernel
theorem dX9_gap_23 : decode cX9_gap 23 = .ok (.ireturn, 1) := by decide +kernel
theorem dX9_gap_24 : decode cX9_gap 24 = .ok (.bipush 40, 2) := by decide +kernel
theorem dX9_gap_26 : decode cX9_gap 26 = .ok (.istore_n 3, 1) := by decide +kernel
theorem dX9_gap_27 : decode cX9_gap 27 = .ok (.iload_n 3, 1) := by decide +kernel
theorem dX9_gap_28 : decode cX9_gap 28 = .ok (.ifCond .lt 51, 3) := by decide +kernel
theorem dX9_gap_31 : decode cX9_gap 31 = .ok (.iconst 0, 1) := by decide +kernel
theorem dX9_gap_32 : decode cX9_gap 32 = .ok (.istore 4, 2) := by decide +kernel
theorem dX9_gap_34 : decode cX9_gap 34 = .ok (.iload 4, 2) := by decide +kernel
theorem dX9_gap_36 : decode cX9_gap 36 = .ok (.aload_n 0, 1) := by decide +kernel
theorem dX9_gap_37 : decode cX9_gap 37 = .ok (.getfield 13, 3) := by decide +kernel
theorem dX9_gap_40 : decode cX9_gap 40 = .ok (.iconst 0, 1) := by decide +kernel
theorem dX9_gap_41 : decode cX9_gap 41 = .ok (.iaload, 1) := by decide +kernel
theorem dX9_gap_42 : decode cX9_gap 42 = .ok (.if_icmp .ge 31, 3) := by decide +kernel
theorem dX9_gap_45 : decode cX9_gap 45 = .ok (.aload_n 0, 1) := by decide +kernel
theorem dX9_gap_46 : decode cX9_gap 46 = .ok (.iload 4, 2) := by decide +kernel
theorem dX9_gap_48 : decode cX9_gap 48 = .ok (.iload_n 3, 1) := by decide +kernel
theorem dX9_gap_49 : decode cX9_gap 49 = .ok (.iload_n 1, 1) := by decide +kernel
theorem dX9_gap_50 : decode cX9_gap 50 = .ok (.invokevirtual 277, 3) := by decide +kernel
theorem dX9_gap_53 : decode cX9_gap 53 = .ok (.ifCond .eq 14, 3) := by decide +kernel
theorem dX9_gap_56 : decode cX9_gap 56 = .ok (.iload_n 2, 1) := by decide +kernel
theorem dX9_gap_57 : decode cX9_gap 57 = .ok (.ifCond .ne 7, 3) := by decide +kernel
theorem dX9_gap_60 : decode cX9_gap 60 = .ok (.iload_n 3, 1) := by decide +kernel
theorem dX9_gap_61 : decode cX9_gap 61 = .ok (.goto 5, 3) := by decide +kernel
theorem dX9_gap_64 : decode cX9_gap 64 = .ok (.iload 4, 2) := by decide +kernel
theorem dX9_gap_66 : decode cX9_gap 66 = .ok (.ireturn, 1) := by decide +kernel
theorem dX9_gap_67 : decode cX9_gap 67 = .ok (.iinc 4 1, 3) := by decide +kernel
theorem dX9_gap_70 : decode cX9_gap 70 = .ok (.goto (-36), 3) := by decide +kernel
theorem dX9_gap_73 : decode cX9_gap 73 = .ok (.iinc 3 (-1), 3) := by decide +kernel
theorem dX9_gap_76 : decode cX9_gap 76 = .ok (.goto (-49), 3) := by decide +kernel
theorem dX9_gap_79 : decode cX9_gap 79 = .ok (.bipush (-4), 2) := by decide +kernel
theorem dX9_gap_81 : decode cX9_gap 81 = .ok (.ireturn, 1) := by decide +kernel
theorem dX9_timeOf_0 : decode cX9_timeOf 0 = .ok (.iconst 0, 1) := by decide +kernel
theorem dX9_timeOf_1 : decode cX9_timeOf 1 = .ok (.istore_n 2, 1) := by decide +kernel
theorem dX9_timeOf_2 : decode cX9_timeOf 2 = .ok (.iload_n 2, 1) := by decide +kernel
theorem dX9_timeOf_3 : decode cX9_timeOf 3 = .ok (.iconst 4, 1) := by decide +kernel
theorem dX9_timeOf_4 : decode cX9_timeOf 4 = .ok (.if_icmp .ge 16, 3) := by decide +kernel
theorem dX9_timeOf_7 : decode cX9_timeOf 7 = .ok (.aload_n 0, 1) := by decide +kernel
theorem dX9_timeOf_8 : decode cX9_timeOf 8 = .ok (.getfield 118, 3) := by decide +kernel
theorem dX9_timeOf_11 : decode cX9_timeOf 11 = .ok (.iload_n 2, 1) := by decide +kernel
theorem dX9_timeOf_12 : decode cX9_timeOf 12 = .ok (.iconst 0, 1) := by decide +kernel
theorem dX9_timeOf_13 : decode cX9_timeOf 13 = .ok (.iastore, 1) := by decide +kernel
theorem dX9_timeOf_14 : decode cX9_timeOf 14 = .ok (.iinc 2 1, 3) := by decide +kernel
theorem dX9_timeOf_17 : decode cX9_timeOf 17 = .ok (.goto (-15), 3) := by decide +kernel
theorem dX9_timeOf_20 : decode cX9_timeOf 20 = .ok (.iload_n 1, 1) := by decide +kernel
theorem dX9_timeOf_21 : decode cX9_timeOf 21 = .ok (.istore_n 2, 1) := by decide +kernel
theorem dX9_timeOf_22 : decode cX9_timeOf 22 = .ok (.iconst 0, 1) := by decide +kernel
theorem dX9_timeOf_23 : decode cX9_timeOf 23 = .ok (.istore_n 3, 1) := by decide +kernel
theorem dX9_timeOf_24 : decode cX9_timeOf 24 = .ok (.aload_n 0, 1) := by decide +kernel
theorem dX9_timeOf_25 : decode cX9_timeOf 25 = .ok (.getfield 55, 3) := by decide +kernel
theorem dX9_timeOf_28 : decode cX9_timeOf 28 = .ok (.iconst 0, 1) := by decide +kernel
theorem dX9_timeOf_29 : decode cX9_timeOf 29 = .ok (.iaload, 1) := by decide +kernel
theorem dX9_timeOf_30 : decode cX9_timeOf 30 = .ok (.iconst 1, 1) := by decide +kernel
theorem dX9_timeOf_31 : decode cX9_timeOf 31 = .ok (.isub, 1) := by decide +kernel
theorem dX9_timeOf_32 : decode cX9_timeOf 32 = .ok (.istore 4, 2) := by decide +kernel
theorem dX9_timeOf_34 : decode cX9_timeOf 34 = .ok (.iload 4, 2) := by decide +kernel
theorem dX9_timeOf_36 : decode cX9_timeOf 36 = .ok (.ifCond .lt 115, 3) := by decide +kernel
theorem dX9_timeOf_39 : decode cX9_timeOf 39 = .ok (.iload_n 2, 1) := by decide +kernel
theorem dX9_timeOf_40 : decode cX9_timeOf 40 = .ok (.aload_n 0, 1) := by decide +kernel
theorem dX9_timeOf_41 : decode cX9_timeOf 41 = .ok (.getfield 49, 3) := by decide +kernel
theorem dX9_timeOf_44 : decode cX9_timeOf 44 = .ok (.iconst 0, 1) := by decide +kernel
theorem dX9_timeOf_45 : decode cX9_timeOf 45 = .ok (.iaload, 1) := by decide +kernel
theorem dX9_timeOf_46 : decode cX9_timeOf 46 = .ok (.irem, 1) := by decide +kernel
theorem dX9_timeOf_47 : decode cX9_timeOf 47 = .ok (.istore 5, 2) := by decide +kernel
theorem dX9_timeOf_49 : decode cX9_timeOf 49 = .ok (.iload_n 2, 1) := by decide +kernel
theorem dX9_timeOf_50 : decode cX9_timeOf 50 = .ok (.aload_n 0, 1) := by decide +kernel
theorem dX9_timeOf_51 : decode cX9_timeOf 51 = .ok (.getfield 49, 3) := by decide +kernel
theorem dX9_timeOf_54 : decode cX9_timeOf 54 = .ok (.iconst 0, 1) := by decide +kernel
theorem dX9_timeOf_55 : decode cX9_timeOf 55 = .ok (.iaload, 1) := by decide +kernel
theorem dX9_timeOf_56 : decode cX9_timeOf 56 = .ok (.idiv, 1) := by decide +kernel
theorem dX9_timeOf_57 : decode cX9_timeOf 57 = .ok (.istore_n 2, 1) := by decide +kernel
theorem dX9_timeOf_58 : decode cX9_timeOf 58 = .ok (.aload_n 0, 1) := by decide +kernel
theorem dX9_timeOf_59 : decode cX9_timeOf 59 = .ok (.getfield 121, 3) := by decide +kernel
theorem dX9_timeOf_62 : decode cX9_timeOf 62 = .ok (.iload 4, 2) := by decide +kernel
theorem dX9_timeOf_64 : decode cX9_timeOf 64 = .ok (.iload 5, 2) := by decide +kernel
theorem dX9_timeOf_66 : decode cX9_timeOf 66 = .ok (.iastore, 1) := by decide +kernel
theorem dX9_timeOf_67 : decode cX9_timeOf 67 = .ok (.aload_n 0, 1) := by decide +kernel
theorem dX9_timeOf_68 : decode cX9_timeOf 68 = .ok (.getfield 52, 3) := by decide +kernel
theorem dX9_timeOf_71 : decode cX9_timeOf 71 = .ok (.iconst 4, 1) := by decide +kernel
theorem dX9_timeOf_72 : decode cX9_timeOf 72 = .ok (.iload 5, 2) := by decide +kernel
theorem dX9_timeOf_74 : decode cX9_timeOf 74 = .ok (.imul, 1) := by decide +kernel
theorem dX9_timeOf_75 : decode cX9_timeOf 75 = .ok (.aload_n 0, 1) := by decide +kernel
theorem dX9_timeOf_76 : decode cX9_timeOf 76 = .ok (.getfield 61, 3) := by decide +kernel
theorem dX9_timeOf_79 : decode cX9_timeOf 79 = .ok (.iload 4, 2) := by decide +kernel
theorem dX9_timeOf_81 : decode cX9_timeOf 81 = .ok (.iaload, 1) := by decide +kernel
theorem dX9_timeOf_82 : decode cX9_timeOf 82 = .ok (.iadd, 1) := by decide +kernel
theorem dX9_timeOf_83 : decode cX9_timeOf 83 = .ok (.iaload, 1) := by decide +kernel
theorem dX9_timeOf_84 : decode cX9_timeOf 84 = .ok (.istore 6, 2) := by decide +kernel
theorem dX9_timeOf_86 : decode cX9_timeOf 86 = .ok (.aload_n 0, 1) := by decide +kernel
theorem dX9_timeOf_87 : decode cX9_timeOf 87 = .ok (.getfield 118, 3) := by decide +kernel
theorem dX9_timeOf_90 : decode cX9_timeOf 90 = .ok (.iload 5, 2) := by decide +kernel
theorem dX9_timeOf_92 : decode cX9_timeOf 92 = .ok (.dup2, 1) := by decide +kernel
theorem dX9_timeOf_93 : decode cX9_timeOf 93 = .ok (.iaload, 1) := by decide +kernel
theorem dX9_timeOf_94 : decode cX9_timeOf 94 = .ok (.iload 6, 2) := by decide +kernel
theorem dX9_timeOf_96 : decode cX9_timeOf 96 = .ok (.ifCond .ne 9, 3) := by decide +kernel
theorem dX9_timeOf_99 : decode cX9_timeOf 99 = .ok (.ldc_w 281, 3) := by decide +kernel
theorem dX9_timeOf_102 : decode cX9_timeOf 102 = .ok (.goto 18, 3) := by decide +kernel
theorem dX9_timeOf_105 : decode cX9_timeOf 105 = .ok (.aload_n 0, 1) := by decide +kernel
theorem dX9_timeOf_106 : decode cX9_timeOf 106 = .ok (.getfield 64, 3) := by decide +kernel
theorem dX9_timeOf_109 : decode cX9_timeOf 109 = .ok (.iload 4, 2) := by decide +kernel
theorem dX9_timeOf_111 : decode cX9_timeOf 111 = .ok (.iaload, 1) := by decide +kernel
theorem dX9_timeOf_112 : decode cX9_timeOf 112 = .ok (.iload 6, 2) := by decide +kernel
theorem dX9_timeOf_114 : decode cX9_timeOf 114 = .ok (.iadd, 1) := by decide +kernel
theorem dX9_timeOf_115 : decode cX9_timeOf 115 = .ok (.iconst 1, 1) := by decide +kernel
theorem dX9_timeOf_116 : decode cX9_timeOf 116 = .ok (.isub, 1) := by decide +kernel
theorem dX9_timeOf_117 : decode cX9_timeOf 117 = .ok (.iload 6, 2) := by decide +kernel
theorem dX9_timeOf_119 : decode cX9_timeOf 119 = .ok (.idiv, 1) := by decide +kernel
theorem dX9_timeOf_120 : decode cX9_timeOf 120 = .ok (.iadd, 1) := by decide +kernel
theorem dX9_timeOf_121 : decode cX9_timeOf 121 = .ok (.iastore, 1) := by decide +kernel
theorem dX9_timeOf_122 : decode cX9_timeOf 122 = .ok (.aload_n 0, 1) := by decide +kernel
theorem dX9_timeOf_123 : decode cX9_timeOf 123 = .ok (.getfield 118, 3) := by decide +kernel
theorem dX9_timeOf_126 : decode cX9_timeOf 126 = .ok (.iload 5, 2) := by decide +kernel
theorem dX9_timeOf_128 : decode cX9_timeOf 128 = .ok (.iaload, 1) := by decide +kernel
theorem dX9_timeOf_129 : decode cX9_timeOf 129 = .ok (.iload_n 3, 1) := by decide +kernel
theorem dX9_timeOf_130 : decode cX9_timeOf 130 = .ok (.if_icmp .le 13, 3) := by decide +kernel
theorem dX9_timeOf_133 : decode cX9_timeOf 133 = .ok (.aload_n 0, 1) := by decide +kernel
theorem dX9_timeOf_134 : decode cX9_timeOf 134 = .ok (.getfield 118, 3) := by decide +kernel
theorem dX9_timeOf_137 : decode cX9_timeOf 137 = .ok (.iload 5, 2) := by decide +kernel
theorem dX9_timeOf_139 : decode cX9_timeOf 139 = .ok (.iaload, 1) := by decide +kernel
theorem dX9_timeOf_140 : decode cX9_timeOf 140 = .ok (.goto 4, 3) := by decide +kernel
theorem dX9_timeOf_143 : decode cX9_timeOf 143 = .ok (.iload_n 3, 1) := by decide +kernel
theorem dX9_timeOf_144 : decode cX9_timeOf 144 = .ok (.istore_n 3, 1) := by decide +kernel
theorem dX9_timeOf_145 : decode cX9_timeOf 145 = .ok (.iinc 4 (-1), 3) := by decide +kernel
theorem dX9_timeOf_148 : decode cX9_timeOf 148 = .ok (.goto (-114), 3) := by decide +kernel
theorem dX9_timeOf_151 : decode cX9_timeOf 151 = .ok (.iload_n 3, 1) := by decide +kernel
theorem dX9_timeOf_152 : decode cX9_timeOf 152 = .ok (.ldc_w 281, 3) := by decide +kernel
theorem dX9_timeOf_155 : decode cX9_timeOf 155 = .ok (.if_icmp .lt 8, 3) := by decide +kernel
theorem dX9_timeOf_158 : decode cX9_timeOf 158 = .ok (.bipush (-4), 2) := by decide +kernel
theorem dX9_timeOf_160 : decode cX9_timeOf 160 = .ok (.goto 4, 3) := by decide +kernel
theorem dX9_timeOf_163 : decode cX9_timeOf 163 = .ok (.iload_n 3, 1) := by decide +kernel
theorem dX9_timeOf_164 : decode cX9_timeOf 164 = .ok (.ireturn, 1) := by decide +kernel
theorem dX9_together_0 : decode cX9_together 0 = .ok (.iload_n 1, 1) := by decide +kernel
theorem dX9_together_1 : decode cX9_together 1 = .ok (.i2l, 1) := by decide +kernel
theorem dX9_together_2 : decode cX9_together 2 = .ok (.ldc2_w 282, 3) := by decide +kernel
theorem dX9_together_5 : decode cX9_together 5 = .ok (.aload_n 0, 1) := by decide +kernel
theorem dX9_together_6 : decode cX9_together 6 = .ok (.getfield 55, 3) := by decide +kernel
theorem dX9_together_9 : decode cX9_together 9 = .ok (.iconst 0, 1) := by decide +kernel
theorem dX9_together_10 : decode cX9_together 10 = .ok (.iaload, 1) := by decide +kernel
theorem dX9_together_11 : decode cX9_together 11 = .ok (.iconst 1, 1) := by decide +kernel
theorem dX9_together_12 : decode cX9_together 12 = .ok (.isub, 1) := by decide +kernel
theorem dX9_together_13 : decode cX9_together 13 = .ok (.i2l, 1) := by decide +kernel
theorem dX9_together_14 : decode cX9_together 14 = .ok (.invokestatic 138, 3) := by decide +kernel
theorem dX9_together_17 : decode cX9_together 17 = .ok (.ifCond .ne 5, 3) := by decide +kernel
theorem dX9_together_20 : decode cX9_together 20 = .ok (.iconst (-1), 1) := by decide +kernel
theorem dX9_together_21 : decode cX9_together 21 = .ok (.ireturn, 1) := by decide +kernel
theorem dX9_together_22 : decode cX9_together 22 = .ok (.aload_n 0, 1) := by decide +kernel
theorem dX9_together_23 : decode cX9_together 23 = .ok (.getfield 55, 3) := by decide +kernel
theorem dX9_together_26 : decode cX9_together 26 = .ok (.iconst 0, 1) := by decide +kernel
theorem dX9_together_27 : decode cX9_together 27 = .ok (.iaload, 1) := by decide +kernel
theorem dX9_together_28 : decode cX9_together 28 = .ok (.ifCond .ne 5, 3) := by decide +kernel
theorem dX9_together_31 : decode cX9_together 31 = .ok (.iconst 0, 1) := by decide +kernel
theorem dX9_together_32 : decode cX9_together 32 = .ok (.ireturn, 1) := by decide +kernel
theorem dX9_together_33 : decode cX9_together 33 = .ok (.iconst 1, 1) := by decide +kernel
theorem dX9_together_34 : decode cX9_together 34 = .ok (.istore_n 2, 1) := by decide +kernel
theorem dX9_together_35 : decode cX9_together 35 = .ok (.iconst 0, 1) := by decide +kernel
theorem dX9_together_36 : decode cX9_together 36 = .ok (.istore_n 3, 1) := by decide +kernel
theorem dX9_together_37 : decode cX9_together 37 = .ok (.iload_n 3, 1) := by decide +kernel
theorem dX9_together_38 : decode cX9_together 38 = .ok (.aload_n 0, 1) := by decide +kernel
theorem dX9_together_39 : decode cX9_together 39 = .ok (.getfield 55, 3) := by decide +kernel
theorem dX9_together_42 : decode cX9_together 42 = .ok (.iconst 0, 1) := by decide +kernel
theorem dX9_together_43 : decode cX9_together 43 = .ok (.iaload, 1) := by decide +kernel
theorem dX9_together_44 : decode cX9_together 44 = .ok (.if_icmp .ge 18, 3) := by decide +kernel
theorem dX9_together_47 : decode cX9_together 47 = .ok (.iload_n 2, 1) := by decide +kernel
theorem dX9_together_48 : decode cX9_together 48 = .ok (.aload_n 0, 1) := by decide +kernel
theorem dX9_together_49 : decode cX9_together 49 = .ok (.getfield 49, 3) := by decide +kernel
theorem dX9_together_52 : decode cX9_together 52 = .ok (.iconst 0, 1) := by decide +kernel
theorem dX9_together_53 : decode cX9_together 53 = .ok (.iaload, 1) := by decide +kernel
theorem dX9_together_54 : decode cX9_together 54 = .ok (.imul, 1) := by decide +kernel
theorem dX9_together_55 : decode cX9_together 55 = .ok (.istore_n 2, 1) := by decide +kernel
theorem dX9_together_56 : decode cX9_together 56 = .ok (.iinc 3 1, 3) := by decide +kernel
theorem dX9_together_59 : decode cX9_together 59 = .ok (.goto (-22), 3) := by decide +kernel
theorem dX9_together_62 : decode cX9_together 62 = .ok (.bipush (-4), 2) := by decide +kernel
theorem dX9_together_64 : decode cX9_together 64 = .ok (.istore_n 3, 1) := by decide +kernel
theorem dX9_together_65 : decode cX9_together 65 = .ok (.iconst 0, 1) := by decide +kernel
theorem dX9_together_66 : decode cX9_together 66 = .ok (.istore 4, 2) := by decide +kernel
theorem dX9_together_68 : decode cX9_together 68 = .ok (.iload 4, 2) := by decide +kernel
theorem dX9_together_70 : decode cX9_together 70 = .ok (.iload_n 2, 1) := by decide +kernel
theorem dX9_together_71 : decode cX9_together 71 = .ok (.if_icmp .ge 64, 3) := by decide +kernel
theorem dX9_together_74 : decode cX9_together 74 = .ok (.aload_n 0, 1) := by decide +kernel
theorem dX9_together_75 : decode cX9_together 75 = .ok (.iload 4, 2) := by decide +kernel
theorem dX9_together_77 : decode cX9_together 77 = .ok (.invokevirtual 284, 3) := by decide +kernel
theorem dX9_together_80 : decode cX9_together 80 = .ok (.istore 5, 2) := by decide +kernel
theorem dX9_together_82 : decode cX9_together 82 = .ok (.iload 5, 2) := by decide +kernel
theorem dX9_together_84 : decode cX9_together 84 = .ok (.ifCond .lt 45, 3) := by decide +kernel
theorem dX9_together_87 : decode cX9_together 87 = .ok (.iload_n 3, 1) := by decide +kernel
theorem dX9_together_88 : decode cX9_together 88 = .ok (.ifCond .lt 9, 3) := by decide +kernel
theorem dX9_together_91 : decode cX9_together 91 = .ok (.iload 5, 2) := by decide +kernel
theorem dX9_together_93 : decode cX9_together 93 = .ok (.iload_n 3, 1) := by decide +kernel
theorem dX9_together_94 : decode cX9_together 94 = .ok (.if_icmp .ge 35, 3) := by decide +kernel
theorem dX9_together_97 : decode cX9_together 97 = .ok (.iload 5, 2) := by decide +kernel
theorem dX9_together_99 : decode cX9_together 99 = .ok (.istore_n 3, 1) := by decide +kernel
theorem dX9_together_100 : decode cX9_together 100 = .ok (.iconst 0, 1) := by decide +kernel
theorem dX9_together_101 : decode cX9_together 101 = .ok (.istore 6, 2) := by decide +kernel
theorem dX9_together_103 : decode cX9_together 103 = .ok (.iload 6, 2) := by decide +kernel
theorem dX9_together_105 : decode cX9_together 105 = .ok (.iconst 5, 1) := by decide +kernel
theorem dX9_together_106 : decode cX9_together 106 = .ok (.if_icmp .ge 23, 3) := by decide +kernel
theorem dX9_together_109 : decode cX9_together 109 = .ok (.aload_n 0, 1) := by decide +kernel
theorem dX9_together_110 : decode cX9_together 110 = .ok (.getfield 124, 3) := by decide +kernel
theorem dX9_together_113 : decode cX9_together 113 = .ok (.iload 6, 2) := by decide +kernel
theorem dX9_together_115 : decode cX9_together 115 = .ok (.aload_n 0, 1) := by decide +kernel
theorem dX9_together_116 : decode cX9_together 116 = .ok (.getfield 121, 3) := by decide +kernel
theorem dX9_together_119 : decode cX9_together 119 = .ok (.iload 6, 2) := by decide +kernel
theorem dX9_together_121 : decode cX9_together 121 = .ok (.iaload, 1) := by decide +kernel
theorem dX9_together_122 : decode cX9_together 122 = .ok (.iastore, 1) := by decide +kernel
theorem dX9_together_123 : decode cX9_together 123 = .ok (.iinc 6 1, 3) := by decide +kernel
theorem dX9_together_126 : decode cX9_together 126 = .ok (.goto (-23), 3) := by decide +kernel
theorem dX9_together_129 : decode cX9_together 129 = .ok (.iinc 4 1, 3) := by decide +kernel
theorem dX9_together_132 : decode cX9_together 132 = .ok (.goto (-64), 3) := by decide +kernel
theorem dX9_together_135 : decode cX9_together 135 = .ok (.iload_n 3, 1) := by decide +kernel
theorem dX9_together_136 : decode cX9_together 136 = .ok (.ifCond .lt 7, 3) := by decide +kernel
theorem dX9_together_139 : decode cX9_together 139 = .ok (.iload_n 1, 1) := by decide +kernel
theorem dX9_together_140 : decode cX9_together 140 = .ok (.ifCond .ge 7, 3) := by decide +kernel
theorem dX9_together_143 : decode cX9_together 143 = .ok (.iload_n 3, 1) := by decide +kernel
theorem dX9_together_144 : decode cX9_together 144 = .ok (.goto 9, 3) := by decide +kernel
theorem dX9_together_147 : decode cX9_together 147 = .ok (.aload_n 0, 1) := by decide +kernel
theorem dX9_together_148 : decode cX9_together 148 = .ok (.getfield 124, 3) := by decide +kernel
theorem dX9_together_151 : decode cX9_together 151 = .ok (.iload_n 1, 1) := by decide +kernel
theorem dX9_together_152 : decode cX9_together 152 = .ok (.iaload, 1) := by decide +kernel
theorem dX9_together_153 : decode cX9_together 153 = .ok (.ireturn, 1) := by decide +kernel
theorem dX9_isSlow_0 : decode cX9_isSlow 0 = .ok (.aload_n 0, 1) := by decide +kernel
theorem dX9_isSlow_1 : decode cX9_isSlow 1 = .ok (.invokevirtual 254, 3) := by decide +kernel
theorem dX9_isSlow_4 : decode cX9_isSlow 4 = .ok (.aload_n 0, 1) := by decide +kernel
theorem dX9_isSlow_5 : decode cX9_isSlow 5 = .ok (.bipush (-4), 2) := by decide +kernel
theorem dX9_isSlow_7 : decode cX9_isSlow 7 = .ok (.putfield 287, 3) := by decide +kernel
theorem dX9_isSlow_10 : decode cX9_isSlow 10 = .ok (.iconst 1, 1) := by decide +kernel
theorem dX9_isSlow_11 : decode cX9_isSlow 11 = .ok (.istore 4, 2) := by decide +kernel
theorem dX9_isSlow_13 : decode cX9_isSlow 13 = .ok (.iconst 1, 1) := by decide +kernel
theorem dX9_isSlow_14 : decode cX9_isSlow 14 = .ok (.istore 5, 2) := by decide +kernel
theorem dX9_isSlow_16 : decode cX9_isSlow 16 = .ok (.iload 5, 2) := by decide +kernel
theorem dX9_isSlow_18 : decode cX9_isSlow 18 = .ok (.bipush 60, 2) := by decide +kernel
theorem dX9_isSlow_20 : decode cX9_isSlow 20 = .ok (.if_icmp .gt 104, 3) := by decide +kernel
theorem dX9_isSlow_23 : decode cX9_isSlow 23 = .ok (.aload_n 0, 1) := by decide +kernel
theorem dX9_isSlow_24 : decode cX9_isSlow 24 = .ok (.getfield 91, 3) := by decide +kernel
theorem dX9_isSlow_27 : decode cX9_isSlow 27 = .ok (.bipush 8, 2) := by decide +kernel
theorem dX9_isSlow_29 : decode cX9_isSlow 29 = .ok (.iload_n 1, 1) := by decide +kernel
theorem dX9_isSlow_30 : decode cX9_isSlow 30 = .ok (.iadd, 1) := by decide +kernel
theorem dX9_isSlow_31 : decode cX9_isSlow 31 = .ok (.dup2, 1) := by decide +kernel
theorem dX9_isSlow_32 : decode cX9_isSlow 32 = .ok (.iaload, 1) := by decide +kernel
theorem dX9_isSlow_33 : decode cX9_isSlow 33 = .ok (.iload 5, 2) := by decide +kernel
theorem dX9_isSlow_35 : decode cX9_isSlow 35 = .ok (.iload_n 3, 1) := by decide +kernel
theorem dX9_isSlow_36 : decode cX9_isSlow 36 = .ok (.irem, 1) := by decide +kernel
theorem dX9_isSlow_37 : decode cX9_isSlow 37 = .ok (.ifCond .ne 19, 3) := by decide +kernel
theorem dX9_isSlow_40 : decode cX9_isSlow 40 = .ok (.aload_n 0, 1) := by decide +kernel
theorem dX9_isSlow_41 : decode cX9_isSlow 41 = .ok (.getfield 91, 3) := by decide +kernel
theorem dX9_isSlow_44 : decode cX9_isSlow 44 = .ok (.bipush 8, 2) := by decide +kernel
theorem dX9_isSlow_46 : decode cX9_isSlow 46 = .ok (.iload_n 1, 1) := by decide +kernel
theorem dX9_isSlow_47 : decode cX9_isSlow 47 = .ok (.iadd, 1) := by decide +kernel
theorem dX9_isSlow_48 : decode cX9_isSlow 48 = .ok (.iaload, 1) := by decide +kernel
theorem dX9_isSlow_49 : decode cX9_isSlow 49 = .ok (.ifCond .le 7, 3) := by decide +kernel
theorem dX9_isSlow_52 : decode cX9_isSlow 52 = .ok (.iconst 1, 1) := by decide +kernel
theorem dX9_isSlow_53 : decode cX9_isSlow 53 = .ok (.goto 4, 3) := by decide +kernel
theorem dX9_isSlow_56 : decode cX9_isSlow 56 = .ok (.iconst 0, 1) := by decide +kernel
theorem dX9_isSlow_57 : decode cX9_isSlow 57 = .ok (.isub, 1) := by decide +kernel
theorem dX9_isSlow_58 : decode cX9_isSlow 58 = .ok (.iastore, 1) := by decide +kernel
theorem dX9_isSlow_59 : decode cX9_isSlow 59 = .ok (.aload_n 0, 1) := by decide +kernel
theorem dX9_isSlow_60 : decode cX9_isSlow 60 = .ok (.iconst 1, 1) := by decide +kernel
theorem dX9_isSlow_61 : decode cX9_isSlow 61 = .ok (.iconst 0, 1) := by decide +kernel
theorem dX9_isSlow_62 : decode cX9_isSlow 62 = .ok (.invokevirtual 224, 3) := by decide +kernel
theorem dX9_isSlow_65 : decode cX9_isSlow 65 = .ok (.iload 4, 2) := by decide +kernel
theorem dX9_isSlow_67 : decode cX9_isSlow 67 = .ok (.ifCond .eq 15, 3) := by decide +kernel
theorem dX9_isSlow_70 : decode cX9_isSlow 70 = .ok (.aload_n 0, 1) := by decide +kernel
theorem dX9_isSlow_71 : decode cX9_isSlow 71 = .ok (.getfield 211, 3) := by decide +kernel
theorem dX9_isSlow_74 : decode cX9_isSlow 74 = .ok (.iload_n 2, 1) := by decide +kernel
theorem dX9_isSlow_75 : decode cX9_isSlow 75 = .ok (.if_icmp .gt 7, 3) := by decide +kernel
theorem dX9_isSlow_78 : decode cX9_isSlow 78 = .ok (.iconst 1, 1) := by decide +kernel
theorem dX9_isSlow_79 : decode cX9_isSlow 79 = .ok (.goto 4, 3) := by decide +kernel
theorem dX9_isSlow_82 : decode cX9_isSlow 82 = .ok (.iconst 0, 1) := by decide +kernel
theorem dX9_isSlow_83 : decode cX9_isSlow 83 = .ok (.istore 4, 2) := by decide +kernel
theorem dX9_isSlow_85 : decode cX9_isSlow 85 = .ok (.aload_n 0, 1) := by decide +kernel
theorem dX9_isSlow_86 : decode cX9_isSlow 86 = .ok (.aload_n 0, 1) := by decide +kernel
theorem dX9_isSlow_87 : decode cX9_isSlow 87 = .ok (.getfield 287, 3) := by decide +kernel
theorem dX9_isSlow_90 : decode cX9_isSlow 90 = .ok (.ifCond .ge 21, 3) := by decide +kernel
theorem dX9_isSlow_93 : decode cX9_isSlow 93 = .ok (.aload_n 0, 1) := by decide +kernel
theorem dX9_isSlow_94 : decode cX9_isSlow 94 = .ok (.aload_n 0, 1) := by decide +kernel
theorem dX9_isSlow_95 : decode cX9_isSlow 95 = .ok (.getfield 100, 3) := by decide +kernel
theorem dX9_isSlow_98 : decode cX9_isSlow 98 = .ok (.iconst 1, 1) := by decide +kernel
theorem dX9_isSlow_99 : decode cX9_isSlow 99 = .ok (.iaload, 1) := by decide +kernel
theorem dX9_isSlow_100 : decode cX9_isSlow 100 = .ok (.invokevirtual 208, 3) := by decide +kernel
theorem dX9_isSlow_103 : decode cX9_isSlow 103 = .ok (.ifCond .ne 8, 3) := by decide +kernel
theorem dX9_isSlow_106 : decode cX9_isSlow 106 = .ok (.iload 5, 2) := by decide +kernel
theorem dX9_isSlow_108 : decode cX9_isSlow 108 = .ok (.goto 7, 3) := by decide +kernel
theorem dX9_isSlow_111 : decode cX9_isSlow 111 = .ok (.aload_n 0, 1) := by decide +kernel
theorem dX9_isSlow_112 : decode cX9_isSlow 112 = .ok (.getfield 287, 3) := by decide +kernel
theorem dX9_isSlow_115 : decode cX9_isSlow 115 = .ok (.putfield 287, 3) := by decide +kernel
theorem dX9_isSlow_118 : decode cX9_isSlow 118 = .ok (.iinc 5 1, 3) := by decide +kernel
theorem dX9_isSlow_121 : decode cX9_isSlow 121 = .ok (.goto (-105), 3) := by decide +kernel
theorem dX9_isSlow_124 : decode cX9_isSlow 124 = .ok (.iload 4, 2) := by decide +kernel
theorem dX9_isSlow_126 : decode cX9_isSlow 126 = .ok (.ireturn, 1) := by decide +kernel
theorem dX9_slow_0 : decode cX9_slow 0 = .ok (.aload_n 0, 1) := by decide +kernel
theorem dX9_slow_1 : decode cX9_slow 1 = .ok (.iload_n 1, 1) := by decide +kernel
theorem dX9_slow_2 : decode cX9_slow 2 = .ok (.invokevirtual 237, 3) := by decide +kernel
theorem dX9_slow_5 : decode cX9_slow 5 = .ok (.ifCond .eq 25, 3) := by decide +kernel
theorem dX9_slow_8 : decode cX9_slow 8 = .ok (.iload_n 2, 1) := by decide +kernel
theorem dX9_slow_9 : decode cX9_slow 9 = .ok (.i2l, 1) := by decide +kernel
theorem dX9_slow_10 : decode cX9_slow 10 = .ok (.lconst 0, 1) := by decide +kernel
theorem dX9_slow_11 : decode cX9_slow 11 = .ok (.ldc2_w 240, 3) := by decide +kernel
theorem dX9_slow_14 : decode cX9_slow 14 = .ok (.invokestatic 138, 3) := by decide +kernel
theorem dX9_slow_17 : decode cX9_slow 17 = .ok (.ifCond .eq 13, 3) := by decide +kernel
theorem dX9_slow_20 : decode cX9_slow 20 = .ok (.iload_n 3, 1) := by decide +kernel
theorem dX9_slow_21 : decode cX9_slow 21 = .ok (.i2l, 1) := by decide +kernel
theorem dX9_slow_22 : decode cX9_slow 22 = .ok (.lconst 0, 1) := by decide +kernel
theorem dX9_slow_23 : decode cX9_slow 23 = .ok (.lconst 1, 1) := by decide +kernel
theorem dX9_slow_24 : decode cX9_slow 24 = .ok (.invokestatic 138, 3) := by decide +kernel
theorem dX9_slow_27 : decode cX9_slow 27 = .ok (.ifCond .ne 5, 3) := by decide +kernel
theorem dX9_slow_30 : decode cX9_slow 30 = .ok (.iconst (-1), 1) := by decide +kernel
theorem dX9_slow_31 : decode cX9_slow 31 = .ok (.ireturn, 1) := by decide +kernel
theorem dX9_slow_32 : decode cX9_slow 32 = .ok (.iconst 1, 1) := by decide +kernel
theorem dX9_slow_33 : decode cX9_slow 33 = .ok (.istore 4, 2) := by decide +kernel
theorem dX9_slow_35 : decode cX9_slow 35 = .ok (.iload 4, 2) := by decide +kernel
theorem dX9_slow_37 : decode cX9_slow 37 = .ok (.bipush 9, 2) := by decide +kernel
theorem dX9_slow_39 : decode cX9_slow 39 = .ok (.if_icmp .gt 34, 3) := by decide +kernel
theorem dX9_slow_42 : decode cX9_slow 42 = .ok (.aload_n 0, 1) := by decide +kernel
theorem dX9_slow_43 : decode cX9_slow 43 = .ok (.iload_n 1, 1) := by decide +kernel
theorem dX9_slow_44 : decode cX9_slow 44 = .ok (.iload_n 2, 1) := by decide +kernel
theorem dX9_slow_45 : decode cX9_slow 45 = .ok (.iload 4, 2) := by decide +kernel
theorem dX9_slow_47 : decode cX9_slow 47 = .ok (.invokevirtual 290, 3) := by decide +kernel
theorem dX9_slow_50 : decode cX9_slow 50 = .ok (.ifCond .eq 17, 3) := by decide +kernel
theorem dX9_slow_53 : decode cX9_slow 53 = .ok (.iload_n 3, 1) := by decide +kernel
theorem dX9_slow_54 : decode cX9_slow 54 = .ok (.ifCond .ne 8, 3) := by decide +kernel
theorem dX9_slow_57 : decode cX9_slow 57 = .ok (.iload 4, 2) := by decide +kernel
theorem dX9_slow_59 : decode cX9_slow 59 = .ok (.goto 7, 3) := by decide +kernel
theorem dX9_slow_62 : decode cX9_slow 62 = .ok (.aload_n 0, 1) := by decide +kernel
theorem dX9_slow_63 : decode cX9_slow 63 = .ok (.getfield 287, 3) := by decide +kernel
theorem dX9_slow_66 : decode cX9_slow 66 = .ok (.ireturn, 1) := by decide +kernel
theorem dX9_slow_67 : decode cX9_slow 67 = .ok (.iinc 4 1, 3) := by decide +kernel
theorem dX9_slow_70 : decode cX9_slow 70 = .ok (.goto (-35), 3) := by decide +kernel
theorem dX9_slow_73 : decode cX9_slow 73 = .ok (.bipush (-4), 2) := by decide +kernel
theorem dX9_slow_75 : decode cX9_slow 75 = .ok (.ireturn, 1) := by decide +kernel
theorem dX9_fill_0 : decode cX9_fill 0 = .ok (.iload_n 1, 1) := by decide +kernel
theorem dX9_fill_1 : decode cX9_fill 1 = .ok (.i2l, 1) := by decide +kernel
theorem dX9_fill_2 : decode cX9_fill 2 = .ok (.lconst 1, 1) := by decide +kernel
theorem dX9_fill_3 : decode cX9_fill 3 = .ok (.ldc2_w 293, 3) := by decide +kernel
theorem dX9_fill_6 : decode cX9_fill 6 = .ok (.invokestatic 138, 3) := by decide +kernel
theorem dX9_fill_9 : decode cX9_fill 9 = .ok (.ifCond .ne 5, 3) := by decide +kernel
theorem dX9_fill_12 : decode cX9_fill 12 = .ok (.iconst (-1), 1) := by decide +kernel
theorem dX9_fill_13 : decode cX9_fill 13 = .ok (.ireturn, 1) := by decide +kernel
theorem dX9_fill_14 : decode cX9_fill 14 = .ok (.aload_n 0, 1) := by decide +kernel
theorem dX9_fill_15 : decode cX9_fill 15 = .ok (.invokevirtual 254, 3) := by decide +kernel
theorem dX9_fill_18 : decode cX9_fill 18 = .ok (.aload_n 0, 1) := by decide +kernel
theorem dX9_fill_19 : decode cX9_fill 19 = .ok (.getfield 100, 3) := by decide +kernel
theorem dX9_fill_22 : decode cX9_fill 22 = .ok (.iconst 1, 1) := by decide +kernel
theorem dX9_fill_23 : decode cX9_fill 23 = .ok (.iconst 0, 1) := by decide +kernel
theorem dX9_fill_24 : decode cX9_fill 24 = .ok (.iastore, 1) := by decide +kernel
theorem dX9_fill_25 : decode cX9_fill 25 = .ok (.iconst 1, 1) := by decide +kernel
theorem dX9_fill_26 : decode cX9_fill 26 = .ok (.istore_n 2, 1) := by decide +kernel
theorem dX9_fill_27 : decode cX9_fill 27 = .ok (.iload_n 2, 1) := by decide +kernel
theorem dX9_fill_28 : decode cX9_fill 28 = .ok (.sipush 200, 3) := by decide +kernel
theorem dX9_fill_31 : decode cX9_fill 31 = .ok (.if_icmp .gt 31, 3) := by decide +kernel
theorem dX9_fill_34 : decode cX9_fill 34 = .ok (.aload_n 0, 1) := by decide +kernel
theorem dX9_fill_35 : decode cX9_fill 35 = .ok (.iconst 1, 1) := by decide +kernel
theorem dX9_fill_36 : decode cX9_fill 36 = .ok (.iconst 0, 1) := by decide +kernel
theorem dX9_fill_37 : decode cX9_fill 37 = .ok (.invokevirtual 224, 3) := by decide +kernel
theorem dX9_fill_40 : decode cX9_fill 40 = .ok (.aload_n 0, 1) := by decide +kernel
theorem dX9_fill_41 : decode cX9_fill 41 = .ok (.aload_n 0, 1) := by decide +kernel
theorem dX9_fill_42 : decode cX9_fill 42 = .ok (.getfield 100, 3) := by decide +kernel
theorem dX9_fill_45 : decode cX9_fill 45 = .ok (.iconst 1, 1) := by decide +kernel
theorem dX9_fill_46 : decode cX9_fill 46 = .ok (.iaload, 1) := by decide +kernel
theorem dX9_fill_47 : decode cX9_fill 47 = .ok (.invokevirtual 208, 3) := by decide +kernel
theorem dX9_fill_50 : decode cX9_fill 50 = .ok (.iload_n 1, 1) := by decide +kernel
theorem dX9_fill_51 : decode cX9_fill 51 = .ok (.if_icmp .lt 5, 3) := by decide +kernel
theorem dX9_fill_54 : decode cX9_fill 54 = .ok (.iload_n 2, 1) := by decide +kernel
theorem dX9_fill_55 : decode cX9_fill 55 = .ok (.ireturn, 1) := by decide +kernel
theorem dX9_fill_56 : decode cX9_fill 56 = .ok (.iinc 2 1, 3) := by decide +kernel
theorem dX9_fill_59 : decode cX9_fill 59 = .ok (.goto (-32), 3) := by decide +kernel
theorem dX9_fill_62 : decode cX9_fill 62 = .ok (.bipush (-4), 2) := by decide +kernel
theorem dX9_fill_64 : decode cX9_fill 64 = .ok (.ireturn, 1) := by decide +kernel
theorem dX9_trodden_0 : decode cX9_trodden 0 = .ok (.aload_n 0, 1) := by decide +kernel
theorem dX9_trodden_1 : decode cX9_trodden 1 = .ok (.iload_n 1, 1) := by decide +kernel
theorem dX9_trodden_2 : decode cX9_trodden 2 = .ok (.invokevirtual 237, 3) := by decide +kernel
theorem dX9_trodden_5 : decode cX9_trodden 5 = .ok (.ifCond .eq 15, 3) := by decide +kernel
theorem dX9_trodden_8 : decode cX9_trodden 8 = .ok (.iload_n 2, 1) := by decide +kernel
theorem dX9_trodden_9 : decode cX9_trodden 9 = .ok (.i2l, 1) := by decide +kernel
theorem dX9_trodden_10 : decode cX9_trodden 10 = .ok (.lconst 1, 1) := by decide +kernel
theorem dX9_trodden_11 : decode cX9_trodden 11 = .ok (.ldc2_w 244, 3) := by decide +kernel
theorem dX9_trodden_14 : decode cX9_trodden 14 = .ok (.invokestatic 138, 3) := by decide +kernel
theorem dX9_trodden_17 : decode cX9_trodden 17 = .ok (.ifCond .ne 5, 3) := by decide +kernel
theorem dX9_trodden_20 : decode cX9_trodden 20 = .ok (.iconst (-1), 1) := by decide +kernel
theorem dX9_trodden_21 : decode cX9_trodden 21 = .ok (.ireturn, 1) := by decide +kernel
theorem dX9_trodden_22 : decode cX9_trodden 22 = .ok (.aload_n 0, 1) := by decide +kernel
theorem dX9_trodden_23 : decode cX9_trodden 23 = .ok (.getfield 91, 3) := by decide +kernel
theorem dX9_trodden_26 : decode cX9_trodden 26 = .ok (.iload_n 1, 1) := by decide +kernel
theorem dX9_trodden_27 : decode cX9_trodden 27 = .ok (.iaload, 1) := by decide +kernel
theorem dX9_trodden_28 : decode cX9_trodden 28 = .ok (.iload_n 2, 1) := by decide +kernel
theorem dX9_trodden_29 : decode cX9_trodden 29 = .ok (.iadd, 1) := by decide +kernel
theorem dX9_trodden_30 : decode cX9_trodden 30 = .ok (.bipush 40, 2) := by decide +kernel
theorem dX9_trodden_32 : decode cX9_trodden 32 = .ok (.if_icmp .le 6, 3) := by decide +kernel
theorem dX9_trodden_35 : decode cX9_trodden 35 = .ok (.bipush (-2), 2) := by decide +kernel
theorem dX9_trodden_37 : decode cX9_trodden 37 = .ok (.ireturn, 1) := by decide +kernel
theorem dX9_trodden_38 : decode cX9_trodden 38 = .ok (.aload_n 0, 1) := by decide +kernel
theorem dX9_trodden_39 : decode cX9_trodden 39 = .ok (.invokevirtual 254, 3) := by decide +kernel
theorem dX9_trodden_42 : decode cX9_trodden 42 = .ok (.aload_n 0, 1) := by decide +kernel
theorem dX9_trodden_43 : decode cX9_trodden 43 = .ok (.invokevirtual 266, 3) := by decide +kernel
theorem dX9_trodden_46 : decode cX9_trodden 46 = .ok (.istore_n 3, 1) := by decide +kernel
theorem dX9_trodden_47 : decode cX9_trodden 47 = .ok (.iload_n 3, 1) := by decide +kernel
theorem dX9_trodden_48 : decode cX9_trodden 48 = .ok (.ifCond .ge 6, 3) := by decide +kernel
theorem dX9_trodden_51 : decode cX9_trodden 51 = .ok (.bipush (-4), 2) := by decide +kernel
theorem dX9_trodden_53 : decode cX9_trodden 53 = .ok (.ireturn, 1) := by decide +kernel
theorem dX9_trodden_54 : decode cX9_trodden 54 = .ok (.aload_n 0, 1) := by decide +kernel
theorem dX9_trodden_55 : decode cX9_trodden 55 = .ok (.invokevirtual 254, 3) := by decide +kernel
theorem dX9_trodden_58 : decode cX9_trodden 58 = .ok (.aload_n 0, 1) := by decide +kernel
theorem dX9_trodden_59 : decode cX9_trodden 59 = .ok (.getfield 91, 3) := by decide +kernel
theorem dX9_trodden_62 : decode cX9_trodden 62 = .ok (.bipush 8, 2) := by decide +kernel
theorem dX9_trodden_64 : decode cX9_trodden 64 = .ok (.iload_n 1, 1) := by decide +kernel
theorem dX9_trodden_65 : decode cX9_trodden 65 = .ok (.iadd, 1) := by decide +kernel
theorem dX9_trodden_66 : decode cX9_trodden 66 = .ok (.dup2, 1) := by decide +kernel
theorem dX9_trodden_67 : decode cX9_trodden 67 = .ok (.iaload, 1) := by decide +kernel
theorem dX9_trodden_68 : decode cX9_trodden 68 = .ok (.iload_n 2, 1) := by decide +kernel
theorem dX9_trodden_69 : decode cX9_trodden 69 = .ok (.iadd, 1) := by decide +kernel
theorem dX9_trodden_70 : decode cX9_trodden 70 = .ok (.iastore, 1) := by decide +kernel
theorem dX9_trodden_71 : decode cX9_trodden 71 = .ok (.aload_n 0, 1) := by decide +kernel
theorem dX9_trodden_72 : decode cX9_trodden 72 = .ok (.invokevirtual 266, 3) := by decide +kernel
theorem dX9_trodden_75 : decode cX9_trodden 75 = .ok (.istore 4, 2) := by decide +kernel
theorem dX9_trodden_77 : decode cX9_trodden 77 = .ok (.iload 4, 2) := by decide +kernel
theorem dX9_trodden_79 : decode cX9_trodden 79 = .ok (.ifCond .ge 9, 3) := by decide +kernel
theorem dX9_trodden_82 : decode cX9_trodden 82 = .ok (.sipush 200, 3) := by decide +kernel
theorem dX9_trodden_85 : decode cX9_trodden 85 = .ok (.goto 5, 3) := by decide +kernel
theorem dX9_trodden_88 : decode cX9_trodden 88 = .ok (.iload 4, 2) := by decide +kernel
theorem dX9_trodden_90 : decode cX9_trodden 90 = .ok (.iload_n 3, 1) := by decide +kernel
theorem dX9_trodden_91 : decode cX9_trodden 91 = .ok (.isub, 1) := by decide +kernel
theorem dX9_trodden_92 : decode cX9_trodden 92 = .ok (.sipush 200, 3) := by decide +kernel
theorem dX9_trodden_95 : decode cX9_trodden 95 = .ok (.iadd, 1) := by decide +kernel
theorem dX9_trodden_96 : decode cX9_trodden 96 = .ok (.ireturn, 1) := by decide +kernel
theorem dX9_breaches_0 : decode cX9_breaches 0 = .ok (.iconst 0, 1) := by decide +kernel
theorem dX9_breaches_1 : decode cX9_breaches 1 = .ok (.istore_n 2, 1) := by decide +kernel
theorem dX9_breaches_2 : decode cX9_breaches 2 = .ok (.iconst 0, 1) := by decide +kernel
theorem dX9_breaches_3 : decode cX9_breaches 3 = .ok (.istore_n 3, 1) := by decide +kernel
theorem dX9_breaches_4 : decode cX9_breaches 4 = .ok (.iload_n 3, 1) := by decide +kernel
theorem dX9_breaches_5 : decode cX9_breaches 5 = .ok (.aload_n 0, 1) := by decide +kernel
theorem dX9_breaches_6 : decode cX9_breaches 6 = .ok (.getfield 13, 3) := by decide +kernel
theorem dX9_breaches_9 : decode cX9_breaches 9 = .ok (.iconst 0, 1) := by decide +kernel
theorem dX9_breaches_10 : decode cX9_breaches 10 = .ok (.iaload, 1) := by decide +kernel
theorem dX9_breaches_11 : decode cX9_breaches 11 = .ok (.if_icmp .ge 23, 3) := by decide +kernel
theorem dX9_breaches_14 : decode cX9_breaches 14 = .ok (.iload_n 2, 1) := by decide +kernel
theorem dX9_breaches_15 : decode cX9_breaches 15 = .ok (.aload_n 0, 1) := by decide +kernel
theorem dX9_breaches_16 : decode cX9_breaches 16 = .ok (.getfield 97, 3) := by decide +kernel
theorem dX9_breaches_19 : decode cX9_breaches 19 = .ok (.bipush 8, 2) := by decide +kernel
theorem dX9_breaches_21 : decode cX9_breaches 21 = .ok (.iload_n 1, 1) := by decide +kernel
theorem dX9_breaches_22 : decode cX9_breaches 22 = .ok (.imul, 1) := by decide +kernel
theorem dX9_breaches_23 : decode cX9_breaches 23 = .ok (.iload_n 3, 1) := by decide +kernel
theorem dX9_breaches_24 : decode cX9_breaches 24 = .ok (.iadd, 1) := by decide +kernel
theorem dX9_breaches_25 : decode cX9_breaches 25 = .ok (.iaload, 1) := by decide +kernel
theorem dX9_breaches_26 : decode cX9_breaches 26 = .ok (.iadd, 1) := by decide +kernel
theorem dX9_breaches_27 : decode cX9_breaches 27 = .ok (.istore_n 2, 1) := by decide +kernel
theorem dX9_breaches_28 : decode cX9_breaches 28 = .ok (.iinc 3 1, 3) := by decide +kernel
theorem dX9_breaches_31 : decode cX9_breaches 31 = .ok (.goto (-27), 3) := by decide +kernel
theorem dX9_breaches_34 : decode cX9_breaches 34 = .ok (.iload_n 2, 1) := by decide +kernel
theorem dX9_breaches_35 : decode cX9_breaches 35 = .ok (.ireturn, 1) := by decide +kernel
theorem dX9_blame_0 : decode cX9_blame 0 = .ok (.aload_n 0, 1) := by decide +kernel
theorem dX9_blame_1 : decode cX9_blame 1 = .ok (.iconst 0, 1) := by decide +kernel
theorem dX9_blame_2 : decode cX9_blame 2 = .ok (.invokevirtual 295, 3) := by decide +kernel
theorem dX9_blame_5 : decode cX9_blame 5 = .ok (.ifCond .ne 6, 3) := by decide +kernel
theorem dX9_blame_8 : decode cX9_blame 8 = .ok (.bipush (-4), 2) := by decide +kernel
theorem dX9_blame_10 : decode cX9_blame 10 = .ok (.ireturn, 1) := by decide +kernel
theorem dX9_blame_11 : decode cX9_blame 11 = .ok (.iconst 0, 1) := by decide +kernel
theorem dX9_blame_12 : decode cX9_blame 12 = .ok (.istore_n 1, 1) := by decide +kernel
theorem dX9_blame_13 : decode cX9_blame 13 = .ok (.iload_n 1, 1) := by decide +kernel
theorem dX9_blame_14 : decode cX9_blame 14 = .ok (.aload_n 0, 1) := by decide +kernel
theorem dX9_blame_15 : decode cX9_blame 15 = .ok (.getfield 67, 3) := by decide +kernel
theorem dX9_blame_18 : decode cX9_blame 18 = .ok (.iconst 0, 1) := by decide +kernel
theorem dX9_blame_19 : decode cX9_blame 19 = .ok (.iaload, 1) := by decide +kernel
theorem dX9_blame_20 : decode cX9_blame 20 = .ok (.if_icmp .ge 25, 3) := by decide +kernel
theorem dX9_blame_23 : decode cX9_blame 23 = .ok (.aload_n 0, 1) := by decide +kernel
theorem dX9_blame_24 : decode cX9_blame 24 = .ok (.iconst 1, 1) := by decide +kernel
theorem dX9_blame_25 : decode cX9_blame 25 = .ok (.iload_n 1, 1) := by decide +kernel
theorem dX9_blame_26 : decode cX9_blame 26 = .ok (.invokevirtual 234, 3) := by decide +kernel
theorem dX9_blame_29 : decode cX9_blame 29 = .ok (.aload_n 0, 1) := by decide +kernel
theorem dX9_blame_30 : decode cX9_blame 30 = .ok (.iconst 1, 1) := by decide +kernel
theorem dX9_blame_31 : decode cX9_blame 31 = .ok (.invokevirtual 295, 3) := by decide +kernel
theorem dX9_blame_34 : decode cX9_blame 34 = .ok (.ifCond .ne 5, 3) := by decide +kernel
theorem dX9_blame_37 : decode cX9_blame 37 = .ok (.iload_n 1, 1) := by decide +kernel
theorem dX9_blame_38 : decode cX9_blame 38 = .ok (.ireturn, 1) := by decide +kernel
theorem dX9_blame_39 : decode cX9_blame 39 = .ok (.iinc 1 1, 3) := by decide +kernel
theorem dX9_blame_42 : decode cX9_blame 42 = .ok (.goto (-29), 3) := by decide +kernel
theorem dX9_blame_45 : decode cX9_blame 45 = .ok (.bipush (-4), 2) := by decide +kernel
theorem dX9_blame_47 : decode cX9_blame 47 = .ok (.ireturn, 1) := by decide +kernel
theorem dX9_seen_0 : decode cX9_seen 0 = .ok (.iload_n 1, 1) := by decide +kernel
theorem dX9_seen_1 : decode cX9_seen 1 = .ok (.i2l, 1) := by decide +kernel
theorem dX9_seen_2 : decode cX9_seen 2 = .ok (.lconst 0, 1) := by decide +kernel
theorem dX9_seen_3 : decode cX9_seen 3 = .ok (.ldc2_w 250, 3) := by decide +kernel
theorem dX9_seen_6 : decode cX9_seen 6 = .ok (.invokestatic 138, 3) := by decide +kernel
theorem dX9_seen_9 : decode cX9_seen 9 = .ok (.ifCond .eq 15, 3) := by decide +kernel
theorem dX9_seen_12 : decode cX9_seen 12 = .ok (.iload_n 2, 1) := by decide +kernel
theorem dX9_seen_13 : decode cX9_seen 13 = .ok (.i2l, 1) := by decide +kernel
theorem dX9_seen_14 : decode cX9_seen 14 = .ok (.lconst 1, 1) := by decide +kernel
theorem dX9_seen_15 : decode cX9_seen 15 = .ok (.ldc2_w 298, 3) := by decide +kernel
theorem dX9_seen_18 : decode cX9_seen 18 = .ok (.invokestatic 138, 3) := by decide +kernel
theorem dX9_seen_21 : decode cX9_seen 21 = .ok (.ifCond .ne 5, 3) := by decide +kernel
theorem dX9_seen_24 : decode cX9_seen 24 = .ok (.iconst (-1), 1) := by decide +kernel
theorem dX9_seen_25 : decode cX9_seen 25 = .ok (.ireturn, 1) := by decide +kernel
theorem dX9_seen_26 : decode cX9_seen 26 = .ok (.aload_n 0, 1) := by decide +kernel
theorem dX9_seen_27 : decode cX9_seen 27 = .ok (.getfield 193, 3) := by decide +kernel
theorem dX9_seen_30 : decode cX9_seen 30 = .ok (.bipush 8, 2) := by decide +kernel
theorem dX9_seen_32 : decode cX9_seen 32 = .ok (.if_icmp .ne 6, 3) := by decide +kernel
theorem dX9_seen_35 : decode cX9_seen 35 = .ok (.bipush (-3), 2) := by decide +kernel
theorem dX9_seen_37 : decode cX9_seen 37 = .ok (.ireturn, 1) := by decide +kernel
theorem dX9_seen_38 : decode cX9_seen 38 = .ok (.aload_n 0, 1) := by decide +kernel
theorem dX9_seen_39 : decode cX9_seen 39 = .ok (.getfield 82, 3) := by decide +kernel
theorem dX9_seen_42 : decode cX9_seen 42 = .ok (.aload_n 0, 1) := by decide +kernel
theorem dX9_seen_43 : decode cX9_seen 43 = .ok (.getfield 193, 3) := by decide +kernel
theorem dX9_seen_46 : decode cX9_seen 46 = .ok (.iload_n 1, 1) := by decide +kernel
theorem dX9_seen_47 : decode cX9_seen 47 = .ok (.iastore, 1) := by decide +kernel
theorem dX9_seen_48 : decode cX9_seen 48 = .ok (.aload_n 0, 1) := by decide +kernel
theorem dX9_seen_49 : decode cX9_seen 49 = .ok (.getfield 85, 3) := by decide +kernel
theorem dX9_seen_52 : decode cX9_seen 52 = .ok (.aload_n 0, 1) := by decide +kernel
theorem dX9_seen_53 : decode cX9_seen 53 = .ok (.getfield 193, 3) := by decide +kernel
theorem dX9_seen_56 : decode cX9_seen 56 = .ok (.iload_n 2, 1) := by decide +kernel
theorem dX9_seen_57 : decode cX9_seen 57 = .ok (.iastore, 1) := by decide +kernel
theorem dX9_seen_58 : decode cX9_seen 58 = .ok (.aload_n 0, 1) := by decide +kernel
theorem dX9_seen_59 : decode cX9_seen 59 = .ok (.dup, 1) := by decide +kernel
theorem dX9_seen_60 : decode cX9_seen 60 = .ok (.getfield 193, 3) := by decide +kernel
theorem dX9_seen_63 : decode cX9_seen 63 = .ok (.iconst 1, 1) := by decide +kernel
theorem dX9_seen_64 : decode cX9_seen 64 = .ok (.iadd, 1) := by decide +kernel
theorem dX9_seen_65 : decode cX9_seen 65 = .ok (.putfield 193, 3) := by decide +kernel
theorem dX9_seen_68 : decode cX9_seen 68 = .ok (.aload_n 0, 1) := by decide +kernel
theorem dX9_seen_69 : decode cX9_seen 69 = .ok (.getfield 193, 3) := by decide +kernel
theorem dX9_seen_72 : decode cX9_seen 72 = .ok (.ireturn, 1) := by decide +kernel
theorem dX9_forget_0 : decode cX9_forget 0 = .ok (.aload_n 0, 1) := by decide +kernel
theorem dX9_forget_1 : decode cX9_forget 1 = .ok (.getfield 193, 3) := by decide +kernel
theorem dX9_forget_4 : decode cX9_forget 4 = .ok (.istore_n 1, 1) := by decide +kernel
theorem dX9_forget_5 : decode cX9_forget 5 = .ok (.aload_n 0, 1) := by decide +kernel
theorem dX9_forget_6 : decode cX9_forget 6 = .ok (.iconst 0, 1) := by decide +kernel
theorem dX9_forget_7 : decode cX9_forget 7 = .ok (.putfield 193, 3) := by decide +kernel
theorem dX9_forget_10 : decode cX9_forget 10 = .ok (.iload_n 1, 1) := by decide +kernel
theorem dX9_forget_11 : decode cX9_forget 11 = .ok (.ireturn, 1) := by decide +kernel
theorem dX9_flows_0 : decode cX9_flows 0 = .ok (.iconst 0, 1) := by decide +kernel
theorem dX9_flows_1 : decode cX9_flows 1 = .ok (.istore_n 1, 1) := by decide +kernel
theorem dX9_flows_2 : decode cX9_flows 2 = .ok (.iconst 0, 1) := by decide +kernel
theorem dX9_flows_3 : decode cX9_flows 3 = .ok (.istore_n 2, 1) := by decide +kernel
theorem dX9_flows_4 : decode cX9_flows 4 = .ok (.iload_n 2, 1) := by decide +kernel
theorem dX9_flows_5 : decode cX9_flows 5 = .ok (.bipush 30, 2) := by decide +kernel
theorem dX9_flows_7 : decode cX9_flows 7 = .ok (.if_icmp .gt 76, 3) := by decide +kernel
theorem dX9_flows_10 : decode cX9_flows 10 = .ok (.iconst 1, 1) := by decide +kernel
theorem dX9_flows_11 : decode cX9_flows 11 = .ok (.istore_n 3, 1) := by decide +kernel
theorem dX9_flows_12 : decode cX9_flows 12 = .ok (.iconst 0, 1) := by decide +kernel
theorem dX9_flows_13 : decode cX9_flows 13 = .ok (.istore 4, 2) := by decide +kernel
theorem dX9_flows_15 : decode cX9_flows 15 = .ok (.iload 4, 2) := by decide +kernel
theorem dX9_flows_17 : decode cX9_flows 17 = .ok (.aload_n 0, 1) := by decide +kernel
theorem dX9_flows_18 : decode cX9_flows 18 = .ok (.getfield 193, 3) := by decide +kernel
theorem dX9_flows_21 : decode cX9_flows 21 = .ok (.if_icmp .ge 42, 3) := by decide +kernel
theorem dX9_flows_24 : decode cX9_flows 24 = .ok (.iload_n 3, 1) := by decide +kernel
theorem dX9_flows_25 : decode cX9_flows 25 = .ok (.ifCond .eq 30, 3) := by decide +kernel
theorem dX9_flows_28 : decode cX9_flows 28 = .ok (.aload_n 0, 1) := by decide +kernel
theorem dX9_flows_29 : decode cX9_flows 29 = .ok (.iload_n 2, 1) := by decide +kernel
theorem dX9_flows_30 : decode cX9_flows 30 = .ok (.aload_n 0, 1) := by decide +kernel
theorem dX9_flows_31 : decode cX9_flows 31 = .ok (.getfield 85, 3) := by decide +kernel
theorem dX9_flows_34 : decode cX9_flows 34 = .ok (.iload 4, 2) := by decide +kernel
theorem dX9_flows_36 : decode cX9_flows 36 = .ok (.iaload, 1) := by decide +kernel
theorem dX9_flows_37 : decode cX9_flows 37 = .ok (.imul, 1) := by decide +kernel
theorem dX9_flows_38 : decode cX9_flows 38 = .ok (.invokevirtual 208, 3) := by decide +kernel
theorem dX9_flows_41 : decode cX9_flows 41 = .ok (.aload_n 0, 1) := by decide +kernel
theorem dX9_flows_42 : decode cX9_flows 42 = .ok (.getfield 82, 3) := by decide +kernel
theorem dX9_flows_45 : decode cX9_flows 45 = .ok (.iload 4, 2) := by decide +kernel
theorem dX9_flows_47 : decode cX9_flows 47 = .ok (.iaload, 1) := by decide +kernel
theorem dX9_flows_48 : decode cX9_flows 48 = .ok (.if_icmp .ne 7, 3) := by decide +kernel
theorem dX9_flows_51 : decode cX9_flows 51 = .ok (.iconst 1, 1) := by decide +kernel
theorem dX9_flows_52 : decode cX9_flows 52 = .ok (.goto 4, 3) := by decide +kernel
theorem dX9_flows_55 : decode cX9_flows 55 = .ok (.iconst 0, 1) := by decide +kernel
theorem dX9_flows_56 : decode cX9_flows 56 = .ok (.istore_n 3, 1) := by decide +kernel
theorem dX9_flows_57 : decode cX9_flows 57 = .ok (.iinc 4 1, 3) := by decide +kernel
theorem dX9_flows_60 : decode cX9_flows 60 = .ok (.goto (-45), 3) := by decide +kernel
theorem dX9_flows_63 : decode cX9_flows 63 = .ok (.iload_n 1, 1) := by decide +kernel
theorem dX9_flows_64 : decode cX9_flows 64 = .ok (.iload_n 3, 1) := by decide +kernel
theorem dX9_flows_65 : decode cX9_flows 65 = .ok (.ifCond .eq 9, 3) := by decide +kernel
theorem dX9_flows_68 : decode cX9_flows 68 = .ok (.iconst 1, 1) := by decide +kernel
theorem dX9_flows_69 : decode cX9_flows 69 = .ok (.iload_n 2, 1) := by decide +kernel
theorem dX9_flows_70 : decode cX9_flows 70 = .ok (.ishl, 1) := by decide +kernel
theorem dX9_flows_71 : decode cX9_flows 71 = .ok (.goto 4, 3) := by decide +kernel
theorem dX9_flows_74 : decode cX9_flows 74 = .ok (.iconst 0, 1) := by decide +kernel
theorem dX9_flows_75 : decode cX9_flows 75 = .ok (.ior, 1) := by decide +kernel
theorem dX9_flows_76 : decode cX9_flows 76 = .ok (.istore_n 1, 1) := by decide +kernel
theorem dX9_flows_77 : decode cX9_flows 77 = .ok (.iinc 2 1, 3) := by decide +kernel
theorem dX9_flows_80 : decode cX9_flows 80 = .ok (.goto (-76), 3) := by decide +kernel
theorem dX9_flows_83 : decode cX9_flows 83 = .ok (.iload_n 1, 1) := by decide +kernel
theorem dX9_flows_84 : decode cX9_flows 84 = .ok (.ireturn, 1) := by decide +kernel
theorem dX9_holds_0 : decode cX9_holds 0 = .ok (.aload_n 0, 1) := by decide +kernel
theorem dX9_holds_1 : decode cX9_holds 1 = .ok (.invokevirtual 254, 3) := by decide +kernel
theorem dX9_holds_4 : decode cX9_holds 4 = .ok (.iconst 1, 1) := by decide +kernel
theorem dX9_holds_5 : decode cX9_holds 5 = .ok (.istore 4, 2) := by decide +kernel
theorem dX9_holds_7 : decode cX9_holds 7 = .ok (.iconst 0, 1) := by decide +kernel
theorem dX9_holds_8 : decode cX9_holds 8 = .ok (.istore 5, 2) := by decide +kernel
theorem dX9_holds_10 : decode cX9_holds 10 = .ok (.iload 5, 2) := by decide +kernel
theorem dX9_holds_12 : decode cX9_holds 12 = .ok (.bipush 10, 2) := by decide +kernel
theorem dX9_holds_14 : decode cX9_holds 14 = .ok (.iload_n 1, 1) := by decide +kernel
theorem dX9_holds_15 : decode cX9_holds 15 = .ok (.imul, 1) := by decide +kernel
theorem dX9_holds_16 : decode cX9_holds 16 = .ok (.if_icmp .ge 51, 3) := by decide +kernel
theorem dX9_holds_19 : decode cX9_holds 19 = .ok (.aload_n 0, 1) := by decide +kernel
theorem dX9_holds_20 : decode cX9_holds 20 = .ok (.iconst 1, 1) := by decide +kernel
theorem dX9_holds_21 : decode cX9_holds 21 = .ok (.iload_n 3, 1) := by decide +kernel
theorem dX9_holds_22 : decode cX9_holds 22 = .ok (.iload 5, 2) := by decide +kernel
theorem dX9_holds_24 : decode cX9_holds 24 = .ok (.bipush 10, 2) := by decide +kernel
theorem dX9_holds_26 : decode cX9_holds 26 = .ok (.idiv, 1) := by decide +kernel
theorem dX9_holds_27 : decode cX9_holds 27 = .ok (.ishr, 1) := by decide +kernel
theorem dX9_holds_28 : decode cX9_holds 28 = .ok (.iconst 1, 1) := by decide +kernel
theorem dX9_holds_29 : decode cX9_holds 29 = .ok (.iand, 1) := by decide +kernel
theorem dX9_holds_30 : decode cX9_holds 30 = .ok (.iconst 1, 1) := by decide +kernel
theorem dX9_holds_31 : decode cX9_holds 31 = .ok (.if_icmp .ne 7, 3) := by decide +kernel
theorem dX9_holds_34 : decode cX9_holds 34 = .ok (.iload_n 2, 1) := by decide +kernel
theorem dX9_holds_35 : decode cX9_holds 35 = .ok (.goto 4, 3) := by decide +kernel
theorem dX9_holds_38 : decode cX9_holds 38 = .ok (.iconst 0, 1) := by decide +kernel
theorem dX9_holds_39 : decode cX9_holds 39 = .ok (.invokevirtual 224, 3) := by decide +kernel
theorem dX9_holds_42 : decode cX9_holds 42 = .ok (.iload 4, 2) := by decide +kernel
theorem dX9_holds_44 : decode cX9_holds 44 = .ok (.ifCond .eq 14, 3) := by decide +kernel
theorem dX9_holds_47 : decode cX9_holds 47 = .ok (.aload_n 0, 1) := by decide +kernel
theorem dX9_holds_48 : decode cX9_holds 48 = .ok (.getfield 202, 3) := by decide +kernel
theorem dX9_holds_51 : decode cX9_holds 51 = .ok (.ifCond .ge 7, 3) := by decide +kernel
theorem dX9_holds_54 : decode cX9_holds 54 = .ok (.iconst 1, 1) := by decide +kernel
theorem dX9_holds_55 : decode cX9_holds 55 = .ok (.goto 4, 3) := by decide +kernel
theorem dX9_holds_58 : decode cX9_holds 58 = .ok (.iconst 0, 1) := by decide +kernel
theorem dX9_holds_59 : decode cX9_holds 59 = .ok (.istore 4, 2) := by decide +kernel
theorem dX9_holds_61 : decode cX9_holds 61 = .ok (.iinc 5 1, 3) := by decide +kernel
theorem dX9_holds_64 : decode cX9_holds 64 = .ok (.goto (-54), 3) := by decide +kernel
theorem dX9_holds_67 : decode cX9_holds 67 = .ok (.iload 4, 2) := by decide +kernel
theorem dX9_holds_69 : decode cX9_holds 69 = .ok (.ireturn, 1) := by decide +kernel
theorem dX9_odds_0 : decode cX9_odds 0 = .ok (.iload_n 1, 1) := by decide +kernel
theorem dX9_odds_1 : decode cX9_odds 1 = .ok (.i2l, 1) := by decide +kernel
theorem dX9_odds_2 : decode cX9_odds 2 = .ok (.lconst 0, 1) := by decide +kernel
theorem dX9_odds_3 : decode cX9_odds 3 = .ok (.ldc2_w 269, 3) := by decide +kernel
theorem dX9_odds_6 : decode cX9_odds 6 = .ok (.invokestatic 138, 3) := by decide +kernel
theorem dX9_odds_9 : decode cX9_odds 9 = .ok (.ifCond .eq 38, 3) := by decide +kernel
theorem dX9_odds_12 : decode cX9_odds 12 = .ok (.iload_n 2, 1) := by decide +kernel
theorem dX9_odds_13 : decode cX9_odds 13 = .ok (.i2l, 1) := by decide +kernel
theorem dX9_odds_14 : decode cX9_odds 14 = .ok (.lconst 0, 1) := by decide +kernel
theorem dX9_odds_15 : decode cX9_odds 15 = .ok (.ldc2_w 163, 3) := by decide +kernel
theorem dX9_odds_18 : decode cX9_odds 18 = .ok (.invokestatic 138, 3) := by decide +kernel
theorem dX9_odds_21 : decode cX9_odds 21 = .ok (.ifCond .eq 26, 3) := by decide +kernel
theorem dX9_odds_24 : decode cX9_odds 24 = .ok (.iload_n 3, 1) := by decide +kernel
theorem dX9_odds_25 : decode cX9_odds 25 = .ok (.i2l, 1) := by decide +kernel
theorem dX9_odds_26 : decode cX9_odds 26 = .ok (.lconst 0, 1) := by decide +kernel
theorem dX9_odds_27 : decode cX9_odds 27 = .ok (.ldc2_w 300, 3) := by decide +kernel
theorem dX9_odds_30 : decode cX9_odds 30 = .ok (.invokestatic 138, 3) := by decide +kernel
theorem dX9_odds_33 : decode cX9_odds 33 = .ok (.ifCond .eq 14, 3) := by decide +kernel
theorem dX9_odds_36 : decode cX9_odds 36 = .ok (.iload 4, 2) := by decide +kernel
theorem dX9_odds_38 : decode cX9_odds 38 = .ok (.i2l, 1) := by decide +kernel
theorem dX9_odds_39 : decode cX9_odds 39 = .ok (.lconst 0, 1) := by decide +kernel
theorem dX9_odds_40 : decode cX9_odds 40 = .ok (.lconst 1, 1) := by decide +kernel
theorem dX9_odds_41 : decode cX9_odds 41 = .ok (.invokestatic 138, 3) := by decide +kernel
theorem dX9_odds_44 : decode cX9_odds 44 = .ok (.ifCond .ne 5, 3) := by decide +kernel
theorem dX9_odds_47 : decode cX9_odds 47 = .ok (.iconst (-1), 1) := by decide +kernel
theorem dX9_odds_48 : decode cX9_odds 48 = .ok (.ireturn, 1) := by decide +kernel
theorem dX9_odds_49 : decode cX9_odds 49 = .ok (.iconst 0, 1) := by decide +kernel
theorem dX9_odds_50 : decode cX9_odds 50 = .ok (.istore 5, 2) := by decide +kernel
theorem dX9_odds_52 : decode cX9_odds 52 = .ok (.iconst 1, 1) := by decide +kernel
theorem dX9_odds_53 : decode cX9_odds 53 = .ok (.istore 6, 2) := by decide +kernel
theorem dX9_odds_55 : decode cX9_odds 55 = .ok (.iconst 0, 1) := by decide +kernel
theorem dX9_odds_56 : decode cX9_odds 56 = .ok (.istore 7, 2) := by decide +kernel
theorem dX9_odds_58 : decode cX9_odds 58 = .ok (.iload 7, 2) := by decide +kernel
theorem dX9_odds_60 : decode cX9_odds 60 = .ok (.iload_n 1, 1) := by decide +kernel
theorem dX9_odds_61 : decode cX9_odds 61 = .ok (.if_icmp .ge 16, 3) := by decide +kernel
theorem dX9_odds_64 : decode cX9_odds 64 = .ok (.iload 6, 2) := by decide +kernel
theorem dX9_odds_66 : decode cX9_odds 66 = .ok (.bipush 10, 2) := by decide +kernel
theorem dX9_odds_68 : decode cX9_odds 68 = .ok (.imul, 1) := by decide +kernel
theorem dX9_odds_69 : decode cX9_odds 69 = .ok (.istore 6, 2) := by decide +kernel
theorem dX9_odds_71 : decode cX9_odds 71 = .ok (.iinc 7 1, 3) := by decide +kernel
theorem dX9_odds_74 : decode cX9_odds 74 = .ok (.goto (-16), 3) := by decide +kernel
theorem dX9_odds_77 : decode cX9_odds 77 = .ok (.iconst 0, 1) := by decide +kernel
theorem dX9_odds_78 : decode cX9_odds 78 = .ok (.istore 7, 2) := by decide +kernel
theorem dX9_odds_80 : decode cX9_odds 80 = .ok (.iload 7, 2) := by decide +kernel
theorem dX9_odds_82 : decode cX9_odds 82 = .ok (.iconst 1, 1) := by decide +kernel
theorem dX9_odds_83 : decode cX9_odds 83 = .ok (.iload_n 1, 1) := by decide +kernel
theorem dX9_odds_84 : decode cX9_odds 84 = .ok (.ishl, 1) := by decide +kernel
theorem dX9_odds_85 : decode cX9_odds 85 = .ok (.if_icmp .ge 78, 3) := by decide +kernel
theorem dX9_odds_88 : decode cX9_odds 88 = .ok (.iconst 1, 1) := by decide +kernel
theorem dX9_odds_89 : decode cX9_odds 89 = .ok (.istore 8, 2) := by decide +kernel
theorem dX9_odds_91 : decode cX9_odds 91 = .ok (.iconst 0, 1) := by decide +kernel
theorem dX9_odds_92 : decode cX9_odds 92 = .ok (.istore 9, 2) := by decide +kernel
theorem dX9_odds_94 : decode cX9_odds 94 = .ok (.iload 9, 2) := by decide +kernel
theorem dX9_odds_96 : decode cX9_odds 96 = .ok (.iload_n 1, 1) := by decide +kernel
theorem dX9_odds_97 : decode cX9_odds 97 = .ok (.if_icmp .ge 33, 3) := by decide +kernel
theorem dX9_odds_100 : decode cX9_odds 100 = .ok (.iload 8, 2) := by decide +kernel
theorem dX9_odds_102 : decode cX9_odds 102 = .ok (.iload 7, 2) := by decide +kernel
theorem dX9_odds_104 : decode cX9_odds 104 = .ok (.iload 9, 2) := by decide +kernel
theorem dX9_odds_106 : decode cX9_odds 106 = .ok (.ishr, 1) := by decide +kernel
theorem dX9_odds_107 : decode cX9_odds 107 = .ok (.iconst 1, 1) := by decide +kernel
theorem dX9_odds_108 : decode cX9_odds 108 = .ok (.iand, 1) := by decide +kernel
theorem dX9_odds_109 : decode cX9_odds 109 = .ok (.iconst 1, 1) := by decide +kernel
theorem dX9_odds_110 : decode cX9_odds 110 = .ok (.if_icmp .ne 7, 3) := by decide +kernel
theorem dX9_odds_113 : decode cX9_odds 113 = .ok (.iload_n 3, 1) := by decide +kernel
theorem dX9_odds_114 : decode cX9_odds 114 = .ok (.goto 7, 3) := by decide +kernel
theorem dX9_odds_117 : decode cX9_odds 117 = .ok (.bipush 10, 2) := by decide +kernel
theorem dX9_odds_119 : decode cX9_odds 119 = .ok (.iload_n 3, 1) := by decide +kernel
theorem dX9_odds_120 : decode cX9_odds 120 = .ok (.isub, 1) := by decide +kernel
theorem dX9_odds_121 : decode cX9_odds 121 = .ok (.imul, 1) := by decide +kernel
theorem dX9_odds_122 : decode cX9_odds 122 = .ok (.istore 8, 2) := by decide +kernel
theorem dX9_odds_124 : decode cX9_odds 124 = .ok (.iinc 9 1, 3) := by decide +kernel
theorem dX9_odds_127 : decode cX9_odds 127 = .ok (.goto (-33), 3) := by decide +kernel
theorem dX9_odds_130 : decode cX9_odds 130 = .ok (.iload 5, 2) := by decide +kernel
theorem dX9_odds_132 : decode cX9_odds 132 = .ok (.iload 8, 2) := by decide +kernel
theorem dX9_odds_134 : decode cX9_odds 134 = .ok (.ifCond .le 19, 3) := by decide +kernel
theorem dX9_odds_137 : decode cX9_odds 137 = .ok (.aload_n 0, 1) := by decide +kernel
theorem dX9_odds_138 : decode cX9_odds 138 = .ok (.iload_n 1, 1) := by decide +kernel
theorem dX9_odds_139 : decode cX9_odds 139 = .ok (.iload_n 2, 1) := by decide +kernel
theorem dX9_odds_140 : decode cX9_odds 140 = .ok (.iload 7, 2) := by decide +kernel
theorem dX9_odds_142 : decode cX9_odds 142 = .ok (.invokevirtual 302, 3) := by decide +kernel
theorem dX9_odds_145 : decode cX9_odds 145 = .ok (.ifCond .eq 8, 3) := by decide +kernel
theorem dX9_odds_148 : decode cX9_odds 148 = .ok (.iload 8, 2) := by decide +kernel
theorem dX9_odds_150 : decode cX9_odds 150 = .ok (.goto 4, 3) := by decide +kernel
theorem dX9_odds_153 : decode cX9_odds 153 = .ok (.iconst 0, 1) := by decide +kernel
theorem dX9_odds_154 : decode cX9_odds 154 = .ok (.iadd, 1) := by decide +kernel
theorem dX9_odds_155 : decode cX9_odds 155 = .ok (.istore 5, 2) := by decide +kernel
theorem dX9_odds_157 : decode cX9_odds 157 = .ok (.iinc 7 1, 3) := by decide +kernel
theorem dX9_odds_160 : decode cX9_odds 160 = .ok (.goto (-80), 3) := by decide +kernel
theorem dX9_odds_163 : decode cX9_odds 163 = .ok (.iload 5, 2) := by decide +kernel
theorem dX9_odds_165 : decode cX9_odds 165 = .ok (.istore 7, 2) := by decide +kernel
theorem dX9_odds_167 : decode cX9_odds 167 = .ok (.iload 6, 2) := by decide +kernel
theorem dX9_odds_169 : decode cX9_odds 169 = .ok (.istore 8, 2) := by decide +kernel
theorem dX9_odds_171 : decode cX9_odds 171 = .ok (.iload 8, 2) := by decide +kernel
theorem dX9_odds_173 : decode cX9_odds 173 = .ok (.ifCond .eq 21, 3) := by decide +kernel
theorem dX9_odds_176 : decode cX9_odds 176 = .ok (.iload 7, 2) := by decide +kernel
theorem dX9_odds_178 : decode cX9_odds 178 = .ok (.iload 8, 2) := by decide +kernel
theorem dX9_odds_180 : decode cX9_odds 180 = .ok (.irem, 1) := by decide +kernel
theorem dX9_odds_181 : decode cX9_odds 181 = .ok (.istore 9, 2) := by decide +kernel
theorem dX9_odds_183 : decode cX9_odds 183 = .ok (.iload 8, 2) := by decide +kernel
theorem dX9_odds_185 : decode cX9_odds 185 = .ok (.istore 7, 2) := by decide +kernel
theorem dX9_odds_187 : decode cX9_odds 187 = .ok (.iload 9, 2) := by decide +kernel
theorem dX9_odds_189 : decode cX9_odds 189 = .ok (.istore 8, 2) := by decide +kernel
theorem dX9_odds_191 : decode cX9_odds 191 = .ok (.goto (-20), 3) := by decide +kernel
theorem dX9_odds_194 : decode cX9_odds 194 = .ok (.iload 4, 2) := by decide +kernel
theorem dX9_odds_196 : decode cX9_odds 196 = .ok (.ifCond .ne 11, 3) := by decide +kernel
theorem dX9_odds_199 : decode cX9_odds 199 = .ok (.iload 5, 2) := by decide +kernel
theorem dX9_odds_201 : decode cX9_odds 201 = .ok (.iload 7, 2) := by decide +kernel
theorem dX9_odds_203 : decode cX9_odds 203 = .ok (.idiv, 1) := by decide +kernel
theorem dX9_odds_204 : decode cX9_odds 204 = .ok (.goto 8, 3) := by decide +kernel
theorem dX9_odds_207 : decode cX9_odds 207 = .ok (.iload 6, 2) := by decide +kernel
theorem dX9_odds_209 : decode cX9_odds 209 = .ok (.iload 7, 2) := by decide +kernel
theorem dX9_odds_211 : decode cX9_odds 211 = .ok (.idiv, 1) := by decide +kernel
theorem dX9_odds_212 : decode cX9_odds 212 = .ok (.ireturn, 1) := by decide +kernel
theorem dX9_night_0 : decode cX9_night 0 = .ok (.iload_n 1, 1) := by decide +kernel
theorem dX9_night_1 : decode cX9_night 1 = .ok (.i2l, 1) := by decide +kernel
theorem dX9_night_2 : decode cX9_night 2 = .ok (.lconst 0, 1) := by decide +kernel
theorem dX9_night_3 : decode cX9_night 3 = .ok (.ldc2_w 305, 3) := by decide +kernel
theorem dX9_night_6 : decode cX9_night 6 = .ok (.invokestatic 138, 3) := by decide +kernel
theorem dX9_night_9 : decode cX9_night 9 = .ok (.ifCond .eq 13, 3) := by decide +kernel
theorem dX9_night_12 : decode cX9_night 12 = .ok (.iload_n 2, 1) := by decide +kernel
theorem dX9_night_13 : decode cX9_night 13 = .ok (.i2l, 1) := by decide +kernel
theorem dX9_night_14 : decode cX9_night 14 = .ok (.lconst 0, 1) := by decide +kernel
theorem dX9_night_15 : decode cX9_night 15 = .ok (.lconst 1, 1) := by decide +kernel
theorem dX9_night_16 : decode cX9_night 16 = .ok (.invokestatic 138, 3) := by decide +kernel
theorem dX9_night_19 : decode cX9_night 19 = .ok (.ifCond .ne 5, 3) := by decide +kernel
theorem dX9_night_22 : decode cX9_night 22 = .ok (.iconst (-1), 1) := by decide +kernel
theorem dX9_night_23 : decode cX9_night 23 = .ok (.ireturn, 1) := by decide +kernel
theorem dX9_night_24 : decode cX9_night 24 = .ok (.aload_n 0, 1) := by decide +kernel
theorem dX9_night_25 : decode cX9_night 25 = .ok (.invokevirtual 254, 3) := by decide +kernel
theorem dX9_night_28 : decode cX9_night 28 = .ok (.iconst 1, 1) := by decide +kernel
theorem dX9_night_29 : decode cX9_night 29 = .ok (.istore_n 3, 1) := by decide +kernel
theorem dX9_night_30 : decode cX9_night 30 = .ok (.iload_n 3, 1) := by decide +kernel
theorem dX9_night_31 : decode cX9_night 31 = .ok (.bipush 60, 2) := by decide +kernel
theorem dX9_night_33 : decode cX9_night 33 = .ok (.if_icmp .gt 45, 3) := by decide +kernel
theorem dX9_night_36 : decode cX9_night 36 = .ok (.ldc2_w 307, 3) := by decide +kernel
theorem dX9_night_39 : decode cX9_night 39 = .ok (.iload_n 1, 1) := by decide +kernel
theorem dX9_night_40 : decode cX9_night 40 = .ok (.i2l, 1) := by decide +kernel
theorem dX9_night_41 : decode cX9_night 41 = .ok (.lmul, 1) := by decide +kernel
theorem dX9_night_42 : decode cX9_night 42 = .ok (.ldc2_w 309, 3) := by decide +kernel
theorem dX9_night_45 : decode cX9_night 45 = .ok (.iload_n 3, 1) := by decide +kernel
theorem dX9_night_46 : decode cX9_night 46 = .ok (.i2l, 1) := by decide +kernel
theorem dX9_night_47 : decode cX9_night 47 = .ok (.lmul, 1) := by decide +kernel
theorem dX9_night_48 : decode cX9_night 48 = .ok (.ladd, 1) := by decide +kernel
theorem dX9_night_49 : decode cX9_night 49 = .ok (.lconst 1, 1) := by decide +kernel
theorem dX9_night_50 : decode cX9_night 50 = .ok (.ladd, 1) := by decide +kernel
theorem dX9_night_51 : decode cX9_night 51 = .ok (.lstore 4, 2) := by decide +kernel
theorem dX9_night_53 : decode cX9_night 53 = .ok (.aload_n 0, 1) := by decide +kernel
theorem dX9_night_54 : decode cX9_night 54 = .ok (.iconst 1, 1) := by decide +kernel
theorem dX9_night_55 : decode cX9_night 55 = .ok (.lload 4, 2) := by decide +kernel
theorem dX9_night_57 : decode cX9_night 57 = .ok (.lload 4, 2) := by decide +kernel
theorem dX9_night_59 : decode cX9_night 59 = .ok (.lmul, 1) := by decide +kernel
theorem dX9_night_60 : decode cX9_night 60 = .ok (.ldc2_w 311, 3) := by decide +kernel
theorem dX9_night_63 : decode cX9_night 63 = .ok (.lrem, 1) := by decide +kernel
theorem dX9_night_64 : decode cX9_night 64 = .ok (.ldc2_w 313, 3) := by decide +kernel
theorem dX9_night_67 : decode cX9_night 67 = .ok (.lrem, 1) := by decide +kernel
theorem dX9_night_68 : decode cX9_night 68 = .ok (.l2i, 1) := by decide +kernel
theorem dX9_night_69 : decode cX9_night 69 = .ok (.invokevirtual 224, 3) := by decide +kernel
theorem dX9_night_72 : decode cX9_night 72 = .ok (.iinc 3 1, 3) := by decide +kernel
theorem dX9_night_75 : decode cX9_night 75 = .ok (.goto (-45), 3) := by decide +kernel
theorem dX9_night_78 : decode cX9_night 78 = .ok (.iload_n 2, 1) := by decide +kernel
theorem dX9_night_79 : decode cX9_night 79 = .ok (.ifCond .ne 12, 3) := by decide +kernel
theorem dX9_night_82 : decode cX9_night 82 = .ok (.aload_n 0, 1) := by decide +kernel
theorem dX9_night_83 : decode cX9_night 83 = .ok (.getfield 100, 3) := by decide +kernel
theorem dX9_night_86 : decode cX9_night 86 = .ok (.iconst 1, 1) := by decide +kernel
theorem dX9_night_87 : decode cX9_night 87 = .ok (.iaload, 1) := by decide +kernel
theorem dX9_night_88 : decode cX9_night 88 = .ok (.goto 14, 3) := by decide +kernel
theorem dX9_night_91 : decode cX9_night 91 = .ok (.aload_n 0, 1) := by decide +kernel
theorem dX9_night_92 : decode cX9_night 92 = .ok (.iconst 1, 1) := by decide +kernel
theorem dX9_night_93 : decode cX9_night 93 = .ok (.invokevirtual 295, 3) := by decide +kernel
theorem dX9_night_96 : decode cX9_night 96 = .ok (.aload_n 0, 1) := by decide +kernel
theorem dX9_night_97 : decode cX9_night 97 = .ok (.iconst 0, 1) := by decide +kernel
theorem dX9_night_98 : decode cX9_night 98 = .ok (.invokevirtual 295, 3) := by decide +kernel
theorem dX9_night_101 : decode cX9_night 101 = .ok (.isub, 1) := by decide +kernel
theorem dX9_night_102 : decode cX9_night 102 = .ok (.ireturn, 1) := by decide +kernel
theorem dX9_copy_0 : decode cX9_copy 0 = .ok (.aload_n 0, 1) := by decide +kernel
theorem dX9_copy_1 : decode cX9_copy 1 = .ok (.getfield 67, 3) := by decide +kernel
theorem dX9_copy_4 : decode cX9_copy 4 = .ok (.iload_n 2, 1) := by decide +kernel
theorem dX9_copy_5 : decode cX9_copy 5 = .ok (.aload_n 0, 1) := by decide +kernel
theorem dX9_copy_6 : decode cX9_copy 6 = .ok (.getfield 67, 3) := by decide +kernel
theorem dX9_copy_9 : decode cX9_copy 9 = .ok (.iload_n 1, 1) := by decide +kernel
theorem dX9_copy_10 : decode cX9_copy 10 = .ok (.iaload, 1) := by decide +kernel
theorem dX9_copy_11 : decode cX9_copy 11 = .ok (.iastore, 1) := by decide +kernel
theorem dX9_copy_12 : decode cX9_copy 12 = .ok (.iconst 0, 1) := by decide +kernel
theorem dX9_copy_13 : decode cX9_copy 13 = .ok (.istore_n 3, 1) := by decide +kernel
theorem dX9_copy_14 : decode cX9_copy 14 = .ok (.iload_n 3, 1) := by decide +kernel
theorem dX9_copy_15 : decode cX9_copy 15 = .ok (.bipush 30, 2) := by decide +kernel
theorem dX9_copy_17 : decode cX9_copy 17 = .ok (.if_icmp .ge 97, 3) := by decide +kernel
theorem dX9_copy_20 : decode cX9_copy 20 = .ok (.aload_n 0, 1) := by decide +kernel
theorem dX9_copy_21 : decode cX9_copy 21 = .ok (.getfield 70, 3) := by decide +kernel
theorem dX9_copy_24 : decode cX9_copy 24 = .ok (.bipush 30, 2) := by decide +kernel
theorem dX9_copy_26 : decode cX9_copy 26 = .ok (.iload_n 2, 1) := by decide +kernel
theorem dX9_copy_27 : decode cX9_copy 27 = .ok (.imul, 1) := by decide +kernel
theorem dX9_copy_28 : decode cX9_copy 28 = .ok (.iload_n 3, 1) := by decide +kernel
theorem dX9_copy_29 : decode cX9_copy 29 = .ok (.iadd, 1) := by decide +kernel
theorem dX9_copy_30 : decode cX9_copy 30 = .ok (.aload_n 0, 1) := by decide +kernel
theorem dX9_copy_31 : decode cX9_copy 31 = .ok (.getfield 70, 3) := by decide +kernel
theorem dX9_copy_34 : decode cX9_copy 34 = .ok (.bipush 30, 2) := by decide +kernel
theorem dX9_copy_36 : decode cX9_copy 36 = .ok (.iload_n 1, 1) := by decide +kernel
theorem dX9_copy_37 : decode cX9_copy 37 = .ok (.imul, 1) := by decide +kernel
theorem dX9_copy_38 : decode cX9_copy 38 = .ok (.iload_n 3, 1) := by decide +kernel
theorem dX9_copy_39 : decode cX9_copy 39 = .ok (.iadd, 1) := by decide +kernel
theorem dX9_copy_40 : decode cX9_copy 40 = .ok (.iaload, 1) := by decide +kernel
theorem dX9_copy_41 : decode cX9_copy 41 = .ok (.iastore, 1) := by decide +kernel
theorem dX9_copy_42 : decode cX9_copy 42 = .ok (.aload_n 0, 1) := by decide +kernel
theorem dX9_copy_43 : decode cX9_copy 43 = .ok (.getfield 73, 3) := by decide +kernel
theorem dX9_copy_46 : decode cX9_copy 46 = .ok (.bipush 30, 2) := by decide +kernel
theorem dX9_copy_48 : decode cX9_copy 48 = .ok (.iload_n 2, 1) := by decide +kernel
theorem dX9_copy_49 : decode cX9_copy 49 = .ok (.imul, 1) := by decide +kernel
theorem dX9_copy_50 : decode cX9_copy 50 = .ok (.iload_n 3, 1) := by decide +kernel
theorem dX9_copy_51 : decode cX9_copy 51 = .ok (.iadd, 1) := by decide +kernel
theorem dX9_copy_52 : decode cX9_copy 52 = .ok (.aload_n 0, 1) := by decide +kernel
theorem dX9_copy_53 : decode cX9_copy 53 = .ok (.getfield 73, 3) := by decide +kernel
theorem dX9_copy_56 : decode cX9_copy 56 = .ok (.bipush 30, 2) := by decide +kernel
theorem dX9_copy_58 : decode cX9_copy 58 = .ok (.iload_n 1, 1) := by decide +kernel
theorem dX9_copy_59 : decode cX9_copy 59 = .ok (.imul, 1) := by decide +kernel
theorem dX9_copy_60 : decode cX9_copy 60 = .ok (.iload_n 3, 1) := by decide +kernel
theorem dX9_copy_61 : decode cX9_copy 61 = .ok (.iadd, 1) := by decide +kernel
theorem dX9_copy_62 : decode cX9_copy 62 = .ok (.iaload, 1) := by decide +kernel
theorem dX9_copy_63 : decode cX9_copy 63 = .ok (.iastore, 1) := by decide +kernel
theorem dX9_copy_64 : decode cX9_copy 64 = .ok (.aload_n 0, 1) := by decide +kernel
theorem dX9_copy_65 : decode cX9_copy 65 = .ok (.getfield 76, 3) := by decide +kernel
theorem dX9_copy_68 : decode cX9_copy 68 = .ok (.bipush 30, 2) := by decide +kernel
theorem dX9_copy_70 : decode cX9_copy 70 = .ok (.iload_n 2, 1) := by decide +kernel
theorem dX9_copy_71 : decode cX9_copy 71 = .ok (.imul, 1) := by decide +kernel
theorem dX9_copy_72 : decode cX9_copy 72 = .ok (.iload_n 3, 1) := by decide +kernel
theorem dX9_copy_73 : decode cX9_copy 73 = .ok (.iadd, 1) := by decide +kernel
theorem dX9_copy_74 : decode cX9_copy 74 = .ok (.aload_n 0, 1) := by decide +kernel
theorem dX9_copy_75 : decode cX9_copy 75 = .ok (.getfield 76, 3) := by decide +kernel
theorem dX9_copy_78 : decode cX9_copy 78 = .ok (.bipush 30, 2) := by decide +kernel
theorem dX9_copy_80 : decode cX9_copy 80 = .ok (.iload_n 1, 1) := by decide +kernel
theorem dX9_copy_81 : decode cX9_copy 81 = .ok (.imul, 1) := by decide +kernel
theorem dX9_copy_82 : decode cX9_copy 82 = .ok (.iload_n 3, 1) := by decide +kernel
theorem dX9_copy_83 : decode cX9_copy 83 = .ok (.iadd, 1) := by decide +kernel
theorem dX9_copy_84 : decode cX9_copy 84 = .ok (.iaload, 1) := by decide +kernel
theorem dX9_copy_85 : decode cX9_copy 85 = .ok (.iastore, 1) := by decide +kernel
theorem dX9_copy_86 : decode cX9_copy 86 = .ok (.aload_n 0, 1) := by decide +kernel
theorem dX9_copy_87 : decode cX9_copy 87 = .ok (.getfield 79, 3) := by decide +kernel
theorem dX9_copy_90 : decode cX9_copy 90 = .ok (.bipush 30, 2) := by decide +kernel
theorem dX9_copy_92 : decode cX9_copy 92 = .ok (.iload_n 2, 1) := by decide +kernel
theorem dX9_copy_93 : decode cX9_copy 93 = .ok (.imul, 1) := by decide +kernel
theorem dX9_copy_94 : decode cX9_copy 94 = .ok (.iload_n 3, 1) := by decide +kernel
theorem dX9_copy_95 : decode cX9_copy 95 = .ok (.iadd, 1) := by decide +kernel
theorem dX9_copy_96 : decode cX9_copy 96 = .ok (.aload_n 0, 1) := by decide +kernel
theorem dX9_copy_97 : decode cX9_copy 97 = .ok (.getfield 79, 3) := by decide +kernel
theorem dX9_copy_100 : decode cX9_copy 100 = .ok (.bipush 30, 2) := by decide +kernel
theorem dX9_copy_102 : decode cX9_copy 102 = .ok (.iload_n 1, 1) := by decide +kernel
theorem dX9_copy_103 : decode cX9_copy 103 = .ok (.imul, 1) := by decide +kernel
theorem dX9_copy_104 : decode cX9_copy 104 = .ok (.iload_n 3, 1) := by decide +kernel
theorem dX9_copy_105 : decode cX9_copy 105 = .ok (.iadd, 1) := by decide +kernel
theorem dX9_copy_106 : decode cX9_copy 106 = .ok (.iaload, 1) := by decide +kernel
theorem dX9_copy_107 : decode cX9_copy 107 = .ok (.iastore, 1) := by decide +kernel
theorem dX9_copy_108 : decode cX9_copy 108 = .ok (.iinc 3 1, 3) := by decide +kernel
theorem dX9_copy_111 : decode cX9_copy 111 = .ok (.goto (-97), 3) := by decide +kernel
theorem dX9_copy_114 : decode cX9_copy 114 = .ok (.return_, 1) := by decide +kernel
theorem dX9_keep_0 : decode cX9_keep 0 = .ok (.aload_n 0, 1) := by decide +kernel
theorem dX9_keep_1 : decode cX9_keep 1 = .ok (.getfield 190, 3) := by decide +kernel
theorem dX9_keep_4 : decode cX9_keep 4 = .ok (.iconst 2, 1) := by decide +kernel
theorem dX9_keep_5 : decode cX9_keep 5 = .ok (.if_icmp .ne 6, 3) := by decide +kernel
theorem dX9_keep_8 : decode cX9_keep 8 = .ok (.bipush (-3), 2) := by decide +kernel
theorem dX9_keep_10 : decode cX9_keep 10 = .ok (.ireturn, 1) := by decide +kernel
theorem dX9_keep_11 : decode cX9_keep 11 = .ok (.aload_n 0, 1) := by decide +kernel
theorem dX9_keep_12 : decode cX9_keep 12 = .ok (.dup, 1) := by decide +kernel
theorem dX9_keep_13 : decode cX9_keep 13 = .ok (.getfield 190, 3) := by decide +kernel
theorem dX9_keep_16 : decode cX9_keep 16 = .ok (.iconst 1, 1) := by decide +kernel
theorem dX9_keep_17 : decode cX9_keep 17 = .ok (.iadd, 1) := by decide +kernel
theorem dX9_keep_18 : decode cX9_keep 18 = .ok (.putfield 190, 3) := by decide +kernel
theorem dX9_keep_21 : decode cX9_keep 21 = .ok (.aload_n 0, 1) := by decide +kernel
theorem dX9_keep_22 : decode cX9_keep 22 = .ok (.iconst 0, 1) := by decide +kernel
theorem dX9_keep_23 : decode cX9_keep 23 = .ok (.aload_n 0, 1) := by decide +kernel
theorem dX9_keep_24 : decode cX9_keep 24 = .ok (.getfield 190, 3) := by decide +kernel
theorem dX9_keep_27 : decode cX9_keep 27 = .ok (.invokevirtual 315, 3) := by decide +kernel
theorem dX9_keep_30 : decode cX9_keep 30 = .ok (.aload_n 0, 1) := by decide +kernel
theorem dX9_keep_31 : decode cX9_keep 31 = .ok (.getfield 190, 3) := by decide +kernel
theorem dX9_keep_34 : decode cX9_keep 34 = .ok (.ireturn, 1) := by decide +kernel
theorem dX9_back_0 : decode cX9_back 0 = .ok (.aload_n 0, 1) := by decide +kernel
theorem dX9_back_1 : decode cX9_back 1 = .ok (.getfield 190, 3) := by decide +kernel
theorem dX9_back_4 : decode cX9_back 4 = .ok (.ifCond .ne 6, 3) := by decide +kernel
theorem dX9_back_7 : decode cX9_back 7 = .ok (.bipush (-2), 2) := by decide +kernel
theorem dX9_back_9 : decode cX9_back 9 = .ok (.ireturn, 1) := by decide +kernel
theorem dX9_back_10 : decode cX9_back 10 = .ok (.aload_n 0, 1) := by decide +kernel
theorem dX9_back_11 : decode cX9_back 11 = .ok (.aload_n 0, 1) := by decide +kernel
theorem dX9_back_12 : decode cX9_back 12 = .ok (.getfield 190, 3) := by decide +kernel
theorem dX9_back_15 : decode cX9_back 15 = .ok (.iconst 0, 1) := by decide +kernel
theorem dX9_back_16 : decode cX9_back 16 = .ok (.invokevirtual 315, 3) := by decide +kernel
theorem dX9_back_19 : decode cX9_back 19 = .ok (.aload_n 0, 1) := by decide +kernel
theorem dX9_back_20 : decode cX9_back 20 = .ok (.dup, 1) := by decide +kernel
theorem dX9_back_21 : decode cX9_back 21 = .ok (.getfield 190, 3) := by decide +kernel
theorem dX9_back_24 : decode cX9_back 24 = .ok (.iconst 1, 1) := by decide +kernel
theorem dX9_back_25 : decode cX9_back 25 = .ok (.isub, 1) := by decide +kernel
theorem dX9_back_26 : decode cX9_back 26 = .ok (.putfield 190, 3) := by decide +kernel
theorem dX9_back_29 : decode cX9_back 29 = .ok (.aload_n 0, 1) := by decide +kernel
theorem dX9_back_30 : decode cX9_back 30 = .ok (.invokevirtual 131, 3) := by decide +kernel
theorem dX9_back_33 : decode cX9_back 33 = .ok (.aload_n 0, 1) := by decide +kernel
theorem dX9_back_34 : decode cX9_back 34 = .ok (.getfield 190, 3) := by decide +kernel
theorem dX9_back_37 : decode cX9_back 37 = .ok (.ireturn, 1) := by decide +kernel
theorem dX9_count_0 : decode cX9_count 0 = .ok (.iload_n 1, 1) := by decide +kernel
theorem dX9_count_1 : decode cX9_count 1 = .ok (.tableswitch 86 0 6 #[43, 50, 57, 64, 71, 76, 81], 43) := by decide +kernel
theorem dX9_count_44 : decode cX9_count 44 = .ok (.aload_n 0, 1) := by decide +kernel
theorem dX9_count_45 : decode cX9_count 45 = .ok (.getfield 13, 3) := by decide +kernel
theorem dX9_count_48 : decode cX9_count 48 = .ok (.iconst 0, 1) := by decide +kernel
theorem dX9_count_49 : decode cX9_count 49 = .ok (.iaload, 1) := by decide +kernel
theorem dX9_count_50 : decode cX9_count 50 = .ok (.ireturn, 1) := by decide +kernel
theorem dX9_count_51 : decode cX9_count 51 = .ok (.aload_n 0, 1) := by decide +kernel
theorem dX9_count_52 : decode cX9_count 52 = .ok (.getfield 49, 3) := by decide +kernel
theorem dX9_count_55 : decode cX9_count 55 = .ok (.iconst 0, 1) := by decide +kernel
theorem dX9_count_56 : decode cX9_count 56 = .ok (.iaload, 1) := by decide +kernel
theorem dX9_count_57 : decode cX9_count 57 = .ok (.ireturn, 1) := by decide +kernel
theorem dX9_count_58 : decode cX9_count 58 = .ok (.aload_n 0, 1) := by decide +kernel
theorem dX9_count_59 : decode cX9_count 59 = .ok (.getfield 55, 3) := by decide +kernel
theorem dX9_count_62 : decode cX9_count 62 = .ok (.iconst 0, 1) := by decide +kernel
theorem dX9_count_63 : decode cX9_count 63 = .ok (.iaload, 1) := by decide +kernel
theorem dX9_count_64 : decode cX9_count 64 = .ok (.ireturn, 1) := by decide +kernel
theorem dX9_count_65 : decode cX9_count 65 = .ok (.aload_n 0, 1) := by decide +kernel
theorem dX9_count_66 : decode cX9_count 66 = .ok (.getfield 67, 3) := by decide +kernel
theorem dX9_count_69 : decode cX9_count 69 = .ok (.iconst 0, 1) := by decide +kernel
theorem dX9_count_70 : decode cX9_count 70 = .ok (.iaload, 1) := by decide +kernel
theorem dX9_count_71 : decode cX9_count 71 = .ok (.ireturn, 1) := by decide +kernel
theorem dX9_count_72 : decode cX9_count 72 = .ok (.aload_n 0, 1) := by decide +kernel
theorem dX9_count_73 : decode cX9_count 73 = .ok (.getfield 193, 3) := by decide +kernel
theorem dX9_count_76 : decode cX9_count 76 = .ok (.ireturn, 1) := by decide +kernel
theorem dX9_count_77 : decode cX9_count 77 = .ok (.aload_n 0, 1) := by decide +kernel
theorem dX9_count_78 : decode cX9_count 78 = .ok (.getfield 190, 3) := by decide +kernel
theorem dX9_count_81 : decode cX9_count 81 = .ok (.ireturn, 1) := by decide +kernel
theorem dX9_count_82 : decode cX9_count 82 = .ok (.aload_n 0, 1) := by decide +kernel
theorem dX9_count_83 : decode cX9_count 83 = .ok (.getfield 142, 3) := by decide +kernel
theorem dX9_count_86 : decode cX9_count 86 = .ok (.ireturn, 1) := by decide +kernel
theorem dX9_count_87 : decode cX9_count 87 = .ok (.iconst (-1), 1) := by decide +kernel
theorem dX9_count_88 : decode cX9_count 88 = .ok (.ireturn, 1) := by decide +kernel
