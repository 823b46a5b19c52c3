theorem dX8_init_0 : decode cX8_init 0 = .ok (.aload_n 0, 1) := by decide +kernel
theorem dX8_init_1 : decode cX8_init 1 = .ok (.invokespecial 3, 3) := by decide +kernel
theorem dX8_init_4 : decode cX8_init 4 = .ok (.aload_n 0, 1) := by decide +kernel
theorem dX8_init_5 : decode cX8_init 5 = .ok (.bipush 12, 2) := by decide +kernel
theorem dX8_init_7 : decode cX8_init 7 = .ok (.newarray .int, 2) := by decide +kernel
theorem dX8_init_9 : decode cX8_init 9 = .ok (.putfield 11, 3) := by decide +kernel
theorem dX8_init_12 : decode cX8_init 12 = .ok (.aload_n 0, 1) := by decide +kernel
theorem dX8_init_13 : decode cX8_init 13 = .ok (.bipush 12, 2) := by decide +kernel
theorem dX8_init_15 : decode cX8_init 15 = .ok (.newarray .int, 2) := by decide +kernel
theorem dX8_init_17 : decode cX8_init 17 = .ok (.putfield 15, 3) := by decide +kernel
theorem dX8_init_20 : decode cX8_init 20 = .ok (.aload_n 0, 1) := by decide +kernel
theorem dX8_init_21 : decode cX8_init 21 = .ok (.bipush 12, 2) := by decide +kernel
theorem dX8_init_23 : decode cX8_init 23 = .ok (.newarray .int, 2) := by decide +kernel
theorem dX8_init_25 : decode cX8_init 25 = .ok (.putfield 18, 3) := by decide +kernel
theorem dX8_init_28 : decode cX8_init 28 = .ok (.aload_n 0, 1) := by decide +kernel
theorem dX8_init_29 : decode cX8_init 29 = .ok (.bipush 12, 2) := by decide +kernel
theorem dX8_init_31 : decode cX8_init 31 = .ok (.newarray .int, 2) := by decide +kernel
theorem dX8_init_33 : decode cX8_init 33 = .ok (.putfield 21, 3) := by decide +kernel
theorem dX8_init_36 : decode cX8_init 36 = .ok (.aload_n 0, 1) := by decide +kernel
theorem dX8_init_37 : decode cX8_init 37 = .ok (.bipush 12, 2) := by decide +kernel
theorem dX8_init_39 : decode cX8_init 39 = .ok (.newarray .int, 2) := by decide +kernel
theorem dX8_init_41 : decode cX8_init 41 = .ok (.putfield 24, 3) := by decide +kernel
theorem dX8_init_44 : decode cX8_init 44 = .ok (.aload_n 0, 1) := by decide +kernel
theorem dX8_init_45 : decode cX8_init 45 = .ok (.bipush 40, 2) := by decide +kernel
theorem dX8_init_47 : decode cX8_init 47 = .ok (.newarray .int, 2) := by decide +kernel
theorem dX8_init_49 : decode cX8_init 49 = .ok (.putfield 27, 3) := by decide +kernel
theorem dX8_init_52 : decode cX8_init 52 = .ok (.aload_n 0, 1) := by decide +kernel
theorem dX8_init_53 : decode cX8_init 53 = .ok (.bipush 40, 2) := by decide +kernel
theorem dX8_init_55 : decode cX8_init 55 = .ok (.newarray .int, 2) := by decide +kernel
theorem dX8_init_57 : decode cX8_init 57 = .ok (.putfield 30, 3) := by decide +kernel
theorem dX8_init_60 : decode cX8_init 60 = .ok (.aload_n 0, 1) := by decide +kernel
theorem dX8_init_61 : decode cX8_init 61 = .ok (.bipush 12, 2) := by decide +kernel
theorem dX8_init_63 : decode cX8_init 63 = .ok (.newarray .int, 2) := by decide +kernel
theorem dX8_init_65 : decode cX8_init 65 = .ok (.putfield 33, 3) := by decide +kernel
theorem dX8_init_68 : decode cX8_init 68 = .ok (.aload_n 0, 1) := by decide +kernel
theorem dX8_init_69 : decode cX8_init 69 = .ok (.bipush 12, 2) := by decide +kernel
theorem dX8_init_71 : decode cX8_init 71 = .ok (.newarray .int, 2) := by decide +kernel
theorem dX8_init_73 : decode cX8_init 73 = .ok (.putfield 36, 3) := by decide +kernel
theorem dX8_init_76 : decode cX8_init 76 = .ok (.aload_n 0, 1) := by decide +kernel
theorem dX8_init_77 : decode cX8_init 77 = .ok (.bipush 12, 2) := by decide +kernel
theorem dX8_init_79 : decode cX8_init 79 = .ok (.newarray .int, 2) := by decide +kernel
theorem dX8_init_81 : decode cX8_init 81 = .ok (.putfield 39, 3) := by decide +kernel
theorem dX8_init_84 : decode cX8_init 84 = .ok (.aload_n 0, 1) := by decide +kernel
theorem dX8_init_85 : decode cX8_init 85 = .ok (.bipush 12, 2) := by decide +kernel
theorem dX8_init_87 : decode cX8_init 87 = .ok (.newarray .int, 2) := by decide +kernel
theorem dX8_init_89 : decode cX8_init 89 = .ok (.putfield 42, 3) := by decide +kernel
theorem dX8_init_92 : decode cX8_init 92 = .ok (.aload_n 0, 1) := by decide +kernel
theorem dX8_init_93 : decode cX8_init 93 = .ok (.bipush 12, 2) := by decide +kernel
theorem dX8_init_95 : decode cX8_init 95 = .ok (.newarray .int, 2) := by decide +kernel
theorem dX8_init_97 : decode cX8_init 97 = .ok (.putfield 45, 3) := by decide +kernel
theorem dX8_init_100 : decode cX8_init 100 = .ok (.aload_n 0, 1) := by decide +kernel
theorem dX8_init_101 : decode cX8_init 101 = .ok (.bipush 12, 2) := by decide +kernel
theorem dX8_init_103 : decode cX8_init 103 = .ok (.newarray .int, 2) := by decide +kernel
theorem dX8_init_105 : decode cX8_init 105 = .ok (.putfield 48, 3) := by decide +kernel
theorem dX8_init_108 : decode cX8_init 108 = .ok (.aload_n 0, 1) := by decide +kernel
theorem dX8_init_109 : decode cX8_init 109 = .ok (.bipush 12, 2) := by decide +kernel
theorem dX8_init_111 : decode cX8_init 111 = .ok (.newarray .int, 2) := by decide +kernel
theorem dX8_init_113 : decode cX8_init 113 = .ok (.putfield 51, 3) := by decide +kernel
theorem dX8_init_116 : decode cX8_init 116 = .ok (.aload_n 0, 1) := by decide +kernel
theorem dX8_init_117 : decode cX8_init 117 = .ok (.bipush 12, 2) := by decide +kernel
theorem dX8_init_119 : decode cX8_init 119 = .ok (.newarray .int, 2) := by decide +kernel
theorem dX8_init_121 : decode cX8_init 121 = .ok (.putfield 54, 3) := by decide +kernel
theorem dX8_init_124 : decode cX8_init 124 = .ok (.aload_n 0, 1) := by decide +kernel
theorem dX8_init_125 : decode cX8_init 125 = .ok (.sipush 4096, 3) := by decide +kernel
theorem dX8_init_128 : decode cX8_init 128 = .ok (.newarray .long, 2) := by decide +kernel
theorem dX8_init_130 : decode cX8_init 130 = .ok (.putfield 57, 3) := by decide +kernel
theorem dX8_init_133 : decode cX8_init 133 = .ok (.aload_n 0, 1) := by decide +kernel
theorem dX8_init_134 : decode cX8_init 134 = .ok (.bipush 12, 2) := by decide +kernel
theorem dX8_init_136 : decode cX8_init 136 = .ok (.newarray .int, 2) := by decide +kernel
theorem dX8_init_138 : decode cX8_init 138 = .ok (.putfield 61, 3) := by decide +kernel
theorem dX8_init_141 : decode cX8_init 141 = .ok (.aload_n 0, 1) := by decide +kernel
theorem dX8_init_142 : decode cX8_init 142 = .ok (.bipush 12, 2) := by decide +kernel
theorem dX8_init_144 : decode cX8_init 144 = .ok (.newarray .int, 2) := by decide +kernel
theorem dX8_init_146 : decode cX8_init 146 = .ok (.putfield 64, 3) := by decide +kernel
theorem dX8_init_149 : decode cX8_init 149 = .ok (.aload_n 0, 1) := by decide +kernel
theorem dX8_init_150 : decode cX8_init 150 = .ok (.bipush 100, 2) := by decide +kernel
theorem dX8_init_152 : decode cX8_init 152 = .ok (.newarray .int, 2) := by decide +kernel
theorem dX8_init_154 : decode cX8_init 154 = .ok (.putfield 67, 3) := by decide +kernel
theorem dX8_init_157 : decode cX8_init 157 = .ok (.aload_n 0, 1) := by decide +kernel
theorem dX8_init_158 : decode cX8_init 158 = .ok (.bipush 24, 2) := by decide +kernel
theorem dX8_init_160 : decode cX8_init 160 = .ok (.newarray .int, 2) := by decide +kernel
theorem dX8_init_162 : decode cX8_init 162 = .ok (.putfield 70, 3) := by decide +kernel
theorem dX8_init_165 : decode cX8_init 165 = .ok (.aload_n 0, 1) := by decide +kernel
theorem dX8_init_166 : decode cX8_init 166 = .ok (.bipush 25, 2) := by decide +kernel
theorem dX8_init_168 : decode cX8_init 168 = .ok (.newarray .int, 2) := by decide +kernel
theorem dX8_init_170 : decode cX8_init 170 = .ok (.dup, 1) := by decide +kernel
theorem dX8_init_171 : decode cX8_init 171 = .ok (.iconst 0, 1) := by decide +kernel
theorem dX8_init_172 : decode cX8_init 172 = .ok (.bipush 111, 2) := by decide +kernel
theorem dX8_init_174 : decode cX8_init 174 = .ok (.iastore, 1) := by decide +kernel
theorem dX8_init_175 : decode cX8_init 175 = .ok (.dup, 1) := by decide +kernel
theorem dX8_init_176 : decode cX8_init 176 = .ok (.iconst 1, 1) := by decide +kernel
theorem dX8_init_177 : decode cX8_init 177 = .ok (.bipush 118, 2) := by decide +kernel
theorem dX8_init_179 : decode cX8_init 179 = .ok (.iastore, 1) := by decide +kernel
theorem dX8_init_180 : decode cX8_init 180 = .ok (.dup, 1) := by decide +kernel
theorem dX8_init_181 : decode cX8_init 181 = .ok (.iconst 2, 1) := by decide +kernel
theorem dX8_init_182 : decode cX8_init 182 = .ok (.bipush 101, 2) := by decide +kernel
theorem dX8_init_184 : decode cX8_init 184 = .ok (.iastore, 1) := by decide +kernel
theorem dX8_init_185 : decode cX8_init 185 = .ok (.dup, 1) := by decide +kernel
theorem dX8_init_186 : decode cX8_init 186 = .ok (.iconst 3, 1) := by decide +kernel
theorem dX8_init_187 : decode cX8_init 187 = .ok (.bipush 114, 2) := by decide +kernel
theorem dX8_init_189 : decode cX8_init 189 = .ok (.iastore, 1) := by decide +kernel
theorem dX8_init_190 : decode cX8_init 190 = .ok (.dup, 1) := by decide +kernel
theorem dX8_init_191 : decode cX8_init 191 = .ok (.iconst 4, 1) := by decide +kernel
theorem dX8_init_192 : decode cX8_init 192 = .ok (.bipush 32, 2) := by decide +kernel
theorem dX8_init_194 : decode cX8_init 194 = .ok (.iastore, 1) := by decide +kernel
theorem dX8_init_195 : decode cX8_init 195 = .ok (.dup, 1) := by decide +kernel
theorem dX8_init_196 : decode cX8_init 196 = .ok (.iconst 5, 1) := by decide +kernel
theorem dX8_init_197 : decode cX8_init 197 = .ok (.bipush 117, 2) := by decide +kernel
theorem dX8_init_199 : decode cX8_init 199 = .ok (.iastore, 1) := by decide +kernel
theorem dX8_init_200 : decode cX8_init 200 = .ok (.dup, 1) := by decide +kernel
theorem dX8_init_201 : decode cX8_init 201 = .ok (.bipush 6, 2) := by decide +kernel
theorem dX8_init_203 : decode cX8_init 203 = .ok (.bipush 110, 2) := by decide +kernel
theorem dX8_init_205 : decode cX8_init 205 = .ok (.iastore, 1) := by decide +kernel
theorem dX8_init_206 : decode cX8_init 206 = .ok (.dup, 1) := by decide +kernel
theorem dX8_init_207 : decode cX8_init 207 = .ok (.bipush 7, 2) := by decide +kernel
theorem dX8_init_209 : decode cX8_init 209 = .ok (.bipush 100, 2) := by decide +kernel
theorem dX8_init_211 : decode cX8_init 211 = .ok (.iastore, 1) := by decide +kernel
theorem dX8_init_212 : decode cX8_init 212 = .ok (.dup, 1) := by decide +kernel
theorem dX8_init_213 : decode cX8_init 213 = .ok (.bipush 8, 2) := by decide +kernel
theorem dX8_init_215 : decode cX8_init 215 = .ok (.bipush 101, 2) := by decide +kernel
theorem dX8_init_217 : decode cX8_init 217 = .ok (.iastore, 1) := by decide +kernel
theorem dX8_init_218 : decode cX8_init 218 = .ok (.dup, 1) := by decide +kernel
theorem dX8_init_219 : decode cX8_init 219 = .ok (.bipush 9, 2) := by decide +kernel
theorem dX8_init_221 : decode cX8_init 221 = .ok (.bipush 114, 2) := by decide +kernel
theorem dX8_init_223 : decode cX8_init 223 = .ok (.iastore, 1) := by decide +kernel
theorem dX8_init_224 : decode cX8_init 224 = .ok (.dup, 1) := by decide +kernel
theorem dX8_init_225 : decode cX8_init 225 = .ok (.bipush 10, 2) := by decide +kernel
theorem dX8_init_227 : decode cX8_init 227 = .ok (.bipush 99, 2) := by decide +kernel
theorem dX8_init_229 : decode cX8_init 229 = .ok (.iastore, 1) := by decide +kernel
theorem dX8_init_230 : decode cX8_init 230 = .ok (.dup, 1) := by decide +kernel
theorem dX8_init_231 : decode cX8_init 231 = .ok (.bipush 11, 2) := by decide +kernel
theorem dX8_init_233 : decode cX8_init 233 = .ok (.bipush 117, 2) := by decide +kernel
theorem dX8_init_235 : decode cX8_init 235 = .ok (.iastore, 1) := by decide +kernel
theorem dX8_init_236 : decode cX8_init 236 = .ok (.dup, 1) := by decide +kernel
theorem dX8_init_237 : decode cX8_init 237 = .ok (.bipush 12, 2) := by decide +kernel
theorem dX8_init_239 : decode cX8_init 239 = .ok (.bipush 116, 2) := by decide +kernel
theorem dX8_init_241 : decode cX8_init 241 = .ok (.iastore, 1) := by decide +kernel
theorem dX8_init_242 : decode cX8_init 242 = .ok (.dup, 1) := by decide +kernel
theorem dX8_init_243 : decode cX8_init 243 = .ok (.bipush 13, 2) := by decide +kernel
theorem dX8_init_245 : decode cX8_init 245 = .ok (.bipush 115, 2) := by decide +kernel
theorem dX8_init_247 : decode cX8_init 247 = .ok (.iastore, 1) := by decide +kernel
theorem dX8_init_248 : decode cX8_init 248 = .ok (.dup, 1) := by decide +kernel
theorem dX8_init_249 : decode cX8_init 249 = .ok (.bipush 14, 2) := by decide +kernel
theorem dX8_init_251 : decode cX8_init 251 = .ok (.bipush 32, 2) := by decide +kernel
theorem dX8_init_253 : decode cX8_init 253 = .ok (.iastore, 1) := by decide +kernel
theorem dX8_init_254 : decode cX8_init 254 = .ok (.dup, 1) := by decide +kernel
theorem dX8_init_255 : decode cX8_init 255 = .ok (.bipush 15, 2) := by decide +kernel
theorem dX8_init_257 : decode cX8_init 257 = .ok (.bipush 102, 2) := by decide +kernel
theorem dX8_init_259 : decode cX8_init 259 = .ok (.iastore, 1) := by decide +kernel
theorem dX8_init_260 : decode cX8_init 260 = .ok (.dup, 1) := by decide +kernel
theorem dX8_init_261 : decode cX8_init 261 = .ok (.bipush 16, 2) := by decide +kernel
theorem dX8_init_263 : decode cX8_init 263 = .ok (.bipush 105, 2) := by decide +kernel
theorem dX8_init_265 : decode cX8_init 265 = .ok (.iastore, 1) := by decide +kernel
theorem dX8_init_266 : decode cX8_init 266 = .ok (.dup, 1) := by decide +kernel
theorem dX8_init_267 : decode cX8_init 267 = .ok (.bipush 17, 2) := by decide +kernel
theorem dX8_init_269 : decode cX8_init 269 = .ok (.bipush 108, 2) := by decide +kernel
theorem dX8_init_271 : decode cX8_init 271 = .ok (.iastore, 1) := by decide +kernel
theorem dX8_init_272 : decode cX8_init 272 = .ok (.dup, 1) := by decide +kernel
theorem dX8_init_273 : decode cX8_init 273 = .ok (.bipush 18, 2) := by decide +kernel
theorem dX8_init_275 : decode cX8_init 275 = .ok (.bipush 108, 2) := by decide +kernel
theorem dX8_init_277 : decode cX8_init 277 = .ok (.iastore, 1) := by decide +kernel
theorem dX8_init_278 : decode cX8_init 278 = .ok (.dup, 1) := by decide +kernel
theorem dX8_init_279 : decode cX8_init 279 = .ok (.bipush 19, 2) := by decide +kernel
theorem dX8_init_281 : decode cX8_init 281 = .ok (.bipush 115, 2) := by decide +kernel
theorem dX8_init_283 : decode cX8_init 283 = .ok (.iastore, 1) := by decide +kernel
theorem dX8_init_284 : decode cX8_init 284 = .ok (.dup, 1) := by decide +kernel
theorem dX8_init_285 : decode cX8_init 285 = .ok (.bipush 20, 2) := by decide +kernel
theorem dX8_init_287 : decode cX8_init 287 = .ok (.bipush 106, 2) := by decide +kernel
theorem dX8_init_289 : decode cX8_init 289 = .ok (.iastore, 1) := by decide +kernel
theorem dX8_init_290 : decode cX8_init 290 = .ok (.dup, 1) := by decide +kernel
theorem dX8_init_291 : decode cX8_init 291 = .ok (.bipush 21, 2) := by decide +kernel
theorem dX8_init_293 : decode cX8_init 293 = .ok (.bipush 111, 2) := by decide +kernel
theorem dX8_init_295 : decode cX8_init 295 = .ok (.iastore, 1) := by decide +kernel
theorem dX8_init_296 : decode cX8_init 296 = .ok (.dup, 1) := by decide +kernel
theorem dX8_init_297 : decode cX8_init 297 = .ok (.bipush 22, 2) := by decide +kernel
theorem dX8_init_299 : decode cX8_init 299 = .ok (.bipush 105, 2) := by decide +kernel
theorem dX8_init_301 : decode cX8_init 301 = .ok (.iastore, 1) := by decide +kernel
theorem dX8_init_302 : decode cX8_init 302 = .ok (.dup, 1) := by decide +kernel
theorem dX8_init_303 : decode cX8_init 303 = .ok (.bipush 23, 2) := by decide +kernel
theorem dX8_init_305 : decode cX8_init 305 = .ok (.bipush 110, 2) := by decide +kernel
theorem dX8_init_307 : decode cX8_init 307 = .ok (.iastore, 1) := by decide +kernel
theorem dX8_init_308 : decode cX8_init 308 = .ok (.dup, 1) := by decide +kernel
theorem dX8_init_309 : decode cX8_init 309 = .ok (.bipush 24, 2) := by decide +kernel
theorem dX8_init_311 : decode cX8_init 311 = .ok (.bipush 115, 2) := by decide +kernel
theorem dX8_init_313 : decode cX8_init 313 = .ok (.iastore, 1) := by decide +kernel
theorem dX8_init_314 : decode cX8_init 314 = .ok (.putfield 73, 3) := by decide +kernel
theorem dX8_init_317 : decode cX8_init 317 = .ok (.aload_n 0, 1) := by decide +kernel
theorem dX8_init_318 : decode cX8_init 318 = .ok (.sipush 200, 3) := by decide +kernel
theorem dX8_init_321 : decode cX8_init 321 = .ok (.newarray .int, 2) := by decide +kernel
theorem dX8_init_323 : decode cX8_init 323 = .ok (.putfield 76, 3) := by decide +kernel
theorem dX8_init_326 : decode cX8_init 326 = .ok (.aload_n 0, 1) := by decide +kernel
theorem dX8_init_327 : decode cX8_init 327 = .ok (.bipush 15, 2) := by decide +kernel
theorem dX8_init_329 : decode cX8_init 329 = .ok (.newarray .int, 2) := by decide +kernel
theorem dX8_init_331 : decode cX8_init 331 = .ok (.putfield 79, 3) := by decide +kernel
theorem dX8_init_334 : decode cX8_init 334 = .ok (.aload_n 0, 1) := by decide +kernel
theorem dX8_init_335 : decode cX8_init 335 = .ok (.bipush 16, 2) := by decide +kernel
theorem dX8_init_337 : decode cX8_init 337 = .ok (.newarray .int, 2) := by decide +kernel
theorem dX8_init_339 : decode cX8_init 339 = .ok (.putfield 82, 3) := by decide +kernel
theorem dX8_init_342 : decode cX8_init 342 = .ok (.aload_n 0, 1) := by decide +kernel
theorem dX8_init_343 : decode cX8_init 343 = .ok (.bipush 40, 2) := by decide +kernel
theorem dX8_init_345 : decode cX8_init 345 = .ok (.newarray .int, 2) := by decide +kernel
theorem dX8_init_347 : decode cX8_init 347 = .ok (.putfield 85, 3) := by decide +kernel
theorem dX8_init_350 : decode cX8_init 350 = .ok (.aload_n 0, 1) := by decide +kernel
theorem dX8_init_351 : decode cX8_init 351 = .ok (.bipush 40, 2) := by decide +kernel
theorem dX8_init_353 : decode cX8_init 353 = .ok (.newarray .int, 2) := by decide +kernel
theorem dX8_init_355 : decode cX8_init 355 = .ok (.putfield 88, 3) := by decide +kernel
theorem dX8_init_358 : decode cX8_init 358 = .ok (.aload_n 0, 1) := by decide +kernel
theorem dX8_init_359 : decode cX8_init 359 = .ok (.bipush 12, 2) := by decide +kernel
theorem dX8_init_361 : decode cX8_init 361 = .ok (.newarray .int, 2) := by decide +kernel
theorem dX8_init_363 : decode cX8_init 363 = .ok (.putfield 91, 3) := by decide +kernel
theorem dX8_init_366 : decode cX8_init 366 = .ok (.aload_n 0, 1) := by decide +kernel
theorem dX8_init_367 : decode cX8_init 367 = .ok (.bipush 12, 2) := by decide +kernel
theorem dX8_init_369 : decode cX8_init 369 = .ok (.newarray .int, 2) := by decide +kernel
theorem dX8_init_371 : decode cX8_init 371 = .ok (.putfield 94, 3) := by decide +kernel
theorem dX8_init_374 : decode cX8_init 374 = .ok (.aload_n 0, 1) := by decide +kernel
theorem dX8_init_375 : decode cX8_init 375 = .ok (.sipush 240, 3) := by decide +kernel
theorem dX8_init_378 : decode cX8_init 378 = .ok (.newarray .int, 2) := by decide +kernel
theorem dX8_init_380 : decode cX8_init 380 = .ok (.putfield 97, 3) := by decide +kernel
theorem dX8_init_383 : decode cX8_init 383 = .ok (.aload_n 0, 1) := by decide +kernel
theorem dX8_init_384 : decode cX8_init 384 = .ok (.iconst 5, 1) := by decide +kernel
theorem dX8_init_385 : decode cX8_init 385 = .ok (.newarray .int, 2) := by decide +kernel
theorem dX8_init_387 : decode cX8_init 387 = .ok (.putfield 100, 3) := by decide +kernel
theorem dX8_init_390 : decode cX8_init 390 = .ok (.aload_n 0, 1) := by decide +kernel
theorem dX8_init_391 : decode cX8_init 391 = .ok (.bipush 6, 2) := by decide +kernel
theorem dX8_init_393 : decode cX8_init 393 = .ok (.newarray .int, 2) := by decide +kernel
theorem dX8_init_395 : decode cX8_init 395 = .ok (.putfield 103, 3) := by decide +kernel
theorem dX8_init_398 : decode cX8_init 398 = .ok (.aload_n 0, 1) := by decide +kernel
theorem dX8_init_399 : decode cX8_init 399 = .ok (.bipush 6, 2) := by decide +kernel
theorem dX8_init_401 : decode cX8_init 401 = .ok (.newarray .int, 2) := by decide +kernel
theorem dX8_init_403 : decode cX8_init 403 = .ok (.putfield 106, 3) := by decide +kernel
theorem dX8_init_406 : decode cX8_init 406 = .ok (.aload_n 0, 1) := by decide +kernel
theorem dX8_init_407 : decode cX8_init 407 = .ok (.sipush 360, 3) := by decide +kernel
theorem dX8_init_410 : decode cX8_init 410 = .ok (.newarray .long, 2) := by decide +kernel
theorem dX8_init_412 : decode cX8_init 412 = .ok (.putfield 109, 3) := by decide +kernel
theorem dX8_init_415 : decode cX8_init 415 = .ok (.aload_n 0, 1) := by decide +kernel
theorem dX8_init_416 : decode cX8_init 416 = .ok (.bipush 60, 2) := by decide +kernel
theorem dX8_init_418 : decode cX8_init 418 = .ok (.newarray .long, 2) := by decide +kernel
theorem dX8_init_420 : decode cX8_init 420 = .ok (.putfield 112, 3) := by decide +kernel
theorem dX8_init_423 : decode cX8_init 423 = .ok (.iconst 0, 1) := by decide +kernel
theorem dX8_init_424 : decode cX8_init 424 = .ok (.istore_n 1, 1) := by decide +kernel
theorem dX8_init_425 : decode cX8_init 425 = .ok (.iload_n 1, 1) := by decide +kernel
theorem dX8_init_426 : decode cX8_init 426 = .ok (.bipush 6, 2) := by decide +kernel
theorem dX8_init_428 : decode cX8_init 428 = .ok (.if_icmp .ge 16, 3) := by decide +kernel
theorem dX8_init_431 : decode cX8_init 431 = .ok (.aload_n 0, 1) := by decide +kernel
theorem dX8_init_432 : decode cX8_init 432 = .ok (.getfield 103, 3) := by decide +kernel
theorem dX8_init_435 : decode cX8_init 435 = .ok (.iload_n 1, 1) := by decide +kernel
theorem dX8_init_436 : decode cX8_init 436 = .ok (.iconst (-1), 1) := by decide +kernel
theorem dX8_init_437 : decode cX8_init 437 = .ok (.iastore, 1) := by decide +kernel
theorem dX8_init_438 : decode cX8_init 438 = .ok (.iinc 1 1, 3) := by decide +kernel
theorem dX8_init_441 : decode cX8_init 441 = .ok (.goto (-16), 3) := by decide +kernel
theorem dX8_init_444 : decode cX8_init 444 = .ok (.iconst 0, 1) := by decide +kernel
theorem dX8_init_445 : decode cX8_init 445 = .ok (.istore_n 1, 1) := by decide +kernel
theorem dX8_init_446 : decode cX8_init 446 = .ok (.iload_n 1, 1) := by decide +kernel
theorem dX8_init_447 : decode cX8_init 447 = .ok (.bipush 12, 2) := by decide +kernel
theorem dX8_init_449 : decode cX8_init 449 = .ok (.if_icmp .ge 16, 3) := by decide +kernel
theorem dX8_init_452 : decode cX8_init 452 = .ok (.aload_n 0, 1) := by decide +kernel
theorem dX8_init_453 : decode cX8_init 453 = .ok (.getfield 61, 3) := by decide +kernel
theorem dX8_init_456 : decode cX8_init 456 = .ok (.iload_n 1, 1) := by decide +kernel
theorem dX8_init_457 : decode cX8_init 457 = .ok (.iconst (-1), 1) := by decide +kernel
theorem dX8_init_458 : decode cX8_init 458 = .ok (.iastore, 1) := by decide +kernel
theorem dX8_init_459 : decode cX8_init 459 = .ok (.iinc 1 1, 3) := by decide +kernel
theorem dX8_init_462 : decode cX8_init 462 = .ok (.goto (-16), 3) := by decide +kernel
theorem dX8_init_465 : decode cX8_init 465 = .ok (.return_, 1) := by decide +kernel
theorem dX8_in_0 : decode cX8_in 0 = .ok (.iload_n 0, 1) := by decide +kernel
theorem dX8_in_1 : decode cX8_in 1 = .ok (.iload_n 1, 1) := by decide +kernel
theorem dX8_in_2 : decode cX8_in 2 = .ok (.if_icmp .lt 12, 3) := by decide +kernel
theorem dX8_in_5 : decode cX8_in 5 = .ok (.iload_n 0, 1) := by decide +kernel
theorem dX8_in_6 : decode cX8_in 6 = .ok (.iload_n 2, 1) := by decide +kernel
theorem dX8_in_7 : decode cX8_in 7 = .ok (.if_icmp .gt 7, 3) := by decide +kernel
theorem dX8_in_10 : decode cX8_in 10 = .ok (.iconst 1, 1) := by decide +kernel
theorem dX8_in_11 : decode cX8_in 11 = .ok (.goto 4, 3) := by decide +kernel
theorem dX8_in_14 : decode cX8_in 14 = .ok (.iconst 0, 1) := by decide +kernel
theorem dX8_in_15 : decode cX8_in 15 = .ok (.ireturn, 1) := by decide +kernel
theorem dX8_isUnit_0 : decode cX8_isUnit 0 = .ok (.iload_n 1, 1) := by decide +kernel
theorem dX8_isUnit_1 : decode cX8_isUnit 1 = .ok (.iconst 0, 1) := by decide +kernel
theorem dX8_isUnit_2 : decode cX8_isUnit 2 = .ok (.aload_n 0, 1) := by decide +kernel
theorem dX8_isUnit_3 : decode cX8_isUnit 3 = .ok (.getfield 119, 3) := by decide +kernel
theorem dX8_isUnit_6 : decode cX8_isUnit 6 = .ok (.iconst 1, 1) := by decide +kernel
theorem dX8_isUnit_7 : decode cX8_isUnit 7 = .ok (.isub, 1) := by decide +kernel
theorem dX8_isUnit_8 : decode cX8_isUnit 8 = .ok (.invokestatic 122, 3) := by decide +kernel
theorem dX8_isUnit_11 : decode cX8_isUnit 11 = .ok (.ireturn, 1) := by decide +kernel
theorem dX8_areTwo_0 : decode cX8_areTwo 0 = .ok (.aload_n 0, 1) := by decide +kernel
theorem dX8_areTwo_1 : decode cX8_areTwo 1 = .ok (.iload_n 1, 1) := by decide +kernel
theorem dX8_areTwo_2 : decode cX8_areTwo 2 = .ok (.invokevirtual 126, 3) := by decide +kernel
theorem dX8_areTwo_5 : decode cX8_areTwo 5 = .ok (.ifCond .eq 20, 3) := by decide +kernel
theorem dX8_areTwo_8 : decode cX8_areTwo 8 = .ok (.aload_n 0, 1) := by decide +kernel
theorem dX8_areTwo_9 : decode cX8_areTwo 9 = .ok (.iload_n 2, 1) := by decide +kernel
theorem dX8_areTwo_10 : decode cX8_areTwo 10 = .ok (.invokevirtual 126, 3) := by decide +kernel
theorem dX8_areTwo_13 : decode cX8_areTwo 13 = .ok (.ifCond .eq 12, 3) := by decide +kernel
theorem dX8_areTwo_16 : decode cX8_areTwo 16 = .ok (.iload_n 1, 1) := by decide +kernel
theorem dX8_areTwo_17 : decode cX8_areTwo 17 = .ok (.iload_n 2, 1) := by decide +kernel
theorem dX8_areTwo_18 : decode cX8_areTwo 18 = .ok (.if_icmp .eq 7, 3) := by decide +kernel
theorem dX8_areTwo_21 : decode cX8_areTwo 21 = .ok (.iconst 1, 1) := by decide +kernel
theorem dX8_areTwo_22 : decode cX8_areTwo 22 = .ok (.goto 4, 3) := by decide +kernel
theorem dX8_areTwo_25 : decode cX8_areTwo 25 = .ok (.iconst 0, 1) := by decide +kernel
theorem dX8_areTwo_26 : decode cX8_areTwo 26 = .ok (.ireturn, 1) := by decide +kernel
theorem dX8_isPhase_0 : decode cX8_isPhase 0 = .ok (.iload_n 0, 1) := by decide +kernel
theorem dX8_isPhase_1 : decode cX8_isPhase 1 = .ok (.iconst 0, 1) := by decide +kernel
theorem dX8_isPhase_2 : decode cX8_isPhase 2 = .ok (.iconst 5, 1) := by decide +kernel
theorem dX8_isPhase_3 : decode cX8_isPhase 3 = .ok (.invokestatic 122, 3) := by decide +kernel
theorem dX8_isPhase_6 : decode cX8_isPhase 6 = .ok (.ireturn, 1) := by decide +kernel
theorem dX8_has_0 : decode cX8_has 0 = .ok (.iload_n 0, 1) := by decide +kernel
theorem dX8_has_1 : decode cX8_has 1 = .ok (.iload_n 1, 1) := by decide +kernel
theorem dX8_has_2 : decode cX8_has 2 = .ok (.ishr, 1) := by decide +kernel
theorem dX8_has_3 : decode cX8_has 3 = .ok (.iconst 1, 1) := by decide +kernel
theorem dX8_has_4 : decode cX8_has 4 = .ok (.iand, 1) := by decide +kernel
theorem dX8_has_5 : decode cX8_has 5 = .ok (.iconst 1, 1) := by decide +kernel
theorem dX8_has_6 : decode cX8_has 6 = .ok (.if_icmp .ne 7, 3) := by decide +kernel
theorem dX8_has_9 : decode cX8_has 9 = .ok (.iconst 1, 1) := by decide +kernel
theorem dX8_has_10 : decode cX8_has 10 = .ok (.goto 4, 3) := by decide +kernel
theorem dX8_has_13 : decode cX8_has 13 = .ok (.iconst 0, 1) := by decide +kernel
theorem dX8_has_14 : decode cX8_has 14 = .ok (.ireturn, 1) := by decide +kernel
theorem dX8_sizeOf_0 : decode cX8_sizeOf 0 = .ok (.iconst 0, 1) := by decide +kernel
theorem dX8_sizeOf_1 : decode cX8_sizeOf 1 = .ok (.istore_n 1, 1) := by decide +kernel
theorem dX8_sizeOf_2 : decode cX8_sizeOf 2 = .ok (.iconst 0, 1) := by decide +kernel
theorem dX8_sizeOf_3 : decode cX8_sizeOf 3 = .ok (.istore_n 2, 1) := by decide +kernel
theorem dX8_sizeOf_4 : decode cX8_sizeOf 4 = .ok (.iload_n 2, 1) := by decide +kernel
theorem dX8_sizeOf_5 : decode cX8_sizeOf 5 = .ok (.bipush 12, 2) := by decide +kernel
theorem dX8_sizeOf_7 : decode cX8_sizeOf 7 = .ok (.if_icmp .ge 17, 3) := by decide +kernel
theorem dX8_sizeOf_10 : decode cX8_sizeOf 10 = .ok (.iload_n 1, 1) := by decide +kernel
theorem dX8_sizeOf_11 : decode cX8_sizeOf 11 = .ok (.iload_n 0, 1) := by decide +kernel
theorem dX8_sizeOf_12 : decode cX8_sizeOf 12 = .ok (.iload_n 2, 1) := by decide +kernel
theorem dX8_sizeOf_13 : decode cX8_sizeOf 13 = .ok (.ishr, 1) := by decide +kernel
theorem dX8_sizeOf_14 : decode cX8_sizeOf 14 = .ok (.iconst 1, 1) := by decide +kernel
theorem dX8_sizeOf_15 : decode cX8_sizeOf 15 = .ok (.iand, 1) := by decide +kernel
theorem dX8_sizeOf_16 : decode cX8_sizeOf 16 = .ok (.iadd, 1) := by decide +kernel
theorem dX8_sizeOf_17 : decode cX8_sizeOf 17 = .ok (.istore_n 1, 1) := by decide +kernel
theorem dX8_sizeOf_18 : decode cX8_sizeOf 18 = .ok (.iinc 2 1, 3) := by decide +kernel
theorem dX8_sizeOf_21 : decode cX8_sizeOf 21 = .ok (.goto (-17), 3) := by decide +kernel
theorem dX8_sizeOf_24 : decode cX8_sizeOf 24 = .ok (.iload_n 1, 1) := by decide +kernel
theorem dX8_sizeOf_25 : decode cX8_sizeOf 25 = .ok (.ireturn, 1) := by decide +kernel
theorem dX8_leastOf_0 : decode cX8_leastOf 0 = .ok (.iconst 0, 1) := by decide +kernel
theorem dX8_leastOf_1 : decode cX8_leastOf 1 = .ok (.istore_n 1, 1) := by decide +kernel
theorem dX8_leastOf_2 : decode cX8_leastOf 2 = .ok (.iload_n 1, 1) := by decide +kernel
theorem dX8_leastOf_3 : decode cX8_leastOf 3 = .ok (.bipush 12, 2) := by decide +kernel
theorem dX8_leastOf_5 : decode cX8_leastOf 5 = .ok (.if_icmp .ge 19, 3) := by decide +kernel
theorem dX8_leastOf_8 : decode cX8_leastOf 8 = .ok (.iload_n 0, 1) := by decide +kernel
theorem dX8_leastOf_9 : decode cX8_leastOf 9 = .ok (.iload_n 1, 1) := by decide +kernel
theorem dX8_leastOf_10 : decode cX8_leastOf 10 = .ok (.invokestatic 130, 3) := by decide +kernel
theorem dX8_leastOf_13 : decode cX8_leastOf 13 = .ok (.ifCond .eq 5, 3) := by decide +kernel
theorem dX8_leastOf_16 : decode cX8_leastOf 16 = .ok (.iload_n 1, 1) := by decide +kernel
theorem dX8_leastOf_17 : decode cX8_leastOf 17 = .ok (.ireturn, 1) := by decide +kernel
theorem dX8_leastOf_18 : decode cX8_leastOf 18 = .ok (.iinc 1 1, 3) := by decide +kernel
theorem dX8_leastOf_21 : decode cX8_leastOf 21 = .ok (.goto (-19), 3) := by decide +kernel
theorem dX8_leastOf_24 : decode cX8_leastOf 24 = .ok (.iconst (-1), 1) := by decide +kernel
theorem dX8_leastOf_25 : decode cX8_leastOf 25 = .ok (.ireturn, 1) := by decide +kernel
theorem dX8_unit_0 : decode cX8_unit 0 = .ok (.iload_n 1, 1) := by decide +kernel
theorem dX8_unit_1 : decode cX8_unit 1 = .ok (.iconst 0, 1) := by decide +kernel
theorem dX8_unit_2 : decode cX8_unit 2 = .ok (.iconst 5, 1) := by decide +kernel
theorem dX8_unit_3 : decode cX8_unit 3 = .ok (.invokestatic 122, 3) := by decide +kernel
theorem dX8_unit_6 : decode cX8_unit 6 = .ok (.ifCond .ne 6, 3) := by decide +kernel
theorem dX8_unit_9 : decode cX8_unit 9 = .ok (.bipush (-2), 2) := by decide +kernel
theorem dX8_unit_11 : decode cX8_unit 11 = .ok (.ireturn, 1) := by decide +kernel
theorem dX8_unit_12 : decode cX8_unit 12 = .ok (.aload_n 0, 1) := by decide +kernel
theorem dX8_unit_13 : decode cX8_unit 13 = .ok (.getfield 119, 3) := by decide +kernel
theorem dX8_unit_16 : decode cX8_unit 16 = .ok (.bipush 12, 2) := by decide +kernel
theorem dX8_unit_18 : decode cX8_unit 18 = .ok (.if_icmp .ne 6, 3) := by decide +kernel
theorem dX8_unit_21 : decode cX8_unit 21 = .ok (.bipush (-4), 2) := by decide +kernel
theorem dX8_unit_23 : decode cX8_unit 23 = .ok (.ireturn, 1) := by decide +kernel
theorem dX8_unit_24 : decode cX8_unit 24 = .ok (.aload_n 0, 1) := by decide +kernel
theorem dX8_unit_25 : decode cX8_unit 25 = .ok (.getfield 11, 3) := by decide +kernel
theorem dX8_unit_28 : decode cX8_unit 28 = .ok (.aload_n 0, 1) := by decide +kernel
theorem dX8_unit_29 : decode cX8_unit 29 = .ok (.getfield 119, 3) := by decide +kernel
theorem dX8_unit_32 : decode cX8_unit 32 = .ok (.iload_n 1, 1) := by decide +kernel
theorem dX8_unit_33 : decode cX8_unit 33 = .ok (.iastore, 1) := by decide +kernel
theorem dX8_unit_34 : decode cX8_unit 34 = .ok (.aload_n 0, 1) := by decide +kernel
theorem dX8_unit_35 : decode cX8_unit 35 = .ok (.getfield 15, 3) := by decide +kernel
theorem dX8_unit_38 : decode cX8_unit 38 = .ok (.aload_n 0, 1) := by decide +kernel
theorem dX8_unit_39 : decode cX8_unit 39 = .ok (.getfield 119, 3) := by decide +kernel
theorem dX8_unit_42 : decode cX8_unit 42 = .ok (.iconst 1, 1) := by decide +kernel
theorem dX8_unit_43 : decode cX8_unit 43 = .ok (.iastore, 1) := by decide +kernel
theorem dX8_unit_44 : decode cX8_unit 44 = .ok (.aload_n 0, 1) := by decide +kernel
theorem dX8_unit_45 : decode cX8_unit 45 = .ok (.getfield 18, 3) := by decide +kernel
theorem dX8_unit_48 : decode cX8_unit 48 = .ok (.aload_n 0, 1) := by decide +kernel
theorem dX8_unit_49 : decode cX8_unit 49 = .ok (.getfield 119, 3) := by decide +kernel
theorem dX8_unit_52 : decode cX8_unit 52 = .ok (.iconst 0, 1) := by decide +kernel
theorem dX8_unit_53 : decode cX8_unit 53 = .ok (.iastore, 1) := by decide +kernel
theorem dX8_unit_54 : decode cX8_unit 54 = .ok (.aload_n 0, 1) := by decide +kernel
theorem dX8_unit_55 : decode cX8_unit 55 = .ok (.getfield 21, 3) := by decide +kernel
theorem dX8_unit_58 : decode cX8_unit 58 = .ok (.aload_n 0, 1) := by decide +kernel
theorem dX8_unit_59 : decode cX8_unit 59 = .ok (.getfield 119, 3) := by decide +kernel
theorem dX8_unit_62 : decode cX8_unit 62 = .ok (.sipush 2000, 3) := by decide +kernel
theorem dX8_unit_65 : decode cX8_unit 65 = .ok (.iastore, 1) := by decide +kernel
theorem dX8_unit_66 : decode cX8_unit 66 = .ok (.aload_n 0, 1) := by decide +kernel
theorem dX8_unit_67 : decode cX8_unit 67 = .ok (.getfield 24, 3) := by decide +kernel
theorem dX8_unit_70 : decode cX8_unit 70 = .ok (.aload_n 0, 1) := by decide +kernel
theorem dX8_unit_71 : decode cX8_unit 71 = .ok (.getfield 119, 3) := by decide +kernel
theorem dX8_unit_74 : decode cX8_unit 74 = .ok (.iconst (-1), 1) := by decide +kernel
theorem dX8_unit_75 : decode cX8_unit 75 = .ok (.iastore, 1) := by decide +kernel
theorem dX8_unit_76 : decode cX8_unit 76 = .ok (.aload_n 0, 1) := by decide +kernel
theorem dX8_unit_77 : decode cX8_unit 77 = .ok (.dup, 1) := by decide +kernel
theorem dX8_unit_78 : decode cX8_unit 78 = .ok (.getfield 119, 3) := by decide +kernel
theorem dX8_unit_81 : decode cX8_unit 81 = .ok (.iconst 1, 1) := by decide +kernel
theorem dX8_unit_82 : decode cX8_unit 82 = .ok (.iadd, 1) := by decide +kernel
theorem dX8_unit_83 : decode cX8_unit 83 = .ok (.putfield 119, 3) := by decide +kernel
theorem dX8_unit_86 : decode cX8_unit 86 = .ok (.aload_n 0, 1) := by decide +kernel
theorem dX8_unit_87 : decode cX8_unit 87 = .ok (.getfield 119, 3) := by decide +kernel
theorem dX8_unit_90 : decode cX8_unit 90 = .ok (.iconst 1, 1) := by decide +kernel
theorem dX8_unit_91 : decode cX8_unit 91 = .ok (.isub, 1) := by decide +kernel
theorem dX8_unit_92 : decode cX8_unit 92 = .ok (.ireturn, 1) := by decide +kernel
theorem dX8_isSet_0 : decode cX8_isSet 0 = .ok (.iload_n 0, 1) := by decide +kernel
theorem dX8_isSet_1 : decode cX8_isSet 1 = .ok (.tableswitch 55 0 3 #[31, 38, 46, 46], 31) := by decide +kernel
theorem dX8_isSet_32 : decode cX8_isSet 32 = .ok (.iload_n 1, 1) := by decide +kernel
theorem dX8_isSet_33 : decode cX8_isSet 33 = .ok (.iconst 0, 1) := by decide +kernel
theorem dX8_isSet_34 : decode cX8_isSet 34 = .ok (.iconst 5, 1) := by decide +kernel
theorem dX8_isSet_35 : decode cX8_isSet 35 = .ok (.invokestatic 122, 3) := by decide +kernel
theorem dX8_isSet_38 : decode cX8_isSet 38 = .ok (.ireturn, 1) := by decide +kernel
theorem dX8_isSet_39 : decode cX8_isSet 39 = .ok (.iload_n 1, 1) := by decide +kernel
theorem dX8_isSet_40 : decode cX8_isSet 40 = .ok (.iconst 0, 1) := by decide +kernel
theorem dX8_isSet_41 : decode cX8_isSet 41 = .ok (.bipush 99, 2) := by decide +kernel
theorem dX8_isSet_43 : decode cX8_isSet 43 = .ok (.invokestatic 122, 3) := by decide +kernel
theorem dX8_isSet_46 : decode cX8_isSet 46 = .ok (.ireturn, 1) := by decide +kernel
theorem dX8_isSet_47 : decode cX8_isSet 47 = .ok (.iload_n 1, 1) := by decide +kernel
theorem dX8_isSet_48 : decode cX8_isSet 48 = .ok (.iconst 0, 1) := by decide +kernel
theorem dX8_isSet_49 : decode cX8_isSet 49 = .ok (.sipush 2000, 3) := by decide +kernel
theorem dX8_isSet_52 : decode cX8_isSet 52 = .ok (.invokestatic 122, 3) := by decide +kernel
theorem dX8_isSet_55 : decode cX8_isSet 55 = .ok (.ireturn, 1) := by decide +kernel
theorem dX8_isSet_56 : decode cX8_isSet 56 = .ok (.iload_n 1, 1) := by decide +kernel
theorem dX8_isSet_57 : decode cX8_isSet 57 = .ok (.iconst (-1), 1) := by decide +kernel
theorem dX8_isSet_58 : decode cX8_isSet 58 = .ok (.iconst 5, 1) := by decide +kernel
theorem dX8_isSet_59 : decode cX8_isSet 59 = .ok (.invokestatic 122, 3) := by decide +kernel
theorem dX8_isSet_62 : decode cX8_isSet 62 = .ok (.ireturn, 1) := by decide +kernel
theorem dX8_heldBy_0 : decode cX8_heldBy 0 = .ok (.iload_n 2, 1) := by decide +kernel
theorem dX8_heldBy_1 : decode cX8_heldBy 1 = .ok (.tableswitch 59 0 3 #[31, 38, 45, 52], 31) := by decide +kernel
theorem dX8_heldBy_32 : decode cX8_heldBy 32 = .ok (.aload_n 0, 1) := by decide +kernel
theorem dX8_heldBy_33 : decode cX8_heldBy 33 = .ok (.getfield 11, 3) := by decide +kernel
theorem dX8_heldBy_36 : decode cX8_heldBy 36 = .ok (.iload_n 1, 1) := by decide +kernel
theorem dX8_heldBy_37 : decode cX8_heldBy 37 = .ok (.iaload, 1) := by decide +kernel
theorem dX8_heldBy_38 : decode cX8_heldBy 38 = .ok (.ireturn, 1) := by decide +kernel
theorem dX8_heldBy_39 : decode cX8_heldBy 39 = .ok (.aload_n 0, 1) := by decide +kernel
theorem dX8_heldBy_40 : decode cX8_heldBy 40 = .ok (.getfield 15, 3) := by decide +kernel
theorem dX8_heldBy_43 : decode cX8_heldBy 43 = .ok (.iload_n 1, 1) := by decide +kernel
theorem dX8_heldBy_44 : decode cX8_heldBy 44 = .ok (.iaload, 1) := by decide +kernel
theorem dX8_heldBy_45 : decode cX8_heldBy 45 = .ok (.ireturn, 1) := by decide +kernel
theorem dX8_heldBy_46 : decode cX8_heldBy 46 = .ok (.aload_n 0, 1) := by decide +kernel
theorem dX8_heldBy_47 : decode cX8_heldBy 47 = .ok (.getfield 18, 3) := by decide +kernel
theorem dX8_heldBy_50 : decode cX8_heldBy 50 = .ok (.iload_n 1, 1) := by decide +kernel
theorem dX8_heldBy_51 : decode cX8_heldBy 51 = .ok (.iaload, 1) := by decide +kernel
theorem dX8_heldBy_52 : decode cX8_heldBy 52 = .ok (.ireturn, 1) := by decide +kernel
theorem dX8_heldBy_53 : decode cX8_heldBy 53 = .ok (.aload_n 0, 1) := by decide +kernel
theorem dX8_heldBy_54 : decode cX8_heldBy 54 = .ok (.getfield 21, 3) := by decide +kernel
theorem dX8_heldBy_57 : decode cX8_heldBy 57 = .ok (.iload_n 1, 1) := by decide +kernel
theorem dX8_heldBy_58 : decode cX8_heldBy 58 = .ok (.iaload, 1) := by decide +kernel
theorem dX8_heldBy_59 : decode cX8_heldBy 59 = .ok (.ireturn, 1) := by decide +kernel
theorem dX8_heldBy_60 : decode cX8_heldBy 60 = .ok (.aload_n 0, 1) := by decide +kernel
theorem dX8_heldBy_61 : decode cX8_heldBy 61 = .ok (.getfield 24, 3) := by decide +kernel
theorem dX8_heldBy_64 : decode cX8_heldBy 64 = .ok (.iload_n 1, 1) := by decide +kernel
theorem dX8_heldBy_65 : decode cX8_heldBy 65 = .ok (.iaload, 1) := by decide +kernel
theorem dX8_heldBy_66 : decode cX8_heldBy 66 = .ok (.iconst (-1), 1) := by decide +kernel
theorem dX8_heldBy_67 : decode cX8_heldBy 67 = .ok (.if_icmp .ne 8, 3) := by decide +kernel
theorem dX8_heldBy_70 : decode cX8_heldBy 70 = .ok (.bipush (-5), 2) := by decide +kernel
theorem dX8_heldBy_72 : decode cX8_heldBy 72 = .ok (.goto 9, 3) := by decide +kernel
theorem dX8_heldBy_75 : decode cX8_heldBy 75 = .ok (.aload_n 0, 1) := by decide +kernel
theorem dX8_heldBy_76 : decode cX8_heldBy 76 = .ok (.getfield 24, 3) := by decide +kernel
theorem dX8_heldBy_79 : decode cX8_heldBy 79 = .ok (.iload_n 1, 1) := by decide +kernel
theorem dX8_heldBy_80 : decode cX8_heldBy 80 = .ok (.iaload, 1) := by decide +kernel
theorem dX8_heldBy_81 : decode cX8_heldBy 81 = .ok (.ireturn, 1) := by decide +kernel
theorem dX8_lays_0 : decode cX8_lays 0 = .ok (.iload_n 2, 1) := by decide +kernel
theorem dX8_lays_1 : decode cX8_lays 1 = .ok (.tableswitch 71 0 3 #[31, 41, 51, 61], 31) := by decide +kernel
theorem dX8_lays_32 : decode cX8_lays 32 = .ok (.aload_n 0, 1) := by decide +kernel
theorem dX8_lays_33 : decode cX8_lays 33 = .ok (.getfield 11, 3) := by decide +kernel
theorem dX8_lays_36 : decode cX8_lays 36 = .ok (.iload_n 1, 1) := by decide +kernel
theorem dX8_lays_37 : decode cX8_lays 37 = .ok (.iload_n 3, 1) := by decide +kernel
theorem dX8_lays_38 : decode cX8_lays 38 = .ok (.iastore, 1) := by decide +kernel
theorem dX8_lays_39 : decode cX8_lays 39 = .ok (.goto 40, 3) := by decide +kernel
theorem dX8_lays_42 : decode cX8_lays 42 = .ok (.aload_n 0, 1) := by decide +kernel
theorem dX8_lays_43 : decode cX8_lays 43 = .ok (.getfield 15, 3) := by decide +kernel
theorem dX8_lays_46 : decode cX8_lays 46 = .ok (.iload_n 1, 1) := by decide +kernel
theorem dX8_lays_47 : decode cX8_lays 47 = .ok (.iload_n 3, 1) := by decide +kernel
theorem dX8_lays_48 : decode cX8_lays 48 = .ok (.iastore, 1) := by decide +kernel
theorem dX8_lays_49 : decode cX8_lays 49 = .ok (.goto 30, 3) := by decide +kernel
theorem dX8_lays_52 : decode cX8_lays 52 = .ok (.aload_n 0, 1) := by decide +kernel
theorem dX8_lays_53 : decode cX8_lays 53 = .ok (.getfield 18, 3) := by decide +kernel
theorem dX8_lays_56 : decode cX8_lays 56 = .ok (.iload_n 1, 1) := by decide +kernel
theorem dX8_lays_57 : decode cX8_lays 57 = .ok (.iload_n 3, 1) := by decide +kernel
theorem dX8_lays_58 : decode cX8_lays 58 = .ok (.iastore, 1) := by decide +kernel
theorem dX8_lays_59 : decode cX8_lays 59 = .ok (.goto 20, 3) := by decide +kernel
theorem dX8_lays_62 : decode cX8_lays 62 = .ok (.aload_n 0, 1) := by decide +kernel
theorem dX8_lays_63 : decode cX8_lays 63 = .ok (.getfield 21, 3) := by decide +kernel
theorem dX8_lays_66 : decode cX8_lays 66 = .ok (.iload_n 1, 1) := by decide +kernel
theorem dX8_lays_67 : decode cX8_lays 67 = .ok (.iload_n 3, 1) := by decide +kernel
theorem dX8_lays_68 : decode cX8_lays 68 = .ok (.iastore, 1) := by decide +kernel
theorem dX8_lays_69 : decode cX8_lays 69 = .ok (.goto 10, 3) := by decide +kernel
theorem dX8_lays_72 : decode cX8_lays 72 = .ok (.aload_n 0, 1) := by decide +kernel
theorem dX8_lays_73 : decode cX8_lays 73 = .ok (.getfield 24, 3) := by decide +kernel
theorem dX8_lays_76 : decode cX8_lays 76 = .ok (.iload_n 1, 1) := by decide +kernel
theorem dX8_lays_77 : decode cX8_lays 77 = .ok (.iload_n 3, 1) := by decide +kernel
theorem dX8_lays_78 : decode cX8_lays 78 = .ok (.iastore, 1) := by decide +kernel
theorem dX8_lays_79 : decode cX8_lays 79 = .ok (.return_, 1) := by decide +kernel
theorem dX8_set_0 : decode cX8_set 0 = .ok (.aload_n 0, 1) := by decide +kernel
theorem dX8_set_1 : decode cX8_set 1 = .ok (.iload_n 1, 1) := by decide +kernel
theorem dX8_set_2 : decode cX8_set 2 = .ok (.invokevirtual 126, 3) := by decide +kernel
theorem dX8_set_5 : decode cX8_set 5 = .ok (.ifCond .eq 12, 3) := by decide +kernel
theorem dX8_set_8 : decode cX8_set 8 = .ok (.iload_n 2, 1) := by decide +kernel
theorem dX8_set_9 : decode cX8_set 9 = .ok (.iconst 0, 1) := by decide +kernel
theorem dX8_set_10 : decode cX8_set 10 = .ok (.iconst 4, 1) := by decide +kernel
theorem dX8_set_11 : decode cX8_set 11 = .ok (.invokestatic 122, 3) := by decide +kernel
theorem dX8_set_14 : decode cX8_set 14 = .ok (.ifCond .ne 5, 3) := by decide +kernel
theorem dX8_set_17 : decode cX8_set 17 = .ok (.iconst (-1), 1) := by decide +kernel
theorem dX8_set_18 : decode cX8_set 18 = .ok (.ireturn, 1) := by decide +kernel
theorem dX8_set_19 : decode cX8_set 19 = .ok (.iload_n 2, 1) := by decide +kernel
theorem dX8_set_20 : decode cX8_set 20 = .ok (.iload_n 3, 1) := by decide +kernel
theorem dX8_set_21 : decode cX8_set 21 = .ok (.invokestatic 134, 3) := by decide +kernel
theorem dX8_set_24 : decode cX8_set 24 = .ok (.ifCond .ne 6, 3) := by decide +kernel
theorem dX8_set_27 : decode cX8_set 27 = .ok (.bipush (-2), 2) := by decide +kernel
theorem dX8_set_29 : decode cX8_set 29 = .ok (.ireturn, 1) := by decide +kernel
theorem dX8_set_30 : decode cX8_set 30 = .ok (.aload_n 0, 1) := by decide +kernel
theorem dX8_set_31 : decode cX8_set 31 = .ok (.iload_n 1, 1) := by decide +kernel
theorem dX8_set_32 : decode cX8_set 32 = .ok (.iload_n 2, 1) := by decide +kernel
theorem dX8_set_33 : decode cX8_set 33 = .ok (.invokevirtual 137, 3) := by decide +kernel
theorem dX8_set_36 : decode cX8_set 36 = .ok (.istore 4, 2) := by decide +kernel
theorem dX8_set_38 : decode cX8_set 38 = .ok (.aload_n 0, 1) := by decide +kernel
theorem dX8_set_39 : decode cX8_set 39 = .ok (.iload_n 1, 1) := by decide +kernel
theorem dX8_set_40 : decode cX8_set 40 = .ok (.iload_n 2, 1) := by decide +kernel
theorem dX8_set_41 : decode cX8_set 41 = .ok (.iload_n 3, 1) := by decide +kernel
theorem dX8_set_42 : decode cX8_set 42 = .ok (.invokevirtual 141, 3) := by decide +kernel
theorem dX8_set_45 : decode cX8_set 45 = .ok (.iload 4, 2) := by decide +kernel
theorem dX8_set_47 : decode cX8_set 47 = .ok (.ireturn, 1) := by decide +kernel
theorem dX8_dugSet_0 : decode cX8_dugSet 0 = .ok (.iconst 0, 1) := by decide +kernel
theorem dX8_dugSet_1 : decode cX8_dugSet 1 = .ok (.istore_n 1, 1) := by decide +kernel
theorem dX8_dugSet_2 : decode cX8_dugSet 2 = .ok (.iconst 0, 1) := by decide +kernel
theorem dX8_dugSet_3 : decode cX8_dugSet 3 = .ok (.istore_n 2, 1) := by decide +kernel
theorem dX8_dugSet_4 : decode cX8_dugSet 4 = .ok (.iload_n 2, 1) := by decide +kernel
theorem dX8_dugSet_5 : decode cX8_dugSet 5 = .ok (.aload_n 0, 1) := by decide +kernel
theorem dX8_dugSet_6 : decode cX8_dugSet 6 = .ok (.getfield 145, 3) := by decide +kernel
theorem dX8_dugSet_9 : decode cX8_dugSet 9 = .ok (.if_icmp .ge 20, 3) := by decide +kernel
theorem dX8_dugSet_12 : decode cX8_dugSet 12 = .ok (.iload_n 1, 1) := by decide +kernel
theorem dX8_dugSet_13 : decode cX8_dugSet 13 = .ok (.iconst 1, 1) := by decide +kernel
theorem dX8_dugSet_14 : decode cX8_dugSet 14 = .ok (.aload_n 0, 1) := by decide +kernel
theorem dX8_dugSet_15 : decode cX8_dugSet 15 = .ok (.getfield 33, 3) := by decide +kernel
theorem dX8_dugSet_18 : decode cX8_dugSet 18 = .ok (.iload_n 2, 1) := by decide +kernel
theorem dX8_dugSet_19 : decode cX8_dugSet 19 = .ok (.iaload, 1) := by decide +kernel
theorem dX8_dugSet_20 : decode cX8_dugSet 20 = .ok (.ishl, 1) := by decide +kernel
theorem dX8_dugSet_21 : decode cX8_dugSet 21 = .ok (.ior, 1) := by decide +kernel
theorem dX8_dugSet_22 : decode cX8_dugSet 22 = .ok (.istore_n 1, 1) := by decide +kernel
theorem dX8_dugSet_23 : decode cX8_dugSet 23 = .ok (.iinc 2 1, 3) := by decide +kernel
theorem dX8_dugSet_26 : decode cX8_dugSet 26 = .ok (.goto (-22), 3) := by decide +kernel
theorem dX8_dugSet_29 : decode cX8_dugSet 29 = .ok (.iload_n 1, 1) := by decide +kernel
theorem dX8_dugSet_30 : decode cX8_dugSet 30 = .ok (.ireturn, 1) := by decide +kernel
theorem dX8_of_0 : decode cX8_of 0 = .ok (.aload_n 0, 1) := by decide +kernel
theorem dX8_of_1 : decode cX8_of 1 = .ok (.iload_n 1, 1) := by decide +kernel
theorem dX8_of_2 : decode cX8_of 2 = .ok (.invokevirtual 126, 3) := by decide +kernel
theorem dX8_of_5 : decode cX8_of 5 = .ok (.ifCond .eq 12, 3) := by decide +kernel
theorem dX8_of_8 : decode cX8_of 8 = .ok (.iload_n 2, 1) := by decide +kernel
theorem dX8_of_9 : decode cX8_of 9 = .ok (.iconst 0, 1) := by decide +kernel
theorem dX8_of_10 : decode cX8_of 10 = .ok (.iconst 5, 1) := by decide +kernel
theorem dX8_of_11 : decode cX8_of 11 = .ok (.invokestatic 122, 3) := by decide +kernel
theorem dX8_of_14 : decode cX8_of 14 = .ok (.ifCond .ne 5, 3) := by decide +kernel
theorem dX8_of_17 : decode cX8_of 17 = .ok (.iconst (-1), 1) := by decide +kernel
theorem dX8_of_18 : decode cX8_of 18 = .ok (.ireturn, 1) := by decide +kernel
theorem dX8_of_19 : decode cX8_of 19 = .ok (.iload_n 2, 1) := by decide +kernel
theorem dX8_of_20 : decode cX8_of 20 = .ok (.iconst 5, 1) := by decide +kernel
theorem dX8_of_21 : decode cX8_of 21 = .ok (.if_icmp .ne 14, 3) := by decide +kernel
theorem dX8_of_24 : decode cX8_of 24 = .ok (.aload_n 0, 1) := by decide +kernel
theorem dX8_of_25 : decode cX8_of 25 = .ok (.invokevirtual 148, 3) := by decide +kernel
theorem dX8_of_28 : decode cX8_of 28 = .ok (.iload_n 1, 1) := by decide +kernel
theorem dX8_of_29 : decode cX8_of 29 = .ok (.ishr, 1) := by decide +kernel
theorem dX8_of_30 : decode cX8_of 30 = .ok (.iconst 1, 1) := by decide +kernel
theorem dX8_of_31 : decode cX8_of 31 = .ok (.iand, 1) := by decide +kernel
theorem dX8_of_32 : decode cX8_of 32 = .ok (.goto 9, 3) := by decide +kernel
theorem dX8_of_35 : decode cX8_of 35 = .ok (.aload_n 0, 1) := by decide +kernel
theorem dX8_of_36 : decode cX8_of 36 = .ok (.iload_n 1, 1) := by decide +kernel
theorem dX8_of_37 : decode cX8_of 37 = .ok (.iload_n 2, 1) := by decide +kernel
theorem dX8_of_38 : decode cX8_of 38 = .ok (.invokevirtual 137, 3) := by decide +kernel
theorem dX8_of_41 : decode cX8_of 41 = .ok (.ireturn, 1) := by decide +kernel
theorem dX8_tieAt_0 : decode cX8_tieAt 0 = .ok (.iconst (-1), 1) := by decide +kernel
theorem dX8_tieAt_1 : decode cX8_tieAt 1 = .ok (.istore_n 3, 1) := by decide +kernel
theorem dX8_tieAt_2 : decode cX8_tieAt 2 = .ok (.iconst 0, 1) := by decide +kernel
theorem dX8_tieAt_3 : decode cX8_tieAt 3 = .ok (.istore 4, 2) := by decide +kernel
theorem dX8_tieAt_5 : decode cX8_tieAt 5 = .ok (.iload 4, 2) := by decide +kernel
theorem dX8_tieAt_7 : decode cX8_tieAt 7 = .ok (.aload_n 0, 1) := by decide +kernel
theorem dX8_tieAt_8 : decode cX8_tieAt 8 = .ok (.getfield 152, 3) := by decide +kernel
theorem dX8_tieAt_11 : decode cX8_tieAt 11 = .ok (.if_icmp .ge 38, 3) := by decide +kernel
theorem dX8_tieAt_14 : decode cX8_tieAt 14 = .ok (.aload_n 0, 1) := by decide +kernel
theorem dX8_tieAt_15 : decode cX8_tieAt 15 = .ok (.getfield 27, 3) := by decide +kernel
theorem dX8_tieAt_18 : decode cX8_tieAt 18 = .ok (.iload 4, 2) := by decide +kernel
theorem dX8_tieAt_20 : decode cX8_tieAt 20 = .ok (.iaload, 1) := by decide +kernel
theorem dX8_tieAt_21 : decode cX8_tieAt 21 = .ok (.iload_n 1, 1) := by decide +kernel
theorem dX8_tieAt_22 : decode cX8_tieAt 22 = .ok (.if_icmp .ne 19, 3) := by decide +kernel
theorem dX8_tieAt_25 : decode cX8_tieAt 25 = .ok (.aload_n 0, 1) := by decide +kernel
theorem dX8_tieAt_26 : decode cX8_tieAt 26 = .ok (.getfield 30, 3) := by decide +kernel
theorem dX8_tieAt_29 : decode cX8_tieAt 29 = .ok (.iload 4, 2) := by decide +kernel
theorem dX8_tieAt_31 : decode cX8_tieAt 31 = .ok (.iaload, 1) := by decide +kernel
theorem dX8_tieAt_32 : decode cX8_tieAt 32 = .ok (.iload_n 2, 1) := by decide +kernel
theorem dX8_tieAt_33 : decode cX8_tieAt 33 = .ok (.if_icmp .ne 8, 3) := by decide +kernel
theorem dX8_tieAt_36 : decode cX8_tieAt 36 = .ok (.iload 4, 2) := by decide +kernel
theorem dX8_tieAt_38 : decode cX8_tieAt 38 = .ok (.goto 4, 3) := by decide +kernel
theorem dX8_tieAt_41 : decode cX8_tieAt 41 = .ok (.iload_n 3, 1) := by decide +kernel
theorem dX8_tieAt_42 : decode cX8_tieAt 42 = .ok (.istore_n 3, 1) := by decide +kernel
theorem dX8_tieAt_43 : decode cX8_tieAt 43 = .ok (.iinc 4 1, 3) := by decide +kernel
theorem dX8_tieAt_46 : decode cX8_tieAt 46 = .ok (.goto (-41), 3) := by decide +kernel
theorem dX8_tieAt_49 : decode cX8_tieAt 49 = .ok (.iload_n 3, 1) := by decide +kernel
theorem dX8_tieAt_50 : decode cX8_tieAt 50 = .ok (.ireturn, 1) := by decide +kernel
theorem dX8_tie_0 : decode cX8_tie 0 = .ok (.aload_n 0, 1) := by decide +kernel
theorem dX8_tie_1 : decode cX8_tie 1 = .ok (.iload_n 1, 1) := by decide +kernel
theorem dX8_tie_2 : decode cX8_tie 2 = .ok (.iload_n 2, 1) := by decide +kernel
theorem dX8_tie_3 : decode cX8_tie 3 = .ok (.invokevirtual 155, 3) := by decide +kernel
theorem dX8_tie_6 : decode cX8_tie 6 = .ok (.ifCond .ne 5, 3) := by decide +kernel
theorem dX8_tie_9 : decode cX8_tie 9 = .ok (.iconst (-1), 1) := by decide +kernel
theorem dX8_tie_10 : decode cX8_tie 10 = .ok (.ireturn, 1) := by decide +kernel
theorem dX8_tie_11 : decode cX8_tie 11 = .ok (.aload_n 0, 1) := by decide +kernel
theorem dX8_tie_12 : decode cX8_tie 12 = .ok (.iload_n 1, 1) := by decide +kernel
theorem dX8_tie_13 : decode cX8_tie 13 = .ok (.iload_n 2, 1) := by decide +kernel
theorem dX8_tie_14 : decode cX8_tie 14 = .ok (.invokevirtual 158, 3) := by decide +kernel
theorem dX8_tie_17 : decode cX8_tie 17 = .ok (.iconst (-1), 1) := by decide +kernel
theorem dX8_tie_18 : decode cX8_tie 18 = .ok (.if_icmp .eq 6, 3) := by decide +kernel
theorem dX8_tie_21 : decode cX8_tie 21 = .ok (.bipush (-3), 2) := by decide +kernel
theorem dX8_tie_23 : decode cX8_tie 23 = .ok (.ireturn, 1) := by decide +kernel
theorem dX8_tie_24 : decode cX8_tie 24 = .ok (.aload_n 0, 1) := by decide +kernel
theorem dX8_tie_25 : decode cX8_tie 25 = .ok (.getfield 152, 3) := by decide +kernel
theorem dX8_tie_28 : decode cX8_tie 28 = .ok (.bipush 40, 2) := by decide +kernel
theorem dX8_tie_30 : decode cX8_tie 30 = .ok (.if_icmp .ne 6, 3) := by decide +kernel
theorem dX8_tie_33 : decode cX8_tie 33 = .ok (.bipush (-4), 2) := by decide +kernel
theorem dX8_tie_35 : decode cX8_tie 35 = .ok (.ireturn, 1) := by decide +kernel
theorem dX8_tie_36 : decode cX8_tie 36 = .ok (.aload_n 0, 1) := by decide +kernel
theorem dX8_tie_37 : decode cX8_tie 37 = .ok (.getfield 27, 3) := by decide +kernel
theorem dX8_tie_40 : decode cX8_tie 40 = .ok (.aload_n 0, 1) := by decide +kernel
theorem dX8_tie_41 : decode cX8_tie 41 = .ok (.getfield 152, 3) := by decide +kernel
theorem dX8_tie_44 : decode cX8_tie 44 = .ok (.iload_n 1, 1) := by decide +kernel
theorem dX8_tie_45 : decode cX8_tie 45 = .ok (.iastore, 1) := by decide +kernel
theorem dX8_tie_46 : decode cX8_tie 46 = .ok (.aload_n 0, 1) := by decide +kernel
theorem dX8_tie_47 : decode cX8_tie 47 = .ok (.getfield 30, 3) := by decide +kernel
theorem dX8_tie_50 : decode cX8_tie 50 = .ok (.aload_n 0, 1) := by decide +kernel
theorem dX8_tie_51 : decode cX8_tie 51 = .ok (.getfield 152, 3) := by decide +kernel
theorem dX8_tie_54 : decode cX8_tie 54 = .ok (.iload_n 2, 1) := by decide +kernel
theorem dX8_tie_55 : decode cX8_tie 55 = .ok (.iastore, 1) := by decide +kernel
theorem dX8_tie_56 : decode cX8_tie 56 = .ok (.aload_n 0, 1) := by decide +kernel
theorem dX8_tie_57 : decode cX8_tie 57 = .ok (.dup, 1) := by decide +kernel
theorem dX8_tie_58 : decode cX8_tie 58 = .ok (.getfield 152, 3) := by decide +kernel
theorem dX8_tie_61 : decode cX8_tie 61 = .ok (.iconst 1, 1) := by decide +kernel
theorem dX8_tie_62 : decode cX8_tie 62 = .ok (.iadd, 1) := by decide +kernel
theorem dX8_tie_63 : decode cX8_tie 63 = .ok (.putfield 152, 3) := by decide +kernel
theorem dX8_tie_66 : decode cX8_tie 66 = .ok (.aload_n 0, 1) := by decide +kernel
theorem dX8_tie_67 : decode cX8_tie 67 = .ok (.getfield 152, 3) := by decide +kernel
theorem dX8_tie_70 : decode cX8_tie 70 = .ok (.ireturn, 1) := by decide +kernel
theorem dX8_drops_0 : decode cX8_drops 0 = .ok (.aload_n 0, 1) := by decide +kernel
theorem dX8_drops_1 : decode cX8_drops 1 = .ok (.dup, 1) := by decide +kernel
theorem dX8_drops_2 : decode cX8_drops 2 = .ok (.getfield 152, 3) := by decide +kernel
theorem dX8_drops_5 : decode cX8_drops 5 = .ok (.iconst 1, 1) := by decide +kernel
theorem dX8_drops_6 : decode cX8_drops 6 = .ok (.isub, 1) := by decide +kernel
theorem dX8_drops_7 : decode cX8_drops 7 = .ok (.putfield 152, 3) := by decide +kernel
theorem dX8_drops_10 : decode cX8_drops 10 = .ok (.iload_n 1, 1) := by decide +kernel
theorem dX8_drops_11 : decode cX8_drops 11 = .ok (.istore_n 2, 1) := by decide +kernel
theorem dX8_drops_12 : decode cX8_drops 12 = .ok (.iload_n 2, 1) := by decide +kernel
theorem dX8_drops_13 : decode cX8_drops 13 = .ok (.aload_n 0, 1) := by decide +kernel
theorem dX8_drops_14 : decode cX8_drops 14 = .ok (.getfield 152, 3) := by decide +kernel
theorem dX8_drops_17 : decode cX8_drops 17 = .ok (.if_icmp .ge 37, 3) := by decide +kernel
theorem dX8_drops_20 : decode cX8_drops 20 = .ok (.aload_n 0, 1) := by decide +kernel
theorem dX8_drops_21 : decode cX8_drops 21 = .ok (.getfield 27, 3) := by decide +kernel
theorem dX8_drops_24 : decode cX8_drops 24 = .ok (.iload_n 2, 1) := by decide +kernel
theorem dX8_drops_25 : decode cX8_drops 25 = .ok (.aload_n 0, 1) := by decide +kernel
theorem dX8_drops_26 : decode cX8_drops 26 = .ok (.getfield 27, 3) := by decide +kernel
theorem dX8_drops_29 : decode cX8_drops 29 = .ok (.iload_n 2, 1) := by decide +kernel
theorem dX8_drops_30 : decode cX8_drops 30 = .ok (.iconst 1, 1) := by decide +kernel
theorem dX8_drops_31 : decode cX8_drops 31 = .ok (.iadd, 1) := by decide +kernel
theorem dX8_drops_32 : decode cX8_drops 32 = .ok (.iaload, 1) := by decide +kernel
theorem dX8_drops_33 : decode cX8_drops 33 = .ok (.iastore, 1) := by decide +kernel
theorem dX8_drops_34 : decode cX8_drops 34 = .ok (.aload_n 0, 1) := by decide +kernel
theorem dX8_drops_35 : decode cX8_drops 35 = .ok (.getfield 30, 3) := by decide +kernel
theorem dX8_drops_38 : decode cX8_drops 38 = .ok (.iload_n 2, 1) := by decide +kernel
theorem dX8_drops_39 : decode cX8_drops 39 = .ok (.aload_n 0, 1) := by decide +kernel
theorem dX8_drops_40 : decode cX8_drops 40 = .ok (.getfield 30, 3) := by decide +kernel
theorem dX8_drops_43 : decode cX8_drops 43 = .ok (.iload_n 2, 1) := by decide +kernel
theorem dX8_drops_44 : decode cX8_drops 44 = .ok (.iconst 1, 1) := by decide +kernel
theorem dX8_drops_45 : decode cX8_drops 45 = .ok (.iadd, 1) := by decide +kernel
theorem dX8_drops_46 : decode cX8_drops 46 = .ok (.iaload, 1) := by decide +kernel
theorem dX8_drops_47 : decode cX8_drops 47 = .ok (.iastore, 1) := by decide +kernel
theorem dX8_drops_48 : decode cX8_drops 48 = .ok (.iinc 2 1, 3) := by decide +kernel
theorem dX8_drops_51 : decode cX8_drops 51 = .ok (.goto (-39), 3) := by decide +kernel
theorem dX8_drops_54 : decode cX8_drops 54 = .ok (.return_, 1) := by decide +kernel
theorem dX8_untie_0 : decode cX8_untie 0 = .ok (.aload_n 0, 1) := by decide +kernel
theorem dX8_untie_1 : decode cX8_untie 1 = .ok (.iload_n 1, 1) := by decide +kernel
theorem dX8_untie_2 : decode cX8_untie 2 = .ok (.iload_n 2, 1) := by decide +kernel
theorem dX8_untie_3 : decode cX8_untie 3 = .ok (.invokevirtual 155, 3) := by decide +kernel
theorem dX8_untie_6 : decode cX8_untie 6 = .ok (.ifCond .ne 5, 3) := by decide +kernel
theorem dX8_untie_9 : decode cX8_untie 9 = .ok (.iconst (-1), 1) := by decide +kernel
theorem dX8_untie_10 : decode cX8_untie 10 = .ok (.ireturn, 1) := by decide +kernel
theorem dX8_untie_11 : decode cX8_untie 11 = .ok (.aload_n 0, 1) := by decide +kernel
theorem dX8_untie_12 : decode cX8_untie 12 = .ok (.iload_n 1, 1) := by decide +kernel
theorem dX8_untie_13 : decode cX8_untie 13 = .ok (.iload_n 2, 1) := by decide +kernel
theorem dX8_untie_14 : decode cX8_untie 14 = .ok (.invokevirtual 158, 3) := by decide +kernel
theorem dX8_untie_17 : decode cX8_untie 17 = .ok (.istore_n 3, 1) := by decide +kernel
theorem dX8_untie_18 : decode cX8_untie 18 = .ok (.iload_n 3, 1) := by decide +kernel
theorem dX8_untie_19 : decode cX8_untie 19 = .ok (.iconst (-1), 1) := by decide +kernel
theorem dX8_untie_20 : decode cX8_untie 20 = .ok (.if_icmp .ne 6, 3) := by decide +kernel
theorem dX8_untie_23 : decode cX8_untie 23 = .ok (.bipush (-3), 2) := by decide +kernel
theorem dX8_untie_25 : decode cX8_untie 25 = .ok (.ireturn, 1) := by decide +kernel
theorem dX8_untie_26 : decode cX8_untie 26 = .ok (.aload_n 0, 1) := by decide +kernel
theorem dX8_untie_27 : decode cX8_untie 27 = .ok (.iload_n 3, 1) := by decide +kernel
theorem dX8_untie_28 : decode cX8_untie 28 = .ok (.invokevirtual 161, 3) := by decide +kernel
theorem dX8_untie_31 : decode cX8_untie 31 = .ok (.aload_n 0, 1) := by decide +kernel
theorem dX8_untie_32 : decode cX8_untie 32 = .ok (.getfield 152, 3) := by decide +kernel
theorem dX8_untie_35 : decode cX8_untie 35 = .ok (.ireturn, 1) := by decide +kernel
theorem dX8_works_0 : decode cX8_works 0 = .ok (.iconst 0, 1) := by decide +kernel
theorem dX8_works_1 : decode cX8_works 1 = .ok (.istore_n 2, 1) := by decide +kernel
theorem dX8_works_2 : decode cX8_works 2 = .ok (.iload_n 2, 1) := by decide +kernel
theorem dX8_works_3 : decode cX8_works 3 = .ok (.bipush 12, 2) := by decide +kernel
theorem dX8_works_5 : decode cX8_works 5 = .ok (.if_icmp .ge 30, 3) := by decide +kernel
theorem dX8_works_8 : decode cX8_works 8 = .ok (.aload_n 0, 1) := by decide +kernel
theorem dX8_works_9 : decode cX8_works 9 = .ok (.getfield 36, 3) := by decide +kernel
theorem dX8_works_12 : decode cX8_works 12 = .ok (.iload_n 2, 1) := by decide +kernel
theorem dX8_works_13 : decode cX8_works 13 = .ok (.iconst 0, 1) := by decide +kernel
theorem dX8_works_14 : decode cX8_works 14 = .ok (.iastore, 1) := by decide +kernel
theorem dX8_works_15 : decode cX8_works 15 = .ok (.aload_n 0, 1) := by decide +kernel
theorem dX8_works_16 : decode cX8_works 16 = .ok (.getfield 39, 3) := by decide +kernel
theorem dX8_works_19 : decode cX8_works 19 = .ok (.iload_n 2, 1) := by decide +kernel
theorem dX8_works_20 : decode cX8_works 20 = .ok (.iconst 0, 1) := by decide +kernel
theorem dX8_works_21 : decode cX8_works 21 = .ok (.iastore, 1) := by decide +kernel
theorem dX8_works_22 : decode cX8_works 22 = .ok (.aload_n 0, 1) := by decide +kernel
theorem dX8_works_23 : decode cX8_works 23 = .ok (.getfield 45, 3) := by decide +kernel
theorem dX8_works_26 : decode cX8_works 26 = .ok (.iload_n 2, 1) := by decide +kernel
theorem dX8_works_27 : decode cX8_works 27 = .ok (.iconst 0, 1) := by decide +kernel
theorem dX8_works_28 : decode cX8_works 28 = .ok (.iastore, 1) := by decide +kernel
theorem dX8_works_29 : decode cX8_works 29 = .ok (.iinc 2 1, 3) := by decide +kernel
theorem dX8_works_32 : decode cX8_works 32 = .ok (.goto (-30), 3) := by decide +kernel
theorem dX8_works_35 : decode cX8_works 35 = .ok (.iconst 0, 1) := by decide +kernel
theorem dX8_works_36 : decode cX8_works 36 = .ok (.istore_n 2, 1) := by decide +kernel
theorem dX8_works_37 : decode cX8_works 37 = .ok (.iload_n 2, 1) := by decide +kernel
theorem dX8_works_38 : decode cX8_works 38 = .ok (.aload_n 0, 1) := by decide +kernel
theorem dX8_works_39 : decode cX8_works 39 = .ok (.getfield 152, 3) := by decide +kernel
theorem dX8_works_42 : decode cX8_works 42 = .ok (.if_icmp .ge 58, 3) := by decide +kernel
theorem dX8_works_45 : decode cX8_works 45 = .ok (.iload_n 2, 1) := by decide +kernel
theorem dX8_works_46 : decode cX8_works 46 = .ok (.iload_n 1, 1) := by decide +kernel
theorem dX8_works_47 : decode cX8_works 47 = .ok (.if_icmp .eq 47, 3) := by decide +kernel
theorem dX8_works_50 : decode cX8_works 50 = .ok (.aload_n 0, 1) := by decide +kernel
theorem dX8_works_51 : decode cX8_works 51 = .ok (.getfield 36, 3) := by decide +kernel
theorem dX8_works_54 : decode cX8_works 54 = .ok (.aload_n 0, 1) := by decide +kernel
theorem dX8_works_55 : decode cX8_works 55 = .ok (.getfield 27, 3) := by decide +kernel
theorem dX8_works_58 : decode cX8_works 58 = .ok (.iload_n 2, 1) := by decide +kernel
theorem dX8_works_59 : decode cX8_works 59 = .ok (.iaload, 1) := by decide +kernel
theorem dX8_works_60 : decode cX8_works 60 = .ok (.dup2, 1) := by decide +kernel
theorem dX8_works_61 : decode cX8_works 61 = .ok (.iaload, 1) := by decide +kernel
theorem dX8_works_62 : decode cX8_works 62 = .ok (.iconst 1, 1) := by decide +kernel
theorem dX8_works_63 : decode cX8_works 63 = .ok (.aload_n 0, 1) := by decide +kernel
theorem dX8_works_64 : decode cX8_works 64 = .ok (.getfield 30, 3) := by decide +kernel
theorem dX8_works_67 : decode cX8_works 67 = .ok (.iload_n 2, 1) := by decide +kernel
theorem dX8_works_68 : decode cX8_works 68 = .ok (.iaload, 1) := by decide +kernel
theorem dX8_works_69 : decode cX8_works 69 = .ok (.ishl, 1) := by decide +kernel
theorem dX8_works_70 : decode cX8_works 70 = .ok (.ior, 1) := by decide +kernel
theorem dX8_works_71 : decode cX8_works 71 = .ok (.iastore, 1) := by decide +kernel
theorem dX8_works_72 : decode cX8_works 72 = .ok (.aload_n 0, 1) := by decide +kernel
theorem dX8_works_73 : decode cX8_works 73 = .ok (.getfield 39, 3) := by decide +kernel
theorem dX8_works_76 : decode cX8_works 76 = .ok (.aload_n 0, 1) := by decide +kernel
theorem dX8_works_77 : decode cX8_works 77 = .ok (.getfield 30, 3) := by decide +kernel
theorem dX8_works_80 : decode cX8_works 80 = .ok (.iload_n 2, 1) := by decide +kernel
theorem dX8_works_81 : decode cX8_works 81 = .ok (.iaload, 1) := by decide +kernel
theorem dX8_works_82 : decode cX8_works 82 = .ok (.dup2, 1) := by decide +kernel
theorem dX8_works_83 : decode cX8_works 83 = .ok (.iaload, 1) := by decide +kernel
theorem dX8_works_84 : decode cX8_works 84 = .ok (.iconst 1, 1) := by decide +kernel
theorem dX8_works_85 : decode cX8_works 85 = .ok (.aload_n 0, 1) := by decide +kernel
theorem dX8_works_86 : decode cX8_works 86 = .ok (.getfield 27, 3) := by decide +kernel
theorem dX8_works_89 : decode cX8_works 89 = .ok (.iload_n 2, 1) := by decide +kernel
theorem dX8_works_90 : decode cX8_works 90 = .ok (.iaload, 1) := by decide +kernel
theorem dX8_works_91 : decode cX8_works 91 = .ok (.ishl, 1) := by decide +kernel
theorem dX8_works_92 : decode cX8_works 92 = .ok (.ior, 1) := by decide +kernel
theorem dX8_works_93 : decode cX8_works 93 = .ok (.iastore, 1) := by decide +kernel
theorem dX8_works_94 : decode cX8_works 94 = .ok (.iinc 2 1, 3) := by decide +kernel
theorem dX8_works_97 : decode cX8_works 97 = .ok (.goto (-60), 3) := by decide +kernel
theorem dX8_works_100 : decode cX8_works 100 = .ok (.iconst 0, 1) := by decide +kernel
theorem dX8_works_101 : decode cX8_works 101 = .ok (.istore_n 2, 1) := by decide +kernel
theorem dX8_works_102 : decode cX8_works 102 = .ok (.iload_n 2, 1) := by decide +kernel
theorem dX8_works_103 : decode cX8_works 103 = .ok (.bipush 12, 2) := by decide +kernel
theorem dX8_works_105 : decode cX8_works 105 = .ok (.if_icmp .ge 21, 3) := by decide +kernel
theorem dX8_works_108 : decode cX8_works 108 = .ok (.aload_n 0, 1) := by decide +kernel
theorem dX8_works_109 : decode cX8_works 109 = .ok (.getfield 42, 3) := by decide +kernel
theorem dX8_works_112 : decode cX8_works 112 = .ok (.iload_n 2, 1) := by decide +kernel
theorem dX8_works_113 : decode cX8_works 113 = .ok (.aload_n 0, 1) := by decide +kernel
theorem dX8_works_114 : decode cX8_works 114 = .ok (.getfield 36, 3) := by decide +kernel
theorem dX8_works_117 : decode cX8_works 117 = .ok (.iload_n 2, 1) := by decide +kernel
theorem dX8_works_118 : decode cX8_works 118 = .ok (.iaload, 1) := by decide +kernel
theorem dX8_works_119 : decode cX8_works 119 = .ok (.iastore, 1) := by decide +kernel
theorem dX8_works_120 : decode cX8_works 120 = .ok (.iinc 2 1, 3) := by decide +kernel
theorem dX8_works_123 : decode cX8_works 123 = .ok (.goto (-21), 3) := by decide +kernel
theorem dX8_works_126 : decode cX8_works 126 = .ok (.iconst 0, 1) := by decide +kernel
theorem dX8_works_127 : decode cX8_works 127 = .ok (.istore_n 2, 1) := by decide +kernel
theorem dX8_works_128 : decode cX8_works 128 = .ok (.iload_n 2, 1) := by decide +kernel
theorem dX8_works_129 : decode cX8_works 129 = .ok (.aload_n 0, 1) := by decide +kernel
theorem dX8_works_130 : decode cX8_works 130 = .ok (.getfield 119, 3) := by decide +kernel
theorem dX8_works_133 : decode cX8_works 133 = .ok (.if_icmp .ge 57, 3) := by decide +kernel
theorem dX8_works_136 : decode cX8_works 136 = .ok (.iconst 0, 1) := by decide +kernel
theorem dX8_works_137 : decode cX8_works 137 = .ok (.istore_n 3, 1) := by decide +kernel
theorem dX8_works_138 : decode cX8_works 138 = .ok (.iload_n 3, 1) := by decide +kernel
theorem dX8_works_139 : decode cX8_works 139 = .ok (.aload_n 0, 1) := by decide +kernel
theorem dX8_works_140 : decode cX8_works 140 = .ok (.getfield 119, 3) := by decide +kernel
theorem dX8_works_143 : decode cX8_works 143 = .ok (.if_icmp .ge 41, 3) := by decide +kernel
theorem dX8_works_146 : decode cX8_works 146 = .ok (.aload_n 0, 1) := by decide +kernel
theorem dX8_works_147 : decode cX8_works 147 = .ok (.getfield 42, 3) := by decide +kernel
theorem dX8_works_150 : decode cX8_works 150 = .ok (.iload_n 3, 1) := by decide +kernel
theorem dX8_works_151 : decode cX8_works 151 = .ok (.dup2, 1) := by decide +kernel
theorem dX8_works_152 : decode cX8_works 152 = .ok (.iaload, 1) := by decide +kernel
theorem dX8_works_153 : decode cX8_works 153 = .ok (.aload_n 0, 1) := by decide +kernel
theorem dX8_works_154 : decode cX8_works 154 = .ok (.getfield 42, 3) := by decide +kernel
theorem dX8_works_157 : decode cX8_works 157 = .ok (.iload_n 3, 1) := by decide +kernel
theorem dX8_works_158 : decode cX8_works 158 = .ok (.iaload, 1) := by decide +kernel
theorem dX8_works_159 : decode cX8_works 159 = .ok (.iload_n 2, 1) := by decide +kernel
theorem dX8_works_160 : decode cX8_works 160 = .ok (.invokestatic 130, 3) := by decide +kernel
theorem dX8_works_163 : decode cX8_works 163 = .ok (.ifCond .eq 12, 3) := by decide +kernel
theorem dX8_works_166 : decode cX8_works 166 = .ok (.aload_n 0, 1) := by decide +kernel
theorem dX8_works_167 : decode cX8_works 167 = .ok (.getfield 42, 3) := by decide +kernel
theorem dX8_works_170 : decode cX8_works 170 = .ok (.iload_n 2, 1) := by decide +kernel
theorem dX8_works_171 : decode cX8_works 171 = .ok (.iaload, 1) := by decide +kernel
theorem dX8_works_172 : decode cX8_works 172 = .ok (.goto 4, 3) := by decide +kernel
theorem dX8_works_175 : decode cX8_works 175 = .ok (.iconst 0, 1) := by decide +kernel
theorem dX8_works_176 : decode cX8_works 176 = .ok (.ior, 1) := by decide +kernel
theorem dX8_works_177 : decode cX8_works 177 = .ok (.iastore, 1) := by decide +kernel
theorem dX8_works_178 : decode cX8_works 178 = .ok (.iinc 3 1, 3) := by decide +kernel
theorem dX8_works_181 : decode cX8_works 181 = .ok (.goto (-43), 3) := by decide +kernel
theorem dX8_works_184 : decode cX8_works 184 = .ok (.iinc 2 1, 3) := by decide +kernel
theorem dX8_works_187 : decode cX8_works 187 = .ok (.goto (-59), 3) := by decide +kernel
theorem dX8_works_190 : decode cX8_works 190 = .ok (.iconst 0, 1) := by decide +kernel
theorem dX8_works_191 : decode cX8_works 191 = .ok (.istore_n 2, 1) := by decide +kernel
theorem dX8_works_192 : decode cX8_works 192 = .ok (.iload_n 2, 1) := by decide +kernel
theorem dX8_works_193 : decode cX8_works 193 = .ok (.aload_n 0, 1) := by decide +kernel
theorem dX8_works_194 : decode cX8_works 194 = .ok (.getfield 119, 3) := by decide +kernel
theorem dX8_works_197 : decode cX8_works 197 = .ok (.if_icmp .ge 54, 3) := by decide +kernel
theorem dX8_works_200 : decode cX8_works 200 = .ok (.iconst 0, 1) := by decide +kernel
theorem dX8_works_201 : decode cX8_works 201 = .ok (.istore_n 3, 1) := by decide +kernel
theorem dX8_works_202 : decode cX8_works 202 = .ok (.iload_n 3, 1) := by decide +kernel
theorem dX8_works_203 : decode cX8_works 203 = .ok (.aload_n 0, 1) := by decide +kernel
theorem dX8_works_204 : decode cX8_works 204 = .ok (.getfield 119, 3) := by decide +kernel
theorem dX8_works_207 : decode cX8_works 207 = .ok (.if_icmp .ge 38, 3) := by decide +kernel
theorem dX8_works_210 : decode cX8_works 210 = .ok (.aload_n 0, 1) := by decide +kernel
theorem dX8_works_211 : decode cX8_works 211 = .ok (.getfield 45, 3) := by decide +kernel
theorem dX8_works_214 : decode cX8_works 214 = .ok (.iload_n 2, 1) := by decide +kernel
theorem dX8_works_215 : decode cX8_works 215 = .ok (.dup2, 1) := by decide +kernel
theorem dX8_works_216 : decode cX8_works 216 = .ok (.iaload, 1) := by decide +kernel
theorem dX8_works_217 : decode cX8_works 217 = .ok (.aload_n 0, 1) := by decide +kernel
theorem dX8_works_218 : decode cX8_works 218 = .ok (.getfield 42, 3) := by decide +kernel
theorem dX8_works_221 : decode cX8_works 221 = .ok (.iload_n 3, 1) := by decide +kernel
theorem dX8_works_222 : decode cX8_works 222 = .ok (.iaload, 1) := by decide +kernel
theorem dX8_works_223 : decode cX8_works 223 = .ok (.iload_n 2, 1) := by decide +kernel
theorem dX8_works_224 : decode cX8_works 224 = .ok (.invokestatic 130, 3) := by decide +kernel
theorem dX8_works_227 : decode cX8_works 227 = .ok (.ifCond .eq 9, 3) := by decide +kernel
theorem dX8_works_230 : decode cX8_works 230 = .ok (.iconst 1, 1) := by decide +kernel
theorem dX8_works_231 : decode cX8_works 231 = .ok (.iload_n 3, 1) := by decide +kernel
theorem dX8_works_232 : decode cX8_works 232 = .ok (.ishl, 1) := by decide +kernel
theorem dX8_works_233 : decode cX8_works 233 = .ok (.goto 4, 3) := by decide +kernel
theorem dX8_works_236 : decode cX8_works 236 = .ok (.iconst 0, 1) := by decide +kernel
theorem dX8_works_237 : decode cX8_works 237 = .ok (.ior, 1) := by decide +kernel
theorem dX8_works_238 : decode cX8_works 238 = .ok (.iastore, 1) := by decide +kernel
theorem dX8_works_239 : decode cX8_works 239 = .ok (.iinc 3 1, 3) := by decide +kernel
theorem dX8_works_242 : decode cX8_works 242 = .ok (.goto (-40), 3) := by decide +kernel
theorem dX8_works_245 : decode cX8_works 245 = .ok (.iinc 2 1, 3) := by decide +kernel
theorem dX8_works_248 : decode cX8_works 248 = .ok (.goto (-56), 3) := by decide +kernel
theorem dX8_works_251 : decode cX8_works 251 = .ok (.return_, 1) := by decide +kernel
theorem dX8_works__0 : decode cX8_works_ 0 = .ok (.aload_n 0, 1) := by decide +kernel
theorem dX8_works__1 : decode cX8_works_ 1 = .ok (.iconst (-1), 1) := by decide +kernel
theorem dX8_works__2 : decode cX8_works_ 2 = .ok (.invokevirtual 165, 3) := by decide +kernel
theorem dX8_works__5 : decode cX8_works_ 5 = .ok (.return_, 1) := by decide +kernel
theorem dX8_round_0 : decode cX8_round 0 = .ok (.iconst 0, 1) := by decide +kernel
theorem dX8_round_1 : decode cX8_round 1 = .ok (.istore_n 1, 1) := by decide +kernel
theorem dX8_round_2 : decode cX8_round 2 = .ok (.iconst 0, 1) := by decide +kernel
theorem dX8_round_3 : decode cX8_round 3 = .ok (.istore_n 2, 1) := by decide +kernel
theorem dX8_round_4 : decode cX8_round 4 = .ok (.iload_n 2, 1) := by decide +kernel
theorem dX8_round_5 : decode cX8_round 5 = .ok (.aload_n 0, 1) := by decide +kernel
theorem dX8_round_6 : decode cX8_round 6 = .ok (.getfield 119, 3) := by decide +kernel
theorem dX8_round_9 : decode cX8_round 9 = .ok (.if_icmp .ge 32, 3) := by decide +kernel
theorem dX8_round_12 : decode cX8_round 12 = .ok (.iload_n 1, 1) := by decide +kernel
theorem dX8_round_13 : decode cX8_round 13 = .ok (.aload_n 0, 1) := by decide +kernel
theorem dX8_round_14 : decode cX8_round 14 = .ok (.getfield 42, 3) := by decide +kernel
theorem dX8_round_17 : decode cX8_round 17 = .ok (.iload_n 2, 1) := by decide +kernel
theorem dX8_round_18 : decode cX8_round 18 = .ok (.iaload, 1) := by decide +kernel
theorem dX8_round_19 : decode cX8_round 19 = .ok (.iload_n 2, 1) := by decide +kernel
theorem dX8_round_20 : decode cX8_round 20 = .ok (.invokestatic 130, 3) := by decide +kernel
theorem dX8_round_23 : decode cX8_round 23 = .ok (.ifCond .eq 9, 3) := by decide +kernel
theorem dX8_round_26 : decode cX8_round 26 = .ok (.iconst 1, 1) := by decide +kernel
theorem dX8_round_27 : decode cX8_round 27 = .ok (.iload_n 2, 1) := by decide +kernel
theorem dX8_round_28 : decode cX8_round 28 = .ok (.ishl, 1) := by decide +kernel
theorem dX8_round_29 : decode cX8_round 29 = .ok (.goto 4, 3) := by decide +kernel
theorem dX8_round_32 : decode cX8_round 32 = .ok (.iconst 0, 1) := by decide +kernel
theorem dX8_round_33 : decode cX8_round 33 = .ok (.ior, 1) := by decide +kernel
theorem dX8_round_34 : decode cX8_round 34 = .ok (.istore_n 1, 1) := by decide +kernel
theorem dX8_round_35 : decode cX8_round 35 = .ok (.iinc 2 1, 3) := by decide +kernel
theorem dX8_round_38 : decode cX8_round 38 = .ok (.goto (-34), 3) := by decide +kernel
theorem dX8_round_41 : decode cX8_round 41 = .ok (.iload_n 1, 1) := by decide +kernel
theorem dX8_round_42 : decode cX8_round 42 = .ok (.ireturn, 1) := by decide +kernel
theorem dX8_isRound_0 : decode cX8_isRound 0 = .ok (.aload_n 0, 1) := by decide +kernel
theorem dX8_isRound_1 : decode cX8_isRound 1 = .ok (.invokevirtual 168, 3) := by decide +kernel
theorem dX8_isRound_4 : decode cX8_isRound 4 = .ok (.ifCond .eq 7, 3) := by decide +kernel
theorem dX8_isRound_7 : decode cX8_isRound 7 = .ok (.iconst 1, 1) := by decide +kernel
theorem dX8_isRound_8 : decode cX8_isRound 8 = .ok (.goto 4, 3) := by decide +kernel
theorem dX8_isRound_11 : decode cX8_isRound 11 = .ok (.iconst 0, 1) := by decide +kernel
theorem dX8_isRound_12 : decode cX8_isRound 12 = .ok (.ireturn, 1) := by decide +kernel
theorem dX8_isReduced_0 : decode cX8_isReduced 0 = .ok (.aload_n 0, 1) := by decide +kernel
theorem dX8_isReduced_1 : decode cX8_isReduced 1 = .ok (.invokevirtual 171, 3) := by decide +kernel
theorem dX8_isReduced_4 : decode cX8_isReduced 4 = .ok (.ifCond .eq 5, 3) := by decide +kernel
theorem dX8_isReduced_7 : decode cX8_isReduced 7 = .ok (.iconst 1, 1) := by decide +kernel
theorem dX8_isReduced_8 : decode cX8_isReduced 8 = .ok (.ireturn, 1) := by decide +kernel
theorem dX8_isReduced_9 : decode cX8_isReduced 9 = .ok (.iconst 0, 1) := by decide +kernel
theorem dX8_isReduced_10 : decode cX8_isReduced 10 = .ok (.istore_n 2, 1) := by decide +kernel
theorem dX8_isReduced_11 : decode cX8_isReduced 11 = .ok (.iload_n 2, 1) := by decide +kernel
theorem dX8_isReduced_12 : decode cX8_isReduced 12 = .ok (.aload_n 0, 1) := by decide +kernel
theorem dX8_isReduced_13 : decode cX8_isReduced 13 = .ok (.getfield 119, 3) := by decide +kernel
theorem dX8_isReduced_16 : decode cX8_isReduced 16 = .ok (.if_icmp .ge 67, 3) := by decide +kernel
theorem dX8_isReduced_19 : decode cX8_isReduced 19 = .ok (.iload_n 2, 1) := by decide +kernel
theorem dX8_isReduced_20 : decode cX8_isReduced 20 = .ok (.aload_n 0, 1) := by decide +kernel
theorem dX8_isReduced_21 : decode cX8_isReduced 21 = .ok (.getfield 27, 3) := by decide +kernel
theorem dX8_isReduced_24 : decode cX8_isReduced 24 = .ok (.iload_n 1, 1) := by decide +kernel
theorem dX8_isReduced_25 : decode cX8_isReduced 25 = .ok (.iaload, 1) := by decide +kernel
theorem dX8_isReduced_26 : decode cX8_isReduced 26 = .ok (.if_icmp .eq 51, 3) := by decide +kernel
theorem dX8_isReduced_29 : decode cX8_isReduced 29 = .ok (.iload_n 2, 1) := by decide +kernel
theorem dX8_isReduced_30 : decode cX8_isReduced 30 = .ok (.aload_n 0, 1) := by decide +kernel
theorem dX8_isReduced_31 : decode cX8_isReduced 31 = .ok (.getfield 30, 3) := by decide +kernel
theorem dX8_isReduced_34 : decode cX8_isReduced 34 = .ok (.iload_n 1, 1) := by decide +kernel
theorem dX8_isReduced_35 : decode cX8_isReduced 35 = .ok (.iaload, 1) := by decide +kernel
theorem dX8_isReduced_36 : decode cX8_isReduced 36 = .ok (.if_icmp .eq 41, 3) := by decide +kernel
theorem dX8_isReduced_39 : decode cX8_isReduced 39 = .ok (.aload_n 0, 1) := by decide +kernel
theorem dX8_isReduced_40 : decode cX8_isReduced 40 = .ok (.getfield 42, 3) := by decide +kernel
theorem dX8_isReduced_43 : decode cX8_isReduced 43 = .ok (.aload_n 0, 1) := by decide +kernel
theorem dX8_isReduced_44 : decode cX8_isReduced 44 = .ok (.getfield 27, 3) := by decide +kernel
theorem dX8_isReduced_47 : decode cX8_isReduced 47 = .ok (.iload_n 1, 1) := by decide +kernel
theorem dX8_isReduced_48 : decode cX8_isReduced 48 = .ok (.iaload, 1) := by decide +kernel
theorem dX8_isReduced_49 : decode cX8_isReduced 49 = .ok (.iaload, 1) := by decide +kernel
theorem dX8_isReduced_50 : decode cX8_isReduced 50 = .ok (.iload_n 2, 1) := by decide +kernel
theorem dX8_isReduced_51 : decode cX8_isReduced 51 = .ok (.invokestatic 130, 3) := by decide +kernel
theorem dX8_isReduced_54 : decode cX8_isReduced 54 = .ok (.ifCond .eq 23, 3) := by decide +kernel
theorem dX8_isReduced_57 : decode cX8_isReduced 57 = .ok (.aload_n 0, 1) := by decide +kernel
theorem dX8_isReduced_58 : decode cX8_isReduced 58 = .ok (.getfield 42, 3) := by decide +kernel
theorem dX8_isReduced_61 : decode cX8_isReduced 61 = .ok (.iload_n 2, 1) := by decide +kernel
theorem dX8_isReduced_62 : decode cX8_isReduced 62 = .ok (.iaload, 1) := by decide +kernel
theorem dX8_isReduced_63 : decode cX8_isReduced 63 = .ok (.aload_n 0, 1) := by decide +kernel
theorem dX8_isReduced_64 : decode cX8_isReduced 64 = .ok (.getfield 30, 3) := by decide +kernel
theorem dX8_isReduced_67 : decode cX8_isReduced 67 = .ok (.iload_n 1, 1) := by decide +kernel
theorem dX8_isReduced_68 : decode cX8_isReduced 68 = .ok (.iaload, 1) := by decide +kernel
theorem dX8_isReduced_69 : decode cX8_isReduced 69 = .ok (.invokestatic 130, 3) := by decide +kernel
theorem dX8_isReduced_72 : decode cX8_isReduced 72 = .ok (.ifCond .eq 5, 3) := by decide +kernel
theorem dX8_isReduced_75 : decode cX8_isReduced 75 = .ok (.iconst 0, 1) := by decide +kernel
theorem dX8_isReduced_76 : decode cX8_isReduced 76 = .ok (.ireturn, 1) := by decide +kernel
theorem dX8_isReduced_77 : decode cX8_isReduced 77 = .ok (.iinc 2 1, 3) := by decide +kernel
theorem dX8_isReduced_80 : decode cX8_isReduced 80 = .ok (.goto (-69), 3) := by decide +kernel
theorem dX8_isReduced_83 : decode cX8_isReduced 83 = .ok (.iconst 1, 1) := by decide +kernel
theorem dX8_isReduced_84 : decode cX8_isReduced 84 = .ok (.ireturn, 1) := by decide +kernel
theorem dX8_reducedOf_0 : decode cX8_reducedOf 0 = .ok (.iconst 0, 1) := by decide +kernel
theorem dX8_reducedOf_1 : decode cX8_reducedOf 1 = .ok (.istore_n 2, 1) := by decide +kernel
theorem dX8_reducedOf_2 : decode cX8_reducedOf 2 = .ok (.iconst 0, 1) := by decide +kernel
theorem dX8_reducedOf_3 : decode cX8_reducedOf 3 = .ok (.istore_n 3, 1) := by decide +kernel
theorem dX8_reducedOf_4 : decode cX8_reducedOf 4 = .ok (.iload_n 3, 1) := by decide +kernel
theorem dX8_reducedOf_5 : decode cX8_reducedOf 5 = .ok (.aload_n 0, 1) := by decide +kernel
theorem dX8_reducedOf_6 : decode cX8_reducedOf 6 = .ok (.getfield 152, 3) := by decide +kernel
theorem dX8_reducedOf_9 : decode cX8_reducedOf 9 = .ok (.if_icmp .ge 42, 3) := by decide +kernel
theorem dX8_reducedOf_12 : decode cX8_reducedOf 12 = .ok (.iload_n 2, 1) := by decide +kernel
theorem dX8_reducedOf_13 : decode cX8_reducedOf 13 = .ok (.aload_n 0, 1) := by decide +kernel
theorem dX8_reducedOf_14 : decode cX8_reducedOf 14 = .ok (.getfield 27, 3) := by decide +kernel
theorem dX8_reducedOf_17 : decode cX8_reducedOf 17 = .ok (.iload_n 3, 1) := by decide +kernel
theorem dX8_reducedOf_18 : decode cX8_reducedOf 18 = .ok (.iaload, 1) := by decide +kernel
theorem dX8_reducedOf_19 : decode cX8_reducedOf 19 = .ok (.iload_n 1, 1) := by decide +kernel
theorem dX8_reducedOf_20 : decode cX8_reducedOf 20 = .ok (.if_icmp .ne 22, 3) := by decide +kernel
theorem dX8_reducedOf_23 : decode cX8_reducedOf 23 = .ok (.aload_n 0, 1) := by decide +kernel
theorem dX8_reducedOf_24 : decode cX8_reducedOf 24 = .ok (.iload_n 3, 1) := by decide +kernel
theorem dX8_reducedOf_25 : decode cX8_reducedOf 25 = .ok (.invokevirtual 175, 3) := by decide +kernel
theorem dX8_reducedOf_28 : decode cX8_reducedOf 28 = .ok (.ifCond .eq 14, 3) := by decide +kernel
theorem dX8_reducedOf_31 : decode cX8_reducedOf 31 = .ok (.iconst 1, 1) := by decide +kernel
theorem dX8_reducedOf_32 : decode cX8_reducedOf 32 = .ok (.aload_n 0, 1) := by decide +kernel
theorem dX8_reducedOf_33 : decode cX8_reducedOf 33 = .ok (.getfield 30, 3) := by decide +kernel
theorem dX8_reducedOf_36 : decode cX8_reducedOf 36 = .ok (.iload_n 3, 1) := by decide +kernel
theorem dX8_reducedOf_37 : decode cX8_reducedOf 37 = .ok (.iaload, 1) := by decide +kernel
theorem dX8_reducedOf_38 : decode cX8_reducedOf 38 = .ok (.ishl, 1) := by decide +kernel
theorem dX8_reducedOf_39 : decode cX8_reducedOf 39 = .ok (.goto 4, 3) := by decide +kernel
theorem dX8_reducedOf_42 : decode cX8_reducedOf 42 = .ok (.iconst 0, 1) := by decide +kernel
theorem dX8_reducedOf_43 : decode cX8_reducedOf 43 = .ok (.ior, 1) := by decide +kernel
theorem dX8_reducedOf_44 : decode cX8_reducedOf 44 = .ok (.istore_n 2, 1) := by decide +kernel
theorem dX8_reducedOf_45 : decode cX8_reducedOf 45 = .ok (.iinc 3 1, 3) := by decide +kernel
theorem dX8_reducedOf_48 : decode cX8_reducedOf 48 = .ok (.goto (-44), 3) := by decide +kernel
theorem dX8_reducedOf_51 : decode cX8_reducedOf 51 = .ok (.iload_n 2, 1) := by decide +kernel
theorem dX8_reducedOf_52 : decode cX8_reducedOf 52 = .ok (.ireturn, 1) := by decide +kernel
theorem dX8_reducedMany_0 : decode cX8_reducedMany 0 = .ok (.iconst 0, 1) := by decide +kernel
theorem dX8_reducedMany_1 : decode cX8_reducedMany 1 = .ok (.istore_n 1, 1) := by decide +kernel
theorem dX8_reducedMany_2 : decode cX8_reducedMany 2 = .ok (.iconst 0, 1) := by decide +kernel
theorem dX8_reducedMany_3 : decode cX8_reducedMany 3 = .ok (.istore_n 2, 1) := by decide +kernel
theorem dX8_reducedMany_4 : decode cX8_reducedMany 4 = .ok (.iload_n 2, 1) := by decide +kernel
theorem dX8_reducedMany_5 : decode cX8_reducedMany 5 = .ok (.aload_n 0, 1) := by decide +kernel
theorem dX8_reducedMany_6 : decode cX8_reducedMany 6 = .ok (.getfield 152, 3) := by decide +kernel
theorem dX8_reducedMany_9 : decode cX8_reducedMany 9 = .ok (.if_icmp .ge 25, 3) := by decide +kernel
theorem dX8_reducedMany_12 : decode cX8_reducedMany 12 = .ok (.iload_n 1, 1) := by decide +kernel
theorem dX8_reducedMany_13 : decode cX8_reducedMany 13 = .ok (.aload_n 0, 1) := by decide +kernel
theorem dX8_reducedMany_14 : decode cX8_reducedMany 14 = .ok (.iload_n 2, 1) := by decide +kernel
theorem dX8_reducedMany_15 : decode cX8_reducedMany 15 = .ok (.invokevirtual 175, 3) := by decide +kernel
theorem dX8_reducedMany_18 : decode cX8_reducedMany 18 = .ok (.ifCond .eq 7, 3) := by decide +kernel
theorem dX8_reducedMany_21 : decode cX8_reducedMany 21 = .ok (.iconst 1, 1) := by decide +kernel
theorem dX8_reducedMany_22 : decode cX8_reducedMany 22 = .ok (.goto 4, 3) := by decide +kernel
theorem dX8_reducedMany_25 : decode cX8_reducedMany 25 = .ok (.iconst 0, 1) := by decide +kernel
theorem dX8_reducedMany_26 : decode cX8_reducedMany 26 = .ok (.iadd, 1) := by decide +kernel
theorem dX8_reducedMany_27 : decode cX8_reducedMany 27 = .ok (.istore_n 1, 1) := by decide +kernel
theorem dX8_reducedMany_28 : decode cX8_reducedMany 28 = .ok (.iinc 2 1, 3) := by decide +kernel
theorem dX8_reducedMany_31 : decode cX8_reducedMany 31 = .ok (.goto (-27), 3) := by decide +kernel
theorem dX8_reducedMany_34 : decode cX8_reducedMany 34 = .ok (.iload_n 1, 1) := by decide +kernel
theorem dX8_reducedMany_35 : decode cX8_reducedMany 35 = .ok (.ireturn, 1) := by decide +kernel
theorem dX8_levelsOf_0 : decode cX8_levelsOf 0 = .ok (.iconst 0, 1) := by decide +kernel
theorem dX8_levelsOf_1 : decode cX8_levelsOf 1 = .ok (.istore_n 1, 1) := by decide +kernel
theorem dX8_levelsOf_2 : decode cX8_levelsOf 2 = .ok (.iconst 0, 1) := by decide +kernel
theorem dX8_levelsOf_3 : decode cX8_levelsOf 3 = .ok (.istore_n 2, 1) := by decide +kernel
theorem dX8_levelsOf_4 : decode cX8_levelsOf 4 = .ok (.iload_n 2, 1) := by decide +kernel
theorem dX8_levelsOf_5 : decode cX8_levelsOf 5 = .ok (.aload_n 0, 1) := by decide +kernel
theorem dX8_levelsOf_6 : decode cX8_levelsOf 6 = .ok (.getfield 119, 3) := by decide +kernel
theorem dX8_levelsOf_9 : decode cX8_levelsOf 9 = .ok (.if_icmp .ge 16, 3) := by decide +kernel
theorem dX8_levelsOf_12 : decode cX8_levelsOf 12 = .ok (.aload_n 0, 1) := by decide +kernel
theorem dX8_levelsOf_13 : decode cX8_levelsOf 13 = .ok (.getfield 48, 3) := by decide +kernel
theorem dX8_levelsOf_16 : decode cX8_levelsOf 16 = .ok (.iload_n 2, 1) := by decide +kernel
theorem dX8_levelsOf_17 : decode cX8_levelsOf 17 = .ok (.iconst 0, 1) := by decide +kernel
theorem dX8_levelsOf_18 : decode cX8_levelsOf 18 = .ok (.iastore, 1) := by decide +kernel
theorem dX8_levelsOf_19 : decode cX8_levelsOf 19 = .ok (.iinc 2 1, 3) := by decide +kernel
theorem dX8_levelsOf_22 : decode cX8_levelsOf 22 = .ok (.goto (-18), 3) := by decide +kernel
theorem dX8_levelsOf_25 : decode cX8_levelsOf 25 = .ok (.iconst 0, 1) := by decide +kernel
theorem dX8_levelsOf_26 : decode cX8_levelsOf 26 = .ok (.istore_n 2, 1) := by decide +kernel
theorem dX8_levelsOf_27 : decode cX8_levelsOf 27 = .ok (.iload_n 2, 1) := by decide +kernel
theorem dX8_levelsOf_28 : decode cX8_levelsOf 28 = .ok (.aload_n 0, 1) := by decide +kernel
theorem dX8_levelsOf_29 : decode cX8_levelsOf 29 = .ok (.getfield 119, 3) := by decide +kernel
theorem dX8_levelsOf_32 : decode cX8_levelsOf 32 = .ok (.if_icmp .ge 83, 3) := by decide +kernel
theorem dX8_levelsOf_35 : decode cX8_levelsOf 35 = .ok (.iconst 0, 1) := by decide +kernel
theorem dX8_levelsOf_36 : decode cX8_levelsOf 36 = .ok (.istore_n 3, 1) := by decide +kernel
theorem dX8_levelsOf_37 : decode cX8_levelsOf 37 = .ok (.iload_n 3, 1) := by decide +kernel
theorem dX8_levelsOf_38 : decode cX8_levelsOf 38 = .ok (.aload_n 0, 1) := by decide +kernel
theorem dX8_levelsOf_39 : decode cX8_levelsOf 39 = .ok (.getfield 152, 3) := by decide +kernel
theorem dX8_levelsOf_42 : decode cX8_levelsOf 42 = .ok (.if_icmp .ge 67, 3) := by decide +kernel
theorem dX8_levelsOf_45 : decode cX8_levelsOf 45 = .ok (.aload_n 0, 1) := by decide +kernel
theorem dX8_levelsOf_46 : decode cX8_levelsOf 46 = .ok (.getfield 48, 3) := by decide +kernel
theorem dX8_levelsOf_49 : decode cX8_levelsOf 49 = .ok (.aload_n 0, 1) := by decide +kernel
theorem dX8_levelsOf_50 : decode cX8_levelsOf 50 = .ok (.getfield 30, 3) := by decide +kernel
theorem dX8_levelsOf_53 : decode cX8_levelsOf 53 = .ok (.iload_n 3, 1) := by decide +kernel
theorem dX8_levelsOf_54 : decode cX8_levelsOf 54 = .ok (.iaload, 1) := by decide +kernel
theorem dX8_levelsOf_55 : decode cX8_levelsOf 55 = .ok (.iaload, 1) := by decide +kernel
theorem dX8_levelsOf_56 : decode cX8_levelsOf 56 = .ok (.iconst 1, 1) := by decide +kernel
theorem dX8_levelsOf_57 : decode cX8_levelsOf 57 = .ok (.iadd, 1) := by decide +kernel
theorem dX8_levelsOf_58 : decode cX8_levelsOf 58 = .ok (.istore 4, 2) := by decide +kernel
theorem dX8_levelsOf_60 : decode cX8_levelsOf 60 = .ok (.aload_n 0, 1) := by decide +kernel
theorem dX8_levelsOf_61 : decode cX8_levelsOf 61 = .ok (.getfield 48, 3) := by decide +kernel
theorem dX8_levelsOf_64 : decode cX8_levelsOf 64 = .ok (.aload_n 0, 1) := by decide +kernel
theorem dX8_levelsOf_65 : decode cX8_levelsOf 65 = .ok (.getfield 27, 3) := by decide +kernel
theorem dX8_levelsOf_68 : decode cX8_levelsOf 68 = .ok (.iload_n 3, 1) := by decide +kernel
theorem dX8_levelsOf_69 : decode cX8_levelsOf 69 = .ok (.iaload, 1) := by decide +kernel
theorem dX8_levelsOf_70 : decode cX8_levelsOf 70 = .ok (.iload 4, 2) := by decide +kernel
theorem dX8_levelsOf_72 : decode cX8_levelsOf 72 = .ok (.aload_n 0, 1) := by decide +kernel
theorem dX8_levelsOf_73 : decode cX8_levelsOf 73 = .ok (.getfield 48, 3) := by decide +kernel
theorem dX8_levelsOf_76 : decode cX8_levelsOf 76 = .ok (.aload_n 0, 1) := by decide +kernel
theorem dX8_levelsOf_77 : decode cX8_levelsOf 77 = .ok (.getfield 27, 3) := by decide +kernel
theorem dX8_levelsOf_80 : decode cX8_levelsOf 80 = .ok (.iload_n 3, 1) := by decide +kernel
theorem dX8_levelsOf_81 : decode cX8_levelsOf 81 = .ok (.iaload, 1) := by decide +kernel
theorem dX8_levelsOf_82 : decode cX8_levelsOf 82 = .ok (.iaload, 1) := by decide +kernel
theorem dX8_levelsOf_83 : decode cX8_levelsOf 83 = .ok (.if_icmp .le 8, 3) := by decide +kernel
theorem dX8_levelsOf_86 : decode cX8_levelsOf 86 = .ok (.iload 4, 2) := by decide +kernel
theorem dX8_levelsOf_88 : decode cX8_levelsOf 88 = .ok (.goto 14, 3) := by decide +kernel
theorem dX8_levelsOf_91 : decode cX8_levelsOf 91 = .ok (.aload_n 0, 1) := by decide +kernel
theorem dX8_levelsOf_92 : decode cX8_levelsOf 92 = .ok (.getfield 48, 3) := by decide +kernel
theorem dX8_levelsOf_95 : decode cX8_levelsOf 95 = .ok (.aload_n 0, 1) := by decide +kernel
theorem dX8_levelsOf_96 : decode cX8_levelsOf 96 = .ok (.getfield 27, 3) := by decide +kernel
theorem dX8_levelsOf_99 : decode cX8_levelsOf 99 = .ok (.iload_n 3, 1) := by decide +kernel
theorem dX8_levelsOf_100 : decode cX8_levelsOf 100 = .ok (.iaload, 1) := by decide +kernel
theorem dX8_levelsOf_101 : decode cX8_levelsOf 101 = .ok (.iaload, 1) := by decide +kernel
theorem dX8_levelsOf_102 : decode cX8_levelsOf 102 = .ok (.iastore, 1) := by decide +kernel
theorem dX8_levelsOf_103 : decode cX8_levelsOf 103 = .ok (.iinc 3 1, 3) := by decide +kernel
theorem dX8_levelsOf_106 : decode cX8_levelsOf 106 = .ok (.goto (-69), 3) := by decide +kernel
theorem dX8_levelsOf_109 : decode cX8_levelsOf 109 = .ok (.iinc 2 1, 3) := by decide +kernel
theorem dX8_levelsOf_112 : decode cX8_levelsOf 112 = .ok (.goto (-85), 3) := by decide +kernel
theorem dX8_levelsOf_115 : decode cX8_levelsOf 115 = .ok (.iconst 0, 1) := by decide +kernel
theorem dX8_levelsOf_116 : decode cX8_levelsOf 116 = .ok (.istore_n 2, 1) := by decide +kernel
theorem dX8_levelsOf_117 : decode cX8_levelsOf 117 = .ok (.iload_n 2, 1) := by decide +kernel
theorem dX8_levelsOf_118 : decode cX8_levelsOf 118 = .ok (.aload_n 0, 1) := by decide +kernel
theorem dX8_levelsOf_119 : decode cX8_levelsOf 119 = .ok (.getfield 119, 3) := by decide +kernel
theorem dX8_levelsOf_122 : decode cX8_levelsOf 122 = .ok (.if_icmp .ge 34, 3) := by decide +kernel
theorem dX8_levelsOf_125 : decode cX8_levelsOf 125 = .ok (.aload_n 0, 1) := by decide +kernel
theorem dX8_levelsOf_126 : decode cX8_levelsOf 126 = .ok (.getfield 48, 3) := by decide +kernel
theorem dX8_levelsOf_129 : decode cX8_levelsOf 129 = .ok (.iload_n 2, 1) := by decide +kernel
theorem dX8_levelsOf_130 : decode cX8_levelsOf 130 = .ok (.iaload, 1) := by decide +kernel
theorem dX8_levelsOf_131 : decode cX8_levelsOf 131 = .ok (.iconst 1, 1) := by decide +kernel
theorem dX8_levelsOf_132 : decode cX8_levelsOf 132 = .ok (.iadd, 1) := by decide +kernel
theorem dX8_levelsOf_133 : decode cX8_levelsOf 133 = .ok (.iload_n 1, 1) := by decide +kernel
theorem dX8_levelsOf_134 : decode cX8_levelsOf 134 = .ok (.if_icmp .le 14, 3) := by decide +kernel
theorem dX8_levelsOf_137 : decode cX8_levelsOf 137 = .ok (.aload_n 0, 1) := by decide +kernel
theorem dX8_levelsOf_138 : decode cX8_levelsOf 138 = .ok (.getfield 48, 3) := by decide +kernel
theorem dX8_levelsOf_141 : decode cX8_levelsOf 141 = .ok (.iload_n 2, 1) := by decide +kernel
theorem dX8_levelsOf_142 : decode cX8_levelsOf 142 = .ok (.iaload, 1) := by decide +kernel
theorem dX8_levelsOf_143 : decode cX8_levelsOf 143 = .ok (.iconst 1, 1) := by decide +kernel
theorem dX8_levelsOf_144 : decode cX8_levelsOf 144 = .ok (.iadd, 1) := by decide +kernel
theorem dX8_levelsOf_145 : decode cX8_levelsOf 145 = .ok (.goto 4, 3) := by decide +kernel
theorem dX8_levelsOf_148 : decode cX8_levelsOf 148 = .ok (.iload_n 1, 1) := by decide +kernel
theorem dX8_levelsOf_149 : decode cX8_levelsOf 149 = .ok (.istore_n 1, 1) := by decide +kernel
theorem dX8_levelsOf_150 : decode cX8_levelsOf 150 = .ok (.iinc 2 1, 3) := by decide +kernel
theorem dX8_levelsOf_153 : decode cX8_levelsOf 153 = .ok (.goto (-36), 3) := by decide +kernel
theorem dX8_levelsOf_156 : decode cX8_levelsOf 156 = .ok (.iload_n 1, 1) := by decide +kernel
theorem dX8_levelsOf_157 : decode cX8_levelsOf 157 = .ok (.ireturn, 1) := by decide +kernel
theorem dX8_phaseBits_0 : decode cX8_phaseBits 0 = .ok (.iconst 0, 1) := by decide +kernel
theorem dX8_phaseBits_1 : decode cX8_phaseBits 1 = .ok (.istore_n 1, 1) := by decide +kernel
theorem dX8_phaseBits_2 : decode cX8_phaseBits 2 = .ok (.iconst 0, 1) := by decide +kernel
theorem dX8_phaseBits_3 : decode cX8_phaseBits 3 = .ok (.istore_n 2, 1) := by decide +kernel
theorem dX8_phaseBits_4 : decode cX8_phaseBits 4 = .ok (.iload_n 2, 1) := by decide +kernel
theorem dX8_phaseBits_5 : decode cX8_phaseBits 5 = .ok (.aload_n 0, 1) := by decide +kernel
theorem dX8_phaseBits_6 : decode cX8_phaseBits 6 = .ok (.getfield 119, 3) := by decide +kernel
theorem dX8_phaseBits_9 : decode cX8_phaseBits 9 = .ok (.if_icmp .ge 34, 3) := by decide +kernel
theorem dX8_phaseBits_12 : decode cX8_phaseBits 12 = .ok (.iload_n 1, 1) := by decide +kernel
theorem dX8_phaseBits_13 : decode cX8_phaseBits 13 = .ok (.aload_n 0, 1) := by decide +kernel
theorem dX8_phaseBits_14 : decode cX8_phaseBits 14 = .ok (.getfield 24, 3) := by decide +kernel
theorem dX8_phaseBits_17 : decode cX8_phaseBits 17 = .ok (.iload_n 2, 1) := by decide +kernel
theorem dX8_phaseBits_18 : decode cX8_phaseBits 18 = .ok (.iaload, 1) := by decide +kernel
theorem dX8_phaseBits_19 : decode cX8_phaseBits 19 = .ok (.iconst (-1), 1) := by decide +kernel
theorem dX8_phaseBits_20 : decode cX8_phaseBits 20 = .ok (.if_icmp .ne 7, 3) := by decide +kernel
theorem dX8_phaseBits_23 : decode cX8_phaseBits 23 = .ok (.iconst 0, 1) := by decide +kernel
theorem dX8_phaseBits_24 : decode cX8_phaseBits 24 = .ok (.goto 11, 3) := by decide +kernel
theorem dX8_phaseBits_27 : decode cX8_phaseBits 27 = .ok (.iconst 1, 1) := by decide +kernel
theorem dX8_phaseBits_28 : decode cX8_phaseBits 28 = .ok (.aload_n 0, 1) := by decide +kernel
theorem dX8_phaseBits_29 : decode cX8_phaseBits 29 = .ok (.getfield 24, 3) := by decide +kernel
theorem dX8_phaseBits_32 : decode cX8_phaseBits 32 = .ok (.iload_n 2, 1) := by decide +kernel
theorem dX8_phaseBits_33 : decode cX8_phaseBits 33 = .ok (.iaload, 1) := by decide +kernel
theorem dX8_phaseBits_34 : decode cX8_phaseBits 34 = .ok (.ishl, 1) := by decide +kernel
theorem dX8_phaseBits_35 : decode cX8_phaseBits 35 = .ok (.ior, 1) := by decide +kernel
theorem dX8_phaseBits_36 : decode cX8_phaseBits 36 = .ok (.istore_n 1, 1) := by decide +kernel
theorem dX8_phaseBits_37 : decode cX8_phaseBits 37 = .ok (.iinc 2 1, 3) := by decide +kernel
theorem dX8_phaseBits_40 : decode cX8_phaseBits 40 = .ok (.goto (-36), 3) := by decide +kernel
theorem dX8_phaseBits_43 : decode cX8_phaseBits 43 = .ok (.iload_n 1, 1) := by decide +kernel
theorem dX8_phaseBits_44 : decode cX8_phaseBits 44 = .ok (.ireturn, 1) := by decide +kernel
theorem dX8_told_0 : decode cX8_told 0 = .ok (.aload_n 0, 1) := by decide +kernel
theorem dX8_told_1 : decode cX8_told 1 = .ok (.invokevirtual 178, 3) := by decide +kernel
theorem dX8_told_4 : decode cX8_told 4 = .ok (.iload_n 1, 1) := by decide +kernel
theorem dX8_told_5 : decode cX8_told 5 = .ok (.tableswitch 93 0 6 #[43, 48, 53, 58, 75, 83, 88], 43) := by decide +kernel
theorem dX8_told_48 : decode cX8_told 48 = .ok (.aload_n 0, 1) := by decide +kernel
theorem dX8_told_49 : decode cX8_told 49 = .ok (.getfield 119, 3) := by decide +kernel
theorem dX8_told_52 : decode cX8_told 52 = .ok (.ireturn, 1) := by decide +kernel
theorem dX8_told_53 : decode cX8_told 53 = .ok (.aload_n 0, 1) := by decide +kernel
theorem dX8_told_54 : decode cX8_told 54 = .ok (.getfield 152, 3) := by decide +kernel
theorem dX8_told_57 : decode cX8_told 57 = .ok (.ireturn, 1) := by decide +kernel
theorem dX8_told_58 : decode cX8_told 58 = .ok (.aload_n 0, 1) := by decide +kernel
theorem dX8_told_59 : decode cX8_told 59 = .ok (.invokevirtual 180, 3) := by decide +kernel
theorem dX8_told_62 : decode cX8_told 62 = .ok (.ireturn, 1) := by decide +kernel
theorem dX8_told_63 : decode cX8_told 63 = .ok (.aload_n 0, 1) := by decide +kernel
theorem dX8_told_64 : decode cX8_told 64 = .ok (.invokevirtual 171, 3) := by decide +kernel
theorem dX8_told_67 : decode cX8_told 67 = .ok (.ifCond .eq 8, 3) := by decide +kernel
theorem dX8_told_70 : decode cX8_told 70 = .ok (.bipush (-5), 2) := by decide +kernel
theorem dX8_told_72 : decode cX8_told 72 = .ok (.goto 7, 3) := by decide +kernel
theorem dX8_told_75 : decode cX8_told 75 = .ok (.aload_n 0, 1) := by decide +kernel
theorem dX8_told_76 : decode cX8_told 76 = .ok (.invokevirtual 183, 3) := by decide +kernel
theorem dX8_told_79 : decode cX8_told 79 = .ok (.ireturn, 1) := by decide +kernel
theorem dX8_told_80 : decode cX8_told 80 = .ok (.aload_n 0, 1) := by decide +kernel
theorem dX8_told_81 : decode cX8_told 81 = .ok (.invokevirtual 168, 3) := by decide +kernel
theorem dX8_told_84 : decode cX8_told 84 = .ok (.invokestatic 186, 3) := by decide +kernel
theorem dX8_told_87 : decode cX8_told 87 = .ok (.ireturn, 1) := by decide +kernel
theorem dX8_told_88 : decode cX8_told 88 = .ok (.aload_n 0, 1) := by decide +kernel
theorem dX8_told_89 : decode cX8_told 89 = .ok (.getfield 145, 3) := by decide +kernel
theorem dX8_told_92 : decode cX8_told 92 = .ok (.ireturn, 1) := by decide +kernel
theorem dX8_told_93 : decode cX8_told 93 = .ok (.aload_n 0, 1) := by decide +kernel
theorem dX8_told_94 : decode cX8_told 94 = .ok (.invokevirtual 190, 3) := by decide +kernel
theorem dX8_told_97 : decode cX8_told 97 = .ok (.ireturn, 1) := by decide +kernel
theorem dX8_told_98 : decode cX8_told 98 = .ok (.iconst (-1), 1) := by decide +kernel
theorem dX8_told_99 : decode cX8_told 99 = .ok (.ireturn, 1) := by decide +kernel
theorem dX8_below_0 : decode cX8_below 0 = .ok (.aload_n 0, 1) := by decide +kernel
theorem dX8_below_1 : decode cX8_below 1 = .ok (.iload_n 1, 1) := by decide +kernel
theorem dX8_below_2 : decode cX8_below 2 = .ok (.invokevirtual 126, 3) := by decide +kernel
theorem dX8_below_5 : decode cX8_below 5 = .ok (.ifCond .ne 5, 3) := by decide +kernel
theorem dX8_below_8 : decode cX8_below 8 = .ok (.iconst (-1), 1) := by decide +kernel
theorem dX8_below_9 : decode cX8_below 9 = .ok (.ireturn, 1) := by decide +kernel
theorem dX8_below_10 : decode cX8_below 10 = .ok (.aload_n 0, 1) := by decide +kernel
theorem dX8_below_11 : decode cX8_below 11 = .ok (.invokevirtual 178, 3) := by decide +kernel
theorem dX8_below_14 : decode cX8_below 14 = .ok (.iload_n 2, 1) := by decide +kernel
theorem dX8_below_15 : decode cX8_below 15 = .ok (.tableswitch 67 0 4 #[33, 40, 47, 53, 60], 33) := by decide +kernel
theorem dX8_below_48 : decode cX8_below 48 = .ok (.aload_n 0, 1) := by decide +kernel
theorem dX8_below_49 : decode cX8_below 49 = .ok (.getfield 36, 3) := by decide +kernel
theorem dX8_below_52 : decode cX8_below 52 = .ok (.iload_n 1, 1) := by decide +kernel
theorem dX8_below_53 : decode cX8_below 53 = .ok (.iaload, 1) := by decide +kernel
theorem dX8_below_54 : decode cX8_below 54 = .ok (.ireturn, 1) := by decide +kernel
theorem dX8_below_55 : decode cX8_below 55 = .ok (.aload_n 0, 1) := by decide +kernel
theorem dX8_below_56 : decode cX8_below 56 = .ok (.getfield 42, 3) := by decide +kernel
theorem dX8_below_59 : decode cX8_below 59 = .ok (.iload_n 1, 1) := by decide +kernel
theorem dX8_below_60 : decode cX8_below 60 = .ok (.iaload, 1) := by decide +kernel
theorem dX8_below_61 : decode cX8_below 61 = .ok (.ireturn, 1) := by decide +kernel
theorem dX8_below_62 : decode cX8_below 62 = .ok (.aload_n 0, 1) := by decide +kernel
theorem dX8_below_63 : decode cX8_below 63 = .ok (.iload_n 1, 1) := by decide +kernel
theorem dX8_below_64 : decode cX8_below 64 = .ok (.invokevirtual 193, 3) := by decide +kernel
theorem dX8_below_67 : decode cX8_below 67 = .ok (.ireturn, 1) := by decide +kernel
theorem dX8_below_68 : decode cX8_below 68 = .ok (.aload_n 0, 1) := by decide +kernel
theorem dX8_below_69 : decode cX8_below 69 = .ok (.getfield 39, 3) := by decide +kernel
theorem dX8_below_72 : decode cX8_below 72 = .ok (.iload_n 1, 1) := by decide +kernel
theorem dX8_below_73 : decode cX8_below 73 = .ok (.iaload, 1) := by decide +kernel
theorem dX8_below_74 : decode cX8_below 74 = .ok (.ireturn, 1) := by decide +kernel
theorem dX8_below_75 : decode cX8_below 75 = .ok (.aload_n 0, 1) := by decide +kernel
theorem dX8_below_76 : decode cX8_below 76 = .ok (.getfield 45, 3) := by decide +kernel
theorem dX8_below_79 : decode cX8_below 79 = .ok (.iload_n 1, 1) := by decide +kernel
theorem dX8_below_80 : decode cX8_below 80 = .ok (.iaload, 1) := by decide +kernel
theorem dX8_below_81 : decode cX8_below 81 = .ok (.ireturn, 1) := by decide +kernel
theorem dX8_below_82 : decode cX8_below 82 = .ok (.iconst (-1), 1) := by decide +kernel
theorem dX8_below_83 : decode cX8_below 83 = .ok (.ireturn, 1) := by decide +kernel
theorem dX8_shows_0 : decode cX8_shows 0 = .ok (.aload_n 0, 1) := by decide +kernel
theorem dX8_shows_1 : decode cX8_shows 1 = .ok (.invokevirtual 168, 3) := by decide +kernel
theorem dX8_shows_4 : decode cX8_shows 4 = .ok (.invokestatic 196, 3) := by decide +kernel
theorem dX8_shows_7 : decode cX8_shows 7 = .ok (.istore_n 1, 1) := by decide +kernel
theorem dX8_shows_8 : decode cX8_shows 8 = .ok (.iload_n 1, 1) := by decide +kernel
theorem dX8_shows_9 : decode cX8_shows 9 = .ok (.iconst (-1), 1) := by decide +kernel
theorem dX8_shows_10 : decode cX8_shows 10 = .ok (.if_icmp .ne 5, 3) := by decide +kernel
theorem dX8_shows_13 : decode cX8_shows 13 = .ok (.iconst 0, 1) := by decide +kernel
theorem dX8_shows_14 : decode cX8_shows 14 = .ok (.ireturn, 1) := by decide +kernel
theorem dX8_shows_15 : decode cX8_shows 15 = .ok (.iconst 0, 1) := by decide +kernel
theorem dX8_shows_16 : decode cX8_shows 16 = .ok (.istore_n 2, 1) := by decide +kernel
theorem dX8_shows_17 : decode cX8_shows 17 = .ok (.iload_n 2, 1) := by decide +kernel
theorem dX8_shows_18 : decode cX8_shows 18 = .ok (.aload_n 0, 1) := by decide +kernel
theorem dX8_shows_19 : decode cX8_shows 19 = .ok (.getfield 119, 3) := by decide +kernel
theorem dX8_shows_22 : decode cX8_shows 22 = .ok (.if_icmp .ge 34, 3) := by decide +kernel
theorem dX8_shows_25 : decode cX8_shows 25 = .ok (.aload_n 0, 1) := by decide +kernel
theorem dX8_shows_26 : decode cX8_shows 26 = .ok (.getfield 54, 3) := by decide +kernel
theorem dX8_shows_29 : decode cX8_shows 29 = .ok (.iload_n 2, 1) := by decide +kernel
theorem dX8_shows_30 : decode cX8_shows 30 = .ok (.aload_n 0, 1) := by decide +kernel
theorem dX8_shows_31 : decode cX8_shows 31 = .ok (.getfield 36, 3) := by decide +kernel
theorem dX8_shows_34 : decode cX8_shows 34 = .ok (.iload_n 2, 1) := by decide +kernel
theorem dX8_shows_35 : decode cX8_shows 35 = .ok (.iaload, 1) := by decide +kernel
theorem dX8_shows_36 : decode cX8_shows 36 = .ok (.iload_n 1, 1) := by decide +kernel
theorem dX8_shows_37 : decode cX8_shows 37 = .ok (.invokestatic 130, 3) := by decide +kernel
theorem dX8_shows_40 : decode cX8_shows 40 = .ok (.ifCond .eq 7, 3) := by decide +kernel
theorem dX8_shows_43 : decode cX8_shows 43 = .ok (.iconst 1, 1) := by decide +kernel
theorem dX8_shows_44 : decode cX8_shows 44 = .ok (.goto 5, 3) := by decide +kernel
theorem dX8_shows_47 : decode cX8_shows 47 = .ok (.bipush 99, 2) := by decide +kernel
theorem dX8_shows_49 : decode cX8_shows 49 = .ok (.iastore, 1) := by decide +kernel
theorem dX8_shows_50 : decode cX8_shows 50 = .ok (.iinc 2 1, 3) := by decide +kernel
theorem dX8_shows_53 : decode cX8_shows 53 = .ok (.goto (-36), 3) := by decide +kernel
theorem dX8_shows_56 : decode cX8_shows 56 = .ok (.iconst 0, 1) := by decide +kernel
theorem dX8_shows_57 : decode cX8_shows 57 = .ok (.istore_n 2, 1) := by decide +kernel
theorem dX8_shows_58 : decode cX8_shows 58 = .ok (.iload_n 2, 1) := by decide +kernel
theorem dX8_shows_59 : decode cX8_shows 59 = .ok (.aload_n 0, 1) := by decide +kernel
theorem dX8_shows_60 : decode cX8_shows 60 = .ok (.getfield 119, 3) := by decide +kernel
theorem dX8_shows_63 : decode cX8_shows 63 = .ok (.if_icmp .ge 99, 3) := by decide +kernel
theorem dX8_shows_66 : decode cX8_shows 66 = .ok (.iconst 0, 1) := by decide +kernel
theorem dX8_shows_67 : decode cX8_shows 67 = .ok (.istore_n 3, 1) := by decide +kernel
theorem dX8_shows_68 : decode cX8_shows 68 = .ok (.iload_n 3, 1) := by decide +kernel
theorem dX8_shows_69 : decode cX8_shows 69 = .ok (.aload_n 0, 1) := by decide +kernel
theorem dX8_shows_70 : decode cX8_shows 70 = .ok (.getfield 119, 3) := by decide +kernel
theorem dX8_shows_73 : decode cX8_shows 73 = .ok (.if_icmp .ge 83, 3) := by decide +kernel
theorem dX8_shows_76 : decode cX8_shows 76 = .ok (.iconst 0, 1) := by decide +kernel
theorem dX8_shows_77 : decode cX8_shows 77 = .ok (.istore 4, 2) := by decide +kernel
theorem dX8_shows_79 : decode cX8_shows 79 = .ok (.iload 4, 2) := by decide +kernel
theorem dX8_shows_81 : decode cX8_shows 81 = .ok (.aload_n 0, 1) := by decide +kernel
theorem dX8_shows_82 : decode cX8_shows 82 = .ok (.getfield 119, 3) := by decide +kernel
theorem dX8_shows_85 : decode cX8_shows 85 = .ok (.if_icmp .ge 65, 3) := by decide +kernel
theorem dX8_shows_88 : decode cX8_shows 88 = .ok (.aload_n 0, 1) := by decide +kernel
theorem dX8_shows_89 : decode cX8_shows 89 = .ok (.getfield 54, 3) := by decide +kernel
theorem dX8_shows_92 : decode cX8_shows 92 = .ok (.iload_n 3, 1) := by decide +kernel
theorem dX8_shows_93 : decode cX8_shows 93 = .ok (.aload_n 0, 1) := by decide +kernel
theorem dX8_shows_94 : decode cX8_shows 94 = .ok (.getfield 36, 3) := by decide +kernel
theorem dX8_shows_97 : decode cX8_shows 97 = .ok (.iload_n 3, 1) := by decide +kernel
theorem dX8_shows_98 : decode cX8_shows 98 = .ok (.iaload, 1) := by decide +kernel
theorem dX8_shows_99 : decode cX8_shows 99 = .ok (.iload 4, 2) := by decide +kernel
theorem dX8_shows_101 : decode cX8_shows 101 = .ok (.invokestatic 130, 3) := by decide +kernel
theorem dX8_shows_104 : decode cX8_shows 104 = .ok (.ifCond .eq 33, 3) := by decide +kernel
theorem dX8_shows_107 : decode cX8_shows 107 = .ok (.aload_n 0, 1) := by decide +kernel
theorem dX8_shows_108 : decode cX8_shows 108 = .ok (.getfield 54, 3) := by decide +kernel
theorem dX8_shows_111 : decode cX8_shows 111 = .ok (.iload 4, 2) := by decide +kernel
theorem dX8_shows_113 : decode cX8_shows 113 = .ok (.iaload, 1) := by decide +kernel
theorem dX8_shows_114 : decode cX8_shows 114 = .ok (.iconst 1, 1) := by decide +kernel
theorem dX8_shows_115 : decode cX8_shows 115 = .ok (.iadd, 1) := by decide +kernel
theorem dX8_shows_116 : decode cX8_shows 116 = .ok (.aload_n 0, 1) := by decide +kernel
theorem dX8_shows_117 : decode cX8_shows 117 = .ok (.getfield 54, 3) := by decide +kernel
theorem dX8_shows_120 : decode cX8_shows 120 = .ok (.iload_n 3, 1) := by decide +kernel
theorem dX8_shows_121 : decode cX8_shows 121 = .ok (.iaload, 1) := by decide +kernel
theorem dX8_shows_122 : decode cX8_shows 122 = .ok (.if_icmp .ge 15, 3) := by decide +kernel
theorem dX8_shows_125 : decode cX8_shows 125 = .ok (.aload_n 0, 1) := by decide +kernel
theorem dX8_shows_126 : decode cX8_shows 126 = .ok (.getfield 54, 3) := by decide +kernel
theorem dX8_shows_129 : decode cX8_shows 129 = .ok (.iload 4, 2) := by decide +kernel
theorem dX8_shows_131 : decode cX8_shows 131 = .ok (.iaload, 1) := by decide +kernel
theorem dX8_shows_132 : decode cX8_shows 132 = .ok (.iconst 1, 1) := by decide +kernel
theorem dX8_shows_133 : decode cX8_shows 133 = .ok (.iadd, 1) := by decide +kernel
theorem dX8_shows_134 : decode cX8_shows 134 = .ok (.goto 9, 3) := by decide +kernel
theorem dX8_shows_137 : decode cX8_shows 137 = .ok (.aload_n 0, 1) := by decide +kernel
theorem dX8_shows_138 : decode cX8_shows 138 = .ok (.getfield 54, 3) := by decide +kernel
theorem dX8_shows_141 : decode cX8_shows 141 = .ok (.iload_n 3, 1) := by decide +kernel
theorem dX8_shows_142 : decode cX8_shows 142 = .ok (.iaload, 1) := by decide +kernel
theorem dX8_shows_143 : decode cX8_shows 143 = .ok (.iastore, 1) := by decide +kernel
theorem dX8_shows_144 : decode cX8_shows 144 = .ok (.iinc 4 1, 3) := by decide +kernel
theorem dX8_shows_147 : decode cX8_shows 147 = .ok (.goto (-68), 3) := by decide +kernel
theorem dX8_shows_150 : decode cX8_shows 150 = .ok (.iinc 3 1, 3) := by decide +kernel
theorem dX8_shows_153 : decode cX8_shows 153 = .ok (.goto (-85), 3) := by decide +kernel
theorem dX8_shows_156 : decode cX8_shows 156 = .ok (.iinc 2 1, 3) := by decide +kernel
theorem dX8_shows_159 : decode cX8_shows 159 = .ok (.goto (-101), 3) := by decide +kernel
theorem dX8_shows_162 : decode cX8_shows 162 = .ok (.aload_n 0, 1) := by decide +kernel
theorem dX8_shows_163 : decode cX8_shows 163 = .ok (.getfield 54, 3) := by decide +kernel
theorem dX8_shows_166 : decode cX8_shows 166 = .ok (.iload_n 1, 1) := by decide +kernel
theorem dX8_shows_167 : decode cX8_shows 167 = .ok (.iaload, 1) := by decide +kernel
theorem dX8_shows_168 : decode cX8_shows 168 = .ok (.istore_n 2, 1) := by decide +kernel
theorem dX8_shows_169 : decode cX8_shows 169 = .ok (.aload_n 0, 1) := by decide +kernel
theorem dX8_shows_170 : decode cX8_shows 170 = .ok (.getfield 51, 3) := by decide +kernel
theorem dX8_shows_173 : decode cX8_shows 173 = .ok (.iconst 0, 1) := by decide +kernel
theorem dX8_shows_174 : decode cX8_shows 174 = .ok (.iload_n 1, 1) := by decide +kernel
theorem dX8_shows_175 : decode cX8_shows 175 = .ok (.iastore, 1) := by decide +kernel
theorem dX8_shows_176 : decode cX8_shows 176 = .ok (.iconst 1, 1) := by decide +kernel
theorem dX8_shows_177 : decode cX8_shows 177 = .ok (.istore_n 3, 1) := by decide +kernel
theorem dX8_shows_178 : decode cX8_shows 178 = .ok (.iload_n 3, 1) := by decide +kernel
theorem dX8_shows_179 : decode cX8_shows 179 = .ok (.iload_n 2, 1) := by decide +kernel
theorem dX8_shows_180 : decode cX8_shows 180 = .ok (.if_icmp .ge 82, 3) := by decide +kernel
theorem dX8_shows_183 : decode cX8_shows 183 = .ok (.iconst (-1), 1) := by decide +kernel
theorem dX8_shows_184 : decode cX8_shows 184 = .ok (.istore 4, 2) := by decide +kernel
theorem dX8_shows_186 : decode cX8_shows 186 = .ok (.aload_n 0, 1) := by decide +kernel
theorem dX8_shows_187 : decode cX8_shows 187 = .ok (.getfield 119, 3) := by decide +kernel
theorem dX8_shows_190 : decode cX8_shows 190 = .ok (.iconst 1, 1) := by decide +kernel
theorem dX8_shows_191 : decode cX8_shows 191 = .ok (.isub, 1) := by decide +kernel
theorem dX8_shows_192 : decode cX8_shows 192 = .ok (.istore 5, 2) := by decide +kernel
theorem dX8_shows_194 : decode cX8_shows 194 = .ok (.iload 5, 2) := by decide +kernel
theorem dX8_shows_196 : decode cX8_shows 196 = .ok (.ifCond .lt 52, 3) := by decide +kernel
theorem dX8_shows_199 : decode cX8_shows 199 = .ok (.aload_n 0, 1) := by decide +kernel
theorem dX8_shows_200 : decode cX8_shows 200 = .ok (.getfield 36, 3) := by decide +kernel
theorem dX8_shows_203 : decode cX8_shows 203 = .ok (.aload_n 0, 1) := by decide +kernel
theorem dX8_shows_204 : decode cX8_shows 204 = .ok (.getfield 51, 3) := by decide +kernel
theorem dX8_shows_207 : decode cX8_shows 207 = .ok (.iload_n 3, 1) := by decide +kernel
theorem dX8_shows_208 : decode cX8_shows 208 = .ok (.iconst 1, 1) := by decide +kernel
theorem dX8_shows_209 : decode cX8_shows 209 = .ok (.isub, 1) := by decide +kernel
theorem dX8_shows_210 : decode cX8_shows 210 = .ok (.iaload, 1) := by decide +kernel
theorem dX8_shows_211 : decode cX8_shows 211 = .ok (.iaload, 1) := by decide +kernel
theorem dX8_shows_212 : decode cX8_shows 212 = .ok (.iload 5, 2) := by decide +kernel
theorem dX8_shows_214 : decode cX8_shows 214 = .ok (.invokestatic 130, 3) := by decide +kernel
theorem dX8_shows_217 : decode cX8_shows 217 = .ok (.ifCond .eq 21, 3) := by decide +kernel
theorem dX8_shows_220 : decode cX8_shows 220 = .ok (.aload_n 0, 1) := by decide +kernel
theorem dX8_shows_221 : decode cX8_shows 221 = .ok (.getfield 54, 3) := by decide +kernel
theorem dX8_shows_224 : decode cX8_shows 224 = .ok (.iload 5, 2) := by decide +kernel
theorem dX8_shows_226 : decode cX8_shows 226 = .ok (.iaload, 1) := by decide +kernel
theorem dX8_shows_227 : decode cX8_shows 227 = .ok (.iload_n 2, 1) := by decide +kernel
theorem dX8_shows_228 : decode cX8_shows 228 = .ok (.iload_n 3, 1) := by decide +kernel
theorem dX8_shows_229 : decode cX8_shows 229 = .ok (.isub, 1) := by decide +kernel
theorem dX8_shows_230 : decode cX8_shows 230 = .ok (.if_icmp .ne 8, 3) := by decide +kernel
theorem dX8_shows_233 : decode cX8_shows 233 = .ok (.iload 5, 2) := by decide +kernel
theorem dX8_shows_235 : decode cX8_shows 235 = .ok (.goto 5, 3) := by decide +kernel
theorem dX8_shows_238 : decode cX8_shows 238 = .ok (.iload 4, 2) := by decide +kernel
theorem dX8_shows_240 : decode cX8_shows 240 = .ok (.istore 4, 2) := by decide +kernel
theorem dX8_shows_242 : decode cX8_shows 242 = .ok (.iinc 5 (-1), 3) := by decide +kernel
theorem dX8_shows_245 : decode cX8_shows 245 = .ok (.goto (-51), 3) := by decide +kernel
theorem dX8_shows_248 : decode cX8_shows 248 = .ok (.aload_n 0, 1) := by decide +kernel
theorem dX8_shows_249 : decode cX8_shows 249 = .ok (.getfield 51, 3) := by decide +kernel
theorem dX8_shows_252 : decode cX8_shows 252 = .ok (.iload_n 3, 1) := by decide +kernel
theorem dX8_shows_253 : decode cX8_shows 253 = .ok (.iload 4, 2) := by decide +kernel
theorem dX8_shows_255 : decode cX8_shows 255 = .ok (.iastore, 1) := by decide +kernel
theorem dX8_shows_256 : decode cX8_shows 256 = .ok (.iinc 3 1, 3) := by decide +kernel
theorem dX8_shows_259 : decode cX8_shows 259 = .ok (.goto (-81), 3) := by decide +kernel
theorem dX8_shows_262 : decode cX8_shows 262 = .ok (.iload_n 2, 1) := by decide +kernel
theorem dX8_shows_263 : decode cX8_shows 263 = .ok (.ireturn, 1) := by decide +kernel
theorem dX8_cycle_0 : decode cX8_cycle 0 = .ok (.iload_n 1, 1) := by decide +kernel
theorem dX8_cycle_1 : decode cX8_cycle 1 = .ok (.iconst (-1), 1) := by decide +kernel
theorem dX8_cycle_2 : decode cX8_cycle 2 = .ok (.if_icmp .ge 5, 3) := by decide +kernel
theorem dX8_cycle_5 : decode cX8_cycle 5 = .ok (.iconst (-1), 1) := by decide +kernel
theorem dX8_cycle_6 : decode cX8_cycle 6 = .ok (.ireturn, 1) := by decide +kernel
theorem dX8_cycle_7 : decode cX8_cycle 7 = .ok (.aload_n 0, 1) := by decide +kernel
theorem dX8_cycle_8 : decode cX8_cycle 8 = .ok (.invokevirtual 178, 3) := by decide +kernel
theorem dX8_cycle_11 : decode cX8_cycle 11 = .ok (.aload_n 0, 1) := by decide +kernel
theorem dX8_cycle_12 : decode cX8_cycle 12 = .ok (.invokevirtual 199, 3) := by decide +kernel
theorem dX8_cycle_15 : decode cX8_cycle 15 = .ok (.istore_n 2, 1) := by decide +kernel
theorem dX8_cycle_16 : decode cX8_cycle 16 = .ok (.iload_n 1, 1) := by decide +kernel
theorem dX8_cycle_17 : decode cX8_cycle 17 = .ok (.iconst (-1), 1) := by decide +kernel
theorem dX8_cycle_18 : decode cX8_cycle 18 = .ok (.if_icmp .ne 5, 3) := by decide +kernel
theorem dX8_cycle_21 : decode cX8_cycle 21 = .ok (.iload_n 2, 1) := by decide +kernel
theorem dX8_cycle_22 : decode cX8_cycle 22 = .ok (.ireturn, 1) := by decide +kernel
theorem dX8_cycle_23 : decode cX8_cycle 23 = .ok (.iload_n 1, 1) := by decide +kernel
theorem dX8_cycle_24 : decode cX8_cycle 24 = .ok (.iload_n 2, 1) := by decide +kernel
theorem dX8_cycle_25 : decode cX8_cycle 25 = .ok (.if_icmp .ge 12, 3) := by decide +kernel
theorem dX8_cycle_28 : decode cX8_cycle 28 = .ok (.aload_n 0, 1) := by decide +kernel
theorem dX8_cycle_29 : decode cX8_cycle 29 = .ok (.getfield 51, 3) := by decide +kernel
theorem dX8_cycle_32 : decode cX8_cycle 32 = .ok (.iload_n 1, 1) := by decide +kernel
theorem dX8_cycle_33 : decode cX8_cycle 33 = .ok (.iaload, 1) := by decide +kernel
theorem dX8_cycle_34 : decode cX8_cycle 34 = .ok (.goto 5, 3) := by decide +kernel
theorem dX8_cycle_37 : decode cX8_cycle 37 = .ok (.bipush (-5), 2) := by decide +kernel
theorem dX8_cycle_39 : decode cX8_cycle 39 = .ok (.ireturn, 1) := by decide +kernel
theorem dX8_level_0 : decode cX8_level 0 = .ok (.aload_n 0, 1) := by decide +kernel
theorem dX8_level_1 : decode cX8_level 1 = .ok (.iload_n 1, 1) := by decide +kernel
theorem dX8_level_2 : decode cX8_level 2 = .ok (.invokevirtual 126, 3) := by decide +kernel
theorem dX8_level_5 : decode cX8_level 5 = .ok (.ifCond .ne 5, 3) := by decide +kernel
theorem dX8_level_8 : decode cX8_level 8 = .ok (.iconst (-1), 1) := by decide +kernel
theorem dX8_level_9 : decode cX8_level 9 = .ok (.ireturn, 1) := by decide +kernel
theorem dX8_level_10 : decode cX8_level 10 = .ok (.aload_n 0, 1) := by decide +kernel
theorem dX8_level_11 : decode cX8_level 11 = .ok (.invokevirtual 178, 3) := by decide +kernel
theorem dX8_level_14 : decode cX8_level 14 = .ok (.aload_n 0, 1) := by decide +kernel
theorem dX8_level_15 : decode cX8_level 15 = .ok (.invokevirtual 171, 3) := by decide +kernel
theorem dX8_level_18 : decode cX8_level 18 = .ok (.ifCond .eq 6, 3) := by decide +kernel
theorem dX8_level_21 : decode cX8_level 21 = .ok (.bipush (-3), 2) := by decide +kernel
theorem dX8_level_23 : decode cX8_level 23 = .ok (.ireturn, 1) := by decide +kernel
theorem dX8_level_24 : decode cX8_level 24 = .ok (.aload_n 0, 1) := by decide +kernel
theorem dX8_level_25 : decode cX8_level 25 = .ok (.invokevirtual 183, 3) := by decide +kernel
theorem dX8_level_28 : decode cX8_level 28 = .ok (.pop, 1) := by decide +kernel
theorem dX8_level_29 : decode cX8_level 29 = .ok (.aload_n 0, 1) := by decide +kernel
theorem dX8_level_30 : decode cX8_level 30 = .ok (.getfield 48, 3) := by decide +kernel
theorem dX8_level_33 : decode cX8_level 33 = .ok (.iload_n 1, 1) := by decide +kernel
theorem dX8_level_34 : decode cX8_level 34 = .ok (.iaload, 1) := by decide +kernel
theorem dX8_level_35 : decode cX8_level 35 = .ok (.ireturn, 1) := by decide +kernel
theorem dX8_idle_0 : decode cX8_idle 0 = .ok (.iload_n 1, 1) := by decide +kernel
theorem dX8_idle_1 : decode cX8_idle 1 = .ok (.ifCond .ge 5, 3) := by decide +kernel
theorem dX8_idle_4 : decode cX8_idle 4 = .ok (.iconst (-1), 1) := by decide +kernel
theorem dX8_idle_5 : decode cX8_idle 5 = .ok (.ireturn, 1) := by decide +kernel
theorem dX8_idle_6 : decode cX8_idle 6 = .ok (.aload_n 0, 1) := by decide +kernel
theorem dX8_idle_7 : decode cX8_idle 7 = .ok (.invokevirtual 178, 3) := by decide +kernel
theorem dX8_idle_10 : decode cX8_idle 10 = .ok (.iconst 0, 1) := by decide +kernel
theorem dX8_idle_11 : decode cX8_idle 11 = .ok (.istore_n 2, 1) := by decide +kernel
theorem dX8_idle_12 : decode cX8_idle 12 = .ok (.iconst 0, 1) := by decide +kernel
theorem dX8_idle_13 : decode cX8_idle 13 = .ok (.istore_n 3, 1) := by decide +kernel
theorem dX8_idle_14 : decode cX8_idle 14 = .ok (.iload_n 3, 1) := by decide +kernel
theorem dX8_idle_15 : decode cX8_idle 15 = .ok (.aload_n 0, 1) := by decide +kernel
theorem dX8_idle_16 : decode cX8_idle 16 = .ok (.getfield 152, 3) := by decide +kernel
theorem dX8_idle_19 : decode cX8_idle 19 = .ok (.if_icmp .ge 45, 3) := by decide +kernel
theorem dX8_idle_22 : decode cX8_idle 22 = .ok (.aload_n 0, 1) := by decide +kernel
theorem dX8_idle_23 : decode cX8_idle 23 = .ok (.iload_n 3, 1) := by decide +kernel
theorem dX8_idle_24 : decode cX8_idle 24 = .ok (.invokevirtual 175, 3) := by decide +kernel
theorem dX8_idle_27 : decode cX8_idle 27 = .ok (.ifCond .eq 6, 3) := by decide +kernel
theorem dX8_idle_30 : decode cX8_idle 30 = .ok (.goto 28, 3) := by decide +kernel
theorem dX8_idle_33 : decode cX8_idle 33 = .ok (.iload_n 2, 1) := by decide +kernel
theorem dX8_idle_34 : decode cX8_idle 34 = .ok (.iload_n 1, 1) := by decide +kernel
theorem dX8_idle_35 : decode cX8_idle 35 = .ok (.if_icmp .ne 20, 3) := by decide +kernel
theorem dX8_idle_38 : decode cX8_idle 38 = .ok (.bipush 100, 2) := by decide +kernel
theorem dX8_idle_40 : decode cX8_idle 40 = .ok (.aload_n 0, 1) := by decide +kernel
theorem dX8_idle_41 : decode cX8_idle 41 = .ok (.getfield 27, 3) := by decide +kernel
theorem dX8_idle_44 : decode cX8_idle 44 = .ok (.iload_n 3, 1) := by decide +kernel
theorem dX8_idle_45 : decode cX8_idle 45 = .ok (.iaload, 1) := by decide +kernel
theorem dX8_idle_46 : decode cX8_idle 46 = .ok (.imul, 1) := by decide +kernel
theorem dX8_idle_47 : decode cX8_idle 47 = .ok (.aload_n 0, 1) := by decide +kernel
theorem dX8_idle_48 : decode cX8_idle 48 = .ok (.getfield 30, 3) := by decide +kernel
theorem dX8_idle_51 : decode cX8_idle 51 = .ok (.iload_n 3, 1) := by decide +kernel
theorem dX8_idle_52 : decode cX8_idle 52 = .ok (.iaload, 1) := by decide +kernel
theorem dX8_idle_53 : decode cX8_idle 53 = .ok (.iadd, 1) := by decide +kernel
theorem dX8_idle_54 : decode cX8_idle 54 = .ok (.ireturn, 1) := by decide +kernel
theorem dX8_idle_55 : decode cX8_idle 55 = .ok (.iinc 2 1, 3) := by decide +kernel
theorem dX8_idle_58 : decode cX8_idle 58 = .ok (.iinc 3 1, 3) := by decide +kernel
theorem dX8_idle_61 : decode cX8_idle 61 = .ok (.goto (-47), 3) := by decide +kernel
theorem dX8_idle_64 : decode cX8_idle 64 = .ok (.bipush (-5), 2) := by decide +kernel
theorem dX8_idle_66 : decode cX8_idle 66 = .ok (.ireturn, 1) := by decide +kernel
theorem dX8_earliest_0 : decode cX8_earliest 0 = .ok (.aload_n 0, 1) := by decide +kernel
theorem dX8_earliest_1 : decode cX8_earliest 1 = .ok (.getfield 18, 3) := by decide +kernel
theorem dX8_earliest_4 : decode cX8_earliest 4 = .ok (.iload_n 1, 1) := by decide +kernel
theorem dX8_earliest_5 : decode cX8_earliest 5 = .ok (.iaload, 1) := by decide +kernel
theorem dX8_earliest_6 : decode cX8_earliest 6 = .ok (.istore_n 2, 1) := by decide +kernel
theorem dX8_earliest_7 : decode cX8_earliest 7 = .ok (.iconst 0, 1) := by decide +kernel
theorem dX8_earliest_8 : decode cX8_earliest 8 = .ok (.istore_n 3, 1) := by decide +kernel
theorem dX8_earliest_9 : decode cX8_earliest 9 = .ok (.iload_n 3, 1) := by decide +kernel
theorem dX8_earliest_10 : decode cX8_earliest 10 = .ok (.aload_n 0, 1) := by decide +kernel
theorem dX8_earliest_11 : decode cX8_earliest 11 = .ok (.getfield 119, 3) := by decide +kernel
theorem dX8_earliest_14 : decode cX8_earliest 14 = .ok (.if_icmp .ge 43, 3) := by decide +kernel
theorem dX8_earliest_17 : decode cX8_earliest 17 = .ok (.aload_n 0, 1) := by decide +kernel
theorem dX8_earliest_18 : decode cX8_earliest 18 = .ok (.getfield 42, 3) := by decide +kernel
theorem dX8_earliest_21 : decode cX8_earliest 21 = .ok (.iload_n 1, 1) := by decide +kernel
theorem dX8_earliest_22 : decode cX8_earliest 22 = .ok (.iaload, 1) := by decide +kernel
theorem dX8_earliest_23 : decode cX8_earliest 23 = .ok (.iload_n 3, 1) := by decide +kernel
theorem dX8_earliest_24 : decode cX8_earliest 24 = .ok (.invokestatic 130, 3) := by decide +kernel
theorem dX8_earliest_27 : decode cX8_earliest 27 = .ok (.ifCond .eq 22, 3) := by decide +kernel
theorem dX8_earliest_30 : decode cX8_earliest 30 = .ok (.aload_n 0, 1) := by decide +kernel
theorem dX8_earliest_31 : decode cX8_earliest 31 = .ok (.getfield 18, 3) := by decide +kernel
theorem dX8_earliest_34 : decode cX8_earliest 34 = .ok (.iload_n 3, 1) := by decide +kernel
theorem dX8_earliest_35 : decode cX8_earliest 35 = .ok (.iaload, 1) := by decide +kernel
theorem dX8_earliest_36 : decode cX8_earliest 36 = .ok (.iload_n 2, 1) := by decide +kernel
theorem dX8_earliest_37 : decode cX8_earliest 37 = .ok (.if_icmp .le 12, 3) := by decide +kernel
theorem dX8_earliest_40 : decode cX8_earliest 40 = .ok (.aload_n 0, 1) := by decide +kernel
theorem dX8_earliest_41 : decode cX8_earliest 41 = .ok (.getfield 18, 3) := by decide +kernel
theorem dX8_earliest_44 : decode cX8_earliest 44 = .ok (.iload_n 3, 1) := by decide +kernel
theorem dX8_earliest_45 : decode cX8_earliest 45 = .ok (.iaload, 1) := by decide +kernel
theorem dX8_earliest_46 : decode cX8_earliest 46 = .ok (.goto 4, 3) := by decide +kernel
theorem dX8_earliest_49 : decode cX8_earliest 49 = .ok (.iload_n 2, 1) := by decide +kernel
theorem dX8_earliest_50 : decode cX8_earliest 50 = .ok (.istore_n 2, 1) := by decide +kernel
theorem dX8_earliest_51 : decode cX8_earliest 51 = .ok (.iinc 3 1, 3) := by decide +kernel
theorem dX8_earliest_54 : decode cX8_earliest 54 = .ok (.goto (-45), 3) := by decide +kernel
theorem dX8_earliest_57 : decode cX8_earliest 57 = .ok (.iload_n 2, 1) := by decide +kernel
theorem dX8_earliest_58 : decode cX8_earliest 58 = .ok (.ireturn, 1) := by decide +kernel
theorem dX8_latest_0 : decode cX8_latest 0 = .ok (.aload_n 0, 1) := by decide +kernel
theorem dX8_latest_1 : decode cX8_latest 1 = .ok (.getfield 21, 3) := by decide +kernel
theorem dX8_latest_4 : decode cX8_latest 4 = .ok (.iload_n 1, 1) := by decide +kernel
theorem dX8_latest_5 : decode cX8_latest 5 = .ok (.iaload, 1) := by decide +kernel
theorem dX8_latest_6 : decode cX8_latest 6 = .ok (.istore_n 2, 1) := by decide +kernel
theorem dX8_latest_7 : decode cX8_latest 7 = .ok (.iconst 0, 1) := by decide +kernel
theorem dX8_latest_8 : decode cX8_latest 8 = .ok (.istore_n 3, 1) := by decide +kernel
theorem dX8_latest_9 : decode cX8_latest 9 = .ok (.iload_n 3, 1) := by decide +kernel
theorem dX8_latest_10 : decode cX8_latest 10 = .ok (.aload_n 0, 1) := by decide +kernel
theorem dX8_latest_11 : decode cX8_latest 11 = .ok (.getfield 119, 3) := by decide +kernel
theorem dX8_latest_14 : decode cX8_latest 14 = .ok (.if_icmp .ge 43, 3) := by decide +kernel
theorem dX8_latest_17 : decode cX8_latest 17 = .ok (.aload_n 0, 1) := by decide +kernel
theorem dX8_latest_18 : decode cX8_latest 18 = .ok (.getfield 45, 3) := by decide +kernel
theorem dX8_latest_21 : decode cX8_latest 21 = .ok (.iload_n 1, 1) := by decide +kernel
theorem dX8_latest_22 : decode cX8_latest 22 = .ok (.iaload, 1) := by decide +kernel
theorem dX8_latest_23 : decode cX8_latest 23 = .ok (.iload_n 3, 1) := by decide +kernel
theorem dX8_latest_24 : decode cX8_latest 24 = .ok (.invokestatic 130, 3) := by decide +kernel
theorem dX8_latest_27 : decode cX8_latest 27 = .ok (.ifCond .eq 22, 3) := by decide +kernel
theorem dX8_latest_30 : decode cX8_latest 30 = .ok (.aload_n 0, 1) := by decide +kernel
theorem dX8_latest_31 : decode cX8_latest 31 = .ok (.getfield 21, 3) := by decide +kernel
theorem dX8_latest_34 : decode cX8_latest 34 = .ok (.iload_n 3, 1) := by decide +kernel
theorem dX8_latest_35 : decode cX8_latest 35 = .ok (.iaload, 1) := by decide +kernel
theorem dX8_latest_36 : decode cX8_latest 36 = .ok (.iload_n 2, 1) := by decide +kernel
theorem dX8_latest_37 : decode cX8_latest 37 = .ok (.if_icmp .ge 12, 3) := by decide +kernel
theorem dX8_latest_40 : decode cX8_latest 40 = .ok (.aload_n 0, 1) := by decide +kernel
theorem dX8_latest_41 : decode cX8_latest 41 = .ok (.getfield 21, 3) := by decide +kernel
theorem dX8_latest_44 : decode cX8_latest 44 = .ok (.iload_n 3, 1) := by decide +kernel
theorem dX8_latest_45 : decode cX8_latest 45 = .ok (.iaload, 1) := by decide +kernel
theorem dX8_latest_46 : decode cX8_latest 46 = .ok (.goto 4, 3) := by decide +kernel
theorem dX8_latest_49 : decode cX8_latest 49 = .ok (.iload_n 2, 1) := by decide +kernel
theorem dX8_latest_50 : decode cX8_latest 50 = .ok (.istore_n 2, 1) := by decide +kernel
theorem dX8_latest_51 : decode cX8_latest 51 = .ok (.iinc 3 1, 3) := by decide +kernel
theorem dX8_latest_54 : decode cX8_latest 54 = .ok (.goto (-45), 3) := by decide +kernel
theorem dX8_latest_57 : decode cX8_latest 57 = .ok (.iload_n 2, 1) := by decide +kernel
theorem dX8_latest_58 : decode cX8_latest 58 = .ok (.ireturn, 1) := by decide +kernel
theorem dX8_inPhase_0 : decode cX8_inPhase 0 = .ok (.iconst 0, 1) := by decide +kernel
theorem dX8_inPhase_1 : decode cX8_inPhase 1 = .ok (.istore_n 2, 1) := by decide +kernel
theorem dX8_inPhase_2 : decode cX8_inPhase 2 = .ok (.iconst 0, 1) := by decide +kernel
theorem dX8_inPhase_3 : decode cX8_inPhase 3 = .ok (.istore_n 3, 1) := by decide +kernel
theorem dX8_inPhase_4 : decode cX8_inPhase 4 = .ok (.iload_n 3, 1) := by decide +kernel
theorem dX8_inPhase_5 : decode cX8_inPhase 5 = .ok (.aload_n 0, 1) := by decide +kernel
theorem dX8_inPhase_6 : decode cX8_inPhase 6 = .ok (.getfield 119, 3) := by decide +kernel
theorem dX8_inPhase_9 : decode cX8_inPhase 9 = .ok (.if_icmp .ge 29, 3) := by decide +kernel
theorem dX8_inPhase_12 : decode cX8_inPhase 12 = .ok (.iload_n 2, 1) := by decide +kernel
theorem dX8_inPhase_13 : decode cX8_inPhase 13 = .ok (.aload_n 0, 1) := by decide +kernel
theorem dX8_inPhase_14 : decode cX8_inPhase 14 = .ok (.getfield 24, 3) := by decide +kernel
theorem dX8_inPhase_17 : decode cX8_inPhase 17 = .ok (.iload_n 3, 1) := by decide +kernel
theorem dX8_inPhase_18 : decode cX8_inPhase 18 = .ok (.iaload, 1) := by decide +kernel
theorem dX8_inPhase_19 : decode cX8_inPhase 19 = .ok (.iload_n 1, 1) := by decide +kernel
theorem dX8_inPhase_20 : decode cX8_inPhase 20 = .ok (.if_icmp .ne 9, 3) := by decide +kernel
theorem dX8_inPhase_23 : decode cX8_inPhase 23 = .ok (.iconst 1, 1) := by decide +kernel
theorem dX8_inPhase_24 : decode cX8_inPhase 24 = .ok (.iload_n 3, 1) := by decide +kernel
theorem dX8_inPhase_25 : decode cX8_inPhase 25 = .ok (.ishl, 1) := by decide +kernel
theorem dX8_inPhase_26 : decode cX8_inPhase 26 = .ok (.goto 4, 3) := by decide +kernel
theorem dX8_inPhase_29 : decode cX8_inPhase 29 = .ok (.iconst 0, 1) := by decide +kernel
theorem dX8_inPhase_30 : decode cX8_inPhase 30 = .ok (.ior, 1) := by decide +kernel
theorem dX8_inPhase_31 : decode cX8_inPhase 31 = .ok (.istore_n 2, 1) := by decide +kernel
theorem dX8_inPhase_32 : decode cX8_inPhase 32 = .ok (.iinc 3 1, 3) := by decide +kernel
theorem dX8_inPhase_35 : decode cX8_inPhase 35 = .ok (.goto (-31), 3) := by decide +kernel
theorem dX8_inPhase_38 : decode cX8_inPhase 38 = .ok (.iload_n 2, 1) := by decide +kernel
theorem dX8_inPhase_39 : decode cX8_inPhase 39 = .ok (.ireturn, 1) := by decide +kernel
theorem dX8_reacher_0 : decode cX8_reacher 0 = .ok (.aload_n 0, 1) := by decide +kernel
theorem dX8_reacher_1 : decode cX8_reacher 1 = .ok (.iload_n 1, 1) := by decide +kernel
theorem dX8_reacher_2 : decode cX8_reacher 2 = .ok (.invokevirtual 202, 3) := by decide +kernel
theorem dX8_reacher_5 : decode cX8_reacher 5 = .ok (.istore_n 3, 1) := by decide +kernel
theorem dX8_reacher_6 : decode cX8_reacher 6 = .ok (.iconst 0, 1) := by decide +kernel
theorem dX8_reacher_7 : decode cX8_reacher 7 = .ok (.istore 4, 2) := by decide +kernel
theorem dX8_reacher_9 : decode cX8_reacher 9 = .ok (.iload 4, 2) := by decide +kernel
theorem dX8_reacher_11 : decode cX8_reacher 11 = .ok (.aload_n 0, 1) := by decide +kernel
theorem dX8_reacher_12 : decode cX8_reacher 12 = .ok (.getfield 119, 3) := by decide +kernel
theorem dX8_reacher_15 : decode cX8_reacher 15 = .ok (.if_icmp .ge 37, 3) := by decide +kernel
theorem dX8_reacher_18 : decode cX8_reacher 18 = .ok (.iload_n 3, 1) := by decide +kernel
theorem dX8_reacher_19 : decode cX8_reacher 19 = .ok (.iload 4, 2) := by decide +kernel
theorem dX8_reacher_21 : decode cX8_reacher 21 = .ok (.invokestatic 130, 3) := by decide +kernel
theorem dX8_reacher_24 : decode cX8_reacher 24 = .ok (.ifCond .eq 22, 3) := by decide +kernel
theorem dX8_reacher_27 : decode cX8_reacher 27 = .ok (.aload_n 0, 1) := by decide +kernel
theorem dX8_reacher_28 : decode cX8_reacher 28 = .ok (.getfield 42, 3) := by decide +kernel
theorem dX8_reacher_31 : decode cX8_reacher 31 = .ok (.iload 4, 2) := by decide +kernel
theorem dX8_reacher_33 : decode cX8_reacher 33 = .ok (.iaload, 1) := by decide +kernel
theorem dX8_reacher_34 : decode cX8_reacher 34 = .ok (.aload_n 0, 1) := by decide +kernel
theorem dX8_reacher_35 : decode cX8_reacher 35 = .ok (.iload_n 2, 1) := by decide +kernel
theorem dX8_reacher_36 : decode cX8_reacher 36 = .ok (.invokevirtual 202, 3) := by decide +kernel
theorem dX8_reacher_39 : decode cX8_reacher 39 = .ok (.iand, 1) := by decide +kernel
theorem dX8_reacher_40 : decode cX8_reacher 40 = .ok (.ifCond .eq 6, 3) := by decide +kernel
theorem dX8_reacher_43 : decode cX8_reacher 43 = .ok (.iload 4, 2) := by decide +kernel
theorem dX8_reacher_45 : decode cX8_reacher 45 = .ok (.ireturn, 1) := by decide +kernel
theorem dX8_reacher_46 : decode cX8_reacher 46 = .ok (.iinc 4 1, 3) := by decide +kernel
theorem dX8_reacher_49 : decode cX8_reacher 49 = .ok (.goto (-40), 3) := by decide +kernel
theorem dX8_reacher_52 : decode cX8_reacher 52 = .ok (.iconst (-1), 1) := by decide +kernel
theorem dX8_reacher_53 : decode cX8_reacher 53 = .ok (.ireturn, 1) := by decide +kernel
theorem dX8_faults_0 : decode cX8_faults 0 = .ok (.aload_n 0, 1) := by decide +kernel
theorem dX8_faults_1 : decode cX8_faults 1 = .ok (.getfield 205, 3) := by decide +kernel
theorem dX8_faults_4 : decode cX8_faults 4 = .ok (.ifCond .ne 18, 3) := by decide +kernel
theorem dX8_faults_7 : decode cX8_faults 7 = .ok (.aload_n 0, 1) := by decide +kernel
theorem dX8_faults_8 : decode cX8_faults 8 = .ok (.iload_n 1, 1) := by decide +kernel
theorem dX8_faults_9 : decode cX8_faults 9 = .ok (.putfield 205, 3) := by decide +kernel
theorem dX8_faults_12 : decode cX8_faults 12 = .ok (.aload_n 0, 1) := by decide +kernel
theorem dX8_faults_13 : decode cX8_faults 13 = .ok (.iload_n 2, 1) := by decide +kernel
theorem dX8_faults_14 : decode cX8_faults 14 = .ok (.putfield 208, 3) := by decide +kernel
theorem dX8_faults_17 : decode cX8_faults 17 = .ok (.aload_n 0, 1) := by decide +kernel
theorem dX8_faults_18 : decode cX8_faults 18 = .ok (.iload_n 3, 1) := by decide +kernel
theorem dX8_faults_19 : decode cX8_faults 19 = .ok (.putfield 211, 3) := by decide +kernel
theorem dX8_faults_22 : decode cX8_faults 22 = .ok (.return_, 1) := by decide +kernel
theorem dX8_isBare_0 : decode cX8_isBare 0 = .ok (.aload_n 0, 1) := by decide +kernel
theorem dX8_isBare_1 : decode cX8_isBare 1 = .ok (.getfield 11, 3) := by decide +kernel
theorem dX8_isBare_4 : decode cX8_isBare 4 = .ok (.iload_n 1, 1) := by decide +kernel
theorem dX8_isBare_5 : decode cX8_isBare 5 = .ok (.iaload, 1) := by decide +kernel
theorem dX8_isBare_6 : decode cX8_isBare 6 = .ok (.iconst 2, 1) := by decide +kernel
theorem dX8_isBare_7 : decode cX8_isBare 7 = .ok (.if_icmp .eq 15, 3) := by decide +kernel
theorem dX8_isBare_10 : decode cX8_isBare 10 = .ok (.aload_n 0, 1) := by decide +kernel
theorem dX8_isBare_11 : decode cX8_isBare 11 = .ok (.getfield 11, 3) := by decide +kernel
theorem dX8_isBare_14 : decode cX8_isBare 14 = .ok (.iload_n 1, 1) := by decide +kernel
theorem dX8_isBare_15 : decode cX8_isBare 15 = .ok (.iaload, 1) := by decide +kernel
theorem dX8_isBare_16 : decode cX8_isBare 16 = .ok (.iconst 5, 1) := by decide +kernel
theorem dX8_isBare_17 : decode cX8_isBare 17 = .ok (.if_icmp .eq 5, 3) := by decide +kernel
theorem dX8_isBare_20 : decode cX8_isBare 20 = .ok (.iconst 0, 1) := by decide +kernel
theorem dX8_isBare_21 : decode cX8_isBare 21 = .ok (.ireturn, 1) := by decide +kernel
theorem dX8_isBare_22 : decode cX8_isBare 22 = .ok (.aload_n 0, 1) := by decide +kernel
theorem dX8_isBare_23 : decode cX8_isBare 23 = .ok (.iload_n 1, 1) := by decide +kernel
theorem dX8_isBare_24 : decode cX8_isBare 24 = .ok (.invokevirtual 193, 3) := by decide +kernel
theorem dX8_isBare_27 : decode cX8_isBare 27 = .ok (.istore_n 2, 1) := by decide +kernel
theorem dX8_isBare_28 : decode cX8_isBare 28 = .ok (.iconst 0, 1) := by decide +kernel
theorem dX8_isBare_29 : decode cX8_isBare 29 = .ok (.istore_n 3, 1) := by decide +kernel
theorem dX8_isBare_30 : decode cX8_isBare 30 = .ok (.iload_n 3, 1) := by decide +kernel
theorem dX8_isBare_31 : decode cX8_isBare 31 = .ok (.aload_n 0, 1) := by decide +kernel
theorem dX8_isBare_32 : decode cX8_isBare 32 = .ok (.getfield 119, 3) := by decide +kernel
theorem dX8_isBare_35 : decode cX8_isBare 35 = .ok (.if_icmp .ge 39, 3) := by decide +kernel
theorem dX8_isBare_38 : decode cX8_isBare 38 = .ok (.iload_n 2, 1) := by decide +kernel
theorem dX8_isBare_39 : decode cX8_isBare 39 = .ok (.iload_n 3, 1) := by decide +kernel
theorem dX8_isBare_40 : decode cX8_isBare 40 = .ok (.invokestatic 130, 3) := by decide +kernel
theorem dX8_isBare_43 : decode cX8_isBare 43 = .ok (.ifCond .eq 25, 3) := by decide +kernel
theorem dX8_isBare_46 : decode cX8_isBare 46 = .ok (.aload_n 0, 1) := by decide +kernel
theorem dX8_isBare_47 : decode cX8_isBare 47 = .ok (.getfield 11, 3) := by decide +kernel
theorem dX8_isBare_50 : decode cX8_isBare 50 = .ok (.iload_n 3, 1) := by decide +kernel
theorem dX8_isBare_51 : decode cX8_isBare 51 = .ok (.iaload, 1) := by decide +kernel
theorem dX8_isBare_52 : decode cX8_isBare 52 = .ok (.iconst 1, 1) := by decide +kernel
theorem dX8_isBare_53 : decode cX8_isBare 53 = .ok (.if_icmp .eq 13, 3) := by decide +kernel
theorem dX8_isBare_56 : decode cX8_isBare 56 = .ok (.aload_n 0, 1) := by decide +kernel
theorem dX8_isBare_57 : decode cX8_isBare 57 = .ok (.getfield 11, 3) := by decide +kernel
theorem dX8_isBare_60 : decode cX8_isBare 60 = .ok (.iload_n 3, 1) := by decide +kernel
theorem dX8_isBare_61 : decode cX8_isBare 61 = .ok (.iaload, 1) := by decide +kernel
theorem dX8_isBare_62 : decode cX8_isBare 62 = .ok (.iconst 4, 1) := by decide +kernel
theorem dX8_isBare_63 : decode cX8_isBare 63 = .ok (.if_icmp .ne 5, 3) := by decide +kernel
theorem dX8_isBare_66 : decode cX8_isBare 66 = .ok (.iconst 0, 1) := by decide +kernel
theorem dX8_isBare_67 : decode cX8_isBare 67 = .ok (.ireturn, 1) := by decide +kernel
theorem dX8_isBare_68 : decode cX8_isBare 68 = .ok (.iinc 3 1, 3) := by decide +kernel
theorem dX8_isBare_71 : decode cX8_isBare 71 = .ok (.goto (-41), 3) := by decide +kernel
theorem dX8_isBare_74 : decode cX8_isBare 74 = .ok (.iconst 1, 1) := by decide +kernel
theorem dX8_isBare_75 : decode cX8_isBare 75 = .ok (.ireturn, 1) := by decide +kernel
theorem dX8_proves_0 : decode cX8_proves 0 = .ok (.aload_n 0, 1) := by decide +kernel
theorem dX8_proves_1 : decode cX8_proves 1 = .ok (.iconst 0, 1) := by decide +kernel
theorem dX8_proves_2 : decode cX8_proves 2 = .ok (.putfield 205, 3) := by decide +kernel
theorem dX8_proves_5 : decode cX8_proves 5 = .ok (.aload_n 0, 1) := by decide +kernel
theorem dX8_proves_6 : decode cX8_proves 6 = .ok (.invokevirtual 178, 3) := by decide +kernel
theorem dX8_proves_9 : decode cX8_proves 9 = .ok (.aload_n 0, 1) := by decide +kernel
theorem dX8_proves_10 : decode cX8_proves 10 = .ok (.invokevirtual 171, 3) := by decide +kernel
theorem dX8_proves_13 : decode cX8_proves 13 = .ok (.ifCond .eq 21, 3) := by decide +kernel
theorem dX8_proves_16 : decode cX8_proves 16 = .ok (.aload_n 0, 1) := by decide +kernel
theorem dX8_proves_17 : decode cX8_proves 17 = .ok (.invokevirtual 199, 3) := by decide +kernel
theorem dX8_proves_20 : decode cX8_proves 20 = .ok (.istore_n 1, 1) := by decide +kernel
theorem dX8_proves_21 : decode cX8_proves 21 = .ok (.aload_n 0, 1) := by decide +kernel
theorem dX8_proves_22 : decode cX8_proves 22 = .ok (.iconst 1, 1) := by decide +kernel
theorem dX8_proves_23 : decode cX8_proves 23 = .ok (.aload_n 0, 1) := by decide +kernel
theorem dX8_proves_24 : decode cX8_proves 24 = .ok (.getfield 51, 3) := by decide +kernel
theorem dX8_proves_27 : decode cX8_proves 27 = .ok (.iconst 0, 1) := by decide +kernel
theorem dX8_proves_28 : decode cX8_proves 28 = .ok (.iaload, 1) := by decide +kernel
theorem dX8_proves_29 : decode cX8_proves 29 = .ok (.iload_n 1, 1) := by decide +kernel
theorem dX8_proves_30 : decode cX8_proves 30 = .ok (.invokevirtual 214, 3) := by decide +kernel
theorem dX8_proves_33 : decode cX8_proves 33 = .ok (.return_, 1) := by decide +kernel
theorem dX8_proves_34 : decode cX8_proves 34 = .ok (.iconst 0, 1) := by decide +kernel
theorem dX8_proves_35 : decode cX8_proves 35 = .ok (.istore_n 1, 1) := by decide +kernel
theorem dX8_proves_36 : decode cX8_proves 36 = .ok (.iload_n 1, 1) := by decide +kernel
theorem dX8_proves_37 : decode cX8_proves 37 = .ok (.aload_n 0, 1) := by decide +kernel
theorem dX8_proves_38 : decode cX8_proves 38 = .ok (.getfield 119, 3) := by decide +kernel
theorem dX8_proves_41 : decode cX8_proves 41 = .ok (.if_icmp .ge 25, 3) := by decide +kernel
theorem dX8_proves_44 : decode cX8_proves 44 = .ok (.aload_n 0, 1) := by decide +kernel
theorem dX8_proves_45 : decode cX8_proves 45 = .ok (.iload_n 1, 1) := by decide +kernel
theorem dX8_proves_46 : decode cX8_proves 46 = .ok (.invokevirtual 217, 3) := by decide +kernel
theorem dX8_proves_49 : decode cX8_proves 49 = .ok (.ifCond .eq 11, 3) := by decide +kernel
theorem dX8_proves_52 : decode cX8_proves 52 = .ok (.aload_n 0, 1) := by decide +kernel
theorem dX8_proves_53 : decode cX8_proves 53 = .ok (.iconst 2, 1) := by decide +kernel
theorem dX8_proves_54 : decode cX8_proves 54 = .ok (.iload_n 1, 1) := by decide +kernel
theorem dX8_proves_55 : decode cX8_proves 55 = .ok (.bipush (-5), 2) := by decide +kernel
theorem dX8_proves_57 : decode cX8_proves 57 = .ok (.invokevirtual 214, 3) := by decide +kernel
theorem dX8_proves_60 : decode cX8_proves 60 = .ok (.iinc 1 1, 3) := by decide +kernel
theorem dX8_proves_63 : decode cX8_proves 63 = .ok (.goto (-27), 3) := by decide +kernel
theorem dX8_proves_66 : decode cX8_proves 66 = .ok (.iconst 0, 1) := by decide +kernel
theorem dX8_proves_67 : decode cX8_proves 67 = .ok (.istore_n 1, 1) := by decide +kernel
theorem dX8_proves_68 : decode cX8_proves 68 = .ok (.iload_n 1, 1) := by decide +kernel
theorem dX8_proves_69 : decode cX8_proves 69 = .ok (.bipush 6, 2) := by decide +kernel
theorem dX8_proves_71 : decode cX8_proves 71 = .ok (.if_icmp .ge 78, 3) := by decide +kernel
theorem dX8_proves_74 : decode cX8_proves 74 = .ok (.iload_n 1, 1) := by decide +kernel
theorem dX8_proves_75 : decode cX8_proves 75 = .ok (.iconst 1, 1) := by decide +kernel
theorem dX8_proves_76 : decode cX8_proves 76 = .ok (.iadd, 1) := by decide +kernel
theorem dX8_proves_77 : decode cX8_proves 77 = .ok (.istore_n 2, 1) := by decide +kernel
theorem dX8_proves_78 : decode cX8_proves 78 = .ok (.iload_n 2, 1) := by decide +kernel
theorem dX8_proves_79 : decode cX8_proves 79 = .ok (.bipush 6, 2) := by decide +kernel
theorem dX8_proves_81 : decode cX8_proves 81 = .ok (.if_icmp .ge 62, 3) := by decide +kernel
theorem dX8_proves_84 : decode cX8_proves 84 = .ok (.aload_n 0, 1) := by decide +kernel
theorem dX8_proves_85 : decode cX8_proves 85 = .ok (.iload_n 1, 1) := by decide +kernel
theorem dX8_proves_86 : decode cX8_proves 86 = .ok (.iload_n 2, 1) := by decide +kernel
theorem dX8_proves_87 : decode cX8_proves 87 = .ok (.invokevirtual 220, 3) := by decide +kernel
theorem dX8_proves_90 : decode cX8_proves 90 = .ok (.istore_n 3, 1) := by decide +kernel
theorem dX8_proves_91 : decode cX8_proves 91 = .ok (.iload_n 3, 1) := by decide +kernel
theorem dX8_proves_92 : decode cX8_proves 92 = .ok (.iconst (-1), 1) := by decide +kernel
theorem dX8_proves_93 : decode cX8_proves 93 = .ok (.if_icmp .eq 44, 3) := by decide +kernel
theorem dX8_proves_96 : decode cX8_proves 96 = .ok (.aload_n 0, 1) := by decide +kernel
theorem dX8_proves_97 : decode cX8_proves 97 = .ok (.iload_n 2, 1) := by decide +kernel
theorem dX8_proves_98 : decode cX8_proves 98 = .ok (.iload_n 1, 1) := by decide +kernel
theorem dX8_proves_99 : decode cX8_proves 99 = .ok (.invokevirtual 220, 3) := by decide +kernel
theorem dX8_proves_102 : decode cX8_proves 102 = .ok (.iconst (-1), 1) := by decide +kernel
theorem dX8_proves_103 : decode cX8_proves 103 = .ok (.if_icmp .eq 34, 3) := by decide +kernel
theorem dX8_proves_106 : decode cX8_proves 106 = .ok (.aload_n 0, 1) := by decide +kernel
theorem dX8_proves_107 : decode cX8_proves 107 = .ok (.iconst 3, 1) := by decide +kernel
theorem dX8_proves_108 : decode cX8_proves 108 = .ok (.bipush 10, 2) := by decide +kernel
theorem dX8_proves_110 : decode cX8_proves 110 = .ok (.iload_n 1, 1) := by decide +kernel
theorem dX8_proves_111 : decode cX8_proves 111 = .ok (.imul, 1) := by decide +kernel
theorem dX8_proves_112 : decode cX8_proves 112 = .ok (.iload_n 2, 1) := by decide +kernel
theorem dX8_proves_113 : decode cX8_proves 113 = .ok (.iadd, 1) := by decide +kernel
theorem dX8_proves_114 : decode cX8_proves 114 = .ok (.bipush 100, 2) := by decide +kernel
theorem dX8_proves_116 : decode cX8_proves 116 = .ok (.iload_n 3, 1) := by decide +kernel
theorem dX8_proves_117 : decode cX8_proves 117 = .ok (.imul, 1) := by decide +kernel
theorem dX8_proves_118 : decode cX8_proves 118 = .ok (.aload_n 0, 1) := by decide +kernel
theorem dX8_proves_119 : decode cX8_proves 119 = .ok (.getfield 42, 3) := by decide +kernel
theorem dX8_proves_122 : decode cX8_proves 122 = .ok (.iload_n 3, 1) := by decide +kernel
theorem dX8_proves_123 : decode cX8_proves 123 = .ok (.iaload, 1) := by decide +kernel
theorem dX8_proves_124 : decode cX8_proves 124 = .ok (.aload_n 0, 1) := by decide +kernel
theorem dX8_proves_125 : decode cX8_proves 125 = .ok (.iload_n 2, 1) := by decide +kernel
theorem dX8_proves_126 : decode cX8_proves 126 = .ok (.invokevirtual 202, 3) := by decide +kernel
theorem dX8_proves_129 : decode cX8_proves 129 = .ok (.iand, 1) := by decide +kernel
theorem dX8_proves_130 : decode cX8_proves 130 = .ok (.invokestatic 196, 3) := by decide +kernel
theorem dX8_proves_133 : decode cX8_proves 133 = .ok (.iadd, 1) := by decide +kernel
theorem dX8_proves_134 : decode cX8_proves 134 = .ok (.invokevirtual 214, 3) := by decide +kernel
theorem dX8_proves_137 : decode cX8_proves 137 = .ok (.iinc 2 1, 3) := by decide +kernel
theorem dX8_proves_140 : decode cX8_proves 140 = .ok (.goto (-62), 3) := by decide +kernel
theorem dX8_proves_143 : decode cX8_proves 143 = .ok (.iinc 1 1, 3) := by decide +kernel
theorem dX8_proves_146 : decode cX8_proves 146 = .ok (.goto (-78), 3) := by decide +kernel
theorem dX8_proves_149 : decode cX8_proves 149 = .ok (.iconst 0, 1) := by decide +kernel
theorem dX8_proves_150 : decode cX8_proves 150 = .ok (.istore_n 1, 1) := by decide +kernel
theorem dX8_proves_151 : decode cX8_proves 151 = .ok (.iload_n 1, 1) := by decide +kernel
theorem dX8_proves_152 : decode cX8_proves 152 = .ok (.aload_n 0, 1) := by decide +kernel
theorem dX8_proves_153 : decode cX8_proves 153 = .ok (.getfield 119, 3) := by decide +kernel
theorem dX8_proves_156 : decode cX8_proves 156 = .ok (.if_icmp .ge 39, 3) := by decide +kernel
theorem dX8_proves_159 : decode cX8_proves 159 = .ok (.aload_n 0, 1) := by decide +kernel
theorem dX8_proves_160 : decode cX8_proves 160 = .ok (.iload_n 1, 1) := by decide +kernel
theorem dX8_proves_161 : decode cX8_proves 161 = .ok (.invokevirtual 223, 3) := by decide +kernel
theorem dX8_proves_164 : decode cX8_proves 164 = .ok (.aload_n 0, 1) := by decide +kernel
theorem dX8_proves_165 : decode cX8_proves 165 = .ok (.iload_n 1, 1) := by decide +kernel
theorem dX8_proves_166 : decode cX8_proves 166 = .ok (.invokevirtual 226, 3) := by decide +kernel
theorem dX8_proves_169 : decode cX8_proves 169 = .ok (.if_icmp .le 20, 3) := by decide +kernel
theorem dX8_proves_172 : decode cX8_proves 172 = .ok (.aload_n 0, 1) := by decide +kernel
theorem dX8_proves_173 : decode cX8_proves 173 = .ok (.iconst 4, 1) := by decide +kernel
theorem dX8_proves_174 : decode cX8_proves 174 = .ok (.iload_n 1, 1) := by decide +kernel
theorem dX8_proves_175 : decode cX8_proves 175 = .ok (.aload_n 0, 1) := by decide +kernel
theorem dX8_proves_176 : decode cX8_proves 176 = .ok (.iload_n 1, 1) := by decide +kernel
theorem dX8_proves_177 : decode cX8_proves 177 = .ok (.invokevirtual 223, 3) := by decide +kernel
theorem dX8_proves_180 : decode cX8_proves 180 = .ok (.aload_n 0, 1) := by decide +kernel
theorem dX8_proves_181 : decode cX8_proves 181 = .ok (.iload_n 1, 1) := by decide +kernel
theorem dX8_proves_182 : decode cX8_proves 182 = .ok (.invokevirtual 226, 3) := by decide +kernel
theorem dX8_proves_185 : decode cX8_proves 185 = .ok (.isub, 1) := by decide +kernel
theorem dX8_proves_186 : decode cX8_proves 186 = .ok (.invokevirtual 214, 3) := by decide +kernel
theorem dX8_proves_189 : decode cX8_proves 189 = .ok (.iinc 1 1, 3) := by decide +kernel
theorem dX8_proves_192 : decode cX8_proves 192 = .ok (.goto (-41), 3) := by decide +kernel
theorem dX8_proves_195 : decode cX8_proves 195 = .ok (.return_, 1) := by decide +kernel
theorem dX8_proof_0 : decode cX8_proof 0 = .ok (.iload_n 1, 1) := by decide +kernel
theorem dX8_proof_1 : decode cX8_proof 1 = .ok (.ifCond .ge 5, 3) := by decide +kernel
theorem dX8_proof_4 : decode cX8_proof 4 = .ok (.iconst (-1), 1) := by decide +kernel
theorem dX8_proof_5 : decode cX8_proof 5 = .ok (.ireturn, 1) := by decide +kernel
theorem dX8_proof_6 : decode cX8_proof 6 = .ok (.aload_n 0, 1) := by decide +kernel
theorem dX8_proof_7 : decode cX8_proof 7 = .ok (.invokevirtual 229, 3) := by decide +kernel
theorem dX8_proof_10 : decode cX8_proof 10 = .ok (.iload_n 1, 1) := by decide +kernel
theorem dX8_proof_11 : decode cX8_proof 11 = .ok (.ifCond .ne 8, 3) := by decide +kernel
theorem dX8_proof_14 : decode cX8_proof 14 = .ok (.aload_n 0, 1) := by decide +kernel
theorem dX8_proof_15 : decode cX8_proof 15 = .ok (.getfield 205, 3) := by decide +kernel
theorem dX8_proof_18 : decode cX8_proof 18 = .ok (.ireturn, 1) := by decide +kernel
theorem dX8_proof_19 : decode cX8_proof 19 = .ok (.aload_n 0, 1) := by decide +kernel
theorem dX8_proof_20 : decode cX8_proof 20 = .ok (.getfield 205, 3) := by decide +kernel
theorem dX8_proof_23 : decode cX8_proof 23 = .ok (.ifCond .eq 8, 3) := by decide +kernel
theorem dX8_proof_26 : decode cX8_proof 26 = .ok (.iload_n 1, 1) := by decide +kernel
theorem dX8_proof_27 : decode cX8_proof 27 = .ok (.iconst 2, 1) := by decide +kernel
theorem dX8_proof_28 : decode cX8_proof 28 = .ok (.if_icmp .le 8, 3) := by decide +kernel
theorem dX8_proof_31 : decode cX8_proof 31 = .ok (.bipush (-5), 2) := by decide +kernel
theorem dX8_proof_33 : decode cX8_proof 33 = .ok (.goto 19, 3) := by decide +kernel
theorem dX8_proof_36 : decode cX8_proof 36 = .ok (.iload_n 1, 1) := by decide +kernel
theorem dX8_proof_37 : decode cX8_proof 37 = .ok (.iconst 1, 1) := by decide +kernel
theorem dX8_proof_38 : decode cX8_proof 38 = .ok (.if_icmp .ne 10, 3) := by decide +kernel
theorem dX8_proof_41 : decode cX8_proof 41 = .ok (.aload_n 0, 1) := by decide +kernel
theorem dX8_proof_42 : decode cX8_proof 42 = .ok (.getfield 208, 3) := by decide +kernel
theorem dX8_proof_45 : decode cX8_proof 45 = .ok (.goto 7, 3) := by decide +kernel
theorem dX8_proof_48 : decode cX8_proof 48 = .ok (.aload_n 0, 1) := by decide +kernel
theorem dX8_proof_49 : decode cX8_proof 49 = .ok (.getfield 211, 3) := by decide +kernel
theorem dX8_proof_52 : decode cX8_proof 52 = .ok (.ireturn, 1) := by decide +kernel
theorem dX8_isOver_0 : decode cX8_isOver 0 = .ok (.aload_n 0, 1) := by decide +kernel
theorem dX8_isOver_1 : decode cX8_isOver 1 = .ok (.iload_n 1, 1) := by decide +kernel
theorem dX8_isOver_2 : decode cX8_isOver 2 = .ok (.iload_n 2, 1) := by decide +kernel
theorem dX8_isOver_3 : decode cX8_isOver 3 = .ok (.invokevirtual 220, 3) := by decide +kernel
theorem dX8_isOver_6 : decode cX8_isOver 6 = .ok (.iconst (-1), 1) := by decide +kernel
theorem dX8_isOver_7 : decode cX8_isOver 7 = .ok (.if_icmp .eq 17, 3) := by decide +kernel
theorem dX8_isOver_10 : decode cX8_isOver 10 = .ok (.aload_n 0, 1) := by decide +kernel
theorem dX8_isOver_11 : decode cX8_isOver 11 = .ok (.iload_n 2, 1) := by decide +kernel
theorem dX8_isOver_12 : decode cX8_isOver 12 = .ok (.iload_n 1, 1) := by decide +kernel
theorem dX8_isOver_13 : decode cX8_isOver 13 = .ok (.invokevirtual 220, 3) := by decide +kernel
theorem dX8_isOver_16 : decode cX8_isOver 16 = .ok (.iconst (-1), 1) := by decide +kernel
theorem dX8_isOver_17 : decode cX8_isOver 17 = .ok (.if_icmp .ne 7, 3) := by decide +kernel
theorem dX8_isOver_20 : decode cX8_isOver 20 = .ok (.iconst 1, 1) := by decide +kernel
theorem dX8_isOver_21 : decode cX8_isOver 21 = .ok (.goto 4, 3) := by decide +kernel
theorem dX8_isOver_24 : decode cX8_isOver 24 = .ok (.iconst 0, 1) := by decide +kernel
theorem dX8_isOver_25 : decode cX8_isOver 25 = .ok (.ireturn, 1) := by decide +kernel
theorem dX8_over_0 : decode cX8_over 0 = .ok (.iload_n 1, 1) := by decide +kernel
theorem dX8_over_1 : decode cX8_over 1 = .ok (.invokestatic 232, 3) := by decide +kernel
theorem dX8_over_4 : decode cX8_over 4 = .ok (.ifCond .eq 15, 3) := by decide +kernel
theorem dX8_over_7 : decode cX8_over 7 = .ok (.iload_n 2, 1) := by decide +kernel
theorem dX8_over_8 : decode cX8_over 8 = .ok (.invokestatic 232, 3) := by decide +kernel
theorem dX8_over_11 : decode cX8_over 11 = .ok (.ifCond .eq 8, 3) := by decide +kernel
theorem dX8_over_14 : decode cX8_over 14 = .ok (.iload_n 1, 1) := by decide +kernel
theorem dX8_over_15 : decode cX8_over 15 = .ok (.iload_n 2, 1) := by decide +kernel
theorem dX8_over_16 : decode cX8_over 16 = .ok (.if_icmp .ne 5, 3) := by decide +kernel
theorem dX8_over_19 : decode cX8_over 19 = .ok (.iconst (-1), 1) := by decide +kernel
theorem dX8_over_20 : decode cX8_over 20 = .ok (.ireturn, 1) := by decide +kernel
theorem dX8_over_21 : decode cX8_over 21 = .ok (.aload_n 0, 1) := by decide +kernel
theorem dX8_over_22 : decode cX8_over 22 = .ok (.invokevirtual 178, 3) := by decide +kernel
theorem dX8_over_25 : decode cX8_over 25 = .ok (.aload_n 0, 1) := by decide +kernel
theorem dX8_over_26 : decode cX8_over 26 = .ok (.iload_n 1, 1) := by decide +kernel
theorem dX8_over_27 : decode cX8_over 27 = .ok (.iload_n 2, 1) := by decide +kernel
theorem dX8_over_28 : decode cX8_over 28 = .ok (.invokevirtual 235, 3) := by decide +kernel
theorem dX8_over_31 : decode cX8_over 31 = .ok (.ifCond .eq 7, 3) := by decide +kernel
theorem dX8_over_34 : decode cX8_over 34 = .ok (.iconst 1, 1) := by decide +kernel
theorem dX8_over_35 : decode cX8_over 35 = .ok (.goto 4, 3) := by decide +kernel
theorem dX8_over_38 : decode cX8_over 38 = .ok (.iconst 0, 1) := by decide +kernel
theorem dX8_over_39 : decode cX8_over 39 = .ok (.ireturn, 1) := by decide +kernel
theorem dX8_rank_0 : decode cX8_rank 0 = .ok (.iload_n 1, 1) := by decide +kernel
theorem dX8_rank_1 : decode cX8_rank 1 = .ok (.invokestatic 232, 3) := by decide +kernel
theorem dX8_rank_4 : decode cX8_rank 4 = .ok (.ifCond .ne 5, 3) := by decide +kernel
theorem dX8_rank_7 : decode cX8_rank 7 = .ok (.iconst (-1), 1) := by decide +kernel
theorem dX8_rank_8 : decode cX8_rank 8 = .ok (.ireturn, 1) := by decide +kernel
theorem dX8_rank_9 : decode cX8_rank 9 = .ok (.aload_n 0, 1) := by decide +kernel
theorem dX8_rank_10 : decode cX8_rank 10 = .ok (.invokevirtual 178, 3) := by decide +kernel
theorem dX8_rank_13 : decode cX8_rank 13 = .ok (.iconst 1, 1) := by decide +kernel
theorem dX8_rank_14 : decode cX8_rank 14 = .ok (.iload_n 1, 1) := by decide +kernel
theorem dX8_rank_15 : decode cX8_rank 15 = .ok (.ishl, 1) := by decide +kernel
theorem dX8_rank_16 : decode cX8_rank 16 = .ok (.istore_n 2, 1) := by decide +kernel
theorem dX8_rank_17 : decode cX8_rank 17 = .ok (.iconst 0, 1) := by decide +kernel
theorem dX8_rank_18 : decode cX8_rank 18 = .ok (.istore_n 3, 1) := by decide +kernel
theorem dX8_rank_19 : decode cX8_rank 19 = .ok (.iload_n 3, 1) := by decide +kernel
theorem dX8_rank_20 : decode cX8_rank 20 = .ok (.bipush 6, 2) := by decide +kernel
theorem dX8_rank_22 : decode cX8_rank 22 = .ok (.if_icmp .ge 79, 3) := by decide +kernel
theorem dX8_rank_25 : decode cX8_rank 25 = .ok (.iconst 0, 1) := by decide +kernel
theorem dX8_rank_26 : decode cX8_rank 26 = .ok (.istore 4, 2) := by decide +kernel
theorem dX8_rank_28 : decode cX8_rank 28 = .ok (.iload 4, 2) := by decide +kernel
theorem dX8_rank_30 : decode cX8_rank 30 = .ok (.bipush 6, 2) := by decide +kernel
theorem dX8_rank_32 : decode cX8_rank 32 = .ok (.if_icmp .ge 63, 3) := by decide +kernel
theorem dX8_rank_35 : decode cX8_rank 35 = .ok (.iconst 0, 1) := by decide +kernel
theorem dX8_rank_36 : decode cX8_rank 36 = .ok (.istore 5, 2) := by decide +kernel
theorem dX8_rank_38 : decode cX8_rank 38 = .ok (.iload 5, 2) := by decide +kernel
theorem dX8_rank_40 : decode cX8_rank 40 = .ok (.bipush 6, 2) := by decide +kernel
theorem dX8_rank_42 : decode cX8_rank 42 = .ok (.if_icmp .ge 47, 3) := by decide +kernel
theorem dX8_rank_45 : decode cX8_rank 45 = .ok (.iload_n 2, 1) := by decide +kernel
theorem dX8_rank_46 : decode cX8_rank 46 = .ok (.iload_n 2, 1) := by decide +kernel
theorem dX8_rank_47 : decode cX8_rank 47 = .ok (.iload 4, 2) := by decide +kernel
theorem dX8_rank_49 : decode cX8_rank 49 = .ok (.invokestatic 130, 3) := by decide +kernel
theorem dX8_rank_52 : decode cX8_rank 52 = .ok (.ifCond .eq 28, 3) := by decide +kernel
theorem dX8_rank_55 : decode cX8_rank 55 = .ok (.iload 4, 2) := by decide +kernel
theorem dX8_rank_57 : decode cX8_rank 57 = .ok (.iload 5, 2) := by decide +kernel
theorem dX8_rank_59 : decode cX8_rank 59 = .ok (.if_icmp .eq 21, 3) := by decide +kernel
theorem dX8_rank_62 : decode cX8_rank 62 = .ok (.aload_n 0, 1) := by decide +kernel
theorem dX8_rank_63 : decode cX8_rank 63 = .ok (.iload 4, 2) := by decide +kernel
theorem dX8_rank_65 : decode cX8_rank 65 = .ok (.iload 5, 2) := by decide +kernel
theorem dX8_rank_67 : decode cX8_rank 67 = .ok (.invokevirtual 235, 3) := by decide +kernel
theorem dX8_rank_70 : decode cX8_rank 70 = .ok (.ifCond .eq 10, 3) := by decide +kernel
theorem dX8_rank_73 : decode cX8_rank 73 = .ok (.iconst 1, 1) := by decide +kernel
theorem dX8_rank_74 : decode cX8_rank 74 = .ok (.iload 5, 2) := by decide +kernel
theorem dX8_rank_76 : decode cX8_rank 76 = .ok (.ishl, 1) := by decide +kernel
theorem dX8_rank_77 : decode cX8_rank 77 = .ok (.goto 4, 3) := by decide +kernel
theorem dX8_rank_80 : decode cX8_rank 80 = .ok (.iconst 0, 1) := by decide +kernel
theorem dX8_rank_81 : decode cX8_rank 81 = .ok (.ior, 1) := by decide +kernel
theorem dX8_rank_82 : decode cX8_rank 82 = .ok (.istore_n 2, 1) := by decide +kernel
theorem dX8_rank_83 : decode cX8_rank 83 = .ok (.iinc 5 1, 3) := by decide +kernel
theorem dX8_rank_86 : decode cX8_rank 86 = .ok (.goto (-48), 3) := by decide +kernel
theorem dX8_rank_89 : decode cX8_rank 89 = .ok (.iinc 4 1, 3) := by decide +kernel
theorem dX8_rank_92 : decode cX8_rank 92 = .ok (.goto (-64), 3) := by decide +kernel
theorem dX8_rank_95 : decode cX8_rank 95 = .ok (.iinc 3 1, 3) := by decide +kernel
theorem dX8_rank_98 : decode cX8_rank 98 = .ok (.goto (-79), 3) := by decide +kernel
theorem dX8_rank_101 : decode cX8_rank 101 = .ok (.iload_n 2, 1) := by decide +kernel
theorem dX8_rank_102 : decode cX8_rank 102 = .ok (.invokestatic 186, 3) := by decide +kernel
theorem dX8_rank_105 : decode cX8_rank 105 = .ok (.iconst 1, 1) := by decide +kernel
theorem dX8_rank_106 : decode cX8_rank 106 = .ok (.isub, 1) := by decide +kernel
theorem dX8_rank_107 : decode cX8_rank 107 = .ok (.ireturn, 1) := by decide +kernel
theorem dX8_bounds_0 : decode cX8_bounds 0 = .ok (.aload_n 0, 1) := by decide +kernel
theorem dX8_bounds_1 : decode cX8_bounds 1 = .ok (.iload_n 1, 1) := by decide +kernel
theorem dX8_bounds_2 : decode cX8_bounds 2 = .ok (.invokevirtual 126, 3) := by decide +kernel
theorem dX8_bounds_5 : decode cX8_bounds 5 = .ok (.ifCond .eq 12, 3) := by decide +kernel
theorem dX8_bounds_8 : decode cX8_bounds 8 = .ok (.iload_n 2, 1) := by decide +kernel
theorem dX8_bounds_9 : decode cX8_bounds 9 = .ok (.iconst 0, 1) := by decide +kernel
theorem dX8_bounds_10 : decode cX8_bounds 10 = .ok (.iconst 1, 1) := by decide +kernel
theorem dX8_bounds_11 : decode cX8_bounds 11 = .ok (.invokestatic 122, 3) := by decide +kernel
theorem dX8_bounds_14 : decode cX8_bounds 14 = .ok (.ifCond .ne 5, 3) := by decide +kernel
theorem dX8_bounds_17 : decode cX8_bounds 17 = .ok (.iconst (-1), 1) := by decide +kernel
theorem dX8_bounds_18 : decode cX8_bounds 18 = .ok (.ireturn, 1) := by decide +kernel
theorem dX8_bounds_19 : decode cX8_bounds 19 = .ok (.aload_n 0, 1) := by decide +kernel
theorem dX8_bounds_20 : decode cX8_bounds 20 = .ok (.invokevirtual 178, 3) := by decide +kernel
theorem dX8_bounds_23 : decode cX8_bounds 23 = .ok (.aload_n 0, 1) := by decide +kernel
theorem dX8_bounds_24 : decode cX8_bounds 24 = .ok (.invokevirtual 171, 3) := by decide +kernel
theorem dX8_bounds_27 : decode cX8_bounds 27 = .ok (.ifCond .eq 6, 3) := by decide +kernel
theorem dX8_bounds_30 : decode cX8_bounds 30 = .ok (.bipush (-3), 2) := by decide +kernel
theorem dX8_bounds_32 : decode cX8_bounds 32 = .ok (.ireturn, 1) := by decide +kernel
theorem dX8_bounds_33 : decode cX8_bounds 33 = .ok (.iload_n 2, 1) := by decide +kernel
theorem dX8_bounds_34 : decode cX8_bounds 34 = .ok (.ifCond .ne 11, 3) := by decide +kernel
theorem dX8_bounds_37 : decode cX8_bounds 37 = .ok (.aload_n 0, 1) := by decide +kernel
theorem dX8_bounds_38 : decode cX8_bounds 38 = .ok (.iload_n 1, 1) := by decide +kernel
theorem dX8_bounds_39 : decode cX8_bounds 39 = .ok (.invokevirtual 223, 3) := by decide +kernel
theorem dX8_bounds_42 : decode cX8_bounds 42 = .ok (.goto 8, 3) := by decide +kernel
theorem dX8_bounds_45 : decode cX8_bounds 45 = .ok (.aload_n 0, 1) := by decide +kernel
theorem dX8_bounds_46 : decode cX8_bounds 46 = .ok (.iload_n 1, 1) := by decide +kernel
theorem dX8_bounds_47 : decode cX8_bounds 47 = .ok (.invokevirtual 226, 3) := by decide +kernel
theorem dX8_bounds_50 : decode cX8_bounds 50 = .ok (.ireturn, 1) := by decide +kernel
theorem dX8_middleOf_0 : decode cX8_middleOf 0 = .ok (.aload_n 0, 1) := by decide +kernel
theorem dX8_middleOf_1 : decode cX8_middleOf 1 = .ok (.iload_n 1, 1) := by decide +kernel
theorem dX8_middleOf_2 : decode cX8_middleOf 2 = .ok (.invokevirtual 223, 3) := by decide +kernel
theorem dX8_middleOf_5 : decode cX8_middleOf 5 = .ok (.i2d, 1) := by decide +kernel
theorem dX8_middleOf_6 : decode cX8_middleOf 6 = .ok (.aload_n 0, 1) := by decide +kernel
theorem dX8_middleOf_7 : decode cX8_middleOf 7 = .ok (.iload_n 1, 1) := by decide +kernel
theorem dX8_middleOf_8 : decode cX8_middleOf 8 = .ok (.invokevirtual 226, 3) := by decide +kernel
theorem dX8_middleOf_11 : decode cX8_middleOf 11 = .ok (.i2d, 1) := by decide +kernel
theorem dX8_middleOf_12 : decode cX8_middleOf 12 = .ok (.dadd, 1) := by decide +kernel
theorem dX8_middleOf_13 : decode cX8_middleOf 13 = .ok (.ldc2_w 238, 3) := by decide +kernel
theorem dX8_middleOf_16 : decode cX8_middleOf 16 = .ok (.ddiv, 1) := by decide +kernel
theorem dX8_middleOf_17 : decode cX8_middleOf 17 = .ok (.dreturn, 1) := by decide +kernel
theorem dX8_middle_0 : decode cX8_middle 0 = .ok (.aload_n 0, 1) := by decide +kernel
theorem dX8_middle_1 : decode cX8_middle 1 = .ok (.invokevirtual 178, 3) := by decide +kernel
theorem dX8_middle_4 : decode cX8_middle 4 = .ok (.aload_n 0, 1) := by decide +kernel
theorem dX8_middle_5 : decode cX8_middle 5 = .ok (.iload_n 1, 1) := by decide +kernel
theorem dX8_middle_6 : decode cX8_middle 6 = .ok (.invokevirtual 126, 3) := by decide +kernel
theorem dX8_middle_9 : decode cX8_middle 9 = .ok (.ifCond .eq 10, 3) := by decide +kernel
theorem dX8_middle_12 : decode cX8_middle 12 = .ok (.aload_n 0, 1) := by decide +kernel
theorem dX8_middle_13 : decode cX8_middle 13 = .ok (.invokevirtual 171, 3) := by decide +kernel
theorem dX8_middle_16 : decode cX8_middle 16 = .ok (.ifCond .eq 9, 3) := by decide +kernel
theorem dX8_middle_19 : decode cX8_middle 19 = .ok (.ldc2_w 240, 3) := by decide +kernel
theorem dX8_middle_22 : decode cX8_middle 22 = .ok (.goto 11, 3) := by decide +kernel
theorem dX8_middle_25 : decode cX8_middle 25 = .ok (.aload_n 0, 1) := by decide +kernel
theorem dX8_middle_26 : decode cX8_middle 26 = .ok (.iload_n 1, 1) := by decide +kernel
theorem dX8_middle_27 : decode cX8_middle 27 = .ok (.invokevirtual 242, 3) := by decide +kernel
theorem dX8_middle_30 : decode cX8_middle 30 = .ok (.invokestatic 246, 3) := by decide +kernel
theorem dX8_middle_33 : decode cX8_middle 33 = .ok (.lreturn, 1) := by decide +kernel
theorem dX8_rate_0 : decode cX8_rate 0 = .ok (.aload_n 0, 1) := by decide +kernel
theorem dX8_rate_1 : decode cX8_rate 1 = .ok (.iload_n 1, 1) := by decide +kernel
theorem dX8_rate_2 : decode cX8_rate 2 = .ok (.invokevirtual 126, 3) := by decide +kernel
theorem dX8_rate_5 : decode cX8_rate 5 = .ok (.ifCond .ne 5, 3) := by decide +kernel
theorem dX8_rate_8 : decode cX8_rate 8 = .ok (.iconst (-1), 1) := by decide +kernel
theorem dX8_rate_9 : decode cX8_rate 9 = .ok (.ireturn, 1) := by decide +kernel
theorem dX8_rate_10 : decode cX8_rate 10 = .ok (.aload_n 0, 1) := by decide +kernel
theorem dX8_rate_11 : decode cX8_rate 11 = .ok (.invokevirtual 178, 3) := by decide +kernel
theorem dX8_rate_14 : decode cX8_rate 14 = .ok (.aload_n 0, 1) := by decide +kernel
theorem dX8_rate_15 : decode cX8_rate 15 = .ok (.invokevirtual 171, 3) := by decide +kernel
theorem dX8_rate_18 : decode cX8_rate 18 = .ok (.ifCond .eq 6, 3) := by decide +kernel
theorem dX8_rate_21 : decode cX8_rate 21 = .ok (.bipush (-3), 2) := by decide +kernel
theorem dX8_rate_23 : decode cX8_rate 23 = .ok (.ireturn, 1) := by decide +kernel
theorem dX8_rate_24 : decode cX8_rate 24 = .ok (.aload_n 0, 1) := by decide +kernel
theorem dX8_rate_25 : decode cX8_rate 25 = .ok (.iload_n 1, 1) := by decide +kernel
theorem dX8_rate_26 : decode cX8_rate 26 = .ok (.invokevirtual 226, 3) := by decide +kernel
theorem dX8_rate_29 : decode cX8_rate 29 = .ok (.aload_n 0, 1) := by decide +kernel
theorem dX8_rate_30 : decode cX8_rate 30 = .ok (.iload_n 1, 1) := by decide +kernel
theorem dX8_rate_31 : decode cX8_rate 31 = .ok (.invokevirtual 223, 3) := by decide +kernel
theorem dX8_rate_34 : decode cX8_rate 34 = .ok (.isub, 1) := by decide +kernel
theorem dX8_rate_35 : decode cX8_rate 35 = .ok (.iconst 1, 1) := by decide +kernel
theorem dX8_rate_36 : decode cX8_rate 36 = .ok (.iadd, 1) := by decide +kernel
theorem dX8_rate_37 : decode cX8_rate 37 = .ok (.istore_n 2, 1) := by decide +kernel
theorem dX8_rate_38 : decode cX8_rate 38 = .ok (.iload_n 2, 1) := by decide +kernel
theorem dX8_rate_39 : decode cX8_rate 39 = .ok (.iconst 1, 1) := by decide +kernel
theorem dX8_rate_40 : decode cX8_rate 40 = .ok (.if_icmp .ge 7, 3) := by decide +kernel
theorem dX8_rate_43 : decode cX8_rate 43 = .ok (.fconst 0, 1) := by decide +kernel
theorem dX8_rate_44 : decode cX8_rate 44 = .ok (.goto 13, 3) := by decide +kernel
theorem dX8_rate_47 : decode cX8_rate 47 = .ok (.aload_n 0, 1) := by decide +kernel
theorem dX8_rate_48 : decode cX8_rate 48 = .ok (.getfield 15, 3) := by decide +kernel
theorem dX8_rate_51 : decode cX8_rate 51 = .ok (.iload_n 1, 1) := by decide +kernel
theorem dX8_rate_52 : decode cX8_rate 52 = .ok (.iaload, 1) := by decide +kernel
theorem dX8_rate_53 : decode cX8_rate 53 = .ok (.i2f, 1) := by decide +kernel
theorem dX8_rate_54 : decode cX8_rate 54 = .ok (.iload_n 2, 1) := by decide +kernel
theorem dX8_rate_55 : decode cX8_rate 55 = .ok (.i2f, 1) := by decide +kernel
theorem dX8_rate_56 : decode cX8_rate 56 = .ok (.fdiv, 1) := by decide +kernel
theorem dX8_rate_57 : decode cX8_rate 57 = .ok (.invokestatic 252, 3) := by decide +kernel
theorem dX8_rate_60 : decode cX8_rate 60 = .ok (.ireturn, 1) := by decide +kernel
theorem dX8_age_0 : decode cX8_age 0 = .ok (.aload_n 0, 1) := by decide +kernel
theorem dX8_age_1 : decode cX8_age 1 = .ok (.invokevirtual 178, 3) := by decide +kernel
theorem dX8_age_4 : decode cX8_age 4 = .ok (.iload_n 1, 1) := by decide +kernel
theorem dX8_age_5 : decode cX8_age 5 = .ok (.invokestatic 232, 3) := by decide +kernel
theorem dX8_age_8 : decode cX8_age 8 = .ok (.ifCond .eq 27, 3) := by decide +kernel
theorem dX8_age_11 : decode cX8_age 11 = .ok (.aload_n 0, 1) := by decide +kernel
theorem dX8_age_12 : decode cX8_age 12 = .ok (.iload_n 1, 1) := by decide +kernel
theorem dX8_age_13 : decode cX8_age 13 = .ok (.invokevirtual 202, 3) := by decide +kernel
theorem dX8_age_16 : decode cX8_age 16 = .ok (.ifCond .eq 19, 3) := by decide +kernel
theorem dX8_age_19 : decode cX8_age 19 = .ok (.iload_n 2, 1) := by decide +kernel
theorem dX8_age_20 : decode cX8_age 20 = .ok (.iconst 0, 1) := by decide +kernel
theorem dX8_age_21 : decode cX8_age 21 = .ok (.iconst 1, 1) := by decide +kernel
theorem dX8_age_22 : decode cX8_age 22 = .ok (.invokestatic 122, 3) := by decide +kernel
theorem dX8_age_25 : decode cX8_age 25 = .ok (.ifCond .eq 10, 3) := by decide +kernel
theorem dX8_age_28 : decode cX8_age 28 = .ok (.aload_n 0, 1) := by decide +kernel
theorem dX8_age_29 : decode cX8_age 29 = .ok (.invokevirtual 171, 3) := by decide +kernel
theorem dX8_age_32 : decode cX8_age 32 = .ok (.ifCond .eq 7, 3) := by decide +kernel
theorem dX8_age_35 : decode cX8_age 35 = .ok (.ldc2_w 240, 3) := by decide +kernel
theorem dX8_age_38 : decode cX8_age 38 = .ok (.lreturn, 1) := by decide +kernel
theorem dX8_age_39 : decode cX8_age 39 = .ok (.dconst 0, 1) := by decide +kernel
theorem dX8_age_40 : decode cX8_age 40 = .ok (.dstore_n 3, 1) := by decide +kernel
theorem dX8_age_41 : decode cX8_age 41 = .ok (.iconst 0, 1) := by decide +kernel
theorem dX8_age_42 : decode cX8_age 42 = .ok (.istore 5, 2) := by decide +kernel
theorem dX8_age_44 : decode cX8_age 44 = .ok (.iconst 0, 1) := by decide +kernel
theorem dX8_age_45 : decode cX8_age 45 = .ok (.istore 6, 2) := by decide +kernel
theorem dX8_age_47 : decode cX8_age 47 = .ok (.iload 6, 2) := by decide +kernel
theorem dX8_age_49 : decode cX8_age 49 = .ok (.aload_n 0, 1) := by decide +kernel
theorem dX8_age_50 : decode cX8_age 50 = .ok (.getfield 119, 3) := by decide +kernel
theorem dX8_age_53 : decode cX8_age 53 = .ok (.if_icmp .ge 50, 3) := by decide +kernel
theorem dX8_age_56 : decode cX8_age 56 = .ok (.aload_n 0, 1) := by decide +kernel
theorem dX8_age_57 : decode cX8_age 57 = .ok (.getfield 24, 3) := by decide +kernel
theorem dX8_age_60 : decode cX8_age 60 = .ok (.iload 6, 2) := by decide +kernel
theorem dX8_age_62 : decode cX8_age 62 = .ok (.iaload, 1) := by decide +kernel
theorem dX8_age_63 : decode cX8_age 63 = .ok (.iload_n 1, 1) := by decide +kernel
theorem dX8_age_64 : decode cX8_age 64 = .ok (.if_icmp .ne 33, 3) := by decide +kernel
theorem dX8_age_67 : decode cX8_age 67 = .ok (.dload_n 3, 1) := by decide +kernel
theorem dX8_age_68 : decode cX8_age 68 = .ok (.aload_n 0, 1) := by decide +kernel
theorem dX8_age_69 : decode cX8_age 69 = .ok (.iload 6, 2) := by decide +kernel
theorem dX8_age_71 : decode cX8_age 71 = .ok (.invokevirtual 242, 3) := by decide +kernel
theorem dX8_age_74 : decode cX8_age 74 = .ok (.aload_n 0, 1) := by decide +kernel
theorem dX8_age_75 : decode cX8_age 75 = .ok (.getfield 15, 3) := by decide +kernel
theorem dX8_age_78 : decode cX8_age 78 = .ok (.iload 6, 2) := by decide +kernel
theorem dX8_age_80 : decode cX8_age 80 = .ok (.iaload, 1) := by decide +kernel
theorem dX8_age_81 : decode cX8_age 81 = .ok (.i2d, 1) := by decide +kernel
theorem dX8_age_82 : decode cX8_age 82 = .ok (.dmul, 1) := by decide +kernel
theorem dX8_age_83 : decode cX8_age 83 = .ok (.dadd, 1) := by decide +kernel
theorem dX8_age_84 : decode cX8_age 84 = .ok (.dstore_n 3, 1) := by decide +kernel
theorem dX8_age_85 : decode cX8_age 85 = .ok (.iload 5, 2) := by decide +kernel
theorem dX8_age_87 : decode cX8_age 87 = .ok (.aload_n 0, 1) := by decide +kernel
theorem dX8_age_88 : decode cX8_age 88 = .ok (.getfield 15, 3) := by decide +kernel
theorem dX8_age_91 : decode cX8_age 91 = .ok (.iload 6, 2) := by decide +kernel
theorem dX8_age_93 : decode cX8_age 93 = .ok (.iaload, 1) := by decide +kernel
theorem dX8_age_94 : decode cX8_age 94 = .ok (.iadd, 1) := by decide +kernel
theorem dX8_age_95 : decode cX8_age 95 = .ok (.istore 5, 2) := by decide +kernel
theorem dX8_age_97 : decode cX8_age 97 = .ok (.iinc 6 1, 3) := by decide +kernel
theorem dX8_age_100 : decode cX8_age 100 = .ok (.goto (-53), 3) := by decide +kernel
theorem dX8_age_103 : decode cX8_age 103 = .ok (.iload 5, 2) := by decide +kernel
theorem dX8_age_105 : decode cX8_age 105 = .ok (.ifCond .ne 7, 3) := by decide +kernel
theorem dX8_age_108 : decode cX8_age 108 = .ok (.dconst 0, 1) := by decide +kernel
theorem dX8_age_109 : decode cX8_age 109 = .ok (.goto 8, 3) := by decide +kernel
theorem dX8_age_112 : decode cX8_age 112 = .ok (.dload_n 3, 1) := by decide +kernel
theorem dX8_age_113 : decode cX8_age 113 = .ok (.iload 5, 2) := by decide +kernel
theorem dX8_age_115 : decode cX8_age 115 = .ok (.i2d, 1) := by decide +kernel
theorem dX8_age_116 : decode cX8_age 116 = .ok (.ddiv, 1) := by decide +kernel
theorem dX8_age_117 : decode cX8_age 117 = .ok (.dstore 6, 2) := by decide +kernel
theorem dX8_age_119 : decode cX8_age 119 = .ok (.iload_n 2, 1) := by decide +kernel
theorem dX8_age_120 : decode cX8_age 120 = .ok (.ifCond .ne 11, 3) := by decide +kernel
theorem dX8_age_123 : decode cX8_age 123 = .ok (.dload 6, 2) := by decide +kernel
theorem dX8_age_125 : decode cX8_age 125 = .ok (.invokestatic 246, 3) := by decide +kernel
theorem dX8_age_128 : decode cX8_age 128 = .ok (.goto 10, 3) := by decide +kernel
theorem dX8_age_131 : decode cX8_age 131 = .ok (.dload 6, 2) := by decide +kernel
theorem dX8_age_133 : decode cX8_age 133 = .ok (.ldc2_w 258, 3) := by decide +kernel
theorem dX8_age_136 : decode cX8_age 136 = .ok (.dadd, 1) := by decide +kernel
theorem dX8_age_137 : decode cX8_age 137 = .ok (.d2l, 1) := by decide +kernel
theorem dX8_age_138 : decode cX8_age 138 = .ok (.lreturn, 1) := by decide +kernel
theorem dX8_dig_0 : decode cX8_dig 0 = .ok (.aload_n 0, 1) := by decide +kernel
theorem dX8_dig_1 : decode cX8_dig 1 = .ok (.iload_n 1, 1) := by decide +kernel
theorem dX8_dig_2 : decode cX8_dig 2 = .ok (.invokevirtual 126, 3) := by decide +kernel
theorem dX8_dig_5 : decode cX8_dig 5 = .ok (.ifCond .ne 5, 3) := by decide +kernel
theorem dX8_dig_8 : decode cX8_dig 8 = .ok (.iconst (-1), 1) := by decide +kernel
theorem dX8_dig_9 : decode cX8_dig 9 = .ok (.ireturn, 1) := by decide +kernel
theorem dX8_dig_10 : decode cX8_dig 10 = .ok (.aload_n 0, 1) := by decide +kernel
theorem dX8_dig_11 : decode cX8_dig 11 = .ok (.invokevirtual 178, 3) := by decide +kernel
theorem dX8_dig_14 : decode cX8_dig 14 = .ok (.aload_n 0, 1) := by decide +kernel
theorem dX8_dig_15 : decode cX8_dig 15 = .ok (.invokevirtual 148, 3) := by decide +kernel
theorem dX8_dig_18 : decode cX8_dig 18 = .ok (.iload_n 1, 1) := by decide +kernel
theorem dX8_dig_19 : decode cX8_dig 19 = .ok (.invokestatic 130, 3) := by decide +kernel
theorem dX8_dig_22 : decode cX8_dig 22 = .ok (.ifCond .ne 19, 3) := by decide +kernel
theorem dX8_dig_25 : decode cX8_dig 25 = .ok (.aload_n 0, 1) := by decide +kernel
theorem dX8_dig_26 : decode cX8_dig 26 = .ok (.getfield 39, 3) := by decide +kernel
theorem dX8_dig_29 : decode cX8_dig 29 = .ok (.iload_n 1, 1) := by decide +kernel
theorem dX8_dig_30 : decode cX8_dig 30 = .ok (.iaload, 1) := by decide +kernel
theorem dX8_dig_31 : decode cX8_dig 31 = .ok (.aload_n 0, 1) := by decide +kernel
theorem dX8_dig_32 : decode cX8_dig 32 = .ok (.invokevirtual 148, 3) := by decide +kernel
theorem dX8_dig_35 : decode cX8_dig 35 = .ok (.iconst (-1), 1) := by decide +kernel
theorem dX8_dig_36 : decode cX8_dig 36 = .ok (.ixor, 1) := by decide +kernel
theorem dX8_dig_37 : decode cX8_dig 37 = .ok (.iand, 1) := by decide +kernel
theorem dX8_dig_38 : decode cX8_dig 38 = .ok (.ifCond .eq 6, 3) := by decide +kernel
theorem dX8_dig_41 : decode cX8_dig 41 = .ok (.bipush (-3), 2) := by decide +kernel
theorem dX8_dig_43 : decode cX8_dig 43 = .ok (.ireturn, 1) := by decide +kernel
theorem dX8_dig_44 : decode cX8_dig 44 = .ok (.aload_n 0, 1) := by decide +kernel
theorem dX8_dig_45 : decode cX8_dig 45 = .ok (.getfield 33, 3) := by decide +kernel
theorem dX8_dig_48 : decode cX8_dig 48 = .ok (.aload_n 0, 1) := by decide +kernel
theorem dX8_dig_49 : decode cX8_dig 49 = .ok (.getfield 145, 3) := by decide +kernel
theorem dX8_dig_52 : decode cX8_dig 52 = .ok (.iload_n 1, 1) := by decide +kernel
theorem dX8_dig_53 : decode cX8_dig 53 = .ok (.iastore, 1) := by decide +kernel
theorem dX8_dig_54 : decode cX8_dig 54 = .ok (.aload_n 0, 1) := by decide +kernel
theorem dX8_dig_55 : decode cX8_dig 55 = .ok (.dup, 1) := by decide +kernel
theorem dX8_dig_56 : decode cX8_dig 56 = .ok (.getfield 145, 3) := by decide +kernel
theorem dX8_dig_59 : decode cX8_dig 59 = .ok (.iconst 1, 1) := by decide +kernel
theorem dX8_dig_60 : decode cX8_dig 60 = .ok (.iadd, 1) := by decide +kernel
theorem dX8_dig_61 : decode cX8_dig 61 = .ok (.putfield 145, 3) := by decide +kernel
theorem dX8_dig_64 : decode cX8_dig 64 = .ok (.aload_n 0, 1) := by decide +kernel
theorem dX8_dig_65 : decode cX8_dig 65 = .ok (.getfield 145, 3) := by decide +kernel
theorem dX8_dig_68 : decode cX8_dig 68 = .ok (.ireturn, 1) := by decide +kernel
theorem dX8_lay_0 : decode cX8_lay 0 = .ok (.aload_n 0, 1) := by decide +kernel
theorem dX8_lay_1 : decode cX8_lay 1 = .ok (.getfield 145, 3) := by decide +kernel
theorem dX8_lay_4 : decode cX8_lay 4 = .ok (.ifCond .ne 6, 3) := by decide +kernel
theorem dX8_lay_7 : decode cX8_lay 7 = .ok (.bipush (-3), 2) := by decide +kernel
theorem dX8_lay_9 : decode cX8_lay 9 = .ok (.ireturn, 1) := by decide +kernel
theorem dX8_lay_10 : decode cX8_lay 10 = .ok (.aload_n 0, 1) := by decide +kernel
theorem dX8_lay_11 : decode cX8_lay 11 = .ok (.dup, 1) := by decide +kernel
theorem dX8_lay_12 : decode cX8_lay 12 = .ok (.getfield 145, 3) := by decide +kernel
theorem dX8_lay_15 : decode cX8_lay 15 = .ok (.iconst 1, 1) := by decide +kernel
theorem dX8_lay_16 : decode cX8_lay 16 = .ok (.isub, 1) := by decide +kernel
theorem dX8_lay_17 : decode cX8_lay 17 = .ok (.putfield 145, 3) := by decide +kernel
theorem dX8_lay_20 : decode cX8_lay 20 = .ok (.aload_n 0, 1) := by decide +kernel
theorem dX8_lay_21 : decode cX8_lay 21 = .ok (.getfield 33, 3) := by decide +kernel
theorem dX8_lay_24 : decode cX8_lay 24 = .ok (.aload_n 0, 1) := by decide +kernel
theorem dX8_lay_25 : decode cX8_lay 25 = .ok (.getfield 145, 3) := by decide +kernel
theorem dX8_lay_28 : decode cX8_lay 28 = .ok (.iaload, 1) := by decide +kernel
theorem dX8_lay_29 : decode cX8_lay 29 = .ok (.ireturn, 1) := by decide +kernel
theorem dX8_dug_0 : decode cX8_dug 0 = .ok (.iload_n 1, 1) := by decide +kernel
theorem dX8_dug_1 : decode cX8_dug 1 = .ok (.ifCond .ge 5, 3) := by decide +kernel
theorem dX8_dug_4 : decode cX8_dug 4 = .ok (.iconst (-1), 1) := by decide +kernel
theorem dX8_dug_5 : decode cX8_dug 5 = .ok (.ireturn, 1) := by decide +kernel
theorem dX8_dug_6 : decode cX8_dug 6 = .ok (.iload_n 1, 1) := by decide +kernel
theorem dX8_dug_7 : decode cX8_dug 7 = .ok (.aload_n 0, 1) := by decide +kernel
theorem dX8_dug_8 : decode cX8_dug 8 = .ok (.getfield 145, 3) := by decide +kernel
theorem dX8_dug_11 : decode cX8_dug 11 = .ok (.if_icmp .ge 12, 3) := by decide +kernel
theorem dX8_dug_14 : decode cX8_dug 14 = .ok (.aload_n 0, 1) := by decide +kernel
theorem dX8_dug_15 : decode cX8_dug 15 = .ok (.getfield 33, 3) := by decide +kernel
theorem dX8_dug_18 : decode cX8_dug 18 = .ok (.iload_n 1, 1) := by decide +kernel
theorem dX8_dug_19 : decode cX8_dug 19 = .ok (.iaload, 1) := by decide +kernel
theorem dX8_dug_20 : decode cX8_dug 20 = .ok (.goto 5, 3) := by decide +kernel
theorem dX8_dug_23 : decode cX8_dug 23 = .ok (.bipush (-5), 2) := by decide +kernel
theorem dX8_dug_25 : decode cX8_dug 25 = .ok (.ireturn, 1) := by decide +kernel
theorem dX8_counts_0 : decode cX8_counts 0 = .ok (.iconst 1, 1) := by decide +kernel
theorem dX8_counts_1 : decode cX8_counts 1 = .ok (.aload_n 0, 1) := by decide +kernel
theorem dX8_counts_2 : decode cX8_counts 2 = .ok (.getfield 119, 3) := by decide +kernel
theorem dX8_counts_5 : decode cX8_counts 5 = .ok (.ishl, 1) := by decide +kernel
theorem dX8_counts_6 : decode cX8_counts 6 = .ok (.iconst 1, 1) := by decide +kernel
theorem dX8_counts_7 : decode cX8_counts 7 = .ok (.isub, 1) := by decide +kernel
theorem dX8_counts_8 : decode cX8_counts 8 = .ok (.istore_n 1, 1) := by decide +kernel
theorem dX8_counts_9 : decode cX8_counts 9 = .ok (.aload_n 0, 1) := by decide +kernel
theorem dX8_counts_10 : decode cX8_counts 10 = .ok (.getfield 57, 3) := by decide +kernel
theorem dX8_counts_13 : decode cX8_counts 13 = .ok (.iload_n 1, 1) := by decide +kernel
theorem dX8_counts_14 : decode cX8_counts 14 = .ok (.lconst 1, 1) := by decide +kernel
theorem dX8_counts_15 : decode cX8_counts 15 = .ok (.lastore, 1) := by decide +kernel
theorem dX8_counts_16 : decode cX8_counts 16 = .ok (.iload_n 1, 1) := by decide +kernel
theorem dX8_counts_17 : decode cX8_counts 17 = .ok (.iconst 1, 1) := by decide +kernel
theorem dX8_counts_18 : decode cX8_counts 18 = .ok (.isub, 1) := by decide +kernel
theorem dX8_counts_19 : decode cX8_counts 19 = .ok (.istore_n 2, 1) := by decide +kernel
theorem dX8_counts_20 : decode cX8_counts 20 = .ok (.iload_n 2, 1) := by decide +kernel
theorem dX8_counts_21 : decode cX8_counts 21 = .ok (.ifCond .lt 77, 3) := by decide +kernel
theorem dX8_counts_24 : decode cX8_counts 24 = .ok (.lconst 0, 1) := by decide +kernel
theorem dX8_counts_25 : decode cX8_counts 25 = .ok (.lstore_n 3, 1) := by decide +kernel
theorem dX8_counts_26 : decode cX8_counts 26 = .ok (.iconst 0, 1) := by decide +kernel
theorem dX8_counts_27 : decode cX8_counts 27 = .ok (.istore 5, 2) := by decide +kernel
theorem dX8_counts_29 : decode cX8_counts 29 = .ok (.iload 5, 2) := by decide +kernel
theorem dX8_counts_31 : decode cX8_counts 31 = .ok (.aload_n 0, 1) := by decide +kernel
theorem dX8_counts_32 : decode cX8_counts 32 = .ok (.getfield 119, 3) := by decide +kernel
theorem dX8_counts_35 : decode cX8_counts 35 = .ok (.if_icmp .ge 50, 3) := by decide +kernel
theorem dX8_counts_38 : decode cX8_counts 38 = .ok (.lload_n 3, 1) := by decide +kernel
theorem dX8_counts_39 : decode cX8_counts 39 = .ok (.iload_n 2, 1) := by decide +kernel
theorem dX8_counts_40 : decode cX8_counts 40 = .ok (.iload 5, 2) := by decide +kernel
theorem dX8_counts_42 : decode cX8_counts 42 = .ok (.invokestatic 130, 3) := by decide +kernel
theorem dX8_counts_45 : decode cX8_counts 45 = .ok (.ifCond .ne 31, 3) := by decide +kernel
theorem dX8_counts_48 : decode cX8_counts 48 = .ok (.aload_n 0, 1) := by decide +kernel
theorem dX8_counts_49 : decode cX8_counts 49 = .ok (.getfield 39, 3) := by decide +kernel
theorem dX8_counts_52 : decode cX8_counts 52 = .ok (.iload 5, 2) := by decide +kernel
theorem dX8_counts_54 : decode cX8_counts 54 = .ok (.iaload, 1) := by decide +kernel
theorem dX8_counts_55 : decode cX8_counts 55 = .ok (.iload_n 2, 1) := by decide +kernel
theorem dX8_counts_56 : decode cX8_counts 56 = .ok (.iconst (-1), 1) := by decide +kernel
theorem dX8_counts_57 : decode cX8_counts 57 = .ok (.ixor, 1) := by decide +kernel
theorem dX8_counts_58 : decode cX8_counts 58 = .ok (.iand, 1) := by decide +kernel
theorem dX8_counts_59 : decode cX8_counts 59 = .ok (.ifCond .ne 17, 3) := by decide +kernel
theorem dX8_counts_62 : decode cX8_counts 62 = .ok (.aload_n 0, 1) := by decide +kernel
theorem dX8_counts_63 : decode cX8_counts 63 = .ok (.getfield 57, 3) := by decide +kernel
theorem dX8_counts_66 : decode cX8_counts 66 = .ok (.iload_n 2, 1) := by decide +kernel
theorem dX8_counts_67 : decode cX8_counts 67 = .ok (.iconst 1, 1) := by decide +kernel
theorem dX8_counts_68 : decode cX8_counts 68 = .ok (.iload 5, 2) := by decide +kernel
theorem dX8_counts_70 : decode cX8_counts 70 = .ok (.ishl, 1) := by decide +kernel
theorem dX8_counts_71 : decode cX8_counts 71 = .ok (.ior, 1) := by decide +kernel
theorem dX8_counts_72 : decode cX8_counts 72 = .ok (.laload, 1) := by decide +kernel
theorem dX8_counts_73 : decode cX8_counts 73 = .ok (.goto 4, 3) := by decide +kernel
theorem dX8_counts_76 : decode cX8_counts 76 = .ok (.lconst 0, 1) := by decide +kernel
theorem dX8_counts_77 : decode cX8_counts 77 = .ok (.ladd, 1) := by decide +kernel
theorem dX8_counts_78 : decode cX8_counts 78 = .ok (.lstore_n 3, 1) := by decide +kernel
theorem dX8_counts_79 : decode cX8_counts 79 = .ok (.iinc 5 1, 3) := by decide +kernel
theorem dX8_counts_82 : decode cX8_counts 82 = .ok (.goto (-53), 3) := by decide +kernel
theorem dX8_counts_85 : decode cX8_counts 85 = .ok (.aload_n 0, 1) := by decide +kernel
theorem dX8_counts_86 : decode cX8_counts 86 = .ok (.getfield 57, 3) := by decide +kernel
theorem dX8_counts_89 : decode cX8_counts 89 = .ok (.iload_n 2, 1) := by decide +kernel
theorem dX8_counts_90 : decode cX8_counts 90 = .ok (.lload_n 3, 1) := by decide +kernel
theorem dX8_counts_91 : decode cX8_counts 91 = .ok (.lastore, 1) := by decide +kernel
theorem dX8_counts_92 : decode cX8_counts 92 = .ok (.iinc 2 (-1), 3) := by decide +kernel
theorem dX8_counts_95 : decode cX8_counts 95 = .ok (.goto (-75), 3) := by decide +kernel
theorem dX8_counts_98 : decode cX8_counts 98 = .ok (.return_, 1) := by decide +kernel
theorem dX8_ordersFrom_0 : decode cX8_ordersFrom 0 = .ok (.aload_n 0, 1) := by decide +kernel
theorem dX8_ordersFrom_1 : decode cX8_ordersFrom 1 = .ok (.invokevirtual 171, 3) := by decide +kernel
theorem dX8_ordersFrom_4 : decode cX8_ordersFrom 4 = .ok (.ifCond .eq 5, 3) := by decide +kernel
theorem dX8_ordersFrom_7 : decode cX8_ordersFrom 7 = .ok (.lconst 0, 1) := by decide +kernel
theorem dX8_ordersFrom_8 : decode cX8_ordersFrom 8 = .ok (.lreturn, 1) := by decide +kernel
theorem dX8_ordersFrom_9 : decode cX8_ordersFrom 9 = .ok (.aload_n 0, 1) := by decide +kernel
theorem dX8_ordersFrom_10 : decode cX8_ordersFrom 10 = .ok (.invokevirtual 260, 3) := by decide +kernel
theorem dX8_ordersFrom_13 : decode cX8_ordersFrom 13 = .ok (.aload_n 0, 1) := by decide +kernel
theorem dX8_ordersFrom_14 : decode cX8_ordersFrom 14 = .ok (.getfield 57, 3) := by decide +kernel
theorem dX8_ordersFrom_17 : decode cX8_ordersFrom 17 = .ok (.iload_n 1, 1) := by decide +kernel
theorem dX8_ordersFrom_18 : decode cX8_ordersFrom 18 = .ok (.laload, 1) := by decide +kernel
theorem dX8_ordersFrom_19 : decode cX8_ordersFrom 19 = .ok (.lreturn, 1) := by decide +kernel
theorem dX8_orders_0 : decode cX8_orders 0 = .ok (.aload_n 0, 1) := by decide +kernel
theorem dX8_orders_1 : decode cX8_orders 1 = .ok (.invokevirtual 178, 3) := by decide +kernel
theorem dX8_orders_4 : decode cX8_orders 4 = .ok (.aload_n 0, 1) := by decide +kernel
theorem dX8_orders_5 : decode cX8_orders 5 = .ok (.aload_n 0, 1) := by decide +kernel
theorem dX8_orders_6 : decode cX8_orders 6 = .ok (.invokevirtual 148, 3) := by decide +kernel
theorem dX8_orders_9 : decode cX8_orders 9 = .ok (.invokevirtual 263, 3) := by decide +kernel
theorem dX8_orders_12 : decode cX8_orders 12 = .ok (.lreturn, 1) := by decide +kernel
theorem dX8_order_0 : decode cX8_order 0 = .ok (.aload_n 0, 1) := by decide +kernel
theorem dX8_order_1 : decode cX8_order 1 = .ok (.invokevirtual 178, 3) := by decide +kernel
theorem dX8_order_4 : decode cX8_order 4 = .ok (.aload_n 0, 1) := by decide +kernel
theorem dX8_order_5 : decode cX8_order 5 = .ok (.invokevirtual 148, 3) := by decide +kernel
theorem dX8_order_8 : decode cX8_order 8 = .ok (.istore 4, 2) := by decide +kernel
theorem dX8_order_10 : decode cX8_order 10 = .ok (.lload_n 1, 1) := by decide +kernel
theorem dX8_order_11 : decode cX8_order 11 = .ok (.lconst 0, 1) := by decide +kernel
theorem dX8_order_12 : decode cX8_order 12 = .ok (.lcmp, 1) := by decide +kernel
theorem dX8_order_13 : decode cX8_order 13 = .ok (.ifCond .lt 33, 3) := by decide +kernel
theorem dX8_order_16 : decode cX8_order 16 = .ok (.lload_n 1, 1) := by decide +kernel
theorem dX8_order_17 : decode cX8_order 17 = .ok (.aload_n 0, 1) := by decide +kernel
theorem dX8_order_18 : decode cX8_order 18 = .ok (.iload 4, 2) := by decide +kernel
theorem dX8_order_20 : decode cX8_order 20 = .ok (.invokevirtual 263, 3) := by decide +kernel
theorem dX8_order_23 : decode cX8_order 23 = .ok (.lcmp, 1) := by decide +kernel
theorem dX8_order_24 : decode cX8_order 24 = .ok (.ifCond .ge 22, 3) := by decide +kernel
theorem dX8_order_27 : decode cX8_order 27 = .ok (.iload_n 3, 1) := by decide +kernel
theorem dX8_order_28 : decode cX8_order 28 = .ok (.iconst 0, 1) := by decide +kernel
theorem dX8_order_29 : decode cX8_order 29 = .ok (.aload_n 0, 1) := by decide +kernel
theorem dX8_order_30 : decode cX8_order 30 = .ok (.getfield 119, 3) := by decide +kernel
theorem dX8_order_33 : decode cX8_order 33 = .ok (.aload_n 0, 1) := by decide +kernel
theorem dX8_order_34 : decode cX8_order 34 = .ok (.getfield 145, 3) := by decide +kernel
theorem dX8_order_37 : decode cX8_order 37 = .ok (.isub, 1) := by decide +kernel
theorem dX8_order_38 : decode cX8_order 38 = .ok (.iconst 1, 1) := by decide +kernel
theorem dX8_order_39 : decode cX8_order 39 = .ok (.isub, 1) := by decide +kernel
theorem dX8_order_40 : decode cX8_order 40 = .ok (.invokestatic 122, 3) := by decide +kernel
theorem dX8_order_43 : decode cX8_order 43 = .ok (.ifCond .ne 5, 3) := by decide +kernel
theorem dX8_order_46 : decode cX8_order 46 = .ok (.iconst (-1), 1) := by decide +kernel
theorem dX8_order_47 : decode cX8_order 47 = .ok (.ireturn, 1) := by decide +kernel
theorem dX8_order_48 : decode cX8_order 48 = .ok (.lload_n 1, 1) := by decide +kernel
theorem dX8_order_49 : decode cX8_order 49 = .ok (.lstore 5, 2) := by decide +kernel
theorem dX8_order_51 : decode cX8_order 51 = .ok (.iconst (-1), 1) := by decide +kernel
theorem dX8_order_52 : decode cX8_order 52 = .ok (.istore 7, 2) := by decide +kernel
theorem dX8_order_54 : decode cX8_order 54 = .ok (.iconst 0, 1) := by decide +kernel
theorem dX8_order_55 : decode cX8_order 55 = .ok (.istore 8, 2) := by decide +kernel
theorem dX8_order_57 : decode cX8_order 57 = .ok (.iload 8, 2) := by decide +kernel
theorem dX8_order_59 : decode cX8_order 59 = .ok (.iload_n 3, 1) := by decide +kernel
theorem dX8_order_60 : decode cX8_order 60 = .ok (.if_icmp .gt 119, 3) := by decide +kernel
theorem dX8_order_63 : decode cX8_order 63 = .ok (.iconst (-1), 1) := by decide +kernel
theorem dX8_order_64 : decode cX8_order 64 = .ok (.istore 7, 2) := by decide +kernel
theorem dX8_order_66 : decode cX8_order 66 = .ok (.iconst 0, 1) := by decide +kernel
theorem dX8_order_67 : decode cX8_order 67 = .ok (.istore 9, 2) := by decide +kernel
theorem dX8_order_69 : decode cX8_order 69 = .ok (.iload 9, 2) := by decide +kernel
theorem dX8_order_71 : decode cX8_order 71 = .ok (.aload_n 0, 1) := by decide +kernel
theorem dX8_order_72 : decode cX8_order 72 = .ok (.getfield 119, 3) := by decide +kernel
theorem dX8_order_75 : decode cX8_order 75 = .ok (.if_icmp .ge 89, 3) := by decide +kernel
theorem dX8_order_78 : decode cX8_order 78 = .ok (.iload 7, 2) := by decide +kernel
theorem dX8_order_80 : decode cX8_order 80 = .ok (.iconst (-1), 1) := by decide +kernel
theorem dX8_order_81 : decode cX8_order 81 = .ok (.if_icmp .ne 83, 3) := by decide +kernel
theorem dX8_order_84 : decode cX8_order 84 = .ok (.iload 4, 2) := by decide +kernel
theorem dX8_order_86 : decode cX8_order 86 = .ok (.iload 9, 2) := by decide +kernel
theorem dX8_order_88 : decode cX8_order 88 = .ok (.invokestatic 130, 3) := by decide +kernel
theorem dX8_order_91 : decode cX8_order 91 = .ok (.ifCond .ne 67, 3) := by decide +kernel
theorem dX8_order_94 : decode cX8_order 94 = .ok (.aload_n 0, 1) := by decide +kernel
theorem dX8_order_95 : decode cX8_order 95 = .ok (.getfield 39, 3) := by decide +kernel
theorem dX8_order_98 : decode cX8_order 98 = .ok (.iload 9, 2) := by decide +kernel
theorem dX8_order_100 : decode cX8_order 100 = .ok (.iaload, 1) := by decide +kernel
theorem dX8_order_101 : decode cX8_order 101 = .ok (.iload 4, 2) := by decide +kernel
theorem dX8_order_103 : decode cX8_order 103 = .ok (.iconst (-1), 1) := by decide +kernel
theorem dX8_order_104 : decode cX8_order 104 = .ok (.ixor, 1) := by decide +kernel
theorem dX8_order_105 : decode cX8_order 105 = .ok (.iand, 1) := by decide +kernel
theorem dX8_order_106 : decode cX8_order 106 = .ok (.ifCond .ne 52, 3) := by decide +kernel
theorem dX8_order_109 : decode cX8_order 109 = .ok (.aload_n 0, 1) := by decide +kernel
theorem dX8_order_110 : decode cX8_order 110 = .ok (.getfield 57, 3) := by decide +kernel
theorem dX8_order_113 : decode cX8_order 113 = .ok (.iload 4, 2) := by decide +kernel
theorem dX8_order_115 : decode cX8_order 115 = .ok (.iconst 1, 1) := by decide +kernel
theorem dX8_order_116 : decode cX8_order 116 = .ok (.iload 9, 2) := by decide +kernel
theorem dX8_order_118 : decode cX8_order 118 = .ok (.ishl, 1) := by decide +kernel
theorem dX8_order_119 : decode cX8_order 119 = .ok (.ior, 1) := by decide +kernel
theorem dX8_order_120 : decode cX8_order 120 = .ok (.laload, 1) := by decide +kernel
theorem dX8_order_121 : decode cX8_order 121 = .ok (.lstore 10, 2) := by decide +kernel
theorem dX8_order_123 : decode cX8_order 123 = .ok (.lload 5, 2) := by decide +kernel
theorem dX8_order_125 : decode cX8_order 125 = .ok (.lload 10, 2) := by decide +kernel
theorem dX8_order_127 : decode cX8_order 127 = .ok (.lcmp, 1) := by decide +kernel
theorem dX8_order_128 : decode cX8_order 128 = .ok (.ifCond .ge 8, 3) := by decide +kernel
theorem dX8_order_131 : decode cX8_order 131 = .ok (.iload 9, 2) := by decide +kernel
theorem dX8_order_133 : decode cX8_order 133 = .ok (.goto 4, 3) := by decide +kernel
theorem dX8_order_136 : decode cX8_order 136 = .ok (.iconst (-1), 1) := by decide +kernel
theorem dX8_order_137 : decode cX8_order 137 = .ok (.istore 7, 2) := by decide +kernel
theorem dX8_order_139 : decode cX8_order 139 = .ok (.lload 5, 2) := by decide +kernel
theorem dX8_order_141 : decode cX8_order 141 = .ok (.lload 5, 2) := by decide +kernel
theorem dX8_order_143 : decode cX8_order 143 = .ok (.lload 10, 2) := by decide +kernel
theorem dX8_order_145 : decode cX8_order 145 = .ok (.lcmp, 1) := by decide +kernel
theorem dX8_order_146 : decode cX8_order 146 = .ok (.ifCond .ge 7, 3) := by decide +kernel
theorem dX8_order_149 : decode cX8_order 149 = .ok (.lconst 0, 1) := by decide +kernel
theorem dX8_order_150 : decode cX8_order 150 = .ok (.goto 5, 3) := by decide +kernel
theorem dX8_order_153 : decode cX8_order 153 = .ok (.lload 10, 2) := by decide +kernel
theorem dX8_order_155 : decode cX8_order 155 = .ok (.lsub, 1) := by decide +kernel
theorem dX8_order_156 : decode cX8_order 156 = .ok (.lstore 5, 2) := by decide +kernel
theorem dX8_order_158 : decode cX8_order 158 = .ok (.iinc 9 1, 3) := by decide +kernel
theorem dX8_order_161 : decode cX8_order 161 = .ok (.goto (-92), 3) := by decide +kernel
theorem dX8_order_164 : decode cX8_order 164 = .ok (.iload 4, 2) := by decide +kernel
theorem dX8_order_166 : decode cX8_order 166 = .ok (.iconst 1, 1) := by decide +kernel
theorem dX8_order_167 : decode cX8_order 167 = .ok (.iload 7, 2) := by decide +kernel
theorem dX8_order_169 : decode cX8_order 169 = .ok (.ishl, 1) := by decide +kernel
theorem dX8_order_170 : decode cX8_order 170 = .ok (.ior, 1) := by decide +kernel
theorem dX8_order_171 : decode cX8_order 171 = .ok (.istore 4, 2) := by decide +kernel
theorem dX8_order_173 : decode cX8_order 173 = .ok (.iinc 8 1, 3) := by decide +kernel
theorem dX8_order_176 : decode cX8_order 176 = .ok (.goto (-119), 3) := by decide +kernel
theorem dX8_order_179 : decode cX8_order 179 = .ok (.iload 7, 2) := by decide +kernel
theorem dX8_order_181 : decode cX8_order 181 = .ok (.ireturn, 1) := by decide +kernel
theorem dX8_isTaken_0 : decode cX8_isTaken 0 = .ok (.aload_n 0, 1) := by decide +kernel
theorem dX8_isTaken_1 : decode cX8_isTaken 1 = .ok (.getfield 11, 3) := by decide +kernel
theorem dX8_isTaken_4 : decode cX8_isTaken 4 = .ok (.iload_n 2, 1) := by decide +kernel
theorem dX8_isTaken_5 : decode cX8_isTaken 5 = .ok (.iaload, 1) := by decide +kernel
theorem dX8_isTaken_6 : decode cX8_isTaken 6 = .ok (.istore_n 3, 1) := by decide +kernel
theorem dX8_isTaken_7 : decode cX8_isTaken 7 = .ok (.iload_n 1, 1) := by decide +kernel
theorem dX8_isTaken_8 : decode cX8_isTaken 8 = .ok (.ifCond .eq 26, 3) := by decide +kernel
theorem dX8_isTaken_11 : decode cX8_isTaken 11 = .ok (.iload_n 1, 1) := by decide +kernel
theorem dX8_isTaken_12 : decode cX8_isTaken 12 = .ok (.iconst 1, 1) := by decide +kernel
theorem dX8_isTaken_13 : decode cX8_isTaken 13 = .ok (.if_icmp .ne 16, 3) := by decide +kernel
theorem dX8_isTaken_16 : decode cX8_isTaken 16 = .ok (.iload_n 3, 1) := by decide +kernel
theorem dX8_isTaken_17 : decode cX8_isTaken 17 = .ok (.iconst 1, 1) := by decide +kernel
theorem dX8_isTaken_18 : decode cX8_isTaken 18 = .ok (.if_icmp .eq 16, 3) := by decide +kernel
theorem dX8_isTaken_21 : decode cX8_isTaken 21 = .ok (.iload_n 3, 1) := by decide +kernel
theorem dX8_isTaken_22 : decode cX8_isTaken 22 = .ok (.iconst 4, 1) := by decide +kernel
theorem dX8_isTaken_23 : decode cX8_isTaken 23 = .ok (.if_icmp .ne 15, 3) := by decide +kernel
theorem dX8_isTaken_26 : decode cX8_isTaken 26 = .ok (.goto 8, 3) := by decide +kernel
theorem dX8_isTaken_29 : decode cX8_isTaken 29 = .ok (.iload_n 3, 1) := by decide +kernel
theorem dX8_isTaken_30 : decode cX8_isTaken 30 = .ok (.iconst 3, 1) := by decide +kernel
theorem dX8_isTaken_31 : decode cX8_isTaken 31 = .ok (.if_icmp .ne 7, 3) := by decide +kernel
theorem dX8_isTaken_34 : decode cX8_isTaken 34 = .ok (.iconst 1, 1) := by decide +kernel
theorem dX8_isTaken_35 : decode cX8_isTaken 35 = .ok (.goto 4, 3) := by decide +kernel
theorem dX8_isTaken_38 : decode cX8_isTaken 38 = .ok (.iconst 0, 1) := by decide +kernel
theorem dX8_isTaken_39 : decode cX8_isTaken 39 = .ok (.ireturn, 1) := by decide +kernel
theorem dX8_tray_0 : decode cX8_tray 0 = .ok (.iload_n 1, 1) := by decide +kernel
theorem dX8_tray_1 : decode cX8_tray 1 = .ok (.iconst 0, 1) := by decide +kernel
theorem dX8_tray_2 : decode cX8_tray 2 = .ok (.iconst 2, 1) := by decide +kernel
theorem dX8_tray_3 : decode cX8_tray 3 = .ok (.invokestatic 122, 3) := by decide +kernel
theorem dX8_tray_6 : decode cX8_tray 6 = .ok (.ifCond .eq 16, 3) := by decide +kernel
theorem dX8_tray_9 : decode cX8_tray 9 = .ok (.iload_n 3, 1) := by decide +kernel
theorem dX8_tray_10 : decode cX8_tray 10 = .ok (.iconst (-1), 1) := by decide +kernel
theorem dX8_tray_11 : decode cX8_tray 11 = .ok (.if_icmp .eq 13, 3) := by decide +kernel
theorem dX8_tray_14 : decode cX8_tray 14 = .ok (.aload_n 0, 1) := by decide +kernel
theorem dX8_tray_15 : decode cX8_tray 15 = .ok (.iload_n 3, 1) := by decide +kernel
theorem dX8_tray_16 : decode cX8_tray 16 = .ok (.invokevirtual 126, 3) := by decide +kernel
theorem dX8_tray_19 : decode cX8_tray 19 = .ok (.ifCond .ne 5, 3) := by decide +kernel
theorem dX8_tray_22 : decode cX8_tray 22 = .ok (.iconst (-1), 1) := by decide +kernel
theorem dX8_tray_23 : decode cX8_tray 23 = .ok (.ireturn, 1) := by decide +kernel
theorem dX8_tray_24 : decode cX8_tray 24 = .ok (.iload_n 2, 1) := by decide +kernel
theorem dX8_tray_25 : decode cX8_tray 25 = .ok (.iconst 0, 1) := by decide +kernel
theorem dX8_tray_26 : decode cX8_tray 26 = .ok (.iconst 3, 1) := by decide +kernel
theorem dX8_tray_27 : decode cX8_tray 27 = .ok (.invokestatic 122, 3) := by decide +kernel
theorem dX8_tray_30 : decode cX8_tray 30 = .ok (.ifCond .ne 6, 3) := by decide +kernel
theorem dX8_tray_33 : decode cX8_tray 33 = .ok (.bipush (-13), 2) := by decide +kernel
theorem dX8_tray_35 : decode cX8_tray 35 = .ok (.ireturn, 1) := by decide +kernel
theorem dX8_tray_36 : decode cX8_tray 36 = .ok (.iload_n 3, 1) := by decide +kernel
theorem dX8_tray_37 : decode cX8_tray 37 = .ok (.iconst (-1), 1) := by decide +kernel
theorem dX8_tray_38 : decode cX8_tray 38 = .ok (.if_icmp .eq 15, 3) := by decide +kernel
theorem dX8_tray_41 : decode cX8_tray 41 = .ok (.aload_n 0, 1) := by decide +kernel
theorem dX8_tray_42 : decode cX8_tray 42 = .ok (.iload_n 1, 1) := by decide +kernel
theorem dX8_tray_43 : decode cX8_tray 43 = .ok (.iload_n 3, 1) := by decide +kernel
theorem dX8_tray_44 : decode cX8_tray 44 = .ok (.invokevirtual 267, 3) := by decide +kernel
theorem dX8_tray_47 : decode cX8_tray 47 = .ok (.ifCond .ne 6, 3) := by decide +kernel
theorem dX8_tray_50 : decode cX8_tray 50 = .ok (.bipush (-12), 2) := by decide +kernel
theorem dX8_tray_52 : decode cX8_tray 52 = .ok (.ireturn, 1) := by decide +kernel
theorem dX8_tray_53 : decode cX8_tray 53 = .ok (.aload_n 0, 1) := by decide +kernel
theorem dX8_tray_54 : decode cX8_tray 54 = .ok (.getfield 61, 3) := by decide +kernel
theorem dX8_tray_57 : decode cX8_tray 57 = .ok (.iconst 4, 1) := by decide +kernel
theorem dX8_tray_58 : decode cX8_tray 58 = .ok (.iload_n 1, 1) := by decide +kernel
theorem dX8_tray_59 : decode cX8_tray 59 = .ok (.imul, 1) := by decide +kernel
theorem dX8_tray_60 : decode cX8_tray 60 = .ok (.iload_n 2, 1) := by decide +kernel
theorem dX8_tray_61 : decode cX8_tray 61 = .ok (.iadd, 1) := by decide +kernel
theorem dX8_tray_62 : decode cX8_tray 62 = .ok (.iaload, 1) := by decide +kernel
theorem dX8_tray_63 : decode cX8_tray 63 = .ok (.istore 4, 2) := by decide +kernel
theorem dX8_tray_65 : decode cX8_tray 65 = .ok (.aload_n 0, 1) := by decide +kernel
theorem dX8_tray_66 : decode cX8_tray 66 = .ok (.getfield 61, 3) := by decide +kernel
theorem dX8_tray_69 : decode cX8_tray 69 = .ok (.iconst 4, 1) := by decide +kernel
theorem dX8_tray_70 : decode cX8_tray 70 = .ok (.iload_n 1, 1) := by decide +kernel
theorem dX8_tray_71 : decode cX8_tray 71 = .ok (.imul, 1) := by decide +kernel
theorem dX8_tray_72 : decode cX8_tray 72 = .ok (.iload_n 2, 1) := by decide +kernel
theorem dX8_tray_73 : decode cX8_tray 73 = .ok (.iadd, 1) := by decide +kernel
theorem dX8_tray_74 : decode cX8_tray 74 = .ok (.iload_n 3, 1) := by decide +kernel
theorem dX8_tray_75 : decode cX8_tray 75 = .ok (.iastore, 1) := by decide +kernel
theorem dX8_tray_76 : decode cX8_tray 76 = .ok (.aload_n 0, 1) := by decide +kernel
theorem dX8_tray_77 : decode cX8_tray 77 = .ok (.getfield 64, 3) := by decide +kernel
theorem dX8_tray_80 : decode cX8_tray 80 = .ok (.iconst 4, 1) := by decide +kernel
theorem dX8_tray_81 : decode cX8_tray 81 = .ok (.iload_n 1, 1) := by decide +kernel
theorem dX8_tray_82 : decode cX8_tray 82 = .ok (.imul, 1) := by decide +kernel
theorem dX8_tray_83 : decode cX8_tray 83 = .ok (.iload_n 2, 1) := by decide +kernel
theorem dX8_tray_84 : decode cX8_tray 84 = .ok (.iadd, 1) := by decide +kernel
theorem dX8_tray_85 : decode cX8_tray 85 = .ok (.iload_n 3, 1) := by decide +kernel
theorem dX8_tray_86 : decode cX8_tray 86 = .ok (.iconst (-1), 1) := by decide +kernel
theorem dX8_tray_87 : decode cX8_tray 87 = .ok (.if_icmp .ne 7, 3) := by decide +kernel
theorem dX8_tray_90 : decode cX8_tray 90 = .ok (.iconst 0, 1) := by decide +kernel
theorem dX8_tray_91 : decode cX8_tray 91 = .ok (.goto 9, 3) := by decide +kernel
theorem dX8_tray_94 : decode cX8_tray 94 = .ok (.aload_n 0, 1) := by decide +kernel
theorem dX8_tray_95 : decode cX8_tray 95 = .ok (.getfield 11, 3) := by decide +kernel
theorem dX8_tray_98 : decode cX8_tray 98 = .ok (.iload_n 3, 1) := by decide +kernel
theorem dX8_tray_99 : decode cX8_tray 99 = .ok (.iaload, 1) := by decide +kernel
theorem dX8_tray_100 : decode cX8_tray 100 = .ok (.iastore, 1) := by decide +kernel
theorem dX8_tray_101 : decode cX8_tray 101 = .ok (.iload 4, 2) := by decide +kernel
theorem dX8_tray_103 : decode cX8_tray 103 = .ok (.iconst (-1), 1) := by decide +kernel
theorem dX8_tray_104 : decode cX8_tray 104 = .ok (.if_icmp .ne 8, 3) := by decide +kernel
theorem dX8_tray_107 : decode cX8_tray 107 = .ok (.bipush (-5), 2) := by decide +kernel
theorem dX8_tray_109 : decode cX8_tray 109 = .ok (.goto 5, 3) := by decide +kernel
theorem dX8_tray_112 : decode cX8_tray 112 = .ok (.iload 4, 2) := by decide +kernel
theorem dX8_tray_114 : decode cX8_tray 114 = .ok (.ireturn, 1) := by decide +kernel
theorem dX8_held_0 : decode cX8_held 0 = .ok (.iload_n 1, 1) := by decide +kernel
theorem dX8_held_1 : decode cX8_held 1 = .ok (.iconst 0, 1) := by decide +kernel
theorem dX8_held_2 : decode cX8_held 2 = .ok (.iconst 2, 1) := by decide +kernel
theorem dX8_held_3 : decode cX8_held 3 = .ok (.invokestatic 122, 3) := by decide +kernel
theorem dX8_held_6 : decode cX8_held 6 = .ok (.ifCond .eq 12, 3) := by decide +kernel
theorem dX8_held_9 : decode cX8_held 9 = .ok (.iload_n 3, 1) := by decide +kernel
theorem dX8_held_10 : decode cX8_held 10 = .ok (.iconst 0, 1) := by decide +kernel
theorem dX8_held_11 : decode cX8_held 11 = .ok (.iconst 1, 1) := by decide +kernel
theorem dX8_held_12 : decode cX8_held 12 = .ok (.invokestatic 122, 3) := by decide +kernel
theorem dX8_held_15 : decode cX8_held 15 = .ok (.ifCond .ne 5, 3) := by decide +kernel
theorem dX8_held_18 : decode cX8_held 18 = .ok (.iconst (-1), 1) := by decide +kernel
theorem dX8_held_19 : decode cX8_held 19 = .ok (.ireturn, 1) := by decide +kernel
theorem dX8_held_20 : decode cX8_held 20 = .ok (.iload_n 2, 1) := by decide +kernel
theorem dX8_held_21 : decode cX8_held 21 = .ok (.iconst 0, 1) := by decide +kernel
theorem dX8_held_22 : decode cX8_held 22 = .ok (.iconst 3, 1) := by decide +kernel
theorem dX8_held_23 : decode cX8_held 23 = .ok (.invokestatic 122, 3) := by decide +kernel
theorem dX8_held_26 : decode cX8_held 26 = .ok (.ifCond .ne 6, 3) := by decide +kernel
theorem dX8_held_29 : decode cX8_held 29 = .ok (.bipush (-13), 2) := by decide +kernel
theorem dX8_held_31 : decode cX8_held 31 = .ok (.ireturn, 1) := by decide +kernel
theorem dX8_held_32 : decode cX8_held 32 = .ok (.aload_n 0, 1) := by decide +kernel
theorem dX8_held_33 : decode cX8_held 33 = .ok (.getfield 61, 3) := by decide +kernel
theorem dX8_held_36 : decode cX8_held 36 = .ok (.iconst 4, 1) := by decide +kernel
theorem dX8_held_37 : decode cX8_held 37 = .ok (.iload_n 1, 1) := by decide +kernel
theorem dX8_held_38 : decode cX8_held 38 = .ok (.imul, 1) := by decide +kernel
theorem dX8_held_39 : decode cX8_held 39 = .ok (.iload_n 2, 1) := by decide +kernel
theorem dX8_held_40 : decode cX8_held 40 = .ok (.iadd, 1) := by decide +kernel
theorem dX8_held_41 : decode cX8_held 41 = .ok (.iaload, 1) := by decide +kernel
theorem dX8_held_42 : decode cX8_held 42 = .ok (.iconst (-1), 1) := by decide +kernel
theorem dX8_held_43 : decode cX8_held 43 = .ok (.if_icmp .ne 6, 3) := by decide +kernel
theorem dX8_held_46 : decode cX8_held 46 = .ok (.bipush (-5), 2) := by decide +kernel
theorem dX8_held_48 : decode cX8_held 48 = .ok (.ireturn, 1) := by decide +kernel
theorem dX8_held_49 : decode cX8_held 49 = .ok (.iload_n 3, 1) := by decide +kernel
theorem dX8_held_50 : decode cX8_held 50 = .ok (.ifCond .ne 16, 3) := by decide +kernel
theorem dX8_held_53 : decode cX8_held 53 = .ok (.aload_n 0, 1) := by decide +kernel
theorem dX8_held_54 : decode cX8_held 54 = .ok (.getfield 61, 3) := by decide +kernel
theorem dX8_held_57 : decode cX8_held 57 = .ok (.iconst 4, 1) := by decide +kernel
theorem dX8_held_58 : decode cX8_held 58 = .ok (.iload_n 1, 1) := by decide +kernel
theorem dX8_held_59 : decode cX8_held 59 = .ok (.imul, 1) := by decide +kernel
theorem dX8_held_60 : decode cX8_held 60 = .ok (.iload_n 2, 1) := by decide +kernel
theorem dX8_held_61 : decode cX8_held 61 = .ok (.iadd, 1) := by decide +kernel
theorem dX8_held_62 : decode cX8_held 62 = .ok (.iaload, 1) := by decide +kernel
theorem dX8_held_63 : decode cX8_held 63 = .ok (.goto 13, 3) := by decide +kernel
theorem dX8_held_66 : decode cX8_held 66 = .ok (.aload_n 0, 1) := by decide +kernel
theorem dX8_held_67 : decode cX8_held 67 = .ok (.getfield 64, 3) := by decide +kernel
theorem dX8_held_70 : decode cX8_held 70 = .ok (.iconst 4, 1) := by decide +kernel
theorem dX8_held_71 : decode cX8_held 71 = .ok (.iload_n 1, 1) := by decide +kernel
theorem dX8_held_72 : decode cX8_held 72 = .ok (.imul, 1) := by decide +kernel
theorem dX8_held_73 : decode cX8_held 73 = .ok (.iload_n 2, 1) := by decide +kernel
theorem dX8_held_74 : decode cX8_held 74 = .ok (.iadd, 1) := by decide +kernel
theorem dX8_held_75 : decode cX8_held 75 = .ok (.iaload, 1) := by decide +kernel
theorem dX8_held_76 : decode cX8_held 76 = .ok (.ireturn, 1) := by decide +kernel
theorem dX8_feed_0 : decode cX8_feed 0 = .ok (.iload_n 1, 1) := by decide +kernel
theorem dX8_feed_1 : decode cX8_feed 1 = .ok (.iconst 0, 1) := by decide +kernel
theorem dX8_feed_2 : decode cX8_feed 2 = .ok (.bipush 127, 2) := by decide +kernel
theorem dX8_feed_4 : decode cX8_feed 4 = .ok (.invokestatic 122, 3) := by decide +kernel
theorem dX8_feed_7 : decode cX8_feed 7 = .ok (.ifCond .ne 6, 3) := by decide +kernel
theorem dX8_feed_10 : decode cX8_feed 10 = .ok (.bipush (-2), 2) := by decide +kernel
theorem dX8_feed_12 : decode cX8_feed 12 = .ok (.ireturn, 1) := by decide +kernel
theorem dX8_feed_13 : decode cX8_feed 13 = .ok (.aload_n 0, 1) := by decide +kernel
theorem dX8_feed_14 : decode cX8_feed 14 = .ok (.getfield 270, 3) := by decide +kernel
theorem dX8_feed_17 : decode cX8_feed 17 = .ok (.bipush 100, 2) := by decide +kernel
theorem dX8_feed_19 : decode cX8_feed 19 = .ok (.if_icmp .ne 6, 3) := by decide +kernel
theorem dX8_feed_22 : decode cX8_feed 22 = .ok (.bipush (-4), 2) := by decide +kernel
theorem dX8_feed_24 : decode cX8_feed 24 = .ok (.ireturn, 1) := by decide +kernel
theorem dX8_feed_25 : decode cX8_feed 25 = .ok (.aload_n 0, 1) := by decide +kernel
theorem dX8_feed_26 : decode cX8_feed 26 = .ok (.getfield 67, 3) := by decide +kernel
theorem dX8_feed_29 : decode cX8_feed 29 = .ok (.aload_n 0, 1) := by decide +kernel
theorem dX8_feed_30 : decode cX8_feed 30 = .ok (.getfield 270, 3) := by decide +kernel
theorem dX8_feed_33 : decode cX8_feed 33 = .ok (.iload_n 1, 1) := by decide +kernel
theorem dX8_feed_34 : decode cX8_feed 34 = .ok (.iastore, 1) := by decide +kernel
theorem dX8_feed_35 : decode cX8_feed 35 = .ok (.aload_n 0, 1) := by decide +kernel
theorem dX8_feed_36 : decode cX8_feed 36 = .ok (.dup, 1) := by decide +kernel
theorem dX8_feed_37 : decode cX8_feed 37 = .ok (.getfield 270, 3) := by decide +kernel
theorem dX8_feed_40 : decode cX8_feed 40 = .ok (.iconst 1, 1) := by decide +kernel
theorem dX8_feed_41 : decode cX8_feed 41 = .ok (.iadd, 1) := by decide +kernel
theorem dX8_feed_42 : decode cX8_feed 42 = .ok (.putfield 270, 3) := by decide +kernel
theorem dX8_feed_45 : decode cX8_feed 45 = .ok (.aload_n 0, 1) := by decide +kernel
theorem dX8_feed_46 : decode cX8_feed 46 = .ok (.getfield 270, 3) := by decide +kernel
theorem dX8_feed_49 : decode cX8_feed 49 = .ok (.ireturn, 1) := by decide +kernel
theorem dX8_here_0 : decode cX8_here 0 = .ok (.aload_n 0, 1) := by decide +kernel
theorem dX8_here_1 : decode cX8_here 1 = .ok (.getfield 273, 3) := by decide +kernel
theorem dX8_here_4 : decode cX8_here 4 = .ok (.iload_n 1, 1) := by decide +kernel
theorem dX8_here_5 : decode cX8_here 5 = .ok (.if_icmp .ge 15, 3) := by decide +kernel
theorem dX8_here_8 : decode cX8_here 8 = .ok (.aload_n 0, 1) := by decide +kernel
theorem dX8_here_9 : decode cX8_here 9 = .ok (.getfield 67, 3) := by decide +kernel
theorem dX8_here_12 : decode cX8_here 12 = .ok (.aload_n 0, 1) := by decide +kernel
theorem dX8_here_13 : decode cX8_here 13 = .ok (.getfield 273, 3) := by decide +kernel
theorem dX8_here_16 : decode cX8_here 16 = .ok (.iaload, 1) := by decide +kernel
theorem dX8_here_17 : decode cX8_here 17 = .ok (.goto 4, 3) := by decide +kernel
theorem dX8_here_20 : decode cX8_here 20 = .ok (.iconst (-1), 1) := by decide +kernel
theorem dX8_here_21 : decode cX8_here 21 = .ok (.ireturn, 1) := by decide +kernel
theorem dX8_verbOf_0 : decode cX8_verbOf 0 = .ok (.iconst 0, 1) := by decide +kernel
theorem dX8_verbOf_1 : decode cX8_verbOf 1 = .ok (.istore_n 3, 1) := by decide +kernel
theorem dX8_verbOf_2 : decode cX8_verbOf 2 = .ok (.iload_n 3, 1) := by decide +kernel
theorem dX8_verbOf_3 : decode cX8_verbOf 3 = .ok (.iconst 5, 1) := by decide +kernel
theorem dX8_verbOf_4 : decode cX8_verbOf 4 = .ok (.if_icmp .ge 98, 3) := by decide +kernel
theorem dX8_verbOf_7 : decode cX8_verbOf 7 = .ok (.iload_n 3, 1) := by decide +kernel
theorem dX8_verbOf_8 : decode cX8_verbOf 8 = .ok (.ifCond .eq 8, 3) := by decide +kernel
theorem dX8_verbOf_11 : decode cX8_verbOf 11 = .ok (.iload_n 3, 1) := by decide +kernel
theorem dX8_verbOf_12 : decode cX8_verbOf 12 = .ok (.iconst 2, 1) := by decide +kernel
theorem dX8_verbOf_13 : decode cX8_verbOf 13 = .ok (.if_icmp .ne 7, 3) := by decide +kernel
theorem dX8_verbOf_16 : decode cX8_verbOf 16 = .ok (.iconst 4, 1) := by decide +kernel
theorem dX8_verbOf_17 : decode cX8_verbOf 17 = .ok (.goto 4, 3) := by decide +kernel
theorem dX8_verbOf_20 : decode cX8_verbOf 20 = .ok (.iconst 5, 1) := by decide +kernel
theorem dX8_verbOf_21 : decode cX8_verbOf 21 = .ok (.istore 4, 2) := by decide +kernel
theorem dX8_verbOf_23 : decode cX8_verbOf 23 = .ok (.iload_n 2, 1) := by decide +kernel
theorem dX8_verbOf_24 : decode cX8_verbOf 24 = .ok (.iload_n 1, 1) := by decide +kernel
theorem dX8_verbOf_25 : decode cX8_verbOf 25 = .ok (.isub, 1) := by decide +kernel
theorem dX8_verbOf_26 : decode cX8_verbOf 26 = .ok (.iload 4, 2) := by decide +kernel
theorem dX8_verbOf_28 : decode cX8_verbOf 28 = .ok (.if_icmp .ne 7, 3) := by decide +kernel
theorem dX8_verbOf_31 : decode cX8_verbOf 31 = .ok (.iconst 1, 1) := by decide +kernel
theorem dX8_verbOf_32 : decode cX8_verbOf 32 = .ok (.goto 4, 3) := by decide +kernel
theorem dX8_verbOf_35 : decode cX8_verbOf 35 = .ok (.iconst 0, 1) := by decide +kernel
theorem dX8_verbOf_36 : decode cX8_verbOf 36 = .ok (.istore 5, 2) := by decide +kernel
theorem dX8_verbOf_38 : decode cX8_verbOf 38 = .ok (.iconst 0, 1) := by decide +kernel
theorem dX8_verbOf_39 : decode cX8_verbOf 39 = .ok (.istore 6, 2) := by decide +kernel
theorem dX8_verbOf_41 : decode cX8_verbOf 41 = .ok (.iload 6, 2) := by decide +kernel
theorem dX8_verbOf_43 : decode cX8_verbOf 43 = .ok (.iload 4, 2) := by decide +kernel
theorem dX8_verbOf_45 : decode cX8_verbOf 45 = .ok (.if_icmp .ge 44, 3) := by decide +kernel
theorem dX8_verbOf_48 : decode cX8_verbOf 48 = .ok (.iload 5, 2) := by decide +kernel
theorem dX8_verbOf_50 : decode cX8_verbOf 50 = .ok (.ifCond .eq 39, 3) := by decide +kernel
theorem dX8_verbOf_53 : decode cX8_verbOf 53 = .ok (.aload_n 0, 1) := by decide +kernel
theorem dX8_verbOf_54 : decode cX8_verbOf 54 = .ok (.getfield 67, 3) := by decide +kernel
theorem dX8_verbOf_57 : decode cX8_verbOf 57 = .ok (.iload_n 1, 1) := by decide +kernel
theorem dX8_verbOf_58 : decode cX8_verbOf 58 = .ok (.iload 6, 2) := by decide +kernel
theorem dX8_verbOf_60 : decode cX8_verbOf 60 = .ok (.iadd, 1) := by decide +kernel
theorem dX8_verbOf_61 : decode cX8_verbOf 61 = .ok (.iaload, 1) := by decide +kernel
theorem dX8_verbOf_62 : decode cX8_verbOf 62 = .ok (.aload_n 0, 1) := by decide +kernel
theorem dX8_verbOf_63 : decode cX8_verbOf 63 = .ok (.getfield 73, 3) := by decide +kernel
theorem dX8_verbOf_66 : decode cX8_verbOf 66 = .ok (.iconst 5, 1) := by decide +kernel
theorem dX8_verbOf_67 : decode cX8_verbOf 67 = .ok (.iload_n 3, 1) := by decide +kernel
theorem dX8_verbOf_68 : decode cX8_verbOf 68 = .ok (.imul, 1) := by decide +kernel
theorem dX8_verbOf_69 : decode cX8_verbOf 69 = .ok (.iload 6, 2) := by decide +kernel
theorem dX8_verbOf_71 : decode cX8_verbOf 71 = .ok (.iadd, 1) := by decide +kernel
theorem dX8_verbOf_72 : decode cX8_verbOf 72 = .ok (.iaload, 1) := by decide +kernel
theorem dX8_verbOf_73 : decode cX8_verbOf 73 = .ok (.if_icmp .ne 7, 3) := by decide +kernel
theorem dX8_verbOf_76 : decode cX8_verbOf 76 = .ok (.iconst 1, 1) := by decide +kernel
theorem dX8_verbOf_77 : decode cX8_verbOf 77 = .ok (.goto 4, 3) := by decide +kernel
theorem dX8_verbOf_80 : decode cX8_verbOf 80 = .ok (.iconst 0, 1) := by decide +kernel
theorem dX8_verbOf_81 : decode cX8_verbOf 81 = .ok (.istore 5, 2) := by decide +kernel
theorem dX8_verbOf_83 : decode cX8_verbOf 83 = .ok (.iinc 6 1, 3) := by decide +kernel
theorem dX8_verbOf_86 : decode cX8_verbOf 86 = .ok (.goto (-45), 3) := by decide +kernel
theorem dX8_verbOf_89 : decode cX8_verbOf 89 = .ok (.iload 5, 2) := by decide +kernel
theorem dX8_verbOf_91 : decode cX8_verbOf 91 = .ok (.ifCond .eq 5, 3) := by decide +kernel
theorem dX8_verbOf_94 : decode cX8_verbOf 94 = .ok (.iload_n 3, 1) := by decide +kernel
theorem dX8_verbOf_95 : decode cX8_verbOf 95 = .ok (.ireturn, 1) := by decide +kernel
theorem dX8_verbOf_96 : decode cX8_verbOf 96 = .ok (.iinc 3 1, 3) := by decide +kernel
theorem dX8_verbOf_99 : decode cX8_verbOf 99 = .ok (.goto (-97), 3) := by decide +kernel
theorem dX8_verbOf_102 : decode cX8_verbOf 102 = .ok (.iconst (-1), 1) := by decide +kernel
theorem dX8_verbOf_103 : decode cX8_verbOf 103 = .ok (.ireturn, 1) := by decide +kernel
theorem dX8_unitAt_0 : decode cX8_unitAt 0 = .ok (.aload_n 0, 1) := by decide +kernel
theorem dX8_unitAt_1 : decode cX8_unitAt 1 = .ok (.iload_n 3, 1) := by decide +kernel
theorem dX8_unitAt_2 : decode cX8_unitAt 2 = .ok (.invokevirtual 276, 3) := by decide +kernel
theorem dX8_unitAt_5 : decode cX8_unitAt 5 = .ok (.bipush 97, 2) := by decide +kernel
theorem dX8_unitAt_7 : decode cX8_unitAt 7 = .ok (.bipush 108, 2) := by decide +kernel
theorem dX8_unitAt_9 : decode cX8_unitAt 9 = .ok (.invokestatic 122, 3) := by decide +kernel
theorem dX8_unitAt_12 : decode cX8_unitAt 12 = .ok (.ifCond .ne 16, 3) := by decide +kernel
theorem dX8_unitAt_15 : decode cX8_unitAt 15 = .ok (.aload_n 0, 1) := by decide +kernel
theorem dX8_unitAt_16 : decode cX8_unitAt 16 = .ok (.bipush (-100), 2) := by decide +kernel
theorem dX8_unitAt_18 : decode cX8_unitAt 18 = .ok (.aload_n 0, 1) := by decide +kernel
theorem dX8_unitAt_19 : decode cX8_unitAt 19 = .ok (.getfield 273, 3) := by decide +kernel
theorem dX8_unitAt_22 : decode cX8_unitAt 22 = .ok (.isub, 1) := by decide +kernel
theorem dX8_unitAt_23 : decode cX8_unitAt 23 = .ok (.putfield 279, 3) := by decide +kernel
theorem dX8_unitAt_26 : decode cX8_unitAt 26 = .ok (.iconst 0, 1) := by decide +kernel
theorem dX8_unitAt_27 : decode cX8_unitAt 27 = .ok (.ireturn, 1) := by decide +kernel
theorem dX8_unitAt_28 : decode cX8_unitAt 28 = .ok (.aload_n 0, 1) := by decide +kernel
theorem dX8_unitAt_29 : decode cX8_unitAt 29 = .ok (.getfield 70, 3) := by decide +kernel
theorem dX8_unitAt_32 : decode cX8_unitAt 32 = .ok (.iconst 3, 1) := by decide +kernel
theorem dX8_unitAt_33 : decode cX8_unitAt 33 = .ok (.iload_n 1, 1) := by decide +kernel
theorem dX8_unitAt_34 : decode cX8_unitAt 34 = .ok (.imul, 1) := by decide +kernel
theorem dX8_unitAt_35 : decode cX8_unitAt 35 = .ok (.iload_n 2, 1) := by decide +kernel
theorem dX8_unitAt_36 : decode cX8_unitAt 36 = .ok (.iadd, 1) := by decide +kernel
theorem dX8_unitAt_37 : decode cX8_unitAt 37 = .ok (.aload_n 0, 1) := by decide +kernel
theorem dX8_unitAt_38 : decode cX8_unitAt 38 = .ok (.getfield 67, 3) := by decide +kernel
theorem dX8_unitAt_41 : decode cX8_unitAt 41 = .ok (.aload_n 0, 1) := by decide +kernel
theorem dX8_unitAt_42 : decode cX8_unitAt 42 = .ok (.getfield 273, 3) := by decide +kernel
theorem dX8_unitAt_45 : decode cX8_unitAt 45 = .ok (.iaload, 1) := by decide +kernel
theorem dX8_unitAt_46 : decode cX8_unitAt 46 = .ok (.bipush 97, 2) := by decide +kernel
theorem dX8_unitAt_48 : decode cX8_unitAt 48 = .ok (.isub, 1) := by decide +kernel
theorem dX8_unitAt_49 : decode cX8_unitAt 49 = .ok (.iastore, 1) := by decide +kernel
theorem dX8_unitAt_50 : decode cX8_unitAt 50 = .ok (.aload_n 0, 1) := by decide +kernel
theorem dX8_unitAt_51 : decode cX8_unitAt 51 = .ok (.dup, 1) := by decide +kernel
theorem dX8_unitAt_52 : decode cX8_unitAt 52 = .ok (.getfield 273, 3) := by decide +kernel
theorem dX8_unitAt_55 : decode cX8_unitAt 55 = .ok (.iconst 1, 1) := by decide +kernel
theorem dX8_unitAt_56 : decode cX8_unitAt 56 = .ok (.iadd, 1) := by decide +kernel
theorem dX8_unitAt_57 : decode cX8_unitAt 57 = .ok (.putfield 273, 3) := by decide +kernel
theorem dX8_unitAt_60 : decode cX8_unitAt 60 = .ok (.iconst 1, 1) := by decide +kernel
theorem dX8_unitAt_61 : decode cX8_unitAt 61 = .ok (.ireturn, 1) := by decide +kernel
theorem dX8_blank_0 : decode cX8_blank 0 = .ok (.aload_n 0, 1) := by decide +kernel
theorem dX8_blank_1 : decode cX8_blank 1 = .ok (.iload_n 1, 1) := by decide +kernel
theorem dX8_blank_2 : decode cX8_blank 2 = .ok (.invokevirtual 276, 3) := by decide +kernel
theorem dX8_blank_5 : decode cX8_blank 5 = .ok (.bipush 32, 2) := by decide +kernel
theorem dX8_blank_7 : decode cX8_blank 7 = .ok (.if_icmp .eq 16, 3) := by decide +kernel
theorem dX8_blank_10 : decode cX8_blank 10 = .ok (.aload_n 0, 1) := by decide +kernel
theorem dX8_blank_11 : decode cX8_blank 11 = .ok (.bipush (-100), 2) := by decide +kernel
theorem dX8_blank_13 : decode cX8_blank 13 = .ok (.aload_n 0, 1) := by decide +kernel
theorem dX8_blank_14 : decode cX8_blank 14 = .ok (.getfield 273, 3) := by decide +kernel
theorem dX8_blank_17 : decode cX8_blank 17 = .ok (.isub, 1) := by decide +kernel
theorem dX8_blank_18 : decode cX8_blank 18 = .ok (.putfield 279, 3) := by decide +kernel
theorem dX8_blank_21 : decode cX8_blank 21 = .ok (.iconst 0, 1) := by decide +kernel
theorem dX8_blank_22 : decode cX8_blank 22 = .ok (.ireturn, 1) := by decide +kernel
theorem dX8_blank_23 : decode cX8_blank 23 = .ok (.aload_n 0, 1) := by decide +kernel
theorem dX8_blank_24 : decode cX8_blank 24 = .ok (.dup, 1) := by decide +kernel
theorem dX8_blank_25 : decode cX8_blank 25 = .ok (.getfield 273, 3) := by decide +kernel
theorem dX8_blank_28 : decode cX8_blank 28 = .ok (.iconst 1, 1) := by decide +kernel
theorem dX8_blank_29 : decode cX8_blank 29 = .ok (.iadd, 1) := by decide +kernel
theorem dX8_blank_30 : decode cX8_blank 30 = .ok (.putfield 273, 3) := by decide +kernel
theorem dX8_blank_33 : decode cX8_blank 33 = .ok (.iconst 1, 1) := by decide +kernel
theorem dX8_blank_34 : decode cX8_blank 34 = .ok (.ireturn, 1) := by decide +kernel
theorem dX8_verbAt_0 : decode cX8_verbAt 0 = .ok (.aload_n 0, 1) := by decide +kernel
theorem dX8_verbAt_1 : decode cX8_verbAt 1 = .ok (.getfield 273, 3) := by decide +kernel
theorem dX8_verbAt_4 : decode cX8_verbAt 4 = .ok (.istore_n 3, 1) := by decide +kernel
theorem dX8_verbAt_5 : decode cX8_verbAt 5 = .ok (.aload_n 0, 1) := by decide +kernel
theorem dX8_verbAt_6 : decode cX8_verbAt 6 = .ok (.iload_n 2, 1) := by decide +kernel
theorem dX8_verbAt_7 : decode cX8_verbAt 7 = .ok (.invokevirtual 276, 3) := by decide +kernel
theorem dX8_verbAt_10 : decode cX8_verbAt 10 = .ok (.bipush 97, 2) := by decide +kernel
theorem dX8_verbAt_12 : decode cX8_verbAt 12 = .ok (.bipush 122, 2) := by decide +kernel
theorem dX8_verbAt_14 : decode cX8_verbAt 14 = .ok (.invokestatic 122, 3) := by decide +kernel
theorem dX8_verbAt_17 : decode cX8_verbAt 17 = .ok (.ifCond .eq 16, 3) := by decide +kernel
theorem dX8_verbAt_20 : decode cX8_verbAt 20 = .ok (.aload_n 0, 1) := by decide +kernel
theorem dX8_verbAt_21 : decode cX8_verbAt 21 = .ok (.dup, 1) := by decide +kernel
theorem dX8_verbAt_22 : decode cX8_verbAt 22 = .ok (.getfield 273, 3) := by decide +kernel
theorem dX8_verbAt_25 : decode cX8_verbAt 25 = .ok (.iconst 1, 1) := by decide +kernel
theorem dX8_verbAt_26 : decode cX8_verbAt 26 = .ok (.iadd, 1) := by decide +kernel
theorem dX8_verbAt_27 : decode cX8_verbAt 27 = .ok (.putfield 273, 3) := by decide +kernel
theorem dX8_verbAt_30 : decode cX8_verbAt 30 = .ok (.goto (-25), 3) := by decide +kernel
theorem dX8_verbAt_33 : decode cX8_verbAt 33 = .ok (.aload_n 0, 1) := by decide +kernel
theorem dX8_verbAt_34 : decode cX8_verbAt 34 = .ok (.getfield 273, 3) := by decide +kernel
theorem dX8_verbAt_37 : decode cX8_verbAt 37 = .ok (.iload_n 3, 1) := by decide +kernel
theorem dX8_verbAt_38 : decode cX8_verbAt 38 = .ok (.if_icmp .ne 16, 3) := by decide +kernel
theorem dX8_verbAt_41 : decode cX8_verbAt 41 = .ok (.aload_n 0, 1) := by decide +kernel
theorem dX8_verbAt_42 : decode cX8_verbAt 42 = .ok (.bipush (-100), 2) := by decide +kernel
theorem dX8_verbAt_44 : decode cX8_verbAt 44 = .ok (.aload_n 0, 1) := by decide +kernel
theorem dX8_verbAt_45 : decode cX8_verbAt 45 = .ok (.getfield 273, 3) := by decide +kernel
theorem dX8_verbAt_48 : decode cX8_verbAt 48 = .ok (.isub, 1) := by decide +kernel
theorem dX8_verbAt_49 : decode cX8_verbAt 49 = .ok (.putfield 279, 3) := by decide +kernel
theorem dX8_verbAt_52 : decode cX8_verbAt 52 = .ok (.iconst 0, 1) := by decide +kernel
theorem dX8_verbAt_53 : decode cX8_verbAt 53 = .ok (.ireturn, 1) := by decide +kernel
theorem dX8_verbAt_54 : decode cX8_verbAt 54 = .ok (.aload_n 0, 1) := by decide +kernel
theorem dX8_verbAt_55 : decode cX8_verbAt 55 = .ok (.iload_n 3, 1) := by decide +kernel
theorem dX8_verbAt_56 : decode cX8_verbAt 56 = .ok (.aload_n 0, 1) := by decide +kernel
theorem dX8_verbAt_57 : decode cX8_verbAt 57 = .ok (.getfield 273, 3) := by decide +kernel
theorem dX8_verbAt_60 : decode cX8_verbAt 60 = .ok (.invokevirtual 282, 3) := by decide +kernel
theorem dX8_verbAt_63 : decode cX8_verbAt 63 = .ok (.istore 4, 2) := by decide +kernel
theorem dX8_verbAt_65 : decode cX8_verbAt 65 = .ok (.aload_n 0, 1) := by decide +kernel
theorem dX8_verbAt_66 : decode cX8_verbAt 66 = .ok (.getfield 70, 3) := by decide +kernel
theorem dX8_verbAt_69 : decode cX8_verbAt 69 = .ok (.iconst 3, 1) := by decide +kernel
theorem dX8_verbAt_70 : decode cX8_verbAt 70 = .ok (.iload_n 1, 1) := by decide +kernel
theorem dX8_verbAt_71 : decode cX8_verbAt 71 = .ok (.imul, 1) := by decide +kernel
theorem dX8_verbAt_72 : decode cX8_verbAt 72 = .ok (.iconst 1, 1) := by decide +kernel
theorem dX8_verbAt_73 : decode cX8_verbAt 73 = .ok (.iadd, 1) := by decide +kernel
theorem dX8_verbAt_74 : decode cX8_verbAt 74 = .ok (.iload 4, 2) := by decide +kernel
theorem dX8_verbAt_76 : decode cX8_verbAt 76 = .ok (.iastore, 1) := by decide +kernel
theorem dX8_verbAt_77 : decode cX8_verbAt 77 = .ok (.aload_n 0, 1) := by decide +kernel
theorem dX8_verbAt_78 : decode cX8_verbAt 78 = .ok (.iload 4, 2) := by decide +kernel
theorem dX8_verbAt_80 : decode cX8_verbAt 80 = .ok (.iconst (-1), 1) := by decide +kernel
theorem dX8_verbAt_81 : decode cX8_verbAt 81 = .ok (.if_icmp .ne 11, 3) := by decide +kernel
theorem dX8_verbAt_84 : decode cX8_verbAt 84 = .ok (.sipush (-300), 3) := by decide +kernel
theorem dX8_verbAt_87 : decode cX8_verbAt 87 = .ok (.iload_n 3, 1) := by decide +kernel
theorem dX8_verbAt_88 : decode cX8_verbAt 88 = .ok (.isub, 1) := by decide +kernel
theorem dX8_verbAt_89 : decode cX8_verbAt 89 = .ok (.goto 7, 3) := by decide +kernel
theorem dX8_verbAt_92 : decode cX8_verbAt 92 = .ok (.aload_n 0, 1) := by decide +kernel
theorem dX8_verbAt_93 : decode cX8_verbAt 93 = .ok (.getfield 279, 3) := by decide +kernel
theorem dX8_verbAt_96 : decode cX8_verbAt 96 = .ok (.putfield 279, 3) := by decide +kernel
theorem dX8_verbAt_99 : decode cX8_verbAt 99 = .ok (.iload 4, 2) := by decide +kernel
theorem dX8_verbAt_101 : decode cX8_verbAt 101 = .ok (.iconst (-1), 1) := by decide +kernel
theorem dX8_verbAt_102 : decode cX8_verbAt 102 = .ok (.if_icmp .eq 7, 3) := by decide +kernel
theorem dX8_verbAt_105 : decode cX8_verbAt 105 = .ok (.iconst 1, 1) := by decide +kernel
theorem dX8_verbAt_106 : decode cX8_verbAt 106 = .ok (.goto 4, 3) := by decide +kernel
theorem dX8_verbAt_109 : decode cX8_verbAt 109 = .ok (.iconst 0, 1) := by decide +kernel
theorem dX8_verbAt_110 : decode cX8_verbAt 110 = .ok (.ireturn, 1) := by decide +kernel
theorem dX8_sentence_0 : decode cX8_sentence 0 = .ok (.aload_n 0, 1) := by decide +kernel
theorem dX8_sentence_1 : decode cX8_sentence 1 = .ok (.iload_n 1, 1) := by decide +kernel
theorem dX8_sentence_2 : decode cX8_sentence 2 = .ok (.iconst 0, 1) := by decide +kernel
theorem dX8_sentence_3 : decode cX8_sentence 3 = .ok (.iload_n 2, 1) := by decide +kernel
theorem dX8_sentence_4 : decode cX8_sentence 4 = .ok (.invokevirtual 285, 3) := by decide +kernel
theorem dX8_sentence_7 : decode cX8_sentence 7 = .ok (.ifCond .eq 42, 3) := by decide +kernel
theorem dX8_sentence_10 : decode cX8_sentence 10 = .ok (.aload_n 0, 1) := by decide +kernel
theorem dX8_sentence_11 : decode cX8_sentence 11 = .ok (.iload_n 2, 1) := by decide +kernel
theorem dX8_sentence_12 : decode cX8_sentence 12 = .ok (.invokevirtual 288, 3) := by decide +kernel
theorem dX8_sentence_15 : decode cX8_sentence 15 = .ok (.ifCond .eq 34, 3) := by decide +kernel
theorem dX8_sentence_18 : decode cX8_sentence 18 = .ok (.aload_n 0, 1) := by decide +kernel
theorem dX8_sentence_19 : decode cX8_sentence 19 = .ok (.iload_n 1, 1) := by decide +kernel
theorem dX8_sentence_20 : decode cX8_sentence 20 = .ok (.iload_n 2, 1) := by decide +kernel
theorem dX8_sentence_21 : decode cX8_sentence 21 = .ok (.invokevirtual 291, 3) := by decide +kernel
theorem dX8_sentence_24 : decode cX8_sentence 24 = .ok (.ifCond .eq 25, 3) := by decide +kernel
theorem dX8_sentence_27 : decode cX8_sentence 27 = .ok (.aload_n 0, 1) := by decide +kernel
theorem dX8_sentence_28 : decode cX8_sentence 28 = .ok (.iload_n 2, 1) := by decide +kernel
theorem dX8_sentence_29 : decode cX8_sentence 29 = .ok (.invokevirtual 288, 3) := by decide +kernel
theorem dX8_sentence_32 : decode cX8_sentence 32 = .ok (.ifCond .eq 17, 3) := by decide +kernel
theorem dX8_sentence_35 : decode cX8_sentence 35 = .ok (.aload_n 0, 1) := by decide +kernel
theorem dX8_sentence_36 : decode cX8_sentence 36 = .ok (.iload_n 1, 1) := by decide +kernel
theorem dX8_sentence_37 : decode cX8_sentence 37 = .ok (.iconst 2, 1) := by decide +kernel
theorem dX8_sentence_38 : decode cX8_sentence 38 = .ok (.iload_n 2, 1) := by decide +kernel
theorem dX8_sentence_39 : decode cX8_sentence 39 = .ok (.invokevirtual 285, 3) := by decide +kernel
theorem dX8_sentence_42 : decode cX8_sentence 42 = .ok (.ifCond .eq 7, 3) := by decide +kernel
theorem dX8_sentence_45 : decode cX8_sentence 45 = .ok (.iconst 1, 1) := by decide +kernel
theorem dX8_sentence_46 : decode cX8_sentence 46 = .ok (.goto 4, 3) := by decide +kernel
theorem dX8_sentence_49 : decode cX8_sentence 49 = .ok (.iconst 0, 1) := by decide +kernel
theorem dX8_sentence_50 : decode cX8_sentence 50 = .ok (.ireturn, 1) := by decide +kernel
theorem dX8_does_0 : decode cX8_does 0 = .ok (.aload_n 0, 1) := by decide +kernel
theorem dX8_does_1 : decode cX8_does 1 = .ok (.getfield 70, 3) := by decide +kernel
theorem dX8_does_4 : decode cX8_does 4 = .ok (.iconst 3, 1) := by decide +kernel
theorem dX8_does_5 : decode cX8_does 5 = .ok (.iload_n 1, 1) := by decide +kernel
theorem dX8_does_6 : decode cX8_does 6 = .ok (.imul, 1) := by decide +kernel
theorem dX8_does_7 : decode cX8_does 7 = .ok (.iaload, 1) := by decide +kernel
theorem dX8_does_8 : decode cX8_does 8 = .ok (.istore_n 2, 1) := by decide +kernel
theorem dX8_does_9 : decode cX8_does 9 = .ok (.aload_n 0, 1) := by decide +kernel
theorem dX8_does_10 : decode cX8_does 10 = .ok (.getfield 70, 3) := by decide +kernel
theorem dX8_does_13 : decode cX8_does 13 = .ok (.iconst 3, 1) := by decide +kernel
theorem dX8_does_14 : decode cX8_does 14 = .ok (.iload_n 1, 1) := by decide +kernel
theorem dX8_does_15 : decode cX8_does 15 = .ok (.imul, 1) := by decide +kernel
theorem dX8_does_16 : decode cX8_does 16 = .ok (.iconst 1, 1) := by decide +kernel
theorem dX8_does_17 : decode cX8_does 17 = .ok (.iadd, 1) := by decide +kernel
theorem dX8_does_18 : decode cX8_does 18 = .ok (.iaload, 1) := by decide +kernel
theorem dX8_does_19 : decode cX8_does 19 = .ok (.istore_n 3, 1) := by decide +kernel
theorem dX8_does_20 : decode cX8_does 20 = .ok (.aload_n 0, 1) := by decide +kernel
theorem dX8_does_21 : decode cX8_does 21 = .ok (.getfield 70, 3) := by decide +kernel
theorem dX8_does_24 : decode cX8_does 24 = .ok (.iconst 3, 1) := by decide +kernel
theorem dX8_does_25 : decode cX8_does 25 = .ok (.iload_n 1, 1) := by decide +kernel
theorem dX8_does_26 : decode cX8_does 26 = .ok (.imul, 1) := by decide +kernel
theorem dX8_does_27 : decode cX8_does 27 = .ok (.iconst 2, 1) := by decide +kernel
theorem dX8_does_28 : decode cX8_does 28 = .ok (.iadd, 1) := by decide +kernel
theorem dX8_does_29 : decode cX8_does 29 = .ok (.iaload, 1) := by decide +kernel
theorem dX8_does_30 : decode cX8_does 30 = .ok (.istore 4, 2) := by decide +kernel
theorem dX8_does_32 : decode cX8_does 32 = .ok (.iload_n 3, 1) := by decide +kernel
theorem dX8_does_33 : decode cX8_does 33 = .ok (.iconst 4, 1) := by decide +kernel
theorem dX8_does_34 : decode cX8_does 34 = .ok (.if_icmp .ne 56, 3) := by decide +kernel
theorem dX8_does_37 : decode cX8_does 37 = .ok (.aload_n 0, 1) := by decide +kernel
theorem dX8_does_38 : decode cX8_does 38 = .ok (.iload_n 2, 1) := by decide +kernel
theorem dX8_does_39 : decode cX8_does 39 = .ok (.invokevirtual 126, 3) := by decide +kernel
theorem dX8_does_42 : decode cX8_does 42 = .ok (.ifCond .eq 25, 3) := by decide +kernel
theorem dX8_does_45 : decode cX8_does 45 = .ok (.aload_n 0, 1) := by decide +kernel
theorem dX8_does_46 : decode cX8_does 46 = .ok (.iload 4, 2) := by decide +kernel
theorem dX8_does_48 : decode cX8_does 48 = .ok (.invokevirtual 126, 3) := by decide +kernel
theorem dX8_does_51 : decode cX8_does 51 = .ok (.ifCond .eq 16, 3) := by decide +kernel
theorem dX8_does_54 : decode cX8_does 54 = .ok (.aload_n 0, 1) := by decide +kernel
theorem dX8_does_55 : decode cX8_does 55 = .ok (.getfield 24, 3) := by decide +kernel
theorem dX8_does_58 : decode cX8_does 58 = .ok (.iload_n 2, 1) := by decide +kernel
theorem dX8_does_59 : decode cX8_does 59 = .ok (.aload_n 0, 1) := by decide +kernel
theorem dX8_does_60 : decode cX8_does 60 = .ok (.getfield 24, 3) := by decide +kernel
theorem dX8_does_63 : decode cX8_does 63 = .ok (.iload 4, 2) := by decide +kernel
theorem dX8_does_65 : decode cX8_does 65 = .ok (.iaload, 1) := by decide +kernel
theorem dX8_does_66 : decode cX8_does 66 = .ok (.iastore, 1) := by decide +kernel
theorem dX8_does_67 : decode cX8_does 67 = .ok (.aload_n 0, 1) := by decide +kernel
theorem dX8_does_68 : decode cX8_does 68 = .ok (.iload_n 2, 1) := by decide +kernel
theorem dX8_does_69 : decode cX8_does 69 = .ok (.invokevirtual 126, 3) := by decide +kernel
theorem dX8_does_72 : decode cX8_does 72 = .ok (.ifCond .eq 16, 3) := by decide +kernel
theorem dX8_does_75 : decode cX8_does 75 = .ok (.aload_n 0, 1) := by decide +kernel
theorem dX8_does_76 : decode cX8_does 76 = .ok (.iload 4, 2) := by decide +kernel
theorem dX8_does_78 : decode cX8_does 78 = .ok (.invokevirtual 126, 3) := by decide +kernel
theorem dX8_does_81 : decode cX8_does 81 = .ok (.ifCond .eq 7, 3) := by decide +kernel
theorem dX8_does_84 : decode cX8_does 84 = .ok (.iconst 1, 1) := by decide +kernel
theorem dX8_does_85 : decode cX8_does 85 = .ok (.goto 4, 3) := by decide +kernel
theorem dX8_does_88 : decode cX8_does 88 = .ok (.iconst 0, 1) := by decide +kernel
theorem dX8_does_89 : decode cX8_does 89 = .ok (.ireturn, 1) := by decide +kernel
theorem dX8_does_90 : decode cX8_does 90 = .ok (.iload_n 3, 1) := by decide +kernel
theorem dX8_does_91 : decode cX8_does 91 = .ok (.iconst 1, 1) := by decide +kernel
theorem dX8_does_92 : decode cX8_does 92 = .ok (.if_icmp .ne 13, 3) := by decide +kernel
theorem dX8_does_95 : decode cX8_does 95 = .ok (.aload_n 0, 1) := by decide +kernel
theorem dX8_does_96 : decode cX8_does 96 = .ok (.iload 4, 2) := by decide +kernel
theorem dX8_does_98 : decode cX8_does 98 = .ok (.iload_n 2, 1) := by decide +kernel
theorem dX8_does_99 : decode cX8_does 99 = .ok (.invokevirtual 294, 3) := by decide +kernel
theorem dX8_does_102 : decode cX8_does 102 = .ok (.goto 10, 3) := by decide +kernel
theorem dX8_does_105 : decode cX8_does 105 = .ok (.aload_n 0, 1) := by decide +kernel
theorem dX8_does_106 : decode cX8_does 106 = .ok (.iload_n 2, 1) := by decide +kernel
theorem dX8_does_107 : decode cX8_does 107 = .ok (.iload 4, 2) := by decide +kernel
theorem dX8_does_109 : decode cX8_does 109 = .ok (.invokevirtual 294, 3) := by decide +kernel
theorem dX8_does_112 : decode cX8_does 112 = .ok (.ifCond .lt 7, 3) := by decide +kernel
theorem dX8_does_115 : decode cX8_does 115 = .ok (.iconst 1, 1) := by decide +kernel
theorem dX8_does_116 : decode cX8_does 116 = .ok (.goto 4, 3) := by decide +kernel
theorem dX8_does_119 : decode cX8_does 119 = .ok (.iconst 0, 1) := by decide +kernel
theorem dX8_does_120 : decode cX8_does 120 = .ok (.istore 5, 2) := by decide +kernel
theorem dX8_does_122 : decode cX8_does 122 = .ok (.iload 5, 2) := by decide +kernel
theorem dX8_does_124 : decode cX8_does 124 = .ok (.ifCond .eq 17, 3) := by decide +kernel
theorem dX8_does_127 : decode cX8_does 127 = .ok (.iload_n 3, 1) := by decide +kernel
theorem dX8_does_128 : decode cX8_does 128 = .ok (.iconst 1, 1) := by decide +kernel
theorem dX8_does_129 : decode cX8_does 129 = .ok (.if_icmp .le 12, 3) := by decide +kernel
theorem dX8_does_132 : decode cX8_does 132 = .ok (.aload_n 0, 1) := by decide +kernel
theorem dX8_does_133 : decode cX8_does 133 = .ok (.getfield 11, 3) := by decide +kernel
theorem dX8_does_136 : decode cX8_does 136 = .ok (.iload_n 2, 1) := by decide +kernel
theorem dX8_does_137 : decode cX8_does 137 = .ok (.iload_n 3, 1) := by decide +kernel
theorem dX8_does_138 : decode cX8_does 138 = .ok (.iconst 1, 1) := by decide +kernel
theorem dX8_does_139 : decode cX8_does 139 = .ok (.isub, 1) := by decide +kernel
theorem dX8_does_140 : decode cX8_does 140 = .ok (.iastore, 1) := by decide +kernel
theorem dX8_does_141 : decode cX8_does 141 = .ok (.iload 5, 2) := by decide +kernel
theorem dX8_does_143 : decode cX8_does 143 = .ok (.ireturn, 1) := by decide +kernel
theorem dX8_read_0 : decode cX8_read 0 = .ok (.aload_n 0, 1) := by decide +kernel
theorem dX8_read_1 : decode cX8_read 1 = .ok (.getfield 270, 3) := by decide +kernel
theorem dX8_read_4 : decode cX8_read 4 = .ok (.istore_n 1, 1) := by decide +kernel
theorem dX8_read_5 : decode cX8_read 5 = .ok (.aload_n 0, 1) := by decide +kernel
theorem dX8_read_6 : decode cX8_read 6 = .ok (.iconst 0, 1) := by decide +kernel
theorem dX8_read_7 : decode cX8_read 7 = .ok (.putfield 270, 3) := by decide +kernel
theorem dX8_read_10 : decode cX8_read 10 = .ok (.aload_n 0, 1) := by decide +kernel
theorem dX8_read_11 : decode cX8_read 11 = .ok (.iconst 0, 1) := by decide +kernel
theorem dX8_read_12 : decode cX8_read 12 = .ok (.putfield 273, 3) := by decide +kernel
theorem dX8_read_15 : decode cX8_read 15 = .ok (.iconst 1, 1) := by decide +kernel
theorem dX8_read_16 : decode cX8_read 16 = .ok (.istore_n 2, 1) := by decide +kernel
theorem dX8_read_17 : decode cX8_read 17 = .ok (.aload_n 0, 1) := by decide +kernel
theorem dX8_read_18 : decode cX8_read 18 = .ok (.iconst 0, 1) := by decide +kernel
theorem dX8_read_19 : decode cX8_read 19 = .ok (.iload_n 1, 1) := by decide +kernel
theorem dX8_read_20 : decode cX8_read 20 = .ok (.invokevirtual 297, 3) := by decide +kernel
theorem dX8_read_23 : decode cX8_read 23 = .ok (.istore_n 3, 1) := by decide +kernel
theorem dX8_read_24 : decode cX8_read 24 = .ok (.iload_n 3, 1) := by decide +kernel
theorem dX8_read_25 : decode cX8_read 25 = .ok (.ifCond .eq 42, 3) := by decide +kernel
theorem dX8_read_28 : decode cX8_read 28 = .ok (.iload_n 2, 1) := by decide +kernel
theorem dX8_read_29 : decode cX8_read 29 = .ok (.bipush 8, 2) := by decide +kernel
theorem dX8_read_31 : decode cX8_read 31 = .ok (.if_icmp .ge 36, 3) := by decide +kernel
theorem dX8_read_34 : decode cX8_read 34 = .ok (.aload_n 0, 1) := by decide +kernel
theorem dX8_read_35 : decode cX8_read 35 = .ok (.iload_n 1, 1) := by decide +kernel
theorem dX8_read_36 : decode cX8_read 36 = .ok (.invokevirtual 276, 3) := by decide +kernel
theorem dX8_read_39 : decode cX8_read 39 = .ok (.bipush 59, 2) := by decide +kernel
theorem dX8_read_41 : decode cX8_read 41 = .ok (.if_icmp .ne 26, 3) := by decide +kernel
theorem dX8_read_44 : decode cX8_read 44 = .ok (.aload_n 0, 1) := by decide +kernel
theorem dX8_read_45 : decode cX8_read 45 = .ok (.dup, 1) := by decide +kernel
theorem dX8_read_46 : decode cX8_read 46 = .ok (.getfield 273, 3) := by decide +kernel
theorem dX8_read_49 : decode cX8_read 49 = .ok (.iconst 1, 1) := by decide +kernel
theorem dX8_read_50 : decode cX8_read 50 = .ok (.iadd, 1) := by decide +kernel
theorem dX8_read_51 : decode cX8_read 51 = .ok (.putfield 273, 3) := by decide +kernel
theorem dX8_read_54 : decode cX8_read 54 = .ok (.aload_n 0, 1) := by decide +kernel
theorem dX8_read_55 : decode cX8_read 55 = .ok (.iload_n 2, 1) := by decide +kernel
theorem dX8_read_56 : decode cX8_read 56 = .ok (.iload_n 1, 1) := by decide +kernel
theorem dX8_read_57 : decode cX8_read 57 = .ok (.invokevirtual 297, 3) := by decide +kernel
theorem dX8_read_60 : decode cX8_read 60 = .ok (.istore_n 3, 1) := by decide +kernel
theorem dX8_read_61 : decode cX8_read 61 = .ok (.iinc 2 1, 3) := by decide +kernel
theorem dX8_read_64 : decode cX8_read 64 = .ok (.goto (-40), 3) := by decide +kernel
theorem dX8_read_67 : decode cX8_read 67 = .ok (.iload_n 3, 1) := by decide +kernel
theorem dX8_read_68 : decode cX8_read 68 = .ok (.ifCond .ne 8, 3) := by decide +kernel
theorem dX8_read_71 : decode cX8_read 71 = .ok (.aload_n 0, 1) := by decide +kernel
theorem dX8_read_72 : decode cX8_read 72 = .ok (.getfield 279, 3) := by decide +kernel
theorem dX8_read_75 : decode cX8_read 75 = .ok (.ireturn, 1) := by decide +kernel
theorem dX8_read_76 : decode cX8_read 76 = .ok (.aload_n 0, 1) := by decide +kernel
theorem dX8_read_77 : decode cX8_read 77 = .ok (.getfield 273, 3) := by decide +kernel
theorem dX8_read_80 : decode cX8_read 80 = .ok (.iload_n 1, 1) := by decide +kernel
theorem dX8_read_81 : decode cX8_read 81 = .ok (.if_icmp .ge 11, 3) := by decide +kernel
theorem dX8_read_84 : decode cX8_read 84 = .ok (.bipush (-100), 2) := by decide +kernel
theorem dX8_read_86 : decode cX8_read 86 = .ok (.aload_n 0, 1) := by decide +kernel
theorem dX8_read_87 : decode cX8_read 87 = .ok (.getfield 273, 3) := by decide +kernel
theorem dX8_read_90 : decode cX8_read 90 = .ok (.isub, 1) := by decide +kernel
theorem dX8_read_91 : decode cX8_read 91 = .ok (.ireturn, 1) := by decide +kernel
theorem dX8_read_92 : decode cX8_read 92 = .ok (.iconst 0, 1) := by decide +kernel
theorem dX8_read_93 : decode cX8_read 93 = .ok (.istore 4, 2) := by decide +kernel
theorem dX8_read_95 : decode cX8_read 95 = .ok (.iconst 0, 1) := by decide +kernel
theorem dX8_read_96 : decode cX8_read 96 = .ok (.istore 5, 2) := by decide +kernel
theorem dX8_read_98 : decode cX8_read 98 = .ok (.iload 5, 2) := by decide +kernel
theorem dX8_read_100 : decode cX8_read 100 = .ok (.iload_n 2, 1) := by decide +kernel
theorem dX8_read_101 : decode cX8_read 101 = .ok (.if_icmp .ge 28, 3) := by decide +kernel
theorem dX8_read_104 : decode cX8_read 104 = .ok (.iload 4, 2) := by decide +kernel
theorem dX8_read_106 : decode cX8_read 106 = .ok (.aload_n 0, 1) := by decide +kernel
theorem dX8_read_107 : decode cX8_read 107 = .ok (.iload 5, 2) := by decide +kernel
theorem dX8_read_109 : decode cX8_read 109 = .ok (.invokevirtual 300, 3) := by decide +kernel
theorem dX8_read_112 : decode cX8_read 112 = .ok (.ifCond .eq 7, 3) := by decide +kernel
theorem dX8_read_115 : decode cX8_read 115 = .ok (.iconst 1, 1) := by decide +kernel
theorem dX8_read_116 : decode cX8_read 116 = .ok (.goto 4, 3) := by decide +kernel
theorem dX8_read_119 : decode cX8_read 119 = .ok (.iconst 0, 1) := by decide +kernel
theorem dX8_read_120 : decode cX8_read 120 = .ok (.iadd, 1) := by decide +kernel
theorem dX8_read_121 : decode cX8_read 121 = .ok (.istore 4, 2) := by decide +kernel
theorem dX8_read_123 : decode cX8_read 123 = .ok (.iinc 5 1, 3) := by decide +kernel
theorem dX8_read_126 : decode cX8_read 126 = .ok (.goto (-28), 3) := by decide +kernel
theorem dX8_read_129 : decode cX8_read 129 = .ok (.iload 4, 2) := by decide +kernel
theorem dX8_read_131 : decode cX8_read 131 = .ok (.ireturn, 1) := by decide +kernel
theorem dX8_writes_0 : decode cX8_writes 0 = .ok (.aload_n 0, 1) := by decide +kernel
theorem dX8_writes_1 : decode cX8_writes 1 = .ok (.getfield 76, 3) := by decide +kernel
theorem dX8_writes_4 : decode cX8_writes 4 = .ok (.aload_n 0, 1) := by decide +kernel
theorem dX8_writes_5 : decode cX8_writes 5 = .ok (.getfield 303, 3) := by decide +kernel
theorem dX8_writes_8 : decode cX8_writes 8 = .ok (.iload_n 1, 1) := by decide +kernel
theorem dX8_writes_9 : decode cX8_writes 9 = .ok (.iastore, 1) := by decide +kernel
theorem dX8_writes_10 : decode cX8_writes 10 = .ok (.aload_n 0, 1) := by decide +kernel
theorem dX8_writes_11 : decode cX8_writes 11 = .ok (.dup, 1) := by decide +kernel
theorem dX8_writes_12 : decode cX8_writes 12 = .ok (.getfield 303, 3) := by decide +kernel
theorem dX8_writes_15 : decode cX8_writes 15 = .ok (.iconst 1, 1) := by decide +kernel
theorem dX8_writes_16 : decode cX8_writes 16 = .ok (.iadd, 1) := by decide +kernel
theorem dX8_writes_17 : decode cX8_writes 17 = .ok (.putfield 303, 3) := by decide +kernel
theorem dX8_writes_20 : decode cX8_writes 20 = .ok (.return_, 1) := by decide +kernel
theorem dX8_draws_0 : decode cX8_draws 0 = .ok (.iconst 0, 1) := by decide +kernel
theorem dX8_draws_1 : decode cX8_draws 1 = .ok (.istore_n 1, 1) := by decide +kernel
theorem dX8_draws_2 : decode cX8_draws 2 = .ok (.iload_n 1, 1) := by decide +kernel
theorem dX8_draws_3 : decode cX8_draws 3 = .ok (.aload_n 0, 1) := by decide +kernel
theorem dX8_draws_4 : decode cX8_draws 4 = .ok (.getfield 119, 3) := by decide +kernel
theorem dX8_draws_7 : decode cX8_draws 7 = .ok (.if_icmp .ge 74, 3) := by decide +kernel
theorem dX8_draws_10 : decode cX8_draws 10 = .ok (.aload_n 0, 1) := by decide +kernel
theorem dX8_draws_11 : decode cX8_draws 11 = .ok (.iload_n 1, 1) := by decide +kernel
theorem dX8_draws_12 : decode cX8_draws 12 = .ok (.invokevirtual 193, 3) := by decide +kernel
theorem dX8_draws_15 : decode cX8_draws 15 = .ok (.istore_n 2, 1) := by decide +kernel
theorem dX8_draws_16 : decode cX8_draws 16 = .ok (.iconst 0, 1) := by decide +kernel
theorem dX8_draws_17 : decode cX8_draws 17 = .ok (.istore_n 3, 1) := by decide +kernel
theorem dX8_draws_18 : decode cX8_draws 18 = .ok (.iload_n 3, 1) := by decide +kernel
theorem dX8_draws_19 : decode cX8_draws 19 = .ok (.aload_n 0, 1) := by decide +kernel
theorem dX8_draws_20 : decode cX8_draws 20 = .ok (.getfield 119, 3) := by decide +kernel
theorem dX8_draws_23 : decode cX8_draws 23 = .ok (.if_icmp .ge 52, 3) := by decide +kernel
theorem dX8_draws_26 : decode cX8_draws 26 = .ok (.iload_n 2, 1) := by decide +kernel
theorem dX8_draws_27 : decode cX8_draws 27 = .ok (.iload_n 3, 1) := by decide +kernel
theorem dX8_draws_28 : decode cX8_draws 28 = .ok (.invokestatic 130, 3) := by decide +kernel
theorem dX8_draws_31 : decode cX8_draws 31 = .ok (.ifCond .eq 38, 3) := by decide +kernel
theorem dX8_draws_34 : decode cX8_draws 34 = .ok (.aload_n 0, 1) := by decide +kernel
theorem dX8_draws_35 : decode cX8_draws 35 = .ok (.getfield 303, 3) := by decide +kernel
theorem dX8_draws_38 : decode cX8_draws 38 = .ok (.ifCond .le 9, 3) := by decide +kernel
theorem dX8_draws_41 : decode cX8_draws 41 = .ok (.aload_n 0, 1) := by decide +kernel
theorem dX8_draws_42 : decode cX8_draws 42 = .ok (.bipush 59, 2) := by decide +kernel
theorem dX8_draws_44 : decode cX8_draws 44 = .ok (.invokevirtual 306, 3) := by decide +kernel
theorem dX8_draws_47 : decode cX8_draws 47 = .ok (.aload_n 0, 1) := by decide +kernel
theorem dX8_draws_48 : decode cX8_draws 48 = .ok (.bipush 97, 2) := by decide +kernel
theorem dX8_draws_50 : decode cX8_draws 50 = .ok (.iload_n 1, 1) := by decide +kernel
theorem dX8_draws_51 : decode cX8_draws 51 = .ok (.iadd, 1) := by decide +kernel
theorem dX8_draws_52 : decode cX8_draws 52 = .ok (.invokevirtual 306, 3) := by decide +kernel
theorem dX8_draws_55 : decode cX8_draws 55 = .ok (.aload_n 0, 1) := by decide +kernel
theorem dX8_draws_56 : decode cX8_draws 56 = .ok (.bipush 62, 2) := by decide +kernel
theorem dX8_draws_58 : decode cX8_draws 58 = .ok (.invokevirtual 306, 3) := by decide +kernel
theorem dX8_draws_61 : decode cX8_draws 61 = .ok (.aload_n 0, 1) := by decide +kernel
theorem dX8_draws_62 : decode cX8_draws 62 = .ok (.bipush 97, 2) := by decide +kernel
theorem dX8_draws_64 : decode cX8_draws 64 = .ok (.iload_n 3, 1) := by decide +kernel
theorem dX8_draws_65 : decode cX8_draws 65 = .ok (.iadd, 1) := by decide +kernel
theorem dX8_draws_66 : decode cX8_draws 66 = .ok (.invokevirtual 306, 3) := by decide +kernel
theorem dX8_draws_69 : decode cX8_draws 69 = .ok (.iinc 3 1, 3) := by decide +kernel
theorem dX8_draws_72 : decode cX8_draws 72 = .ok (.goto (-54), 3) := by decide +kernel
theorem dX8_draws_75 : decode cX8_draws 75 = .ok (.iinc 1 1, 3) := by decide +kernel
theorem dX8_draws_78 : decode cX8_draws 78 = .ok (.goto (-76), 3) := by decide +kernel
theorem dX8_draws_81 : decode cX8_draws 81 = .ok (.return_, 1) := by decide +kernel
theorem dX8_drawsLevels_0 : decode cX8_drawsLevels 0 = .ok (.aload_n 0, 1) := by decide +kernel
theorem dX8_drawsLevels_1 : decode cX8_drawsLevels 1 = .ok (.invokevirtual 183, 3) := by decide +kernel
theorem dX8_drawsLevels_4 : decode cX8_drawsLevels 4 = .ok (.istore_n 1, 1) := by decide +kernel
theorem dX8_drawsLevels_5 : decode cX8_drawsLevels 5 = .ok (.iload_n 1, 1) := by decide +kernel
theorem dX8_drawsLevels_6 : decode cX8_drawsLevels 6 = .ok (.iconst 1, 1) := by decide +kernel
theorem dX8_drawsLevels_7 : decode cX8_drawsLevels 7 = .ok (.isub, 1) := by decide +kernel
theorem dX8_drawsLevels_8 : decode cX8_drawsLevels 8 = .ok (.istore_n 2, 1) := by decide +kernel
theorem dX8_drawsLevels_9 : decode cX8_drawsLevels 9 = .ok (.iload_n 2, 1) := by decide +kernel
theorem dX8_drawsLevels_10 : decode cX8_drawsLevels 10 = .ok (.ifCond .lt 53, 3) := by decide +kernel
theorem dX8_drawsLevels_13 : decode cX8_drawsLevels 13 = .ok (.iconst 0, 1) := by decide +kernel
theorem dX8_drawsLevels_14 : decode cX8_drawsLevels 14 = .ok (.istore_n 3, 1) := by decide +kernel
theorem dX8_drawsLevels_15 : decode cX8_drawsLevels 15 = .ok (.iload_n 3, 1) := by decide +kernel
theorem dX8_drawsLevels_16 : decode cX8_drawsLevels 16 = .ok (.aload_n 0, 1) := by decide +kernel
theorem dX8_drawsLevels_17 : decode cX8_drawsLevels 17 = .ok (.getfield 119, 3) := by decide +kernel
theorem dX8_drawsLevels_20 : decode cX8_drawsLevels 20 = .ok (.if_icmp .ge 27, 3) := by decide +kernel
theorem dX8_drawsLevels_23 : decode cX8_drawsLevels 23 = .ok (.aload_n 0, 1) := by decide +kernel
theorem dX8_drawsLevels_24 : decode cX8_drawsLevels 24 = .ok (.getfield 48, 3) := by decide +kernel
theorem dX8_drawsLevels_27 : decode cX8_drawsLevels 27 = .ok (.iload_n 3, 1) := by decide +kernel
theorem dX8_drawsLevels_28 : decode cX8_drawsLevels 28 = .ok (.iaload, 1) := by decide +kernel
theorem dX8_drawsLevels_29 : decode cX8_drawsLevels 29 = .ok (.iload_n 2, 1) := by decide +kernel
theorem dX8_drawsLevels_30 : decode cX8_drawsLevels 30 = .ok (.if_icmp .ne 11, 3) := by decide +kernel
theorem dX8_drawsLevels_33 : decode cX8_drawsLevels 33 = .ok (.aload_n 0, 1) := by decide +kernel
theorem dX8_drawsLevels_34 : decode cX8_drawsLevels 34 = .ok (.bipush 97, 2) := by decide +kernel
theorem dX8_drawsLevels_36 : decode cX8_drawsLevels 36 = .ok (.iload_n 3, 1) := by decide +kernel
theorem dX8_drawsLevels_37 : decode cX8_drawsLevels 37 = .ok (.iadd, 1) := by decide +kernel
theorem dX8_drawsLevels_38 : decode cX8_drawsLevels 38 = .ok (.invokevirtual 306, 3) := by decide +kernel
theorem dX8_drawsLevels_41 : decode cX8_drawsLevels 41 = .ok (.iinc 3 1, 3) := by decide +kernel
theorem dX8_drawsLevels_44 : decode cX8_drawsLevels 44 = .ok (.goto (-29), 3) := by decide +kernel
theorem dX8_drawsLevels_47 : decode cX8_drawsLevels 47 = .ok (.iload_n 2, 1) := by decide +kernel
theorem dX8_drawsLevels_48 : decode cX8_drawsLevels 48 = .ok (.ifCond .le 9, 3) := by decide +kernel
theorem dX8_drawsLevels_51 : decode cX8_drawsLevels 51 = .ok (.aload_n 0, 1) := by decide +kernel
theorem dX8_drawsLevels_52 : decode cX8_drawsLevels 52 = .ok (.bipush 124, 2) := by decide +kernel
theorem dX8_drawsLevels_54 : decode cX8_drawsLevels 54 = .ok (.invokevirtual 306, 3) := by decide +kernel
theorem dX8_drawsLevels_57 : decode cX8_drawsLevels 57 = .ok (.iinc 2 (-1), 3) := by decide +kernel
theorem dX8_drawsLevels_60 : decode cX8_drawsLevels 60 = .ok (.goto (-51), 3) := by decide +kernel
theorem dX8_drawsLevels_63 : decode cX8_drawsLevels 63 = .ok (.return_, 1) := by decide +kernel
theorem dX8_drawsCycle_0 : decode cX8_drawsCycle 0 = .ok (.aload_n 0, 1) := by decide +kernel
theorem dX8_drawsCycle_1 : decode cX8_drawsCycle 1 = .ok (.invokevirtual 199, 3) := by decide +kernel
theorem dX8_drawsCycle_4 : decode cX8_drawsCycle 4 = .ok (.istore_n 1, 1) := by decide +kernel
theorem dX8_drawsCycle_5 : decode cX8_drawsCycle 5 = .ok (.iconst 0, 1) := by decide +kernel
theorem dX8_drawsCycle_6 : decode cX8_drawsCycle 6 = .ok (.istore_n 2, 1) := by decide +kernel
theorem dX8_drawsCycle_7 : decode cX8_drawsCycle 7 = .ok (.iload_n 2, 1) := by decide +kernel
theorem dX8_drawsCycle_8 : decode cX8_drawsCycle 8 = .ok (.iload_n 1, 1) := by decide +kernel
theorem dX8_drawsCycle_9 : decode cX8_drawsCycle 9 = .ok (.if_icmp .ge 28, 3) := by decide +kernel
theorem dX8_drawsCycle_12 : decode cX8_drawsCycle 12 = .ok (.aload_n 0, 1) := by decide +kernel
theorem dX8_drawsCycle_13 : decode cX8_drawsCycle 13 = .ok (.bipush 97, 2) := by decide +kernel
theorem dX8_drawsCycle_15 : decode cX8_drawsCycle 15 = .ok (.aload_n 0, 1) := by decide +kernel
theorem dX8_drawsCycle_16 : decode cX8_drawsCycle 16 = .ok (.getfield 51, 3) := by decide +kernel
theorem dX8_drawsCycle_19 : decode cX8_drawsCycle 19 = .ok (.iload_n 2, 1) := by decide +kernel
theorem dX8_drawsCycle_20 : decode cX8_drawsCycle 20 = .ok (.iaload, 1) := by decide +kernel
theorem dX8_drawsCycle_21 : decode cX8_drawsCycle 21 = .ok (.iadd, 1) := by decide +kernel
theorem dX8_drawsCycle_22 : decode cX8_drawsCycle 22 = .ok (.invokevirtual 306, 3) := by decide +kernel
theorem dX8_drawsCycle_25 : decode cX8_drawsCycle 25 = .ok (.aload_n 0, 1) := by decide +kernel
theorem dX8_drawsCycle_26 : decode cX8_drawsCycle 26 = .ok (.bipush 62, 2) := by decide +kernel
theorem dX8_drawsCycle_28 : decode cX8_drawsCycle 28 = .ok (.invokevirtual 306, 3) := by decide +kernel
theorem dX8_drawsCycle_31 : decode cX8_drawsCycle 31 = .ok (.iinc 2 1, 3) := by decide +kernel
theorem dX8_drawsCycle_34 : decode cX8_drawsCycle 34 = .ok (.goto (-27), 3) := by decide +kernel
theorem dX8_drawsCycle_37 : decode cX8_drawsCycle 37 = .ok (.aload_n 0, 1) := by decide +kernel
theorem dX8_drawsCycle_38 : decode cX8_drawsCycle 38 = .ok (.bipush 97, 2) := by decide +kernel
theorem dX8_drawsCycle_40 : decode cX8_drawsCycle 40 = .ok (.aload_n 0, 1) := by decide +kernel
theorem dX8_drawsCycle_41 : decode cX8_drawsCycle 41 = .ok (.getfield 51, 3) := by decide +kernel
theorem dX8_drawsCycle_44 : decode cX8_drawsCycle 44 = .ok (.iconst 0, 1) := by decide +kernel
theorem dX8_drawsCycle_45 : decode cX8_drawsCycle 45 = .ok (.iaload, 1) := by decide +kernel
theorem dX8_drawsCycle_46 : decode cX8_drawsCycle 46 = .ok (.iadd, 1) := by decide +kernel
theorem dX8_drawsCycle_47 : decode cX8_drawsCycle 47 = .ok (.invokevirtual 306, 3) := by decide +kernel
theorem dX8_drawsCycle_50 : decode cX8_drawsCycle 50 = .ok (.return_, 1) := by decide +kernel
theorem dX8_draw_0 : decode cX8_draw 0 = .ok (.iload_n 1, 1) := by decide +kernel
theorem dX8_draw_1 : decode cX8_draw 1 = .ok (.iconst 0, 1) := by decide +kernel
theorem dX8_draw_2 : decode cX8_draw 2 = .ok (.iconst 1, 1) := by decide +kernel
theorem dX8_draw_3 : decode cX8_draw 3 = .ok (.invokestatic 122, 3) := by decide +kernel
theorem dX8_draw_6 : decode cX8_draw 6 = .ok (.ifCond .ne 5, 3) := by decide +kernel
theorem dX8_draw_9 : decode cX8_draw 9 = .ok (.iconst (-1), 1) := by decide +kernel
theorem dX8_draw_10 : decode cX8_draw 10 = .ok (.ireturn, 1) := by decide +kernel
theorem dX8_draw_11 : decode cX8_draw 11 = .ok (.aload_n 0, 1) := by decide +kernel
theorem dX8_draw_12 : decode cX8_draw 12 = .ok (.invokevirtual 178, 3) := by decide +kernel
theorem dX8_draw_15 : decode cX8_draw 15 = .ok (.aload_n 0, 1) := by decide +kernel
theorem dX8_draw_16 : decode cX8_draw 16 = .ok (.iconst 0, 1) := by decide +kernel
theorem dX8_draw_17 : decode cX8_draw 17 = .ok (.putfield 303, 3) := by decide +kernel
theorem dX8_draw_20 : decode cX8_draw 20 = .ok (.iload_n 1, 1) := by decide +kernel
theorem dX8_draw_21 : decode cX8_draw 21 = .ok (.ifCond .ne 10, 3) := by decide +kernel
theorem dX8_draw_24 : decode cX8_draw 24 = .ok (.aload_n 0, 1) := by decide +kernel
theorem dX8_draw_25 : decode cX8_draw 25 = .ok (.invokevirtual 309, 3) := by decide +kernel
theorem dX8_draw_28 : decode cX8_draw 28 = .ok (.goto 21, 3) := by decide +kernel
theorem dX8_draw_31 : decode cX8_draw 31 = .ok (.aload_n 0, 1) := by decide +kernel
theorem dX8_draw_32 : decode cX8_draw 32 = .ok (.invokevirtual 171, 3) := by decide +kernel
theorem dX8_draw_35 : decode cX8_draw 35 = .ok (.ifCond .eq 10, 3) := by decide +kernel
theorem dX8_draw_38 : decode cX8_draw 38 = .ok (.aload_n 0, 1) := by decide +kernel
theorem dX8_draw_39 : decode cX8_draw 39 = .ok (.invokevirtual 312, 3) := by decide +kernel
theorem dX8_draw_42 : decode cX8_draw 42 = .ok (.goto 7, 3) := by decide +kernel
theorem dX8_draw_45 : decode cX8_draw 45 = .ok (.aload_n 0, 1) := by decide +kernel
theorem dX8_draw_46 : decode cX8_draw 46 = .ok (.invokevirtual 315, 3) := by decide +kernel
theorem dX8_draw_49 : decode cX8_draw 49 = .ok (.aload_n 0, 1) := by decide +kernel
theorem dX8_draw_50 : decode cX8_draw 50 = .ok (.getfield 303, 3) := by decide +kernel
theorem dX8_draw_53 : decode cX8_draw 53 = .ok (.ireturn, 1) := by decide +kernel
theorem dX8_paper_0 : decode cX8_paper 0 = .ok (.iload_n 1, 1) := by decide +kernel
theorem dX8_paper_1 : decode cX8_paper 1 = .ok (.ifCond .ge 5, 3) := by decide +kernel
theorem dX8_paper_4 : decode cX8_paper 4 = .ok (.iconst (-1), 1) := by decide +kernel
theorem dX8_paper_5 : decode cX8_paper 5 = .ok (.ireturn, 1) := by decide +kernel
theorem dX8_paper_6 : decode cX8_paper 6 = .ok (.iload_n 1, 1) := by decide +kernel
theorem dX8_paper_7 : decode cX8_paper 7 = .ok (.aload_n 0, 1) := by decide +kernel
theorem dX8_paper_8 : decode cX8_paper 8 = .ok (.getfield 303, 3) := by decide +kernel
theorem dX8_paper_11 : decode cX8_paper 11 = .ok (.if_icmp .ge 12, 3) := by decide +kernel
theorem dX8_paper_14 : decode cX8_paper 14 = .ok (.aload_n 0, 1) := by decide +kernel
theorem dX8_paper_15 : decode cX8_paper 15 = .ok (.getfield 76, 3) := by decide +kernel
theorem dX8_paper_18 : decode cX8_paper 18 = .ok (.iload_n 1, 1) := by decide +kernel
theorem dX8_paper_19 : decode cX8_paper 19 = .ok (.iaload, 1) := by decide +kernel
theorem dX8_paper_20 : decode cX8_paper 20 = .ok (.goto 5, 3) := by decide +kernel
theorem dX8_paper_23 : decode cX8_paper 23 = .ok (.bipush (-5), 2) := by decide +kernel
theorem dX8_paper_25 : decode cX8_paper 25 = .ok (.ireturn, 1) := by decide +kernel
theorem dX8_see_0 : decode cX8_see 0 = .ok (.iload_n 1, 1) := by decide +kernel
theorem dX8_see_1 : decode cX8_see 1 = .ok (.iconst (-1), 1) := by decide +kernel
theorem dX8_see_2 : decode cX8_see 2 = .ok (.if_icmp .ne 10, 3) := by decide +kernel
theorem dX8_see_5 : decode cX8_see 5 = .ok (.aload_n 0, 1) := by decide +kernel
theorem dX8_see_6 : decode cX8_see 6 = .ok (.iconst 0, 1) := by decide +kernel
theorem dX8_see_7 : decode cX8_see 7 = .ok (.putfield 318, 3) := by decide +kernel
theorem dX8_see_10 : decode cX8_see 10 = .ok (.iconst 0, 1) := by decide +kernel
theorem dX8_see_11 : decode cX8_see 11 = .ok (.ireturn, 1) := by decide +kernel
theorem dX8_see_12 : decode cX8_see 12 = .ok (.aload_n 0, 1) := by decide +kernel
theorem dX8_see_13 : decode cX8_see 13 = .ok (.iload_n 1, 1) := by decide +kernel
theorem dX8_see_14 : decode cX8_see 14 = .ok (.invokevirtual 126, 3) := by decide +kernel
theorem dX8_see_17 : decode cX8_see 17 = .ok (.ifCond .eq 11, 3) := by decide +kernel
theorem dX8_see_20 : decode cX8_see 20 = .ok (.aload_n 0, 1) := by decide +kernel
theorem dX8_see_21 : decode cX8_see 21 = .ok (.iload_n 2, 1) := by decide +kernel
theorem dX8_see_22 : decode cX8_see 22 = .ok (.invokevirtual 126, 3) := by decide +kernel
theorem dX8_see_25 : decode cX8_see 25 = .ok (.ifCond .ne 5, 3) := by decide +kernel
theorem dX8_see_28 : decode cX8_see 28 = .ok (.iconst (-1), 1) := by decide +kernel
theorem dX8_see_29 : decode cX8_see 29 = .ok (.ireturn, 1) := by decide +kernel
theorem dX8_see_30 : decode cX8_see 30 = .ok (.aload_n 0, 1) := by decide +kernel
theorem dX8_see_31 : decode cX8_see 31 = .ok (.getfield 318, 3) := by decide +kernel
theorem dX8_see_34 : decode cX8_see 34 = .ok (.iconst 5, 1) := by decide +kernel
theorem dX8_see_35 : decode cX8_see 35 = .ok (.if_icmp .ne 6, 3) := by decide +kernel
theorem dX8_see_38 : decode cX8_see 38 = .ok (.bipush (-4), 2) := by decide +kernel
theorem dX8_see_40 : decode cX8_see 40 = .ok (.ireturn, 1) := by decide +kernel
theorem dX8_see_41 : decode cX8_see 41 = .ok (.aload_n 0, 1) := by decide +kernel
theorem dX8_see_42 : decode cX8_see 42 = .ok (.getfield 79, 3) := by decide +kernel
theorem dX8_see_45 : decode cX8_see 45 = .ok (.iconst 3, 1) := by decide +kernel
theorem dX8_see_46 : decode cX8_see 46 = .ok (.aload_n 0, 1) := by decide +kernel
theorem dX8_see_47 : decode cX8_see 47 = .ok (.getfield 318, 3) := by decide +kernel
theorem dX8_see_50 : decode cX8_see 50 = .ok (.imul, 1) := by decide +kernel
theorem dX8_see_51 : decode cX8_see 51 = .ok (.iload_n 1, 1) := by decide +kernel
theorem dX8_see_52 : decode cX8_see 52 = .ok (.iastore, 1) := by decide +kernel
theorem dX8_see_53 : decode cX8_see 53 = .ok (.aload_n 0, 1) := by decide +kernel
theorem dX8_see_54 : decode cX8_see 54 = .ok (.getfield 79, 3) := by decide +kernel
theorem dX8_see_57 : decode cX8_see 57 = .ok (.iconst 3, 1) := by decide +kernel
theorem dX8_see_58 : decode cX8_see 58 = .ok (.aload_n 0, 1) := by decide +kernel
theorem dX8_see_59 : decode cX8_see 59 = .ok (.getfield 318, 3) := by decide +kernel
theorem dX8_see_62 : decode cX8_see 62 = .ok (.imul, 1) := by decide +kernel
theorem dX8_see_63 : decode cX8_see 63 = .ok (.iconst 1, 1) := by decide +kernel
theorem dX8_see_64 : decode cX8_see 64 = .ok (.iadd, 1) := by decide +kernel
theorem dX8_see_65 : decode cX8_see 65 = .ok (.iload_n 2, 1) := by decide +kernel
theorem dX8_see_66 : decode cX8_see 66 = .ok (.iastore, 1) := by decide +kernel
theorem dX8_see_67 : decode cX8_see 67 = .ok (.aload_n 0, 1) := by decide +kernel
theorem dX8_see_68 : decode cX8_see 68 = .ok (.getfield 79, 3) := by decide +kernel
theorem dX8_see_71 : decode cX8_see 71 = .ok (.iconst 3, 1) := by decide +kernel
theorem dX8_see_72 : decode cX8_see 72 = .ok (.aload_n 0, 1) := by decide +kernel
theorem dX8_see_73 : decode cX8_see 73 = .ok (.getfield 318, 3) := by decide +kernel
theorem dX8_see_76 : decode cX8_see 76 = .ok (.imul, 1) := by decide +kernel
theorem dX8_see_77 : decode cX8_see 77 = .ok (.iconst 2, 1) := by decide +kernel
theorem dX8_see_78 : decode cX8_see 78 = .ok (.iadd, 1) := by decide +kernel
theorem dX8_see_79 : decode cX8_see 79 = .ok (.iload_n 3, 1) := by decide +kernel
theorem dX8_see_80 : decode cX8_see 80 = .ok (.ifCond .eq 7, 3) := by decide +kernel
theorem dX8_see_83 : decode cX8_see 83 = .ok (.iconst 1, 1) := by decide +kernel
theorem dX8_see_84 : decode cX8_see 84 = .ok (.goto 4, 3) := by decide +kernel
theorem dX8_see_87 : decode cX8_see 87 = .ok (.iconst 0, 1) := by decide +kernel
theorem dX8_see_88 : decode cX8_see 88 = .ok (.iastore, 1) := by decide +kernel
theorem dX8_see_89 : decode cX8_see 89 = .ok (.aload_n 0, 1) := by decide +kernel
theorem dX8_see_90 : decode cX8_see 90 = .ok (.dup, 1) := by decide +kernel
theorem dX8_see_91 : decode cX8_see 91 = .ok (.getfield 318, 3) := by decide +kernel
theorem dX8_see_94 : decode cX8_see 94 = .ok (.iconst 1, 1) := by decide +kernel
theorem dX8_see_95 : decode cX8_see 95 = .ok (.iadd, 1) := by decide +kernel
theorem dX8_see_96 : decode cX8_see 96 = .ok (.putfield 318, 3) := by decide +kernel
theorem dX8_see_99 : decode cX8_see 99 = .ok (.aload_n 0, 1) := by decide +kernel
theorem dX8_see_100 : decode cX8_see 100 = .ok (.getfield 318, 3) := by decide +kernel
theorem dX8_see_103 : decode cX8_see 103 = .ok (.ireturn, 1) := by decide +kernel
theorem dX8_areSo_0 : decode cX8_areSo 0 = .ok (.iconst 1, 1) := by decide +kernel
theorem dX8_areSo_1 : decode cX8_areSo 1 = .ok (.istore_n 1, 1) := by decide +kernel
theorem dX8_areSo_2 : decode cX8_areSo 2 = .ok (.iconst 0, 1) := by decide +kernel
theorem dX8_areSo_3 : decode cX8_areSo 3 = .ok (.istore_n 2, 1) := by decide +kernel
theorem dX8_areSo_4 : decode cX8_areSo 4 = .ok (.iload_n 2, 1) := by decide +kernel
theorem dX8_areSo_5 : decode cX8_areSo 5 = .ok (.aload_n 0, 1) := by decide +kernel
theorem dX8_areSo_6 : decode cX8_areSo 6 = .ok (.getfield 318, 3) := by decide +kernel
theorem dX8_areSo_9 : decode cX8_areSo 9 = .ok (.if_icmp .ge 58, 3) := by decide +kernel
theorem dX8_areSo_12 : decode cX8_areSo 12 = .ok (.iload_n 1, 1) := by decide +kernel
theorem dX8_areSo_13 : decode cX8_areSo 13 = .ok (.ifCond .eq 54, 3) := by decide +kernel
theorem dX8_areSo_16 : decode cX8_areSo 16 = .ok (.aload_n 0, 1) := by decide +kernel
theorem dX8_areSo_17 : decode cX8_areSo 17 = .ok (.getfield 42, 3) := by decide +kernel
theorem dX8_areSo_20 : decode cX8_areSo 20 = .ok (.aload_n 0, 1) := by decide +kernel
theorem dX8_areSo_21 : decode cX8_areSo 21 = .ok (.getfield 79, 3) := by decide +kernel
theorem dX8_areSo_24 : decode cX8_areSo 24 = .ok (.iconst 3, 1) := by decide +kernel
theorem dX8_areSo_25 : decode cX8_areSo 25 = .ok (.iload_n 2, 1) := by decide +kernel
theorem dX8_areSo_26 : decode cX8_areSo 26 = .ok (.imul, 1) := by decide +kernel
theorem dX8_areSo_27 : decode cX8_areSo 27 = .ok (.iaload, 1) := by decide +kernel
theorem dX8_areSo_28 : decode cX8_areSo 28 = .ok (.iaload, 1) := by decide +kernel
theorem dX8_areSo_29 : decode cX8_areSo 29 = .ok (.aload_n 0, 1) := by decide +kernel
theorem dX8_areSo_30 : decode cX8_areSo 30 = .ok (.getfield 79, 3) := by decide +kernel
theorem dX8_areSo_33 : decode cX8_areSo 33 = .ok (.iconst 3, 1) := by decide +kernel
theorem dX8_areSo_34 : decode cX8_areSo 34 = .ok (.iload_n 2, 1) := by decide +kernel
theorem dX8_areSo_35 : decode cX8_areSo 35 = .ok (.imul, 1) := by decide +kernel
theorem dX8_areSo_36 : decode cX8_areSo 36 = .ok (.iconst 1, 1) := by decide +kernel
theorem dX8_areSo_37 : decode cX8_areSo 37 = .ok (.iadd, 1) := by decide +kernel
theorem dX8_areSo_38 : decode cX8_areSo 38 = .ok (.iaload, 1) := by decide +kernel
theorem dX8_areSo_39 : decode cX8_areSo 39 = .ok (.ishr, 1) := by decide +kernel
theorem dX8_areSo_40 : decode cX8_areSo 40 = .ok (.iconst 1, 1) := by decide +kernel
theorem dX8_areSo_41 : decode cX8_areSo 41 = .ok (.iand, 1) := by decide +kernel
theorem dX8_areSo_42 : decode cX8_areSo 42 = .ok (.aload_n 0, 1) := by decide +kernel
theorem dX8_areSo_43 : decode cX8_areSo 43 = .ok (.getfield 79, 3) := by decide +kernel
theorem dX8_areSo_46 : decode cX8_areSo 46 = .ok (.iconst 3, 1) := by decide +kernel
theorem dX8_areSo_47 : decode cX8_areSo 47 = .ok (.iload_n 2, 1) := by decide +kernel
theorem dX8_areSo_48 : decode cX8_areSo 48 = .ok (.imul, 1) := by decide +kernel
theorem dX8_areSo_49 : decode cX8_areSo 49 = .ok (.iconst 2, 1) := by decide +kernel
theorem dX8_areSo_50 : decode cX8_areSo 50 = .ok (.iadd, 1) := by decide +kernel
theorem dX8_areSo_51 : decode cX8_areSo 51 = .ok (.iaload, 1) := by decide +kernel
theorem dX8_areSo_52 : decode cX8_areSo 52 = .ok (.if_icmp .ne 7, 3) := by decide +kernel
theorem dX8_areSo_55 : decode cX8_areSo 55 = .ok (.iconst 1, 1) := by decide +kernel
theorem dX8_areSo_56 : decode cX8_areSo 56 = .ok (.goto 4, 3) := by decide +kernel
theorem dX8_areSo_59 : decode cX8_areSo 59 = .ok (.iconst 0, 1) := by decide +kernel
theorem dX8_areSo_60 : decode cX8_areSo 60 = .ok (.istore_n 1, 1) := by decide +kernel
theorem dX8_areSo_61 : decode cX8_areSo 61 = .ok (.iinc 2 1, 3) := by decide +kernel
theorem dX8_areSo_64 : decode cX8_areSo 64 = .ok (.goto (-60), 3) := by decide +kernel
theorem dX8_areSo_67 : decode cX8_areSo 67 = .ok (.iload_n 1, 1) := by decide +kernel
theorem dX8_areSo_68 : decode cX8_areSo 68 = .ok (.ireturn, 1) := by decide +kernel
theorem dX8_fits_0 : decode cX8_fits 0 = .ok (.iload_n 1, 1) := by decide +kernel
theorem dX8_fits_1 : decode cX8_fits 1 = .ok (.iconst 0, 1) := by decide +kernel
theorem dX8_fits_2 : decode cX8_fits 2 = .ok (.iconst 1, 1) := by decide +kernel
theorem dX8_fits_3 : decode cX8_fits 3 = .ok (.invokestatic 122, 3) := by decide +kernel
theorem dX8_fits_6 : decode cX8_fits 6 = .ok (.ifCond .ne 5, 3) := by decide +kernel
theorem dX8_fits_9 : decode cX8_fits 9 = .ok (.iconst (-1), 1) := by decide +kernel
theorem dX8_fits_10 : decode cX8_fits 10 = .ok (.ireturn, 1) := by decide +kernel
theorem dX8_fits_11 : decode cX8_fits 11 = .ok (.iconst 0, 1) := by decide +kernel
theorem dX8_fits_12 : decode cX8_fits 12 = .ok (.istore_n 2, 1) := by decide +kernel
theorem dX8_fits_13 : decode cX8_fits 13 = .ok (.bipush (-5), 2) := by decide +kernel
theorem dX8_fits_15 : decode cX8_fits 15 = .ok (.istore_n 3, 1) := by decide +kernel
theorem dX8_fits_16 : decode cX8_fits 16 = .ok (.aload_n 0, 1) := by decide +kernel
theorem dX8_fits_17 : decode cX8_fits 17 = .ok (.getfield 152, 3) := by decide +kernel
theorem dX8_fits_20 : decode cX8_fits 20 = .ok (.iconst 1, 1) := by decide +kernel
theorem dX8_fits_21 : decode cX8_fits 21 = .ok (.isub, 1) := by decide +kernel
theorem dX8_fits_22 : decode cX8_fits 22 = .ok (.istore 4, 2) := by decide +kernel
theorem dX8_fits_24 : decode cX8_fits 24 = .ok (.iload 4, 2) := by decide +kernel
theorem dX8_fits_26 : decode cX8_fits 26 = .ok (.ifCond .lt 44, 3) := by decide +kernel
theorem dX8_fits_29 : decode cX8_fits 29 = .ok (.aload_n 0, 1) := by decide +kernel
theorem dX8_fits_30 : decode cX8_fits 30 = .ok (.iload 4, 2) := by decide +kernel
theorem dX8_fits_32 : decode cX8_fits 32 = .ok (.invokevirtual 165, 3) := by decide +kernel
theorem dX8_fits_35 : decode cX8_fits 35 = .ok (.aload_n 0, 1) := by decide +kernel
theorem dX8_fits_36 : decode cX8_fits 36 = .ok (.invokevirtual 321, 3) := by decide +kernel
theorem dX8_fits_39 : decode cX8_fits 39 = .ok (.ifCond .eq 25, 3) := by decide +kernel
theorem dX8_fits_42 : decode cX8_fits 42 = .ok (.iinc 2 1, 3) := by decide +kernel
theorem dX8_fits_45 : decode cX8_fits 45 = .ok (.bipush 100, 2) := by decide +kernel
theorem dX8_fits_47 : decode cX8_fits 47 = .ok (.aload_n 0, 1) := by decide +kernel
theorem dX8_fits_48 : decode cX8_fits 48 = .ok (.getfield 27, 3) := by decide +kernel
theorem dX8_fits_51 : decode cX8_fits 51 = .ok (.iload 4, 2) := by decide +kernel
theorem dX8_fits_53 : decode cX8_fits 53 = .ok (.iaload, 1) := by decide +kernel
theorem dX8_fits_54 : decode cX8_fits 54 = .ok (.imul, 1) := by decide +kernel
theorem dX8_fits_55 : decode cX8_fits 55 = .ok (.aload_n 0, 1) := by decide +kernel
theorem dX8_fits_56 : decode cX8_fits 56 = .ok (.getfield 30, 3) := by decide +kernel
theorem dX8_fits_59 : decode cX8_fits 59 = .ok (.iload 4, 2) := by decide +kernel
theorem dX8_fits_61 : decode cX8_fits 61 = .ok (.iaload, 1) := by decide +kernel
theorem dX8_fits_62 : decode cX8_fits 62 = .ok (.iadd, 1) := by decide +kernel
theorem dX8_fits_63 : decode cX8_fits 63 = .ok (.istore_n 3, 1) := by decide +kernel
theorem dX8_fits_64 : decode cX8_fits 64 = .ok (.iinc 4 (-1), 3) := by decide +kernel
theorem dX8_fits_67 : decode cX8_fits 67 = .ok (.goto (-43), 3) := by decide +kernel
theorem dX8_fits_70 : decode cX8_fits 70 = .ok (.iload_n 1, 1) := by decide +kernel
theorem dX8_fits_71 : decode cX8_fits 71 = .ok (.ifCond .ne 7, 3) := by decide +kernel
theorem dX8_fits_74 : decode cX8_fits 74 = .ok (.iload_n 2, 1) := by decide +kernel
theorem dX8_fits_75 : decode cX8_fits 75 = .ok (.goto 4, 3) := by decide +kernel
theorem dX8_fits_78 : decode cX8_fits 78 = .ok (.iload_n 3, 1) := by decide +kernel
theorem dX8_fits_79 : decode cX8_fits 79 = .ok (.ireturn, 1) := by decide +kernel
theorem dX8_event_0 : decode cX8_event 0 = .ok (.iload_n 1, 1) := by decide +kernel
theorem dX8_event_1 : decode cX8_event 1 = .ok (.iconst (-1), 1) := by decide +kernel
theorem dX8_event_2 : decode cX8_event 2 = .ok (.if_icmp .ne 10, 3) := by decide +kernel
theorem dX8_event_5 : decode cX8_event 5 = .ok (.aload_n 0, 1) := by decide +kernel
theorem dX8_event_6 : decode cX8_event 6 = .ok (.iconst 0, 1) := by decide +kernel
theorem dX8_event_7 : decode cX8_event 7 = .ok (.putfield 324, 3) := by decide +kernel
theorem dX8_event_10 : decode cX8_event 10 = .ok (.iconst 0, 1) := by decide +kernel
theorem dX8_event_11 : decode cX8_event 11 = .ok (.ireturn, 1) := by decide +kernel
theorem dX8_event_12 : decode cX8_event 12 = .ok (.iload_n 1, 1) := by decide +kernel
theorem dX8_event_13 : decode cX8_event 13 = .ok (.iconst 0, 1) := by decide +kernel
theorem dX8_event_14 : decode cX8_event 14 = .ok (.iconst 3, 1) := by decide +kernel
theorem dX8_event_15 : decode cX8_event 15 = .ok (.invokestatic 122, 3) := by decide +kernel
theorem dX8_event_18 : decode cX8_event 18 = .ok (.ifCond .eq 11, 3) := by decide +kernel
theorem dX8_event_21 : decode cX8_event 21 = .ok (.aload_n 0, 1) := by decide +kernel
theorem dX8_event_22 : decode cX8_event 22 = .ok (.iload_n 2, 1) := by decide +kernel
theorem dX8_event_23 : decode cX8_event 23 = .ok (.invokevirtual 126, 3) := by decide +kernel
theorem dX8_event_26 : decode cX8_event 26 = .ok (.ifCond .ne 5, 3) := by decide +kernel
theorem dX8_event_29 : decode cX8_event 29 = .ok (.iconst (-1), 1) := by decide +kernel
theorem dX8_event_30 : decode cX8_event 30 = .ok (.ireturn, 1) := by decide +kernel
theorem dX8_event_31 : decode cX8_event 31 = .ok (.aload_n 0, 1) := by decide +kernel
theorem dX8_event_32 : decode cX8_event 32 = .ok (.getfield 324, 3) := by decide +kernel
theorem dX8_event_35 : decode cX8_event 35 = .ok (.bipush 8, 2) := by decide +kernel
theorem dX8_event_37 : decode cX8_event 37 = .ok (.if_icmp .ne 6, 3) := by decide +kernel
theorem dX8_event_40 : decode cX8_event 40 = .ok (.bipush (-4), 2) := by decide +kernel
theorem dX8_event_42 : decode cX8_event 42 = .ok (.ireturn, 1) := by decide +kernel
theorem dX8_event_43 : decode cX8_event 43 = .ok (.aload_n 0, 1) := by decide +kernel
theorem dX8_event_44 : decode cX8_event 44 = .ok (.getfield 82, 3) := by decide +kernel
theorem dX8_event_47 : decode cX8_event 47 = .ok (.iconst 2, 1) := by decide +kernel
theorem dX8_event_48 : decode cX8_event 48 = .ok (.aload_n 0, 1) := by decide +kernel
theorem dX8_event_49 : decode cX8_event 49 = .ok (.getfield 324, 3) := by decide +kernel
theorem dX8_event_52 : decode cX8_event 52 = .ok (.imul, 1) := by decide +kernel
theorem dX8_event_53 : decode cX8_event 53 = .ok (.iload_n 1, 1) := by decide +kernel
theorem dX8_event_54 : decode cX8_event 54 = .ok (.iastore, 1) := by decide +kernel
theorem dX8_event_55 : decode cX8_event 55 = .ok (.aload_n 0, 1) := by decide +kernel
theorem dX8_event_56 : decode cX8_event 56 = .ok (.getfield 82, 3) := by decide +kernel
theorem dX8_event_59 : decode cX8_event 59 = .ok (.iconst 2, 1) := by decide +kernel
theorem dX8_event_60 : decode cX8_event 60 = .ok (.aload_n 0, 1) := by decide +kernel
theorem dX8_event_61 : decode cX8_event 61 = .ok (.getfield 324, 3) := by decide +kernel
theorem dX8_event_64 : decode cX8_event 64 = .ok (.imul, 1) := by decide +kernel
theorem dX8_event_65 : decode cX8_event 65 = .ok (.iconst 1, 1) := by decide +kernel
theorem dX8_event_66 : decode cX8_event 66 = .ok (.iadd, 1) := by decide +kernel
theorem dX8_event_67 : decode cX8_event 67 = .ok (.iload_n 2, 1) := by decide +kernel
theorem dX8_event_68 : decode cX8_event 68 = .ok (.iastore, 1) := by decide +kernel
theorem dX8_event_69 : decode cX8_event 69 = .ok (.aload_n 0, 1) := by decide +kernel
theorem dX8_event_70 : decode cX8_event 70 = .ok (.dup, 1) := by decide +kernel
theorem dX8_event_71 : decode cX8_event 71 = .ok (.getfield 324, 3) := by decide +kernel
theorem dX8_event_74 : decode cX8_event 74 = .ok (.iconst 1, 1) := by decide +kernel
theorem dX8_event_75 : decode cX8_event 75 = .ok (.iadd, 1) := by decide +kernel
theorem dX8_event_76 : decode cX8_event 76 = .ok (.putfield 324, 3) := by decide +kernel
theorem dX8_event_79 : decode cX8_event 79 = .ok (.aload_n 0, 1) := by decide +kernel
theorem dX8_event_80 : decode cX8_event 80 = .ok (.getfield 324, 3) := by decide +kernel
theorem dX8_event_83 : decode cX8_event 83 = .ok (.ireturn, 1) := by decide +kernel
theorem dX8_crossed_0 : decode cX8_crossed 0 = .ok (.aload_n 0, 1) := by decide +kernel
theorem dX8_crossed_1 : decode cX8_crossed 1 = .ok (.invokevirtual 171, 3) := by decide +kernel
theorem dX8_crossed_4 : decode cX8_crossed 4 = .ok (.ifCond .eq 6, 3) := by decide +kernel
theorem dX8_crossed_7 : decode cX8_crossed 7 = .ok (.bipush (-5), 2) := by decide +kernel
theorem dX8_crossed_9 : decode cX8_crossed 9 = .ok (.ireturn, 1) := by decide +kernel
theorem dX8_crossed_10 : decode cX8_crossed 10 = .ok (.iconst 0, 1) := by decide +kernel
theorem dX8_crossed_11 : decode cX8_crossed 11 = .ok (.istore_n 1, 1) := by decide +kernel
theorem dX8_crossed_12 : decode cX8_crossed 12 = .ok (.iconst 0, 1) := by decide +kernel
theorem dX8_crossed_13 : decode cX8_crossed 13 = .ok (.istore_n 2, 1) := by decide +kernel
theorem dX8_crossed_14 : decode cX8_crossed 14 = .ok (.iload_n 2, 1) := by decide +kernel
theorem dX8_crossed_15 : decode cX8_crossed 15 = .ok (.aload_n 0, 1) := by decide +kernel
theorem dX8_crossed_16 : decode cX8_crossed 16 = .ok (.getfield 119, 3) := by decide +kernel
theorem dX8_crossed_19 : decode cX8_crossed 19 = .ok (.if_icmp .ge 30, 3) := by decide +kernel
theorem dX8_crossed_22 : decode cX8_crossed 22 = .ok (.iload_n 1, 1) := by decide +kernel
theorem dX8_crossed_23 : decode cX8_crossed 23 = .ok (.aload_n 0, 1) := by decide +kernel
theorem dX8_crossed_24 : decode cX8_crossed 24 = .ok (.iload_n 2, 1) := by decide +kernel
theorem dX8_crossed_25 : decode cX8_crossed 25 = .ok (.invokevirtual 223, 3) := by decide +kernel
theorem dX8_crossed_28 : decode cX8_crossed 28 = .ok (.aload_n 0, 1) := by decide +kernel
theorem dX8_crossed_29 : decode cX8_crossed 29 = .ok (.iload_n 2, 1) := by decide +kernel
theorem dX8_crossed_30 : decode cX8_crossed 30 = .ok (.invokevirtual 226, 3) := by decide +kernel
theorem dX8_crossed_33 : decode cX8_crossed 33 = .ok (.if_icmp .le 7, 3) := by decide +kernel
theorem dX8_crossed_36 : decode cX8_crossed 36 = .ok (.iconst 1, 1) := by decide +kernel
theorem dX8_crossed_37 : decode cX8_crossed 37 = .ok (.goto 4, 3) := by decide +kernel
theorem dX8_crossed_40 : decode cX8_crossed 40 = .ok (.iconst 0, 1) := by decide +kernel
theorem dX8_crossed_41 : decode cX8_crossed 41 = .ok (.iadd, 1) := by decide +kernel
theorem dX8_crossed_42 : decode cX8_crossed 42 = .ok (.istore_n 1, 1) := by decide +kernel
theorem dX8_crossed_43 : decode cX8_crossed 43 = .ok (.iinc 2 1, 3) := by decide +kernel
theorem dX8_crossed_46 : decode cX8_crossed 46 = .ok (.goto (-32), 3) := by decide +kernel
theorem dX8_crossed_49 : decode cX8_crossed 49 = .ok (.iload_n 1, 1) := by decide +kernel
theorem dX8_crossed_50 : decode cX8_crossed 50 = .ok (.ireturn, 1) := by decide +kernel
theorem dX8_happens_0 : decode cX8_happens 0 = .ok (.iload_n 2, 1) := by decide +kernel
theorem dX8_happens_1 : decode cX8_happens 1 = .ok (.ifCond .ne 9, 3) := by decide +kernel
theorem dX8_happens_4 : decode cX8_happens 4 = .ok (.iload_n 1, 1) := by decide +kernel
theorem dX8_happens_5 : decode cX8_happens 5 = .ok (.iconst 1, 1) := by decide +kernel
theorem dX8_happens_6 : decode cX8_happens 6 = .ok (.iload_n 3, 1) := by decide +kernel
theorem dX8_happens_7 : decode cX8_happens 7 = .ok (.ishl, 1) := by decide +kernel
theorem dX8_happens_8 : decode cX8_happens 8 = .ok (.ior, 1) := by decide +kernel
theorem dX8_happens_9 : decode cX8_happens 9 = .ok (.ireturn, 1) := by decide +kernel
theorem dX8_happens_10 : decode cX8_happens 10 = .ok (.aload_n 0, 1) := by decide +kernel
theorem dX8_happens_11 : decode cX8_happens 11 = .ok (.getfield 152, 3) := by decide +kernel
theorem dX8_happens_14 : decode cX8_happens 14 = .ok (.iconst 1, 1) := by decide +kernel
theorem dX8_happens_15 : decode cX8_happens 15 = .ok (.isub, 1) := by decide +kernel
theorem dX8_happens_16 : decode cX8_happens 16 = .ok (.istore 4, 2) := by decide +kernel
theorem dX8_happens_18 : decode cX8_happens 18 = .ok (.iload 4, 2) := by decide +kernel
theorem dX8_happens_20 : decode cX8_happens 20 = .ok (.ifCond .lt 31, 3) := by decide +kernel
theorem dX8_happens_23 : decode cX8_happens 23 = .ok (.iload_n 2, 1) := by decide +kernel
theorem dX8_happens_24 : decode cX8_happens 24 = .ok (.iconst 1, 1) := by decide +kernel
theorem dX8_happens_25 : decode cX8_happens 25 = .ok (.if_icmp .ne 26, 3) := by decide +kernel
theorem dX8_happens_28 : decode cX8_happens 28 = .ok (.aload_n 0, 1) := by decide +kernel
theorem dX8_happens_29 : decode cX8_happens 29 = .ok (.getfield 27, 3) := by decide +kernel
theorem dX8_happens_32 : decode cX8_happens 32 = .ok (.iload 4, 2) := by decide +kernel
theorem dX8_happens_34 : decode cX8_happens 34 = .ok (.iaload, 1) := by decide +kernel
theorem dX8_happens_35 : decode cX8_happens 35 = .ok (.iload_n 3, 1) := by decide +kernel
theorem dX8_happens_36 : decode cX8_happens 36 = .ok (.if_icmp .ne 9, 3) := by decide +kernel
theorem dX8_happens_39 : decode cX8_happens 39 = .ok (.aload_n 0, 1) := by decide +kernel
theorem dX8_happens_40 : decode cX8_happens 40 = .ok (.iload 4, 2) := by decide +kernel
theorem dX8_happens_42 : decode cX8_happens 42 = .ok (.invokevirtual 161, 3) := by decide +kernel
theorem dX8_happens_45 : decode cX8_happens 45 = .ok (.iinc 4 (-1), 3) := by decide +kernel
theorem dX8_happens_48 : decode cX8_happens 48 = .ok (.goto (-30), 3) := by decide +kernel
theorem dX8_happens_51 : decode cX8_happens 51 = .ok (.aload_n 0, 1) := by decide +kernel
theorem dX8_happens_52 : decode cX8_happens 52 = .ok (.getfield 18, 3) := by decide +kernel
theorem dX8_happens_55 : decode cX8_happens 55 = .ok (.iload_n 3, 1) := by decide +kernel
theorem dX8_happens_56 : decode cX8_happens 56 = .ok (.iload_n 2, 1) := by decide +kernel
theorem dX8_happens_57 : decode cX8_happens 57 = .ok (.iconst 2, 1) := by decide +kernel
theorem dX8_happens_58 : decode cX8_happens 58 = .ok (.if_icmp .ne 9, 3) := by decide +kernel
theorem dX8_happens_61 : decode cX8_happens 61 = .ok (.sipush 1000, 3) := by decide +kernel
theorem dX8_happens_64 : decode cX8_happens 64 = .ok (.goto 9, 3) := by decide +kernel
theorem dX8_happens_67 : decode cX8_happens 67 = .ok (.aload_n 0, 1) := by decide +kernel
theorem dX8_happens_68 : decode cX8_happens 68 = .ok (.getfield 18, 3) := by decide +kernel
theorem dX8_happens_71 : decode cX8_happens 71 = .ok (.iload_n 3, 1) := by decide +kernel
theorem dX8_happens_72 : decode cX8_happens 72 = .ok (.iaload, 1) := by decide +kernel
theorem dX8_happens_73 : decode cX8_happens 73 = .ok (.iastore, 1) := by decide +kernel
theorem dX8_happens_74 : decode cX8_happens 74 = .ok (.aload_n 0, 1) := by decide +kernel
theorem dX8_happens_75 : decode cX8_happens 75 = .ok (.getfield 21, 3) := by decide +kernel
theorem dX8_happens_78 : decode cX8_happens 78 = .ok (.iload_n 3, 1) := by decide +kernel
theorem dX8_happens_79 : decode cX8_happens 79 = .ok (.iload_n 2, 1) := by decide +kernel
theorem dX8_happens_80 : decode cX8_happens 80 = .ok (.iconst 3, 1) := by decide +kernel
theorem dX8_happens_81 : decode cX8_happens 81 = .ok (.if_icmp .ne 9, 3) := by decide +kernel
theorem dX8_happens_84 : decode cX8_happens 84 = .ok (.sipush 1000, 3) := by decide +kernel
theorem dX8_happens_87 : decode cX8_happens 87 = .ok (.goto 9, 3) := by decide +kernel
theorem dX8_happens_90 : decode cX8_happens 90 = .ok (.aload_n 0, 1) := by decide +kernel
theorem dX8_happens_91 : decode cX8_happens 91 = .ok (.getfield 21, 3) := by decide +kernel
theorem dX8_happens_94 : decode cX8_happens 94 = .ok (.iload_n 3, 1) := by decide +kernel
theorem dX8_happens_95 : decode cX8_happens 95 = .ok (.iaload, 1) := by decide +kernel
theorem dX8_happens_96 : decode cX8_happens 96 = .ok (.iastore, 1) := by decide +kernel
theorem dX8_happens_97 : decode cX8_happens 97 = .ok (.iload_n 1, 1) := by decide +kernel
theorem dX8_happens_98 : decode cX8_happens 98 = .ok (.ireturn, 1) := by decide +kernel
theorem dX8_after_0 : decode cX8_after 0 = .ok (.iload_n 1, 1) := by decide +kernel
theorem dX8_after_1 : decode cX8_after 1 = .ok (.iconst 0, 1) := by decide +kernel
theorem dX8_after_2 : decode cX8_after 2 = .ok (.iconst 1, 1) := by decide +kernel
theorem dX8_after_3 : decode cX8_after 3 = .ok (.invokestatic 122, 3) := by decide +kernel
theorem dX8_after_6 : decode cX8_after 6 = .ok (.ifCond .ne 7, 3) := by decide +kernel
theorem dX8_after_9 : decode cX8_after 9 = .ok (.ldc2_w 240, 3) := by decide +kernel
theorem dX8_after_12 : decode cX8_after 12 = .ok (.lreturn, 1) := by decide +kernel
theorem dX8_after_13 : decode cX8_after 13 = .ok (.aload_n 0, 1) := by decide +kernel
theorem dX8_after_14 : decode cX8_after 14 = .ok (.getfield 152, 3) := by decide +kernel
theorem dX8_after_17 : decode cX8_after 17 = .ok (.istore_n 2, 1) := by decide +kernel
theorem dX8_after_18 : decode cX8_after 18 = .ok (.iconst 0, 1) := by decide +kernel
theorem dX8_after_19 : decode cX8_after 19 = .ok (.istore_n 3, 1) := by decide +kernel
theorem dX8_after_20 : decode cX8_after 20 = .ok (.iload_n 3, 1) := by decide +kernel
theorem dX8_after_21 : decode cX8_after 21 = .ok (.bipush 40, 2) := by decide +kernel
theorem dX8_after_23 : decode cX8_after 23 = .ok (.if_icmp .ge 33, 3) := by decide +kernel
theorem dX8_after_26 : decode cX8_after 26 = .ok (.aload_n 0, 1) := by decide +kernel
theorem dX8_after_27 : decode cX8_after 27 = .ok (.getfield 85, 3) := by decide +kernel
theorem dX8_after_30 : decode cX8_after 30 = .ok (.iload_n 3, 1) := by decide +kernel
theorem dX8_after_31 : decode cX8_after 31 = .ok (.aload_n 0, 1) := by decide +kernel
theorem dX8_after_32 : decode cX8_after 32 = .ok (.getfield 27, 3) := by decide +kernel
theorem dX8_after_35 : decode cX8_after 35 = .ok (.iload_n 3, 1) := by decide +kernel
theorem dX8_after_36 : decode cX8_after 36 = .ok (.iaload, 1) := by decide +kernel
theorem dX8_after_37 : decode cX8_after 37 = .ok (.iastore, 1) := by decide +kernel
theorem dX8_after_38 : decode cX8_after 38 = .ok (.aload_n 0, 1) := by decide +kernel
theorem dX8_after_39 : decode cX8_after 39 = .ok (.getfield 88, 3) := by decide +kernel
theorem dX8_after_42 : decode cX8_after 42 = .ok (.iload_n 3, 1) := by decide +kernel
theorem dX8_after_43 : decode cX8_after 43 = .ok (.aload_n 0, 1) := by decide +kernel
theorem dX8_after_44 : decode cX8_after 44 = .ok (.getfield 30, 3) := by decide +kernel
theorem dX8_after_47 : decode cX8_after 47 = .ok (.iload_n 3, 1) := by decide +kernel
theorem dX8_after_48 : decode cX8_after 48 = .ok (.iaload, 1) := by decide +kernel
theorem dX8_after_49 : decode cX8_after 49 = .ok (.iastore, 1) := by decide +kernel
theorem dX8_after_50 : decode cX8_after 50 = .ok (.iinc 3 1, 3) := by decide +kernel
theorem dX8_after_53 : decode cX8_after 53 = .ok (.goto (-33), 3) := by decide +kernel
theorem dX8_after_56 : decode cX8_after 56 = .ok (.iconst 0, 1) := by decide +kernel
theorem dX8_after_57 : decode cX8_after 57 = .ok (.istore_n 3, 1) := by decide +kernel
theorem dX8_after_58 : decode cX8_after 58 = .ok (.iload_n 3, 1) := by decide +kernel
theorem dX8_after_59 : decode cX8_after 59 = .ok (.bipush 12, 2) := by decide +kernel
theorem dX8_after_61 : decode cX8_after 61 = .ok (.if_icmp .ge 33, 3) := by decide +kernel
theorem dX8_after_64 : decode cX8_after 64 = .ok (.aload_n 0, 1) := by decide +kernel
theorem dX8_after_65 : decode cX8_after 65 = .ok (.getfield 91, 3) := by decide +kernel
theorem dX8_after_68 : decode cX8_after 68 = .ok (.iload_n 3, 1) := by decide +kernel
theorem dX8_after_69 : decode cX8_after 69 = .ok (.aload_n 0, 1) := by decide +kernel
theorem dX8_after_70 : decode cX8_after 70 = .ok (.getfield 18, 3) := by decide +kernel
theorem dX8_after_73 : decode cX8_after 73 = .ok (.iload_n 3, 1) := by decide +kernel
theorem dX8_after_74 : decode cX8_after 74 = .ok (.iaload, 1) := by decide +kernel
theorem dX8_after_75 : decode cX8_after 75 = .ok (.iastore, 1) := by decide +kernel
theorem dX8_after_76 : decode cX8_after 76 = .ok (.aload_n 0, 1) := by decide +kernel
theorem dX8_after_77 : decode cX8_after 77 = .ok (.getfield 94, 3) := by decide +kernel
theorem dX8_after_80 : decode cX8_after 80 = .ok (.iload_n 3, 1) := by decide +kernel
theorem dX8_after_81 : decode cX8_after 81 = .ok (.aload_n 0, 1) := by decide +kernel
theorem dX8_after_82 : decode cX8_after 82 = .ok (.getfield 21, 3) := by decide +kernel
theorem dX8_after_85 : decode cX8_after 85 = .ok (.iload_n 3, 1) := by decide +kernel
theorem dX8_after_86 : decode cX8_after 86 = .ok (.iaload, 1) := by decide +kernel
theorem dX8_after_87 : decode cX8_after 87 = .ok (.iastore, 1) := by decide +kernel
theorem dX8_after_88 : decode cX8_after 88 = .ok (.iinc 3 1, 3) := by decide +kernel
theorem dX8_after_91 : decode cX8_after 91 = .ok (.goto (-33), 3) := by decide +kernel
theorem dX8_after_94 : decode cX8_after 94 = .ok (.aload_n 0, 1) := by decide +kernel
theorem dX8_after_95 : decode cX8_after 95 = .ok (.invokevirtual 148, 3) := by decide +kernel
theorem dX8_after_98 : decode cX8_after 98 = .ok (.istore_n 3, 1) := by decide +kernel
theorem dX8_after_99 : decode cX8_after 99 = .ok (.iconst 0, 1) := by decide +kernel
theorem dX8_after_100 : decode cX8_after 100 = .ok (.istore 4, 2) := by decide +kernel
theorem dX8_after_102 : decode cX8_after 102 = .ok (.iload 4, 2) := by decide +kernel
theorem dX8_after_104 : decode cX8_after 104 = .ok (.aload_n 0, 1) := by decide +kernel
theorem dX8_after_105 : decode cX8_after 105 = .ok (.getfield 324, 3) := by decide +kernel
theorem dX8_after_108 : decode cX8_after 108 = .ok (.if_icmp .ge 35, 3) := by decide +kernel
theorem dX8_after_111 : decode cX8_after 111 = .ok (.aload_n 0, 1) := by decide +kernel
theorem dX8_after_112 : decode cX8_after 112 = .ok (.iload_n 3, 1) := by decide +kernel
theorem dX8_after_113 : decode cX8_after 113 = .ok (.aload_n 0, 1) := by decide +kernel
theorem dX8_after_114 : decode cX8_after 114 = .ok (.getfield 82, 3) := by decide +kernel
theorem dX8_after_117 : decode cX8_after 117 = .ok (.iconst 2, 1) := by decide +kernel
theorem dX8_after_118 : decode cX8_after 118 = .ok (.iload 4, 2) := by decide +kernel
theorem dX8_after_120 : decode cX8_after 120 = .ok (.imul, 1) := by decide +kernel
theorem dX8_after_121 : decode cX8_after 121 = .ok (.iaload, 1) := by decide +kernel
theorem dX8_after_122 : decode cX8_after 122 = .ok (.aload_n 0, 1) := by decide +kernel
theorem dX8_after_123 : decode cX8_after 123 = .ok (.getfield 82, 3) := by decide +kernel
theorem dX8_after_126 : decode cX8_after 126 = .ok (.iconst 2, 1) := by decide +kernel
theorem dX8_after_127 : decode cX8_after 127 = .ok (.iload 4, 2) := by decide +kernel
theorem dX8_after_129 : decode cX8_after 129 = .ok (.imul, 1) := by decide +kernel
theorem dX8_after_130 : decode cX8_after 130 = .ok (.iconst 1, 1) := by decide +kernel
theorem dX8_after_131 : decode cX8_after 131 = .ok (.iadd, 1) := by decide +kernel
theorem dX8_after_132 : decode cX8_after 132 = .ok (.iaload, 1) := by decide +kernel
theorem dX8_after_133 : decode cX8_after 133 = .ok (.invokevirtual 327, 3) := by decide +kernel
theorem dX8_after_136 : decode cX8_after 136 = .ok (.istore_n 3, 1) := by decide +kernel
theorem dX8_after_137 : decode cX8_after 137 = .ok (.iinc 4 1, 3) := by decide +kernel
theorem dX8_after_140 : decode cX8_after 140 = .ok (.goto (-38), 3) := by decide +kernel
theorem dX8_after_143 : decode cX8_after 143 = .ok (.aload_n 0, 1) := by decide +kernel
theorem dX8_after_144 : decode cX8_after 144 = .ok (.invokevirtual 178, 3) := by decide +kernel
theorem dX8_after_147 : decode cX8_after 147 = .ok (.iload_n 1, 1) := by decide +kernel
theorem dX8_after_148 : decode cX8_after 148 = .ok (.ifCond .ne 11, 3) := by decide +kernel
theorem dX8_after_151 : decode cX8_after 151 = .ok (.aload_n 0, 1) := by decide +kernel
theorem dX8_after_152 : decode cX8_after 152 = .ok (.iload_n 3, 1) := by decide +kernel
theorem dX8_after_153 : decode cX8_after 153 = .ok (.invokevirtual 263, 3) := by decide +kernel
theorem dX8_after_156 : decode cX8_after 156 = .ok (.goto 8, 3) := by decide +kernel
theorem dX8_after_159 : decode cX8_after 159 = .ok (.aload_n 0, 1) := by decide +kernel
theorem dX8_after_160 : decode cX8_after 160 = .ok (.invokevirtual 331, 3) := by decide +kernel
theorem dX8_after_163 : decode cX8_after 163 = .ok (.i2l, 1) := by decide +kernel
theorem dX8_after_164 : decode cX8_after 164 = .ok (.lstore 4, 2) := by decide +kernel
theorem dX8_after_166 : decode cX8_after 166 = .ok (.aload_n 0, 1) := by decide +kernel
theorem dX8_after_167 : decode cX8_after 167 = .ok (.iload_n 2, 1) := by decide +kernel
theorem dX8_after_168 : decode cX8_after 168 = .ok (.putfield 152, 3) := by decide +kernel
theorem dX8_after_171 : decode cX8_after 171 = .ok (.iconst 0, 1) := by decide +kernel
theorem dX8_after_172 : decode cX8_after 172 = .ok (.istore 6, 2) := by decide +kernel
theorem dX8_after_174 : decode cX8_after 174 = .ok (.iload 6, 2) := by decide +kernel
theorem dX8_after_176 : decode cX8_after 176 = .ok (.bipush 40, 2) := by decide +kernel
theorem dX8_after_178 : decode cX8_after 178 = .ok (.if_icmp .ge 37, 3) := by decide +kernel
theorem dX8_after_181 : decode cX8_after 181 = .ok (.aload_n 0, 1) := by decide +kernel
theorem dX8_after_182 : decode cX8_after 182 = .ok (.getfield 27, 3) := by decide +kernel
theorem dX8_after_185 : decode cX8_after 185 = .ok (.iload 6, 2) := by decide +kernel
theorem dX8_after_187 : decode cX8_after 187 = .ok (.aload_n 0, 1) := by decide +kernel
theorem dX8_after_188 : decode cX8_after 188 = .ok (.getfield 85, 3) := by decide +kernel
theorem dX8_after_191 : decode cX8_after 191 = .ok (.iload 6, 2) := by decide +kernel
theorem dX8_after_193 : decode cX8_after 193 = .ok (.iaload, 1) := by decide +kernel
theorem dX8_after_194 : decode cX8_after 194 = .ok (.iastore, 1) := by decide +kernel
theorem dX8_after_195 : decode cX8_after 195 = .ok (.aload_n 0, 1) := by decide +kernel
theorem dX8_after_196 : decode cX8_after 196 = .ok (.getfield 30, 3) := by decide +kernel
theorem dX8_after_199 : decode cX8_after 199 = .ok (.iload 6, 2) := by decide +kernel
theorem dX8_after_201 : decode cX8_after 201 = .ok (.aload_n 0, 1) := by decide +kernel
theorem dX8_after_202 : decode cX8_after 202 = .ok (.getfield 88, 3) := by decide +kernel
theorem dX8_after_205 : decode cX8_after 205 = .ok (.iload 6, 2) := by decide +kernel
theorem dX8_after_207 : decode cX8_after 207 = .ok (.iaload, 1) := by decide +kernel
theorem dX8_after_208 : decode cX8_after 208 = .ok (.iastore, 1) := by decide +kernel
theorem dX8_after_209 : decode cX8_after 209 = .ok (.iinc 6 1, 3) := by decide +kernel
theorem dX8_after_212 : decode cX8_after 212 = .ok (.goto (-38), 3) := by decide +kernel
theorem dX8_after_215 : decode cX8_after 215 = .ok (.iconst 0, 1) := by decide +kernel
theorem dX8_after_216 : decode cX8_after 216 = .ok (.istore 6, 2) := by decide +kernel
theorem dX8_after_218 : decode cX8_after 218 = .ok (.iload 6, 2) := by decide +kernel
theorem dX8_after_220 : decode cX8_after 220 = .ok (.bipush 12, 2) := by decide +kernel
theorem dX8_after_222 : decode cX8_after 222 = .ok (.if_icmp .ge 37, 3) := by decide +kernel
theorem dX8_after_225 : decode cX8_after 225 = .ok (.aload_n 0, 1) := by decide +kernel
theorem dX8_after_226 : decode cX8_after 226 = .ok (.getfield 18, 3) := by decide +kernel
theorem dX8_after_229 : decode cX8_after 229 = .ok (.iload 6, 2) := by decide +kernel
theorem dX8_after_231 : decode cX8_after 231 = .ok (.aload_n 0, 1) := by decide +kernel
theorem dX8_after_232 : decode cX8_after 232 = .ok (.getfield 91, 3) := by decide +kernel
theorem dX8_after_235 : decode cX8_after 235 = .ok (.iload 6, 2) := by decide +kernel
theorem dX8_after_237 : decode cX8_after 237 = .ok (.iaload, 1) := by decide +kernel
theorem dX8_after_238 : decode cX8_after 238 = .ok (.iastore, 1) := by decide +kernel
theorem dX8_after_239 : decode cX8_after 239 = .ok (.aload_n 0, 1) := by decide +kernel
theorem dX8_after_240 : decode cX8_after 240 = .ok (.getfield 21, 3) := by decide +kernel
theorem dX8_after_243 : decode cX8_after 243 = .ok (.iload 6, 2) := by decide +kernel
theorem dX8_after_245 : decode cX8_after 245 = .ok (.aload_n 0, 1) := by decide +kernel
theorem dX8_after_246 : decode cX8_after 246 = .ok (.getfield 94, 3) := by decide +kernel
theorem dX8_after_249 : decode cX8_after 249 = .ok (.iload 6, 2) := by decide +kernel
theorem dX8_after_251 : decode cX8_after 251 = .ok (.iaload, 1) := by decide +kernel
theorem dX8_after_252 : decode cX8_after 252 = .ok (.iastore, 1) := by decide +kernel
theorem dX8_after_253 : decode cX8_after 253 = .ok (.iinc 6 1, 3) := by decide +kernel
theorem dX8_after_256 : decode cX8_after 256 = .ok (.goto (-38), 3) := by decide +kernel
theorem dX8_after_259 : decode cX8_after 259 = .ok (.lload 4, 2) := by decide +kernel
theorem dX8_after_261 : decode cX8_after 261 = .ok (.lreturn, 1) := by decide +kernel
theorem dX8_judge_0 : decode cX8_judge 0 = .ok (.iload_n 1, 1) := by decide +kernel
theorem dX8_judge_1 : decode cX8_judge 1 = .ok (.invokestatic 334, 3) := by decide +kernel
theorem dX8_judge_4 : decode cX8_judge 4 = .ok (.ifCond .ne 5, 3) := by decide +kernel
theorem dX8_judge_7 : decode cX8_judge 7 = .ok (.iconst (-1), 1) := by decide +kernel
theorem dX8_judge_8 : decode cX8_judge 8 = .ok (.ireturn, 1) := by decide +kernel
theorem dX8_judge_9 : decode cX8_judge 9 = .ok (.aload_n 0, 1) := by decide +kernel
theorem dX8_judge_10 : decode cX8_judge 10 = .ok (.getfield 103, 3) := by decide +kernel
theorem dX8_judge_13 : decode cX8_judge 13 = .ok (.iload_n 1, 1) := by decide +kernel
theorem dX8_judge_14 : decode cX8_judge 14 = .ok (.iaload, 1) := by decide +kernel
theorem dX8_judge_15 : decode cX8_judge 15 = .ok (.iconst (-1), 1) := by decide +kernel
theorem dX8_judge_16 : decode cX8_judge 16 = .ok (.if_icmp .eq 16, 3) := by decide +kernel
theorem dX8_judge_19 : decode cX8_judge 19 = .ok (.aload_n 0, 1) := by decide +kernel
theorem dX8_judge_20 : decode cX8_judge 20 = .ok (.getfield 103, 3) := by decide +kernel
theorem dX8_judge_23 : decode cX8_judge 23 = .ok (.iload_n 1, 1) := by decide +kernel
theorem dX8_judge_24 : decode cX8_judge 24 = .ok (.iaload, 1) := by decide +kernel
theorem dX8_judge_25 : decode cX8_judge 25 = .ok (.iconst 1, 1) := by decide +kernel
theorem dX8_judge_26 : decode cX8_judge 26 = .ok (.if_icmp .eq 6, 3) := by decide +kernel
theorem dX8_judge_29 : decode cX8_judge 29 = .ok (.bipush (-12), 2) := by decide +kernel
theorem dX8_judge_31 : decode cX8_judge 31 = .ok (.ireturn, 1) := by decide +kernel
theorem dX8_judge_32 : decode cX8_judge 32 = .ok (.aload_n 0, 1) := by decide +kernel
theorem dX8_judge_33 : decode cX8_judge 33 = .ok (.invokevirtual 178, 3) := by decide +kernel
theorem dX8_judge_36 : decode cX8_judge 36 = .ok (.aload_n 0, 1) := by decide +kernel
theorem dX8_judge_37 : decode cX8_judge 37 = .ok (.invokevirtual 171, 3) := by decide +kernel
theorem dX8_judge_40 : decode cX8_judge 40 = .ok (.ifCond .eq 6, 3) := by decide +kernel
theorem dX8_judge_43 : decode cX8_judge 43 = .ok (.bipush (-3), 2) := by decide +kernel
theorem dX8_judge_45 : decode cX8_judge 45 = .ok (.ireturn, 1) := by decide +kernel
theorem dX8_judge_46 : decode cX8_judge 46 = .ok (.iconst 0, 1) := by decide +kernel
theorem dX8_judge_47 : decode cX8_judge 47 = .ok (.istore_n 3, 1) := by decide +kernel
theorem dX8_judge_48 : decode cX8_judge 48 = .ok (.iload_n 3, 1) := by decide +kernel
theorem dX8_judge_49 : decode cX8_judge 49 = .ok (.aload_n 0, 1) := by decide +kernel
theorem dX8_judge_50 : decode cX8_judge 50 = .ok (.getfield 119, 3) := by decide +kernel
theorem dX8_judge_53 : decode cX8_judge 53 = .ok (.if_icmp .ge 67, 3) := by decide +kernel
theorem dX8_judge_56 : decode cX8_judge 56 = .ok (.aload_n 0, 1) := by decide +kernel
theorem dX8_judge_57 : decode cX8_judge 57 = .ok (.getfield 103, 3) := by decide +kernel
theorem dX8_judge_60 : decode cX8_judge 60 = .ok (.iload_n 1, 1) := by decide +kernel
theorem dX8_judge_61 : decode cX8_judge 61 = .ok (.iaload, 1) := by decide +kernel
theorem dX8_judge_62 : decode cX8_judge 62 = .ok (.iconst (-1), 1) := by decide +kernel
theorem dX8_judge_63 : decode cX8_judge 63 = .ok (.if_icmp .eq 21, 3) := by decide +kernel
theorem dX8_judge_66 : decode cX8_judge 66 = .ok (.iload_n 2, 1) := by decide +kernel
theorem dX8_judge_67 : decode cX8_judge 67 = .ok (.ifCond .lt 17, 3) := by decide +kernel
theorem dX8_judge_70 : decode cX8_judge 70 = .ok (.iload_n 2, 1) := by decide +kernel
theorem dX8_judge_71 : decode cX8_judge 71 = .ok (.aload_n 0, 1) := by decide +kernel
theorem dX8_judge_72 : decode cX8_judge 72 = .ok (.getfield 106, 3) := by decide +kernel
theorem dX8_judge_75 : decode cX8_judge 75 = .ok (.iload_n 1, 1) := by decide +kernel
theorem dX8_judge_76 : decode cX8_judge 76 = .ok (.iaload, 1) := by decide +kernel
theorem dX8_judge_77 : decode cX8_judge 77 = .ok (.iconst 1, 1) := by decide +kernel
theorem dX8_judge_78 : decode cX8_judge 78 = .ok (.isub, 1) := by decide +kernel
theorem dX8_judge_79 : decode cX8_judge 79 = .ok (.iload_n 3, 1) := by decide +kernel
theorem dX8_judge_80 : decode cX8_judge 80 = .ok (.isub, 1) := by decide +kernel
theorem dX8_judge_81 : decode cX8_judge 81 = .ok (.if_icmp .le 8, 3) := by decide +kernel
theorem dX8_judge_84 : decode cX8_judge 84 = .ok (.bipush 100, 2) := by decide +kernel
theorem dX8_judge_86 : decode cX8_judge 86 = .ok (.iload_n 3, 1) := by decide +kernel
theorem dX8_judge_87 : decode cX8_judge 87 = .ok (.iadd, 1) := by decide +kernel
theorem dX8_judge_88 : decode cX8_judge 88 = .ok (.ireturn, 1) := by decide +kernel
theorem dX8_judge_89 : decode cX8_judge 89 = .ok (.aload_n 0, 1) := by decide +kernel
theorem dX8_judge_90 : decode cX8_judge 90 = .ok (.getfield 109, 3) := by decide +kernel
theorem dX8_judge_93 : decode cX8_judge 93 = .ok (.bipush 60, 2) := by decide +kernel
theorem dX8_judge_95 : decode cX8_judge 95 = .ok (.iload_n 1, 1) := by decide +kernel
theorem dX8_judge_96 : decode cX8_judge 96 = .ok (.imul, 1) := by decide +kernel
theorem dX8_judge_97 : decode cX8_judge 97 = .ok (.iload_n 2, 1) := by decide +kernel
theorem dX8_judge_98 : decode cX8_judge 98 = .ok (.iadd, 1) := by decide +kernel
theorem dX8_judge_99 : decode cX8_judge 99 = .ok (.iload_n 3, 1) := by decide +kernel
theorem dX8_judge_100 : decode cX8_judge 100 = .ok (.iadd, 1) := by decide +kernel
theorem dX8_judge_101 : decode cX8_judge 101 = .ok (.laload, 1) := by decide +kernel
theorem dX8_judge_102 : decode cX8_judge 102 = .ok (.aload_n 0, 1) := by decide +kernel
theorem dX8_judge_103 : decode cX8_judge 103 = .ok (.iload_n 3, 1) := by decide +kernel
theorem dX8_judge_104 : decode cX8_judge 104 = .ok (.invokevirtual 223, 3) := by decide +kernel
theorem dX8_judge_107 : decode cX8_judge 107 = .ok (.i2l, 1) := by decide +kernel
theorem dX8_judge_108 : decode cX8_judge 108 = .ok (.lcmp, 1) := by decide +kernel
theorem dX8_judge_109 : decode cX8_judge 109 = .ok (.ifCond .eq 5, 3) := by decide +kernel
theorem dX8_judge_112 : decode cX8_judge 112 = .ok (.iload_n 3, 1) := by decide +kernel
theorem dX8_judge_113 : decode cX8_judge 113 = .ok (.ireturn, 1) := by decide +kernel
theorem dX8_judge_114 : decode cX8_judge 114 = .ok (.iinc 3 1, 3) := by decide +kernel
theorem dX8_judge_117 : decode cX8_judge 117 = .ok (.goto (-69), 3) := by decide +kernel
theorem dX8_judge_120 : decode cX8_judge 120 = .ok (.bipush (-5), 2) := by decide +kernel
theorem dX8_judge_122 : decode cX8_judge 122 = .ok (.ireturn, 1) := by decide +kernel
theorem dX8_carries_0 : decode cX8_carries 0 = .ok (.iconst 0, 1) := by decide +kernel
theorem dX8_carries_1 : decode cX8_carries 1 = .ok (.istore 5, 2) := by decide +kernel
theorem dX8_carries_3 : decode cX8_carries 3 = .ok (.iload 5, 2) := by decide +kernel
theorem dX8_carries_5 : decode cX8_carries 5 = .ok (.iload_n 2, 1) := by decide +kernel
theorem dX8_carries_6 : decode cX8_carries 6 = .ok (.if_icmp .ge 43, 3) := by decide +kernel
theorem dX8_carries_9 : decode cX8_carries 9 = .ok (.iload 4, 2) := by decide +kernel
theorem dX8_carries_11 : decode cX8_carries 11 = .ok (.ifCond .eq 19, 3) := by decide +kernel
theorem dX8_carries_14 : decode cX8_carries 14 = .ok (.aload_n 1, 1) := by decide +kernel
theorem dX8_carries_15 : decode cX8_carries 15 = .ok (.iload 5, 2) := by decide +kernel
theorem dX8_carries_17 : decode cX8_carries 17 = .ok (.aload_n 0, 1) := by decide +kernel
theorem dX8_carries_18 : decode cX8_carries 18 = .ok (.getfield 97, 3) := by decide +kernel
theorem dX8_carries_21 : decode cX8_carries 21 = .ok (.iload_n 3, 1) := by decide +kernel
theorem dX8_carries_22 : decode cX8_carries 22 = .ok (.iload 5, 2) := by decide +kernel
theorem dX8_carries_24 : decode cX8_carries 24 = .ok (.iadd, 1) := by decide +kernel
theorem dX8_carries_25 : decode cX8_carries 25 = .ok (.iaload, 1) := by decide +kernel
theorem dX8_carries_26 : decode cX8_carries 26 = .ok (.iastore, 1) := by decide +kernel
theorem dX8_carries_27 : decode cX8_carries 27 = .ok (.goto 16, 3) := by decide +kernel
theorem dX8_carries_30 : decode cX8_carries 30 = .ok (.aload_n 0, 1) := by decide +kernel
theorem dX8_carries_31 : decode cX8_carries 31 = .ok (.getfield 97, 3) := by decide +kernel
theorem dX8_carries_34 : decode cX8_carries 34 = .ok (.iload_n 3, 1) := by decide +kernel
theorem dX8_carries_35 : decode cX8_carries 35 = .ok (.iload 5, 2) := by decide +kernel
theorem dX8_carries_37 : decode cX8_carries 37 = .ok (.iadd, 1) := by decide +kernel
theorem dX8_carries_38 : decode cX8_carries 38 = .ok (.aload_n 1, 1) := by decide +kernel
theorem dX8_carries_39 : decode cX8_carries 39 = .ok (.iload 5, 2) := by decide +kernel
theorem dX8_carries_41 : decode cX8_carries 41 = .ok (.iaload, 1) := by decide +kernel
theorem dX8_carries_42 : decode cX8_carries 42 = .ok (.iastore, 1) := by decide +kernel
theorem dX8_carries_43 : decode cX8_carries 43 = .ok (.iinc 5 1, 3) := by decide +kernel
theorem dX8_carries_46 : decode cX8_carries 46 = .ok (.goto (-43), 3) := by decide +kernel
theorem dX8_carries_49 : decode cX8_carries 49 = .ok (.iload_n 3, 1) := by decide +kernel
theorem dX8_carries_50 : decode cX8_carries 50 = .ok (.iload_n 2, 1) := by decide +kernel
theorem dX8_carries_51 : decode cX8_carries 51 = .ok (.iadd, 1) := by decide +kernel
theorem dX8_carries_52 : decode cX8_carries 52 = .ok (.ireturn, 1) := by decide +kernel
theorem dX8_carriesAll_0 : decode cX8_carriesAll 0 = .ok (.aload_n 0, 1) := by decide +kernel
theorem dX8_carriesAll_1 : decode cX8_carriesAll 1 = .ok (.aload_n 0, 1) := by decide +kernel
theorem dX8_carriesAll_2 : decode cX8_carriesAll 2 = .ok (.getfield 11, 3) := by decide +kernel
theorem dX8_carriesAll_5 : decode cX8_carriesAll 5 = .ok (.bipush 12, 2) := by decide +kernel
theorem dX8_carriesAll_7 : decode cX8_carriesAll 7 = .ok (.iconst 0, 1) := by decide +kernel
theorem dX8_carriesAll_8 : decode cX8_carriesAll 8 = .ok (.iload_n 1, 1) := by decide +kernel
theorem dX8_carriesAll_9 : decode cX8_carriesAll 9 = .ok (.invokevirtual 337, 3) := by decide +kernel
theorem dX8_carriesAll_12 : decode cX8_carriesAll 12 = .ok (.istore_n 2, 1) := by decide +kernel
theorem dX8_carriesAll_13 : decode cX8_carriesAll 13 = .ok (.aload_n 0, 1) := by decide +kernel
theorem dX8_carriesAll_14 : decode cX8_carriesAll 14 = .ok (.aload_n 0, 1) := by decide +kernel
theorem dX8_carriesAll_15 : decode cX8_carriesAll 15 = .ok (.getfield 15, 3) := by decide +kernel
theorem dX8_carriesAll_18 : decode cX8_carriesAll 18 = .ok (.bipush 12, 2) := by decide +kernel
theorem dX8_carriesAll_20 : decode cX8_carriesAll 20 = .ok (.iload_n 2, 1) := by decide +kernel
theorem dX8_carriesAll_21 : decode cX8_carriesAll 21 = .ok (.iload_n 1, 1) := by decide +kernel
theorem dX8_carriesAll_22 : decode cX8_carriesAll 22 = .ok (.invokevirtual 337, 3) := by decide +kernel
theorem dX8_carriesAll_25 : decode cX8_carriesAll 25 = .ok (.istore_n 2, 1) := by decide +kernel
theorem dX8_carriesAll_26 : decode cX8_carriesAll 26 = .ok (.aload_n 0, 1) := by decide +kernel
theorem dX8_carriesAll_27 : decode cX8_carriesAll 27 = .ok (.aload_n 0, 1) := by decide +kernel
theorem dX8_carriesAll_28 : decode cX8_carriesAll 28 = .ok (.getfield 18, 3) := by decide +kernel
theorem dX8_carriesAll_31 : decode cX8_carriesAll 31 = .ok (.bipush 12, 2) := by decide +kernel
theorem dX8_carriesAll_33 : decode cX8_carriesAll 33 = .ok (.iload_n 2, 1) := by decide +kernel
theorem dX8_carriesAll_34 : decode cX8_carriesAll 34 = .ok (.iload_n 1, 1) := by decide +kernel
theorem dX8_carriesAll_35 : decode cX8_carriesAll 35 = .ok (.invokevirtual 337, 3) := by decide +kernel
theorem dX8_carriesAll_38 : decode cX8_carriesAll 38 = .ok (.istore_n 2, 1) := by decide +kernel
theorem dX8_carriesAll_39 : decode cX8_carriesAll 39 = .ok (.aload_n 0, 1) := by decide +kernel
theorem dX8_carriesAll_40 : decode cX8_carriesAll 40 = .ok (.aload_n 0, 1) := by decide +kernel
theorem dX8_carriesAll_41 : decode cX8_carriesAll 41 = .ok (.getfield 21, 3) := by decide +kernel
theorem dX8_carriesAll_44 : decode cX8_carriesAll 44 = .ok (.bipush 12, 2) := by decide +kernel
theorem dX8_carriesAll_46 : decode cX8_carriesAll 46 = .ok (.iload_n 2, 1) := by decide +kernel
theorem dX8_carriesAll_47 : decode cX8_carriesAll 47 = .ok (.iload_n 1, 1) := by decide +kernel
theorem dX8_carriesAll_48 : decode cX8_carriesAll 48 = .ok (.invokevirtual 337, 3) := by decide +kernel
theorem dX8_carriesAll_51 : decode cX8_carriesAll 51 = .ok (.istore_n 2, 1) := by decide +kernel
theorem dX8_carriesAll_52 : decode cX8_carriesAll 52 = .ok (.aload_n 0, 1) := by decide +kernel
theorem dX8_carriesAll_53 : decode cX8_carriesAll 53 = .ok (.aload_n 0, 1) := by decide +kernel
theorem dX8_carriesAll_54 : decode cX8_carriesAll 54 = .ok (.getfield 24, 3) := by decide +kernel
theorem dX8_carriesAll_57 : decode cX8_carriesAll 57 = .ok (.bipush 12, 2) := by decide +kernel
theorem dX8_carriesAll_59 : decode cX8_carriesAll 59 = .ok (.iload_n 2, 1) := by decide +kernel
theorem dX8_carriesAll_60 : decode cX8_carriesAll 60 = .ok (.iload_n 1, 1) := by decide +kernel
theorem dX8_carriesAll_61 : decode cX8_carriesAll 61 = .ok (.invokevirtual 337, 3) := by decide +kernel
theorem dX8_carriesAll_64 : decode cX8_carriesAll 64 = .ok (.istore_n 2, 1) := by decide +kernel
theorem dX8_carriesAll_65 : decode cX8_carriesAll 65 = .ok (.aload_n 0, 1) := by decide +kernel
theorem dX8_carriesAll_66 : decode cX8_carriesAll 66 = .ok (.aload_n 0, 1) := by decide +kernel
theorem dX8_carriesAll_67 : decode cX8_carriesAll 67 = .ok (.getfield 33, 3) := by decide +kernel
theorem dX8_carriesAll_70 : decode cX8_carriesAll 70 = .ok (.bipush 12, 2) := by decide +kernel
theorem dX8_carriesAll_72 : decode cX8_carriesAll 72 = .ok (.iload_n 2, 1) := by decide +kernel
theorem dX8_carriesAll_73 : decode cX8_carriesAll 73 = .ok (.iload_n 1, 1) := by decide +kernel
theorem dX8_carriesAll_74 : decode cX8_carriesAll 74 = .ok (.invokevirtual 337, 3) := by decide +kernel
theorem dX8_carriesAll_77 : decode cX8_carriesAll 77 = .ok (.istore_n 2, 1) := by decide +kernel
theorem dX8_carriesAll_78 : decode cX8_carriesAll 78 = .ok (.aload_n 0, 1) := by decide +kernel
theorem dX8_carriesAll_79 : decode cX8_carriesAll 79 = .ok (.aload_n 0, 1) := by decide +kernel
theorem dX8_carriesAll_80 : decode cX8_carriesAll 80 = .ok (.getfield 27, 3) := by decide +kernel
theorem dX8_carriesAll_83 : decode cX8_carriesAll 83 = .ok (.bipush 40, 2) := by decide +kernel
theorem dX8_carriesAll_85 : decode cX8_carriesAll 85 = .ok (.iload_n 2, 1) := by decide +kernel
theorem dX8_carriesAll_86 : decode cX8_carriesAll 86 = .ok (.iload_n 1, 1) := by decide +kernel
theorem dX8_carriesAll_87 : decode cX8_carriesAll 87 = .ok (.invokevirtual 337, 3) := by decide +kernel
theorem dX8_carriesAll_90 : decode cX8_carriesAll 90 = .ok (.istore_n 2, 1) := by decide +kernel
theorem dX8_carriesAll_91 : decode cX8_carriesAll 91 = .ok (.aload_n 0, 1) := by decide +kernel
theorem dX8_carriesAll_92 : decode cX8_carriesAll 92 = .ok (.aload_n 0, 1) := by decide +kernel
theorem dX8_carriesAll_93 : decode cX8_carriesAll 93 = .ok (.getfield 30, 3) := by decide +kernel
theorem dX8_carriesAll_96 : decode cX8_carriesAll 96 = .ok (.bipush 40, 2) := by decide +kernel
theorem dX8_carriesAll_98 : decode cX8_carriesAll 98 = .ok (.iload_n 2, 1) := by decide +kernel
theorem dX8_carriesAll_99 : decode cX8_carriesAll 99 = .ok (.iload_n 1, 1) := by decide +kernel
theorem dX8_carriesAll_100 : decode cX8_carriesAll 100 = .ok (.invokevirtual 337, 3) := by decide +kernel
theorem dX8_carriesAll_103 : decode cX8_carriesAll 103 = .ok (.istore_n 2, 1) := by decide +kernel
theorem dX8_carriesAll_104 : decode cX8_carriesAll 104 = .ok (.aload_n 0, 1) := by decide +kernel
theorem dX8_carriesAll_105 : decode cX8_carriesAll 105 = .ok (.aload_n 0, 1) := by decide +kernel
theorem dX8_carriesAll_106 : decode cX8_carriesAll 106 = .ok (.getfield 61, 3) := by decide +kernel
theorem dX8_carriesAll_109 : decode cX8_carriesAll 109 = .ok (.bipush 12, 2) := by decide +kernel
theorem dX8_carriesAll_111 : decode cX8_carriesAll 111 = .ok (.iload_n 2, 1) := by decide +kernel
theorem dX8_carriesAll_112 : decode cX8_carriesAll 112 = .ok (.iload_n 1, 1) := by decide +kernel
theorem dX8_carriesAll_113 : decode cX8_carriesAll 113 = .ok (.invokevirtual 337, 3) := by decide +kernel
theorem dX8_carriesAll_116 : decode cX8_carriesAll 116 = .ok (.istore_n 2, 1) := by decide +kernel
theorem dX8_carriesAll_117 : decode cX8_carriesAll 117 = .ok (.aload_n 0, 1) := by decide +kernel
theorem dX8_carriesAll_118 : decode cX8_carriesAll 118 = .ok (.aload_n 0, 1) := by decide +kernel
theorem dX8_carriesAll_119 : decode cX8_carriesAll 119 = .ok (.getfield 64, 3) := by decide +kernel
theorem dX8_carriesAll_122 : decode cX8_carriesAll 122 = .ok (.bipush 12, 2) := by decide +kernel
theorem dX8_carriesAll_124 : decode cX8_carriesAll 124 = .ok (.iload_n 2, 1) := by decide +kernel
theorem dX8_carriesAll_125 : decode cX8_carriesAll 125 = .ok (.iload_n 1, 1) := by decide +kernel
theorem dX8_carriesAll_126 : decode cX8_carriesAll 126 = .ok (.invokevirtual 337, 3) := by decide +kernel
theorem dX8_carriesAll_129 : decode cX8_carriesAll 129 = .ok (.istore_n 2, 1) := by decide +kernel
theorem dX8_carriesAll_130 : decode cX8_carriesAll 130 = .ok (.aload_n 0, 1) := by decide +kernel
theorem dX8_carriesAll_131 : decode cX8_carriesAll 131 = .ok (.aload_n 0, 1) := by decide +kernel
theorem dX8_carriesAll_132 : decode cX8_carriesAll 132 = .ok (.getfield 79, 3) := by decide +kernel
theorem dX8_carriesAll_135 : decode cX8_carriesAll 135 = .ok (.bipush 15, 2) := by decide +kernel
theorem dX8_carriesAll_137 : decode cX8_carriesAll 137 = .ok (.iload_n 2, 1) := by decide +kernel
theorem dX8_carriesAll_138 : decode cX8_carriesAll 138 = .ok (.iload_n 1, 1) := by decide +kernel
theorem dX8_carriesAll_139 : decode cX8_carriesAll 139 = .ok (.invokevirtual 337, 3) := by decide +kernel
theorem dX8_carriesAll_142 : decode cX8_carriesAll 142 = .ok (.istore_n 2, 1) := by decide +kernel
theorem dX8_carriesAll_143 : decode cX8_carriesAll 143 = .ok (.aload_n 0, 1) := by decide +kernel
theorem dX8_carriesAll_144 : decode cX8_carriesAll 144 = .ok (.aload_n 0, 1) := by decide +kernel
theorem dX8_carriesAll_145 : decode cX8_carriesAll 145 = .ok (.getfield 82, 3) := by decide +kernel
theorem dX8_carriesAll_148 : decode cX8_carriesAll 148 = .ok (.bipush 16, 2) := by decide +kernel
theorem dX8_carriesAll_150 : decode cX8_carriesAll 150 = .ok (.iload_n 2, 1) := by decide +kernel
theorem dX8_carriesAll_151 : decode cX8_carriesAll 151 = .ok (.iload_n 1, 1) := by decide +kernel
theorem dX8_carriesAll_152 : decode cX8_carriesAll 152 = .ok (.invokevirtual 337, 3) := by decide +kernel
theorem dX8_carriesAll_155 : decode cX8_carriesAll 155 = .ok (.istore_n 2, 1) := by decide +kernel
theorem dX8_carriesAll_156 : decode cX8_carriesAll 156 = .ok (.aload_n 0, 1) := by decide +kernel
theorem dX8_carriesAll_157 : decode cX8_carriesAll 157 = .ok (.aload_n 0, 1) := by decide +kernel
theorem dX8_carriesAll_158 : decode cX8_carriesAll 158 = .ok (.getfield 100, 3) := by decide +kernel
theorem dX8_carriesAll_161 : decode cX8_carriesAll 161 = .ok (.iconst 5, 1) := by decide +kernel
theorem dX8_carriesAll_162 : decode cX8_carriesAll 162 = .ok (.iload_n 2, 1) := by decide +kernel
theorem dX8_carriesAll_163 : decode cX8_carriesAll 163 = .ok (.iload_n 1, 1) := by decide +kernel
theorem dX8_carriesAll_164 : decode cX8_carriesAll 164 = .ok (.invokevirtual 337, 3) := by decide +kernel
theorem dX8_carriesAll_167 : decode cX8_carriesAll 167 = .ok (.pop, 1) := by decide +kernel
theorem dX8_carriesAll_168 : decode cX8_carriesAll 168 = .ok (.return_, 1) := by decide +kernel
theorem dX8_image_0 : decode cX8_image 0 = .ok (.aload_n 0, 1) := by decide +kernel
theorem dX8_image_1 : decode cX8_image 1 = .ok (.iconst 1, 1) := by decide +kernel
theorem dX8_image_2 : decode cX8_image 2 = .ok (.putfield 341, 3) := by decide +kernel
theorem dX8_image_5 : decode cX8_image 5 = .ok (.aload_n 0, 1) := by decide +kernel
theorem dX8_image_6 : decode cX8_image 6 = .ok (.getfield 100, 3) := by decide +kernel
theorem dX8_image_9 : decode cX8_image 9 = .ok (.iconst 0, 1) := by decide +kernel
theorem dX8_image_10 : decode cX8_image 10 = .ok (.aload_n 0, 1) := by decide +kernel
theorem dX8_image_11 : decode cX8_image 11 = .ok (.getfield 119, 3) := by decide +kernel
theorem dX8_image_14 : decode cX8_image 14 = .ok (.iastore, 1) := by decide +kernel
theorem dX8_image_15 : decode cX8_image 15 = .ok (.aload_n 0, 1) := by decide +kernel
theorem dX8_image_16 : decode cX8_image 16 = .ok (.getfield 100, 3) := by decide +kernel
theorem dX8_image_19 : decode cX8_image 19 = .ok (.iconst 1, 1) := by decide +kernel
theorem dX8_image_20 : decode cX8_image 20 = .ok (.aload_n 0, 1) := by decide +kernel
theorem dX8_image_21 : decode cX8_image 21 = .ok (.getfield 152, 3) := by decide +kernel
theorem dX8_image_24 : decode cX8_image 24 = .ok (.iastore, 1) := by decide +kernel
theorem dX8_image_25 : decode cX8_image 25 = .ok (.aload_n 0, 1) := by decide +kernel
theorem dX8_image_26 : decode cX8_image 26 = .ok (.getfield 100, 3) := by decide +kernel
theorem dX8_image_29 : decode cX8_image 29 = .ok (.iconst 2, 1) := by decide +kernel
theorem dX8_image_30 : decode cX8_image 30 = .ok (.aload_n 0, 1) := by decide +kernel
theorem dX8_image_31 : decode cX8_image 31 = .ok (.getfield 145, 3) := by decide +kernel
theorem dX8_image_34 : decode cX8_image 34 = .ok (.iastore, 1) := by decide +kernel
theorem dX8_image_35 : decode cX8_image 35 = .ok (.aload_n 0, 1) := by decide +kernel
theorem dX8_image_36 : decode cX8_image 36 = .ok (.getfield 100, 3) := by decide +kernel
theorem dX8_image_39 : decode cX8_image 39 = .ok (.iconst 3, 1) := by decide +kernel
theorem dX8_image_40 : decode cX8_image 40 = .ok (.aload_n 0, 1) := by decide +kernel
theorem dX8_image_41 : decode cX8_image 41 = .ok (.getfield 318, 3) := by decide +kernel
theorem dX8_image_44 : decode cX8_image 44 = .ok (.iastore, 1) := by decide +kernel
theorem dX8_image_45 : decode cX8_image 45 = .ok (.aload_n 0, 1) := by decide +kernel
theorem dX8_image_46 : decode cX8_image 46 = .ok (.getfield 100, 3) := by decide +kernel
theorem dX8_image_49 : decode cX8_image 49 = .ok (.iconst 4, 1) := by decide +kernel
theorem dX8_image_50 : decode cX8_image 50 = .ok (.aload_n 0, 1) := by decide +kernel
theorem dX8_image_51 : decode cX8_image 51 = .ok (.getfield 324, 3) := by decide +kernel
theorem dX8_image_54 : decode cX8_image 54 = .ok (.iastore, 1) := by decide +kernel
theorem dX8_image_55 : decode cX8_image 55 = .ok (.aload_n 0, 1) := by decide +kernel
theorem dX8_image_56 : decode cX8_image 56 = .ok (.iconst 0, 1) := by decide +kernel
theorem dX8_image_57 : decode cX8_image 57 = .ok (.invokevirtual 345, 3) := by decide +kernel
theorem dX8_image_60 : decode cX8_image 60 = .ok (.aload_n 0, 1) := by decide +kernel
theorem dX8_image_61 : decode cX8_image 61 = .ok (.getfield 119, 3) := by decide +kernel
theorem dX8_image_64 : decode cX8_image 64 = .ok (.ireturn, 1) := by decide +kernel
theorem dX8_undo_0 : decode cX8_undo 0 = .ok (.aload_n 0, 1) := by decide +kernel
theorem dX8_undo_1 : decode cX8_undo 1 = .ok (.getfield 341, 3) := by decide +kernel
theorem dX8_undo_4 : decode cX8_undo 4 = .ok (.ifCond .ne 6, 3) := by decide +kernel
theorem dX8_undo_7 : decode cX8_undo 7 = .ok (.bipush (-3), 2) := by decide +kernel
theorem dX8_undo_9 : decode cX8_undo 9 = .ok (.ireturn, 1) := by decide +kernel
theorem dX8_undo_10 : decode cX8_undo 10 = .ok (.aload_n 0, 1) := by decide +kernel
theorem dX8_undo_11 : decode cX8_undo 11 = .ok (.iconst 1, 1) := by decide +kernel
theorem dX8_undo_12 : decode cX8_undo 12 = .ok (.invokevirtual 345, 3) := by decide +kernel
theorem dX8_undo_15 : decode cX8_undo 15 = .ok (.aload_n 0, 1) := by decide +kernel
theorem dX8_undo_16 : decode cX8_undo 16 = .ok (.aload_n 0, 1) := by decide +kernel
theorem dX8_undo_17 : decode cX8_undo 17 = .ok (.getfield 100, 3) := by decide +kernel
theorem dX8_undo_20 : decode cX8_undo 20 = .ok (.iconst 0, 1) := by decide +kernel
theorem dX8_undo_21 : decode cX8_undo 21 = .ok (.iaload, 1) := by decide +kernel
theorem dX8_undo_22 : decode cX8_undo 22 = .ok (.putfield 119, 3) := by decide +kernel
theorem dX8_undo_25 : decode cX8_undo 25 = .ok (.aload_n 0, 1) := by decide +kernel
theorem dX8_undo_26 : decode cX8_undo 26 = .ok (.aload_n 0, 1) := by decide +kernel
theorem dX8_undo_27 : decode cX8_undo 27 = .ok (.getfield 100, 3) := by decide +kernel
theorem dX8_undo_30 : decode cX8_undo 30 = .ok (.iconst 1, 1) := by decide +kernel
theorem dX8_undo_31 : decode cX8_undo 31 = .ok (.iaload, 1) := by decide +kernel
theorem dX8_undo_32 : decode cX8_undo 32 = .ok (.putfield 152, 3) := by decide +kernel
theorem dX8_undo_35 : decode cX8_undo 35 = .ok (.aload_n 0, 1) := by decide +kernel
theorem dX8_undo_36 : decode cX8_undo 36 = .ok (.aload_n 0, 1) := by decide +kernel
theorem dX8_undo_37 : decode cX8_undo 37 = .ok (.getfield 100, 3) := by decide +kernel
theorem dX8_undo_40 : decode cX8_undo 40 = .ok (.iconst 2, 1) := by decide +kernel
theorem dX8_undo_41 : decode cX8_undo 41 = .ok (.iaload, 1) := by decide +kernel
theorem dX8_undo_42 : decode cX8_undo 42 = .ok (.putfield 145, 3) := by decide +kernel
theorem dX8_undo_45 : decode cX8_undo 45 = .ok (.aload_n 0, 1) := by decide +kernel
theorem dX8_undo_46 : decode cX8_undo 46 = .ok (.aload_n 0, 1) := by decide +kernel
theorem dX8_undo_47 : decode cX8_undo 47 = .ok (.getfield 100, 3) := by decide +kernel
theorem dX8_undo_50 : decode cX8_undo 50 = .ok (.iconst 3, 1) := by decide +kernel
theorem dX8_undo_51 : decode cX8_undo 51 = .ok (.iaload, 1) := by decide +kernel
theorem dX8_undo_52 : decode cX8_undo 52 = .ok (.putfield 318, 3) := by decide +kernel
theorem dX8_undo_55 : decode cX8_undo 55 = .ok (.aload_n 0, 1) := by decide +kernel
theorem dX8_undo_56 : decode cX8_undo 56 = .ok (.aload_n 0, 1) := by decide +kernel
theorem dX8_undo_57 : decode cX8_undo 57 = .ok (.getfield 100, 3) := by decide +kernel
theorem dX8_undo_60 : decode cX8_undo 60 = .ok (.iconst 4, 1) := by decide +kernel
theorem dX8_undo_61 : decode cX8_undo 61 = .ok (.iaload, 1) := by decide +kernel
theorem dX8_undo_62 : decode cX8_undo 62 = .ok (.putfield 324, 3) := by decide +kernel
theorem dX8_undo_65 : decode cX8_undo 65 = .ok (.aload_n 0, 1) := by decide +kernel
theorem dX8_undo_66 : decode cX8_undo 66 = .ok (.getfield 119, 3) := by decide +kernel
theorem dX8_undo_69 : decode cX8_undo 69 = .ok (.ireturn, 1) := by decide +kernel
theorem dX8_count_0 : decode cX8_count 0 = .ok (.iload_n 1, 1) := by decide +kernel
theorem dX8_count_1 : decode cX8_count 1 = .ok (.tableswitch 51 0 3 #[31, 36, 41, 46], 31) := by decide +kernel
theorem dX8_count_32 : decode cX8_count 32 = .ok (.aload_n 0, 1) := by decide +kernel
theorem dX8_count_33 : decode cX8_count 33 = .ok (.getfield 318, 3) := by decide +kernel
theorem dX8_count_36 : decode cX8_count 36 = .ok (.ireturn, 1) := by decide +kernel
theorem dX8_count_37 : decode cX8_count 37 = .ok (.aload_n 0, 1) := by decide +kernel
theorem dX8_count_38 : decode cX8_count 38 = .ok (.getfield 324, 3) := by decide +kernel
theorem dX8_count_41 : decode cX8_count 41 = .ok (.ireturn, 1) := by decide +kernel
theorem dX8_count_42 : decode cX8_count 42 = .ok (.aload_n 0, 1) := by decide +kernel
theorem dX8_count_43 : decode cX8_count 43 = .ok (.getfield 270, 3) := by decide +kernel
theorem dX8_count_46 : decode cX8_count 46 = .ok (.ireturn, 1) := by decide +kernel
theorem dX8_count_47 : decode cX8_count 47 = .ok (.aload_n 0, 1) := by decide +kernel
theorem dX8_count_48 : decode cX8_count 48 = .ok (.getfield 303, 3) := by decide +kernel
theorem dX8_count_51 : decode cX8_count 51 = .ok (.ireturn, 1) := by decide +kernel
theorem dX8_count_52 : decode cX8_count 52 = .ok (.bipush (-2), 2) := by decide +kernel
theorem dX8_count_54 : decode cX8_count 54 = .ok (.ireturn, 1) := by decide +kernel
theorem dX8_isTape_0 : decode cX8_isTape 0 = .ok (.iload_n 0, 1) := by decide +kernel
theorem dX8_isTape_1 : decode cX8_isTape 1 = .ok (.iconst 0, 1) := by decide +kernel
theorem dX8_isTape_2 : decode cX8_isTape 2 = .ok (.iconst 5, 1) := by decide +kernel
theorem dX8_isTape_3 : decode cX8_isTape 3 = .ok (.invokestatic 122, 3) := by decide +kernel
theorem dX8_isTape_6 : decode cX8_isTape 6 = .ok (.ireturn, 1) := by decide +kernel
theorem dX8_tape_0 : decode cX8_tape 0 = .ok (.iload_n 1, 1) := by decide +kernel
theorem dX8_tape_1 : decode cX8_tape 1 = .ok (.invokestatic 334, 3) := by decide +kernel
theorem dX8_tape_4 : decode cX8_tape 4 = .ok (.ifCond .ne 5, 3) := by decide +kernel
theorem dX8_tape_7 : decode cX8_tape 7 = .ok (.iconst (-1), 1) := by decide +kernel
theorem dX8_tape_8 : decode cX8_tape 8 = .ok (.ireturn, 1) := by decide +kernel
theorem dX8_tape_9 : decode cX8_tape 9 = .ok (.iload_n 2, 1) := by decide +kernel
theorem dX8_tape_10 : decode cX8_tape 10 = .ok (.iconst (-1), 1) := by decide +kernel
theorem dX8_tape_11 : decode cX8_tape 11 = .ok (.iconst 4, 1) := by decide +kernel
theorem dX8_tape_12 : decode cX8_tape 12 = .ok (.invokestatic 122, 3) := by decide +kernel
theorem dX8_tape_15 : decode cX8_tape 15 = .ok (.ifCond .eq 14, 3) := by decide +kernel
theorem dX8_tape_18 : decode cX8_tape 18 = .ok (.iload_n 2, 1) := by decide +kernel
theorem dX8_tape_19 : decode cX8_tape 19 = .ok (.iconst (-1), 1) := by decide +kernel
theorem dX8_tape_20 : decode cX8_tape 20 = .ok (.if_icmp .eq 12, 3) := by decide +kernel
theorem dX8_tape_23 : decode cX8_tape 23 = .ok (.iload_n 3, 1) := by decide +kernel
theorem dX8_tape_24 : decode cX8_tape 24 = .ok (.bipush 60, 2) := by decide +kernel
theorem dX8_tape_26 : decode cX8_tape 26 = .ok (.if_icmp .le 6, 3) := by decide +kernel
theorem dX8_tape_29 : decode cX8_tape 29 = .ok (.bipush (-2), 2) := by decide +kernel
theorem dX8_tape_31 : decode cX8_tape 31 = .ok (.ireturn, 1) := by decide +kernel
theorem dX8_tape_32 : decode cX8_tape 32 = .ok (.iload_n 2, 1) := by decide +kernel
theorem dX8_tape_33 : decode cX8_tape 33 = .ok (.iconst (-1), 1) := by decide +kernel
theorem dX8_tape_34 : decode cX8_tape 34 = .ok (.if_icmp .eq 10, 3) := by decide +kernel
theorem dX8_tape_37 : decode cX8_tape 37 = .ok (.iload_n 3, 1) := by decide +kernel
theorem dX8_tape_38 : decode cX8_tape 38 = .ok (.ifCond .ge 6, 3) := by decide +kernel
theorem dX8_tape_41 : decode cX8_tape 41 = .ok (.bipush (-14), 2) := by decide +kernel
theorem dX8_tape_43 : decode cX8_tape 43 = .ok (.ireturn, 1) := by decide +kernel
theorem dX8_tape_44 : decode cX8_tape 44 = .ok (.aload_n 0, 1) := by decide +kernel
theorem dX8_tape_45 : decode cX8_tape 45 = .ok (.getfield 103, 3) := by decide +kernel
theorem dX8_tape_48 : decode cX8_tape 48 = .ok (.iload_n 1, 1) := by decide +kernel
theorem dX8_tape_49 : decode cX8_tape 49 = .ok (.iload_n 2, 1) := by decide +kernel
theorem dX8_tape_50 : decode cX8_tape 50 = .ok (.iastore, 1) := by decide +kernel
theorem dX8_tape_51 : decode cX8_tape 51 = .ok (.aload_n 0, 1) := by decide +kernel
theorem dX8_tape_52 : decode cX8_tape 52 = .ok (.getfield 106, 3) := by decide +kernel
theorem dX8_tape_55 : decode cX8_tape 55 = .ok (.iload_n 1, 1) := by decide +kernel
theorem dX8_tape_56 : decode cX8_tape 56 = .ok (.iload_n 2, 1) := by decide +kernel
theorem dX8_tape_57 : decode cX8_tape 57 = .ok (.iconst (-1), 1) := by decide +kernel
theorem dX8_tape_58 : decode cX8_tape 58 = .ok (.if_icmp .ne 7, 3) := by decide +kernel
theorem dX8_tape_61 : decode cX8_tape 61 = .ok (.iconst 0, 1) := by decide +kernel
theorem dX8_tape_62 : decode cX8_tape 62 = .ok (.goto 4, 3) := by decide +kernel
theorem dX8_tape_65 : decode cX8_tape 65 = .ok (.iload_n 3, 1) := by decide +kernel
theorem dX8_tape_66 : decode cX8_tape 66 = .ok (.iastore, 1) := by decide +kernel
theorem dX8_tape_67 : decode cX8_tape 67 = .ok (.iconst 0, 1) := by decide +kernel
theorem dX8_tape_68 : decode cX8_tape 68 = .ok (.istore 4, 2) := by decide +kernel
theorem dX8_tape_70 : decode cX8_tape 70 = .ok (.iload 4, 2) := by decide +kernel
theorem dX8_tape_72 : decode cX8_tape 72 = .ok (.bipush 60, 2) := by decide +kernel
theorem dX8_tape_74 : decode cX8_tape 74 = .ok (.if_icmp .ge 22, 3) := by decide +kernel
theorem dX8_tape_77 : decode cX8_tape 77 = .ok (.aload_n 0, 1) := by decide +kernel
theorem dX8_tape_78 : decode cX8_tape 78 = .ok (.getfield 109, 3) := by decide +kernel
theorem dX8_tape_81 : decode cX8_tape 81 = .ok (.bipush 60, 2) := by decide +kernel
theorem dX8_tape_83 : decode cX8_tape 83 = .ok (.iload_n 1, 1) := by decide +kernel
theorem dX8_tape_84 : decode cX8_tape 84 = .ok (.imul, 1) := by decide +kernel
theorem dX8_tape_85 : decode cX8_tape 85 = .ok (.iload 4, 2) := by decide +kernel
theorem dX8_tape_87 : decode cX8_tape 87 = .ok (.iadd, 1) := by decide +kernel
theorem dX8_tape_88 : decode cX8_tape 88 = .ok (.lconst 0, 1) := by decide +kernel
theorem dX8_tape_89 : decode cX8_tape 89 = .ok (.lastore, 1) := by decide +kernel
theorem dX8_tape_90 : decode cX8_tape 90 = .ok (.iinc 4 1, 3) := by decide +kernel
theorem dX8_tape_93 : decode cX8_tape 93 = .ok (.goto (-23), 3) := by decide +kernel
theorem dX8_tape_96 : decode cX8_tape 96 = .ok (.iconst 1, 1) := by decide +kernel
theorem dX8_tape_97 : decode cX8_tape 97 = .ok (.ireturn, 1) := by decide +kernel
theorem dX8_heldBy__0 : decode cX8_heldBy_ 0 = .ok (.iload_n 0, 1) := by decide +kernel
theorem dX8_heldBy__1 : decode cX8_heldBy_ 1 = .ok (.tableswitch 47 0 3 #[31, 36, 41, 45], 31) := by decide +kernel
theorem dX8_heldBy__32 : decode cX8_heldBy_ 32 = .ok (.lload_n 1, 1) := by decide +kernel
theorem dX8_heldBy__33 : decode cX8_heldBy_ 33 = .ok (.l2i, 1) := by decide +kernel
theorem dX8_heldBy__34 : decode cX8_heldBy_ 34 = .ok (.i2b, 1) := by decide +kernel
theorem dX8_heldBy__35 : decode cX8_heldBy_ 35 = .ok (.i2l, 1) := by decide +kernel
theorem dX8_heldBy__36 : decode cX8_heldBy_ 36 = .ok (.lreturn, 1) := by decide +kernel
theorem dX8_heldBy__37 : decode cX8_heldBy_ 37 = .ok (.lload_n 1, 1) := by decide +kernel
theorem dX8_heldBy__38 : decode cX8_heldBy_ 38 = .ok (.l2i, 1) := by decide +kernel
theorem dX8_heldBy__39 : decode cX8_heldBy_ 39 = .ok (.i2s, 1) := by decide +kernel
theorem dX8_heldBy__40 : decode cX8_heldBy_ 40 = .ok (.i2l, 1) := by decide +kernel
theorem dX8_heldBy__41 : decode cX8_heldBy_ 41 = .ok (.lreturn, 1) := by decide +kernel
theorem dX8_heldBy__42 : decode cX8_heldBy_ 42 = .ok (.lload_n 1, 1) := by decide +kernel
theorem dX8_heldBy__43 : decode cX8_heldBy_ 43 = .ok (.l2i, 1) := by decide +kernel
theorem dX8_heldBy__44 : decode cX8_heldBy_ 44 = .ok (.i2l, 1) := by decide +kernel
theorem dX8_heldBy__45 : decode cX8_heldBy_ 45 = .ok (.lreturn, 1) := by decide +kernel
theorem dX8_heldBy__46 : decode cX8_heldBy_ 46 = .ok (.lload_n 1, 1) := by decide +kernel
theorem dX8_heldBy__47 : decode cX8_heldBy_ 47 = .ok (.lreturn, 1) := by decide +kernel
theorem dX8_heldBy__48 : decode cX8_heldBy_ 48 = .ok (.lload_n 1, 1) := by decide +kernel
theorem dX8_heldBy__49 : decode cX8_heldBy_ 49 = .ok (.lconst 0, 1) := by decide +kernel
theorem dX8_heldBy__50 : decode cX8_heldBy_ 50 = .ok (.lcmp, 1) := by decide +kernel
theorem dX8_heldBy__51 : decode cX8_heldBy_ 51 = .ok (.ifCond .eq 7, 3) := by decide +kernel
theorem dX8_heldBy__54 : decode cX8_heldBy_ 54 = .ok (.lconst 1, 1) := by decide +kernel
theorem dX8_heldBy__55 : decode cX8_heldBy_ 55 = .ok (.goto 4, 3) := by decide +kernel
theorem dX8_heldBy__58 : decode cX8_heldBy_ 58 = .ok (.lconst 0, 1) := by decide +kernel
theorem dX8_heldBy__59 : decode cX8_heldBy_ 59 = .ok (.lreturn, 1) := by decide +kernel
theorem dX8_item_0 : decode cX8_item 0 = .ok (.iload_n 1, 1) := by decide +kernel
theorem dX8_item_1 : decode cX8_item 1 = .ok (.invokestatic 334, 3) := by decide +kernel
theorem dX8_item_4 : decode cX8_item 4 = .ok (.ifCond .ne 5, 3) := by decide +kernel
theorem dX8_item_7 : decode cX8_item 7 = .ok (.iconst (-1), 1) := by decide +kernel
theorem dX8_item_8 : decode cX8_item 8 = .ok (.ireturn, 1) := by decide +kernel
theorem dX8_item_9 : decode cX8_item 9 = .ok (.aload_n 0, 1) := by decide +kernel
theorem dX8_item_10 : decode cX8_item 10 = .ok (.getfield 103, 3) := by decide +kernel
theorem dX8_item_13 : decode cX8_item 13 = .ok (.iload_n 1, 1) := by decide +kernel
theorem dX8_item_14 : decode cX8_item 14 = .ok (.iaload, 1) := by decide +kernel
theorem dX8_item_15 : decode cX8_item 15 = .ok (.iconst (-1), 1) := by decide +kernel
theorem dX8_item_16 : decode cX8_item 16 = .ok (.if_icmp .ne 6, 3) := by decide +kernel
theorem dX8_item_19 : decode cX8_item 19 = .ok (.bipush (-11), 2) := by decide +kernel
theorem dX8_item_21 : decode cX8_item 21 = .ok (.ireturn, 1) := by decide +kernel
theorem dX8_item_22 : decode cX8_item 22 = .ok (.iload_n 2, 1) := by decide +kernel
theorem dX8_item_23 : decode cX8_item 23 = .ok (.iconst 0, 1) := by decide +kernel
theorem dX8_item_24 : decode cX8_item 24 = .ok (.aload_n 0, 1) := by decide +kernel
theorem dX8_item_25 : decode cX8_item 25 = .ok (.getfield 106, 3) := by decide +kernel
theorem dX8_item_28 : decode cX8_item 28 = .ok (.iload_n 1, 1) := by decide +kernel
theorem dX8_item_29 : decode cX8_item 29 = .ok (.iaload, 1) := by decide +kernel
theorem dX8_item_30 : decode cX8_item 30 = .ok (.iconst 1, 1) := by decide +kernel
theorem dX8_item_31 : decode cX8_item 31 = .ok (.isub, 1) := by decide +kernel
theorem dX8_item_32 : decode cX8_item 32 = .ok (.invokestatic 122, 3) := by decide +kernel
theorem dX8_item_35 : decode cX8_item 35 = .ok (.ifCond .ne 6, 3) := by decide +kernel
theorem dX8_item_38 : decode cX8_item 38 = .ok (.bipush (-13), 2) := by decide +kernel
theorem dX8_item_40 : decode cX8_item 40 = .ok (.ireturn, 1) := by decide +kernel
theorem dX8_item_41 : decode cX8_item 41 = .ok (.aload_n 0, 1) := by decide +kernel
theorem dX8_item_42 : decode cX8_item 42 = .ok (.getfield 109, 3) := by decide +kernel
theorem dX8_item_45 : decode cX8_item 45 = .ok (.bipush 60, 2) := by decide +kernel
theorem dX8_item_47 : decode cX8_item 47 = .ok (.iload_n 1, 1) := by decide +kernel
theorem dX8_item_48 : decode cX8_item 48 = .ok (.imul, 1) := by decide +kernel
theorem dX8_item_49 : decode cX8_item 49 = .ok (.iload_n 2, 1) := by decide +kernel
theorem dX8_item_50 : decode cX8_item 50 = .ok (.iadd, 1) := by decide +kernel
theorem dX8_item_51 : decode cX8_item 51 = .ok (.aload_n 0, 1) := by decide +kernel
theorem dX8_item_52 : decode cX8_item 52 = .ok (.getfield 103, 3) := by decide +kernel
theorem dX8_item_55 : decode cX8_item 55 = .ok (.iload_n 1, 1) := by decide +kernel
theorem dX8_item_56 : decode cX8_item 56 = .ok (.iaload, 1) := by decide +kernel
theorem dX8_item_57 : decode cX8_item 57 = .ok (.lload_n 3, 1) := by decide +kernel
theorem dX8_item_58 : decode cX8_item 58 = .ok (.invokestatic 349, 3) := by decide +kernel
theorem dX8_item_61 : decode cX8_item 61 = .ok (.lastore, 1) := by decide +kernel
theorem dX8_item_62 : decode cX8_item 62 = .ok (.iconst 1, 1) := by decide +kernel
theorem dX8_item_63 : decode cX8_item 63 = .ok (.ireturn, 1) := by decide +kernel
theorem dX8_peek_0 : decode cX8_peek 0 = .ok (.iload_n 1, 1) := by decide +kernel
theorem dX8_peek_1 : decode cX8_peek 1 = .ok (.invokestatic 334, 3) := by decide +kernel
theorem dX8_peek_4 : decode cX8_peek 4 = .ok (.ifCond .eq 43, 3) := by decide +kernel
theorem dX8_peek_7 : decode cX8_peek 7 = .ok (.aload_n 0, 1) := by decide +kernel
theorem dX8_peek_8 : decode cX8_peek 8 = .ok (.getfield 103, 3) := by decide +kernel
theorem dX8_peek_11 : decode cX8_peek 11 = .ok (.iload_n 1, 1) := by decide +kernel
theorem dX8_peek_12 : decode cX8_peek 12 = .ok (.iaload, 1) := by decide +kernel
theorem dX8_peek_13 : decode cX8_peek 13 = .ok (.iconst (-1), 1) := by decide +kernel
theorem dX8_peek_14 : decode cX8_peek 14 = .ok (.if_icmp .eq 33, 3) := by decide +kernel
theorem dX8_peek_17 : decode cX8_peek 17 = .ok (.iload_n 2, 1) := by decide +kernel
theorem dX8_peek_18 : decode cX8_peek 18 = .ok (.iconst 0, 1) := by decide +kernel
theorem dX8_peek_19 : decode cX8_peek 19 = .ok (.aload_n 0, 1) := by decide +kernel
theorem dX8_peek_20 : decode cX8_peek 20 = .ok (.getfield 106, 3) := by decide +kernel
theorem dX8_peek_23 : decode cX8_peek 23 = .ok (.iload_n 1, 1) := by decide +kernel
theorem dX8_peek_24 : decode cX8_peek 24 = .ok (.iaload, 1) := by decide +kernel
theorem dX8_peek_25 : decode cX8_peek 25 = .ok (.iconst 1, 1) := by decide +kernel
theorem dX8_peek_26 : decode cX8_peek 26 = .ok (.isub, 1) := by decide +kernel
theorem dX8_peek_27 : decode cX8_peek 27 = .ok (.invokestatic 122, 3) := by decide +kernel
theorem dX8_peek_30 : decode cX8_peek 30 = .ok (.ifCond .eq 17, 3) := by decide +kernel
theorem dX8_peek_33 : decode cX8_peek 33 = .ok (.aload_n 0, 1) := by decide +kernel
theorem dX8_peek_34 : decode cX8_peek 34 = .ok (.getfield 109, 3) := by decide +kernel
theorem dX8_peek_37 : decode cX8_peek 37 = .ok (.bipush 60, 2) := by decide +kernel
theorem dX8_peek_39 : decode cX8_peek 39 = .ok (.iload_n 1, 1) := by decide +kernel
theorem dX8_peek_40 : decode cX8_peek 40 = .ok (.imul, 1) := by decide +kernel
theorem dX8_peek_41 : decode cX8_peek 41 = .ok (.iload_n 2, 1) := by decide +kernel
theorem dX8_peek_42 : decode cX8_peek 42 = .ok (.iadd, 1) := by decide +kernel
theorem dX8_peek_43 : decode cX8_peek 43 = .ok (.laload, 1) := by decide +kernel
theorem dX8_peek_44 : decode cX8_peek 44 = .ok (.goto 6, 3) := by decide +kernel
theorem dX8_peek_47 : decode cX8_peek 47 = .ok (.ldc2_w 240, 3) := by decide +kernel
theorem dX8_peek_50 : decode cX8_peek 50 = .ok (.lreturn, 1) := by decide +kernel
theorem dX8_shift_0 : decode cX8_shift 0 = .ok (.iload_n 1, 1) := by decide +kernel
theorem dX8_shift_1 : decode cX8_shift 1 = .ok (.invokestatic 334, 3) := by decide +kernel
theorem dX8_shift_4 : decode cX8_shift 4 = .ok (.ifCond .eq 10, 3) := by decide +kernel
theorem dX8_shift_7 : decode cX8_shift 7 = .ok (.iload_n 3, 1) := by decide +kernel
theorem dX8_shift_8 : decode cX8_shift 8 = .ok (.invokestatic 334, 3) := by decide +kernel
theorem dX8_shift_11 : decode cX8_shift 11 = .ok (.ifCond .ne 5, 3) := by decide +kernel
theorem dX8_shift_14 : decode cX8_shift 14 = .ok (.iconst (-1), 1) := by decide +kernel
theorem dX8_shift_15 : decode cX8_shift 15 = .ok (.ireturn, 1) := by decide +kernel
theorem dX8_shift_16 : decode cX8_shift 16 = .ok (.aload_n 0, 1) := by decide +kernel
theorem dX8_shift_17 : decode cX8_shift 17 = .ok (.getfield 103, 3) := by decide +kernel
theorem dX8_shift_20 : decode cX8_shift 20 = .ok (.iload_n 1, 1) := by decide +kernel
theorem dX8_shift_21 : decode cX8_shift 21 = .ok (.iaload, 1) := by decide +kernel
theorem dX8_shift_22 : decode cX8_shift 22 = .ok (.iconst (-1), 1) := by decide +kernel
theorem dX8_shift_23 : decode cX8_shift 23 = .ok (.if_icmp .eq 13, 3) := by decide +kernel
theorem dX8_shift_26 : decode cX8_shift 26 = .ok (.aload_n 0, 1) := by decide +kernel
theorem dX8_shift_27 : decode cX8_shift 27 = .ok (.getfield 103, 3) := by decide +kernel
theorem dX8_shift_30 : decode cX8_shift 30 = .ok (.iload_n 3, 1) := by decide +kernel
theorem dX8_shift_31 : decode cX8_shift 31 = .ok (.iaload, 1) := by decide +kernel
theorem dX8_shift_32 : decode cX8_shift 32 = .ok (.iconst (-1), 1) := by decide +kernel
theorem dX8_shift_33 : decode cX8_shift 33 = .ok (.if_icmp .ne 6, 3) := by decide +kernel
theorem dX8_shift_36 : decode cX8_shift 36 = .ok (.bipush (-11), 2) := by decide +kernel
theorem dX8_shift_38 : decode cX8_shift 38 = .ok (.ireturn, 1) := by decide +kernel
theorem dX8_shift_39 : decode cX8_shift 39 = .ok (.aload_n 0, 1) := by decide +kernel
theorem dX8_shift_40 : decode cX8_shift 40 = .ok (.getfield 103, 3) := by decide +kernel
theorem dX8_shift_43 : decode cX8_shift 43 = .ok (.iload_n 1, 1) := by decide +kernel
theorem dX8_shift_44 : decode cX8_shift 44 = .ok (.iaload, 1) := by decide +kernel
theorem dX8_shift_45 : decode cX8_shift 45 = .ok (.aload_n 0, 1) := by decide +kernel
theorem dX8_shift_46 : decode cX8_shift 46 = .ok (.getfield 103, 3) := by decide +kernel
theorem dX8_shift_49 : decode cX8_shift 49 = .ok (.iload_n 3, 1) := by decide +kernel
theorem dX8_shift_50 : decode cX8_shift 50 = .ok (.iaload, 1) := by decide +kernel
theorem dX8_shift_51 : decode cX8_shift 51 = .ok (.if_icmp .eq 6, 3) := by decide +kernel
theorem dX8_shift_54 : decode cX8_shift 54 = .ok (.bipush (-12), 2) := by decide +kernel
theorem dX8_shift_56 : decode cX8_shift 56 = .ok (.ireturn, 1) := by decide +kernel
theorem dX8_shift_57 : decode cX8_shift 57 = .ok (.iload 5, 2) := by decide +kernel
theorem dX8_shift_59 : decode cX8_shift 59 = .ok (.ifCond .lt 60, 3) := by decide +kernel
theorem dX8_shift_62 : decode cX8_shift 62 = .ok (.iload_n 2, 1) := by decide +kernel
theorem dX8_shift_63 : decode cX8_shift 63 = .ok (.ifCond .lt 56, 3) := by decide +kernel
theorem dX8_shift_66 : decode cX8_shift 66 = .ok (.iload 4, 2) := by decide +kernel
theorem dX8_shift_68 : decode cX8_shift 68 = .ok (.ifCond .lt 51, 3) := by decide +kernel
theorem dX8_shift_71 : decode cX8_shift 71 = .ok (.iload_n 2, 1) := by decide +kernel
theorem dX8_shift_72 : decode cX8_shift 72 = .ok (.aload_n 0, 1) := by decide +kernel
theorem dX8_shift_73 : decode cX8_shift 73 = .ok (.getfield 106, 3) := by decide +kernel
theorem dX8_shift_76 : decode cX8_shift 76 = .ok (.iload_n 1, 1) := by decide +kernel
theorem dX8_shift_77 : decode cX8_shift 77 = .ok (.iaload, 1) := by decide +kernel
theorem dX8_shift_78 : decode cX8_shift 78 = .ok (.if_icmp .gt 41, 3) := by decide +kernel
theorem dX8_shift_81 : decode cX8_shift 81 = .ok (.iload 4, 2) := by decide +kernel
theorem dX8_shift_83 : decode cX8_shift 83 = .ok (.aload_n 0, 1) := by decide +kernel
theorem dX8_shift_84 : decode cX8_shift 84 = .ok (.getfield 106, 3) := by decide +kernel
theorem dX8_shift_87 : decode cX8_shift 87 = .ok (.iload_n 3, 1) := by decide +kernel
theorem dX8_shift_88 : decode cX8_shift 88 = .ok (.iaload, 1) := by decide +kernel
theorem dX8_shift_89 : decode cX8_shift 89 = .ok (.if_icmp .gt 30, 3) := by decide +kernel
theorem dX8_shift_92 : decode cX8_shift 92 = .ok (.iload 5, 2) := by decide +kernel
theorem dX8_shift_94 : decode cX8_shift 94 = .ok (.aload_n 0, 1) := by decide +kernel
theorem dX8_shift_95 : decode cX8_shift 95 = .ok (.getfield 106, 3) := by decide +kernel
theorem dX8_shift_98 : decode cX8_shift 98 = .ok (.iload_n 1, 1) := by decide +kernel
theorem dX8_shift_99 : decode cX8_shift 99 = .ok (.iaload, 1) := by decide +kernel
theorem dX8_shift_100 : decode cX8_shift 100 = .ok (.iload_n 2, 1) := by decide +kernel
theorem dX8_shift_101 : decode cX8_shift 101 = .ok (.isub, 1) := by decide +kernel
theorem dX8_shift_102 : decode cX8_shift 102 = .ok (.if_icmp .gt 17, 3) := by decide +kernel
theorem dX8_shift_105 : decode cX8_shift 105 = .ok (.iload 5, 2) := by decide +kernel
theorem dX8_shift_107 : decode cX8_shift 107 = .ok (.aload_n 0, 1) := by decide +kernel
theorem dX8_shift_108 : decode cX8_shift 108 = .ok (.getfield 106, 3) := by decide +kernel
theorem dX8_shift_111 : decode cX8_shift 111 = .ok (.iload_n 3, 1) := by decide +kernel
theorem dX8_shift_112 : decode cX8_shift 112 = .ok (.iaload, 1) := by decide +kernel
theorem dX8_shift_113 : decode cX8_shift 113 = .ok (.iload 4, 2) := by decide +kernel
theorem dX8_shift_115 : decode cX8_shift 115 = .ok (.isub, 1) := by decide +kernel
theorem dX8_shift_116 : decode cX8_shift 116 = .ok (.if_icmp .le 6, 3) := by decide +kernel
theorem dX8_shift_119 : decode cX8_shift 119 = .ok (.bipush (-13), 2) := by decide +kernel
theorem dX8_shift_121 : decode cX8_shift 121 = .ok (.ireturn, 1) := by decide +kernel
theorem dX8_shift_122 : decode cX8_shift 122 = .ok (.iconst 0, 1) := by decide +kernel
theorem dX8_shift_123 : decode cX8_shift 123 = .ok (.istore 6, 2) := by decide +kernel
theorem dX8_shift_125 : decode cX8_shift 125 = .ok (.iload 6, 2) := by decide +kernel
theorem dX8_shift_127 : decode cX8_shift 127 = .ok (.iload 5, 2) := by decide +kernel
theorem dX8_shift_129 : decode cX8_shift 129 = .ok (.if_icmp .ge 30, 3) := by decide +kernel
theorem dX8_shift_132 : decode cX8_shift 132 = .ok (.aload_n 0, 1) := by decide +kernel
theorem dX8_shift_133 : decode cX8_shift 133 = .ok (.getfield 112, 3) := by decide +kernel
theorem dX8_shift_136 : decode cX8_shift 136 = .ok (.iload 6, 2) := by decide +kernel
theorem dX8_shift_138 : decode cX8_shift 138 = .ok (.aload_n 0, 1) := by decide +kernel
theorem dX8_shift_139 : decode cX8_shift 139 = .ok (.getfield 109, 3) := by decide +kernel
theorem dX8_shift_142 : decode cX8_shift 142 = .ok (.bipush 60, 2) := by decide +kernel
theorem dX8_shift_144 : decode cX8_shift 144 = .ok (.iload_n 1, 1) := by decide +kernel
theorem dX8_shift_145 : decode cX8_shift 145 = .ok (.imul, 1) := by decide +kernel
theorem dX8_shift_146 : decode cX8_shift 146 = .ok (.iload_n 2, 1) := by decide +kernel
theorem dX8_shift_147 : decode cX8_shift 147 = .ok (.iadd, 1) := by decide +kernel
theorem dX8_shift_148 : decode cX8_shift 148 = .ok (.iload 6, 2) := by decide +kernel
theorem dX8_shift_150 : decode cX8_shift 150 = .ok (.iadd, 1) := by decide +kernel
theorem dX8_shift_151 : decode cX8_shift 151 = .ok (.laload, 1) := by decide +kernel
theorem dX8_shift_152 : decode cX8_shift 152 = .ok (.lastore, 1) := by decide +kernel
theorem dX8_shift_153 : decode cX8_shift 153 = .ok (.iinc 6 1, 3) := by decide +kernel
theorem dX8_shift_156 : decode cX8_shift 156 = .ok (.goto (-31), 3) := by decide +kernel
theorem dX8_shift_159 : decode cX8_shift 159 = .ok (.iconst 0, 1) := by decide +kernel
theorem dX8_shift_160 : decode cX8_shift 160 = .ok (.istore 6, 2) := by decide +kernel
theorem dX8_shift_162 : decode cX8_shift 162 = .ok (.iload 6, 2) := by decide +kernel
theorem dX8_shift_164 : decode cX8_shift 164 = .ok (.iload 5, 2) := by decide +kernel
theorem dX8_shift_166 : decode cX8_shift 166 = .ok (.if_icmp .ge 31, 3) := by decide +kernel
theorem dX8_shift_169 : decode cX8_shift 169 = .ok (.aload_n 0, 1) := by decide +kernel
theorem dX8_shift_170 : decode cX8_shift 170 = .ok (.getfield 109, 3) := by decide +kernel
theorem dX8_shift_173 : decode cX8_shift 173 = .ok (.bipush 60, 2) := by decide +kernel
theorem dX8_shift_175 : decode cX8_shift 175 = .ok (.iload_n 3, 1) := by decide +kernel
theorem dX8_shift_176 : decode cX8_shift 176 = .ok (.imul, 1) := by decide +kernel
theorem dX8_shift_177 : decode cX8_shift 177 = .ok (.iload 4, 2) := by decide +kernel
theorem dX8_shift_179 : decode cX8_shift 179 = .ok (.iadd, 1) := by decide +kernel
theorem dX8_shift_180 : decode cX8_shift 180 = .ok (.iload 6, 2) := by decide +kernel
theorem dX8_shift_182 : decode cX8_shift 182 = .ok (.iadd, 1) := by decide +kernel
theorem dX8_shift_183 : decode cX8_shift 183 = .ok (.aload_n 0, 1) := by decide +kernel
theorem dX8_shift_184 : decode cX8_shift 184 = .ok (.getfield 112, 3) := by decide +kernel
theorem dX8_shift_187 : decode cX8_shift 187 = .ok (.iload 6, 2) := by decide +kernel
theorem dX8_shift_189 : decode cX8_shift 189 = .ok (.laload, 1) := by decide +kernel
theorem dX8_shift_190 : decode cX8_shift 190 = .ok (.lastore, 1) := by decide +kernel
theorem dX8_shift_191 : decode cX8_shift 191 = .ok (.iinc 6 1, 3) := by decide +kernel
theorem dX8_shift_194 : decode cX8_shift 194 = .ok (.goto (-32), 3) := by decide +kernel
theorem dX8_shift_197 : decode cX8_shift 197 = .ok (.iload 5, 2) := by decide +kernel
theorem dX8_shift_199 : decode cX8_shift 199 = .ok (.ireturn, 1) := by decide +kernel
