theorem d_law_0 : decode code 0 = .ok (.new 7, 3) := by decide +kernel
theorem d_law_3 : decode code 3 = .ok (.dup, 1) := by decide +kernel
theorem d_law_4 : decode code 4 = .ok (.invokespecial 9, 3) := by decide +kernel
theorem d_law_7 : decode code 7 = .ok (.astore_n 1, 1) := by decide +kernel
theorem d_law_8 : decode code 8 = .ok (.new 10, 3) := by decide +kernel
theorem d_law_11 : decode code 11 = .ok (.dup, 1) := by decide +kernel
theorem d_law_12 : decode code 12 = .ok (.invokespecial 12, 3) := by decide +kernel
theorem d_law_15 : decode code 15 = .ok (.astore_n 2, 1) := by decide +kernel
theorem d_law_16 : decode code 16 = .ok (.iconst 0, 1) := by decide +kernel
theorem d_law_17 : decode code 17 = .ok (.istore_n 3, 1) := by decide +kernel
theorem d_law_18 : decode code 18 = .ok (.iload_n 3, 1) := by decide +kernel
theorem d_law_19 : decode code 19 = .ok (.aload_n 0, 1) := by decide +kernel
theorem d_law_20 : decode code 20 = .ok (.arraylength, 1) := by decide +kernel
theorem d_law_21 : decode code 21 = .ok (.bipush 11, 2) := by decide +kernel
theorem d_law_23 : decode code 23 = .ok (.isub, 1) := by decide +kernel
theorem d_law_24 : decode code 24 = .ok (.if_icmp .gt 884, 3) := by decide +kernel
theorem d_law_27 : decode code 27 = .ok (.aload_n 0, 1) := by decide +kernel
theorem d_law_28 : decode code 28 = .ok (.iload_n 3, 1) := by decide +kernel
theorem d_law_29 : decode code 29 = .ok (.iaload, 1) := by decide +kernel
theorem d_law_30 : decode code 30 = .ok (.bipush 31, 2) := by decide +kernel
theorem d_law_32 : decode code 32 = .ok (.iand, 1) := by decide +kernel
theorem d_law_33 : decode code 33 = .ok (.tableswitch 869 0 16 #[83, 106, 309, 322, 401, 434, 477, 536, 579, 612, 635, 658, 707, 766, 779, 813, 846], 83) := by decide +kernel
theorem d_law_116 : decode code 116 = .ok (.aload_n 1, 1) := by decide +kernel
theorem d_law_117 : decode code 117 = .ok (.aload_n 0, 1) := by decide +kernel
theorem d_law_118 : decode code 118 = .ok (.iload_n 3, 1) := by decide +kernel
theorem d_law_119 : decode code 119 = .ok (.iconst 1, 1) := by decide +kernel
theorem d_law_120 : decode code 120 = .ok (.iadd, 1) := by decide +kernel
theorem d_law_121 : decode code 121 = .ok (.iaload, 1) := by decide +kernel
theorem d_law_122 : decode code 122 = .ok (.invokevirtual 13, 3) := by decide +kernel
theorem d_law_125 : decode code 125 = .ok (.aload_n 2, 1) := by decide +kernel
theorem d_law_126 : decode code 126 = .ok (.aload_n 0, 1) := by decide +kernel
theorem d_law_127 : decode code 127 = .ok (.iload_n 3, 1) := by decide +kernel
theorem d_law_128 : decode code 128 = .ok (.iconst 1, 1) := by decide +kernel
theorem d_law_129 : decode code 129 = .ok (.iadd, 1) := by decide +kernel
theorem d_law_130 : decode code 130 = .ok (.iaload, 1) := by decide +kernel
theorem d_law_131 : decode code 131 = .ok (.invokevirtual 17, 3) := by decide +kernel
theorem d_law_134 : decode code 134 = .ok (.if_icmp .eq 768, 3) := by decide +kernel
theorem d_law_137 : decode code 137 = .ok (.iconst 0, 1) := by decide +kernel
theorem d_law_138 : decode code 138 = .ok (.ireturn, 1) := by decide +kernel
theorem d_law_139 : decode code 139 = .ok (.aload_n 1, 1) := by decide +kernel
theorem d_law_140 : decode code 140 = .ok (.aload_n 0, 1) := by decide +kernel
theorem d_law_141 : decode code 141 = .ok (.iload_n 3, 1) := by decide +kernel
theorem d_law_142 : decode code 142 = .ok (.iconst 1, 1) := by decide +kernel
theorem d_law_143 : decode code 143 = .ok (.iadd, 1) := by decide +kernel
theorem d_law_144 : decode code 144 = .ok (.iaload, 1) := by decide +kernel
theorem d_law_145 : decode code 145 = .ok (.aload_n 0, 1) := by decide +kernel
theorem d_law_146 : decode code 146 = .ok (.iload_n 3, 1) := by decide +kernel
theorem d_law_147 : decode code 147 = .ok (.iconst 2, 1) := by decide +kernel
theorem d_law_148 : decode code 148 = .ok (.iadd, 1) := by decide +kernel
theorem d_law_149 : decode code 149 = .ok (.iaload, 1) := by decide +kernel
theorem d_law_150 : decode code 150 = .ok (.i2l, 1) := by decide +kernel
theorem d_law_151 : decode code 151 = .ok (.bipush 32, 2) := by decide +kernel
theorem d_law_153 : decode code 153 = .ok (.lshl, 1) := by decide +kernel
theorem d_law_154 : decode code 154 = .ok (.aload_n 0, 1) := by decide +kernel
theorem d_law_155 : decode code 155 = .ok (.iload_n 3, 1) := by decide +kernel
theorem d_law_156 : decode code 156 = .ok (.iconst 3, 1) := by decide +kernel
theorem d_law_157 : decode code 157 = .ok (.iadd, 1) := by decide +kernel
theorem d_law_158 : decode code 158 = .ok (.iaload, 1) := by decide +kernel
theorem d_law_159 : decode code 159 = .ok (.i2l, 1) := by decide +kernel
theorem d_law_160 : decode code 160 = .ok (.ldc2_w 18, 3) := by decide +kernel
theorem d_law_163 : decode code 163 = .ok (.land, 1) := by decide +kernel
theorem d_law_164 : decode code 164 = .ok (.lor, 1) := by decide +kernel
theorem d_law_165 : decode code 165 = .ok (.aload_n 0, 1) := by decide +kernel
theorem d_law_166 : decode code 166 = .ok (.iload_n 3, 1) := by decide +kernel
theorem d_law_167 : decode code 167 = .ok (.iconst 4, 1) := by decide +kernel
theorem d_law_168 : decode code 168 = .ok (.iadd, 1) := by decide +kernel
theorem d_law_169 : decode code 169 = .ok (.iaload, 1) := by decide +kernel
theorem d_law_170 : decode code 170 = .ok (.i2l, 1) := by decide +kernel
theorem d_law_171 : decode code 171 = .ok (.bipush 32, 2) := by decide +kernel
theorem d_law_173 : decode code 173 = .ok (.lshl, 1) := by decide +kernel
theorem d_law_174 : decode code 174 = .ok (.aload_n 0, 1) := by decide +kernel
theorem d_law_175 : decode code 175 = .ok (.iload_n 3, 1) := by decide +kernel
theorem d_law_176 : decode code 176 = .ok (.iconst 5, 1) := by decide +kernel
theorem d_law_177 : decode code 177 = .ok (.iadd, 1) := by decide +kernel
theorem d_law_178 : decode code 178 = .ok (.iaload, 1) := by decide +kernel
theorem d_law_179 : decode code 179 = .ok (.i2l, 1) := by decide +kernel
theorem d_law_180 : decode code 180 = .ok (.ldc2_w 18, 3) := by decide +kernel
theorem d_law_183 : decode code 183 = .ok (.land, 1) := by decide +kernel
theorem d_law_184 : decode code 184 = .ok (.lor, 1) := by decide +kernel
theorem d_law_185 : decode code 185 = .ok (.aload_n 0, 1) := by decide +kernel
theorem d_law_186 : decode code 186 = .ok (.iload_n 3, 1) := by decide +kernel
theorem d_law_187 : decode code 187 = .ok (.bipush 6, 2) := by decide +kernel
theorem d_law_189 : decode code 189 = .ok (.iadd, 1) := by decide +kernel
theorem d_law_190 : decode code 190 = .ok (.iaload, 1) := by decide +kernel
theorem d_law_191 : decode code 191 = .ok (.i2l, 1) := by decide +kernel
theorem d_law_192 : decode code 192 = .ok (.bipush 32, 2) := by decide +kernel
theorem d_law_194 : decode code 194 = .ok (.lshl, 1) := by decide +kernel
theorem d_law_195 : decode code 195 = .ok (.aload_n 0, 1) := by decide +kernel
theorem d_law_196 : decode code 196 = .ok (.iload_n 3, 1) := by decide +kernel
theorem d_law_197 : decode code 197 = .ok (.bipush 7, 2) := by decide +kernel
theorem d_law_199 : decode code 199 = .ok (.iadd, 1) := by decide +kernel
theorem d_law_200 : decode code 200 = .ok (.iaload, 1) := by decide +kernel
theorem d_law_201 : decode code 201 = .ok (.i2l, 1) := by decide +kernel
theorem d_law_202 : decode code 202 = .ok (.ldc2_w 18, 3) := by decide +kernel
theorem d_law_205 : decode code 205 = .ok (.land, 1) := by decide +kernel
theorem d_law_206 : decode code 206 = .ok (.lor, 1) := by decide +kernel
theorem d_law_207 : decode code 207 = .ok (.aload_n 0, 1) := by decide +kernel
theorem d_law_208 : decode code 208 = .ok (.iload_n 3, 1) := by decide +kernel
theorem d_law_209 : decode code 209 = .ok (.bipush 8, 2) := by decide +kernel
theorem d_law_211 : decode code 211 = .ok (.iadd, 1) := by decide +kernel
theorem d_law_212 : decode code 212 = .ok (.iaload, 1) := by decide +kernel
theorem d_law_213 : decode code 213 = .ok (.i2l, 1) := by decide +kernel
theorem d_law_214 : decode code 214 = .ok (.bipush 32, 2) := by decide +kernel
theorem d_law_216 : decode code 216 = .ok (.lshl, 1) := by decide +kernel
theorem d_law_217 : decode code 217 = .ok (.aload_n 0, 1) := by decide +kernel
theorem d_law_218 : decode code 218 = .ok (.iload_n 3, 1) := by decide +kernel
theorem d_law_219 : decode code 219 = .ok (.bipush 9, 2) := by decide +kernel
theorem d_law_221 : decode code 221 = .ok (.iadd, 1) := by decide +kernel
theorem d_law_222 : decode code 222 = .ok (.iaload, 1) := by decide +kernel
theorem d_law_223 : decode code 223 = .ok (.i2l, 1) := by decide +kernel
theorem d_law_224 : decode code 224 = .ok (.ldc2_w 18, 3) := by decide +kernel
theorem d_law_227 : decode code 227 = .ok (.land, 1) := by decide +kernel
theorem d_law_228 : decode code 228 = .ok (.lor, 1) := by decide +kernel
theorem d_law_229 : decode code 229 = .ok (.aload_n 0, 1) := by decide +kernel
theorem d_law_230 : decode code 230 = .ok (.iload_n 3, 1) := by decide +kernel
theorem d_law_231 : decode code 231 = .ok (.bipush 10, 2) := by decide +kernel
theorem d_law_233 : decode code 233 = .ok (.iadd, 1) := by decide +kernel
theorem d_law_234 : decode code 234 = .ok (.iaload, 1) := by decide +kernel
theorem d_law_235 : decode code 235 = .ok (.invokevirtual 20, 3) := by decide +kernel
theorem d_law_238 : decode code 238 = .ok (.aload_n 2, 1) := by decide +kernel
theorem d_law_239 : decode code 239 = .ok (.aload_n 0, 1) := by decide +kernel
theorem d_law_240 : decode code 240 = .ok (.iload_n 3, 1) := by decide +kernel
theorem d_law_241 : decode code 241 = .ok (.iconst 1, 1) := by decide +kernel
theorem d_law_242 : decode code 242 = .ok (.iadd, 1) := by decide +kernel
theorem d_law_243 : decode code 243 = .ok (.iaload, 1) := by decide +kernel
theorem d_law_244 : decode code 244 = .ok (.aload_n 0, 1) := by decide +kernel
theorem d_law_245 : decode code 245 = .ok (.iload_n 3, 1) := by decide +kernel
theorem d_law_246 : decode code 246 = .ok (.iconst 2, 1) := by decide +kernel
theorem d_law_247 : decode code 247 = .ok (.iadd, 1) := by decide +kernel
theorem d_law_248 : decode code 248 = .ok (.iaload, 1) := by decide +kernel
theorem d_law_249 : decode code 249 = .ok (.i2l, 1) := by decide +kernel
theorem d_law_250 : decode code 250 = .ok (.bipush 32, 2) := by decide +kernel
theorem d_law_252 : decode code 252 = .ok (.lshl, 1) := by decide +kernel
theorem d_law_253 : decode code 253 = .ok (.aload_n 0, 1) := by decide +kernel
theorem d_law_254 : decode code 254 = .ok (.iload_n 3, 1) := by decide +kernel
theorem d_law_255 : decode code 255 = .ok (.iconst 3, 1) := by decide +kernel
theorem d_law_256 : decode code 256 = .ok (.iadd, 1) := by decide +kernel
theorem d_law_257 : decode code 257 = .ok (.iaload, 1) := by decide +kernel
theorem d_law_258 : decode code 258 = .ok (.i2l, 1) := by decide +kernel
theorem d_law_259 : decode code 259 = .ok (.ldc2_w 18, 3) := by decide +kernel
theorem d_law_262 : decode code 262 = .ok (.land, 1) := by decide +kernel
theorem d_law_263 : decode code 263 = .ok (.lor, 1) := by decide +kernel
theorem d_law_264 : decode code 264 = .ok (.aload_n 0, 1) := by decide +kernel
theorem d_law_265 : decode code 265 = .ok (.iload_n 3, 1) := by decide +kernel
theorem d_law_266 : decode code 266 = .ok (.iconst 4, 1) := by decide +kernel
theorem d_law_267 : decode code 267 = .ok (.iadd, 1) := by decide +kernel
theorem d_law_268 : decode code 268 = .ok (.iaload, 1) := by decide +kernel
theorem d_law_269 : decode code 269 = .ok (.i2l, 1) := by decide +kernel
theorem d_law_270 : decode code 270 = .ok (.bipush 32, 2) := by decide +kernel
theorem d_law_272 : decode code 272 = .ok (.lshl, 1) := by decide +kernel
theorem d_law_273 : decode code 273 = .ok (.aload_n 0, 1) := by decide +kernel
theorem d_law_274 : decode code 274 = .ok (.iload_n 3, 1) := by decide +kernel
theorem d_law_275 : decode code 275 = .ok (.iconst 5, 1) := by decide +kernel
theorem d_law_276 : decode code 276 = .ok (.iadd, 1) := by decide +kernel
theorem d_law_277 : decode code 277 = .ok (.iaload, 1) := by decide +kernel
theorem d_law_278 : decode code 278 = .ok (.i2l, 1) := by decide +kernel
theorem d_law_279 : decode code 279 = .ok (.ldc2_w 18, 3) := by decide +kernel
theorem d_law_282 : decode code 282 = .ok (.land, 1) := by decide +kernel
theorem d_law_283 : decode code 283 = .ok (.lor, 1) := by decide +kernel
theorem d_law_284 : decode code 284 = .ok (.aload_n 0, 1) := by decide +kernel
theorem d_law_285 : decode code 285 = .ok (.iload_n 3, 1) := by decide +kernel
theorem d_law_286 : decode code 286 = .ok (.bipush 6, 2) := by decide +kernel
theorem d_law_288 : decode code 288 = .ok (.iadd, 1) := by decide +kernel
theorem d_law_289 : decode code 289 = .ok (.iaload, 1) := by decide +kernel
theorem d_law_290 : decode code 290 = .ok (.i2l, 1) := by decide +kernel
theorem d_law_291 : decode code 291 = .ok (.bipush 32, 2) := by decide +kernel
theorem d_law_293 : decode code 293 = .ok (.lshl, 1) := by decide +kernel
theorem d_law_294 : decode code 294 = .ok (.aload_n 0, 1) := by decide +kernel
theorem d_law_295 : decode code 295 = .ok (.iload_n 3, 1) := by decide +kernel
theorem d_law_296 : decode code 296 = .ok (.bipush 7, 2) := by decide +kernel
theorem d_law_298 : decode code 298 = .ok (.iadd, 1) := by decide +kernel
theorem d_law_299 : decode code 299 = .ok (.iaload, 1) := by decide +kernel
theorem d_law_300 : decode code 300 = .ok (.i2l, 1) := by decide +kernel
theorem d_law_301 : decode code 301 = .ok (.ldc2_w 18, 3) := by decide +kernel
theorem d_law_304 : decode code 304 = .ok (.land, 1) := by decide +kernel
theorem d_law_305 : decode code 305 = .ok (.lor, 1) := by decide +kernel
theorem d_law_306 : decode code 306 = .ok (.aload_n 0, 1) := by decide +kernel
theorem d_law_307 : decode code 307 = .ok (.iload_n 3, 1) := by decide +kernel
theorem d_law_308 : decode code 308 = .ok (.bipush 8, 2) := by decide +kernel
theorem d_law_310 : decode code 310 = .ok (.iadd, 1) := by decide +kernel
theorem d_law_311 : decode code 311 = .ok (.iaload, 1) := by decide +kernel
theorem d_law_312 : decode code 312 = .ok (.i2l, 1) := by decide +kernel
theorem d_law_313 : decode code 313 = .ok (.bipush 32, 2) := by decide +kernel
theorem d_law_315 : decode code 315 = .ok (.lshl, 1) := by decide +kernel
theorem d_law_316 : decode code 316 = .ok (.aload_n 0, 1) := by decide +kernel
theorem d_law_317 : decode code 317 = .ok (.iload_n 3, 1) := by decide +kernel
theorem d_law_318 : decode code 318 = .ok (.bipush 9, 2) := by decide +kernel
theorem d_law_320 : decode code 320 = .ok (.iadd, 1) := by decide +kernel
theorem d_law_321 : decode code 321 = .ok (.iaload, 1) := by decide +kernel
theorem d_law_322 : decode code 322 = .ok (.i2l, 1) := by decide +kernel
theorem d_law_323 : decode code 323 = .ok (.ldc2_w 18, 3) := by decide +kernel
theorem d_law_326 : decode code 326 = .ok (.land, 1) := by decide +kernel
theorem d_law_327 : decode code 327 = .ok (.lor, 1) := by decide +kernel
theorem d_law_328 : decode code 328 = .ok (.aload_n 0, 1) := by decide +kernel
theorem d_law_329 : decode code 329 = .ok (.iload_n 3, 1) := by decide +kernel
theorem d_law_330 : decode code 330 = .ok (.bipush 10, 2) := by decide +kernel
theorem d_law_332 : decode code 332 = .ok (.iadd, 1) := by decide +kernel
theorem d_law_333 : decode code 333 = .ok (.iaload, 1) := by decide +kernel
theorem d_law_334 : decode code 334 = .ok (.invokevirtual 24, 3) := by decide +kernel
theorem d_law_337 : decode code 337 = .ok (.if_icmp .eq 565, 3) := by decide +kernel
theorem d_law_340 : decode code 340 = .ok (.iconst 0, 1) := by decide +kernel
theorem d_law_341 : decode code 341 = .ok (.ireturn, 1) := by decide +kernel
theorem d_law_342 : decode code 342 = .ok (.aload_n 1, 1) := by decide +kernel
theorem d_law_343 : decode code 343 = .ok (.invokevirtual 25, 3) := by decide +kernel
theorem d_law_346 : decode code 346 = .ok (.aload_n 2, 1) := by decide +kernel
theorem d_law_347 : decode code 347 = .ok (.invokevirtual 29, 3) := by decide +kernel
theorem d_law_350 : decode code 350 = .ok (.if_icmp .eq 552, 3) := by decide +kernel
theorem d_law_353 : decode code 353 = .ok (.iconst 0, 1) := by decide +kernel
theorem d_law_354 : decode code 354 = .ok (.ireturn, 1) := by decide +kernel
theorem d_law_355 : decode code 355 = .ok (.aload_n 1, 1) := by decide +kernel
theorem d_law_356 : decode code 356 = .ok (.aload_n 0, 1) := by decide +kernel
theorem d_law_357 : decode code 357 = .ok (.iload_n 3, 1) := by decide +kernel
theorem d_law_358 : decode code 358 = .ok (.iconst 1, 1) := by decide +kernel
theorem d_law_359 : decode code 359 = .ok (.iadd, 1) := by decide +kernel
theorem d_law_360 : decode code 360 = .ok (.iaload, 1) := by decide +kernel
theorem d_law_361 : decode code 361 = .ok (.i2l, 1) := by decide +kernel
theorem d_law_362 : decode code 362 = .ok (.bipush 32, 2) := by decide +kernel
theorem d_law_364 : decode code 364 = .ok (.lshl, 1) := by decide +kernel
theorem d_law_365 : decode code 365 = .ok (.aload_n 0, 1) := by decide +kernel
theorem d_law_366 : decode code 366 = .ok (.iload_n 3, 1) := by decide +kernel
theorem d_law_367 : decode code 367 = .ok (.iconst 2, 1) := by decide +kernel
theorem d_law_368 : decode code 368 = .ok (.iadd, 1) := by decide +kernel
theorem d_law_369 : decode code 369 = .ok (.iaload, 1) := by decide +kernel
theorem d_law_370 : decode code 370 = .ok (.i2l, 1) := by decide +kernel
theorem d_law_371 : decode code 371 = .ok (.ldc2_w 18, 3) := by decide +kernel
theorem d_law_374 : decode code 374 = .ok (.land, 1) := by decide +kernel
theorem d_law_375 : decode code 375 = .ok (.lor, 1) := by decide +kernel
theorem d_law_376 : decode code 376 = .ok (.aload_n 0, 1) := by decide +kernel
theorem d_law_377 : decode code 377 = .ok (.iload_n 3, 1) := by decide +kernel
theorem d_law_378 : decode code 378 = .ok (.iconst 3, 1) := by decide +kernel
theorem d_law_379 : decode code 379 = .ok (.iadd, 1) := by decide +kernel
theorem d_law_380 : decode code 380 = .ok (.iaload, 1) := by decide +kernel
theorem d_law_381 : decode code 381 = .ok (.ifCond .eq 7, 3) := by decide +kernel
theorem d_law_384 : decode code 384 = .ok (.iconst 1, 1) := by decide +kernel
theorem d_law_385 : decode code 385 = .ok (.goto 4, 3) := by decide +kernel
theorem d_law_388 : decode code 388 = .ok (.iconst 0, 1) := by decide +kernel
theorem d_law_389 : decode code 389 = .ok (.invokevirtual 30, 3) := by decide +kernel
theorem d_law_392 : decode code 392 = .ok (.aload_n 2, 1) := by decide +kernel
theorem d_law_393 : decode code 393 = .ok (.aload_n 0, 1) := by decide +kernel
theorem d_law_394 : decode code 394 = .ok (.iload_n 3, 1) := by decide +kernel
theorem d_law_395 : decode code 395 = .ok (.iconst 1, 1) := by decide +kernel
theorem d_law_396 : decode code 396 = .ok (.iadd, 1) := by decide +kernel
theorem d_law_397 : decode code 397 = .ok (.iaload, 1) := by decide +kernel
theorem d_law_398 : decode code 398 = .ok (.i2l, 1) := by decide +kernel
theorem d_law_399 : decode code 399 = .ok (.bipush 32, 2) := by decide +kernel
theorem d_law_401 : decode code 401 = .ok (.lshl, 1) := by decide +kernel
theorem d_law_402 : decode code 402 = .ok (.aload_n 0, 1) := by decide +kernel
theorem d_law_403 : decode code 403 = .ok (.iload_n 3, 1) := by decide +kernel
theorem d_law_404 : decode code 404 = .ok (.iconst 2, 1) := by decide +kernel
theorem d_law_405 : decode code 405 = .ok (.iadd, 1) := by decide +kernel
theorem d_law_406 : decode code 406 = .ok (.iaload, 1) := by decide +kernel
theorem d_law_407 : decode code 407 = .ok (.i2l, 1) := by decide +kernel
theorem d_law_408 : decode code 408 = .ok (.ldc2_w 18, 3) := by decide +kernel
theorem d_law_411 : decode code 411 = .ok (.land, 1) := by decide +kernel
theorem d_law_412 : decode code 412 = .ok (.lor, 1) := by decide +kernel
theorem d_law_413 : decode code 413 = .ok (.aload_n 0, 1) := by decide +kernel
theorem d_law_414 : decode code 414 = .ok (.iload_n 3, 1) := by decide +kernel
theorem d_law_415 : decode code 415 = .ok (.iconst 3, 1) := by decide +kernel
theorem d_law_416 : decode code 416 = .ok (.iadd, 1) := by decide +kernel
theorem d_law_417 : decode code 417 = .ok (.iaload, 1) := by decide +kernel
theorem d_law_418 : decode code 418 = .ok (.ifCond .eq 7, 3) := by decide +kernel
theorem d_law_421 : decode code 421 = .ok (.iconst 1, 1) := by decide +kernel
theorem d_law_422 : decode code 422 = .ok (.goto 4, 3) := by decide +kernel
theorem d_law_425 : decode code 425 = .ok (.iconst 0, 1) := by decide +kernel
theorem d_law_426 : decode code 426 = .ok (.invokevirtual 34, 3) := by decide +kernel
theorem d_law_429 : decode code 429 = .ok (.if_icmp .eq 473, 3) := by decide +kernel
theorem d_law_432 : decode code 432 = .ok (.iconst 0, 1) := by decide +kernel
theorem d_law_433 : decode code 433 = .ok (.ireturn, 1) := by decide +kernel
theorem d_law_434 : decode code 434 = .ok (.aload_n 1, 1) := by decide +kernel
theorem d_law_435 : decode code 435 = .ok (.aload_n 0, 1) := by decide +kernel
theorem d_law_436 : decode code 436 = .ok (.iload_n 3, 1) := by decide +kernel
theorem d_law_437 : decode code 437 = .ok (.iconst 1, 1) := by decide +kernel
theorem d_law_438 : decode code 438 = .ok (.iadd, 1) := by decide +kernel
theorem d_law_439 : decode code 439 = .ok (.iaload, 1) := by decide +kernel
theorem d_law_440 : decode code 440 = .ok (.aload_n 0, 1) := by decide +kernel
theorem d_law_441 : decode code 441 = .ok (.iload_n 3, 1) := by decide +kernel
theorem d_law_442 : decode code 442 = .ok (.iconst 2, 1) := by decide +kernel
theorem d_law_443 : decode code 443 = .ok (.iadd, 1) := by decide +kernel
theorem d_law_444 : decode code 444 = .ok (.iaload, 1) := by decide +kernel
theorem d_law_445 : decode code 445 = .ok (.invokevirtual 35, 3) := by decide +kernel
theorem d_law_448 : decode code 448 = .ok (.aload_n 2, 1) := by decide +kernel
theorem d_law_449 : decode code 449 = .ok (.aload_n 0, 1) := by decide +kernel
theorem d_law_450 : decode code 450 = .ok (.iload_n 3, 1) := by decide +kernel
theorem d_law_451 : decode code 451 = .ok (.iconst 1, 1) := by decide +kernel
theorem d_law_452 : decode code 452 = .ok (.iadd, 1) := by decide +kernel
theorem d_law_453 : decode code 453 = .ok (.iaload, 1) := by decide +kernel
theorem d_law_454 : decode code 454 = .ok (.aload_n 0, 1) := by decide +kernel
theorem d_law_455 : decode code 455 = .ok (.iload_n 3, 1) := by decide +kernel
theorem d_law_456 : decode code 456 = .ok (.iconst 2, 1) := by decide +kernel
theorem d_law_457 : decode code 457 = .ok (.iadd, 1) := by decide +kernel
theorem d_law_458 : decode code 458 = .ok (.iaload, 1) := by decide +kernel
theorem d_law_459 : decode code 459 = .ok (.invokevirtual 39, 3) := by decide +kernel
theorem d_law_462 : decode code 462 = .ok (.if_icmp .eq 440, 3) := by decide +kernel
theorem d_law_465 : decode code 465 = .ok (.iconst 0, 1) := by decide +kernel
theorem d_law_466 : decode code 466 = .ok (.ireturn, 1) := by decide +kernel
theorem d_law_467 : decode code 467 = .ok (.aload_n 1, 1) := by decide +kernel
theorem d_law_468 : decode code 468 = .ok (.aload_n 0, 1) := by decide +kernel
theorem d_law_469 : decode code 469 = .ok (.iload_n 3, 1) := by decide +kernel
theorem d_law_470 : decode code 470 = .ok (.iconst 1, 1) := by decide +kernel
theorem d_law_471 : decode code 471 = .ok (.iadd, 1) := by decide +kernel
theorem d_law_472 : decode code 472 = .ok (.iaload, 1) := by decide +kernel
theorem d_law_473 : decode code 473 = .ok (.aload_n 0, 1) := by decide +kernel
theorem d_law_474 : decode code 474 = .ok (.iload_n 3, 1) := by decide +kernel
theorem d_law_475 : decode code 475 = .ok (.iconst 2, 1) := by decide +kernel
theorem d_law_476 : decode code 476 = .ok (.iadd, 1) := by decide +kernel
theorem d_law_477 : decode code 477 = .ok (.iaload, 1) := by decide +kernel
theorem d_law_478 : decode code 478 = .ok (.aload_n 0, 1) := by decide +kernel
theorem d_law_479 : decode code 479 = .ok (.iload_n 3, 1) := by decide +kernel
theorem d_law_480 : decode code 480 = .ok (.iconst 3, 1) := by decide +kernel
theorem d_law_481 : decode code 481 = .ok (.iadd, 1) := by decide +kernel
theorem d_law_482 : decode code 482 = .ok (.iaload, 1) := by decide +kernel
theorem d_law_483 : decode code 483 = .ok (.invokevirtual 40, 3) := by decide +kernel
theorem d_law_486 : decode code 486 = .ok (.aload_n 2, 1) := by decide +kernel
theorem d_law_487 : decode code 487 = .ok (.aload_n 0, 1) := by decide +kernel
theorem d_law_488 : decode code 488 = .ok (.iload_n 3, 1) := by decide +kernel
theorem d_law_489 : decode code 489 = .ok (.iconst 1, 1) := by decide +kernel
theorem d_law_490 : decode code 490 = .ok (.iadd, 1) := by decide +kernel
theorem d_law_491 : decode code 491 = .ok (.iaload, 1) := by decide +kernel
theorem d_law_492 : decode code 492 = .ok (.aload_n 0, 1) := by decide +kernel
theorem d_law_493 : decode code 493 = .ok (.iload_n 3, 1) := by decide +kernel
theorem d_law_494 : decode code 494 = .ok (.iconst 2, 1) := by decide +kernel
theorem d_law_495 : decode code 495 = .ok (.iadd, 1) := by decide +kernel
theorem d_law_496 : decode code 496 = .ok (.iaload, 1) := by decide +kernel
theorem d_law_497 : decode code 497 = .ok (.aload_n 0, 1) := by decide +kernel
theorem d_law_498 : decode code 498 = .ok (.iload_n 3, 1) := by decide +kernel
theorem d_law_499 : decode code 499 = .ok (.iconst 3, 1) := by decide +kernel
theorem d_law_500 : decode code 500 = .ok (.iadd, 1) := by decide +kernel
theorem d_law_501 : decode code 501 = .ok (.iaload, 1) := by decide +kernel
theorem d_law_502 : decode code 502 = .ok (.invokevirtual 44, 3) := by decide +kernel
theorem d_law_505 : decode code 505 = .ok (.if_icmp .eq 397, 3) := by decide +kernel
theorem d_law_508 : decode code 508 = .ok (.iconst 0, 1) := by decide +kernel
theorem d_law_509 : decode code 509 = .ok (.ireturn, 1) := by decide +kernel
theorem d_law_510 : decode code 510 = .ok (.aload_n 1, 1) := by decide +kernel
theorem d_law_511 : decode code 511 = .ok (.aload_n 0, 1) := by decide +kernel
theorem d_law_512 : decode code 512 = .ok (.iload_n 3, 1) := by decide +kernel
theorem d_law_513 : decode code 513 = .ok (.iconst 1, 1) := by decide +kernel
theorem d_law_514 : decode code 514 = .ok (.iadd, 1) := by decide +kernel
theorem d_law_515 : decode code 515 = .ok (.iaload, 1) := by decide +kernel
theorem d_law_516 : decode code 516 = .ok (.aload_n 0, 1) := by decide +kernel
theorem d_law_517 : decode code 517 = .ok (.iload_n 3, 1) := by decide +kernel
theorem d_law_518 : decode code 518 = .ok (.iconst 2, 1) := by decide +kernel
theorem d_law_519 : decode code 519 = .ok (.iadd, 1) := by decide +kernel
theorem d_law_520 : decode code 520 = .ok (.iaload, 1) := by decide +kernel
theorem d_law_521 : decode code 521 = .ok (.aload_n 0, 1) := by decide +kernel
theorem d_law_522 : decode code 522 = .ok (.iload_n 3, 1) := by decide +kernel
theorem d_law_523 : decode code 523 = .ok (.iconst 3, 1) := by decide +kernel
theorem d_law_524 : decode code 524 = .ok (.iadd, 1) := by decide +kernel
theorem d_law_525 : decode code 525 = .ok (.iaload, 1) := by decide +kernel
theorem d_law_526 : decode code 526 = .ok (.ifCond .eq 7, 3) := by decide +kernel
theorem d_law_529 : decode code 529 = .ok (.iconst 1, 1) := by decide +kernel
theorem d_law_530 : decode code 530 = .ok (.goto 4, 3) := by decide +kernel
theorem d_law_533 : decode code 533 = .ok (.iconst 0, 1) := by decide +kernel
theorem d_law_534 : decode code 534 = .ok (.invokevirtual 45, 3) := by decide +kernel
theorem d_law_537 : decode code 537 = .ok (.aload_n 2, 1) := by decide +kernel
theorem d_law_538 : decode code 538 = .ok (.aload_n 0, 1) := by decide +kernel
theorem d_law_539 : decode code 539 = .ok (.iload_n 3, 1) := by decide +kernel
theorem d_law_540 : decode code 540 = .ok (.iconst 1, 1) := by decide +kernel
theorem d_law_541 : decode code 541 = .ok (.iadd, 1) := by decide +kernel
theorem d_law_542 : decode code 542 = .ok (.iaload, 1) := by decide +kernel
theorem d_law_543 : decode code 543 = .ok (.aload_n 0, 1) := by decide +kernel
theorem d_law_544 : decode code 544 = .ok (.iload_n 3, 1) := by decide +kernel
theorem d_law_545 : decode code 545 = .ok (.iconst 2, 1) := by decide +kernel
theorem d_law_546 : decode code 546 = .ok (.iadd, 1) := by decide +kernel
theorem d_law_547 : decode code 547 = .ok (.iaload, 1) := by decide +kernel
theorem d_law_548 : decode code 548 = .ok (.aload_n 0, 1) := by decide +kernel
theorem d_law_549 : decode code 549 = .ok (.iload_n 3, 1) := by decide +kernel
theorem d_law_550 : decode code 550 = .ok (.iconst 3, 1) := by decide +kernel
theorem d_law_551 : decode code 551 = .ok (.iadd, 1) := by decide +kernel
theorem d_law_552 : decode code 552 = .ok (.iaload, 1) := by decide +kernel
theorem d_law_553 : decode code 553 = .ok (.ifCond .eq 7, 3) := by decide +kernel
theorem d_law_556 : decode code 556 = .ok (.iconst 1, 1) := by decide +kernel
theorem d_law_557 : decode code 557 = .ok (.goto 4, 3) := by decide +kernel
theorem d_law_560 : decode code 560 = .ok (.iconst 0, 1) := by decide +kernel
theorem d_law_561 : decode code 561 = .ok (.invokevirtual 49, 3) := by decide +kernel
theorem d_law_564 : decode code 564 = .ok (.if_icmp .eq 338, 3) := by decide +kernel
theorem d_law_567 : decode code 567 = .ok (.iconst 0, 1) := by decide +kernel
theorem d_law_568 : decode code 568 = .ok (.ireturn, 1) := by decide +kernel
theorem d_law_569 : decode code 569 = .ok (.aload_n 1, 1) := by decide +kernel
theorem d_law_570 : decode code 570 = .ok (.aload_n 0, 1) := by decide +kernel
theorem d_law_571 : decode code 571 = .ok (.iload_n 3, 1) := by decide +kernel
theorem d_law_572 : decode code 572 = .ok (.iconst 1, 1) := by decide +kernel
theorem d_law_573 : decode code 573 = .ok (.iadd, 1) := by decide +kernel
theorem d_law_574 : decode code 574 = .ok (.iaload, 1) := by decide +kernel
theorem d_law_575 : decode code 575 = .ok (.aload_n 0, 1) := by decide +kernel
theorem d_law_576 : decode code 576 = .ok (.iload_n 3, 1) := by decide +kernel
theorem d_law_577 : decode code 577 = .ok (.iconst 2, 1) := by decide +kernel
theorem d_law_578 : decode code 578 = .ok (.iadd, 1) := by decide +kernel
theorem d_law_579 : decode code 579 = .ok (.iaload, 1) := by decide +kernel
theorem d_law_580 : decode code 580 = .ok (.aload_n 0, 1) := by decide +kernel
theorem d_law_581 : decode code 581 = .ok (.iload_n 3, 1) := by decide +kernel
theorem d_law_582 : decode code 582 = .ok (.iconst 3, 1) := by decide +kernel
theorem d_law_583 : decode code 583 = .ok (.iadd, 1) := by decide +kernel
theorem d_law_584 : decode code 584 = .ok (.iaload, 1) := by decide +kernel
theorem d_law_585 : decode code 585 = .ok (.invokevirtual 50, 3) := by decide +kernel
theorem d_law_588 : decode code 588 = .ok (.aload_n 2, 1) := by decide +kernel
theorem d_law_589 : decode code 589 = .ok (.aload_n 0, 1) := by decide +kernel
theorem d_law_590 : decode code 590 = .ok (.iload_n 3, 1) := by decide +kernel
theorem d_law_591 : decode code 591 = .ok (.iconst 1, 1) := by decide +kernel
theorem d_law_592 : decode code 592 = .ok (.iadd, 1) := by decide +kernel
theorem d_law_593 : decode code 593 = .ok (.iaload, 1) := by decide +kernel
theorem d_law_594 : decode code 594 = .ok (.aload_n 0, 1) := by decide +kernel
theorem d_law_595 : decode code 595 = .ok (.iload_n 3, 1) := by decide +kernel
theorem d_law_596 : decode code 596 = .ok (.iconst 2, 1) := by decide +kernel
theorem d_law_597 : decode code 597 = .ok (.iadd, 1) := by decide +kernel
theorem d_law_598 : decode code 598 = .ok (.iaload, 1) := by decide +kernel
theorem d_law_599 : decode code 599 = .ok (.aload_n 0, 1) := by decide +kernel
theorem d_law_600 : decode code 600 = .ok (.iload_n 3, 1) := by decide +kernel
theorem d_law_601 : decode code 601 = .ok (.iconst 3, 1) := by decide +kernel
theorem d_law_602 : decode code 602 = .ok (.iadd, 1) := by decide +kernel
theorem d_law_603 : decode code 603 = .ok (.iaload, 1) := by decide +kernel
theorem d_law_604 : decode code 604 = .ok (.invokevirtual 53, 3) := by decide +kernel
theorem d_law_607 : decode code 607 = .ok (.if_icmp .eq 295, 3) := by decide +kernel
theorem d_law_610 : decode code 610 = .ok (.iconst 0, 1) := by decide +kernel
theorem d_law_611 : decode code 611 = .ok (.ireturn, 1) := by decide +kernel
theorem d_law_612 : decode code 612 = .ok (.aload_n 1, 1) := by decide +kernel
theorem d_law_613 : decode code 613 = .ok (.aload_n 0, 1) := by decide +kernel
theorem d_law_614 : decode code 614 = .ok (.iload_n 3, 1) := by decide +kernel
theorem d_law_615 : decode code 615 = .ok (.iconst 1, 1) := by decide +kernel
theorem d_law_616 : decode code 616 = .ok (.iadd, 1) := by decide +kernel
theorem d_law_617 : decode code 617 = .ok (.iaload, 1) := by decide +kernel
theorem d_law_618 : decode code 618 = .ok (.aload_n 0, 1) := by decide +kernel
theorem d_law_619 : decode code 619 = .ok (.iload_n 3, 1) := by decide +kernel
theorem d_law_620 : decode code 620 = .ok (.iconst 2, 1) := by decide +kernel
theorem d_law_621 : decode code 621 = .ok (.iadd, 1) := by decide +kernel
theorem d_law_622 : decode code 622 = .ok (.iaload, 1) := by decide +kernel
theorem d_law_623 : decode code 623 = .ok (.invokevirtual 54, 3) := by decide +kernel
theorem d_law_626 : decode code 626 = .ok (.aload_n 2, 1) := by decide +kernel
theorem d_law_627 : decode code 627 = .ok (.aload_n 0, 1) := by decide +kernel
theorem d_law_628 : decode code 628 = .ok (.iload_n 3, 1) := by decide +kernel
theorem d_law_629 : decode code 629 = .ok (.iconst 1, 1) := by decide +kernel
theorem d_law_630 : decode code 630 = .ok (.iadd, 1) := by decide +kernel
theorem d_law_631 : decode code 631 = .ok (.iaload, 1) := by decide +kernel
theorem d_law_632 : decode code 632 = .ok (.aload_n 0, 1) := by decide +kernel
theorem d_law_633 : decode code 633 = .ok (.iload_n 3, 1) := by decide +kernel
theorem d_law_634 : decode code 634 = .ok (.iconst 2, 1) := by decide +kernel
theorem d_law_635 : decode code 635 = .ok (.iadd, 1) := by decide +kernel
theorem d_law_636 : decode code 636 = .ok (.iaload, 1) := by decide +kernel
theorem d_law_637 : decode code 637 = .ok (.invokevirtual 57, 3) := by decide +kernel
theorem d_law_640 : decode code 640 = .ok (.if_icmp .eq 262, 3) := by decide +kernel
theorem d_law_643 : decode code 643 = .ok (.iconst 0, 1) := by decide +kernel
theorem d_law_644 : decode code 644 = .ok (.ireturn, 1) := by decide +kernel
theorem d_law_645 : decode code 645 = .ok (.aload_n 1, 1) := by decide +kernel
theorem d_law_646 : decode code 646 = .ok (.aload_n 0, 1) := by decide +kernel
theorem d_law_647 : decode code 647 = .ok (.iload_n 3, 1) := by decide +kernel
theorem d_law_648 : decode code 648 = .ok (.iconst 1, 1) := by decide +kernel
theorem d_law_649 : decode code 649 = .ok (.iadd, 1) := by decide +kernel
theorem d_law_650 : decode code 650 = .ok (.iaload, 1) := by decide +kernel
theorem d_law_651 : decode code 651 = .ok (.invokevirtual 58, 3) := by decide +kernel
theorem d_law_654 : decode code 654 = .ok (.aload_n 2, 1) := by decide +kernel
theorem d_law_655 : decode code 655 = .ok (.aload_n 0, 1) := by decide +kernel
theorem d_law_656 : decode code 656 = .ok (.iload_n 3, 1) := by decide +kernel
theorem d_law_657 : decode code 657 = .ok (.iconst 1, 1) := by decide +kernel
theorem d_law_658 : decode code 658 = .ok (.iadd, 1) := by decide +kernel
theorem d_law_659 : decode code 659 = .ok (.iaload, 1) := by decide +kernel
theorem d_law_660 : decode code 660 = .ok (.invokevirtual 61, 3) := by decide +kernel
theorem d_law_663 : decode code 663 = .ok (.if_icmp .eq 239, 3) := by decide +kernel
theorem d_law_666 : decode code 666 = .ok (.iconst 0, 1) := by decide +kernel
theorem d_law_667 : decode code 667 = .ok (.ireturn, 1) := by decide +kernel
theorem d_law_668 : decode code 668 = .ok (.aload_n 1, 1) := by decide +kernel
theorem d_law_669 : decode code 669 = .ok (.aload_n 0, 1) := by decide +kernel
theorem d_law_670 : decode code 670 = .ok (.iload_n 3, 1) := by decide +kernel
theorem d_law_671 : decode code 671 = .ok (.iconst 1, 1) := by decide +kernel
theorem d_law_672 : decode code 672 = .ok (.iadd, 1) := by decide +kernel
theorem d_law_673 : decode code 673 = .ok (.iaload, 1) := by decide +kernel
theorem d_law_674 : decode code 674 = .ok (.invokevirtual 62, 3) := by decide +kernel
theorem d_law_677 : decode code 677 = .ok (.aload_n 2, 1) := by decide +kernel
theorem d_law_678 : decode code 678 = .ok (.aload_n 0, 1) := by decide +kernel
theorem d_law_679 : decode code 679 = .ok (.iload_n 3, 1) := by decide +kernel
theorem d_law_680 : decode code 680 = .ok (.iconst 1, 1) := by decide +kernel
theorem d_law_681 : decode code 681 = .ok (.iadd, 1) := by decide +kernel
theorem d_law_682 : decode code 682 = .ok (.iaload, 1) := by decide +kernel
theorem d_law_683 : decode code 683 = .ok (.invokevirtual 65, 3) := by decide +kernel
theorem d_law_686 : decode code 686 = .ok (.if_icmp .eq 216, 3) := by decide +kernel
theorem d_law_689 : decode code 689 = .ok (.iconst 0, 1) := by decide +kernel
theorem d_law_690 : decode code 690 = .ok (.ireturn, 1) := by decide +kernel
theorem d_law_691 : decode code 691 = .ok (.aload_n 1, 1) := by decide +kernel
theorem d_law_692 : decode code 692 = .ok (.aload_n 0, 1) := by decide +kernel
theorem d_law_693 : decode code 693 = .ok (.iload_n 3, 1) := by decide +kernel
theorem d_law_694 : decode code 694 = .ok (.iconst 1, 1) := by decide +kernel
theorem d_law_695 : decode code 695 = .ok (.iadd, 1) := by decide +kernel
theorem d_law_696 : decode code 696 = .ok (.iaload, 1) := by decide +kernel
theorem d_law_697 : decode code 697 = .ok (.aload_n 0, 1) := by decide +kernel
theorem d_law_698 : decode code 698 = .ok (.iload_n 3, 1) := by decide +kernel
theorem d_law_699 : decode code 699 = .ok (.iconst 2, 1) := by decide +kernel
theorem d_law_700 : decode code 700 = .ok (.iadd, 1) := by decide +kernel
theorem d_law_701 : decode code 701 = .ok (.iaload, 1) := by decide +kernel
theorem d_law_702 : decode code 702 = .ok (.ifCond .eq 7, 3) := by decide +kernel
theorem d_law_705 : decode code 705 = .ok (.iconst 1, 1) := by decide +kernel
theorem d_law_706 : decode code 706 = .ok (.goto 4, 3) := by decide +kernel
theorem d_law_709 : decode code 709 = .ok (.iconst 0, 1) := by decide +kernel
theorem d_law_710 : decode code 710 = .ok (.invokevirtual 66, 3) := by decide +kernel
theorem d_law_713 : decode code 713 = .ok (.aload_n 2, 1) := by decide +kernel
theorem d_law_714 : decode code 714 = .ok (.aload_n 0, 1) := by decide +kernel
theorem d_law_715 : decode code 715 = .ok (.iload_n 3, 1) := by decide +kernel
theorem d_law_716 : decode code 716 = .ok (.iconst 1, 1) := by decide +kernel
theorem d_law_717 : decode code 717 = .ok (.iadd, 1) := by decide +kernel
theorem d_law_718 : decode code 718 = .ok (.iaload, 1) := by decide +kernel
theorem d_law_719 : decode code 719 = .ok (.aload_n 0, 1) := by decide +kernel
theorem d_law_720 : decode code 720 = .ok (.iload_n 3, 1) := by decide +kernel
theorem d_law_721 : decode code 721 = .ok (.iconst 2, 1) := by decide +kernel
theorem d_law_722 : decode code 722 = .ok (.iadd, 1) := by decide +kernel
theorem d_law_723 : decode code 723 = .ok (.iaload, 1) := by decide +kernel
theorem d_law_724 : decode code 724 = .ok (.ifCond .eq 7, 3) := by decide +kernel
theorem d_law_727 : decode code 727 = .ok (.iconst 1, 1) := by decide +kernel
theorem d_law_728 : decode code 728 = .ok (.goto 4, 3) := by decide +kernel
theorem d_law_731 : decode code 731 = .ok (.iconst 0, 1) := by decide +kernel
theorem d_law_732 : decode code 732 = .ok (.invokevirtual 70, 3) := by decide +kernel
theorem d_law_735 : decode code 735 = .ok (.if_icmp .eq 167, 3) := by decide +kernel
theorem d_law_738 : decode code 738 = .ok (.iconst 0, 1) := by decide +kernel
theorem d_law_739 : decode code 739 = .ok (.ireturn, 1) := by decide +kernel
theorem d_law_740 : decode code 740 = .ok (.aload_n 1, 1) := by decide +kernel
theorem d_law_741 : decode code 741 = .ok (.aload_n 0, 1) := by decide +kernel
theorem d_law_742 : decode code 742 = .ok (.iload_n 3, 1) := by decide +kernel
theorem d_law_743 : decode code 743 = .ok (.iconst 1, 1) := by decide +kernel
theorem d_law_744 : decode code 744 = .ok (.iadd, 1) := by decide +kernel
theorem d_law_745 : decode code 745 = .ok (.iaload, 1) := by decide +kernel
theorem d_law_746 : decode code 746 = .ok (.ifCond .eq 7, 3) := by decide +kernel
theorem d_law_749 : decode code 749 = .ok (.iconst 1, 1) := by decide +kernel
theorem d_law_750 : decode code 750 = .ok (.goto 4, 3) := by decide +kernel
theorem d_law_753 : decode code 753 = .ok (.iconst 0, 1) := by decide +kernel
theorem d_law_754 : decode code 754 = .ok (.aload_n 0, 1) := by decide +kernel
theorem d_law_755 : decode code 755 = .ok (.iload_n 3, 1) := by decide +kernel
theorem d_law_756 : decode code 756 = .ok (.iconst 2, 1) := by decide +kernel
theorem d_law_757 : decode code 757 = .ok (.iadd, 1) := by decide +kernel
theorem d_law_758 : decode code 758 = .ok (.iaload, 1) := by decide +kernel
theorem d_law_759 : decode code 759 = .ok (.aload_n 0, 1) := by decide +kernel
theorem d_law_760 : decode code 760 = .ok (.iload_n 3, 1) := by decide +kernel
theorem d_law_761 : decode code 761 = .ok (.iconst 3, 1) := by decide +kernel
theorem d_law_762 : decode code 762 = .ok (.iadd, 1) := by decide +kernel
theorem d_law_763 : decode code 763 = .ok (.iaload, 1) := by decide +kernel
theorem d_law_764 : decode code 764 = .ok (.invokevirtual 71, 3) := by decide +kernel
theorem d_law_767 : decode code 767 = .ok (.aload_n 2, 1) := by decide +kernel
theorem d_law_768 : decode code 768 = .ok (.aload_n 0, 1) := by decide +kernel
theorem d_law_769 : decode code 769 = .ok (.iload_n 3, 1) := by decide +kernel
theorem d_law_770 : decode code 770 = .ok (.iconst 1, 1) := by decide +kernel
theorem d_law_771 : decode code 771 = .ok (.iadd, 1) := by decide +kernel
theorem d_law_772 : decode code 772 = .ok (.iaload, 1) := by decide +kernel
theorem d_law_773 : decode code 773 = .ok (.ifCond .eq 7, 3) := by decide +kernel
theorem d_law_776 : decode code 776 = .ok (.iconst 1, 1) := by decide +kernel
theorem d_law_777 : decode code 777 = .ok (.goto 4, 3) := by decide +kernel
theorem d_law_780 : decode code 780 = .ok (.iconst 0, 1) := by decide +kernel
theorem d_law_781 : decode code 781 = .ok (.aload_n 0, 1) := by decide +kernel
theorem d_law_782 : decode code 782 = .ok (.iload_n 3, 1) := by decide +kernel
theorem d_law_783 : decode code 783 = .ok (.iconst 2, 1) := by decide +kernel
theorem d_law_784 : decode code 784 = .ok (.iadd, 1) := by decide +kernel
theorem d_law_785 : decode code 785 = .ok (.iaload, 1) := by decide +kernel
theorem d_law_786 : decode code 786 = .ok (.aload_n 0, 1) := by decide +kernel
theorem d_law_787 : decode code 787 = .ok (.iload_n 3, 1) := by decide +kernel
theorem d_law_788 : decode code 788 = .ok (.iconst 3, 1) := by decide +kernel
theorem d_law_789 : decode code 789 = .ok (.iadd, 1) := by decide +kernel
theorem d_law_790 : decode code 790 = .ok (.iaload, 1) := by decide +kernel
theorem d_law_791 : decode code 791 = .ok (.invokevirtual 75, 3) := by decide +kernel
theorem d_law_794 : decode code 794 = .ok (.if_icmp .eq 108, 3) := by decide +kernel
theorem d_law_797 : decode code 797 = .ok (.iconst 0, 1) := by decide +kernel
theorem d_law_798 : decode code 798 = .ok (.ireturn, 1) := by decide +kernel
theorem d_law_799 : decode code 799 = .ok (.aload_n 1, 1) := by decide +kernel
theorem d_law_800 : decode code 800 = .ok (.invokevirtual 76, 3) := by decide +kernel
theorem d_law_803 : decode code 803 = .ok (.aload_n 2, 1) := by decide +kernel
theorem d_law_804 : decode code 804 = .ok (.invokevirtual 79, 3) := by decide +kernel
theorem d_law_807 : decode code 807 = .ok (.if_icmp .eq 95, 3) := by decide +kernel
theorem d_law_810 : decode code 810 = .ok (.iconst 0, 1) := by decide +kernel
theorem d_law_811 : decode code 811 = .ok (.ireturn, 1) := by decide +kernel
theorem d_law_812 : decode code 812 = .ok (.aload_n 1, 1) := by decide +kernel
theorem d_law_813 : decode code 813 = .ok (.aload_n 0, 1) := by decide +kernel
theorem d_law_814 : decode code 814 = .ok (.iload_n 3, 1) := by decide +kernel
theorem d_law_815 : decode code 815 = .ok (.iconst 1, 1) := by decide +kernel
theorem d_law_816 : decode code 816 = .ok (.iadd, 1) := by decide +kernel
theorem d_law_817 : decode code 817 = .ok (.iaload, 1) := by decide +kernel
theorem d_law_818 : decode code 818 = .ok (.aload_n 0, 1) := by decide +kernel
theorem d_law_819 : decode code 819 = .ok (.iload_n 3, 1) := by decide +kernel
theorem d_law_820 : decode code 820 = .ok (.iconst 2, 1) := by decide +kernel
theorem d_law_821 : decode code 821 = .ok (.iadd, 1) := by decide +kernel
theorem d_law_822 : decode code 822 = .ok (.iaload, 1) := by decide +kernel
theorem d_law_823 : decode code 823 = .ok (.invokevirtual 80, 3) := by decide +kernel
theorem d_law_826 : decode code 826 = .ok (.aload_n 2, 1) := by decide +kernel
theorem d_law_827 : decode code 827 = .ok (.aload_n 0, 1) := by decide +kernel
theorem d_law_828 : decode code 828 = .ok (.iload_n 3, 1) := by decide +kernel
theorem d_law_829 : decode code 829 = .ok (.iconst 1, 1) := by decide +kernel
theorem d_law_830 : decode code 830 = .ok (.iadd, 1) := by decide +kernel
theorem d_law_831 : decode code 831 = .ok (.iaload, 1) := by decide +kernel
theorem d_law_832 : decode code 832 = .ok (.aload_n 0, 1) := by decide +kernel
theorem d_law_833 : decode code 833 = .ok (.iload_n 3, 1) := by decide +kernel
theorem d_law_834 : decode code 834 = .ok (.iconst 2, 1) := by decide +kernel
theorem d_law_835 : decode code 835 = .ok (.iadd, 1) := by decide +kernel
theorem d_law_836 : decode code 836 = .ok (.iaload, 1) := by decide +kernel
theorem d_law_837 : decode code 837 = .ok (.invokevirtual 84, 3) := by decide +kernel
theorem d_law_840 : decode code 840 = .ok (.lcmp, 1) := by decide +kernel
theorem d_law_841 : decode code 841 = .ok (.ifCond .eq 61, 3) := by decide +kernel
theorem d_law_844 : decode code 844 = .ok (.iconst 0, 1) := by decide +kernel
theorem d_law_845 : decode code 845 = .ok (.ireturn, 1) := by decide +kernel
theorem d_law_846 : decode code 846 = .ok (.aload_n 1, 1) := by decide +kernel
theorem d_law_847 : decode code 847 = .ok (.aload_n 0, 1) := by decide +kernel
theorem d_law_848 : decode code 848 = .ok (.iload_n 3, 1) := by decide +kernel
theorem d_law_849 : decode code 849 = .ok (.iconst 1, 1) := by decide +kernel
theorem d_law_850 : decode code 850 = .ok (.iadd, 1) := by decide +kernel
theorem d_law_851 : decode code 851 = .ok (.iaload, 1) := by decide +kernel
theorem d_law_852 : decode code 852 = .ok (.aload_n 0, 1) := by decide +kernel
theorem d_law_853 : decode code 853 = .ok (.iload_n 3, 1) := by decide +kernel
theorem d_law_854 : decode code 854 = .ok (.iconst 2, 1) := by decide +kernel
theorem d_law_855 : decode code 855 = .ok (.iadd, 1) := by decide +kernel
theorem d_law_856 : decode code 856 = .ok (.iaload, 1) := by decide +kernel
theorem d_law_857 : decode code 857 = .ok (.invokevirtual 85, 3) := by decide +kernel
theorem d_law_860 : decode code 860 = .ok (.aload_n 2, 1) := by decide +kernel
theorem d_law_861 : decode code 861 = .ok (.aload_n 0, 1) := by decide +kernel
theorem d_law_862 : decode code 862 = .ok (.iload_n 3, 1) := by decide +kernel
theorem d_law_863 : decode code 863 = .ok (.iconst 1, 1) := by decide +kernel
theorem d_law_864 : decode code 864 = .ok (.iadd, 1) := by decide +kernel
theorem d_law_865 : decode code 865 = .ok (.iaload, 1) := by decide +kernel
theorem d_law_866 : decode code 866 = .ok (.aload_n 0, 1) := by decide +kernel
theorem d_law_867 : decode code 867 = .ok (.iload_n 3, 1) := by decide +kernel
theorem d_law_868 : decode code 868 = .ok (.iconst 2, 1) := by decide +kernel
theorem d_law_869 : decode code 869 = .ok (.iadd, 1) := by decide +kernel
theorem d_law_870 : decode code 870 = .ok (.iaload, 1) := by decide +kernel
theorem d_law_871 : decode code 871 = .ok (.invokevirtual 89, 3) := by decide +kernel
theorem d_law_874 : decode code 874 = .ok (.if_icmp .eq 28, 3) := by decide +kernel
theorem d_law_877 : decode code 877 = .ok (.iconst 0, 1) := by decide +kernel
theorem d_law_878 : decode code 878 = .ok (.ireturn, 1) := by decide +kernel
theorem d_law_879 : decode code 879 = .ok (.aload_n 1, 1) := by decide +kernel
theorem d_law_880 : decode code 880 = .ok (.aload_n 0, 1) := by decide +kernel
theorem d_law_881 : decode code 881 = .ok (.iload_n 3, 1) := by decide +kernel
theorem d_law_882 : decode code 882 = .ok (.iconst 1, 1) := by decide +kernel
theorem d_law_883 : decode code 883 = .ok (.iadd, 1) := by decide +kernel
theorem d_law_884 : decode code 884 = .ok (.iaload, 1) := by decide +kernel
theorem d_law_885 : decode code 885 = .ok (.invokevirtual 90, 3) := by decide +kernel
theorem d_law_888 : decode code 888 = .ok (.aload_n 2, 1) := by decide +kernel
theorem d_law_889 : decode code 889 = .ok (.aload_n 0, 1) := by decide +kernel
theorem d_law_890 : decode code 890 = .ok (.iload_n 3, 1) := by decide +kernel
theorem d_law_891 : decode code 891 = .ok (.iconst 1, 1) := by decide +kernel
theorem d_law_892 : decode code 892 = .ok (.iadd, 1) := by decide +kernel
theorem d_law_893 : decode code 893 = .ok (.iaload, 1) := by decide +kernel
theorem d_law_894 : decode code 894 = .ok (.invokevirtual 93, 3) := by decide +kernel
theorem d_law_897 : decode code 897 = .ok (.if_icmp .eq 5, 3) := by decide +kernel
theorem d_law_900 : decode code 900 = .ok (.iconst 0, 1) := by decide +kernel
theorem d_law_901 : decode code 901 = .ok (.ireturn, 1) := by decide +kernel
theorem d_law_902 : decode code 902 = .ok (.iinc 3 11, 3) := by decide +kernel
theorem d_law_905 : decode code 905 = .ok (.goto (-887), 3) := by decide +kernel
theorem d_law_908 : decode code 908 = .ok (.iconst 1, 1) := by decide +kernel
theorem d_law_909 : decode code 909 = .ok (.ireturn, 1) := by decide +kernel
