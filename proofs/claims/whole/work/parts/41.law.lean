theorem dL_0 : decode code 0 = .ok (.new 7, 3) := by decide +kernel
theorem dL_3 : decode code 3 = .ok (.dup, 1) := by decide +kernel
theorem dL_4 : decode code 4 = .ok (.invokespecial 9, 3) := by decide +kernel
theorem dL_7 : decode code 7 = .ok (.astore_n 1, 1) := by decide +kernel
theorem dL_8 : decode code 8 = .ok (.new 10, 3) := by decide +kernel
theorem dL_11 : decode code 11 = .ok (.dup, 1) := by decide +kernel
theorem dL_12 : decode code 12 = .ok (.invokespecial 12, 3) := by decide +kernel
theorem dL_15 : decode code 15 = .ok (.astore_n 2, 1) := by decide +kernel
theorem dL_16 : decode code 16 = .ok (.iconst 0, 1) := by decide +kernel
theorem dL_17 : decode code 17 = .ok (.istore_n 3, 1) := by decide +kernel
theorem dL_18 : decode code 18 = .ok (.iload_n 3, 1) := by decide +kernel
theorem dL_19 : decode code 19 = .ok (.aload_n 0, 1) := by decide +kernel
theorem dL_20 : decode code 20 = .ok (.arraylength, 1) := by decide +kernel
theorem dL_21 : decode code 21 = .ok (.iconst 5, 1) := by decide +kernel
theorem dL_22 : decode code 22 = .ok (.isub, 1) := by decide +kernel
theorem dL_23 : decode code 23 = .ok (.if_icmp .gt 500, 3) := by decide +kernel
theorem dL_26 : decode code 26 = .ok (.aload_n 0, 1) := by decide +kernel
theorem dL_27 : decode code 27 = .ok (.iload_n 3, 1) := by decide +kernel
theorem dL_28 : decode code 28 = .ok (.iaload, 1) := by decide +kernel
theorem dL_29 : decode code 29 = .ok (.bipush 31, 2) := by decide +kernel
theorem dL_31 : decode code 31 = .ok (.iand, 1) := by decide +kernel
theorem dL_32 : decode code 32 = .ok (.tableswitch 485 0 16 #[84, 127, 180, 223, 266, 279, 292, 315, 338, 361, 384, 397, 410, 423, 436, 449, 462], 84) := by decide +kernel
theorem dL_116 : decode code 116 = .ok (.aload_n 1, 1) := by decide +kernel
theorem dL_117 : decode code 117 = .ok (.aload_n 0, 1) := by decide +kernel
theorem dL_118 : decode code 118 = .ok (.iload_n 3, 1) := by decide +kernel
theorem dL_119 : decode code 119 = .ok (.iconst 1, 1) := by decide +kernel
theorem dL_120 : decode code 120 = .ok (.iadd, 1) := by decide +kernel
theorem dL_121 : decode code 121 = .ok (.iaload, 1) := by decide +kernel
theorem dL_122 : decode code 122 = .ok (.aload_n 0, 1) := by decide +kernel
theorem dL_123 : decode code 123 = .ok (.iload_n 3, 1) := by decide +kernel
theorem dL_124 : decode code 124 = .ok (.iconst 2, 1) := by decide +kernel
theorem dL_125 : decode code 125 = .ok (.iadd, 1) := by decide +kernel
theorem dL_126 : decode code 126 = .ok (.iaload, 1) := by decide +kernel
theorem dL_127 : decode code 127 = .ok (.aload_n 0, 1) := by decide +kernel
theorem dL_128 : decode code 128 = .ok (.iload_n 3, 1) := by decide +kernel
theorem dL_129 : decode code 129 = .ok (.iconst 3, 1) := by decide +kernel
theorem dL_130 : decode code 130 = .ok (.iadd, 1) := by decide +kernel
theorem dL_131 : decode code 131 = .ok (.iaload, 1) := by decide +kernel
theorem dL_132 : decode code 132 = .ok (.invokevirtual 13, 3) := by decide +kernel
theorem dL_135 : decode code 135 = .ok (.aload_n 2, 1) := by decide +kernel
theorem dL_136 : decode code 136 = .ok (.aload_n 0, 1) := by decide +kernel
theorem dL_137 : decode code 137 = .ok (.iload_n 3, 1) := by decide +kernel
theorem dL_138 : decode code 138 = .ok (.iconst 1, 1) := by decide +kernel
theorem dL_139 : decode code 139 = .ok (.iadd, 1) := by decide +kernel
theorem dL_140 : decode code 140 = .ok (.iaload, 1) := by decide +kernel
theorem dL_141 : decode code 141 = .ok (.aload_n 0, 1) := by decide +kernel
theorem dL_142 : decode code 142 = .ok (.iload_n 3, 1) := by decide +kernel
theorem dL_143 : decode code 143 = .ok (.iconst 2, 1) := by decide +kernel
theorem dL_144 : decode code 144 = .ok (.iadd, 1) := by decide +kernel
theorem dL_145 : decode code 145 = .ok (.iaload, 1) := by decide +kernel
theorem dL_146 : decode code 146 = .ok (.aload_n 0, 1) := by decide +kernel
theorem dL_147 : decode code 147 = .ok (.iload_n 3, 1) := by decide +kernel
theorem dL_148 : decode code 148 = .ok (.iconst 3, 1) := by decide +kernel
theorem dL_149 : decode code 149 = .ok (.iadd, 1) := by decide +kernel
theorem dL_150 : decode code 150 = .ok (.iaload, 1) := by decide +kernel
theorem dL_151 : decode code 151 = .ok (.invokevirtual 17, 3) := by decide +kernel
theorem dL_154 : decode code 154 = .ok (.if_icmp .eq 363, 3) := by decide +kernel
theorem dL_157 : decode code 157 = .ok (.iconst 0, 1) := by decide +kernel
theorem dL_158 : decode code 158 = .ok (.ireturn, 1) := by decide +kernel
theorem dL_159 : decode code 159 = .ok (.aload_n 1, 1) := by decide +kernel
theorem dL_160 : decode code 160 = .ok (.aload_n 0, 1) := by decide +kernel
theorem dL_161 : decode code 161 = .ok (.iload_n 3, 1) := by decide +kernel
theorem dL_162 : decode code 162 = .ok (.iconst 1, 1) := by decide +kernel
theorem dL_163 : decode code 163 = .ok (.iadd, 1) := by decide +kernel
theorem dL_164 : decode code 164 = .ok (.iaload, 1) := by decide +kernel
theorem dL_165 : decode code 165 = .ok (.aload_n 0, 1) := by decide +kernel
theorem dL_166 : decode code 166 = .ok (.iload_n 3, 1) := by decide +kernel
theorem dL_167 : decode code 167 = .ok (.iconst 2, 1) := by decide +kernel
theorem dL_168 : decode code 168 = .ok (.iadd, 1) := by decide +kernel
theorem dL_169 : decode code 169 = .ok (.iaload, 1) := by decide +kernel
theorem dL_170 : decode code 170 = .ok (.aload_n 0, 1) := by decide +kernel
theorem dL_171 : decode code 171 = .ok (.iload_n 3, 1) := by decide +kernel
theorem dL_172 : decode code 172 = .ok (.iconst 3, 1) := by decide +kernel
theorem dL_173 : decode code 173 = .ok (.iadd, 1) := by decide +kernel
theorem dL_174 : decode code 174 = .ok (.iaload, 1) := by decide +kernel
theorem dL_175 : decode code 175 = .ok (.aload_n 0, 1) := by decide +kernel
theorem dL_176 : decode code 176 = .ok (.iload_n 3, 1) := by decide +kernel
theorem dL_177 : decode code 177 = .ok (.iconst 4, 1) := by decide +kernel
theorem dL_178 : decode code 178 = .ok (.iadd, 1) := by decide +kernel
theorem dL_179 : decode code 179 = .ok (.iaload, 1) := by decide +kernel
theorem dL_180 : decode code 180 = .ok (.invokevirtual 18, 3) := by decide +kernel
theorem dL_183 : decode code 183 = .ok (.aload_n 2, 1) := by decide +kernel
theorem dL_184 : decode code 184 = .ok (.aload_n 0, 1) := by decide +kernel
theorem dL_185 : decode code 185 = .ok (.iload_n 3, 1) := by decide +kernel
theorem dL_186 : decode code 186 = .ok (.iconst 1, 1) := by decide +kernel
theorem dL_187 : decode code 187 = .ok (.iadd, 1) := by decide +kernel
theorem dL_188 : decode code 188 = .ok (.iaload, 1) := by decide +kernel
theorem dL_189 : decode code 189 = .ok (.aload_n 0, 1) := by decide +kernel
theorem dL_190 : decode code 190 = .ok (.iload_n 3, 1) := by decide +kernel
theorem dL_191 : decode code 191 = .ok (.iconst 2, 1) := by decide +kernel
theorem dL_192 : decode code 192 = .ok (.iadd, 1) := by decide +kernel
theorem dL_193 : decode code 193 = .ok (.iaload, 1) := by decide +kernel
theorem dL_194 : decode code 194 = .ok (.aload_n 0, 1) := by decide +kernel
theorem dL_195 : decode code 195 = .ok (.iload_n 3, 1) := by decide +kernel
theorem dL_196 : decode code 196 = .ok (.iconst 3, 1) := by decide +kernel
theorem dL_197 : decode code 197 = .ok (.iadd, 1) := by decide +kernel
theorem dL_198 : decode code 198 = .ok (.iaload, 1) := by decide +kernel
theorem dL_199 : decode code 199 = .ok (.aload_n 0, 1) := by decide +kernel
theorem dL_200 : decode code 200 = .ok (.iload_n 3, 1) := by decide +kernel
theorem dL_201 : decode code 201 = .ok (.iconst 4, 1) := by decide +kernel
theorem dL_202 : decode code 202 = .ok (.iadd, 1) := by decide +kernel
theorem dL_203 : decode code 203 = .ok (.iaload, 1) := by decide +kernel
theorem dL_204 : decode code 204 = .ok (.invokevirtual 22, 3) := by decide +kernel
theorem dL_207 : decode code 207 = .ok (.if_icmp .eq 310, 3) := by decide +kernel
theorem dL_210 : decode code 210 = .ok (.iconst 0, 1) := by decide +kernel
theorem dL_211 : decode code 211 = .ok (.ireturn, 1) := by decide +kernel
theorem dL_212 : decode code 212 = .ok (.aload_n 1, 1) := by decide +kernel
theorem dL_213 : decode code 213 = .ok (.aload_n 0, 1) := by decide +kernel
theorem dL_214 : decode code 214 = .ok (.iload_n 3, 1) := by decide +kernel
theorem dL_215 : decode code 215 = .ok (.iconst 1, 1) := by decide +kernel
theorem dL_216 : decode code 216 = .ok (.iadd, 1) := by decide +kernel
theorem dL_217 : decode code 217 = .ok (.iaload, 1) := by decide +kernel
theorem dL_218 : decode code 218 = .ok (.aload_n 0, 1) := by decide +kernel
theorem dL_219 : decode code 219 = .ok (.iload_n 3, 1) := by decide +kernel
theorem dL_220 : decode code 220 = .ok (.iconst 2, 1) := by decide +kernel
theorem dL_221 : decode code 221 = .ok (.iadd, 1) := by decide +kernel
theorem dL_222 : decode code 222 = .ok (.iaload, 1) := by decide +kernel
theorem dL_223 : decode code 223 = .ok (.aload_n 0, 1) := by decide +kernel
theorem dL_224 : decode code 224 = .ok (.iload_n 3, 1) := by decide +kernel
theorem dL_225 : decode code 225 = .ok (.iconst 3, 1) := by decide +kernel
theorem dL_226 : decode code 226 = .ok (.iadd, 1) := by decide +kernel
theorem dL_227 : decode code 227 = .ok (.iaload, 1) := by decide +kernel
theorem dL_228 : decode code 228 = .ok (.invokevirtual 23, 3) := by decide +kernel
theorem dL_231 : decode code 231 = .ok (.aload_n 2, 1) := by decide +kernel
theorem dL_232 : decode code 232 = .ok (.aload_n 0, 1) := by decide +kernel
theorem dL_233 : decode code 233 = .ok (.iload_n 3, 1) := by decide +kernel
theorem dL_234 : decode code 234 = .ok (.iconst 1, 1) := by decide +kernel
theorem dL_235 : decode code 235 = .ok (.iadd, 1) := by decide +kernel
theorem dL_236 : decode code 236 = .ok (.iaload, 1) := by decide +kernel
theorem dL_237 : decode code 237 = .ok (.aload_n 0, 1) := by decide +kernel
theorem dL_238 : decode code 238 = .ok (.iload_n 3, 1) := by decide +kernel
theorem dL_239 : decode code 239 = .ok (.iconst 2, 1) := by decide +kernel
theorem dL_240 : decode code 240 = .ok (.iadd, 1) := by decide +kernel
theorem dL_241 : decode code 241 = .ok (.iaload, 1) := by decide +kernel
theorem dL_242 : decode code 242 = .ok (.aload_n 0, 1) := by decide +kernel
theorem dL_243 : decode code 243 = .ok (.iload_n 3, 1) := by decide +kernel
theorem dL_244 : decode code 244 = .ok (.iconst 3, 1) := by decide +kernel
theorem dL_245 : decode code 245 = .ok (.iadd, 1) := by decide +kernel
theorem dL_246 : decode code 246 = .ok (.iaload, 1) := by decide +kernel
theorem dL_247 : decode code 247 = .ok (.invokevirtual 27, 3) := by decide +kernel
theorem dL_250 : decode code 250 = .ok (.if_icmp .eq 267, 3) := by decide +kernel
theorem dL_253 : decode code 253 = .ok (.iconst 0, 1) := by decide +kernel
theorem dL_254 : decode code 254 = .ok (.ireturn, 1) := by decide +kernel
theorem dL_255 : decode code 255 = .ok (.aload_n 1, 1) := by decide +kernel
theorem dL_256 : decode code 256 = .ok (.aload_n 0, 1) := by decide +kernel
theorem dL_257 : decode code 257 = .ok (.iload_n 3, 1) := by decide +kernel
theorem dL_258 : decode code 258 = .ok (.iconst 1, 1) := by decide +kernel
theorem dL_259 : decode code 259 = .ok (.iadd, 1) := by decide +kernel
theorem dL_260 : decode code 260 = .ok (.iaload, 1) := by decide +kernel
theorem dL_261 : decode code 261 = .ok (.aload_n 0, 1) := by decide +kernel
theorem dL_262 : decode code 262 = .ok (.iload_n 3, 1) := by decide +kernel
theorem dL_263 : decode code 263 = .ok (.iconst 2, 1) := by decide +kernel
theorem dL_264 : decode code 264 = .ok (.iadd, 1) := by decide +kernel
theorem dL_265 : decode code 265 = .ok (.iaload, 1) := by decide +kernel
theorem dL_266 : decode code 266 = .ok (.aload_n 0, 1) := by decide +kernel
theorem dL_267 : decode code 267 = .ok (.iload_n 3, 1) := by decide +kernel
theorem dL_268 : decode code 268 = .ok (.iconst 3, 1) := by decide +kernel
theorem dL_269 : decode code 269 = .ok (.iadd, 1) := by decide +kernel
theorem dL_270 : decode code 270 = .ok (.iaload, 1) := by decide +kernel
theorem dL_271 : decode code 271 = .ok (.invokevirtual 28, 3) := by decide +kernel
theorem dL_274 : decode code 274 = .ok (.aload_n 2, 1) := by decide +kernel
theorem dL_275 : decode code 275 = .ok (.aload_n 0, 1) := by decide +kernel
theorem dL_276 : decode code 276 = .ok (.iload_n 3, 1) := by decide +kernel
theorem dL_277 : decode code 277 = .ok (.iconst 1, 1) := by decide +kernel
theorem dL_278 : decode code 278 = .ok (.iadd, 1) := by decide +kernel
theorem dL_279 : decode code 279 = .ok (.iaload, 1) := by decide +kernel
theorem dL_280 : decode code 280 = .ok (.aload_n 0, 1) := by decide +kernel
theorem dL_281 : decode code 281 = .ok (.iload_n 3, 1) := by decide +kernel
theorem dL_282 : decode code 282 = .ok (.iconst 2, 1) := by decide +kernel
theorem dL_283 : decode code 283 = .ok (.iadd, 1) := by decide +kernel
theorem dL_284 : decode code 284 = .ok (.iaload, 1) := by decide +kernel
theorem dL_285 : decode code 285 = .ok (.aload_n 0, 1) := by decide +kernel
theorem dL_286 : decode code 286 = .ok (.iload_n 3, 1) := by decide +kernel
theorem dL_287 : decode code 287 = .ok (.iconst 3, 1) := by decide +kernel
theorem dL_288 : decode code 288 = .ok (.iadd, 1) := by decide +kernel
theorem dL_289 : decode code 289 = .ok (.iaload, 1) := by decide +kernel
theorem dL_290 : decode code 290 = .ok (.invokevirtual 31, 3) := by decide +kernel
theorem dL_293 : decode code 293 = .ok (.if_icmp .eq 224, 3) := by decide +kernel
theorem dL_296 : decode code 296 = .ok (.iconst 0, 1) := by decide +kernel
theorem dL_297 : decode code 297 = .ok (.ireturn, 1) := by decide +kernel
theorem dL_298 : decode code 298 = .ok (.aload_n 1, 1) := by decide +kernel
theorem dL_299 : decode code 299 = .ok (.invokevirtual 32, 3) := by decide +kernel
theorem dL_302 : decode code 302 = .ok (.aload_n 2, 1) := by decide +kernel
theorem dL_303 : decode code 303 = .ok (.invokevirtual 36, 3) := by decide +kernel
theorem dL_306 : decode code 306 = .ok (.if_icmp .eq 211, 3) := by decide +kernel
theorem dL_309 : decode code 309 = .ok (.iconst 0, 1) := by decide +kernel
theorem dL_310 : decode code 310 = .ok (.ireturn, 1) := by decide +kernel
theorem dL_311 : decode code 311 = .ok (.aload_n 1, 1) := by decide +kernel
theorem dL_312 : decode code 312 = .ok (.invokevirtual 37, 3) := by decide +kernel
theorem dL_315 : decode code 315 = .ok (.aload_n 2, 1) := by decide +kernel
theorem dL_316 : decode code 316 = .ok (.invokevirtual 40, 3) := by decide +kernel
theorem dL_319 : decode code 319 = .ok (.if_icmp .eq 198, 3) := by decide +kernel
theorem dL_322 : decode code 322 = .ok (.iconst 0, 1) := by decide +kernel
theorem dL_323 : decode code 323 = .ok (.ireturn, 1) := by decide +kernel
theorem dL_324 : decode code 324 = .ok (.aload_n 1, 1) := by decide +kernel
theorem dL_325 : decode code 325 = .ok (.aload_n 0, 1) := by decide +kernel
theorem dL_326 : decode code 326 = .ok (.iload_n 3, 1) := by decide +kernel
theorem dL_327 : decode code 327 = .ok (.iconst 1, 1) := by decide +kernel
theorem dL_328 : decode code 328 = .ok (.iadd, 1) := by decide +kernel
theorem dL_329 : decode code 329 = .ok (.iaload, 1) := by decide +kernel
theorem dL_330 : decode code 330 = .ok (.invokevirtual 41, 3) := by decide +kernel
theorem dL_333 : decode code 333 = .ok (.aload_n 2, 1) := by decide +kernel
theorem dL_334 : decode code 334 = .ok (.aload_n 0, 1) := by decide +kernel
theorem dL_335 : decode code 335 = .ok (.iload_n 3, 1) := by decide +kernel
theorem dL_336 : decode code 336 = .ok (.iconst 1, 1) := by decide +kernel
theorem dL_337 : decode code 337 = .ok (.iadd, 1) := by decide +kernel
theorem dL_338 : decode code 338 = .ok (.iaload, 1) := by decide +kernel
theorem dL_339 : decode code 339 = .ok (.invokevirtual 45, 3) := by decide +kernel
theorem dL_342 : decode code 342 = .ok (.if_icmp .eq 175, 3) := by decide +kernel
theorem dL_345 : decode code 345 = .ok (.iconst 0, 1) := by decide +kernel
theorem dL_346 : decode code 346 = .ok (.ireturn, 1) := by decide +kernel
theorem dL_347 : decode code 347 = .ok (.aload_n 1, 1) := by decide +kernel
theorem dL_348 : decode code 348 = .ok (.aload_n 0, 1) := by decide +kernel
theorem dL_349 : decode code 349 = .ok (.iload_n 3, 1) := by decide +kernel
theorem dL_350 : decode code 350 = .ok (.iconst 1, 1) := by decide +kernel
theorem dL_351 : decode code 351 = .ok (.iadd, 1) := by decide +kernel
theorem dL_352 : decode code 352 = .ok (.iaload, 1) := by decide +kernel
theorem dL_353 : decode code 353 = .ok (.invokevirtual 46, 3) := by decide +kernel
theorem dL_356 : decode code 356 = .ok (.aload_n 2, 1) := by decide +kernel
theorem dL_357 : decode code 357 = .ok (.aload_n 0, 1) := by decide +kernel
theorem dL_358 : decode code 358 = .ok (.iload_n 3, 1) := by decide +kernel
theorem dL_359 : decode code 359 = .ok (.iconst 1, 1) := by decide +kernel
theorem dL_360 : decode code 360 = .ok (.iadd, 1) := by decide +kernel
theorem dL_361 : decode code 361 = .ok (.iaload, 1) := by decide +kernel
theorem dL_362 : decode code 362 = .ok (.invokevirtual 49, 3) := by decide +kernel
theorem dL_365 : decode code 365 = .ok (.if_icmp .eq 152, 3) := by decide +kernel
theorem dL_368 : decode code 368 = .ok (.iconst 0, 1) := by decide +kernel
theorem dL_369 : decode code 369 = .ok (.ireturn, 1) := by decide +kernel
theorem dL_370 : decode code 370 = .ok (.aload_n 1, 1) := by decide +kernel
theorem dL_371 : decode code 371 = .ok (.aload_n 0, 1) := by decide +kernel
theorem dL_372 : decode code 372 = .ok (.iload_n 3, 1) := by decide +kernel
theorem dL_373 : decode code 373 = .ok (.iconst 1, 1) := by decide +kernel
theorem dL_374 : decode code 374 = .ok (.iadd, 1) := by decide +kernel
theorem dL_375 : decode code 375 = .ok (.iaload, 1) := by decide +kernel
theorem dL_376 : decode code 376 = .ok (.invokevirtual 50, 3) := by decide +kernel
theorem dL_379 : decode code 379 = .ok (.aload_n 2, 1) := by decide +kernel
theorem dL_380 : decode code 380 = .ok (.aload_n 0, 1) := by decide +kernel
theorem dL_381 : decode code 381 = .ok (.iload_n 3, 1) := by decide +kernel
theorem dL_382 : decode code 382 = .ok (.iconst 1, 1) := by decide +kernel
theorem dL_383 : decode code 383 = .ok (.iadd, 1) := by decide +kernel
theorem dL_384 : decode code 384 = .ok (.iaload, 1) := by decide +kernel
theorem dL_385 : decode code 385 = .ok (.invokevirtual 53, 3) := by decide +kernel
theorem dL_388 : decode code 388 = .ok (.if_icmp .eq 129, 3) := by decide +kernel
theorem dL_391 : decode code 391 = .ok (.iconst 0, 1) := by decide +kernel
theorem dL_392 : decode code 392 = .ok (.ireturn, 1) := by decide +kernel
theorem dL_393 : decode code 393 = .ok (.aload_n 1, 1) := by decide +kernel
theorem dL_394 : decode code 394 = .ok (.aload_n 0, 1) := by decide +kernel
theorem dL_395 : decode code 395 = .ok (.iload_n 3, 1) := by decide +kernel
theorem dL_396 : decode code 396 = .ok (.iconst 1, 1) := by decide +kernel
theorem dL_397 : decode code 397 = .ok (.iadd, 1) := by decide +kernel
theorem dL_398 : decode code 398 = .ok (.iaload, 1) := by decide +kernel
theorem dL_399 : decode code 399 = .ok (.invokevirtual 54, 3) := by decide +kernel
theorem dL_402 : decode code 402 = .ok (.aload_n 2, 1) := by decide +kernel
theorem dL_403 : decode code 403 = .ok (.aload_n 0, 1) := by decide +kernel
theorem dL_404 : decode code 404 = .ok (.iload_n 3, 1) := by decide +kernel
theorem dL_405 : decode code 405 = .ok (.iconst 1, 1) := by decide +kernel
theorem dL_406 : decode code 406 = .ok (.iadd, 1) := by decide +kernel
theorem dL_407 : decode code 407 = .ok (.iaload, 1) := by decide +kernel
theorem dL_408 : decode code 408 = .ok (.invokevirtual 57, 3) := by decide +kernel
theorem dL_411 : decode code 411 = .ok (.if_icmp .eq 106, 3) := by decide +kernel
theorem dL_414 : decode code 414 = .ok (.iconst 0, 1) := by decide +kernel
theorem dL_415 : decode code 415 = .ok (.ireturn, 1) := by decide +kernel
theorem dL_416 : decode code 416 = .ok (.aload_n 1, 1) := by decide +kernel
theorem dL_417 : decode code 417 = .ok (.invokevirtual 58, 3) := by decide +kernel
theorem dL_420 : decode code 420 = .ok (.aload_n 2, 1) := by decide +kernel
theorem dL_421 : decode code 421 = .ok (.invokevirtual 61, 3) := by decide +kernel
theorem dL_424 : decode code 424 = .ok (.if_icmp .eq 93, 3) := by decide +kernel
theorem dL_427 : decode code 427 = .ok (.iconst 0, 1) := by decide +kernel
theorem dL_428 : decode code 428 = .ok (.ireturn, 1) := by decide +kernel
theorem dL_429 : decode code 429 = .ok (.aload_n 1, 1) := by decide +kernel
theorem dL_430 : decode code 430 = .ok (.invokevirtual 62, 3) := by decide +kernel
theorem dL_433 : decode code 433 = .ok (.aload_n 2, 1) := by decide +kernel
theorem dL_434 : decode code 434 = .ok (.invokevirtual 66, 3) := by decide +kernel
theorem dL_437 : decode code 437 = .ok (.if_icmp .eq 80, 3) := by decide +kernel
theorem dL_440 : decode code 440 = .ok (.iconst 0, 1) := by decide +kernel
theorem dL_441 : decode code 441 = .ok (.ireturn, 1) := by decide +kernel
theorem dL_442 : decode code 442 = .ok (.aload_n 1, 1) := by decide +kernel
theorem dL_443 : decode code 443 = .ok (.invokevirtual 67, 3) := by decide +kernel
theorem dL_446 : decode code 446 = .ok (.aload_n 2, 1) := by decide +kernel
theorem dL_447 : decode code 447 = .ok (.invokevirtual 70, 3) := by decide +kernel
theorem dL_450 : decode code 450 = .ok (.if_icmp .eq 67, 3) := by decide +kernel
theorem dL_453 : decode code 453 = .ok (.iconst 0, 1) := by decide +kernel
theorem dL_454 : decode code 454 = .ok (.ireturn, 1) := by decide +kernel
theorem dL_455 : decode code 455 = .ok (.aload_n 1, 1) := by decide +kernel
theorem dL_456 : decode code 456 = .ok (.invokevirtual 71, 3) := by decide +kernel
theorem dL_459 : decode code 459 = .ok (.aload_n 2, 1) := by decide +kernel
theorem dL_460 : decode code 460 = .ok (.invokevirtual 74, 3) := by decide +kernel
theorem dL_463 : decode code 463 = .ok (.if_icmp .eq 54, 3) := by decide +kernel
theorem dL_466 : decode code 466 = .ok (.iconst 0, 1) := by decide +kernel
theorem dL_467 : decode code 467 = .ok (.ireturn, 1) := by decide +kernel
theorem dL_468 : decode code 468 = .ok (.aload_n 1, 1) := by decide +kernel
theorem dL_469 : decode code 469 = .ok (.invokevirtual 75, 3) := by decide +kernel
theorem dL_472 : decode code 472 = .ok (.aload_n 2, 1) := by decide +kernel
theorem dL_473 : decode code 473 = .ok (.invokevirtual 78, 3) := by decide +kernel
theorem dL_476 : decode code 476 = .ok (.if_icmp .eq 41, 3) := by decide +kernel
theorem dL_479 : decode code 479 = .ok (.iconst 0, 1) := by decide +kernel
theorem dL_480 : decode code 480 = .ok (.ireturn, 1) := by decide +kernel
theorem dL_481 : decode code 481 = .ok (.aload_n 1, 1) := by decide +kernel
theorem dL_482 : decode code 482 = .ok (.invokevirtual 79, 3) := by decide +kernel
theorem dL_485 : decode code 485 = .ok (.aload_n 2, 1) := by decide +kernel
theorem dL_486 : decode code 486 = .ok (.invokevirtual 82, 3) := by decide +kernel
theorem dL_489 : decode code 489 = .ok (.if_icmp .eq 28, 3) := by decide +kernel
theorem dL_492 : decode code 492 = .ok (.iconst 0, 1) := by decide +kernel
theorem dL_493 : decode code 493 = .ok (.ireturn, 1) := by decide +kernel
theorem dL_494 : decode code 494 = .ok (.aload_n 1, 1) := by decide +kernel
theorem dL_495 : decode code 495 = .ok (.aload_n 0, 1) := by decide +kernel
theorem dL_496 : decode code 496 = .ok (.iload_n 3, 1) := by decide +kernel
theorem dL_497 : decode code 497 = .ok (.iconst 1, 1) := by decide +kernel
theorem dL_498 : decode code 498 = .ok (.iadd, 1) := by decide +kernel
theorem dL_499 : decode code 499 = .ok (.iaload, 1) := by decide +kernel
theorem dL_500 : decode code 500 = .ok (.invokevirtual 83, 3) := by decide +kernel
theorem dL_503 : decode code 503 = .ok (.aload_n 2, 1) := by decide +kernel
theorem dL_504 : decode code 504 = .ok (.aload_n 0, 1) := by decide +kernel
theorem dL_505 : decode code 505 = .ok (.iload_n 3, 1) := by decide +kernel
theorem dL_506 : decode code 506 = .ok (.iconst 1, 1) := by decide +kernel
theorem dL_507 : decode code 507 = .ok (.iadd, 1) := by decide +kernel
theorem dL_508 : decode code 508 = .ok (.iaload, 1) := by decide +kernel
theorem dL_509 : decode code 509 = .ok (.invokevirtual 86, 3) := by decide +kernel
theorem dL_512 : decode code 512 = .ok (.if_icmp .eq 5, 3) := by decide +kernel
theorem dL_515 : decode code 515 = .ok (.iconst 0, 1) := by decide +kernel
theorem dL_516 : decode code 516 = .ok (.ireturn, 1) := by decide +kernel
theorem dL_517 : decode code 517 = .ok (.iinc 3 5, 3) := by decide +kernel
theorem dL_520 : decode code 520 = .ok (.goto (-502), 3) := by decide +kernel
theorem dL_523 : decode code 523 = .ok (.iconst 1, 1) := by decide +kernel
theorem dL_524 : decode code 524 = .ok (.ireturn, 1) := by decide +kernel
/-- what stays the same in the law's walk, behind the two constructors -/
def lg_Cx (p : Program) (s : State) (m : MethodId) (meth : Method) (c : Code) (b L : Nat) (xs : Nat → Int32) (D : va_G) (q q' : Nat → Nat) (dA : Nat → ClassId) (tv ta tb cells slots : Nat) : Prop :=
  lw_At p s m meth c b L xs ∧ va_K D vwCl (sf_tys dA) s ∧ (sf_inj q KX ∧ sf_inj q' KM ∧ (∀ i j, i < KX.length → j < KM.length → q i ≠ q' j)) ∧ ((∀ i, i < KX.length → s.heap.size ≤ q i) ∧ (∀ j, j < KM.length → s.heap.size ≤ q' j)) ∧ sf_EX q tv ta tb s ∧ cells ≤ 600000 ∧ slots ≤ 7302250
def lg_A (s : State) : Nat → Prop := fun a => s.heap.size ≤ a
def lg_G (p : Program) (l : Launch) (e : Env) (s : State) (m : MethodId) (below : List Frame) (meth : Method) (c : Code) (b : Nat) (D : va_G) (q q' : Nat → Nat) (dA : Nat → ClassId) (cells slots : Nat) (σ σ' : sf_St) (pc : Nat) (lv : List (Nat × Value)) (st : List Value) : Prop :=
  ∀ (H : Heap) (locs : List Loc) (ls : Array Slot), va_P D vwCl (sf_w q dA KX σ) H → va_P D vwCl (sf_w q' dA KM σ') H → va_S (lg_A s) s.heap H locs → lv_has ls 4 lv → W p l e room_1 s m #[Value.ref b] below meth c H locs cells slots (lw_Z below #[Value.ref b] s) (F0 m pc ls st)
section LGROWS
variable {p : Program} {l : Launch} {e : Env} {s : State} {m : MethodId} {below : List Frame} {meth : Method} {c : Code} {b L : Nat} {xs : Nat → Int32} {D : va_G} {q q' : Nat → Nat} {dA : Nat → ClassId} {tv ta tb cells slots : Nat} {σ σ' : sf_St} {pc pc' : Nat} {lv : List (Nat × Value)} {st : List Value}
theorem lg_iconst (X : lg_Cx p s m meth c b L xs D q q' dA tv ta tb cells slots) {n : Int} {v : Int32} (hdg : decode code pc = .ok (.iconst n, 1)) (hv : Int32.ofInt n = v) (hp : pc + 1 = pc') (k : lg_G p l e s m below meth c b D q q' dA cells slots σ σ' pc' lv (.int v :: st)) : lg_G p l e s m below meth c b D q q' dA cells slots σ σ' pc lv st := by
  subst hp
  exact fun H locs ls hP hP' hS hl => lv_iconst X.1.1 X.1.2.1 hdg hv (k H locs ls hP hP' hS hl)
theorem lg_bipush (X : lg_Cx p s m meth c b L xs D q q' dA tv ta tb cells slots) {n : Int} {v : Int32} (hdg : decode code pc = .ok (.bipush n, 2)) (hv : (Int8.ofInt n).toInt32 = v) (hp : pc + 2 = pc') (k : lg_G p l e s m below meth c b D q q' dA cells slots σ σ' pc' lv (.int v :: st)) : lg_G p l e s m below meth c b D q q' dA cells slots σ σ' pc lv st := by
  subst hp
  exact fun H locs ls hP hP' hS hl => lv_bipush X.1.1 X.1.2.1 hdg hv (k H locs ls hP hP' hS hl)
theorem lg_iload_n (X : lg_Cx p s m meth c b L xs D q q' dA tv ta tb cells slots) {k : Fin 4} {i j : Nat} {x : Int32} (hdg : decode code pc = .ok (.iload_n k, 1)) (hi : (k : Nat) = i) (hj : lv[j]? = some (i, .int x)) (hp : pc + 1 = pc') (k : lg_G p l e s m below meth c b D q q' dA cells slots σ σ' pc' lv (.int x :: st)) : lg_G p l e s m below meth c b D q q' dA cells slots σ σ' pc lv st := by
  subst hp
  exact fun H locs ls hP hP' hS hl => lv_iload_n X.1.1 X.1.2.1 hdg hi (lv_at hl j hj) (k H locs ls hP hP' hS hl)
theorem lg_aload_n (X : lg_Cx p s m meth c b L xs D q q' dA tv ta tb cells slots) {k : Fin 4} {i j : Nat} {x : Nat} (hdg : decode code pc = .ok (.aload_n k, 1)) (hi : (k : Nat) = i) (hj : lv[j]? = some (i, .ref x)) (hp : pc + 1 = pc') (k : lg_G p l e s m below meth c b D q q' dA cells slots σ σ' pc' lv (.ref x :: st)) : lg_G p l e s m below meth c b D q q' dA cells slots σ σ' pc lv st := by
  subst hp
  exact fun H locs ls hP hP' hS hl => lv_aload_n X.1.1 X.1.2.1 hdg hi (lv_at hl j hj) (k H locs ls hP hP' hS hl)
theorem lg_iadd (X : lg_Cx p s m meth c b L xs D q q' dA tv ta tb cells slots) {x y : Int32} (hdg : decode code pc = .ok (.iadd, 1))  (hp : pc + 1 = pc') (k : lg_G p l e s m below meth c b D q q' dA cells slots σ σ' pc' lv (.int (x + y) :: st)) : lg_G p l e s m below meth c b D q q' dA cells slots σ σ' pc lv (.int y :: .int x :: st) := by
  subst hp
  exact fun H locs ls hP hP' hS hl => lv_iadd X.1.1 X.1.2.1 hdg  (k H locs ls hP hP' hS hl)
theorem lg_isub (X : lg_Cx p s m meth c b L xs D q q' dA tv ta tb cells slots) {x y : Int32} (hdg : decode code pc = .ok (.isub, 1))  (hp : pc + 1 = pc') (k : lg_G p l e s m below meth c b D q q' dA cells slots σ σ' pc' lv (.int (x - y) :: st)) : lg_G p l e s m below meth c b D q q' dA cells slots σ σ' pc lv (.int y :: .int x :: st) := by
  subst hp
  exact fun H locs ls hP hP' hS hl => lv_isub X.1.1 X.1.2.1 hdg  (k H locs ls hP hP' hS hl)
theorem lg_iand (X : lg_Cx p s m meth c b L xs D q q' dA tv ta tb cells slots) {x y : Int32} (hdg : decode code pc = .ok (.iand, 1))  (hp : pc + 1 = pc') (k : lg_G p l e s m below meth c b D q q' dA cells slots σ σ' pc' lv (.int (x &&& y) :: st)) : lg_G p l e s m below meth c b D q q' dA cells slots σ σ' pc lv (.int y :: .int x :: st) := by
  subst hp
  exact fun H locs ls hP hP' hS hl => lv_iand X.1.1 X.1.2.1 hdg  (k H locs ls hP hP' hS hl)
theorem lg_iinc (X : lg_Cx p s m meth c b L xs D q q' dA tv ta tb cells slots) {i j : Nat} {n : Int} {x v : Int32} {lv' : List (Nat × Value)} (hdg : decode code pc = .ok (.iinc i n, 3)) (hj : lv[j]? = some (i, .int x)) (hv : x + Int32.ofInt n = v) (hn : i < 4) (hl' : (i, Value.int v) :: lv.filter (fun q => !(q.1 == i) && !(q.1 + 1 == i && q.2.category == 2)) = lv') (hp : pc + 3 = pc') (k : lg_G p l e s m below meth c b D q q' dA cells slots σ σ' pc' lv' st) : lg_G p l e s m below meth c b D q q' dA cells slots σ σ' pc lv st := by
  subst hp
  exact fun H locs ls hP hP' hS hl => lv_iinc X.1.1 X.1.2.1 hdg hl hj hv hn hl' (fun ls' hls' => k H locs ls' hP hP' hS hls')
theorem lg_istore_n (X : lg_Cx p s m meth c b L xs D q q' dA tv ta tb cells slots) {k : Fin 4} {i : Nat} {x : Int32} {lv' : List (Nat × Value)} (hdg : decode code pc = .ok (.istore_n k, 1)) (hi : (k : Nat) = i) (hn : i < 4) (hl' : (i, Value.int x) :: lv.filter (fun q => !(q.1 == i) && !(q.1 + 1 == i && q.2.category == 2)) = lv') (hp : pc + 1 = pc') (k : lg_G p l e s m below meth c b D q q' dA cells slots σ σ' pc' lv' st) : lg_G p l e s m below meth c b D q q' dA cells slots σ σ' pc lv (.int x :: st) := by
  subst hp
  exact fun H locs ls hP hP' hS hl => lv_istore_n X.1.1 X.1.2.1 hdg hi hl hn hl' (fun ls' hls' => k H locs ls' hP hP' hS hls')
theorem lg_loc {lv' : List (Nat × Value)} (ks : List Nat) (h : lv_pick lv ks = lv') (k : lg_G p l e s m below meth c b D q q' dA cells slots σ σ' pc lv' st) : lg_G p l e s m below meth c b D q q' dA cells slots σ σ' pc lv st := fun H locs ls hP hP' hS hl => k H locs ls hP hP' hS (lv_sub hl ks h)
theorem lg_icmp_eq (X : lg_Cx p s m meth c b L xs D q q' dA tv ta tb cells slots) {x y : Int32} {off : Int} {tgt : Nat} (hdg : decode code pc = .ok (.if_icmp .eq off, 3)) (ht : (pc : Int) + off = (tgt : Int)) (hp : pc + 3 = pc') (kt : x = y → lg_G p l e s m below meth c b D q q' dA cells slots σ σ' tgt lv st) (kf : ¬ x = y → lg_G p l e s m below meth c b D q q' dA cells slots σ σ' pc' lv st) : lg_G p l e s m below meth c b D q q' dA cells slots σ σ' pc lv (.int y :: .int x :: st) := by
  subst hp
  exact fun H locs ls hP hP' hS hl => lv_icmp_eq X.1.1 X.1.2.1 hdg ht (fun h => kt h H locs ls hP hP' hS hl) (fun h => kf h H locs ls hP hP' hS hl)
theorem lg_icmp_gt (X : lg_Cx p s m meth c b L xs D q q' dA tv ta tb cells slots) {x y : Int32} {off : Int} {tgt : Nat} (hdg : decode code pc = .ok (.if_icmp .gt off, 3)) (ht : (pc : Int) + off = (tgt : Int)) (hp : pc + 3 = pc') (kt : y < x → lg_G p l e s m below meth c b D q q' dA cells slots σ σ' tgt lv st) (kf : ¬ y < x → lg_G p l e s m below meth c b D q q' dA cells slots σ σ' pc' lv st) : lg_G p l e s m below meth c b D q q' dA cells slots σ σ' pc lv (.int y :: .int x :: st) := by
  subst hp
  exact fun H locs ls hP hP' hS hl => lv_icmp_gt X.1.1 X.1.2.1 hdg ht (fun h => kt h H locs ls hP hP' hS hl) (fun h => kf h H locs ls hP hP' hS hl)
theorem lg_goto (X : lg_Cx p s m meth c b L xs D q q' dA tv ta tb cells slots) {off : Int} {tgt : Nat} (hdg : decode code pc = .ok (.goto off, 3)) (ht : (pc : Int) + off = (tgt : Int)) (k : lg_G p l e s m below meth c b D q q' dA cells slots σ σ' tgt lv st) : lg_G p l e s m below meth c b D q q' dA cells slots σ σ' pc lv st := fun H locs ls hP hP' hS hl => lv_goto X.1.1 X.1.2.1 hdg ht (k H locs ls hP hP' hS hl)
theorem lg_sld (X : lg_Cx p s m meth c b L xs D q q' dA tv ta tb cells slots) {i : Int32} (hin : vp_in i L) (hdg : decode code pc = .ok (.iaload, 1)) (hp : pc + 1 = pc') (k : lg_G p l e s m below meth c b D q q' dA cells slots σ σ' pc' lv (.int (xs (sf_ix i)) :: st)) : lg_G p l e s m below meth c b D q q' dA cells slots σ σ' pc lv (.int i :: .ref b :: st) := by
  subst hp
  exact fun H locs ls hP hP' hS hl => va_sld X.1.1 X.1.2.1 X.1.2.2.2.2.2.2.1 X.1.2.2.2.2.2.2.2.1 (Nat.not_le.mpr X.1.2.2.2.2.2.2.2.1) hS hin hdg (k H locs ls hP hP' hS hl)
theorem lg_slen (X : lg_Cx p s m meth c b L xs D q q' dA tv ta tb cells slots) (hdg : decode code pc = .ok (.arraylength, 1)) (hp : pc + 1 = pc') (k : lg_G p l e s m below meth c b D q q' dA cells slots σ σ' pc' lv (.int (nI L) :: st)) : lg_G p l e s m below meth c b D q q' dA cells slots σ σ' pc lv (.ref b :: st) := by
  subst hp
  exact fun H locs ls hP hP' hS hl => va_slen X.1.1 X.1.2.1 X.1.2.2.2.2.2.2.1 X.1.2.2.2.2.2.2.2.1 (Nat.not_le.mpr X.1.2.2.2.2.2.2.2.1) hS hdg (k H locs ls hP hP' hS hl)
theorem lg_tabOut (X : lg_Cx p s m meth c b L xs D q q' dA tv ta tb cells slots) {dflt lo hi : Int} {offs : Array Int} {len : Nat} {x : Int32} {tgt : Nat} (hdg : decode code pc = .ok (.tableswitch dflt lo hi offs, len)) (h : x.toInt < lo ∨ hi < x.toInt) (ht : (pc : Int) + dflt = (tgt : Int)) (k : lg_G p l e s m below meth c b D q q' dA cells slots σ σ' tgt lv st) : lg_G p l e s m below meth c b D q q' dA cells slots σ σ' pc lv (.int x :: st) := fun H locs ls hP hP' hS hl => lv_tableOut X.1.1 X.1.2.1 hdg h ht (k H locs ls hP hP' hS hl)
theorem lg_tabIn (X : lg_Cx p s m meth c b L xs D q q' dA tv ta tb cells slots) {dflt lo hi : Int} {offs : Array Int} {len : Nat} {x : Int32} {off : Int} {tgt : Nat} (hdg : decode code pc = .ok (.tableswitch dflt lo hi offs, len)) (h1 : ¬ x.toInt < lo) (h2 : ¬ hi < x.toInt) (ho : offs[(x.toInt - lo).toNat]? = some off) (ht : (pc : Int) + off = (tgt : Int)) (k : lg_G p l e s m below meth c b D q q' dA cells slots σ σ' tgt lv st) : lg_G p l e s m below meth c b D q q' dA cells slots σ σ' pc lv (.int x :: st) := fun H locs ls hP hP' hS hl => lv_tableIn X.1.1 X.1.2.1 hdg h1 h2 ho ht (k H locs ls hP hP' hS hl)
theorem lg_word (X : lg_Cx p s m meth c b L xs D q q' dA tv ta tb cells slots) {w : Cond} (h : w ∈ sf_T) : w.before #[Value.ref b] s = true := X.1.2.2.2.2.2.1 w (List.mem_filter.mp h).1
theorem lg_E (X : lg_Cx p s m meth c b L xs D q q' dA tv ta tb cells slots) {H : Heap} {locs : List Loc} {U : State} (hS : va_S (lg_A s) s.heap H locs) (hU : U.heap = H) (hW : s.WarmedH U.vm) : sf_EX q tv ta tb U :=
  sf_EXk s U hW (fun a h1 _ => by rw [hU]; exact hS.2.1 a h1 (Nat.not_le.mpr h1)) (by rw [hU]; exact hS.1) X.2.2.2.2.1
theorem lg_ws : ∀ {c0 : Cond}, c0 ∈ sf_T → ∀ {own C : String} {idx : Nat} {y : MethodName}, Cond.methodLink own idx y ∈ sf_T → Cond.instanceMethod y ∈ sf_T → Cond.selects C y y ∈ sf_T → Cond.initialized C ∈ sf_T → GoodIn sf_T (wsV own idx C y (c0 :: sf_T)) := by
  intro c0 hc own C idx y h1 h2 h3 h4 w hw
  have h := sf_gV (c0 := c0) h1 h2 h3 h4 hc w hw
  refine ⟨?_, h.2⟩
  rcases List.mem_cons.mp h.1 with e | e
  · rw [e]; exact hc
  · exact e
theorem lg_keep {K : List sf_Kd} {q1 : Nat → Nat} {τ : sf_St} {H H1 : Heap} {A1 : Nat → Prop} (hP : va_P D vwCl (sf_w q1 dA K τ) H) (hd : ∀ j, j < K.length → ¬ A1 (q1 j)) (hk : ∀ a : Nat, a < H.size → ¬ A1 a → H1[a]? = H[a]?) : va_P D vwCl (sf_w q1 dA K τ) H1 :=
  hP.kept (fun k x hx => by
    obtain ⟨h1, h2⟩ := sf_w_inv hx
    have hlt := (hP k x hx).lt
    exact hk x.1 hlt (by rw [h2]; exact hd k h1))
theorem lg_callX (X : lg_Cx p s m meth c b L xs D q q' dA tv ta tb cells slots) {y : MethodName} {ws' : List Cond} {rm' : Room} {bytes : ByteArray} {maxL n index : Nat} {ret' : Option FieldType} {As rest : List Value} {r : Int32} {τ : sf_St} {k ci : Nat} {fs : List (Option Nat)} {cv : vw_C} (hk : KX[k]? = some (4, ci, fs)) (hc : vwCl[ci]? = some cv) (hM : sf_Mi l y ws' rm' D vwCl q dA KX (sf_EX q tv ta tb) (.ref (q k) :: As) σ r τ) (cw : CallW room_1 s #[Value.ref b] "StereoFormsLaw" cv.1 index y bytes maxL ret' ws' rm' 0 0 n) (hn : As.length = n) (hst : st = As.reverse ++ .ref (q k) :: rest) (hW : (rest.map fun v => v.category).sum ≤ 8) (hdg : decode code pc = .ok (.invokevirtual index, 3)) (hp : pc + 3 = pc') (kk : lg_G p l e s m below meth c b D q q' dA cells slots τ σ' pc' lv (.int r :: rest)) : lg_G p l e s m below meth c b D q q' dA cells slots σ σ' pc lv st := by
  subst hst; subst hp
  intro H locs ls hP hP' hS hl
  have hcs : ∀ a, sf_A q KX a → lg_A s a := fun a ha => by obtain ⟨i, h1, h2⟩ := ha; rw [h2]; exact X.2.2.2.1.1 i h1
  refine va_calli (va_runV (Ts := lw_tbl) (own := "StereoFormsLaw") (As := As) (rest := rest) ⟨X.1.1, X.1.2.1, X.1.2.2.2.1, X.1.2.2.2.2.1, X.1.2.2.2.2.2.1⟩ hM cw ⟨sf_blind sf_EXk _, va_recv X.2.1 hP hc (sf_w_at hk), fun U hU hW => ⟨rfl, by rw [hU]; exact hP, va_K.moved hW.alike X.2.1, lg_E X hS hU hW⟩⟩ rfl hn hl.1 rfl (lv_room hW) hdg ⟨by have := X.2.2.2.2.2.1; show cells + 0 ≤ 600000; omega, by have := X.2.2.2.2.2.2; show slots + 0 ≤ 7302250; omega⟩) hS (fun a _ h => hcs a h) hcs (fun r' u t H1 locs1 ht hvm hpo hB hz hk1 hS1 => ?_)
  obtain ⟨rfl, rfl⟩ := hpo
  exact kk H1 locs1 ls (by rw [← ht]; exact hB.1) (lg_keep hP' (fun j hj ⟨i, h1, h2⟩ => X.2.2.1.2.2 i j h1 hj h2.symm) hk1) hS1 hl
theorem lg_callM (X : lg_Cx p s m meth c b L xs D q q' dA tv ta tb cells slots) {y : MethodName} {ws' : List Cond} {rm' : Room} {bytes : ByteArray} {maxL n index : Nat} {ret' : Option FieldType} {As rest : List Value} {r : Int32} {τ : sf_St} {k ci : Nat} {fs : List (Option Nat)} {cv : vw_C} (hk : KM[k]? = some (4, ci, fs)) (hc : vwCl[ci]? = some cv) (hM : sf_Mi l y ws' rm' D vwCl q' dA KM sf_EM (.ref (q' k) :: As) σ' r τ) (cw : CallW room_1 s #[Value.ref b] "StereoFormsLaw" cv.1 index y bytes maxL ret' ws' rm' 0 0 n) (hn : As.length = n) (hst : st = As.reverse ++ .ref (q' k) :: rest) (hW : (rest.map fun v => v.category).sum ≤ 8) (hdg : decode code pc = .ok (.invokevirtual index, 3)) (hp : pc + 3 = pc') (kk : lg_G p l e s m below meth c b D q q' dA cells slots σ τ pc' lv (.int r :: rest)) : lg_G p l e s m below meth c b D q q' dA cells slots σ σ' pc lv st := by
  subst hst; subst hp
  intro H locs ls hP hP' hS hl
  have hcs : ∀ a, sf_A q' KM a → lg_A s a := fun a ha => by obtain ⟨i, h1, h2⟩ := ha; rw [h2]; exact X.2.2.2.1.2 i h1
  refine va_calli (va_runV (Ts := lw_tbl) (own := "StereoFormsLaw") (As := As) (rest := rest) ⟨X.1.1, X.1.2.1, X.1.2.2.2.1, X.1.2.2.2.2.1, X.1.2.2.2.2.2.1⟩ hM cw ⟨sf_blind sf_EMk _, va_recv X.2.1 hP' hc (sf_w_at hk), fun U hU hW => ⟨rfl, by rw [hU]; exact hP', va_K.moved hW.alike X.2.1, trivial⟩⟩ rfl hn hl.1 rfl (lv_room hW) hdg ⟨by have := X.2.2.2.2.2.1; show cells + 0 ≤ 600000; omega, by have := X.2.2.2.2.2.2; show slots + 0 ≤ 7302250; omega⟩) hS (fun a _ h => hcs a h) hcs (fun r' u t H1 locs1 ht hvm hpo hB hz hk1 hS1 => ?_)
  obtain ⟨rfl, rfl⟩ := hpo
  exact kk H1 locs1 ls (lg_keep hP (fun i hi ⟨j, h1, h2⟩ => X.2.2.1.2.2 i j hi h1 h2) hk1) (by rw [← ht]; exact hB.1) hS1 hl
theorem lg_end (X : lg_Cx p s m meth c b L xs D q q' dA tv ta tb cells slots) : lg_G p l e s m below meth c b D q q' dA cells slots σ σ' 523 lv [] := by
  refine lg_iconst (v := 1) X dL_523 sf_ic_1 rfl ?_
  intro H locs ls hP hP' hS hl
  exact va_forget (fun a ha => hS.2.2 a ha) (W.widen X.2.2.2.2.2.1 X.2.2.2.2.2.2 (lw_ret X.1.1 X.1.2.1 X.1.2.2.1 X.1.2.2.2.2.2.2.2.2.1 dL_524))
end LGROWS
/-- what the law asks of the calls: an invariant of the two states that every call keeps, with one answer -/
def lg_Inv (Inv : sf_St → sf_St → Prop) : Prop :=
  (∀ (σ σ' : sf_St) (a0 a1 a2 : Int32), Inv σ σ' → ∃ (r : Int32) (τ τ' : sf_St), R_X6_atom σ a0 a1 a2 r τ ∧ R_X7_atom σ' a0 a1 a2 r τ' ∧ Inv τ τ') ∧
  (∀ (σ σ' : sf_St) (a0 a1 a2 a3 : Int32), Inv σ σ' → ∃ (r : Int32) (τ τ' : sf_St), R_X6_bond σ a0 a1 a2 a3 r τ ∧ R_X7_bond σ' a0 a1 a2 a3 r τ' ∧ Inv τ τ') ∧
  (∀ (σ σ' : sf_St) (a0 a1 a2 : Int32), Inv σ σ' → ∃ (r : Int32) (τ τ' : sf_St), R_X6_move σ a0 a1 a2 r τ ∧ R_X7_move σ' a0 a1 a2 r τ' ∧ Inv τ τ') ∧
  (∀ (σ σ' : sf_St) (a0 a1 a2 : Int32), Inv σ σ' → ∃ (r : Int32) (τ τ' : sf_St), R_X6_mark σ a0 a1 a2 r τ ∧ R_X7_mark σ' a0 a1 a2 r τ' ∧ Inv τ τ') ∧
  (∀ (σ σ' : sf_St), Inv σ σ' → ∃ (r : Int32) (τ τ' : sf_St), R_X6_clear σ  r τ ∧ R_X7_clear σ'  r τ' ∧ Inv τ τ') ∧
  (∀ (σ σ' : sf_St), Inv σ σ' → ∃ (r : Int32) (τ τ' : sf_St), R_X6_flip σ  r τ ∧ R_X7_flip σ'  r τ' ∧ Inv τ τ') ∧
  (∀ (σ σ' : sf_St) (a0 : Int32), Inv σ σ' → ∃ (r : Int32) (τ τ' : sf_St), R_X6_hydrogens σ a0 r τ ∧ R_X7_hydrogens σ' a0 r τ' ∧ Inv τ τ') ∧
  (∀ (σ σ' : sf_St) (a0 : Int32), Inv σ σ' → ∃ (r : Int32) (τ τ' : sf_St), R_X6_sense σ a0 r τ ∧ R_X7_sense σ' a0 r τ' ∧ Inv τ τ') ∧
  (∀ (σ σ' : sf_St) (a0 : Int32), Inv σ σ' → ∃ (r : Int32) (τ τ' : sf_St), R_X6_turn σ a0 r τ ∧ R_X7_turn σ' a0 r τ' ∧ Inv τ τ') ∧
  (∀ (σ σ' : sf_St) (a0 : Int32), Inv σ σ' → ∃ (r : Int32) (τ τ' : sf_St), R_X6_row σ a0 r τ ∧ R_X7_row σ' a0 r τ' ∧ Inv τ τ') ∧
  (∀ (σ σ' : sf_St), Inv σ σ' → ∃ (r : Int32) (τ τ' : sf_St), R_X6_senses σ  r τ ∧ R_X7_senses σ'  r τ' ∧ Inv τ τ') ∧
  (∀ (σ σ' : sf_St), Inv σ σ' → ∃ (r : Int32) (τ τ' : sf_St), R_X6_chiral σ  r τ ∧ R_X7_chiral σ'  r τ' ∧ Inv τ τ') ∧
  (∀ (σ σ' : sf_St), Inv σ σ' → ∃ (r : Int32) (τ τ' : sf_St), R_X6_isomers σ  r τ ∧ R_X7_isomers σ'  r τ' ∧ Inv τ τ') ∧
  (∀ (σ σ' : sf_St), Inv σ σ' → ∃ (r : Int32) (τ τ' : sf_St), R_X6_keep σ  r τ ∧ R_X7_keep σ'  r τ' ∧ Inv τ τ') ∧
  (∀ (σ σ' : sf_St), Inv σ σ' → ∃ (r : Int32) (τ τ' : sf_St), R_X6_compare σ  r τ ∧ R_X7_compare σ'  r τ' ∧ Inv τ τ') ∧
  (∀ (σ σ' : sf_St), Inv σ σ' → ∃ (r : Int32) (τ τ' : sf_St), R_X6_write σ  r τ ∧ R_X7_write σ'  r τ' ∧ Inv τ τ') ∧
  (∀ (σ σ' : sf_St) (a0 : Int32), Inv σ σ' → ∃ (r : Int32) (τ τ' : sf_St), R_X6_at σ a0 r τ ∧ R_X7_at σ' a0 r τ' ∧ Inv τ τ')
set_option maxHeartbeats 4000000 in
set_option maxRecDepth 100000 in
theorem lg_case_atom {p : Program} {l : Launch} {e : Env} {s : State} {m : MethodId} {below : List Frame} {meth : Method} {c : Code} {b L : Nat} {xs : Nat → Int32} {D : va_G} {q q' : Nat → Nat} {dA : Nat → ClassId} {tv ta tb cells slots : Nat} {σ σ' : sf_St} (X : lg_Cx p s m meth c b L xs D q q' dA tv ta tb cells slots) {k : Nat} (hk : 5 * k + 5 ≤ L) (hL : L ≤ 2560) (h : ∃ (r : Int32) (τ τ' : sf_St), R_X6_atom σ (xs (5 * k + 1)) (xs (5 * k + 2)) (xs (5 * k + 3)) r τ ∧ R_X7_atom σ' (xs (5 * k + 1)) (xs (5 * k + 2)) (xs (5 * k + 3)) r τ' ∧ lg_G p l e s m below meth c b D q q' dA cells slots τ τ' 517 [(3, .int (nI (5 * k))), (0, .ref b), (1, .ref (q 0)), (2, .ref (q' 0))] []) : lg_G p l e s m below meth c b D q q' dA cells slots σ σ' 116 [(3, .int (nI (5 * k))), (0, .ref b), (1, .ref (q 0)), (2, .ref (q' 0))] [] := by
  obtain ⟨r, τ, τ', hX, hM, h⟩ := h
  refine lg_aload_n (i := 1) (j := 2) X dL_116 rfl rfl rfl ?_
  refine lg_aload_n (i := 0) (j := 1) X dL_117 rfl rfl rfl ?_
  refine lg_iload_n (i := 3) (j := 0) X dL_118 rfl rfl rfl ?_
  refine lg_iconst (v := 1) X dL_119 sf_ic_1 rfl ?_
  refine lg_iadd X dL_120 rfl ?_
  rw [show nI (5 * k) + 1 = nI (5 * k + 1) from nI_add (5 * k) 1]
  refine lg_sld X (vp_in_nI (by omega) (by omega)) dL_121 rfl ?_
  rw [show sf_ix (nI (5 * k + 1)) = 5 * k + 1 from nI_clamp (by omega)]
  refine lg_aload_n (i := 0) (j := 1) X dL_122 rfl rfl rfl ?_
  refine lg_iload_n (i := 3) (j := 0) X dL_123 rfl rfl rfl ?_
  refine lg_iconst (v := 2) X dL_124 sf_ic_2 rfl ?_
  refine lg_iadd X dL_125 rfl ?_
  rw [show nI (5 * k) + 2 = nI (5 * k + 2) from nI_add (5 * k) 2]
  refine lg_sld X (vp_in_nI (by omega) (by omega)) dL_126 rfl ?_
  rw [show sf_ix (nI (5 * k + 2)) = 5 * k + 2 from nI_clamp (by omega)]
  refine lg_aload_n (i := 0) (j := 1) X dL_127 rfl rfl rfl ?_
  refine lg_iload_n (i := 3) (j := 0) X dL_128 rfl rfl rfl ?_
  refine lg_iconst (v := 3) X dL_129 sf_ic_3 rfl ?_
  refine lg_iadd X dL_130 rfl ?_
  rw [show nI (5 * k) + 3 = nI (5 * k + 3) from nI_add (5 * k) 3]
  refine lg_sld X (vp_in_nI (by omega) (by omega)) dL_131 rfl ?_
  rw [show sf_ix (nI (5 * k + 3)) = 5 * k + 3 from nI_clamp (by omega)]
  refine lg_callX (As := [.int (xs (5 * k + 1)), .int (xs (5 * k + 2)), .int (xs (5 * k + 3))]) (rest := []) (cv := (RX6, TX6, 11)) X rfl rfl (c_X6_atom X.2.2.1.1 hX) (cwV 3 X.1.2.2.2.2.2.1 (fun w hw => by have h := lg_ws tw_261 tw_258 tw_259 tw_260 tw_41 w hw; exact ⟨(List.mem_filter.mp h.1).1, h.2⟩) rfl rfl rfl ⟨rfl, hd_X6_atom⟩ ⟨Nat.le_of_ble_eq_true rfl, Nat.le_of_ble_eq_true rfl⟩) rfl rfl (Nat.le_of_ble_eq_true rfl) dL_132 rfl ?_
  refine lg_aload_n (i := 2) (j := 3) X dL_135 rfl rfl rfl ?_
  refine lg_aload_n (i := 0) (j := 1) X dL_136 rfl rfl rfl ?_
  refine lg_iload_n (i := 3) (j := 0) X dL_137 rfl rfl rfl ?_
  refine lg_iconst (v := 1) X dL_138 sf_ic_1 rfl ?_
  refine lg_iadd X dL_139 rfl ?_
  rw [show nI (5 * k) + 1 = nI (5 * k + 1) from nI_add (5 * k) 1]
  refine lg_sld X (vp_in_nI (by omega) (by omega)) dL_140 rfl ?_
  rw [show sf_ix (nI (5 * k + 1)) = 5 * k + 1 from nI_clamp (by omega)]
  refine lg_aload_n (i := 0) (j := 1) X dL_141 rfl rfl rfl ?_
  refine lg_iload_n (i := 3) (j := 0) X dL_142 rfl rfl rfl ?_
  refine lg_iconst (v := 2) X dL_143 sf_ic_2 rfl ?_
  refine lg_iadd X dL_144 rfl ?_
  rw [show nI (5 * k) + 2 = nI (5 * k + 2) from nI_add (5 * k) 2]
  refine lg_sld X (vp_in_nI (by omega) (by omega)) dL_145 rfl ?_
  rw [show sf_ix (nI (5 * k + 2)) = 5 * k + 2 from nI_clamp (by omega)]
  refine lg_aload_n (i := 0) (j := 1) X dL_146 rfl rfl rfl ?_
  refine lg_iload_n (i := 3) (j := 0) X dL_147 rfl rfl rfl ?_
  refine lg_iconst (v := 3) X dL_148 sf_ic_3 rfl ?_
  refine lg_iadd X dL_149 rfl ?_
  rw [show nI (5 * k) + 3 = nI (5 * k + 3) from nI_add (5 * k) 3]
  refine lg_sld X (vp_in_nI (by omega) (by omega)) dL_150 rfl ?_
  rw [show sf_ix (nI (5 * k + 3)) = 5 * k + 3 from nI_clamp (by omega)]
  refine lg_callM (As := [.int (xs (5 * k + 1)), .int (xs (5 * k + 2)), .int (xs (5 * k + 3))]) (rest := [.int r]) (cv := (RX7, TX7, 23)) X rfl rfl (c_X7_atom X.2.2.1.2.1 hM) (cwV 3 X.1.2.2.2.2.2.1 (fun w hw => by have h := lg_ws tw_704 tw_701 tw_702 tw_703 tw_48 w hw; exact ⟨(List.mem_filter.mp h.1).1, h.2⟩) rfl rfl rfl ⟨rfl, hd_X7_atom⟩ ⟨Nat.le_of_ble_eq_true rfl, Nat.le_of_ble_eq_true rfl⟩) rfl rfl (Nat.le_of_ble_eq_true rfl) dL_151 rfl ?_
  exact lg_icmp_eq (tgt := 517) X dL_154 rfl rfl (fun _ => h) (fun h => absurd rfl h)
set_option maxHeartbeats 4000000 in
set_option maxRecDepth 100000 in
theorem lg_case_bond {p : Program} {l : Launch} {e : Env} {s : State} {m : MethodId} {below : List Frame} {meth : Method} {c : Code} {b L : Nat} {xs : Nat → Int32} {D : va_G} {q q' : Nat → Nat} {dA : Nat → ClassId} {tv ta tb cells slots : Nat} {σ σ' : sf_St} (X : lg_Cx p s m meth c b L xs D q q' dA tv ta tb cells slots) {k : Nat} (hk : 5 * k + 5 ≤ L) (hL : L ≤ 2560) (h : ∃ (r : Int32) (τ τ' : sf_St), R_X6_bond σ (xs (5 * k + 1)) (xs (5 * k + 2)) (xs (5 * k + 3)) (xs (5 * k + 4)) r τ ∧ R_X7_bond σ' (xs (5 * k + 1)) (xs (5 * k + 2)) (xs (5 * k + 3)) (xs (5 * k + 4)) r τ' ∧ lg_G p l e s m below meth c b D q q' dA cells slots τ τ' 517 [(3, .int (nI (5 * k))), (0, .ref b), (1, .ref (q 0)), (2, .ref (q' 0))] []) : lg_G p l e s m below meth c b D q q' dA cells slots σ σ' 159 [(3, .int (nI (5 * k))), (0, .ref b), (1, .ref (q 0)), (2, .ref (q' 0))] [] := by
  obtain ⟨r, τ, τ', hX, hM, h⟩ := h
  refine lg_aload_n (i := 1) (j := 2) X dL_159 rfl rfl rfl ?_
  refine lg_aload_n (i := 0) (j := 1) X dL_160 rfl rfl rfl ?_
  refine lg_iload_n (i := 3) (j := 0) X dL_161 rfl rfl rfl ?_
  refine lg_iconst (v := 1) X dL_162 sf_ic_1 rfl ?_
  refine lg_iadd X dL_163 rfl ?_
  rw [show nI (5 * k) + 1 = nI (5 * k + 1) from nI_add (5 * k) 1]
  refine lg_sld X (vp_in_nI (by omega) (by omega)) dL_164 rfl ?_
  rw [show sf_ix (nI (5 * k + 1)) = 5 * k + 1 from nI_clamp (by omega)]
  refine lg_aload_n (i := 0) (j := 1) X dL_165 rfl rfl rfl ?_
  refine lg_iload_n (i := 3) (j := 0) X dL_166 rfl rfl rfl ?_
  refine lg_iconst (v := 2) X dL_167 sf_ic_2 rfl ?_
  refine lg_iadd X dL_168 rfl ?_
  rw [show nI (5 * k) + 2 = nI (5 * k + 2) from nI_add (5 * k) 2]
  refine lg_sld X (vp_in_nI (by omega) (by omega)) dL_169 rfl ?_
  rw [show sf_ix (nI (5 * k + 2)) = 5 * k + 2 from nI_clamp (by omega)]
  refine lg_aload_n (i := 0) (j := 1) X dL_170 rfl rfl rfl ?_
  refine lg_iload_n (i := 3) (j := 0) X dL_171 rfl rfl rfl ?_
  refine lg_iconst (v := 3) X dL_172 sf_ic_3 rfl ?_
  refine lg_iadd X dL_173 rfl ?_
  rw [show nI (5 * k) + 3 = nI (5 * k + 3) from nI_add (5 * k) 3]
  refine lg_sld X (vp_in_nI (by omega) (by omega)) dL_174 rfl ?_
  rw [show sf_ix (nI (5 * k + 3)) = 5 * k + 3 from nI_clamp (by omega)]
  refine lg_aload_n (i := 0) (j := 1) X dL_175 rfl rfl rfl ?_
  refine lg_iload_n (i := 3) (j := 0) X dL_176 rfl rfl rfl ?_
  refine lg_iconst (v := 4) X dL_177 sf_ic_4 rfl ?_
  refine lg_iadd X dL_178 rfl ?_
  rw [show nI (5 * k) + 4 = nI (5 * k + 4) from nI_add (5 * k) 4]
  refine lg_sld X (vp_in_nI (by omega) (by omega)) dL_179 rfl ?_
  rw [show sf_ix (nI (5 * k + 4)) = 5 * k + 4 from nI_clamp (by omega)]
  refine lg_callX (As := [.int (xs (5 * k + 1)), .int (xs (5 * k + 2)), .int (xs (5 * k + 3)), .int (xs (5 * k + 4))]) (rest := []) (cv := (RX6, TX6, 11)) X rfl rfl (c_X6_bond X.2.2.1.1 hX) (cwV 4 X.1.2.2.2.2.2.1 (fun w hw => by have h := lg_ws tw_274 tw_271 tw_272 tw_273 tw_41 w hw; exact ⟨(List.mem_filter.mp h.1).1, h.2⟩) rfl rfl rfl ⟨rfl, hd_X6_bond⟩ ⟨Nat.le_of_ble_eq_true rfl, Nat.le_of_ble_eq_true rfl⟩) rfl rfl (Nat.le_of_ble_eq_true rfl) dL_180 rfl ?_
  refine lg_aload_n (i := 2) (j := 3) X dL_183 rfl rfl rfl ?_
  refine lg_aload_n (i := 0) (j := 1) X dL_184 rfl rfl rfl ?_
  refine lg_iload_n (i := 3) (j := 0) X dL_185 rfl rfl rfl ?_
  refine lg_iconst (v := 1) X dL_186 sf_ic_1 rfl ?_
  refine lg_iadd X dL_187 rfl ?_
  rw [show nI (5 * k) + 1 = nI (5 * k + 1) from nI_add (5 * k) 1]
  refine lg_sld X (vp_in_nI (by omega) (by omega)) dL_188 rfl ?_
  rw [show sf_ix (nI (5 * k + 1)) = 5 * k + 1 from nI_clamp (by omega)]
  refine lg_aload_n (i := 0) (j := 1) X dL_189 rfl rfl rfl ?_
  refine lg_iload_n (i := 3) (j := 0) X dL_190 rfl rfl rfl ?_
  refine lg_iconst (v := 2) X dL_191 sf_ic_2 rfl ?_
  refine lg_iadd X dL_192 rfl ?_
  rw [show nI (5 * k) + 2 = nI (5 * k + 2) from nI_add (5 * k) 2]
  refine lg_sld X (vp_in_nI (by omega) (by omega)) dL_193 rfl ?_
  rw [show sf_ix (nI (5 * k + 2)) = 5 * k + 2 from nI_clamp (by omega)]
  refine lg_aload_n (i := 0) (j := 1) X dL_194 rfl rfl rfl ?_
  refine lg_iload_n (i := 3) (j := 0) X dL_195 rfl rfl rfl ?_
  refine lg_iconst (v := 3) X dL_196 sf_ic_3 rfl ?_
  refine lg_iadd X dL_197 rfl ?_
  rw [show nI (5 * k) + 3 = nI (5 * k + 3) from nI_add (5 * k) 3]
  refine lg_sld X (vp_in_nI (by omega) (by omega)) dL_198 rfl ?_
  rw [show sf_ix (nI (5 * k + 3)) = 5 * k + 3 from nI_clamp (by omega)]
  refine lg_aload_n (i := 0) (j := 1) X dL_199 rfl rfl rfl ?_
  refine lg_iload_n (i := 3) (j := 0) X dL_200 rfl rfl rfl ?_
  refine lg_iconst (v := 4) X dL_201 sf_ic_4 rfl ?_
  refine lg_iadd X dL_202 rfl ?_
  rw [show nI (5 * k) + 4 = nI (5 * k + 4) from nI_add (5 * k) 4]
  refine lg_sld X (vp_in_nI (by omega) (by omega)) dL_203 rfl ?_
  rw [show sf_ix (nI (5 * k + 4)) = 5 * k + 4 from nI_clamp (by omega)]
  refine lg_callM (As := [.int (xs (5 * k + 1)), .int (xs (5 * k + 2)), .int (xs (5 * k + 3)), .int (xs (5 * k + 4))]) (rest := [.int r]) (cv := (RX7, TX7, 23)) X rfl rfl (c_X7_bond X.2.2.1.2.1 hM) (cwV 4 X.1.2.2.2.2.2.1 (fun w hw => by have h := lg_ws tw_711 tw_708 tw_709 tw_710 tw_48 w hw; exact ⟨(List.mem_filter.mp h.1).1, h.2⟩) rfl rfl rfl ⟨rfl, hd_X7_bond⟩ ⟨Nat.le_of_ble_eq_true rfl, Nat.le_of_ble_eq_true rfl⟩) rfl rfl (Nat.le_of_ble_eq_true rfl) dL_204 rfl ?_
  exact lg_icmp_eq (tgt := 517) X dL_207 rfl rfl (fun _ => h) (fun h => absurd rfl h)
set_option maxHeartbeats 4000000 in
set_option maxRecDepth 100000 in
theorem lg_case_move {p : Program} {l : Launch} {e : Env} {s : State} {m : MethodId} {below : List Frame} {meth : Method} {c : Code} {b L : Nat} {xs : Nat → Int32} {D : va_G} {q q' : Nat → Nat} {dA : Nat → ClassId} {tv ta tb cells slots : Nat} {σ σ' : sf_St} (X : lg_Cx p s m meth c b L xs D q q' dA tv ta tb cells slots) {k : Nat} (hk : 5 * k + 5 ≤ L) (hL : L ≤ 2560) (h : ∃ (r : Int32) (τ τ' : sf_St), R_X6_move σ (xs (5 * k + 1)) (xs (5 * k + 2)) (xs (5 * k + 3)) r τ ∧ R_X7_move σ' (xs (5 * k + 1)) (xs (5 * k + 2)) (xs (5 * k + 3)) r τ' ∧ lg_G p l e s m below meth c b D q q' dA cells slots τ τ' 517 [(3, .int (nI (5 * k))), (0, .ref b), (1, .ref (q 0)), (2, .ref (q' 0))] []) : lg_G p l e s m below meth c b D q q' dA cells slots σ σ' 212 [(3, .int (nI (5 * k))), (0, .ref b), (1, .ref (q 0)), (2, .ref (q' 0))] [] := by
  obtain ⟨r, τ, τ', hX, hM, h⟩ := h
  refine lg_aload_n (i := 1) (j := 2) X dL_212 rfl rfl rfl ?_
  refine lg_aload_n (i := 0) (j := 1) X dL_213 rfl rfl rfl ?_
  refine lg_iload_n (i := 3) (j := 0) X dL_214 rfl rfl rfl ?_
  refine lg_iconst (v := 1) X dL_215 sf_ic_1 rfl ?_
  refine lg_iadd X dL_216 rfl ?_
  rw [show nI (5 * k) + 1 = nI (5 * k + 1) from nI_add (5 * k) 1]
  refine lg_sld X (vp_in_nI (by omega) (by omega)) dL_217 rfl ?_
  rw [show sf_ix (nI (5 * k + 1)) = 5 * k + 1 from nI_clamp (by omega)]
  refine lg_aload_n (i := 0) (j := 1) X dL_218 rfl rfl rfl ?_
  refine lg_iload_n (i := 3) (j := 0) X dL_219 rfl rfl rfl ?_
  refine lg_iconst (v := 2) X dL_220 sf_ic_2 rfl ?_
  refine lg_iadd X dL_221 rfl ?_
  rw [show nI (5 * k) + 2 = nI (5 * k + 2) from nI_add (5 * k) 2]
  refine lg_sld X (vp_in_nI (by omega) (by omega)) dL_222 rfl ?_
  rw [show sf_ix (nI (5 * k + 2)) = 5 * k + 2 from nI_clamp (by omega)]
  refine lg_aload_n (i := 0) (j := 1) X dL_223 rfl rfl rfl ?_
  refine lg_iload_n (i := 3) (j := 0) X dL_224 rfl rfl rfl ?_
  refine lg_iconst (v := 3) X dL_225 sf_ic_3 rfl ?_
  refine lg_iadd X dL_226 rfl ?_
  rw [show nI (5 * k) + 3 = nI (5 * k + 3) from nI_add (5 * k) 3]
  refine lg_sld X (vp_in_nI (by omega) (by omega)) dL_227 rfl ?_
  rw [show sf_ix (nI (5 * k + 3)) = 5 * k + 3 from nI_clamp (by omega)]
  refine lg_callX (As := [.int (xs (5 * k + 1)), .int (xs (5 * k + 2)), .int (xs (5 * k + 3))]) (rest := []) (cv := (RX6, TX6, 11)) X rfl rfl (c_X6_move X.2.2.1.1 hX) (cwV 3 X.1.2.2.2.2.2.1 (fun w hw => by have h := lg_ws tw_302 tw_299 tw_300 tw_301 tw_41 w hw; exact ⟨(List.mem_filter.mp h.1).1, h.2⟩) rfl rfl rfl ⟨rfl, hd_X6_move⟩ ⟨Nat.le_of_ble_eq_true rfl, Nat.le_of_ble_eq_true rfl⟩) rfl rfl (Nat.le_of_ble_eq_true rfl) dL_228 rfl ?_
  refine lg_aload_n (i := 2) (j := 3) X dL_231 rfl rfl rfl ?_
  refine lg_aload_n (i := 0) (j := 1) X dL_232 rfl rfl rfl ?_
  refine lg_iload_n (i := 3) (j := 0) X dL_233 rfl rfl rfl ?_
  refine lg_iconst (v := 1) X dL_234 sf_ic_1 rfl ?_
  refine lg_iadd X dL_235 rfl ?_
  rw [show nI (5 * k) + 1 = nI (5 * k + 1) from nI_add (5 * k) 1]
  refine lg_sld X (vp_in_nI (by omega) (by omega)) dL_236 rfl ?_
  rw [show sf_ix (nI (5 * k + 1)) = 5 * k + 1 from nI_clamp (by omega)]
  refine lg_aload_n (i := 0) (j := 1) X dL_237 rfl rfl rfl ?_
  refine lg_iload_n (i := 3) (j := 0) X dL_238 rfl rfl rfl ?_
  refine lg_iconst (v := 2) X dL_239 sf_ic_2 rfl ?_
  refine lg_iadd X dL_240 rfl ?_
  rw [show nI (5 * k) + 2 = nI (5 * k + 2) from nI_add (5 * k) 2]
  refine lg_sld X (vp_in_nI (by omega) (by omega)) dL_241 rfl ?_
  rw [show sf_ix (nI (5 * k + 2)) = 5 * k + 2 from nI_clamp (by omega)]
  refine lg_aload_n (i := 0) (j := 1) X dL_242 rfl rfl rfl ?_
  refine lg_iload_n (i := 3) (j := 0) X dL_243 rfl rfl rfl ?_
  refine lg_iconst (v := 3) X dL_244 sf_ic_3 rfl ?_
  refine lg_iadd X dL_245 rfl ?_
  rw [show nI (5 * k) + 3 = nI (5 * k + 3) from nI_add (5 * k) 3]
  refine lg_sld X (vp_in_nI (by omega) (by omega)) dL_246 rfl ?_
  rw [show sf_ix (nI (5 * k + 3)) = 5 * k + 3 from nI_clamp (by omega)]
  refine lg_callM (As := [.int (xs (5 * k + 1)), .int (xs (5 * k + 2)), .int (xs (5 * k + 3))]) (rest := [.int r]) (cv := (RX7, TX7, 23)) X rfl rfl (c_X7_move X.2.2.1.2.1 hM) (cwV 3 X.1.2.2.2.2.2.1 (fun w hw => by have h := lg_ws tw_730 tw_727 tw_728 tw_729 tw_48 w hw; exact ⟨(List.mem_filter.mp h.1).1, h.2⟩) rfl rfl rfl ⟨rfl, hd_X7_move⟩ ⟨Nat.le_of_ble_eq_true rfl, Nat.le_of_ble_eq_true rfl⟩) rfl rfl (Nat.le_of_ble_eq_true rfl) dL_247 rfl ?_
  exact lg_icmp_eq (tgt := 517) X dL_250 rfl rfl (fun _ => h) (fun h => absurd rfl h)
set_option maxHeartbeats 4000000 in
set_option maxRecDepth 100000 in
theorem lg_case_mark {p : Program} {l : Launch} {e : Env} {s : State} {m : MethodId} {below : List Frame} {meth : Method} {c : Code} {b L : Nat} {xs : Nat → Int32} {D : va_G} {q q' : Nat → Nat} {dA : Nat → ClassId} {tv ta tb cells slots : Nat} {σ σ' : sf_St} (X : lg_Cx p s m meth c b L xs D q q' dA tv ta tb cells slots) {k : Nat} (hk : 5 * k + 5 ≤ L) (hL : L ≤ 2560) (h : ∃ (r : Int32) (τ τ' : sf_St), R_X6_mark σ (xs (5 * k + 1)) (xs (5 * k + 2)) (xs (5 * k + 3)) r τ ∧ R_X7_mark σ' (xs (5 * k + 1)) (xs (5 * k + 2)) (xs (5 * k + 3)) r τ' ∧ lg_G p l e s m below meth c b D q q' dA cells slots τ τ' 517 [(3, .int (nI (5 * k))), (0, .ref b), (1, .ref (q 0)), (2, .ref (q' 0))] []) : lg_G p l e s m below meth c b D q q' dA cells slots σ σ' 255 [(3, .int (nI (5 * k))), (0, .ref b), (1, .ref (q 0)), (2, .ref (q' 0))] [] := by
  obtain ⟨r, τ, τ', hX, hM, h⟩ := h
  refine lg_aload_n (i := 1) (j := 2) X dL_255 rfl rfl rfl ?_
  refine lg_aload_n (i := 0) (j := 1) X dL_256 rfl rfl rfl ?_
  refine lg_iload_n (i := 3) (j := 0) X dL_257 rfl rfl rfl ?_
  refine lg_iconst (v := 1) X dL_258 sf_ic_1 rfl ?_
  refine lg_iadd X dL_259 rfl ?_
  rw [show nI (5 * k) + 1 = nI (5 * k + 1) from nI_add (5 * k) 1]
  refine lg_sld X (vp_in_nI (by omega) (by omega)) dL_260 rfl ?_
  rw [show sf_ix (nI (5 * k + 1)) = 5 * k + 1 from nI_clamp (by omega)]
  refine lg_aload_n (i := 0) (j := 1) X dL_261 rfl rfl rfl ?_
  refine lg_iload_n (i := 3) (j := 0) X dL_262 rfl rfl rfl ?_
  refine lg_iconst (v := 2) X dL_263 sf_ic_2 rfl ?_
  refine lg_iadd X dL_264 rfl ?_
  rw [show nI (5 * k) + 2 = nI (5 * k + 2) from nI_add (5 * k) 2]
  refine lg_sld X (vp_in_nI (by omega) (by omega)) dL_265 rfl ?_
  rw [show sf_ix (nI (5 * k + 2)) = 5 * k + 2 from nI_clamp (by omega)]
  refine lg_aload_n (i := 0) (j := 1) X dL_266 rfl rfl rfl ?_
  refine lg_iload_n (i := 3) (j := 0) X dL_267 rfl rfl rfl ?_
  refine lg_iconst (v := 3) X dL_268 sf_ic_3 rfl ?_
  refine lg_iadd X dL_269 rfl ?_
  rw [show nI (5 * k) + 3 = nI (5 * k + 3) from nI_add (5 * k) 3]
  refine lg_sld X (vp_in_nI (by omega) (by omega)) dL_270 rfl ?_
  rw [show sf_ix (nI (5 * k + 3)) = 5 * k + 3 from nI_clamp (by omega)]
  refine lg_callX (As := [.int (xs (5 * k + 1)), .int (xs (5 * k + 2)), .int (xs (5 * k + 3))]) (rest := []) (cv := (RX6, TX6, 11)) X rfl rfl (c_X6_mark X.2.2.1.1 hX) (cwV 3 X.1.2.2.2.2.2.1 (fun w hw => by have h := lg_ws tw_306 tw_303 tw_304 tw_305 tw_41 w hw; exact ⟨(List.mem_filter.mp h.1).1, h.2⟩) rfl rfl rfl ⟨rfl, hd_X6_mark⟩ ⟨Nat.le_of_ble_eq_true rfl, Nat.le_of_ble_eq_true rfl⟩) rfl rfl (Nat.le_of_ble_eq_true rfl) dL_271 rfl ?_
  refine lg_aload_n (i := 2) (j := 3) X dL_274 rfl rfl rfl ?_
  refine lg_aload_n (i := 0) (j := 1) X dL_275 rfl rfl rfl ?_
  refine lg_iload_n (i := 3) (j := 0) X dL_276 rfl rfl rfl ?_
  refine lg_iconst (v := 1) X dL_277 sf_ic_1 rfl ?_
  refine lg_iadd X dL_278 rfl ?_
  rw [show nI (5 * k) + 1 = nI (5 * k + 1) from nI_add (5 * k) 1]
  refine lg_sld X (vp_in_nI (by omega) (by omega)) dL_279 rfl ?_
  rw [show sf_ix (nI (5 * k + 1)) = 5 * k + 1 from nI_clamp (by omega)]
  refine lg_aload_n (i := 0) (j := 1) X dL_280 rfl rfl rfl ?_
  refine lg_iload_n (i := 3) (j := 0) X dL_281 rfl rfl rfl ?_
  refine lg_iconst (v := 2) X dL_282 sf_ic_2 rfl ?_
  refine lg_iadd X dL_283 rfl ?_
  rw [show nI (5 * k) + 2 = nI (5 * k + 2) from nI_add (5 * k) 2]
  refine lg_sld X (vp_in_nI (by omega) (by omega)) dL_284 rfl ?_
  rw [show sf_ix (nI (5 * k + 2)) = 5 * k + 2 from nI_clamp (by omega)]
  refine lg_aload_n (i := 0) (j := 1) X dL_285 rfl rfl rfl ?_
  refine lg_iload_n (i := 3) (j := 0) X dL_286 rfl rfl rfl ?_
  refine lg_iconst (v := 3) X dL_287 sf_ic_3 rfl ?_
  refine lg_iadd X dL_288 rfl ?_
  rw [show nI (5 * k) + 3 = nI (5 * k + 3) from nI_add (5 * k) 3]
  refine lg_sld X (vp_in_nI (by omega) (by omega)) dL_289 rfl ?_
  rw [show sf_ix (nI (5 * k + 3)) = 5 * k + 3 from nI_clamp (by omega)]
  refine lg_callM (As := [.int (xs (5 * k + 1)), .int (xs (5 * k + 2)), .int (xs (5 * k + 3))]) (rest := [.int r]) (cv := (RX7, TX7, 23)) X rfl rfl (c_X7_mark X.2.2.1.2.1 hM) (cwV 3 X.1.2.2.2.2.2.1 (fun w hw => by have h := lg_ws tw_734 tw_731 tw_732 tw_733 tw_48 w hw; exact ⟨(List.mem_filter.mp h.1).1, h.2⟩) rfl rfl rfl ⟨rfl, hd_X7_mark⟩ ⟨Nat.le_of_ble_eq_true rfl, Nat.le_of_ble_eq_true rfl⟩) rfl rfl (Nat.le_of_ble_eq_true rfl) dL_290 rfl ?_
  exact lg_icmp_eq (tgt := 517) X dL_293 rfl rfl (fun _ => h) (fun h => absurd rfl h)
set_option maxHeartbeats 4000000 in
set_option maxRecDepth 100000 in
theorem lg_case_clear {p : Program} {l : Launch} {e : Env} {s : State} {m : MethodId} {below : List Frame} {meth : Method} {c : Code} {b L : Nat} {xs : Nat → Int32} {D : va_G} {q q' : Nat → Nat} {dA : Nat → ClassId} {tv ta tb cells slots : Nat} {σ σ' : sf_St} (X : lg_Cx p s m meth c b L xs D q q' dA tv ta tb cells slots) {k : Nat} (hk : 5 * k + 5 ≤ L) (hL : L ≤ 2560) (h : ∃ (r : Int32) (τ τ' : sf_St), R_X6_clear σ  r τ ∧ R_X7_clear σ'  r τ' ∧ lg_G p l e s m below meth c b D q q' dA cells slots τ τ' 517 [(3, .int (nI (5 * k))), (0, .ref b), (1, .ref (q 0)), (2, .ref (q' 0))] []) : lg_G p l e s m below meth c b D q q' dA cells slots σ σ' 298 [(3, .int (nI (5 * k))), (0, .ref b), (1, .ref (q 0)), (2, .ref (q' 0))] [] := by
  obtain ⟨r, τ, τ', hX, hM, h⟩ := h
  refine lg_aload_n (i := 1) (j := 2) X dL_298 rfl rfl rfl ?_
  refine lg_callX (As := []) (rest := []) (cv := (RX6, TX6, 11)) X rfl rfl (c_X6_clear X.2.2.1.1 hX) (cwV 0 X.1.2.2.2.2.2.1 (fun w hw => by have h := lg_ws tw_322 tw_319 tw_320 tw_321 tw_41 w hw; exact ⟨(List.mem_filter.mp h.1).1, h.2⟩) rfl rfl rfl ⟨rfl, hd_X6_clear⟩ ⟨Nat.le_of_ble_eq_true rfl, Nat.le_of_ble_eq_true rfl⟩) rfl rfl (Nat.le_of_ble_eq_true rfl) dL_299 rfl ?_
  refine lg_aload_n (i := 2) (j := 3) X dL_302 rfl rfl rfl ?_
  refine lg_callM (As := []) (rest := [.int r]) (cv := (RX7, TX7, 23)) X rfl rfl (c_X7_clear X.2.2.1.2.1 hM) (cwV 0 X.1.2.2.2.2.2.1 (fun w hw => by have h := lg_ws tw_742 tw_739 tw_740 tw_741 tw_48 w hw; exact ⟨(List.mem_filter.mp h.1).1, h.2⟩) rfl rfl rfl ⟨rfl, hd_X7_clear⟩ ⟨Nat.le_of_ble_eq_true rfl, Nat.le_of_ble_eq_true rfl⟩) rfl rfl (Nat.le_of_ble_eq_true rfl) dL_303 rfl ?_
  exact lg_icmp_eq (tgt := 517) X dL_306 rfl rfl (fun _ => h) (fun h => absurd rfl h)
set_option maxHeartbeats 4000000 in
set_option maxRecDepth 100000 in
theorem lg_case_flip {p : Program} {l : Launch} {e : Env} {s : State} {m : MethodId} {below : List Frame} {meth : Method} {c : Code} {b L : Nat} {xs : Nat → Int32} {D : va_G} {q q' : Nat → Nat} {dA : Nat → ClassId} {tv ta tb cells slots : Nat} {σ σ' : sf_St} (X : lg_Cx p s m meth c b L xs D q q' dA tv ta tb cells slots) {k : Nat} (hk : 5 * k + 5 ≤ L) (hL : L ≤ 2560) (h : ∃ (r : Int32) (τ τ' : sf_St), R_X6_flip σ  r τ ∧ R_X7_flip σ'  r τ' ∧ lg_G p l e s m below meth c b D q q' dA cells slots τ τ' 517 [(3, .int (nI (5 * k))), (0, .ref b), (1, .ref (q 0)), (2, .ref (q' 0))] []) : lg_G p l e s m below meth c b D q q' dA cells slots σ σ' 311 [(3, .int (nI (5 * k))), (0, .ref b), (1, .ref (q 0)), (2, .ref (q' 0))] [] := by
  obtain ⟨r, τ, τ', hX, hM, h⟩ := h
  refine lg_aload_n (i := 1) (j := 2) X dL_311 rfl rfl rfl ?_
  refine lg_callX (As := []) (rest := []) (cv := (RX6, TX6, 11)) X rfl rfl (c_X6_flip X.2.2.1.1 hX) (cwV 0 X.1.2.2.2.2.2.1 (fun w hw => by have h := lg_ws tw_333 tw_330 tw_331 tw_332 tw_41 w hw; exact ⟨(List.mem_filter.mp h.1).1, h.2⟩) rfl rfl rfl ⟨rfl, hd_X6_flip⟩ ⟨Nat.le_of_ble_eq_true rfl, Nat.le_of_ble_eq_true rfl⟩) rfl rfl (Nat.le_of_ble_eq_true rfl) dL_312 rfl ?_
  refine lg_aload_n (i := 2) (j := 3) X dL_315 rfl rfl rfl ?_
  refine lg_callM (As := []) (rest := [.int r]) (cv := (RX7, TX7, 23)) X rfl rfl (c_X7_flip X.2.2.1.2.1 hM) (cwV 0 X.1.2.2.2.2.2.1 (fun w hw => by have h := lg_ws tw_746 tw_743 tw_744 tw_745 tw_48 w hw; exact ⟨(List.mem_filter.mp h.1).1, h.2⟩) rfl rfl rfl ⟨rfl, hd_X7_flip⟩ ⟨Nat.le_of_ble_eq_true rfl, Nat.le_of_ble_eq_true rfl⟩) rfl rfl (Nat.le_of_ble_eq_true rfl) dL_316 rfl ?_
  exact lg_icmp_eq (tgt := 517) X dL_319 rfl rfl (fun _ => h) (fun h => absurd rfl h)
set_option maxHeartbeats 4000000 in
set_option maxRecDepth 100000 in
theorem lg_case_hydrogens {p : Program} {l : Launch} {e : Env} {s : State} {m : MethodId} {below : List Frame} {meth : Method} {c : Code} {b L : Nat} {xs : Nat → Int32} {D : va_G} {q q' : Nat → Nat} {dA : Nat → ClassId} {tv ta tb cells slots : Nat} {σ σ' : sf_St} (X : lg_Cx p s m meth c b L xs D q q' dA tv ta tb cells slots) {k : Nat} (hk : 5 * k + 5 ≤ L) (hL : L ≤ 2560) (h : ∃ (r : Int32) (τ τ' : sf_St), R_X6_hydrogens σ (xs (5 * k + 1)) r τ ∧ R_X7_hydrogens σ' (xs (5 * k + 1)) r τ' ∧ lg_G p l e s m below meth c b D q q' dA cells slots τ τ' 517 [(3, .int (nI (5 * k))), (0, .ref b), (1, .ref (q 0)), (2, .ref (q' 0))] []) : lg_G p l e s m below meth c b D q q' dA cells slots σ σ' 324 [(3, .int (nI (5 * k))), (0, .ref b), (1, .ref (q 0)), (2, .ref (q' 0))] [] := by
  obtain ⟨r, τ, τ', hX, hM, h⟩ := h
  refine lg_aload_n (i := 1) (j := 2) X dL_324 rfl rfl rfl ?_
  refine lg_aload_n (i := 0) (j := 1) X dL_325 rfl rfl rfl ?_
  refine lg_iload_n (i := 3) (j := 0) X dL_326 rfl rfl rfl ?_
  refine lg_iconst (v := 1) X dL_327 sf_ic_1 rfl ?_
  refine lg_iadd X dL_328 rfl ?_
  rw [show nI (5 * k) + 1 = nI (5 * k + 1) from nI_add (5 * k) 1]
  refine lg_sld X (vp_in_nI (by omega) (by omega)) dL_329 rfl ?_
  rw [show sf_ix (nI (5 * k + 1)) = 5 * k + 1 from nI_clamp (by omega)]
  refine lg_callX (As := [.int (xs (5 * k + 1))]) (rest := []) (cv := (RX6, TX6, 11)) X rfl rfl (c_X6_hydrogens X.2.2.1.1 hX) (cwV 1 X.1.2.2.2.2.2.1 (fun w hw => by have h := lg_ws tw_341 tw_338 tw_339 tw_340 tw_41 w hw; exact ⟨(List.mem_filter.mp h.1).1, h.2⟩) rfl rfl rfl ⟨rfl, hd_X6_hydrogens⟩ ⟨Nat.le_of_ble_eq_true rfl, Nat.le_of_ble_eq_true rfl⟩) rfl rfl (Nat.le_of_ble_eq_true rfl) dL_330 rfl ?_
  refine lg_aload_n (i := 2) (j := 3) X dL_333 rfl rfl rfl ?_
  refine lg_aload_n (i := 0) (j := 1) X dL_334 rfl rfl rfl ?_
  refine lg_iload_n (i := 3) (j := 0) X dL_335 rfl rfl rfl ?_
  refine lg_iconst (v := 1) X dL_336 sf_ic_1 rfl ?_
  refine lg_iadd X dL_337 rfl ?_
  rw [show nI (5 * k) + 1 = nI (5 * k + 1) from nI_add (5 * k) 1]
  refine lg_sld X (vp_in_nI (by omega) (by omega)) dL_338 rfl ?_
  rw [show sf_ix (nI (5 * k + 1)) = 5 * k + 1 from nI_clamp (by omega)]
  refine lg_callM (As := [.int (xs (5 * k + 1))]) (rest := [.int r]) (cv := (RX7, TX7, 23)) X rfl rfl (c_X7_hydrogens X.2.2.1.2.1 hM) (cwV 1 X.1.2.2.2.2.2.1 (fun w hw => by have h := lg_ws tw_750 tw_747 tw_748 tw_749 tw_48 w hw; exact ⟨(List.mem_filter.mp h.1).1, h.2⟩) rfl rfl rfl ⟨rfl, hd_X7_hydrogens⟩ ⟨Nat.le_of_ble_eq_true rfl, Nat.le_of_ble_eq_true rfl⟩) rfl rfl (Nat.le_of_ble_eq_true rfl) dL_339 rfl ?_
  exact lg_icmp_eq (tgt := 517) X dL_342 rfl rfl (fun _ => h) (fun h => absurd rfl h)
set_option maxHeartbeats 4000000 in
set_option maxRecDepth 100000 in
theorem lg_case_sense {p : Program} {l : Launch} {e : Env} {s : State} {m : MethodId} {below : List Frame} {meth : Method} {c : Code} {b L : Nat} {xs : Nat → Int32} {D : va_G} {q q' : Nat → Nat} {dA : Nat → ClassId} {tv ta tb cells slots : Nat} {σ σ' : sf_St} (X : lg_Cx p s m meth c b L xs D q q' dA tv ta tb cells slots) {k : Nat} (hk : 5 * k + 5 ≤ L) (hL : L ≤ 2560) (h : ∃ (r : Int32) (τ τ' : sf_St), R_X6_sense σ (xs (5 * k + 1)) r τ ∧ R_X7_sense σ' (xs (5 * k + 1)) r τ' ∧ lg_G p l e s m below meth c b D q q' dA cells slots τ τ' 517 [(3, .int (nI (5 * k))), (0, .ref b), (1, .ref (q 0)), (2, .ref (q' 0))] []) : lg_G p l e s m below meth c b D q q' dA cells slots σ σ' 347 [(3, .int (nI (5 * k))), (0, .ref b), (1, .ref (q 0)), (2, .ref (q' 0))] [] := by
  obtain ⟨r, τ, τ', hX, hM, h⟩ := h
  refine lg_aload_n (i := 1) (j := 2) X dL_347 rfl rfl rfl ?_
  refine lg_aload_n (i := 0) (j := 1) X dL_348 rfl rfl rfl ?_
  refine lg_iload_n (i := 3) (j := 0) X dL_349 rfl rfl rfl ?_
  refine lg_iconst (v := 1) X dL_350 sf_ic_1 rfl ?_
  refine lg_iadd X dL_351 rfl ?_
  rw [show nI (5 * k) + 1 = nI (5 * k + 1) from nI_add (5 * k) 1]
  refine lg_sld X (vp_in_nI (by omega) (by omega)) dL_352 rfl ?_
  rw [show sf_ix (nI (5 * k + 1)) = 5 * k + 1 from nI_clamp (by omega)]
  refine lg_callX (As := [.int (xs (5 * k + 1))]) (rest := []) (cv := (RX6, TX6, 11)) X rfl rfl (c_X6_sense X.2.2.1.1 hX) (cwV 1 X.1.2.2.2.2.2.1 (fun w hw => by have h := lg_ws tw_345 tw_342 tw_343 tw_344 tw_41 w hw; exact ⟨(List.mem_filter.mp h.1).1, h.2⟩) rfl rfl rfl ⟨rfl, hd_X6_sense⟩ ⟨Nat.le_of_ble_eq_true rfl, Nat.le_of_ble_eq_true rfl⟩) rfl rfl (Nat.le_of_ble_eq_true rfl) dL_353 rfl ?_
  refine lg_aload_n (i := 2) (j := 3) X dL_356 rfl rfl rfl ?_
  refine lg_aload_n (i := 0) (j := 1) X dL_357 rfl rfl rfl ?_
  refine lg_iload_n (i := 3) (j := 0) X dL_358 rfl rfl rfl ?_
  refine lg_iconst (v := 1) X dL_359 sf_ic_1 rfl ?_
  refine lg_iadd X dL_360 rfl ?_
  rw [show nI (5 * k) + 1 = nI (5 * k + 1) from nI_add (5 * k) 1]
  refine lg_sld X (vp_in_nI (by omega) (by omega)) dL_361 rfl ?_
  rw [show sf_ix (nI (5 * k + 1)) = 5 * k + 1 from nI_clamp (by omega)]
  refine lg_callM (As := [.int (xs (5 * k + 1))]) (rest := [.int r]) (cv := (RX7, TX7, 23)) X rfl rfl (c_X7_sense X.2.2.1.2.1 hM) (cwV 1 X.1.2.2.2.2.2.1 (fun w hw => by have h := lg_ws tw_754 tw_751 tw_752 tw_753 tw_48 w hw; exact ⟨(List.mem_filter.mp h.1).1, h.2⟩) rfl rfl rfl ⟨rfl, hd_X7_sense⟩ ⟨Nat.le_of_ble_eq_true rfl, Nat.le_of_ble_eq_true rfl⟩) rfl rfl (Nat.le_of_ble_eq_true rfl) dL_362 rfl ?_
  exact lg_icmp_eq (tgt := 517) X dL_365 rfl rfl (fun _ => h) (fun h => absurd rfl h)
set_option maxHeartbeats 4000000 in
set_option maxRecDepth 100000 in
theorem lg_case_turn {p : Program} {l : Launch} {e : Env} {s : State} {m : MethodId} {below : List Frame} {meth : Method} {c : Code} {b L : Nat} {xs : Nat → Int32} {D : va_G} {q q' : Nat → Nat} {dA : Nat → ClassId} {tv ta tb cells slots : Nat} {σ σ' : sf_St} (X : lg_Cx p s m meth c b L xs D q q' dA tv ta tb cells slots) {k : Nat} (hk : 5 * k + 5 ≤ L) (hL : L ≤ 2560) (h : ∃ (r : Int32) (τ τ' : sf_St), R_X6_turn σ (xs (5 * k + 1)) r τ ∧ R_X7_turn σ' (xs (5 * k + 1)) r τ' ∧ lg_G p l e s m below meth c b D q q' dA cells slots τ τ' 517 [(3, .int (nI (5 * k))), (0, .ref b), (1, .ref (q 0)), (2, .ref (q' 0))] []) : lg_G p l e s m below meth c b D q q' dA cells slots σ σ' 370 [(3, .int (nI (5 * k))), (0, .ref b), (1, .ref (q 0)), (2, .ref (q' 0))] [] := by
  obtain ⟨r, τ, τ', hX, hM, h⟩ := h
  refine lg_aload_n (i := 1) (j := 2) X dL_370 rfl rfl rfl ?_
  refine lg_aload_n (i := 0) (j := 1) X dL_371 rfl rfl rfl ?_
  refine lg_iload_n (i := 3) (j := 0) X dL_372 rfl rfl rfl ?_
  refine lg_iconst (v := 1) X dL_373 sf_ic_1 rfl ?_
  refine lg_iadd X dL_374 rfl ?_
  rw [show nI (5 * k) + 1 = nI (5 * k + 1) from nI_add (5 * k) 1]
  refine lg_sld X (vp_in_nI (by omega) (by omega)) dL_375 rfl ?_
  rw [show sf_ix (nI (5 * k + 1)) = 5 * k + 1 from nI_clamp (by omega)]
  refine lg_callX (As := [.int (xs (5 * k + 1))]) (rest := []) (cv := (RX6, TX6, 11)) X rfl rfl (c_X6_turn X.2.2.1.1 hX) (cwV 1 X.1.2.2.2.2.2.1 (fun w hw => by have h := lg_ws tw_379 tw_376 tw_377 tw_378 tw_41 w hw; exact ⟨(List.mem_filter.mp h.1).1, h.2⟩) rfl rfl rfl ⟨rfl, hd_X6_turn⟩ ⟨Nat.le_of_ble_eq_true rfl, Nat.le_of_ble_eq_true rfl⟩) rfl rfl (Nat.le_of_ble_eq_true rfl) dL_376 rfl ?_
  refine lg_aload_n (i := 2) (j := 3) X dL_379 rfl rfl rfl ?_
  refine lg_aload_n (i := 0) (j := 1) X dL_380 rfl rfl rfl ?_
  refine lg_iload_n (i := 3) (j := 0) X dL_381 rfl rfl rfl ?_
  refine lg_iconst (v := 1) X dL_382 sf_ic_1 rfl ?_
  refine lg_iadd X dL_383 rfl ?_
  rw [show nI (5 * k) + 1 = nI (5 * k + 1) from nI_add (5 * k) 1]
  refine lg_sld X (vp_in_nI (by omega) (by omega)) dL_384 rfl ?_
  rw [show sf_ix (nI (5 * k + 1)) = 5 * k + 1 from nI_clamp (by omega)]
  refine lg_callM (As := [.int (xs (5 * k + 1))]) (rest := [.int r]) (cv := (RX7, TX7, 23)) X rfl rfl (c_X7_turn X.2.2.1.2.1 hM) (cwV 1 X.1.2.2.2.2.2.1 (fun w hw => by have h := lg_ws tw_781 tw_778 tw_779 tw_780 tw_48 w hw; exact ⟨(List.mem_filter.mp h.1).1, h.2⟩) rfl rfl rfl ⟨rfl, hd_X7_turn⟩ ⟨Nat.le_of_ble_eq_true rfl, Nat.le_of_ble_eq_true rfl⟩) rfl rfl (Nat.le_of_ble_eq_true rfl) dL_385 rfl ?_
  exact lg_icmp_eq (tgt := 517) X dL_388 rfl rfl (fun _ => h) (fun h => absurd rfl h)
set_option maxHeartbeats 4000000 in
set_option maxRecDepth 100000 in
theorem lg_case_row {p : Program} {l : Launch} {e : Env} {s : State} {m : MethodId} {below : List Frame} {meth : Method} {c : Code} {b L : Nat} {xs : Nat → Int32} {D : va_G} {q q' : Nat → Nat} {dA : Nat → ClassId} {tv ta tb cells slots : Nat} {σ σ' : sf_St} (X : lg_Cx p s m meth c b L xs D q q' dA tv ta tb cells slots) {k : Nat} (hk : 5 * k + 5 ≤ L) (hL : L ≤ 2560) (h : ∃ (r : Int32) (τ τ' : sf_St), R_X6_row σ (xs (5 * k + 1)) r τ ∧ R_X7_row σ' (xs (5 * k + 1)) r τ' ∧ lg_G p l e s m below meth c b D q q' dA cells slots τ τ' 517 [(3, .int (nI (5 * k))), (0, .ref b), (1, .ref (q 0)), (2, .ref (q' 0))] []) : lg_G p l e s m below meth c b D q q' dA cells slots σ σ' 393 [(3, .int (nI (5 * k))), (0, .ref b), (1, .ref (q 0)), (2, .ref (q' 0))] [] := by
  obtain ⟨r, τ, τ', hX, hM, h⟩ := h
  refine lg_aload_n (i := 1) (j := 2) X dL_393 rfl rfl rfl ?_
  refine lg_aload_n (i := 0) (j := 1) X dL_394 rfl rfl rfl ?_
  refine lg_iload_n (i := 3) (j := 0) X dL_395 rfl rfl rfl ?_
  refine lg_iconst (v := 1) X dL_396 sf_ic_1 rfl ?_
  refine lg_iadd X dL_397 rfl ?_
  rw [show nI (5 * k) + 1 = nI (5 * k + 1) from nI_add (5 * k) 1]
  refine lg_sld X (vp_in_nI (by omega) (by omega)) dL_398 rfl ?_
  rw [show sf_ix (nI (5 * k + 1)) = 5 * k + 1 from nI_clamp (by omega)]
  refine lg_callX (As := [.int (xs (5 * k + 1))]) (rest := []) (cv := (RX6, TX6, 11)) X rfl rfl (c_X6_row X.2.2.1.1 hX) (cwV 1 X.1.2.2.2.2.2.1 (fun w hw => by have h := lg_ws tw_410 tw_407 tw_408 tw_409 tw_41 w hw; exact ⟨(List.mem_filter.mp h.1).1, h.2⟩) rfl rfl rfl ⟨rfl, hd_X6_row⟩ ⟨Nat.le_of_ble_eq_true rfl, Nat.le_of_ble_eq_true rfl⟩) rfl rfl (Nat.le_of_ble_eq_true rfl) dL_399 rfl ?_
  refine lg_aload_n (i := 2) (j := 3) X dL_402 rfl rfl rfl ?_
  refine lg_aload_n (i := 0) (j := 1) X dL_403 rfl rfl rfl ?_
  refine lg_iload_n (i := 3) (j := 0) X dL_404 rfl rfl rfl ?_
  refine lg_iconst (v := 1) X dL_405 sf_ic_1 rfl ?_
  refine lg_iadd X dL_406 rfl ?_
  rw [show nI (5 * k) + 1 = nI (5 * k + 1) from nI_add (5 * k) 1]
  refine lg_sld X (vp_in_nI (by omega) (by omega)) dL_407 rfl ?_
  rw [show sf_ix (nI (5 * k + 1)) = 5 * k + 1 from nI_clamp (by omega)]
  refine lg_callM (As := [.int (xs (5 * k + 1))]) (rest := [.int r]) (cv := (RX7, TX7, 23)) X rfl rfl (c_X7_row X.2.2.1.2.1 hM) (cwV 1 X.1.2.2.2.2.2.1 (fun w hw => by have h := lg_ws tw_805 tw_802 tw_803 tw_804 tw_48 w hw; exact ⟨(List.mem_filter.mp h.1).1, h.2⟩) rfl rfl rfl ⟨rfl, hd_X7_row⟩ ⟨Nat.le_of_ble_eq_true rfl, Nat.le_of_ble_eq_true rfl⟩) rfl rfl (Nat.le_of_ble_eq_true rfl) dL_408 rfl ?_
  exact lg_icmp_eq (tgt := 517) X dL_411 rfl rfl (fun _ => h) (fun h => absurd rfl h)
set_option maxHeartbeats 4000000 in
set_option maxRecDepth 100000 in
theorem lg_case_senses {p : Program} {l : Launch} {e : Env} {s : State} {m : MethodId} {below : List Frame} {meth : Method} {c : Code} {b L : Nat} {xs : Nat → Int32} {D : va_G} {q q' : Nat → Nat} {dA : Nat → ClassId} {tv ta tb cells slots : Nat} {σ σ' : sf_St} (X : lg_Cx p s m meth c b L xs D q q' dA tv ta tb cells slots) {k : Nat} (hk : 5 * k + 5 ≤ L) (hL : L ≤ 2560) (h : ∃ (r : Int32) (τ τ' : sf_St), R_X6_senses σ  r τ ∧ R_X7_senses σ'  r τ' ∧ lg_G p l e s m below meth c b D q q' dA cells slots τ τ' 517 [(3, .int (nI (5 * k))), (0, .ref b), (1, .ref (q 0)), (2, .ref (q' 0))] []) : lg_G p l e s m below meth c b D q q' dA cells slots σ σ' 416 [(3, .int (nI (5 * k))), (0, .ref b), (1, .ref (q 0)), (2, .ref (q' 0))] [] := by
  obtain ⟨r, τ, τ', hX, hM, h⟩ := h
  refine lg_aload_n (i := 1) (j := 2) X dL_416 rfl rfl rfl ?_
  refine lg_callX (As := []) (rest := []) (cv := (RX6, TX6, 11)) X rfl rfl (c_X6_senses X.2.2.1.1 hX) (cwV 0 X.1.2.2.2.2.2.1 (fun w hw => by have h := lg_ws tw_514 tw_511 tw_512 tw_513 tw_41 w hw; exact ⟨(List.mem_filter.mp h.1).1, h.2⟩) rfl rfl rfl ⟨rfl, hd_X6_senses⟩ ⟨Nat.le_of_ble_eq_true rfl, Nat.le_of_ble_eq_true rfl⟩) rfl rfl (Nat.le_of_ble_eq_true rfl) dL_417 rfl ?_
  refine lg_aload_n (i := 2) (j := 3) X dL_420 rfl rfl rfl ?_
  refine lg_callM (As := []) (rest := [.int r]) (cv := (RX7, TX7, 23)) X rfl rfl (c_X7_senses X.2.2.1.2.1 hM) (cwV 0 X.1.2.2.2.2.2.1 (fun w hw => by have h := lg_ws tw_830 tw_827 tw_828 tw_829 tw_48 w hw; exact ⟨(List.mem_filter.mp h.1).1, h.2⟩) rfl rfl rfl ⟨rfl, hd_X7_senses⟩ ⟨Nat.le_of_ble_eq_true rfl, Nat.le_of_ble_eq_true rfl⟩) rfl rfl (Nat.le_of_ble_eq_true rfl) dL_421 rfl ?_
  exact lg_icmp_eq (tgt := 517) X dL_424 rfl rfl (fun _ => h) (fun h => absurd rfl h)
set_option maxHeartbeats 4000000 in
set_option maxRecDepth 100000 in
theorem lg_case_chiral {p : Program} {l : Launch} {e : Env} {s : State} {m : MethodId} {below : List Frame} {meth : Method} {c : Code} {b L : Nat} {xs : Nat → Int32} {D : va_G} {q q' : Nat → Nat} {dA : Nat → ClassId} {tv ta tb cells slots : Nat} {σ σ' : sf_St} (X : lg_Cx p s m meth c b L xs D q q' dA tv ta tb cells slots) {k : Nat} (hk : 5 * k + 5 ≤ L) (hL : L ≤ 2560) (h : ∃ (r : Int32) (τ τ' : sf_St), R_X6_chiral σ  r τ ∧ R_X7_chiral σ'  r τ' ∧ lg_G p l e s m below meth c b D q q' dA cells slots τ τ' 517 [(3, .int (nI (5 * k))), (0, .ref b), (1, .ref (q 0)), (2, .ref (q' 0))] []) : lg_G p l e s m below meth c b D q q' dA cells slots σ σ' 429 [(3, .int (nI (5 * k))), (0, .ref b), (1, .ref (q 0)), (2, .ref (q' 0))] [] := by
  obtain ⟨r, τ, τ', hX, hM, h⟩ := h
  refine lg_aload_n (i := 1) (j := 2) X dL_429 rfl rfl rfl ?_
  refine lg_callX (As := []) (rest := []) (cv := (RX6, TX6, 11)) X rfl rfl (c_X6_chiral X.2.2.1.1 hX) (cwV 0 X.1.2.2.2.2.2.1 (fun w hw => by have h := lg_ws tw_518 tw_515 tw_516 tw_517 tw_41 w hw; exact ⟨(List.mem_filter.mp h.1).1, h.2⟩) rfl rfl rfl ⟨rfl, hd_X6_chiral⟩ ⟨Nat.le_of_ble_eq_true rfl, Nat.le_of_ble_eq_true rfl⟩) rfl rfl (Nat.le_of_ble_eq_true rfl) dL_430 rfl ?_
  refine lg_aload_n (i := 2) (j := 3) X dL_433 rfl rfl rfl ?_
  refine lg_callM (As := []) (rest := [.int r]) (cv := (RX7, TX7, 23)) X rfl rfl (c_X7_chiral X.2.2.1.2.1 hM) (cwV 0 X.1.2.2.2.2.2.1 (fun w hw => by have h := lg_ws tw_847 tw_844 tw_845 tw_846 tw_48 w hw; exact ⟨(List.mem_filter.mp h.1).1, h.2⟩) rfl rfl rfl ⟨rfl, hd_X7_chiral⟩ ⟨Nat.le_of_ble_eq_true rfl, Nat.le_of_ble_eq_true rfl⟩) rfl rfl (Nat.le_of_ble_eq_true rfl) dL_434 rfl ?_
  exact lg_icmp_eq (tgt := 517) X dL_437 rfl rfl (fun _ => h) (fun h => absurd rfl h)
set_option maxHeartbeats 4000000 in
set_option maxRecDepth 100000 in
theorem lg_case_isomers {p : Program} {l : Launch} {e : Env} {s : State} {m : MethodId} {below : List Frame} {meth : Method} {c : Code} {b L : Nat} {xs : Nat → Int32} {D : va_G} {q q' : Nat → Nat} {dA : Nat → ClassId} {tv ta tb cells slots : Nat} {σ σ' : sf_St} (X : lg_Cx p s m meth c b L xs D q q' dA tv ta tb cells slots) {k : Nat} (hk : 5 * k + 5 ≤ L) (hL : L ≤ 2560) (h : ∃ (r : Int32) (τ τ' : sf_St), R_X6_isomers σ  r τ ∧ R_X7_isomers σ'  r τ' ∧ lg_G p l e s m below meth c b D q q' dA cells slots τ τ' 517 [(3, .int (nI (5 * k))), (0, .ref b), (1, .ref (q 0)), (2, .ref (q' 0))] []) : lg_G p l e s m below meth c b D q q' dA cells slots σ σ' 442 [(3, .int (nI (5 * k))), (0, .ref b), (1, .ref (q 0)), (2, .ref (q' 0))] [] := by
  obtain ⟨r, τ, τ', hX, hM, h⟩ := h
  refine lg_aload_n (i := 1) (j := 2) X dL_442 rfl rfl rfl ?_
  refine lg_callX (As := []) (rest := []) (cv := (RX6, TX6, 11)) X rfl rfl (c_X6_isomers X.2.2.1.1 hX) (cwV 0 X.1.2.2.2.2.2.1 (fun w hw => by have h := lg_ws tw_522 tw_519 tw_520 tw_521 tw_41 w hw; exact ⟨(List.mem_filter.mp h.1).1, h.2⟩) rfl rfl rfl ⟨rfl, hd_X6_isomers⟩ ⟨Nat.le_of_ble_eq_true rfl, Nat.le_of_ble_eq_true rfl⟩) rfl rfl (Nat.le_of_ble_eq_true rfl) dL_443 rfl ?_
  refine lg_aload_n (i := 2) (j := 3) X dL_446 rfl rfl rfl ?_
  refine lg_callM (As := []) (rest := [.int r]) (cv := (RX7, TX7, 23)) X rfl rfl (c_X7_isomers X.2.2.1.2.1 hM) (cwV 0 X.1.2.2.2.2.2.1 (fun w hw => by have h := lg_ws tw_851 tw_848 tw_849 tw_850 tw_48 w hw; exact ⟨(List.mem_filter.mp h.1).1, h.2⟩) rfl rfl rfl ⟨rfl, hd_X7_isomers⟩ ⟨Nat.le_of_ble_eq_true rfl, Nat.le_of_ble_eq_true rfl⟩) rfl rfl (Nat.le_of_ble_eq_true rfl) dL_447 rfl ?_
  exact lg_icmp_eq (tgt := 517) X dL_450 rfl rfl (fun _ => h) (fun h => absurd rfl h)
set_option maxHeartbeats 4000000 in
set_option maxRecDepth 100000 in
theorem lg_case_keep {p : Program} {l : Launch} {e : Env} {s : State} {m : MethodId} {below : List Frame} {meth : Method} {c : Code} {b L : Nat} {xs : Nat → Int32} {D : va_G} {q q' : Nat → Nat} {dA : Nat → ClassId} {tv ta tb cells slots : Nat} {σ σ' : sf_St} (X : lg_Cx p s m meth c b L xs D q q' dA tv ta tb cells slots) {k : Nat} (hk : 5 * k + 5 ≤ L) (hL : L ≤ 2560) (h : ∃ (r : Int32) (τ τ' : sf_St), R_X6_keep σ  r τ ∧ R_X7_keep σ'  r τ' ∧ lg_G p l e s m below meth c b D q q' dA cells slots τ τ' 517 [(3, .int (nI (5 * k))), (0, .ref b), (1, .ref (q 0)), (2, .ref (q' 0))] []) : lg_G p l e s m below meth c b D q q' dA cells slots σ σ' 455 [(3, .int (nI (5 * k))), (0, .ref b), (1, .ref (q 0)), (2, .ref (q' 0))] [] := by
  obtain ⟨r, τ, τ', hX, hM, h⟩ := h
  refine lg_aload_n (i := 1) (j := 2) X dL_455 rfl rfl rfl ?_
  refine lg_callX (As := []) (rest := []) (cv := (RX6, TX6, 11)) X rfl rfl (c_X6_keep X.2.2.1.1 hX) (cwV 0 X.1.2.2.2.2.2.1 (fun w hw => by have h := lg_ws tw_538 tw_535 tw_536 tw_537 tw_41 w hw; exact ⟨(List.mem_filter.mp h.1).1, h.2⟩) rfl rfl rfl ⟨rfl, hd_X6_keep⟩ ⟨Nat.le_of_ble_eq_true rfl, Nat.le_of_ble_eq_true rfl⟩) rfl rfl (Nat.le_of_ble_eq_true rfl) dL_456 rfl ?_
  refine lg_aload_n (i := 2) (j := 3) X dL_459 rfl rfl rfl ?_
  refine lg_callM (As := []) (rest := [.int r]) (cv := (RX7, TX7, 23)) X rfl rfl (c_X7_keep X.2.2.1.2.1 hM) (cwV 0 X.1.2.2.2.2.2.1 (fun w hw => by have h := lg_ws tw_855 tw_852 tw_853 tw_854 tw_48 w hw; exact ⟨(List.mem_filter.mp h.1).1, h.2⟩) rfl rfl rfl ⟨rfl, hd_X7_keep⟩ ⟨Nat.le_of_ble_eq_true rfl, Nat.le_of_ble_eq_true rfl⟩) rfl rfl (Nat.le_of_ble_eq_true rfl) dL_460 rfl ?_
  exact lg_icmp_eq (tgt := 517) X dL_463 rfl rfl (fun _ => h) (fun h => absurd rfl h)
set_option maxHeartbeats 4000000 in
set_option maxRecDepth 100000 in
theorem lg_case_compare {p : Program} {l : Launch} {e : Env} {s : State} {m : MethodId} {below : List Frame} {meth : Method} {c : Code} {b L : Nat} {xs : Nat → Int32} {D : va_G} {q q' : Nat → Nat} {dA : Nat → ClassId} {tv ta tb cells slots : Nat} {σ σ' : sf_St} (X : lg_Cx p s m meth c b L xs D q q' dA tv ta tb cells slots) {k : Nat} (hk : 5 * k + 5 ≤ L) (hL : L ≤ 2560) (h : ∃ (r : Int32) (τ τ' : sf_St), R_X6_compare σ  r τ ∧ R_X7_compare σ'  r τ' ∧ lg_G p l e s m below meth c b D q q' dA cells slots τ τ' 517 [(3, .int (nI (5 * k))), (0, .ref b), (1, .ref (q 0)), (2, .ref (q' 0))] []) : lg_G p l e s m below meth c b D q q' dA cells slots σ σ' 468 [(3, .int (nI (5 * k))), (0, .ref b), (1, .ref (q 0)), (2, .ref (q' 0))] [] := by
  obtain ⟨r, τ, τ', hX, hM, h⟩ := h
  refine lg_aload_n (i := 1) (j := 2) X dL_468 rfl rfl rfl ?_
  refine lg_callX (As := []) (rest := []) (cv := (RX6, TX6, 11)) X rfl rfl (c_X6_compare X.2.2.1.1 hX) (cwV 0 X.1.2.2.2.2.2.1 (fun w hw => by have h := lg_ws tw_547 tw_544 tw_545 tw_546 tw_41 w hw; exact ⟨(List.mem_filter.mp h.1).1, h.2⟩) rfl rfl rfl ⟨rfl, hd_X6_compare⟩ ⟨Nat.le_of_ble_eq_true rfl, Nat.le_of_ble_eq_true rfl⟩) rfl rfl (Nat.le_of_ble_eq_true rfl) dL_469 rfl ?_
  refine lg_aload_n (i := 2) (j := 3) X dL_472 rfl rfl rfl ?_
  refine lg_callM (As := []) (rest := [.int r]) (cv := (RX7, TX7, 23)) X rfl rfl (c_X7_compare X.2.2.1.2.1 hM) (cwV 0 X.1.2.2.2.2.2.1 (fun w hw => by have h := lg_ws tw_859 tw_856 tw_857 tw_858 tw_48 w hw; exact ⟨(List.mem_filter.mp h.1).1, h.2⟩) rfl rfl rfl ⟨rfl, hd_X7_compare⟩ ⟨Nat.le_of_ble_eq_true rfl, Nat.le_of_ble_eq_true rfl⟩) rfl rfl (Nat.le_of_ble_eq_true rfl) dL_473 rfl ?_
  exact lg_icmp_eq (tgt := 517) X dL_476 rfl rfl (fun _ => h) (fun h => absurd rfl h)
set_option maxHeartbeats 4000000 in
set_option maxRecDepth 100000 in
theorem lg_case_write {p : Program} {l : Launch} {e : Env} {s : State} {m : MethodId} {below : List Frame} {meth : Method} {c : Code} {b L : Nat} {xs : Nat → Int32} {D : va_G} {q q' : Nat → Nat} {dA : Nat → ClassId} {tv ta tb cells slots : Nat} {σ σ' : sf_St} (X : lg_Cx p s m meth c b L xs D q q' dA tv ta tb cells slots) {k : Nat} (hk : 5 * k + 5 ≤ L) (hL : L ≤ 2560) (h : ∃ (r : Int32) (τ τ' : sf_St), R_X6_write σ  r τ ∧ R_X7_write σ'  r τ' ∧ lg_G p l e s m below meth c b D q q' dA cells slots τ τ' 517 [(3, .int (nI (5 * k))), (0, .ref b), (1, .ref (q 0)), (2, .ref (q' 0))] []) : lg_G p l e s m below meth c b D q q' dA cells slots σ σ' 481 [(3, .int (nI (5 * k))), (0, .ref b), (1, .ref (q 0)), (2, .ref (q' 0))] [] := by
  obtain ⟨r, τ, τ', hX, hM, h⟩ := h
  refine lg_aload_n (i := 1) (j := 2) X dL_481 rfl rfl rfl ?_
  refine lg_callX (As := []) (rest := []) (cv := (RX6, TX6, 11)) X rfl rfl (c_X6_write X.2.2.1.1 hX) (cwV 0 X.1.2.2.2.2.2.1 (fun w hw => by have h := lg_ws tw_555 tw_552 tw_553 tw_554 tw_41 w hw; exact ⟨(List.mem_filter.mp h.1).1, h.2⟩) rfl rfl rfl ⟨rfl, hd_X6_write⟩ ⟨Nat.le_of_ble_eq_true rfl, Nat.le_of_ble_eq_true rfl⟩) rfl rfl (Nat.le_of_ble_eq_true rfl) dL_482 rfl ?_
  refine lg_aload_n (i := 2) (j := 3) X dL_485 rfl rfl rfl ?_
  refine lg_callM (As := []) (rest := [.int r]) (cv := (RX7, TX7, 23)) X rfl rfl (c_X7_write X.2.2.1.2.1 hM) (cwV 0 X.1.2.2.2.2.2.1 (fun w hw => by have h := lg_ws tw_863 tw_860 tw_861 tw_862 tw_48 w hw; exact ⟨(List.mem_filter.mp h.1).1, h.2⟩) rfl rfl rfl ⟨rfl, hd_X7_write⟩ ⟨Nat.le_of_ble_eq_true rfl, Nat.le_of_ble_eq_true rfl⟩) rfl rfl (Nat.le_of_ble_eq_true rfl) dL_486 rfl ?_
  exact lg_icmp_eq (tgt := 517) X dL_489 rfl rfl (fun _ => h) (fun h => absurd rfl h)
set_option maxHeartbeats 4000000 in
set_option maxRecDepth 100000 in
theorem lg_case_at {p : Program} {l : Launch} {e : Env} {s : State} {m : MethodId} {below : List Frame} {meth : Method} {c : Code} {b L : Nat} {xs : Nat → Int32} {D : va_G} {q q' : Nat → Nat} {dA : Nat → ClassId} {tv ta tb cells slots : Nat} {σ σ' : sf_St} (X : lg_Cx p s m meth c b L xs D q q' dA tv ta tb cells slots) {k : Nat} (hk : 5 * k + 5 ≤ L) (hL : L ≤ 2560) (h : ∃ (r : Int32) (τ τ' : sf_St), R_X6_at σ (xs (5 * k + 1)) r τ ∧ R_X7_at σ' (xs (5 * k + 1)) r τ' ∧ lg_G p l e s m below meth c b D q q' dA cells slots τ τ' 517 [(3, .int (nI (5 * k))), (0, .ref b), (1, .ref (q 0)), (2, .ref (q' 0))] []) : lg_G p l e s m below meth c b D q q' dA cells slots σ σ' 494 [(3, .int (nI (5 * k))), (0, .ref b), (1, .ref (q 0)), (2, .ref (q' 0))] [] := by
  obtain ⟨r, τ, τ', hX, hM, h⟩ := h
  refine lg_aload_n (i := 1) (j := 2) X dL_494 rfl rfl rfl ?_
  refine lg_aload_n (i := 0) (j := 1) X dL_495 rfl rfl rfl ?_
  refine lg_iload_n (i := 3) (j := 0) X dL_496 rfl rfl rfl ?_
  refine lg_iconst (v := 1) X dL_497 sf_ic_1 rfl ?_
  refine lg_iadd X dL_498 rfl ?_
  rw [show nI (5 * k) + 1 = nI (5 * k + 1) from nI_add (5 * k) 1]
  refine lg_sld X (vp_in_nI (by omega) (by omega)) dL_499 rfl ?_
  rw [show sf_ix (nI (5 * k + 1)) = 5 * k + 1 from nI_clamp (by omega)]
  refine lg_callX (As := [.int (xs (5 * k + 1))]) (rest := []) (cv := (RX6, TX6, 11)) X rfl rfl (c_X6_at X.2.2.1.1 hX) (cwV 1 X.1.2.2.2.2.2.1 (fun w hw => by have h := lg_ws tw_624 tw_621 tw_622 tw_623 tw_41 w hw; exact ⟨(List.mem_filter.mp h.1).1, h.2⟩) rfl rfl rfl ⟨rfl, hd_X6_at⟩ ⟨Nat.le_of_ble_eq_true rfl, Nat.le_of_ble_eq_true rfl⟩) rfl rfl (Nat.le_of_ble_eq_true rfl) dL_500 rfl ?_
  refine lg_aload_n (i := 2) (j := 3) X dL_503 rfl rfl rfl ?_
  refine lg_aload_n (i := 0) (j := 1) X dL_504 rfl rfl rfl ?_
  refine lg_iload_n (i := 3) (j := 0) X dL_505 rfl rfl rfl ?_
  refine lg_iconst (v := 1) X dL_506 sf_ic_1 rfl ?_
  refine lg_iadd X dL_507 rfl ?_
  rw [show nI (5 * k) + 1 = nI (5 * k + 1) from nI_add (5 * k) 1]
  refine lg_sld X (vp_in_nI (by omega) (by omega)) dL_508 rfl ?_
  rw [show sf_ix (nI (5 * k + 1)) = 5 * k + 1 from nI_clamp (by omega)]
  refine lg_callM (As := [.int (xs (5 * k + 1))]) (rest := [.int r]) (cv := (RX7, TX7, 23)) X rfl rfl (c_X7_at X.2.2.1.2.1 hM) (cwV 1 X.1.2.2.2.2.2.1 (fun w hw => by have h := lg_ws tw_879 tw_876 tw_877 tw_878 tw_48 w hw; exact ⟨(List.mem_filter.mp h.1).1, h.2⟩) rfl rfl rfl ⟨rfl, hd_X7_at⟩ ⟨Nat.le_of_ble_eq_true rfl, Nat.le_of_ble_eq_true rfl⟩) rfl rfl (Nat.le_of_ble_eq_true rfl) dL_509 rfl ?_
  exact lg_icmp_eq (tgt := 517) X dL_512 rfl rfl (fun _ => h) (fun h => absurd rfl h)
set_option maxHeartbeats 4000000 in
set_option maxRecDepth 100000 in
theorem lg_loop {p : Program} {l : Launch} {e : Env} {s : State} {m : MethodId} {below : List Frame} {meth : Method} {c : Code} {b L : Nat} {xs : Nat → Int32} {D : va_G} {q q' : Nat → Nat} {dA : Nat → ClassId} {tv ta tb cells slots : Nat} (X : lg_Cx p s m meth c b L xs D q q' dA tv ta tb cells slots) (hL : L ≤ 2560) {Inv : sf_St → sf_St → Prop} (hI : lg_Inv Inv) : ∀ (n k : Nat) (σ σ' : sf_St), Inv σ σ' → L ≤ 5 * k + n → 5 * k ≤ 5000 → lg_G p l e s m below meth c b D q q' dA cells slots σ σ' 18 [(3, .int (nI (5 * k))), (0, .ref b), (1, .ref (q 0)), (2, .ref (q' 0))] [] := by
  intro n
  induction n with
  | zero =>
    intro k σ σ' _ hk hk5
    refine lg_iload_n (i := 3) (j := 0) X dL_18 rfl rfl rfl ?_
    refine lg_aload_n (i := 0) (j := 1) X dL_19 rfl rfl rfl ?_
    refine lg_slen X dL_20 rfl ?_
    refine lg_iconst (v := 5) X dL_21 sf_ic_5 rfl ?_
    refine lg_isub X dL_22 rfl ?_
    refine lg_icmp_gt (tgt := 523) X dL_23 rfl rfl (fun _ => lg_end X) (fun h => absurd ?_ h)
    have e := pk_sub_toInt (a := L) (b := 5) (by omega) (by decide)
    rw [Int32.lt_iff_toInt_lt, show nI L - 5 = nI L - nI 5 from rfl, e, nI_toInt (by omega)]
    omega
  | succ n ih =>
    intro k σ σ' hInv hk hk5
    refine lg_iload_n (i := 3) (j := 0) X dL_18 rfl rfl rfl ?_
    refine lg_aload_n (i := 0) (j := 1) X dL_19 rfl rfl rfl ?_
    refine lg_slen X dL_20 rfl ?_
    refine lg_iconst (v := 5) X dL_21 sf_ic_5 rfl ?_
    refine lg_isub X dL_22 rfl ?_
    refine lg_icmp_gt (tgt := 523) X dL_23 rfl rfl (fun _ => lg_end X) (fun hgt => ?_)
    have hk' : 5 * k + 5 ≤ L := by
      have e := pk_sub_toInt (a := L) (b := 5) (by omega) (by decide)
      rw [Int32.lt_iff_toInt_lt, show nI L - 5 = nI L - nI 5 from rfl, e, nI_toInt (by omega)] at hgt
      omega
    have next : ∀ τ τ', Inv τ τ' → lg_G p l e s m below meth c b D q q' dA cells slots τ τ' 517 [(3, .int (nI (5 * k))), (0, .ref b), (1, .ref (q 0)), (2, .ref (q' 0))] [] := by
      intro τ τ' hi
      refine lg_iinc (i := 3) (j := 0) (v := nI (5 * (k + 1))) (lv' := [(3, .int (nI (5 * (k + 1)))), (0, .ref b), (1, .ref (q 0)), (2, .ref (q' 0))]) X dL_517 rfl ?_ (by decide) rfl rfl ?_
      · exact (nI_add (5 * k) 5).trans (congrArg nI (by omega))
      · refine lg_goto (tgt := 18) X dL_520 rfl ?_
        exact ih (k + 1) τ τ' hi (by omega) (by omega)
    refine lg_aload_n (i := 0) (j := 1) X dL_26 rfl rfl rfl ?_
    refine lg_iload_n (i := 3) (j := 0) X dL_27 rfl rfl rfl ?_
    refine lg_sld X (vp_in_nI (by omega) (by omega)) dL_28 rfl ?_
    refine lg_bipush (v := 31) X dL_29 sf_bc_31 rfl ?_
    refine lg_iand X dL_31 rfl ?_
    obtain ⟨j, hj, ej⟩ := pk_andE (xs (sf_ix (nI (5 * k)))) (m := 31) 5 (by decide)
    rw [ej]
    have hji : (nI j).toInt = (j : Int) := nI_toInt (by omega)
    by_cases hj17 : 17 ≤ j
    · exact lg_tabOut (tgt := 517) X dL_32 (Or.inr (by rw [hji]; omega)) rfl (next σ σ' hInv)
    obtain ⟨h_atom, h_bond, h_move, h_mark, h_clear, h_flip, h_hydrogens, h_sense, h_turn, h_row, h_senses, h_chiral, h_isomers, h_keep, h_compare, h_write, h_at⟩ := hI
    have hj16 : j = 0 ∨ j = 1 ∨ j = 2 ∨ j = 3 ∨ j = 4 ∨ j = 5 ∨ j = 6 ∨ j = 7 ∨ j = 8 ∨ j = 9 ∨ j = 10 ∨ j = 11 ∨ j = 12 ∨ j = 13 ∨ j = 14 ∨ j = 15 ∨ j = 16 := by omega
    rcases hj16 with rfl | rfl | rfl | rfl | rfl | rfl | rfl | rfl | rfl | rfl | rfl | rfl | rfl | rfl | rfl | rfl | rfl
    · refine lg_tabIn (off := 84) (tgt := 116) X dL_32 (by decide) (by decide) (by decide) rfl ?_
      obtain ⟨r, τ, τ', g1, g2, g3⟩ := h_atom σ σ' (xs (5 * k + 1)) (xs (5 * k + 2)) (xs (5 * k + 3)) hInv
      exact lg_case_atom X hk' hL ⟨r, τ, τ', g1, g2, next τ τ' g3⟩
    · refine lg_tabIn (off := 127) (tgt := 159) X dL_32 (by decide) (by decide) (by decide) rfl ?_
      obtain ⟨r, τ, τ', g1, g2, g3⟩ := h_bond σ σ' (xs (5 * k + 1)) (xs (5 * k + 2)) (xs (5 * k + 3)) (xs (5 * k + 4)) hInv
      exact lg_case_bond X hk' hL ⟨r, τ, τ', g1, g2, next τ τ' g3⟩
    · refine lg_tabIn (off := 180) (tgt := 212) X dL_32 (by decide) (by decide) (by decide) rfl ?_
      obtain ⟨r, τ, τ', g1, g2, g3⟩ := h_move σ σ' (xs (5 * k + 1)) (xs (5 * k + 2)) (xs (5 * k + 3)) hInv
      exact lg_case_move X hk' hL ⟨r, τ, τ', g1, g2, next τ τ' g3⟩
    · refine lg_tabIn (off := 223) (tgt := 255) X dL_32 (by decide) (by decide) (by decide) rfl ?_
      obtain ⟨r, τ, τ', g1, g2, g3⟩ := h_mark σ σ' (xs (5 * k + 1)) (xs (5 * k + 2)) (xs (5 * k + 3)) hInv
      exact lg_case_mark X hk' hL ⟨r, τ, τ', g1, g2, next τ τ' g3⟩
    · refine lg_tabIn (off := 266) (tgt := 298) X dL_32 (by decide) (by decide) (by decide) rfl ?_
      obtain ⟨r, τ, τ', g1, g2, g3⟩ := h_clear σ σ'  hInv
      exact lg_case_clear X hk' hL ⟨r, τ, τ', g1, g2, next τ τ' g3⟩
    · refine lg_tabIn (off := 279) (tgt := 311) X dL_32 (by decide) (by decide) (by decide) rfl ?_
      obtain ⟨r, τ, τ', g1, g2, g3⟩ := h_flip σ σ'  hInv
      exact lg_case_flip X hk' hL ⟨r, τ, τ', g1, g2, next τ τ' g3⟩
    · refine lg_tabIn (off := 292) (tgt := 324) X dL_32 (by decide) (by decide) (by decide) rfl ?_
      obtain ⟨r, τ, τ', g1, g2, g3⟩ := h_hydrogens σ σ' (xs (5 * k + 1)) hInv
      exact lg_case_hydrogens X hk' hL ⟨r, τ, τ', g1, g2, next τ τ' g3⟩
    · refine lg_tabIn (off := 315) (tgt := 347) X dL_32 (by decide) (by decide) (by decide) rfl ?_
      obtain ⟨r, τ, τ', g1, g2, g3⟩ := h_sense σ σ' (xs (5 * k + 1)) hInv
      exact lg_case_sense X hk' hL ⟨r, τ, τ', g1, g2, next τ τ' g3⟩
    · refine lg_tabIn (off := 338) (tgt := 370) X dL_32 (by decide) (by decide) (by decide) rfl ?_
      obtain ⟨r, τ, τ', g1, g2, g3⟩ := h_turn σ σ' (xs (5 * k + 1)) hInv
      exact lg_case_turn X hk' hL ⟨r, τ, τ', g1, g2, next τ τ' g3⟩
    · refine lg_tabIn (off := 361) (tgt := 393) X dL_32 (by decide) (by decide) (by decide) rfl ?_
      obtain ⟨r, τ, τ', g1, g2, g3⟩ := h_row σ σ' (xs (5 * k + 1)) hInv
      exact lg_case_row X hk' hL ⟨r, τ, τ', g1, g2, next τ τ' g3⟩
    · refine lg_tabIn (off := 384) (tgt := 416) X dL_32 (by decide) (by decide) (by decide) rfl ?_
      obtain ⟨r, τ, τ', g1, g2, g3⟩ := h_senses σ σ'  hInv
      exact lg_case_senses X hk' hL ⟨r, τ, τ', g1, g2, next τ τ' g3⟩
    · refine lg_tabIn (off := 397) (tgt := 429) X dL_32 (by decide) (by decide) (by decide) rfl ?_
      obtain ⟨r, τ, τ', g1, g2, g3⟩ := h_chiral σ σ'  hInv
      exact lg_case_chiral X hk' hL ⟨r, τ, τ', g1, g2, next τ τ' g3⟩
    · refine lg_tabIn (off := 410) (tgt := 442) X dL_32 (by decide) (by decide) (by decide) rfl ?_
      obtain ⟨r, τ, τ', g1, g2, g3⟩ := h_isomers σ σ'  hInv
      exact lg_case_isomers X hk' hL ⟨r, τ, τ', g1, g2, next τ τ' g3⟩
    · refine lg_tabIn (off := 423) (tgt := 455) X dL_32 (by decide) (by decide) (by decide) rfl ?_
      obtain ⟨r, τ, τ', g1, g2, g3⟩ := h_keep σ σ'  hInv
      exact lg_case_keep X hk' hL ⟨r, τ, τ', g1, g2, next τ τ' g3⟩
    · refine lg_tabIn (off := 436) (tgt := 468) X dL_32 (by decide) (by decide) (by decide) rfl ?_
      obtain ⟨r, τ, τ', g1, g2, g3⟩ := h_compare σ σ'  hInv
      exact lg_case_compare X hk' hL ⟨r, τ, τ', g1, g2, next τ τ' g3⟩
    · refine lg_tabIn (off := 449) (tgt := 481) X dL_32 (by decide) (by decide) (by decide) rfl ?_
      obtain ⟨r, τ, τ', g1, g2, g3⟩ := h_write σ σ'  hInv
      exact lg_case_write X hk' hL ⟨r, τ, τ', g1, g2, next τ τ' g3⟩
    · refine lg_tabIn (off := 462) (tgt := 494) X dL_32 (by decide) (by decide) (by decide) rfl ?_
      obtain ⟨r, τ, τ', g1, g2, g3⟩ := h_at σ σ' (xs (5 * k + 1)) hInv
      exact lg_case_at X hk' hL ⟨r, τ, τ', g1, g2, next τ τ' g3⟩
