/-! functions and walks, by program -/
theorem dL_law_0 : decode cL_law 0 = .ok (.new 7, 3) := by decide +kernel
theorem dL_law_3 : decode cL_law 3 = .ok (.dup, 1) := by decide +kernel
theorem dL_law_4 : decode cL_law 4 = .ok (.invokespecial 9, 3) := by decide +kernel
theorem dL_law_7 : decode cL_law 7 = .ok (.astore_n 1, 1) := by decide +kernel
theorem dL_law_8 : decode cL_law 8 = .ok (.new 10, 3) := by decide +kernel
theorem dL_law_11 : decode cL_law 11 = .ok (.dup, 1) := by decide +kernel
theorem dL_law_12 : decode cL_law 12 = .ok (.invokespecial 12, 3) := by decide +kernel
theorem dL_law_15 : decode cL_law 15 = .ok (.astore_n 2, 1) := by decide +kernel
theorem dL_law_16 : decode cL_law 16 = .ok (.iconst 0, 1) := by decide +kernel
theorem dL_law_17 : decode cL_law 17 = .ok (.istore_n 3, 1) := by decide +kernel
theorem dL_law_18 : decode cL_law 18 = .ok (.iload_n 3, 1) := by decide +kernel
theorem dL_law_19 : decode cL_law 19 = .ok (.aload_n 0, 1) := by decide +kernel
theorem dL_law_20 : decode cL_law 20 = .ok (.arraylength, 1) := by decide +kernel
theorem dL_law_21 : decode cL_law 21 = .ok (.bipush 6, 2) := by decide +kernel
theorem dL_law_23 : decode cL_law 23 = .ok (.isub, 1) := by decide +kernel
theorem dL_law_24 : decode cL_law 24 = .ok (.if_icmp .gt 867, 3) := by decide +kernel
theorem dL_law_27 : decode cL_law 27 = .ok (.aload_n 0, 1) := by decide +kernel
theorem dL_law_28 : decode cL_law 28 = .ok (.iload_n 3, 1) := by decide +kernel
theorem dL_law_29 : decode cL_law 29 = .ok (.iaload, 1) := by decide +kernel
theorem dL_law_30 : decode cL_law 30 = .ok (.bipush 31, 2) := by decide +kernel
theorem dL_law_32 : decode cL_law 32 = .ok (.iand, 1) := by decide +kernel
theorem dL_law_33 : decode cL_law 33 = .ok (.tableswitch 852 0 22 #[107, 170, 193, 206, 229, 262, 275, 288, 311, 334, 347, 390, 433, 476, 509, 562, 595, 648, 671, 694, 727, 776, 829], 107) := by decide +kernel
theorem dL_law_140 : decode cL_law 140 = .ok (.aload_n 1, 1) := by decide +kernel
theorem dL_law_141 : decode cL_law 141 = .ok (.aload_n 0, 1) := by decide +kernel
theorem dL_law_142 : decode cL_law 142 = .ok (.iload_n 3, 1) := by decide +kernel
theorem dL_law_143 : decode cL_law 143 = .ok (.iconst 1, 1) := by decide +kernel
theorem dL_law_144 : decode cL_law 144 = .ok (.iadd, 1) := by decide +kernel
theorem dL_law_145 : decode cL_law 145 = .ok (.iaload, 1) := by decide +kernel
theorem dL_law_146 : decode cL_law 146 = .ok (.aload_n 0, 1) := by decide +kernel
theorem dL_law_147 : decode cL_law 147 = .ok (.iload_n 3, 1) := by decide +kernel
theorem dL_law_148 : decode cL_law 148 = .ok (.iconst 2, 1) := by decide +kernel
theorem dL_law_149 : decode cL_law 149 = .ok (.iadd, 1) := by decide +kernel
theorem dL_law_150 : decode cL_law 150 = .ok (.iaload, 1) := by decide +kernel
theorem dL_law_151 : decode cL_law 151 = .ok (.aload_n 0, 1) := by decide +kernel
theorem dL_law_152 : decode cL_law 152 = .ok (.iload_n 3, 1) := by decide +kernel
theorem dL_law_153 : decode cL_law 153 = .ok (.iconst 3, 1) := by decide +kernel
theorem dL_law_154 : decode cL_law 154 = .ok (.iadd, 1) := by decide +kernel
theorem dL_law_155 : decode cL_law 155 = .ok (.iaload, 1) := by decide +kernel
theorem dL_law_156 : decode cL_law 156 = .ok (.aload_n 0, 1) := by decide +kernel
theorem dL_law_157 : decode cL_law 157 = .ok (.iload_n 3, 1) := by decide +kernel
theorem dL_law_158 : decode cL_law 158 = .ok (.iconst 4, 1) := by decide +kernel
theorem dL_law_159 : decode cL_law 159 = .ok (.iadd, 1) := by decide +kernel
theorem dL_law_160 : decode cL_law 160 = .ok (.iaload, 1) := by decide +kernel
theorem dL_law_161 : decode cL_law 161 = .ok (.aload_n 0, 1) := by decide +kernel
theorem dL_law_162 : decode cL_law 162 = .ok (.iload_n 3, 1) := by decide +kernel
theorem dL_law_163 : decode cL_law 163 = .ok (.iconst 5, 1) := by decide +kernel
theorem dL_law_164 : decode cL_law 164 = .ok (.iadd, 1) := by decide +kernel
theorem dL_law_165 : decode cL_law 165 = .ok (.iaload, 1) := by decide +kernel
theorem dL_law_166 : decode cL_law 166 = .ok (.invokevirtual 13, 3) := by decide +kernel
theorem dL_law_169 : decode cL_law 169 = .ok (.aload_n 2, 1) := by decide +kernel
theorem dL_law_170 : decode cL_law 170 = .ok (.aload_n 0, 1) := by decide +kernel
theorem dL_law_171 : decode cL_law 171 = .ok (.iload_n 3, 1) := by decide +kernel
theorem dL_law_172 : decode cL_law 172 = .ok (.iconst 1, 1) := by decide +kernel
theorem dL_law_173 : decode cL_law 173 = .ok (.iadd, 1) := by decide +kernel
theorem dL_law_174 : decode cL_law 174 = .ok (.iaload, 1) := by decide +kernel
theorem dL_law_175 : decode cL_law 175 = .ok (.aload_n 0, 1) := by decide +kernel
theorem dL_law_176 : decode cL_law 176 = .ok (.iload_n 3, 1) := by decide +kernel
theorem dL_law_177 : decode cL_law 177 = .ok (.iconst 2, 1) := by decide +kernel
theorem dL_law_178 : decode cL_law 178 = .ok (.iadd, 1) := by decide +kernel
theorem dL_law_179 : decode cL_law 179 = .ok (.iaload, 1) := by decide +kernel
theorem dL_law_180 : decode cL_law 180 = .ok (.aload_n 0, 1) := by decide +kernel
theorem dL_law_181 : decode cL_law 181 = .ok (.iload_n 3, 1) := by decide +kernel
theorem dL_law_182 : decode cL_law 182 = .ok (.iconst 3, 1) := by decide +kernel
theorem dL_law_183 : decode cL_law 183 = .ok (.iadd, 1) := by decide +kernel
theorem dL_law_184 : decode cL_law 184 = .ok (.iaload, 1) := by decide +kernel
theorem dL_law_185 : decode cL_law 185 = .ok (.aload_n 0, 1) := by decide +kernel
theorem dL_law_186 : decode cL_law 186 = .ok (.iload_n 3, 1) := by decide +kernel
theorem dL_law_187 : decode cL_law 187 = .ok (.iconst 4, 1) := by decide +kernel
theorem dL_law_188 : decode cL_law 188 = .ok (.iadd, 1) := by decide +kernel
theorem dL_law_189 : decode cL_law 189 = .ok (.iaload, 1) := by decide +kernel
theorem dL_law_190 : decode cL_law 190 = .ok (.aload_n 0, 1) := by decide +kernel
theorem dL_law_191 : decode cL_law 191 = .ok (.iload_n 3, 1) := by decide +kernel
theorem dL_law_192 : decode cL_law 192 = .ok (.iconst 5, 1) := by decide +kernel
theorem dL_law_193 : decode cL_law 193 = .ok (.iadd, 1) := by decide +kernel
theorem dL_law_194 : decode cL_law 194 = .ok (.iaload, 1) := by decide +kernel
theorem dL_law_195 : decode cL_law 195 = .ok (.invokevirtual 17, 3) := by decide +kernel
theorem dL_law_198 : decode cL_law 198 = .ok (.if_icmp .eq 687, 3) := by decide +kernel
theorem dL_law_201 : decode cL_law 201 = .ok (.iconst 0, 1) := by decide +kernel
theorem dL_law_202 : decode cL_law 202 = .ok (.ireturn, 1) := by decide +kernel
theorem dL_law_203 : decode cL_law 203 = .ok (.aload_n 1, 1) := by decide +kernel
theorem dL_law_204 : decode cL_law 204 = .ok (.aload_n 0, 1) := by decide +kernel
theorem dL_law_205 : decode cL_law 205 = .ok (.iload_n 3, 1) := by decide +kernel
theorem dL_law_206 : decode cL_law 206 = .ok (.iconst 1, 1) := by decide +kernel
theorem dL_law_207 : decode cL_law 207 = .ok (.iadd, 1) := by decide +kernel
theorem dL_law_208 : decode cL_law 208 = .ok (.iaload, 1) := by decide +kernel
theorem dL_law_209 : decode cL_law 209 = .ok (.invokevirtual 18, 3) := by decide +kernel
theorem dL_law_212 : decode cL_law 212 = .ok (.aload_n 2, 1) := by decide +kernel
theorem dL_law_213 : decode cL_law 213 = .ok (.aload_n 0, 1) := by decide +kernel
theorem dL_law_214 : decode cL_law 214 = .ok (.iload_n 3, 1) := by decide +kernel
theorem dL_law_215 : decode cL_law 215 = .ok (.iconst 1, 1) := by decide +kernel
theorem dL_law_216 : decode cL_law 216 = .ok (.iadd, 1) := by decide +kernel
theorem dL_law_217 : decode cL_law 217 = .ok (.iaload, 1) := by decide +kernel
theorem dL_law_218 : decode cL_law 218 = .ok (.invokevirtual 22, 3) := by decide +kernel
theorem dL_law_221 : decode cL_law 221 = .ok (.if_icmp .eq 664, 3) := by decide +kernel
theorem dL_law_224 : decode cL_law 224 = .ok (.iconst 0, 1) := by decide +kernel
theorem dL_law_225 : decode cL_law 225 = .ok (.ireturn, 1) := by decide +kernel
theorem dL_law_226 : decode cL_law 226 = .ok (.aload_n 1, 1) := by decide +kernel
theorem dL_law_227 : decode cL_law 227 = .ok (.invokevirtual 23, 3) := by decide +kernel
theorem dL_law_230 : decode cL_law 230 = .ok (.aload_n 2, 1) := by decide +kernel
theorem dL_law_231 : decode cL_law 231 = .ok (.invokevirtual 27, 3) := by decide +kernel
theorem dL_law_234 : decode cL_law 234 = .ok (.if_icmp .eq 651, 3) := by decide +kernel
theorem dL_law_237 : decode cL_law 237 = .ok (.iconst 0, 1) := by decide +kernel
theorem dL_law_238 : decode cL_law 238 = .ok (.ireturn, 1) := by decide +kernel
theorem dL_law_239 : decode cL_law 239 = .ok (.aload_n 1, 1) := by decide +kernel
theorem dL_law_240 : decode cL_law 240 = .ok (.aload_n 0, 1) := by decide +kernel
theorem dL_law_241 : decode cL_law 241 = .ok (.iload_n 3, 1) := by decide +kernel
theorem dL_law_242 : decode cL_law 242 = .ok (.iconst 1, 1) := by decide +kernel
theorem dL_law_243 : decode cL_law 243 = .ok (.iadd, 1) := by decide +kernel
theorem dL_law_244 : decode cL_law 244 = .ok (.iaload, 1) := by decide +kernel
theorem dL_law_245 : decode cL_law 245 = .ok (.invokevirtual 28, 3) := by decide +kernel
theorem dL_law_248 : decode cL_law 248 = .ok (.aload_n 2, 1) := by decide +kernel
theorem dL_law_249 : decode cL_law 249 = .ok (.aload_n 0, 1) := by decide +kernel
theorem dL_law_250 : decode cL_law 250 = .ok (.iload_n 3, 1) := by decide +kernel
theorem dL_law_251 : decode cL_law 251 = .ok (.iconst 1, 1) := by decide +kernel
theorem dL_law_252 : decode cL_law 252 = .ok (.iadd, 1) := by decide +kernel
theorem dL_law_253 : decode cL_law 253 = .ok (.iaload, 1) := by decide +kernel
theorem dL_law_254 : decode cL_law 254 = .ok (.invokevirtual 31, 3) := by decide +kernel
theorem dL_law_257 : decode cL_law 257 = .ok (.if_icmp .eq 628, 3) := by decide +kernel
theorem dL_law_260 : decode cL_law 260 = .ok (.iconst 0, 1) := by decide +kernel
theorem dL_law_261 : decode cL_law 261 = .ok (.ireturn, 1) := by decide +kernel
theorem dL_law_262 : decode cL_law 262 = .ok (.aload_n 1, 1) := by decide +kernel
theorem dL_law_263 : decode cL_law 263 = .ok (.aload_n 0, 1) := by decide +kernel
theorem dL_law_264 : decode cL_law 264 = .ok (.iload_n 3, 1) := by decide +kernel
theorem dL_law_265 : decode cL_law 265 = .ok (.iconst 1, 1) := by decide +kernel
theorem dL_law_266 : decode cL_law 266 = .ok (.iadd, 1) := by decide +kernel
theorem dL_law_267 : decode cL_law 267 = .ok (.iaload, 1) := by decide +kernel
theorem dL_law_268 : decode cL_law 268 = .ok (.aload_n 0, 1) := by decide +kernel
theorem dL_law_269 : decode cL_law 269 = .ok (.iload_n 3, 1) := by decide +kernel
theorem dL_law_270 : decode cL_law 270 = .ok (.iconst 2, 1) := by decide +kernel
theorem dL_law_271 : decode cL_law 271 = .ok (.iadd, 1) := by decide +kernel
theorem dL_law_272 : decode cL_law 272 = .ok (.iaload, 1) := by decide +kernel
theorem dL_law_273 : decode cL_law 273 = .ok (.invokevirtual 32, 3) := by decide +kernel
theorem dL_law_276 : decode cL_law 276 = .ok (.aload_n 2, 1) := by decide +kernel
theorem dL_law_277 : decode cL_law 277 = .ok (.aload_n 0, 1) := by decide +kernel
theorem dL_law_278 : decode cL_law 278 = .ok (.iload_n 3, 1) := by decide +kernel
theorem dL_law_279 : decode cL_law 279 = .ok (.iconst 1, 1) := by decide +kernel
theorem dL_law_280 : decode cL_law 280 = .ok (.iadd, 1) := by decide +kernel
theorem dL_law_281 : decode cL_law 281 = .ok (.iaload, 1) := by decide +kernel
theorem dL_law_282 : decode cL_law 282 = .ok (.aload_n 0, 1) := by decide +kernel
theorem dL_law_283 : decode cL_law 283 = .ok (.iload_n 3, 1) := by decide +kernel
theorem dL_law_284 : decode cL_law 284 = .ok (.iconst 2, 1) := by decide +kernel
theorem dL_law_285 : decode cL_law 285 = .ok (.iadd, 1) := by decide +kernel
theorem dL_law_286 : decode cL_law 286 = .ok (.iaload, 1) := by decide +kernel
theorem dL_law_287 : decode cL_law 287 = .ok (.invokevirtual 36, 3) := by decide +kernel
theorem dL_law_290 : decode cL_law 290 = .ok (.if_icmp .eq 595, 3) := by decide +kernel
theorem dL_law_293 : decode cL_law 293 = .ok (.iconst 0, 1) := by decide +kernel
theorem dL_law_294 : decode cL_law 294 = .ok (.ireturn, 1) := by decide +kernel
theorem dL_law_295 : decode cL_law 295 = .ok (.aload_n 1, 1) := by decide +kernel
theorem dL_law_296 : decode cL_law 296 = .ok (.invokevirtual 37, 3) := by decide +kernel
theorem dL_law_299 : decode cL_law 299 = .ok (.aload_n 2, 1) := by decide +kernel
theorem dL_law_300 : decode cL_law 300 = .ok (.invokevirtual 41, 3) := by decide +kernel
theorem dL_law_303 : decode cL_law 303 = .ok (.if_icmp .eq 582, 3) := by decide +kernel
theorem dL_law_306 : decode cL_law 306 = .ok (.iconst 0, 1) := by decide +kernel
theorem dL_law_307 : decode cL_law 307 = .ok (.ireturn, 1) := by decide +kernel
theorem dL_law_308 : decode cL_law 308 = .ok (.aload_n 1, 1) := by decide +kernel
theorem dL_law_309 : decode cL_law 309 = .ok (.invokevirtual 42, 3) := by decide +kernel
theorem dL_law_312 : decode cL_law 312 = .ok (.aload_n 2, 1) := by decide +kernel
theorem dL_law_313 : decode cL_law 313 = .ok (.invokevirtual 45, 3) := by decide +kernel
theorem dL_law_316 : decode cL_law 316 = .ok (.if_icmp .eq 569, 3) := by decide +kernel
theorem dL_law_319 : decode cL_law 319 = .ok (.iconst 0, 1) := by decide +kernel
theorem dL_law_320 : decode cL_law 320 = .ok (.ireturn, 1) := by decide +kernel
theorem dL_law_321 : decode cL_law 321 = .ok (.aload_n 1, 1) := by decide +kernel
theorem dL_law_322 : decode cL_law 322 = .ok (.aload_n 0, 1) := by decide +kernel
theorem dL_law_323 : decode cL_law 323 = .ok (.iload_n 3, 1) := by decide +kernel
theorem dL_law_324 : decode cL_law 324 = .ok (.iconst 1, 1) := by decide +kernel
theorem dL_law_325 : decode cL_law 325 = .ok (.iadd, 1) := by decide +kernel
theorem dL_law_326 : decode cL_law 326 = .ok (.iaload, 1) := by decide +kernel
theorem dL_law_327 : decode cL_law 327 = .ok (.invokevirtual 46, 3) := by decide +kernel
theorem dL_law_330 : decode cL_law 330 = .ok (.aload_n 2, 1) := by decide +kernel
theorem dL_law_331 : decode cL_law 331 = .ok (.aload_n 0, 1) := by decide +kernel
theorem dL_law_332 : decode cL_law 332 = .ok (.iload_n 3, 1) := by decide +kernel
theorem dL_law_333 : decode cL_law 333 = .ok (.iconst 1, 1) := by decide +kernel
theorem dL_law_334 : decode cL_law 334 = .ok (.iadd, 1) := by decide +kernel
theorem dL_law_335 : decode cL_law 335 = .ok (.iaload, 1) := by decide +kernel
theorem dL_law_336 : decode cL_law 336 = .ok (.invokevirtual 49, 3) := by decide +kernel
theorem dL_law_339 : decode cL_law 339 = .ok (.if_icmp .eq 546, 3) := by decide +kernel
theorem dL_law_342 : decode cL_law 342 = .ok (.iconst 0, 1) := by decide +kernel
theorem dL_law_343 : decode cL_law 343 = .ok (.ireturn, 1) := by decide +kernel
theorem dL_law_344 : decode cL_law 344 = .ok (.aload_n 1, 1) := by decide +kernel
theorem dL_law_345 : decode cL_law 345 = .ok (.aload_n 0, 1) := by decide +kernel
theorem dL_law_346 : decode cL_law 346 = .ok (.iload_n 3, 1) := by decide +kernel
theorem dL_law_347 : decode cL_law 347 = .ok (.iconst 1, 1) := by decide +kernel
theorem dL_law_348 : decode cL_law 348 = .ok (.iadd, 1) := by decide +kernel
theorem dL_law_349 : decode cL_law 349 = .ok (.iaload, 1) := by decide +kernel
theorem dL_law_350 : decode cL_law 350 = .ok (.invokevirtual 50, 3) := by decide +kernel
theorem dL_law_353 : decode cL_law 353 = .ok (.aload_n 2, 1) := by decide +kernel
theorem dL_law_354 : decode cL_law 354 = .ok (.aload_n 0, 1) := by decide +kernel
theorem dL_law_355 : decode cL_law 355 = .ok (.iload_n 3, 1) := by decide +kernel
theorem dL_law_356 : decode cL_law 356 = .ok (.iconst 1, 1) := by decide +kernel
theorem dL_law_357 : decode cL_law 357 = .ok (.iadd, 1) := by decide +kernel
theorem dL_law_358 : decode cL_law 358 = .ok (.iaload, 1) := by decide +kernel
theorem dL_law_359 : decode cL_law 359 = .ok (.invokevirtual 53, 3) := by decide +kernel
theorem dL_law_362 : decode cL_law 362 = .ok (.if_icmp .eq 523, 3) := by decide +kernel
theorem dL_law_365 : decode cL_law 365 = .ok (.iconst 0, 1) := by decide +kernel
theorem dL_law_366 : decode cL_law 366 = .ok (.ireturn, 1) := by decide +kernel
theorem dL_law_367 : decode cL_law 367 = .ok (.aload_n 1, 1) := by decide +kernel
theorem dL_law_368 : decode cL_law 368 = .ok (.invokevirtual 54, 3) := by decide +kernel
theorem dL_law_371 : decode cL_law 371 = .ok (.aload_n 2, 1) := by decide +kernel
theorem dL_law_372 : decode cL_law 372 = .ok (.invokevirtual 57, 3) := by decide +kernel
theorem dL_law_375 : decode cL_law 375 = .ok (.if_icmp .eq 510, 3) := by decide +kernel
theorem dL_law_378 : decode cL_law 378 = .ok (.iconst 0, 1) := by decide +kernel
theorem dL_law_379 : decode cL_law 379 = .ok (.ireturn, 1) := by decide +kernel
theorem dL_law_380 : decode cL_law 380 = .ok (.aload_n 1, 1) := by decide +kernel
theorem dL_law_381 : decode cL_law 381 = .ok (.aload_n 0, 1) := by decide +kernel
theorem dL_law_382 : decode cL_law 382 = .ok (.iload_n 3, 1) := by decide +kernel
theorem dL_law_383 : decode cL_law 383 = .ok (.iconst 1, 1) := by decide +kernel
theorem dL_law_384 : decode cL_law 384 = .ok (.iadd, 1) := by decide +kernel
theorem dL_law_385 : decode cL_law 385 = .ok (.iaload, 1) := by decide +kernel
theorem dL_law_386 : decode cL_law 386 = .ok (.aload_n 0, 1) := by decide +kernel
theorem dL_law_387 : decode cL_law 387 = .ok (.iload_n 3, 1) := by decide +kernel
theorem dL_law_388 : decode cL_law 388 = .ok (.iconst 2, 1) := by decide +kernel
theorem dL_law_389 : decode cL_law 389 = .ok (.iadd, 1) := by decide +kernel
theorem dL_law_390 : decode cL_law 390 = .ok (.iaload, 1) := by decide +kernel
theorem dL_law_391 : decode cL_law 391 = .ok (.aload_n 0, 1) := by decide +kernel
theorem dL_law_392 : decode cL_law 392 = .ok (.iload_n 3, 1) := by decide +kernel
theorem dL_law_393 : decode cL_law 393 = .ok (.iconst 3, 1) := by decide +kernel
theorem dL_law_394 : decode cL_law 394 = .ok (.iadd, 1) := by decide +kernel
theorem dL_law_395 : decode cL_law 395 = .ok (.iaload, 1) := by decide +kernel
theorem dL_law_396 : decode cL_law 396 = .ok (.invokevirtual 58, 3) := by decide +kernel
theorem dL_law_399 : decode cL_law 399 = .ok (.aload_n 2, 1) := by decide +kernel
theorem dL_law_400 : decode cL_law 400 = .ok (.aload_n 0, 1) := by decide +kernel
theorem dL_law_401 : decode cL_law 401 = .ok (.iload_n 3, 1) := by decide +kernel
theorem dL_law_402 : decode cL_law 402 = .ok (.iconst 1, 1) := by decide +kernel
theorem dL_law_403 : decode cL_law 403 = .ok (.iadd, 1) := by decide +kernel
theorem dL_law_404 : decode cL_law 404 = .ok (.iaload, 1) := by decide +kernel
theorem dL_law_405 : decode cL_law 405 = .ok (.aload_n 0, 1) := by decide +kernel
theorem dL_law_406 : decode cL_law 406 = .ok (.iload_n 3, 1) := by decide +kernel
theorem dL_law_407 : decode cL_law 407 = .ok (.iconst 2, 1) := by decide +kernel
theorem dL_law_408 : decode cL_law 408 = .ok (.iadd, 1) := by decide +kernel
theorem dL_law_409 : decode cL_law 409 = .ok (.iaload, 1) := by decide +kernel
theorem dL_law_410 : decode cL_law 410 = .ok (.aload_n 0, 1) := by decide +kernel
theorem dL_law_411 : decode cL_law 411 = .ok (.iload_n 3, 1) := by decide +kernel
theorem dL_law_412 : decode cL_law 412 = .ok (.iconst 3, 1) := by decide +kernel
theorem dL_law_413 : decode cL_law 413 = .ok (.iadd, 1) := by decide +kernel
theorem dL_law_414 : decode cL_law 414 = .ok (.iaload, 1) := by decide +kernel
theorem dL_law_415 : decode cL_law 415 = .ok (.invokevirtual 62, 3) := by decide +kernel
theorem dL_law_418 : decode cL_law 418 = .ok (.if_icmp .eq 467, 3) := by decide +kernel
theorem dL_law_421 : decode cL_law 421 = .ok (.iconst 0, 1) := by decide +kernel
theorem dL_law_422 : decode cL_law 422 = .ok (.ireturn, 1) := by decide +kernel
theorem dL_law_423 : decode cL_law 423 = .ok (.aload_n 1, 1) := by decide +kernel
theorem dL_law_424 : decode cL_law 424 = .ok (.aload_n 0, 1) := by decide +kernel
theorem dL_law_425 : decode cL_law 425 = .ok (.iload_n 3, 1) := by decide +kernel
theorem dL_law_426 : decode cL_law 426 = .ok (.iconst 1, 1) := by decide +kernel
theorem dL_law_427 : decode cL_law 427 = .ok (.iadd, 1) := by decide +kernel
theorem dL_law_428 : decode cL_law 428 = .ok (.iaload, 1) := by decide +kernel
theorem dL_law_429 : decode cL_law 429 = .ok (.aload_n 0, 1) := by decide +kernel
theorem dL_law_430 : decode cL_law 430 = .ok (.iload_n 3, 1) := by decide +kernel
theorem dL_law_431 : decode cL_law 431 = .ok (.iconst 2, 1) := by decide +kernel
theorem dL_law_432 : decode cL_law 432 = .ok (.iadd, 1) := by decide +kernel
theorem dL_law_433 : decode cL_law 433 = .ok (.iaload, 1) := by decide +kernel
theorem dL_law_434 : decode cL_law 434 = .ok (.aload_n 0, 1) := by decide +kernel
theorem dL_law_435 : decode cL_law 435 = .ok (.iload_n 3, 1) := by decide +kernel
theorem dL_law_436 : decode cL_law 436 = .ok (.iconst 3, 1) := by decide +kernel
theorem dL_law_437 : decode cL_law 437 = .ok (.iadd, 1) := by decide +kernel
theorem dL_law_438 : decode cL_law 438 = .ok (.iaload, 1) := by decide +kernel
theorem dL_law_439 : decode cL_law 439 = .ok (.invokevirtual 63, 3) := by decide +kernel
theorem dL_law_442 : decode cL_law 442 = .ok (.aload_n 2, 1) := by decide +kernel
theorem dL_law_443 : decode cL_law 443 = .ok (.aload_n 0, 1) := by decide +kernel
theorem dL_law_444 : decode cL_law 444 = .ok (.iload_n 3, 1) := by decide +kernel
theorem dL_law_445 : decode cL_law 445 = .ok (.iconst 1, 1) := by decide +kernel
theorem dL_law_446 : decode cL_law 446 = .ok (.iadd, 1) := by decide +kernel
theorem dL_law_447 : decode cL_law 447 = .ok (.iaload, 1) := by decide +kernel
theorem dL_law_448 : decode cL_law 448 = .ok (.aload_n 0, 1) := by decide +kernel
theorem dL_law_449 : decode cL_law 449 = .ok (.iload_n 3, 1) := by decide +kernel
theorem dL_law_450 : decode cL_law 450 = .ok (.iconst 2, 1) := by decide +kernel
theorem dL_law_451 : decode cL_law 451 = .ok (.iadd, 1) := by decide +kernel
theorem dL_law_452 : decode cL_law 452 = .ok (.iaload, 1) := by decide +kernel
theorem dL_law_453 : decode cL_law 453 = .ok (.aload_n 0, 1) := by decide +kernel
theorem dL_law_454 : decode cL_law 454 = .ok (.iload_n 3, 1) := by decide +kernel
theorem dL_law_455 : decode cL_law 455 = .ok (.iconst 3, 1) := by decide +kernel
theorem dL_law_456 : decode cL_law 456 = .ok (.iadd, 1) := by decide +kernel
theorem dL_law_457 : decode cL_law 457 = .ok (.iaload, 1) := by decide +kernel
theorem dL_law_458 : decode cL_law 458 = .ok (.invokevirtual 66, 3) := by decide +kernel
theorem dL_law_461 : decode cL_law 461 = .ok (.if_icmp .eq 424, 3) := by decide +kernel
theorem dL_law_464 : decode cL_law 464 = .ok (.iconst 0, 1) := by decide +kernel
theorem dL_law_465 : decode cL_law 465 = .ok (.ireturn, 1) := by decide +kernel
theorem dL_law_466 : decode cL_law 466 = .ok (.aload_n 1, 1) := by decide +kernel
theorem dL_law_467 : decode cL_law 467 = .ok (.aload_n 0, 1) := by decide +kernel
theorem dL_law_468 : decode cL_law 468 = .ok (.iload_n 3, 1) := by decide +kernel
theorem dL_law_469 : decode cL_law 469 = .ok (.iconst 1, 1) := by decide +kernel
theorem dL_law_470 : decode cL_law 470 = .ok (.iadd, 1) := by decide +kernel
theorem dL_law_471 : decode cL_law 471 = .ok (.iaload, 1) := by decide +kernel
theorem dL_law_472 : decode cL_law 472 = .ok (.aload_n 0, 1) := by decide +kernel
theorem dL_law_473 : decode cL_law 473 = .ok (.iload_n 3, 1) := by decide +kernel
theorem dL_law_474 : decode cL_law 474 = .ok (.iconst 2, 1) := by decide +kernel
theorem dL_law_475 : decode cL_law 475 = .ok (.iadd, 1) := by decide +kernel
theorem dL_law_476 : decode cL_law 476 = .ok (.iaload, 1) := by decide +kernel
theorem dL_law_477 : decode cL_law 477 = .ok (.aload_n 0, 1) := by decide +kernel
theorem dL_law_478 : decode cL_law 478 = .ok (.iload_n 3, 1) := by decide +kernel
theorem dL_law_479 : decode cL_law 479 = .ok (.iconst 3, 1) := by decide +kernel
theorem dL_law_480 : decode cL_law 480 = .ok (.iadd, 1) := by decide +kernel
theorem dL_law_481 : decode cL_law 481 = .ok (.iaload, 1) := by decide +kernel
theorem dL_law_482 : decode cL_law 482 = .ok (.invokevirtual 67, 3) := by decide +kernel
theorem dL_law_485 : decode cL_law 485 = .ok (.aload_n 2, 1) := by decide +kernel
theorem dL_law_486 : decode cL_law 486 = .ok (.aload_n 0, 1) := by decide +kernel
theorem dL_law_487 : decode cL_law 487 = .ok (.iload_n 3, 1) := by decide +kernel
theorem dL_law_488 : decode cL_law 488 = .ok (.iconst 1, 1) := by decide +kernel
theorem dL_law_489 : decode cL_law 489 = .ok (.iadd, 1) := by decide +kernel
theorem dL_law_490 : decode cL_law 490 = .ok (.iaload, 1) := by decide +kernel
theorem dL_law_491 : decode cL_law 491 = .ok (.aload_n 0, 1) := by decide +kernel
theorem dL_law_492 : decode cL_law 492 = .ok (.iload_n 3, 1) := by decide +kernel
theorem dL_law_493 : decode cL_law 493 = .ok (.iconst 2, 1) := by decide +kernel
theorem dL_law_494 : decode cL_law 494 = .ok (.iadd, 1) := by decide +kernel
theorem dL_law_495 : decode cL_law 495 = .ok (.iaload, 1) := by decide +kernel
theorem dL_law_496 : decode cL_law 496 = .ok (.aload_n 0, 1) := by decide +kernel
theorem dL_law_497 : decode cL_law 497 = .ok (.iload_n 3, 1) := by decide +kernel
theorem dL_law_498 : decode cL_law 498 = .ok (.iconst 3, 1) := by decide +kernel
theorem dL_law_499 : decode cL_law 499 = .ok (.iadd, 1) := by decide +kernel
theorem dL_law_500 : decode cL_law 500 = .ok (.iaload, 1) := by decide +kernel
theorem dL_law_501 : decode cL_law 501 = .ok (.invokevirtual 70, 3) := by decide +kernel
theorem dL_law_504 : decode cL_law 504 = .ok (.if_icmp .eq 381, 3) := by decide +kernel
theorem dL_law_507 : decode cL_law 507 = .ok (.iconst 0, 1) := by decide +kernel
theorem dL_law_508 : decode cL_law 508 = .ok (.ireturn, 1) := by decide +kernel
theorem dL_law_509 : decode cL_law 509 = .ok (.aload_n 1, 1) := by decide +kernel
theorem dL_law_510 : decode cL_law 510 = .ok (.aload_n 0, 1) := by decide +kernel
theorem dL_law_511 : decode cL_law 511 = .ok (.iload_n 3, 1) := by decide +kernel
theorem dL_law_512 : decode cL_law 512 = .ok (.iconst 1, 1) := by decide +kernel
theorem dL_law_513 : decode cL_law 513 = .ok (.iadd, 1) := by decide +kernel
theorem dL_law_514 : decode cL_law 514 = .ok (.iaload, 1) := by decide +kernel
theorem dL_law_515 : decode cL_law 515 = .ok (.aload_n 0, 1) := by decide +kernel
theorem dL_law_516 : decode cL_law 516 = .ok (.iload_n 3, 1) := by decide +kernel
theorem dL_law_517 : decode cL_law 517 = .ok (.iconst 2, 1) := by decide +kernel
theorem dL_law_518 : decode cL_law 518 = .ok (.iadd, 1) := by decide +kernel
theorem dL_law_519 : decode cL_law 519 = .ok (.iaload, 1) := by decide +kernel
theorem dL_law_520 : decode cL_law 520 = .ok (.invokevirtual 71, 3) := by decide +kernel
theorem dL_law_523 : decode cL_law 523 = .ok (.aload_n 2, 1) := by decide +kernel
theorem dL_law_524 : decode cL_law 524 = .ok (.aload_n 0, 1) := by decide +kernel
theorem dL_law_525 : decode cL_law 525 = .ok (.iload_n 3, 1) := by decide +kernel
theorem dL_law_526 : decode cL_law 526 = .ok (.iconst 1, 1) := by decide +kernel
theorem dL_law_527 : decode cL_law 527 = .ok (.iadd, 1) := by decide +kernel
theorem dL_law_528 : decode cL_law 528 = .ok (.iaload, 1) := by decide +kernel
theorem dL_law_529 : decode cL_law 529 = .ok (.aload_n 0, 1) := by decide +kernel
theorem dL_law_530 : decode cL_law 530 = .ok (.iload_n 3, 1) := by decide +kernel
theorem dL_law_531 : decode cL_law 531 = .ok (.iconst 2, 1) := by decide +kernel
theorem dL_law_532 : decode cL_law 532 = .ok (.iadd, 1) := by decide +kernel
theorem dL_law_533 : decode cL_law 533 = .ok (.iaload, 1) := by decide +kernel
theorem dL_law_534 : decode cL_law 534 = .ok (.invokevirtual 74, 3) := by decide +kernel
theorem dL_law_537 : decode cL_law 537 = .ok (.if_icmp .eq 348, 3) := by decide +kernel
theorem dL_law_540 : decode cL_law 540 = .ok (.iconst 0, 1) := by decide +kernel
theorem dL_law_541 : decode cL_law 541 = .ok (.ireturn, 1) := by decide +kernel
theorem dL_law_542 : decode cL_law 542 = .ok (.aload_n 1, 1) := by decide +kernel
theorem dL_law_543 : decode cL_law 543 = .ok (.aload_n 0, 1) := by decide +kernel
theorem dL_law_544 : decode cL_law 544 = .ok (.iload_n 3, 1) := by decide +kernel
theorem dL_law_545 : decode cL_law 545 = .ok (.iconst 1, 1) := by decide +kernel
theorem dL_law_546 : decode cL_law 546 = .ok (.iadd, 1) := by decide +kernel
theorem dL_law_547 : decode cL_law 547 = .ok (.iaload, 1) := by decide +kernel
theorem dL_law_548 : decode cL_law 548 = .ok (.aload_n 0, 1) := by decide +kernel
theorem dL_law_549 : decode cL_law 549 = .ok (.iload_n 3, 1) := by decide +kernel
theorem dL_law_550 : decode cL_law 550 = .ok (.iconst 2, 1) := by decide +kernel
theorem dL_law_551 : decode cL_law 551 = .ok (.iadd, 1) := by decide +kernel
theorem dL_law_552 : decode cL_law 552 = .ok (.iaload, 1) := by decide +kernel
theorem dL_law_553 : decode cL_law 553 = .ok (.aload_n 0, 1) := by decide +kernel
theorem dL_law_554 : decode cL_law 554 = .ok (.iload_n 3, 1) := by decide +kernel
theorem dL_law_555 : decode cL_law 555 = .ok (.iconst 3, 1) := by decide +kernel
theorem dL_law_556 : decode cL_law 556 = .ok (.iadd, 1) := by decide +kernel
theorem dL_law_557 : decode cL_law 557 = .ok (.iaload, 1) := by decide +kernel
theorem dL_law_558 : decode cL_law 558 = .ok (.aload_n 0, 1) := by decide +kernel
theorem dL_law_559 : decode cL_law 559 = .ok (.iload_n 3, 1) := by decide +kernel
theorem dL_law_560 : decode cL_law 560 = .ok (.iconst 4, 1) := by decide +kernel
theorem dL_law_561 : decode cL_law 561 = .ok (.iadd, 1) := by decide +kernel
theorem dL_law_562 : decode cL_law 562 = .ok (.iaload, 1) := by decide +kernel
theorem dL_law_563 : decode cL_law 563 = .ok (.invokevirtual 75, 3) := by decide +kernel
theorem dL_law_566 : decode cL_law 566 = .ok (.aload_n 2, 1) := by decide +kernel
theorem dL_law_567 : decode cL_law 567 = .ok (.aload_n 0, 1) := by decide +kernel
theorem dL_law_568 : decode cL_law 568 = .ok (.iload_n 3, 1) := by decide +kernel
theorem dL_law_569 : decode cL_law 569 = .ok (.iconst 1, 1) := by decide +kernel
theorem dL_law_570 : decode cL_law 570 = .ok (.iadd, 1) := by decide +kernel
theorem dL_law_571 : decode cL_law 571 = .ok (.iaload, 1) := by decide +kernel
theorem dL_law_572 : decode cL_law 572 = .ok (.aload_n 0, 1) := by decide +kernel
theorem dL_law_573 : decode cL_law 573 = .ok (.iload_n 3, 1) := by decide +kernel
theorem dL_law_574 : decode cL_law 574 = .ok (.iconst 2, 1) := by decide +kernel
theorem dL_law_575 : decode cL_law 575 = .ok (.iadd, 1) := by decide +kernel
theorem dL_law_576 : decode cL_law 576 = .ok (.iaload, 1) := by decide +kernel
theorem dL_law_577 : decode cL_law 577 = .ok (.aload_n 0, 1) := by decide +kernel
theorem dL_law_578 : decode cL_law 578 = .ok (.iload_n 3, 1) := by decide +kernel
theorem dL_law_579 : decode cL_law 579 = .ok (.iconst 3, 1) := by decide +kernel
theorem dL_law_580 : decode cL_law 580 = .ok (.iadd, 1) := by decide +kernel
theorem dL_law_581 : decode cL_law 581 = .ok (.iaload, 1) := by decide +kernel
theorem dL_law_582 : decode cL_law 582 = .ok (.aload_n 0, 1) := by decide +kernel
theorem dL_law_583 : decode cL_law 583 = .ok (.iload_n 3, 1) := by decide +kernel
theorem dL_law_584 : decode cL_law 584 = .ok (.iconst 4, 1) := by decide +kernel
theorem dL_law_585 : decode cL_law 585 = .ok (.iadd, 1) := by decide +kernel
theorem dL_law_586 : decode cL_law 586 = .ok (.iaload, 1) := by decide +kernel
theorem dL_law_587 : decode cL_law 587 = .ok (.invokevirtual 79, 3) := by decide +kernel
theorem dL_law_590 : decode cL_law 590 = .ok (.if_icmp .eq 295, 3) := by decide +kernel
theorem dL_law_593 : decode cL_law 593 = .ok (.iconst 0, 1) := by decide +kernel
theorem dL_law_594 : decode cL_law 594 = .ok (.ireturn, 1) := by decide +kernel
theorem dL_law_595 : decode cL_law 595 = .ok (.aload_n 1, 1) := by decide +kernel
theorem dL_law_596 : decode cL_law 596 = .ok (.aload_n 0, 1) := by decide +kernel
theorem dL_law_597 : decode cL_law 597 = .ok (.iload_n 3, 1) := by decide +kernel
theorem dL_law_598 : decode cL_law 598 = .ok (.iconst 1, 1) := by decide +kernel
theorem dL_law_599 : decode cL_law 599 = .ok (.iadd, 1) := by decide +kernel
theorem dL_law_600 : decode cL_law 600 = .ok (.iaload, 1) := by decide +kernel
theorem dL_law_601 : decode cL_law 601 = .ok (.aload_n 0, 1) := by decide +kernel
theorem dL_law_602 : decode cL_law 602 = .ok (.iload_n 3, 1) := by decide +kernel
theorem dL_law_603 : decode cL_law 603 = .ok (.iconst 2, 1) := by decide +kernel
theorem dL_law_604 : decode cL_law 604 = .ok (.iadd, 1) := by decide +kernel
theorem dL_law_605 : decode cL_law 605 = .ok (.iaload, 1) := by decide +kernel
theorem dL_law_606 : decode cL_law 606 = .ok (.invokevirtual 80, 3) := by decide +kernel
theorem dL_law_609 : decode cL_law 609 = .ok (.aload_n 2, 1) := by decide +kernel
theorem dL_law_610 : decode cL_law 610 = .ok (.aload_n 0, 1) := by decide +kernel
theorem dL_law_611 : decode cL_law 611 = .ok (.iload_n 3, 1) := by decide +kernel
theorem dL_law_612 : decode cL_law 612 = .ok (.iconst 1, 1) := by decide +kernel
theorem dL_law_613 : decode cL_law 613 = .ok (.iadd, 1) := by decide +kernel
theorem dL_law_614 : decode cL_law 614 = .ok (.iaload, 1) := by decide +kernel
theorem dL_law_615 : decode cL_law 615 = .ok (.aload_n 0, 1) := by decide +kernel
theorem dL_law_616 : decode cL_law 616 = .ok (.iload_n 3, 1) := by decide +kernel
theorem dL_law_617 : decode cL_law 617 = .ok (.iconst 2, 1) := by decide +kernel
theorem dL_law_618 : decode cL_law 618 = .ok (.iadd, 1) := by decide +kernel
theorem dL_law_619 : decode cL_law 619 = .ok (.iaload, 1) := by decide +kernel
theorem dL_law_620 : decode cL_law 620 = .ok (.invokevirtual 83, 3) := by decide +kernel
theorem dL_law_623 : decode cL_law 623 = .ok (.if_icmp .eq 262, 3) := by decide +kernel
theorem dL_law_626 : decode cL_law 626 = .ok (.iconst 0, 1) := by decide +kernel
theorem dL_law_627 : decode cL_law 627 = .ok (.ireturn, 1) := by decide +kernel
theorem dL_law_628 : decode cL_law 628 = .ok (.aload_n 1, 1) := by decide +kernel
theorem dL_law_629 : decode cL_law 629 = .ok (.aload_n 0, 1) := by decide +kernel
theorem dL_law_630 : decode cL_law 630 = .ok (.iload_n 3, 1) := by decide +kernel
theorem dL_law_631 : decode cL_law 631 = .ok (.iconst 1, 1) := by decide +kernel
theorem dL_law_632 : decode cL_law 632 = .ok (.iadd, 1) := by decide +kernel
theorem dL_law_633 : decode cL_law 633 = .ok (.iaload, 1) := by decide +kernel
theorem dL_law_634 : decode cL_law 634 = .ok (.aload_n 0, 1) := by decide +kernel
theorem dL_law_635 : decode cL_law 635 = .ok (.iload_n 3, 1) := by decide +kernel
theorem dL_law_636 : decode cL_law 636 = .ok (.iconst 2, 1) := by decide +kernel
theorem dL_law_637 : decode cL_law 637 = .ok (.iadd, 1) := by decide +kernel
theorem dL_law_638 : decode cL_law 638 = .ok (.iaload, 1) := by decide +kernel
theorem dL_law_639 : decode cL_law 639 = .ok (.aload_n 0, 1) := by decide +kernel
theorem dL_law_640 : decode cL_law 640 = .ok (.iload_n 3, 1) := by decide +kernel
theorem dL_law_641 : decode cL_law 641 = .ok (.iconst 3, 1) := by decide +kernel
theorem dL_law_642 : decode cL_law 642 = .ok (.iadd, 1) := by decide +kernel
theorem dL_law_643 : decode cL_law 643 = .ok (.iaload, 1) := by decide +kernel
theorem dL_law_644 : decode cL_law 644 = .ok (.aload_n 0, 1) := by decide +kernel
theorem dL_law_645 : decode cL_law 645 = .ok (.iload_n 3, 1) := by decide +kernel
theorem dL_law_646 : decode cL_law 646 = .ok (.iconst 4, 1) := by decide +kernel
theorem dL_law_647 : decode cL_law 647 = .ok (.iadd, 1) := by decide +kernel
theorem dL_law_648 : decode cL_law 648 = .ok (.iaload, 1) := by decide +kernel
theorem dL_law_649 : decode cL_law 649 = .ok (.invokevirtual 84, 3) := by decide +kernel
theorem dL_law_652 : decode cL_law 652 = .ok (.aload_n 2, 1) := by decide +kernel
theorem dL_law_653 : decode cL_law 653 = .ok (.aload_n 0, 1) := by decide +kernel
theorem dL_law_654 : decode cL_law 654 = .ok (.iload_n 3, 1) := by decide +kernel
theorem dL_law_655 : decode cL_law 655 = .ok (.iconst 1, 1) := by decide +kernel
theorem dL_law_656 : decode cL_law 656 = .ok (.iadd, 1) := by decide +kernel
theorem dL_law_657 : decode cL_law 657 = .ok (.iaload, 1) := by decide +kernel
theorem dL_law_658 : decode cL_law 658 = .ok (.aload_n 0, 1) := by decide +kernel
theorem dL_law_659 : decode cL_law 659 = .ok (.iload_n 3, 1) := by decide +kernel
theorem dL_law_660 : decode cL_law 660 = .ok (.iconst 2, 1) := by decide +kernel
theorem dL_law_661 : decode cL_law 661 = .ok (.iadd, 1) := by decide +kernel
theorem dL_law_662 : decode cL_law 662 = .ok (.iaload, 1) := by decide +kernel
theorem dL_law_663 : decode cL_law 663 = .ok (.aload_n 0, 1) := by decide +kernel
theorem dL_law_664 : decode cL_law 664 = .ok (.iload_n 3, 1) := by decide +kernel
theorem dL_law_665 : decode cL_law 665 = .ok (.iconst 3, 1) := by decide +kernel
theorem dL_law_666 : decode cL_law 666 = .ok (.iadd, 1) := by decide +kernel
theorem dL_law_667 : decode cL_law 667 = .ok (.iaload, 1) := by decide +kernel
theorem dL_law_668 : decode cL_law 668 = .ok (.aload_n 0, 1) := by decide +kernel
theorem dL_law_669 : decode cL_law 669 = .ok (.iload_n 3, 1) := by decide +kernel
theorem dL_law_670 : decode cL_law 670 = .ok (.iconst 4, 1) := by decide +kernel
theorem dL_law_671 : decode cL_law 671 = .ok (.iadd, 1) := by decide +kernel
theorem dL_law_672 : decode cL_law 672 = .ok (.iaload, 1) := by decide +kernel
theorem dL_law_673 : decode cL_law 673 = .ok (.invokevirtual 87, 3) := by decide +kernel
theorem dL_law_676 : decode cL_law 676 = .ok (.if_icmp .eq 209, 3) := by decide +kernel
theorem dL_law_679 : decode cL_law 679 = .ok (.iconst 0, 1) := by decide +kernel
theorem dL_law_680 : decode cL_law 680 = .ok (.ireturn, 1) := by decide +kernel
theorem dL_law_681 : decode cL_law 681 = .ok (.aload_n 1, 1) := by decide +kernel
theorem dL_law_682 : decode cL_law 682 = .ok (.aload_n 0, 1) := by decide +kernel
theorem dL_law_683 : decode cL_law 683 = .ok (.iload_n 3, 1) := by decide +kernel
theorem dL_law_684 : decode cL_law 684 = .ok (.iconst 1, 1) := by decide +kernel
theorem dL_law_685 : decode cL_law 685 = .ok (.iadd, 1) := by decide +kernel
theorem dL_law_686 : decode cL_law 686 = .ok (.iaload, 1) := by decide +kernel
theorem dL_law_687 : decode cL_law 687 = .ok (.invokevirtual 88, 3) := by decide +kernel
theorem dL_law_690 : decode cL_law 690 = .ok (.aload_n 2, 1) := by decide +kernel
theorem dL_law_691 : decode cL_law 691 = .ok (.aload_n 0, 1) := by decide +kernel
theorem dL_law_692 : decode cL_law 692 = .ok (.iload_n 3, 1) := by decide +kernel
theorem dL_law_693 : decode cL_law 693 = .ok (.iconst 1, 1) := by decide +kernel
theorem dL_law_694 : decode cL_law 694 = .ok (.iadd, 1) := by decide +kernel
theorem dL_law_695 : decode cL_law 695 = .ok (.iaload, 1) := by decide +kernel
theorem dL_law_696 : decode cL_law 696 = .ok (.invokevirtual 91, 3) := by decide +kernel
theorem dL_law_699 : decode cL_law 699 = .ok (.if_icmp .eq 186, 3) := by decide +kernel
theorem dL_law_702 : decode cL_law 702 = .ok (.iconst 0, 1) := by decide +kernel
theorem dL_law_703 : decode cL_law 703 = .ok (.ireturn, 1) := by decide +kernel
theorem dL_law_704 : decode cL_law 704 = .ok (.aload_n 1, 1) := by decide +kernel
theorem dL_law_705 : decode cL_law 705 = .ok (.aload_n 0, 1) := by decide +kernel
theorem dL_law_706 : decode cL_law 706 = .ok (.iload_n 3, 1) := by decide +kernel
theorem dL_law_707 : decode cL_law 707 = .ok (.iconst 1, 1) := by decide +kernel
theorem dL_law_708 : decode cL_law 708 = .ok (.iadd, 1) := by decide +kernel
theorem dL_law_709 : decode cL_law 709 = .ok (.iaload, 1) := by decide +kernel
theorem dL_law_710 : decode cL_law 710 = .ok (.invokevirtual 92, 3) := by decide +kernel
theorem dL_law_713 : decode cL_law 713 = .ok (.aload_n 2, 1) := by decide +kernel
theorem dL_law_714 : decode cL_law 714 = .ok (.aload_n 0, 1) := by decide +kernel
theorem dL_law_715 : decode cL_law 715 = .ok (.iload_n 3, 1) := by decide +kernel
theorem dL_law_716 : decode cL_law 716 = .ok (.iconst 1, 1) := by decide +kernel
theorem dL_law_717 : decode cL_law 717 = .ok (.iadd, 1) := by decide +kernel
theorem dL_law_718 : decode cL_law 718 = .ok (.iaload, 1) := by decide +kernel
theorem dL_law_719 : decode cL_law 719 = .ok (.invokevirtual 95, 3) := by decide +kernel
theorem dL_law_722 : decode cL_law 722 = .ok (.if_icmp .eq 163, 3) := by decide +kernel
theorem dL_law_725 : decode cL_law 725 = .ok (.iconst 0, 1) := by decide +kernel
theorem dL_law_726 : decode cL_law 726 = .ok (.ireturn, 1) := by decide +kernel
theorem dL_law_727 : decode cL_law 727 = .ok (.aload_n 1, 1) := by decide +kernel
theorem dL_law_728 : decode cL_law 728 = .ok (.aload_n 0, 1) := by decide +kernel
theorem dL_law_729 : decode cL_law 729 = .ok (.iload_n 3, 1) := by decide +kernel
theorem dL_law_730 : decode cL_law 730 = .ok (.iconst 1, 1) := by decide +kernel
theorem dL_law_731 : decode cL_law 731 = .ok (.iadd, 1) := by decide +kernel
theorem dL_law_732 : decode cL_law 732 = .ok (.iaload, 1) := by decide +kernel
theorem dL_law_733 : decode cL_law 733 = .ok (.aload_n 0, 1) := by decide +kernel
theorem dL_law_734 : decode cL_law 734 = .ok (.iload_n 3, 1) := by decide +kernel
theorem dL_law_735 : decode cL_law 735 = .ok (.iconst 2, 1) := by decide +kernel
theorem dL_law_736 : decode cL_law 736 = .ok (.iadd, 1) := by decide +kernel
theorem dL_law_737 : decode cL_law 737 = .ok (.iaload, 1) := by decide +kernel
theorem dL_law_738 : decode cL_law 738 = .ok (.invokevirtual 96, 3) := by decide +kernel
theorem dL_law_741 : decode cL_law 741 = .ok (.aload_n 2, 1) := by decide +kernel
theorem dL_law_742 : decode cL_law 742 = .ok (.aload_n 0, 1) := by decide +kernel
theorem dL_law_743 : decode cL_law 743 = .ok (.iload_n 3, 1) := by decide +kernel
theorem dL_law_744 : decode cL_law 744 = .ok (.iconst 1, 1) := by decide +kernel
theorem dL_law_745 : decode cL_law 745 = .ok (.iadd, 1) := by decide +kernel
theorem dL_law_746 : decode cL_law 746 = .ok (.iaload, 1) := by decide +kernel
theorem dL_law_747 : decode cL_law 747 = .ok (.aload_n 0, 1) := by decide +kernel
theorem dL_law_748 : decode cL_law 748 = .ok (.iload_n 3, 1) := by decide +kernel
theorem dL_law_749 : decode cL_law 749 = .ok (.iconst 2, 1) := by decide +kernel
theorem dL_law_750 : decode cL_law 750 = .ok (.iadd, 1) := by decide +kernel
theorem dL_law_751 : decode cL_law 751 = .ok (.iaload, 1) := by decide +kernel
theorem dL_law_752 : decode cL_law 752 = .ok (.invokevirtual 99, 3) := by decide +kernel
theorem dL_law_755 : decode cL_law 755 = .ok (.if_icmp .eq 130, 3) := by decide +kernel
theorem dL_law_758 : decode cL_law 758 = .ok (.iconst 0, 1) := by decide +kernel
theorem dL_law_759 : decode cL_law 759 = .ok (.ireturn, 1) := by decide +kernel
theorem dL_law_760 : decode cL_law 760 = .ok (.aload_n 1, 1) := by decide +kernel
theorem dL_law_761 : decode cL_law 761 = .ok (.aload_n 0, 1) := by decide +kernel
theorem dL_law_762 : decode cL_law 762 = .ok (.iload_n 3, 1) := by decide +kernel
theorem dL_law_763 : decode cL_law 763 = .ok (.iconst 1, 1) := by decide +kernel
theorem dL_law_764 : decode cL_law 764 = .ok (.iadd, 1) := by decide +kernel
theorem dL_law_765 : decode cL_law 765 = .ok (.iaload, 1) := by decide +kernel
theorem dL_law_766 : decode cL_law 766 = .ok (.aload_n 0, 1) := by decide +kernel
theorem dL_law_767 : decode cL_law 767 = .ok (.iload_n 3, 1) := by decide +kernel
theorem dL_law_768 : decode cL_law 768 = .ok (.iconst 2, 1) := by decide +kernel
theorem dL_law_769 : decode cL_law 769 = .ok (.iadd, 1) := by decide +kernel
theorem dL_law_770 : decode cL_law 770 = .ok (.iaload, 1) := by decide +kernel
theorem dL_law_771 : decode cL_law 771 = .ok (.ifCond .eq 7, 3) := by decide +kernel
theorem dL_law_774 : decode cL_law 774 = .ok (.iconst 1, 1) := by decide +kernel
theorem dL_law_775 : decode cL_law 775 = .ok (.goto 4, 3) := by decide +kernel
theorem dL_law_778 : decode cL_law 778 = .ok (.iconst 0, 1) := by decide +kernel
theorem dL_law_779 : decode cL_law 779 = .ok (.invokevirtual 100, 3) := by decide +kernel
theorem dL_law_782 : decode cL_law 782 = .ok (.aload_n 2, 1) := by decide +kernel
theorem dL_law_783 : decode cL_law 783 = .ok (.aload_n 0, 1) := by decide +kernel
theorem dL_law_784 : decode cL_law 784 = .ok (.iload_n 3, 1) := by decide +kernel
theorem dL_law_785 : decode cL_law 785 = .ok (.iconst 1, 1) := by decide +kernel
theorem dL_law_786 : decode cL_law 786 = .ok (.iadd, 1) := by decide +kernel
theorem dL_law_787 : decode cL_law 787 = .ok (.iaload, 1) := by decide +kernel
theorem dL_law_788 : decode cL_law 788 = .ok (.aload_n 0, 1) := by decide +kernel
theorem dL_law_789 : decode cL_law 789 = .ok (.iload_n 3, 1) := by decide +kernel
theorem dL_law_790 : decode cL_law 790 = .ok (.iconst 2, 1) := by decide +kernel
theorem dL_law_791 : decode cL_law 791 = .ok (.iadd, 1) := by decide +kernel
theorem dL_law_792 : decode cL_law 792 = .ok (.iaload, 1) := by decide +kernel
theorem dL_law_793 : decode cL_law 793 = .ok (.ifCond .eq 7, 3) := by decide +kernel
theorem dL_law_796 : decode cL_law 796 = .ok (.iconst 1, 1) := by decide +kernel
theorem dL_law_797 : decode cL_law 797 = .ok (.goto 4, 3) := by decide +kernel
theorem dL_law_800 : decode cL_law 800 = .ok (.iconst 0, 1) := by decide +kernel
theorem dL_law_801 : decode cL_law 801 = .ok (.invokevirtual 104, 3) := by decide +kernel
theorem dL_law_804 : decode cL_law 804 = .ok (.if_icmp .eq 81, 3) := by decide +kernel
theorem dL_law_807 : decode cL_law 807 = .ok (.iconst 0, 1) := by decide +kernel
theorem dL_law_808 : decode cL_law 808 = .ok (.ireturn, 1) := by decide +kernel
theorem dL_law_809 : decode cL_law 809 = .ok (.aload_n 1, 1) := by decide +kernel
theorem dL_law_810 : decode cL_law 810 = .ok (.aload_n 0, 1) := by decide +kernel
theorem dL_law_811 : decode cL_law 811 = .ok (.iload_n 3, 1) := by decide +kernel
theorem dL_law_812 : decode cL_law 812 = .ok (.iconst 1, 1) := by decide +kernel
theorem dL_law_813 : decode cL_law 813 = .ok (.iadd, 1) := by decide +kernel
theorem dL_law_814 : decode cL_law 814 = .ok (.iaload, 1) := by decide +kernel
theorem dL_law_815 : decode cL_law 815 = .ok (.aload_n 0, 1) := by decide +kernel
theorem dL_law_816 : decode cL_law 816 = .ok (.iload_n 3, 1) := by decide +kernel
theorem dL_law_817 : decode cL_law 817 = .ok (.iconst 2, 1) := by decide +kernel
theorem dL_law_818 : decode cL_law 818 = .ok (.iadd, 1) := by decide +kernel
theorem dL_law_819 : decode cL_law 819 = .ok (.iaload, 1) := by decide +kernel
theorem dL_law_820 : decode cL_law 820 = .ok (.aload_n 0, 1) := by decide +kernel
theorem dL_law_821 : decode cL_law 821 = .ok (.iload_n 3, 1) := by decide +kernel
theorem dL_law_822 : decode cL_law 822 = .ok (.iconst 3, 1) := by decide +kernel
theorem dL_law_823 : decode cL_law 823 = .ok (.iadd, 1) := by decide +kernel
theorem dL_law_824 : decode cL_law 824 = .ok (.iaload, 1) := by decide +kernel
theorem dL_law_825 : decode cL_law 825 = .ok (.aload_n 0, 1) := by decide +kernel
theorem dL_law_826 : decode cL_law 826 = .ok (.iload_n 3, 1) := by decide +kernel
theorem dL_law_827 : decode cL_law 827 = .ok (.iconst 4, 1) := by decide +kernel
theorem dL_law_828 : decode cL_law 828 = .ok (.iadd, 1) := by decide +kernel
theorem dL_law_829 : decode cL_law 829 = .ok (.iaload, 1) := by decide +kernel
theorem dL_law_830 : decode cL_law 830 = .ok (.invokevirtual 105, 3) := by decide +kernel
theorem dL_law_833 : decode cL_law 833 = .ok (.aload_n 2, 1) := by decide +kernel
theorem dL_law_834 : decode cL_law 834 = .ok (.aload_n 0, 1) := by decide +kernel
theorem dL_law_835 : decode cL_law 835 = .ok (.iload_n 3, 1) := by decide +kernel
theorem dL_law_836 : decode cL_law 836 = .ok (.iconst 1, 1) := by decide +kernel
theorem dL_law_837 : decode cL_law 837 = .ok (.iadd, 1) := by decide +kernel
theorem dL_law_838 : decode cL_law 838 = .ok (.iaload, 1) := by decide +kernel
theorem dL_law_839 : decode cL_law 839 = .ok (.aload_n 0, 1) := by decide +kernel
theorem dL_law_840 : decode cL_law 840 = .ok (.iload_n 3, 1) := by decide +kernel
theorem dL_law_841 : decode cL_law 841 = .ok (.iconst 2, 1) := by decide +kernel
theorem dL_law_842 : decode cL_law 842 = .ok (.iadd, 1) := by decide +kernel
theorem dL_law_843 : decode cL_law 843 = .ok (.iaload, 1) := by decide +kernel
theorem dL_law_844 : decode cL_law 844 = .ok (.aload_n 0, 1) := by decide +kernel
theorem dL_law_845 : decode cL_law 845 = .ok (.iload_n 3, 1) := by decide +kernel
theorem dL_law_846 : decode cL_law 846 = .ok (.iconst 3, 1) := by decide +kernel
theorem dL_law_847 : decode cL_law 847 = .ok (.iadd, 1) := by decide +kernel
theorem dL_law_848 : decode cL_law 848 = .ok (.iaload, 1) := by decide +kernel
theorem dL_law_849 : decode cL_law 849 = .ok (.aload_n 0, 1) := by decide +kernel
theorem dL_law_850 : decode cL_law 850 = .ok (.iload_n 3, 1) := by decide +kernel
theorem dL_law_851 : decode cL_law 851 = .ok (.iconst 4, 1) := by decide +kernel
theorem dL_law_852 : decode cL_law 852 = .ok (.iadd, 1) := by decide +kernel
theorem dL_law_853 : decode cL_law 853 = .ok (.iaload, 1) := by decide +kernel
theorem dL_law_854 : decode cL_law 854 = .ok (.invokevirtual 108, 3) := by decide +kernel
theorem dL_law_857 : decode cL_law 857 = .ok (.if_icmp .eq 28, 3) := by decide +kernel
theorem dL_law_860 : decode cL_law 860 = .ok (.iconst 0, 1) := by decide +kernel
theorem dL_law_861 : decode cL_law 861 = .ok (.ireturn, 1) := by decide +kernel
theorem dL_law_862 : decode cL_law 862 = .ok (.aload_n 1, 1) := by decide +kernel
theorem dL_law_863 : decode cL_law 863 = .ok (.aload_n 0, 1) := by decide +kernel
theorem dL_law_864 : decode cL_law 864 = .ok (.iload_n 3, 1) := by decide +kernel
theorem dL_law_865 : decode cL_law 865 = .ok (.iconst 1, 1) := by decide +kernel
theorem dL_law_866 : decode cL_law 866 = .ok (.iadd, 1) := by decide +kernel
theorem dL_law_867 : decode cL_law 867 = .ok (.iaload, 1) := by decide +kernel
theorem dL_law_868 : decode cL_law 868 = .ok (.invokevirtual 109, 3) := by decide +kernel
theorem dL_law_871 : decode cL_law 871 = .ok (.aload_n 2, 1) := by decide +kernel
theorem dL_law_872 : decode cL_law 872 = .ok (.aload_n 0, 1) := by decide +kernel
theorem dL_law_873 : decode cL_law 873 = .ok (.iload_n 3, 1) := by decide +kernel
theorem dL_law_874 : decode cL_law 874 = .ok (.iconst 1, 1) := by decide +kernel
theorem dL_law_875 : decode cL_law 875 = .ok (.iadd, 1) := by decide +kernel
theorem dL_law_876 : decode cL_law 876 = .ok (.iaload, 1) := by decide +kernel
theorem dL_law_877 : decode cL_law 877 = .ok (.invokevirtual 112, 3) := by decide +kernel
theorem dL_law_880 : decode cL_law 880 = .ok (.if_icmp .eq 5, 3) := by decide +kernel
theorem dL_law_883 : decode cL_law 883 = .ok (.iconst 0, 1) := by decide +kernel
theorem dL_law_884 : decode cL_law 884 = .ok (.ireturn, 1) := by decide +kernel
theorem dL_law_885 : decode cL_law 885 = .ok (.iinc 3 6, 3) := by decide +kernel
theorem dL_law_888 : decode cL_law 888 = .ok (.goto (-870), 3) := by decide +kernel
theorem dL_law_891 : decode cL_law 891 = .ok (.iconst 1, 1) := by decide +kernel
theorem dL_law_892 : decode cL_law 892 = .ok (.ireturn, 1) := by decide +kernel
def fL_law_b885 (xs : Nat → Int32) (LL : Nat) (rec18 : Option Nat → Option Nat → Int32 → JM → JO (Unit)) (p1 : Option Nat) (p2 : Option Nat) (x3 : Int32) (μ : JM) : JO (Unit) := rec18 p1 p2 (x3 + (6 : Int32)) μ
set_option maxHeartbeats 4000000 in
set_option maxRecDepth 100000 in
theorem gL_law_b885 {p : Program} {l : Launch} {e : Env} {s : State} {mm : MethodId} {below : List Frame} {meth : Method} {co : Code} {b0 LL b : Nat} {xs : Nat → Int32} {r : Unit} {ν : JM} (X : jX b (lwT p l e s mm below meth co b0) RL code 4 ret 12 462 600000 7302250) (hX : va_X b0 LL xs s s.heap) (hb0 : b0 < s.heap.size) (hbb : b = s.heap.size) {rec18 : Option Nat → Option Nat → Int32 → JM → JO (Unit)} (hrec18 : ∀ (p1 : Option Nat) (p2 : Option Nat) (x3 : Int32) (μ : JM) (c m k n : Nat), rec18 p1 p2 x3 μ = some (r, ν, c, m) → k + c ≤ 600000 → n + m ≤ 7302250 → WA b (lwT p l e s mm below meth co b0) 4 (lw_Z below #[Value.ref b0] s) μ k n 18 [(0, va_rf (some b0)), (1, va_rf p1), (2, va_rf p2), (3, .int x3)] []) (p1 : Option Nat) (p2 : Option Nat) (x3 : Int32) (μ : JM) (c m k n : Nat) (hf : fL_law_b885 xs LL rec18 p1 p2 x3 μ = some (r, ν, c, m)) (hk : k + c ≤ 600000) (hn : n + m ≤ 7302250) : WA b (lwT p l e s mm below meth co b0) 4 (lw_Z below #[Value.ref b0] s) μ k n 885 [(0, va_rf (some b0)), (1, va_rf p1), (2, va_rf p2), (3, .int x3)] [] := by
  rw [fL_law_b885] at hf
  refine wa_iinc (v := (x3 + (6 : Int32))) (L2 := [(3, .int (x3 + (6 : Int32))), (0, va_rf (some b0)), (1, va_rf p1), (2, va_rf p2)]) X 3 dL_law_885 rfl rfl (by decide) (by first | rfl | simp [va_rf_cat, cat_i, cat_l]) ?_
  refine wa_goto (tgt := 18) X dL_law_888 (by decide) ?_
  refine wa_sub (L2 := [(0, va_rf (some b0)), (1, va_rf p1), (2, va_rf p2), (3, .int (x3 + (6 : Int32)))]) [1, 2, 3, 0] rfl ?_
  exact hrec18 p1 p2 (x3 + (6 : Int32)) μ _ _ _ _ hf (by omega) (by omega)
def fL_law_b801 (xs : Nat → Int32) (LL : Nat) (rec18 : Option Nat → Option Nat → Int32 → JM → JO (Unit)) (p1 : Option Nat) (p2 : Option Nat) (x3 : Int32) (s0 : Int32) (s1 : Int32) (s2 : Option Nat) (s3 : Int32) (μ : JM) : JO (Unit) := jde s2 fun q712 => jck ((jT μ q712).1 == 12) <| jcl (fX11_free q712 s1 s0 μ) fun r715 μ716 => if s3 = r715 then (fL_law_b885 xs LL rec18 p1 p2 x3 μ716) else (none)
set_option maxHeartbeats 4000000 in
set_option maxRecDepth 100000 in
theorem gL_law_b801 {p : Program} {l : Launch} {e : Env} {s : State} {mm : MethodId} {below : List Frame} {meth : Method} {co : Code} {b0 LL b : Nat} {xs : Nat → Int32} {r : Unit} {ν : JM} (X : jX b (lwT p l e s mm below meth co b0) RL code 4 ret 12 462 600000 7302250) (hX : va_X b0 LL xs s s.heap) (hb0 : b0 < s.heap.size) (hbb : b = s.heap.size) {rec18 : Option Nat → Option Nat → Int32 → JM → JO (Unit)} (hrec18 : ∀ (p1 : Option Nat) (p2 : Option Nat) (x3 : Int32) (μ : JM) (c m k n : Nat), rec18 p1 p2 x3 μ = some (r, ν, c, m) → k + c ≤ 600000 → n + m ≤ 7302250 → WA b (lwT p l e s mm below meth co b0) 4 (lw_Z below #[Value.ref b0] s) μ k n 18 [(0, va_rf (some b0)), (1, va_rf p1), (2, va_rf p2), (3, .int x3)] []) (p1 : Option Nat) (p2 : Option Nat) (x3 : Int32) (s0 : Int32) (s1 : Int32) (s2 : Option Nat) (s3 : Int32) (μ : JM) (c m k n : Nat) (hf : fL_law_b801 xs LL rec18 p1 p2 x3 s0 s1 s2 s3 μ = some (r, ν, c, m)) (hk : k + c ≤ 600000) (hn : n + m ≤ 7302250) : WA b (lwT p l e s mm below meth co b0) 4 (lw_Z below #[Value.ref b0] s) μ k n 801 [(0, va_rf (some b0)), (1, va_rf p1), (2, va_rf p2), (3, .int x3)] [.int s0, .int s1, va_rf s2, .int s3] := by
  rw [fL_law_b801] at hf
  obtain ⟨q712, h713, hf⟩ := jde_some hf
  obtain ⟨h714, hf⟩ := jckT hf
  obtain ⟨r715, μ716, c717, m718, c719, m720, e721, hf, h722, h723⟩ := jcl_some hf
  refine wa_rcallV (st2 := [.int r715, .int s3]) X dL_law_801 lmL_104 lMX11_free h713 h714 (mX11_free e721) rfl rfl rfl (va_cats (Nat.le_of_ble_eq_true rfl)) (by decide) (by omega) (by omega) ?_
  refine wa_iceq (tgt := 885) X dL_law_804 (by decide) (fun h724 => ?_) (fun h724 => ?_)
  · rw [if_pos h724] at hf
    refine wa_sub (L2 := [(0, va_rf (some b0)), (1, va_rf p1), (2, va_rf p2), (3, .int x3)]) [0, 1, 2, 3] rfl ?_
    exact gL_law_b885 X hX hb0 hbb hrec18 p1 p2 x3 μ716 _ _ _ _ hf (by omega) (by omega)
  · rw [if_neg h724] at hf
    refine wa_iconst (v := (0 : Int32)) X dL_law_807 (by decide) ?_
    cases hf
def fL_law_b779 (xs : Nat → Int32) (LL : Nat) (rec18 : Option Nat → Option Nat → Int32 → JM → JO (Unit)) (p1 : Option Nat) (p2 : Option Nat) (x3 : Int32) (s0 : Int32) (s1 : Int32) (s2 : Option Nat) (μ : JM) : JO (Unit) := jde s2 fun q697 => jck ((jT μ q697).1 == 11) <| jcl (fX10_free q697 s1 s0 μ) fun r700 μ701 => jck (jin (x3 + (1 : Int32)) LL) <| jck (jin (x3 + (2 : Int32)) LL) <| if (xs ((x3 + (2 : Int32))).toNatClampNeg) = 0 then (fL_law_b801 xs LL rec18 p1 p2 x3 (0 : Int32) (xs ((x3 + (1 : Int32))).toNatClampNeg) p2 r700 μ701) else (fL_law_b801 xs LL rec18 p1 p2 x3 (1 : Int32) (xs ((x3 + (1 : Int32))).toNatClampNeg) p2 r700 μ701)
set_option maxHeartbeats 4000000 in
set_option maxRecDepth 100000 in
theorem gL_law_b779 {p : Program} {l : Launch} {e : Env} {s : State} {mm : MethodId} {below : List Frame} {meth : Method} {co : Code} {b0 LL b : Nat} {xs : Nat → Int32} {r : Unit} {ν : JM} (X : jX b (lwT p l e s mm below meth co b0) RL code 4 ret 12 462 600000 7302250) (hX : va_X b0 LL xs s s.heap) (hb0 : b0 < s.heap.size) (hbb : b = s.heap.size) {rec18 : Option Nat → Option Nat → Int32 → JM → JO (Unit)} (hrec18 : ∀ (p1 : Option Nat) (p2 : Option Nat) (x3 : Int32) (μ : JM) (c m k n : Nat), rec18 p1 p2 x3 μ = some (r, ν, c, m) → k + c ≤ 600000 → n + m ≤ 7302250 → WA b (lwT p l e s mm below meth co b0) 4 (lw_Z below #[Value.ref b0] s) μ k n 18 [(0, va_rf (some b0)), (1, va_rf p1), (2, va_rf p2), (3, .int x3)] []) (p1 : Option Nat) (p2 : Option Nat) (x3 : Int32) (s0 : Int32) (s1 : Int32) (s2 : Option Nat) (μ : JM) (c m k n : Nat) (hf : fL_law_b779 xs LL rec18 p1 p2 x3 s0 s1 s2 μ = some (r, ν, c, m)) (hk : k + c ≤ 600000) (hn : n + m ≤ 7302250) : WA b (lwT p l e s mm below meth co b0) 4 (lw_Z below #[Value.ref b0] s) μ k n 779 [(0, va_rf (some b0)), (1, va_rf p1), (2, va_rf p2), (3, .int x3)] [.int s0, .int s1, va_rf s2] := by
  rw [fL_law_b779] at hf
  obtain ⟨q697, h698, hf⟩ := jde_some hf
  obtain ⟨h699, hf⟩ := jckT hf
  obtain ⟨r700, μ701, c702, m703, c704, m705, e706, hf, h707, h708⟩ := jcl_some hf
  refine wa_rcallV (st2 := [.int r700]) X dL_law_779 lmL_100 lMX10_free h698 h699 (mX10_free e706) rfl rfl rfl (va_cats (Nat.le_of_ble_eq_true rfl)) (by decide) (by omega) (by omega) ?_
  refine wa_aload_n X 2 dL_law_782 rfl ?_
  refine wa_aload_n X 0 dL_law_783 rfl ?_
  refine wa_iload_n X 3 dL_law_784 rfl ?_
  refine wa_iconst (v := (1 : Int32)) X dL_law_785 (by decide) ?_
  refine wa_iadd X dL_law_786 ?_
  obtain ⟨h709, hf⟩ := jck_some hf
  refine wl_sld X dL_law_787 hX hb0 hbb h709 ?_
  refine wa_aload_n X 0 dL_law_788 rfl ?_
  refine wa_iload_n X 3 dL_law_789 rfl ?_
  refine wa_iconst (v := (2 : Int32)) X dL_law_790 (by decide) ?_
  refine wa_iadd X dL_law_791 ?_
  obtain ⟨h710, hf⟩ := jck_some hf
  refine wl_sld X dL_law_792 hX hb0 hbb h710 ?_
  refine wa_ifeq (tgt := 800) X dL_law_793 (by decide) (fun h711 => ?_) (fun h711 => ?_)
  · rw [if_pos h711] at hf
    refine wa_iconst (v := (0 : Int32)) X dL_law_800 (by decide) ?_
    refine wa_sub (L2 := [(0, va_rf (some b0)), (1, va_rf p1), (2, va_rf p2), (3, .int x3)]) [0, 1, 2, 3] rfl ?_
    exact gL_law_b801 X hX hb0 hbb hrec18 p1 p2 x3 (0 : Int32) (xs ((x3 + (1 : Int32))).toNatClampNeg) p2 r700 μ701 _ _ _ _ hf (by omega) (by omega)
  · rw [if_neg h711] at hf
    refine wa_iconst (v := (1 : Int32)) X dL_law_796 (by decide) ?_
    refine wa_goto (tgt := 801) X dL_law_797 (by decide) ?_
    refine wa_sub (L2 := [(0, va_rf (some b0)), (1, va_rf p1), (2, va_rf p2), (3, .int x3)]) [0, 1, 2, 3] rfl ?_
    exact gL_law_b801 X hX hb0 hbb hrec18 p1 p2 x3 (1 : Int32) (xs ((x3 + (1 : Int32))).toNatClampNeg) p2 r700 μ701 _ _ _ _ hf (by omega) (by omega)
def fL_law_b18 (xs : Nat → Int32) (LL : Nat) : Nat → Option Nat → Option Nat → Int32 → JM → JO (Unit)
  | 0, _, _, _, _ => none
  | fu + 1, p1, p2, x3, μ => if ((nI LL) - (6 : Int32)) < x3 then (some ((), μ, 0, 0)) else (jck (jin x3 LL) <| if ((xs (x3).toNatClampNeg) &&& (31 : Int32)) = (0 : Int32) then (jck (jin (x3 + (1 : Int32)) LL) <| jck (jin (x3 + (2 : Int32)) LL) <| jck (jin (x3 + (3 : Int32)) LL) <| jck (jin (x3 + (4 : Int32)) LL) <| jck (jin (x3 + (5 : Int32)) LL) <| jde p1 fun q45 => jck ((jT μ q45).1 == 11) <| jcl (fX10_feed q45 (xs ((x3 + (1 : Int32))).toNatClampNeg) (xs ((x3 + (2 : Int32))).toNatClampNeg) (xs ((x3 + (3 : Int32))).toNatClampNeg) (xs ((x3 + (4 : Int32))).toNatClampNeg) (xs ((x3 + (5 : Int32))).toNatClampNeg) μ) fun r48 μ49 => jck (jin (x3 + (1 : Int32)) LL) <| jck (jin (x3 + (2 : Int32)) LL) <| jck (jin (x3 + (3 : Int32)) LL) <| jck (jin (x3 + (4 : Int32)) LL) <| jck (jin (x3 + (5 : Int32)) LL) <| jde p2 fun q62 => jck ((jT μ49 q62).1 == 12) <| jcl (fX11_feed q62 (xs ((x3 + (1 : Int32))).toNatClampNeg) (xs ((x3 + (2 : Int32))).toNatClampNeg) (xs ((x3 + (3 : Int32))).toNatClampNeg) (xs ((x3 + (4 : Int32))).toNatClampNeg) (xs ((x3 + (5 : Int32))).toNatClampNeg) μ49) fun r65 μ66 => if r48 = r65 then (fL_law_b885 xs LL (fL_law_b18 xs LL fu) p1 p2 x3 μ66) else (none)) else (if ((xs (x3).toNatClampNeg) &&& (31 : Int32)) = (1 : Int32) then (jck (jin (x3 + (1 : Int32)) LL) <| jde p1 fun q77 => jck ((jT μ q77).1 == 11) <| jcl (fX10_end q77 (xs ((x3 + (1 : Int32))).toNatClampNeg) μ) fun r80 μ81 => jck (jin (x3 + (1 : Int32)) LL) <| jde p2 fun q90 => jck ((jT μ81 q90).1 == 12) <| jcl (fX11_end q90 (xs ((x3 + (1 : Int32))).toNatClampNeg) μ81) fun r93 μ94 => if r80 = r93 then (fL_law_b885 xs LL (fL_law_b18 xs LL fu) p1 p2 x3 μ94) else (none)) else (if ((xs (x3).toNatClampNeg) &&& (31 : Int32)) = (2 : Int32) then (jde p1 fun q104 => jck ((jT μ q104).1 == 11) <| jcl (fX10_facts q104 μ) fun r107 μ108 => jde p2 fun q116 => jck ((jT μ108 q116).1 == 12) <| jcl (fX11_facts q116 μ108) fun r119 μ120 => if r107 = r119 then (fL_law_b885 xs LL (fL_law_b18 xs LL fu) p1 p2 x3 μ120) else (none)) else (if ((xs (x3).toNatClampNeg) &&& (31 : Int32)) = (3 : Int32) then (jck (jin (x3 + (1 : Int32)) LL) <| jde p1 fun q131 => jck ((jT μ q131).1 == 11) <| jcl (fX10_version q131 (xs ((x3 + (1 : Int32))).toNatClampNeg) μ) fun r134 μ135 => jck (jin (x3 + (1 : Int32)) LL) <| jde p2 fun q144 => jck ((jT μ135 q144).1 == 12) <| jcl (fX11_version q144 (xs ((x3 + (1 : Int32))).toNatClampNeg) μ135) fun r147 μ148 => if r134 = r147 then (fL_law_b885 xs LL (fL_law_b18 xs LL fu) p1 p2 x3 μ148) else (none)) else (if ((xs (x3).toNatClampNeg) &&& (31 : Int32)) = (4 : Int32) then (jck (jin (x3 + (1 : Int32)) LL) <| jck (jin (x3 + (2 : Int32)) LL) <| jde p1 fun q160 => jck ((jT μ q160).1 == 11) <| jcl (fX10_rider q160 (xs ((x3 + (1 : Int32))).toNatClampNeg) (xs ((x3 + (2 : Int32))).toNatClampNeg) μ) fun r163 μ164 => jck (jin (x3 + (1 : Int32)) LL) <| jck (jin (x3 + (2 : Int32)) LL) <| jde p2 fun q174 => jck ((jT μ164 q174).1 == 12) <| jcl (fX11_rider q174 (xs ((x3 + (1 : Int32))).toNatClampNeg) (xs ((x3 + (2 : Int32))).toNatClampNeg) μ164) fun r177 μ178 => if r163 = r177 then (fL_law_b885 xs LL (fL_law_b18 xs LL fu) p1 p2 x3 μ178) else (none)) else (if ((xs (x3).toNatClampNeg) &&& (31 : Int32)) = (5 : Int32) then (jde p1 fun q188 => jck ((jT μ q188).1 == 11) <| jcl (fX10_takeOff q188 μ) fun r191 μ192 => jde p2 fun q200 => jck ((jT μ192 q200).1 == 12) <| jcl (fX11_takeOff q200 μ192) fun r203 μ204 => if r191 = r203 then (fL_law_b885 xs LL (fL_law_b18 xs LL fu) p1 p2 x3 μ204) else (none)) else (if ((xs (x3).toNatClampNeg) &&& (31 : Int32)) = (6 : Int32) then (jde p1 fun q214 => jck ((jT μ q214).1 == 11) <| jcl (fX10_world q214 μ) fun r217 μ218 => jde p2 fun q226 => jck ((jT μ218 q226).1 == 12) <| jcl (fX11_world q226 μ218) fun r229 μ230 => if r217 = r229 then (fL_law_b885 xs LL (fL_law_b18 xs LL fu) p1 p2 x3 μ230) else (none)) else (if ((xs (x3).toNatClampNeg) &&& (31 : Int32)) = (7 : Int32) then (jck (jin (x3 + (1 : Int32)) LL) <| jde p1 fun q241 => jck ((jT μ q241).1 == 11) <| jcl (fX10_write q241 (xs ((x3 + (1 : Int32))).toNatClampNeg) μ) fun r244 μ245 => jck (jin (x3 + (1 : Int32)) LL) <| jde p2 fun q254 => jck ((jT μ245 q254).1 == 12) <| jcl (fX11_write q254 (xs ((x3 + (1 : Int32))).toNatClampNeg) μ245) fun r257 μ258 => if r244 = r257 then (fL_law_b885 xs LL (fL_law_b18 xs LL fu) p1 p2 x3 μ258) else (none)) else (if ((xs (x3).toNatClampNeg) &&& (31 : Int32)) = (8 : Int32) then (jck (jin (x3 + (1 : Int32)) LL) <| jde p1 fun q269 => jck ((jT μ q269).1 == 11) <| jcl (fX10_octet q269 (xs ((x3 + (1 : Int32))).toNatClampNeg) μ) fun r272 μ273 => jck (jin (x3 + (1 : Int32)) LL) <| jde p2 fun q282 => jck ((jT μ273 q282).1 == 12) <| jcl (fX11_octet q282 (xs ((x3 + (1 : Int32))).toNatClampNeg) μ273) fun r285 μ286 => if r272 = r285 then (fL_law_b885 xs LL (fL_law_b18 xs LL fu) p1 p2 x3 μ286) else (none)) else (if ((xs (x3).toNatClampNeg) &&& (31 : Int32)) = (9 : Int32) then (jde p1 fun q296 => jck ((jT μ q296).1 == 11) <| jcl (fX10_back q296 μ) fun r299 μ300 => jde p2 fun q308 => jck ((jT μ300 q308).1 == 12) <| jcl (fX11_back q308 μ300) fun r311 μ312 => if r299 = r311 then (fL_law_b885 xs LL (fL_law_b18 xs LL fu) p1 p2 x3 μ312) else (none)) else (if ((xs (x3).toNatClampNeg) &&& (31 : Int32)) = (10 : Int32) then (jck (jin (x3 + (1 : Int32)) LL) <| jck (jin (x3 + (2 : Int32)) LL) <| jck (jin (x3 + (3 : Int32)) LL) <| jde p1 fun q325 => jck ((jT μ q325).1 == 11) <| jcl (fX10_clause q325 (xs ((x3 + (1 : Int32))).toNatClampNeg) (xs ((x3 + (2 : Int32))).toNatClampNeg) (xs ((x3 + (3 : Int32))).toNatClampNeg) μ) fun r328 μ329 => jck (jin (x3 + (1 : Int32)) LL) <| jck (jin (x3 + (2 : Int32)) LL) <| jck (jin (x3 + (3 : Int32)) LL) <| jde p2 fun q340 => jck ((jT μ329 q340).1 == 12) <| jcl (fX11_clause_ q340 (xs ((x3 + (1 : Int32))).toNatClampNeg) (xs ((x3 + (2 : Int32))).toNatClampNeg) (xs ((x3 + (3 : Int32))).toNatClampNeg) μ329) fun r343 μ344 => if r328 = r343 then (fL_law_b885 xs LL (fL_law_b18 xs LL fu) p1 p2 x3 μ344) else (none)) else (if ((xs (x3).toNatClampNeg) &&& (31 : Int32)) = (11 : Int32) then (jck (jin (x3 + (1 : Int32)) LL) <| jck (jin (x3 + (2 : Int32)) LL) <| jck (jin (x3 + (3 : Int32)) LL) <| jde p1 fun q357 => jck ((jT μ q357).1 == 11) <| jcl (fX10_letter q357 (xs ((x3 + (1 : Int32))).toNatClampNeg) (xs ((x3 + (2 : Int32))).toNatClampNeg) (xs ((x3 + (3 : Int32))).toNatClampNeg) μ) fun r360 μ361 => jck (jin (x3 + (1 : Int32)) LL) <| jck (jin (x3 + (2 : Int32)) LL) <| jck (jin (x3 + (3 : Int32)) LL) <| jde p2 fun q372 => jck ((jT μ361 q372).1 == 12) <| jcl (fX11_letter q372 (xs ((x3 + (1 : Int32))).toNatClampNeg) (xs ((x3 + (2 : Int32))).toNatClampNeg) (xs ((x3 + (3 : Int32))).toNatClampNeg) μ361) fun r375 μ376 => if r360 = r375 then (fL_law_b885 xs LL (fL_law_b18 xs LL fu) p1 p2 x3 μ376) else (none)) else (if ((xs (x3).toNatClampNeg) &&& (31 : Int32)) = (12 : Int32) then (jck (jin (x3 + (1 : Int32)) LL) <| jck (jin (x3 + (2 : Int32)) LL) <| jck (jin (x3 + (3 : Int32)) LL) <| jde p1 fun q389 => jck ((jT μ q389).1 == 11) <| jcl (fX10_holds q389 (xs ((x3 + (1 : Int32))).toNatClampNeg) (xs ((x3 + (2 : Int32))).toNatClampNeg) (xs ((x3 + (3 : Int32))).toNatClampNeg) μ) fun r392 μ393 => jck (jin (x3 + (1 : Int32)) LL) <| jck (jin (x3 + (2 : Int32)) LL) <| jck (jin (x3 + (3 : Int32)) LL) <| jde p2 fun q404 => jck ((jT μ393 q404).1 == 12) <| jcl (fX11_holds q404 (xs ((x3 + (1 : Int32))).toNatClampNeg) (xs ((x3 + (2 : Int32))).toNatClampNeg) (xs ((x3 + (3 : Int32))).toNatClampNeg) μ393) fun r407 μ408 => if r392 = r407 then (fL_law_b885 xs LL (fL_law_b18 xs LL fu) p1 p2 x3 μ408) else (none)) else (if ((xs (x3).toNatClampNeg) &&& (31 : Int32)) = (13 : Int32) then (jck (jin (x3 + (1 : Int32)) LL) <| jck (jin (x3 + (2 : Int32)) LL) <| jde p1 fun q420 => jck ((jT μ q420).1 == 11) <| jcl (fX10_outcomes q420 (xs ((x3 + (1 : Int32))).toNatClampNeg) (xs ((x3 + (2 : Int32))).toNatClampNeg) μ) fun r423 μ424 => jck (jin (x3 + (1 : Int32)) LL) <| jck (jin (x3 + (2 : Int32)) LL) <| jde p2 fun q434 => jck ((jT μ424 q434).1 == 12) <| jcl (fX11_outcomes q434 (xs ((x3 + (1 : Int32))).toNatClampNeg) (xs ((x3 + (2 : Int32))).toNatClampNeg) μ424) fun r437 μ438 => if r423 = r437 then (fL_law_b885 xs LL (fL_law_b18 xs LL fu) p1 p2 x3 μ438) else (none)) else (if ((xs (x3).toNatClampNeg) &&& (31 : Int32)) = (14 : Int32) then (jck (jin (x3 + (1 : Int32)) LL) <| jck (jin (x3 + (2 : Int32)) LL) <| jck (jin (x3 + (3 : Int32)) LL) <| jck (jin (x3 + (4 : Int32)) LL) <| jde p1 fun q452 => jck ((jT μ q452).1 == 11) <| jcl (fX10_outcome q452 (xs ((x3 + (1 : Int32))).toNatClampNeg) (xs ((x3 + (2 : Int32))).toNatClampNeg) (xs ((x3 + (3 : Int32))).toNatClampNeg) (xs ((x3 + (4 : Int32))).toNatClampNeg) μ) fun r455 μ456 => jck (jin (x3 + (1 : Int32)) LL) <| jck (jin (x3 + (2 : Int32)) LL) <| jck (jin (x3 + (3 : Int32)) LL) <| jck (jin (x3 + (4 : Int32)) LL) <| jde p2 fun q468 => jck ((jT μ456 q468).1 == 12) <| jcl (fX11_outcome q468 (xs ((x3 + (1 : Int32))).toNatClampNeg) (xs ((x3 + (2 : Int32))).toNatClampNeg) (xs ((x3 + (3 : Int32))).toNatClampNeg) (xs ((x3 + (4 : Int32))).toNatClampNeg) μ456) fun r471 μ472 => if r455 = r471 then (fL_law_b885 xs LL (fL_law_b18 xs LL fu) p1 p2 x3 μ472) else (none)) else (if ((xs (x3).toNatClampNeg) &&& (31 : Int32)) = (15 : Int32) then (jck (jin (x3 + (1 : Int32)) LL) <| jck (jin (x3 + (2 : Int32)) LL) <| jde p1 fun q484 => jck ((jT μ q484).1 == 11) <| jcl (fX10_differs q484 (xs ((x3 + (1 : Int32))).toNatClampNeg) (xs ((x3 + (2 : Int32))).toNatClampNeg) μ) fun r487 μ488 => jck (jin (x3 + (1 : Int32)) LL) <| jck (jin (x3 + (2 : Int32)) LL) <| jde p2 fun q498 => jck ((jT μ488 q498).1 == 12) <| jcl (fX11_differs q498 (xs ((x3 + (1 : Int32))).toNatClampNeg) (xs ((x3 + (2 : Int32))).toNatClampNeg) μ488) fun r501 μ502 => if r487 = r501 then (fL_law_b885 xs LL (fL_law_b18 xs LL fu) p1 p2 x3 μ502) else (none)) else (if ((xs (x3).toNatClampNeg) &&& (31 : Int32)) = (16 : Int32) then (jck (jin (x3 + (1 : Int32)) LL) <| jck (jin (x3 + (2 : Int32)) LL) <| jck (jin (x3 + (3 : Int32)) LL) <| jck (jin (x3 + (4 : Int32)) LL) <| jde p1 fun q516 => jck ((jT μ q516).1 == 11) <| jcl (fX10_changed q516 (xs ((x3 + (1 : Int32))).toNatClampNeg) (xs ((x3 + (2 : Int32))).toNatClampNeg) (xs ((x3 + (3 : Int32))).toNatClampNeg) (xs ((x3 + (4 : Int32))).toNatClampNeg) μ) fun r519 μ520 => jck (jin (x3 + (1 : Int32)) LL) <| jck (jin (x3 + (2 : Int32)) LL) <| jck (jin (x3 + (3 : Int32)) LL) <| jck (jin (x3 + (4 : Int32)) LL) <| jde p2 fun q532 => jck ((jT μ520 q532).1 == 12) <| jcl (fX11_changed q532 (xs ((x3 + (1 : Int32))).toNatClampNeg) (xs ((x3 + (2 : Int32))).toNatClampNeg) (xs ((x3 + (3 : Int32))).toNatClampNeg) (xs ((x3 + (4 : Int32))).toNatClampNeg) μ520) fun r535 μ536 => if r519 = r535 then (fL_law_b885 xs LL (fL_law_b18 xs LL fu) p1 p2 x3 μ536) else (none)) else (if ((xs (x3).toNatClampNeg) &&& (31 : Int32)) = (17 : Int32) then (jck (jin (x3 + (1 : Int32)) LL) <| jde p1 fun q547 => jck ((jT μ q547).1 == 11) <| jcl (fX10_quarrel q547 (xs ((x3 + (1 : Int32))).toNatClampNeg) μ) fun r550 μ551 => jck (jin (x3 + (1 : Int32)) LL) <| jde p2 fun q560 => jck ((jT μ551 q560).1 == 12) <| jcl (fX11_quarrel q560 (xs ((x3 + (1 : Int32))).toNatClampNeg) μ551) fun r563 μ564 => if r550 = r563 then (fL_law_b885 xs LL (fL_law_b18 xs LL fu) p1 p2 x3 μ564) else (none)) else (if ((xs (x3).toNatClampNeg) &&& (31 : Int32)) = (18 : Int32) then (jck (jin (x3 + (1 : Int32)) LL) <| jde p1 fun q575 => jck ((jT μ q575).1 == 11) <| jcl (fX10_quarreling q575 (xs ((x3 + (1 : Int32))).toNatClampNeg) μ) fun r578 μ579 => jck (jin (x3 + (1 : Int32)) LL) <| jde p2 fun q588 => jck ((jT μ579 q588).1 == 12) <| jcl (fX11_quarreling q588 (xs ((x3 + (1 : Int32))).toNatClampNeg) μ579) fun r591 μ592 => if r578 = r591 then (fL_law_b885 xs LL (fL_law_b18 xs LL fu) p1 p2 x3 μ592) else (none)) else (if ((xs (x3).toNatClampNeg) &&& (31 : Int32)) = (19 : Int32) then (jck (jin (x3 + (1 : Int32)) LL) <| jck (jin (x3 + (2 : Int32)) LL) <| jde p1 fun q604 => jck ((jT μ q604).1 == 11) <| jcl (fX10_gap q604 (xs ((x3 + (1 : Int32))).toNatClampNeg) (xs ((x3 + (2 : Int32))).toNatClampNeg) μ) fun r607 μ608 => jck (jin (x3 + (1 : Int32)) LL) <| jck (jin (x3 + (2 : Int32)) LL) <| jde p2 fun q618 => jck ((jT μ608 q618).1 == 12) <| jcl (fX11_gap q618 (xs ((x3 + (1 : Int32))).toNatClampNeg) (xs ((x3 + (2 : Int32))).toNatClampNeg) μ608) fun r621 μ622 => if r607 = r621 then (fL_law_b885 xs LL (fL_law_b18 xs LL fu) p1 p2 x3 μ622) else (none)) else (if ((xs (x3).toNatClampNeg) &&& (31 : Int32)) = (20 : Int32) then (jck (jin (x3 + (1 : Int32)) LL) <| jck (jin (x3 + (2 : Int32)) LL) <| if (xs ((x3 + (2 : Int32))).toNatClampNeg) = 0 then (fL_law_b779 xs LL (fL_law_b18 xs LL fu) p1 p2 x3 (0 : Int32) (xs ((x3 + (1 : Int32))).toNatClampNeg) p1 μ) else (fL_law_b779 xs LL (fL_law_b18 xs LL fu) p1 p2 x3 (1 : Int32) (xs ((x3 + (1 : Int32))).toNatClampNeg) p1 μ)) else (if ((xs (x3).toNatClampNeg) &&& (31 : Int32)) = (21 : Int32) then (jck (jin (x3 + (1 : Int32)) LL) <| jck (jin (x3 + (2 : Int32)) LL) <| jck (jin (x3 + (3 : Int32)) LL) <| jck (jin (x3 + (4 : Int32)) LL) <| jde p1 fun q640 => jck ((jT μ q640).1 == 11) <| jcl (fX10_due q640 (xs ((x3 + (1 : Int32))).toNatClampNeg) (xs ((x3 + (2 : Int32))).toNatClampNeg) (xs ((x3 + (3 : Int32))).toNatClampNeg) (xs ((x3 + (4 : Int32))).toNatClampNeg) μ) fun r643 μ644 => jck (jin (x3 + (1 : Int32)) LL) <| jck (jin (x3 + (2 : Int32)) LL) <| jck (jin (x3 + (3 : Int32)) LL) <| jck (jin (x3 + (4 : Int32)) LL) <| jde p2 fun q656 => jck ((jT μ644 q656).1 == 12) <| jcl (fX11_due q656 (xs ((x3 + (1 : Int32))).toNatClampNeg) (xs ((x3 + (2 : Int32))).toNatClampNeg) (xs ((x3 + (3 : Int32))).toNatClampNeg) (xs ((x3 + (4 : Int32))).toNatClampNeg) μ644) fun r659 μ660 => if r643 = r659 then (fL_law_b885 xs LL (fL_law_b18 xs LL fu) p1 p2 x3 μ660) else (none)) else (if ((xs (x3).toNatClampNeg) &&& (31 : Int32)) = (22 : Int32) then (jck (jin (x3 + (1 : Int32)) LL) <| jde p1 fun q671 => jck ((jT μ q671).1 == 11) <| jcl (fX10_count q671 (xs ((x3 + (1 : Int32))).toNatClampNeg) μ) fun r674 μ675 => jck (jin (x3 + (1 : Int32)) LL) <| jde p2 fun q684 => jck ((jT μ675 q684).1 == 12) <| jcl (fX11_count q684 (xs ((x3 + (1 : Int32))).toNatClampNeg) μ675) fun r687 μ688 => if r674 = r687 then (fL_law_b885 xs LL (fL_law_b18 xs LL fu) p1 p2 x3 μ688) else (none)) else (fL_law_b885 xs LL (fL_law_b18 xs LL fu) p1 p2 x3 μ))))))))))))))))))))))))
set_option maxHeartbeats 4000000 in
set_option maxRecDepth 100000 in
theorem gL_law_b18 {p : Program} {l : Launch} {e : Env} {s : State} {mm : MethodId} {below : List Frame} {meth : Method} {co : Code} {b0 LL b : Nat} {xs : Nat → Int32} {r : Unit} {ν : JM} (X : jX b (lwT p l e s mm below meth co b0) RL code 4 ret 12 462 600000 7302250) (hX : va_X b0 LL xs s s.heap) (hb0 : b0 < s.heap.size) (hbb : b = s.heap.size) : ∀ (fu : Nat) (p1 : Option Nat) (p2 : Option Nat) (x3 : Int32) (μ : JM) (c m k n : Nat), fL_law_b18 xs LL fu p1 p2 x3 μ = some (r, ν, c, m) → k + c ≤ 600000 → n + m ≤ 7302250 → WA b (lwT p l e s mm below meth co b0) 4 (lw_Z below #[Value.ref b0] s) μ k n 18 [(0, va_rf (some b0)), (1, va_rf p1), (2, va_rf p2), (3, .int x3)] [] := by
  intro fu
  induction fu with
  | zero => intro p1 p2 x3 μ c m k n hf; cases hf
  | succ fu ih =>
    intro p1 p2 x3 μ c m k n hf hk hn
    rw [fL_law_b18] at hf
    refine wa_iload_n X 3 dL_law_18 rfl ?_
    refine wa_aload_n X 0 dL_law_19 rfl ?_
    refine wl_slen X dL_law_20 hX hb0 hbb ?_
    refine wa_bipush (v := (6 : Int32)) X dL_law_21 (by decide) ?_
    refine wa_isub X dL_law_23 ?_
    refine wa_icgt (tgt := 891) X dL_law_24 (by decide) (fun h37 => ?_) (fun h37 => ?_)
    · rw [if_pos h37] at hf
      refine wa_iconst (v := (1 : Int32)) X dL_law_891 (by decide) ?_
      obtain ⟨rfl, rfl, rfl, rfl⟩ := jret hf
      exact wl_ret X hbb (by omega) (by omega) dL_law_892
    · rw [if_neg h37] at hf
      refine wa_aload_n X 0 dL_law_27 rfl ?_
      refine wa_iload_n X 3 dL_law_28 rfl ?_
      obtain ⟨h38, hf⟩ := jck_some hf
      refine wl_sld X dL_law_29 hX hb0 hbb h38 ?_
      refine wa_bipush (v := (31 : Int32)) X dL_law_30 (by decide) ?_
      refine wa_iand X dL_law_32 ?_
      by_cases h39 : ((xs (x3).toNatClampNeg) &&& (31 : Int32)) = (0 : Int32)
      · rw [if_pos h39] at hf
        refine wa_tin (tgt := 140) X dL_law_33 h39 (by decide) (by decide) rfl (by decide) ?_
        refine wa_aload_n X 1 dL_law_140 rfl ?_
        refine wa_aload_n X 0 dL_law_141 rfl ?_
        refine wa_iload_n X 3 dL_law_142 rfl ?_
        refine wa_iconst (v := (1 : Int32)) X dL_law_143 (by decide) ?_
        refine wa_iadd X dL_law_144 ?_
        obtain ⟨h40, hf⟩ := jck_some hf
        refine wl_sld X dL_law_145 hX hb0 hbb h40 ?_
        refine wa_aload_n X 0 dL_law_146 rfl ?_
        refine wa_iload_n X 3 dL_law_147 rfl ?_
        refine wa_iconst (v := (2 : Int32)) X dL_law_148 (by decide) ?_
        refine wa_iadd X dL_law_149 ?_
        obtain ⟨h41, hf⟩ := jck_some hf
        refine wl_sld X dL_law_150 hX hb0 hbb h41 ?_
        refine wa_aload_n X 0 dL_law_151 rfl ?_
        refine wa_iload_n X 3 dL_law_152 rfl ?_
        refine wa_iconst (v := (3 : Int32)) X dL_law_153 (by decide) ?_
        refine wa_iadd X dL_law_154 ?_
        obtain ⟨h42, hf⟩ := jck_some hf
        refine wl_sld X dL_law_155 hX hb0 hbb h42 ?_
        refine wa_aload_n X 0 dL_law_156 rfl ?_
        refine wa_iload_n X 3 dL_law_157 rfl ?_
        refine wa_iconst (v := (4 : Int32)) X dL_law_158 (by decide) ?_
        refine wa_iadd X dL_law_159 ?_
        obtain ⟨h43, hf⟩ := jck_some hf
        refine wl_sld X dL_law_160 hX hb0 hbb h43 ?_
        refine wa_aload_n X 0 dL_law_161 rfl ?_
        refine wa_iload_n X 3 dL_law_162 rfl ?_
        refine wa_iconst (v := (5 : Int32)) X dL_law_163 (by decide) ?_
        refine wa_iadd X dL_law_164 ?_
        obtain ⟨h44, hf⟩ := jck_some hf
        refine wl_sld X dL_law_165 hX hb0 hbb h44 ?_
        obtain ⟨q45, h46, hf⟩ := jde_some hf
        obtain ⟨h47, hf⟩ := jckT hf
        obtain ⟨r48, μ49, c50, m51, c52, m53, e54, hf, h55, h56⟩ := jcl_some hf
        refine wa_rcallV (st2 := [.int r48]) X dL_law_166 lmL_13 lMX10_feed h46 h47 (mX10_feed e54) rfl rfl rfl (va_cats (Nat.le_of_ble_eq_true rfl)) (by decide) (by omega) (by omega) ?_
        refine wa_aload_n X 2 dL_law_169 rfl ?_
        refine wa_aload_n X 0 dL_law_170 rfl ?_
        refine wa_iload_n X 3 dL_law_171 rfl ?_
        refine wa_iconst (v := (1 : Int32)) X dL_law_172 (by decide) ?_
        refine wa_iadd X dL_law_173 ?_
        obtain ⟨h57, hf⟩ := jck_some hf
        refine wl_sld X dL_law_174 hX hb0 hbb h57 ?_
        refine wa_aload_n X 0 dL_law_175 rfl ?_
        refine wa_iload_n X 3 dL_law_176 rfl ?_
        refine wa_iconst (v := (2 : Int32)) X dL_law_177 (by decide) ?_
        refine wa_iadd X dL_law_178 ?_
        obtain ⟨h58, hf⟩ := jck_some hf
        refine wl_sld X dL_law_179 hX hb0 hbb h58 ?_
        refine wa_aload_n X 0 dL_law_180 rfl ?_
        refine wa_iload_n X 3 dL_law_181 rfl ?_
        refine wa_iconst (v := (3 : Int32)) X dL_law_182 (by decide) ?_
        refine wa_iadd X dL_law_183 ?_
        obtain ⟨h59, hf⟩ := jck_some hf
        refine wl_sld X dL_law_184 hX hb0 hbb h59 ?_
        refine wa_aload_n X 0 dL_law_185 rfl ?_
        refine wa_iload_n X 3 dL_law_186 rfl ?_
        refine wa_iconst (v := (4 : Int32)) X dL_law_187 (by decide) ?_
        refine wa_iadd X dL_law_188 ?_
        obtain ⟨h60, hf⟩ := jck_some hf
        refine wl_sld X dL_law_189 hX hb0 hbb h60 ?_
        refine wa_aload_n X 0 dL_law_190 rfl ?_
        refine wa_iload_n X 3 dL_law_191 rfl ?_
        refine wa_iconst (v := (5 : Int32)) X dL_law_192 (by decide) ?_
        refine wa_iadd X dL_law_193 ?_
        obtain ⟨h61, hf⟩ := jck_some hf
        refine wl_sld X dL_law_194 hX hb0 hbb h61 ?_
        obtain ⟨q62, h63, hf⟩ := jde_some hf
        obtain ⟨h64, hf⟩ := jckT hf
        obtain ⟨r65, μ66, c67, m68, c69, m70, e71, hf, h72, h73⟩ := jcl_some hf
        refine wa_rcallV (st2 := [.int r65, .int r48]) X dL_law_195 lmL_17 lMX11_feed h63 h64 (mX11_feed e71) rfl rfl rfl (va_cats (Nat.le_of_ble_eq_true rfl)) (by decide) (by omega) (by omega) ?_
        refine wa_iceq (tgt := 885) X dL_law_198 (by decide) (fun h74 => ?_) (fun h74 => ?_)
        · rw [if_pos h74] at hf
          refine wa_sub (L2 := [(0, va_rf (some b0)), (1, va_rf p1), (2, va_rf p2), (3, .int x3)]) [0, 1, 2, 3] rfl ?_
          exact gL_law_b885 X hX hb0 hbb ih p1 p2 x3 μ66 _ _ _ _ hf (by omega) (by omega)
        · rw [if_neg h74] at hf
          refine wa_iconst (v := (0 : Int32)) X dL_law_201 (by decide) ?_
          cases hf
      rw [if_neg h39] at hf
      by_cases h75 : ((xs (x3).toNatClampNeg) &&& (31 : Int32)) = (1 : Int32)
      · rw [if_pos h75] at hf
        refine wa_tin (tgt := 203) X dL_law_33 h75 (by decide) (by decide) rfl (by decide) ?_
        refine wa_aload_n X 1 dL_law_203 rfl ?_
        refine wa_aload_n X 0 dL_law_204 rfl ?_
        refine wa_iload_n X 3 dL_law_205 rfl ?_
        refine wa_iconst (v := (1 : Int32)) X dL_law_206 (by decide) ?_
        refine wa_iadd X dL_law_207 ?_
        obtain ⟨h76, hf⟩ := jck_some hf
        refine wl_sld X dL_law_208 hX hb0 hbb h76 ?_
        obtain ⟨q77, h78, hf⟩ := jde_some hf
        obtain ⟨h79, hf⟩ := jckT hf
        obtain ⟨r80, μ81, c82, m83, c84, m85, e86, hf, h87, h88⟩ := jcl_some hf
        refine wa_rcallV (st2 := [.int r80]) X dL_law_209 lmL_18 lMX10_end h78 h79 (mX10_end e86) rfl rfl rfl (va_cats (Nat.le_of_ble_eq_true rfl)) (by decide) (by omega) (by omega) ?_
        refine wa_aload_n X 2 dL_law_212 rfl ?_
        refine wa_aload_n X 0 dL_law_213 rfl ?_
        refine wa_iload_n X 3 dL_law_214 rfl ?_
        refine wa_iconst (v := (1 : Int32)) X dL_law_215 (by decide) ?_
        refine wa_iadd X dL_law_216 ?_
        obtain ⟨h89, hf⟩ := jck_some hf
        refine wl_sld X dL_law_217 hX hb0 hbb h89 ?_
        obtain ⟨q90, h91, hf⟩ := jde_some hf
        obtain ⟨h92, hf⟩ := jckT hf
        obtain ⟨r93, μ94, c95, m96, c97, m98, e99, hf, h100, h101⟩ := jcl_some hf
        refine wa_rcallV (st2 := [.int r93, .int r80]) X dL_law_218 lmL_22 lMX11_end h91 h92 (mX11_end e99) rfl rfl rfl (va_cats (Nat.le_of_ble_eq_true rfl)) (by decide) (by omega) (by omega) ?_
        refine wa_iceq (tgt := 885) X dL_law_221 (by decide) (fun h102 => ?_) (fun h102 => ?_)
        · rw [if_pos h102] at hf
          refine wa_sub (L2 := [(0, va_rf (some b0)), (1, va_rf p1), (2, va_rf p2), (3, .int x3)]) [0, 1, 2, 3] rfl ?_
          exact gL_law_b885 X hX hb0 hbb ih p1 p2 x3 μ94 _ _ _ _ hf (by omega) (by omega)
        · rw [if_neg h102] at hf
          refine wa_iconst (v := (0 : Int32)) X dL_law_224 (by decide) ?_
          cases hf
      rw [if_neg h75] at hf
      by_cases h103 : ((xs (x3).toNatClampNeg) &&& (31 : Int32)) = (2 : Int32)
      · rw [if_pos h103] at hf
        refine wa_tin (tgt := 226) X dL_law_33 h103 (by decide) (by decide) rfl (by decide) ?_
        refine wa_aload_n X 1 dL_law_226 rfl ?_
        obtain ⟨q104, h105, hf⟩ := jde_some hf
        obtain ⟨h106, hf⟩ := jckT hf
        obtain ⟨r107, μ108, c109, m110, c111, m112, e113, hf, h114, h115⟩ := jcl_some hf
        refine wa_rcallV (st2 := [.int r107]) X dL_law_227 lmL_23 lMX10_facts h105 h106 (mX10_facts e113) rfl rfl rfl (va_cats (Nat.le_of_ble_eq_true rfl)) (by decide) (by omega) (by omega) ?_
        refine wa_aload_n X 2 dL_law_230 rfl ?_
        obtain ⟨q116, h117, hf⟩ := jde_some hf
        obtain ⟨h118, hf⟩ := jckT hf
        obtain ⟨r119, μ120, c121, m122, c123, m124, e125, hf, h126, h127⟩ := jcl_some hf
        refine wa_rcallV (st2 := [.int r119, .int r107]) X dL_law_231 lmL_27 lMX11_facts h117 h118 (mX11_facts e125) rfl rfl rfl (va_cats (Nat.le_of_ble_eq_true rfl)) (by decide) (by omega) (by omega) ?_
        refine wa_iceq (tgt := 885) X dL_law_234 (by decide) (fun h128 => ?_) (fun h128 => ?_)
        · rw [if_pos h128] at hf
          refine wa_sub (L2 := [(0, va_rf (some b0)), (1, va_rf p1), (2, va_rf p2), (3, .int x3)]) [0, 1, 2, 3] rfl ?_
          exact gL_law_b885 X hX hb0 hbb ih p1 p2 x3 μ120 _ _ _ _ hf (by omega) (by omega)
        · rw [if_neg h128] at hf
          refine wa_iconst (v := (0 : Int32)) X dL_law_237 (by decide) ?_
          cases hf
      rw [if_neg h103] at hf
      by_cases h129 : ((xs (x3).toNatClampNeg) &&& (31 : Int32)) = (3 : Int32)
      · rw [if_pos h129] at hf
        refine wa_tin (tgt := 239) X dL_law_33 h129 (by decide) (by decide) rfl (by decide) ?_
        refine wa_aload_n X 1 dL_law_239 rfl ?_
        refine wa_aload_n X 0 dL_law_240 rfl ?_
        refine wa_iload_n X 3 dL_law_241 rfl ?_
        refine wa_iconst (v := (1 : Int32)) X dL_law_242 (by decide) ?_
        refine wa_iadd X dL_law_243 ?_
        obtain ⟨h130, hf⟩ := jck_some hf
        refine wl_sld X dL_law_244 hX hb0 hbb h130 ?_
        obtain ⟨q131, h132, hf⟩ := jde_some hf
        obtain ⟨h133, hf⟩ := jckT hf
        obtain ⟨r134, μ135, c136, m137, c138, m139, e140, hf, h141, h142⟩ := jcl_some hf
        refine wa_rcallV (st2 := [.int r134]) X dL_law_245 lmL_28 lMX10_version h132 h133 (mX10_version e140) rfl rfl rfl (va_cats (Nat.le_of_ble_eq_true rfl)) (by decide) (by omega) (by omega) ?_
        refine wa_aload_n X 2 dL_law_248 rfl ?_
        refine wa_aload_n X 0 dL_law_249 rfl ?_
        refine wa_iload_n X 3 dL_law_250 rfl ?_
        refine wa_iconst (v := (1 : Int32)) X dL_law_251 (by decide) ?_
        refine wa_iadd X dL_law_252 ?_
        obtain ⟨h143, hf⟩ := jck_some hf
        refine wl_sld X dL_law_253 hX hb0 hbb h143 ?_
        obtain ⟨q144, h145, hf⟩ := jde_some hf
        obtain ⟨h146, hf⟩ := jckT hf
        obtain ⟨r147, μ148, c149, m150, c151, m152, e153, hf, h154, h155⟩ := jcl_some hf
        refine wa_rcallV (st2 := [.int r147, .int r134]) X dL_law_254 lmL_31 lMX11_version h145 h146 (mX11_version e153) rfl rfl rfl (va_cats (Nat.le_of_ble_eq_true rfl)) (by decide) (by omega) (by omega) ?_
        refine wa_iceq (tgt := 885) X dL_law_257 (by decide) (fun h156 => ?_) (fun h156 => ?_)
        · rw [if_pos h156] at hf
          refine wa_sub (L2 := [(0, va_rf (some b0)), (1, va_rf p1), (2, va_rf p2), (3, .int x3)]) [0, 1, 2, 3] rfl ?_
          exact gL_law_b885 X hX hb0 hbb ih p1 p2 x3 μ148 _ _ _ _ hf (by omega) (by omega)
        · rw [if_neg h156] at hf
          refine wa_iconst (v := (0 : Int32)) X dL_law_260 (by decide) ?_
          cases hf
      rw [if_neg h129] at hf
      by_cases h157 : ((xs (x3).toNatClampNeg) &&& (31 : Int32)) = (4 : Int32)
      · rw [if_pos h157] at hf
        refine wa_tin (tgt := 262) X dL_law_33 h157 (by decide) (by decide) rfl (by decide) ?_
        refine wa_aload_n X 1 dL_law_262 rfl ?_
        refine wa_aload_n X 0 dL_law_263 rfl ?_
        refine wa_iload_n X 3 dL_law_264 rfl ?_
        refine wa_iconst (v := (1 : Int32)) X dL_law_265 (by decide) ?_
        refine wa_iadd X dL_law_266 ?_
        obtain ⟨h158, hf⟩ := jck_some hf
        refine wl_sld X dL_law_267 hX hb0 hbb h158 ?_
        refine wa_aload_n X 0 dL_law_268 rfl ?_
        refine wa_iload_n X 3 dL_law_269 rfl ?_
        refine wa_iconst (v := (2 : Int32)) X dL_law_270 (by decide) ?_
        refine wa_iadd X dL_law_271 ?_
        obtain ⟨h159, hf⟩ := jck_some hf
        refine wl_sld X dL_law_272 hX hb0 hbb h159 ?_
        obtain ⟨q160, h161, hf⟩ := jde_some hf
        obtain ⟨h162, hf⟩ := jckT hf
        obtain ⟨r163, μ164, c165, m166, c167, m168, e169, hf, h170, h171⟩ := jcl_some hf
        refine wa_rcallV (st2 := [.int r163]) X dL_law_273 lmL_32 lMX10_rider h161 h162 (mX10_rider e169) rfl rfl rfl (va_cats (Nat.le_of_ble_eq_true rfl)) (by decide) (by omega) (by omega) ?_
        refine wa_aload_n X 2 dL_law_276 rfl ?_
        refine wa_aload_n X 0 dL_law_277 rfl ?_
        refine wa_iload_n X 3 dL_law_278 rfl ?_
        refine wa_iconst (v := (1 : Int32)) X dL_law_279 (by decide) ?_
        refine wa_iadd X dL_law_280 ?_
        obtain ⟨h172, hf⟩ := jck_some hf
        refine wl_sld X dL_law_281 hX hb0 hbb h172 ?_
        refine wa_aload_n X 0 dL_law_282 rfl ?_
        refine wa_iload_n X 3 dL_law_283 rfl ?_
        refine wa_iconst (v := (2 : Int32)) X dL_law_284 (by decide) ?_
        refine wa_iadd X dL_law_285 ?_
        obtain ⟨h173, hf⟩ := jck_some hf
        refine wl_sld X dL_law_286 hX hb0 hbb h173 ?_
        obtain ⟨q174, h175, hf⟩ := jde_some hf
        obtain ⟨h176, hf⟩ := jckT hf
        obtain ⟨r177, μ178, c179, m180, c181, m182, e183, hf, h184, h185⟩ := jcl_some hf
        refine wa_rcallV (st2 := [.int r177, .int r163]) X dL_law_287 lmL_36 lMX11_rider h175 h176 (mX11_rider e183) rfl rfl rfl (va_cats (Nat.le_of_ble_eq_true rfl)) (by decide) (by omega) (by omega) ?_
        refine wa_iceq (tgt := 885) X dL_law_290 (by decide) (fun h186 => ?_) (fun h186 => ?_)
        · rw [if_pos h186] at hf
          refine wa_sub (L2 := [(0, va_rf (some b0)), (1, va_rf p1), (2, va_rf p2), (3, .int x3)]) [0, 1, 2, 3] rfl ?_
          exact gL_law_b885 X hX hb0 hbb ih p1 p2 x3 μ178 _ _ _ _ hf (by omega) (by omega)
        · rw [if_neg h186] at hf
          refine wa_iconst (v := (0 : Int32)) X dL_law_293 (by decide) ?_
          cases hf
      rw [if_neg h157] at hf
      by_cases h187 : ((xs (x3).toNatClampNeg) &&& (31 : Int32)) = (5 : Int32)
      · rw [if_pos h187] at hf
        refine wa_tin (tgt := 295) X dL_law_33 h187 (by decide) (by decide) rfl (by decide) ?_
        refine wa_aload_n X 1 dL_law_295 rfl ?_
        obtain ⟨q188, h189, hf⟩ := jde_some hf
        obtain ⟨h190, hf⟩ := jckT hf
        obtain ⟨r191, μ192, c193, m194, c195, m196, e197, hf, h198, h199⟩ := jcl_some hf
        refine wa_rcallV (st2 := [.int r191]) X dL_law_296 lmL_37 lMX10_takeOff h189 h190 (mX10_takeOff e197) rfl rfl rfl (va_cats (Nat.le_of_ble_eq_true rfl)) (by decide) (by omega) (by omega) ?_
        refine wa_aload_n X 2 dL_law_299 rfl ?_
        obtain ⟨q200, h201, hf⟩ := jde_some hf
        obtain ⟨h202, hf⟩ := jckT hf
        obtain ⟨r203, μ204, c205, m206, c207, m208, e209, hf, h210, h211⟩ := jcl_some hf
        refine wa_rcallV (st2 := [.int r203, .int r191]) X dL_law_300 lmL_41 lMX11_takeOff h201 h202 (mX11_takeOff e209) rfl rfl rfl (va_cats (Nat.le_of_ble_eq_true rfl)) (by decide) (by omega) (by omega) ?_
        refine wa_iceq (tgt := 885) X dL_law_303 (by decide) (fun h212 => ?_) (fun h212 => ?_)
        · rw [if_pos h212] at hf
          refine wa_sub (L2 := [(0, va_rf (some b0)), (1, va_rf p1), (2, va_rf p2), (3, .int x3)]) [0, 1, 2, 3] rfl ?_
          exact gL_law_b885 X hX hb0 hbb ih p1 p2 x3 μ204 _ _ _ _ hf (by omega) (by omega)
        · rw [if_neg h212] at hf
          refine wa_iconst (v := (0 : Int32)) X dL_law_306 (by decide) ?_
          cases hf
      rw [if_neg h187] at hf
      by_cases h213 : ((xs (x3).toNatClampNeg) &&& (31 : Int32)) = (6 : Int32)
      · rw [if_pos h213] at hf
        refine wa_tin (tgt := 308) X dL_law_33 h213 (by decide) (by decide) rfl (by decide) ?_
        refine wa_aload_n X 1 dL_law_308 rfl ?_
        obtain ⟨q214, h215, hf⟩ := jde_some hf
        obtain ⟨h216, hf⟩ := jckT hf
        obtain ⟨r217, μ218, c219, m220, c221, m222, e223, hf, h224, h225⟩ := jcl_some hf
        refine wa_rcallV (st2 := [.int r217]) X dL_law_309 lmL_42 lMX10_world h215 h216 (mX10_world e223) rfl rfl rfl (va_cats (Nat.le_of_ble_eq_true rfl)) (by decide) (by omega) (by omega) ?_
        refine wa_aload_n X 2 dL_law_312 rfl ?_
        obtain ⟨q226, h227, hf⟩ := jde_some hf
        obtain ⟨h228, hf⟩ := jckT hf
        obtain ⟨r229, μ230, c231, m232, c233, m234, e235, hf, h236, h237⟩ := jcl_some hf
        refine wa_rcallV (st2 := [.int r229, .int r217]) X dL_law_313 lmL_45 lMX11_world h227 h228 (mX11_world e235) rfl rfl rfl (va_cats (Nat.le_of_ble_eq_true rfl)) (by decide) (by omega) (by omega) ?_
        refine wa_iceq (tgt := 885) X dL_law_316 (by decide) (fun h238 => ?_) (fun h238 => ?_)
        · rw [if_pos h238] at hf
          refine wa_sub (L2 := [(0, va_rf (some b0)), (1, va_rf p1), (2, va_rf p2), (3, .int x3)]) [0, 1, 2, 3] rfl ?_
          exact gL_law_b885 X hX hb0 hbb ih p1 p2 x3 μ230 _ _ _ _ hf (by omega) (by omega)
        · rw [if_neg h238] at hf
          refine wa_iconst (v := (0 : Int32)) X dL_law_319 (by decide) ?_
          cases hf
      rw [if_neg h213] at hf
      by_cases h239 : ((xs (x3).toNatClampNeg) &&& (31 : Int32)) = (7 : Int32)
      · rw [if_pos h239] at hf
        refine wa_tin (tgt := 321) X dL_law_33 h239 (by decide) (by decide) rfl (by decide) ?_
        refine wa_aload_n X 1 dL_law_321 rfl ?_
        refine wa_aload_n X 0 dL_law_322 rfl ?_
        refine wa_iload_n X 3 dL_law_323 rfl ?_
        refine wa_iconst (v := (1 : Int32)) X dL_law_324 (by decide) ?_
        refine wa_iadd X dL_law_325 ?_
        obtain ⟨h240, hf⟩ := jck_some hf
        refine wl_sld X dL_law_326 hX hb0 hbb h240 ?_
        obtain ⟨q241, h242, hf⟩ := jde_some hf
        obtain ⟨h243, hf⟩ := jckT hf
        obtain ⟨r244, μ245, c246, m247, c248, m249, e250, hf, h251, h252⟩ := jcl_some hf
        refine wa_rcallV (st2 := [.int r244]) X dL_law_327 lmL_46 lMX10_write h242 h243 (mX10_write e250) rfl rfl rfl (va_cats (Nat.le_of_ble_eq_true rfl)) (by decide) (by omega) (by omega) ?_
        refine wa_aload_n X 2 dL_law_330 rfl ?_
        refine wa_aload_n X 0 dL_law_331 rfl ?_
        refine wa_iload_n X 3 dL_law_332 rfl ?_
        refine wa_iconst (v := (1 : Int32)) X dL_law_333 (by decide) ?_
        refine wa_iadd X dL_law_334 ?_
        obtain ⟨h253, hf⟩ := jck_some hf
        refine wl_sld X dL_law_335 hX hb0 hbb h253 ?_
        obtain ⟨q254, h255, hf⟩ := jde_some hf
        obtain ⟨h256, hf⟩ := jckT hf
        obtain ⟨r257, μ258, c259, m260, c261, m262, e263, hf, h264, h265⟩ := jcl_some hf
        refine wa_rcallV (st2 := [.int r257, .int r244]) X dL_law_336 lmL_49 lMX11_write h255 h256 (mX11_write e263) rfl rfl rfl (va_cats (Nat.le_of_ble_eq_true rfl)) (by decide) (by omega) (by omega) ?_
        refine wa_iceq (tgt := 885) X dL_law_339 (by decide) (fun h266 => ?_) (fun h266 => ?_)
        · rw [if_pos h266] at hf
          refine wa_sub (L2 := [(0, va_rf (some b0)), (1, va_rf p1), (2, va_rf p2), (3, .int x3)]) [0, 1, 2, 3] rfl ?_
          exact gL_law_b885 X hX hb0 hbb ih p1 p2 x3 μ258 _ _ _ _ hf (by omega) (by omega)
        · rw [if_neg h266] at hf
          refine wa_iconst (v := (0 : Int32)) X dL_law_342 (by decide) ?_
          cases hf
      rw [if_neg h239] at hf
      by_cases h267 : ((xs (x3).toNatClampNeg) &&& (31 : Int32)) = (8 : Int32)
      · rw [if_pos h267] at hf
        refine wa_tin (tgt := 344) X dL_law_33 h267 (by decide) (by decide) rfl (by decide) ?_
        refine wa_aload_n X 1 dL_law_344 rfl ?_
        refine wa_aload_n X 0 dL_law_345 rfl ?_
        refine wa_iload_n X 3 dL_law_346 rfl ?_
        refine wa_iconst (v := (1 : Int32)) X dL_law_347 (by decide) ?_
        refine wa_iadd X dL_law_348 ?_
        obtain ⟨h268, hf⟩ := jck_some hf
        refine wl_sld X dL_law_349 hX hb0 hbb h268 ?_
        obtain ⟨q269, h270, hf⟩ := jde_some hf
        obtain ⟨h271, hf⟩ := jckT hf
        obtain ⟨r272, μ273, c274, m275, c276, m277, e278, hf, h279, h280⟩ := jcl_some hf
        refine wa_rcallV (st2 := [.int r272]) X dL_law_350 lmL_50 lMX10_octet h270 h271 (mX10_octet e278) rfl rfl rfl (va_cats (Nat.le_of_ble_eq_true rfl)) (by decide) (by omega) (by omega) ?_
        refine wa_aload_n X 2 dL_law_353 rfl ?_
        refine wa_aload_n X 0 dL_law_354 rfl ?_
        refine wa_iload_n X 3 dL_law_355 rfl ?_
        refine wa_iconst (v := (1 : Int32)) X dL_law_356 (by decide) ?_
        refine wa_iadd X dL_law_357 ?_
        obtain ⟨h281, hf⟩ := jck_some hf
        refine wl_sld X dL_law_358 hX hb0 hbb h281 ?_
        obtain ⟨q282, h283, hf⟩ := jde_some hf
        obtain ⟨h284, hf⟩ := jckT hf
        obtain ⟨r285, μ286, c287, m288, c289, m290, e291, hf, h292, h293⟩ := jcl_some hf
        refine wa_rcallV (st2 := [.int r285, .int r272]) X dL_law_359 lmL_53 lMX11_octet h283 h284 (mX11_octet e291) rfl rfl rfl (va_cats (Nat.le_of_ble_eq_true rfl)) (by decide) (by omega) (by omega) ?_
        refine wa_iceq (tgt := 885) X dL_law_362 (by decide) (fun h294 => ?_) (fun h294 => ?_)
        · rw [if_pos h294] at hf
          refine wa_sub (L2 := [(0, va_rf (some b0)), (1, va_rf p1), (2, va_rf p2), (3, .int x3)]) [0, 1, 2, 3] rfl ?_
          exact gL_law_b885 X hX hb0 hbb ih p1 p2 x3 μ286 _ _ _ _ hf (by omega) (by omega)
        · rw [if_neg h294] at hf
          refine wa_iconst (v := (0 : Int32)) X dL_law_365 (by decide) ?_
          cases hf
      rw [if_neg h267] at hf
      by_cases h295 : ((xs (x3).toNatClampNeg) &&& (31 : Int32)) = (9 : Int32)
      · rw [if_pos h295] at hf
        refine wa_tin (tgt := 367) X dL_law_33 h295 (by decide) (by decide) rfl (by decide) ?_
        refine wa_aload_n X 1 dL_law_367 rfl ?_
        obtain ⟨q296, h297, hf⟩ := jde_some hf
        obtain ⟨h298, hf⟩ := jckT hf
        obtain ⟨r299, μ300, c301, m302, c303, m304, e305, hf, h306, h307⟩ := jcl_some hf
        refine wa_rcallV (st2 := [.int r299]) X dL_law_368 lmL_54 lMX10_back h297 h298 (mX10_back e305) rfl rfl rfl (va_cats (Nat.le_of_ble_eq_true rfl)) (by decide) (by omega) (by omega) ?_
        refine wa_aload_n X 2 dL_law_371 rfl ?_
        obtain ⟨q308, h309, hf⟩ := jde_some hf
        obtain ⟨h310, hf⟩ := jckT hf
        obtain ⟨r311, μ312, c313, m314, c315, m316, e317, hf, h318, h319⟩ := jcl_some hf
        refine wa_rcallV (st2 := [.int r311, .int r299]) X dL_law_372 lmL_57 lMX11_back h309 h310 (mX11_back e317) rfl rfl rfl (va_cats (Nat.le_of_ble_eq_true rfl)) (by decide) (by omega) (by omega) ?_
        refine wa_iceq (tgt := 885) X dL_law_375 (by decide) (fun h320 => ?_) (fun h320 => ?_)
        · rw [if_pos h320] at hf
          refine wa_sub (L2 := [(0, va_rf (some b0)), (1, va_rf p1), (2, va_rf p2), (3, .int x3)]) [0, 1, 2, 3] rfl ?_
          exact gL_law_b885 X hX hb0 hbb ih p1 p2 x3 μ312 _ _ _ _ hf (by omega) (by omega)
        · rw [if_neg h320] at hf
          refine wa_iconst (v := (0 : Int32)) X dL_law_378 (by decide) ?_
          cases hf
      rw [if_neg h295] at hf
      by_cases h321 : ((xs (x3).toNatClampNeg) &&& (31 : Int32)) = (10 : Int32)
      · rw [if_pos h321] at hf
        refine wa_tin (tgt := 380) X dL_law_33 h321 (by decide) (by decide) rfl (by decide) ?_
        refine wa_aload_n X 1 dL_law_380 rfl ?_
        refine wa_aload_n X 0 dL_law_381 rfl ?_
        refine wa_iload_n X 3 dL_law_382 rfl ?_
        refine wa_iconst (v := (1 : Int32)) X dL_law_383 (by decide) ?_
        refine wa_iadd X dL_law_384 ?_
        obtain ⟨h322, hf⟩ := jck_some hf
        refine wl_sld X dL_law_385 hX hb0 hbb h322 ?_
        refine wa_aload_n X 0 dL_law_386 rfl ?_
        refine wa_iload_n X 3 dL_law_387 rfl ?_
        refine wa_iconst (v := (2 : Int32)) X dL_law_388 (by decide) ?_
        refine wa_iadd X dL_law_389 ?_
        obtain ⟨h323, hf⟩ := jck_some hf
        refine wl_sld X dL_law_390 hX hb0 hbb h323 ?_
        refine wa_aload_n X 0 dL_law_391 rfl ?_
        refine wa_iload_n X 3 dL_law_392 rfl ?_
        refine wa_iconst (v := (3 : Int32)) X dL_law_393 (by decide) ?_
        refine wa_iadd X dL_law_394 ?_
        obtain ⟨h324, hf⟩ := jck_some hf
        refine wl_sld X dL_law_395 hX hb0 hbb h324 ?_
        obtain ⟨q325, h326, hf⟩ := jde_some hf
        obtain ⟨h327, hf⟩ := jckT hf
        obtain ⟨r328, μ329, c330, m331, c332, m333, e334, hf, h335, h336⟩ := jcl_some hf
        refine wa_rcallV (st2 := [.int r328]) X dL_law_396 lmL_58 lMX10_clause h326 h327 (mX10_clause e334) rfl rfl rfl (va_cats (Nat.le_of_ble_eq_true rfl)) (by decide) (by omega) (by omega) ?_
        refine wa_aload_n X 2 dL_law_399 rfl ?_
        refine wa_aload_n X 0 dL_law_400 rfl ?_
        refine wa_iload_n X 3 dL_law_401 rfl ?_
        refine wa_iconst (v := (1 : Int32)) X dL_law_402 (by decide) ?_
        refine wa_iadd X dL_law_403 ?_
        obtain ⟨h337, hf⟩ := jck_some hf
        refine wl_sld X dL_law_404 hX hb0 hbb h337 ?_
        refine wa_aload_n X 0 dL_law_405 rfl ?_
        refine wa_iload_n X 3 dL_law_406 rfl ?_
        refine wa_iconst (v := (2 : Int32)) X dL_law_407 (by decide) ?_
        refine wa_iadd X dL_law_408 ?_
        obtain ⟨h338, hf⟩ := jck_some hf
        refine wl_sld X dL_law_409 hX hb0 hbb h338 ?_
        refine wa_aload_n X 0 dL_law_410 rfl ?_
        refine wa_iload_n X 3 dL_law_411 rfl ?_
        refine wa_iconst (v := (3 : Int32)) X dL_law_412 (by decide) ?_
        refine wa_iadd X dL_law_413 ?_
        obtain ⟨h339, hf⟩ := jck_some hf
        refine wl_sld X dL_law_414 hX hb0 hbb h339 ?_
        obtain ⟨q340, h341, hf⟩ := jde_some hf
        obtain ⟨h342, hf⟩ := jckT hf
        obtain ⟨r343, μ344, c345, m346, c347, m348, e349, hf, h350, h351⟩ := jcl_some hf
        refine wa_rcallV (st2 := [.int r343, .int r328]) X dL_law_415 lmL_62 lMX11_clause_ h341 h342 (mX11_clause_ e349) rfl rfl rfl (va_cats (Nat.le_of_ble_eq_true rfl)) (by decide) (by omega) (by omega) ?_
        refine wa_iceq (tgt := 885) X dL_law_418 (by decide) (fun h352 => ?_) (fun h352 => ?_)
        · rw [if_pos h352] at hf
          refine wa_sub (L2 := [(0, va_rf (some b0)), (1, va_rf p1), (2, va_rf p2), (3, .int x3)]) [0, 1, 2, 3] rfl ?_
          exact gL_law_b885 X hX hb0 hbb ih p1 p2 x3 μ344 _ _ _ _ hf (by omega) (by omega)
        · rw [if_neg h352] at hf
          refine wa_iconst (v := (0 : Int32)) X dL_law_421 (by decide) ?_
          cases hf
      rw [if_neg h321] at hf
      by_cases h353 : ((xs (x3).toNatClampNeg) &&& (31 : Int32)) = (11 : Int32)
      · rw [if_pos h353] at hf
        refine wa_tin (tgt := 423) X dL_law_33 h353 (by decide) (by decide) rfl (by decide) ?_
        refine wa_aload_n X 1 dL_law_423 rfl ?_
        refine wa_aload_n X 0 dL_law_424 rfl ?_
        refine wa_iload_n X 3 dL_law_425 rfl ?_
        refine wa_iconst (v := (1 : Int32)) X dL_law_426 (by decide) ?_
        refine wa_iadd X dL_law_427 ?_
        obtain ⟨h354, hf⟩ := jck_some hf
        refine wl_sld X dL_law_428 hX hb0 hbb h354 ?_
        refine wa_aload_n X 0 dL_law_429 rfl ?_
        refine wa_iload_n X 3 dL_law_430 rfl ?_
        refine wa_iconst (v := (2 : Int32)) X dL_law_431 (by decide) ?_
        refine wa_iadd X dL_law_432 ?_
        obtain ⟨h355, hf⟩ := jck_some hf
        refine wl_sld X dL_law_433 hX hb0 hbb h355 ?_
        refine wa_aload_n X 0 dL_law_434 rfl ?_
        refine wa_iload_n X 3 dL_law_435 rfl ?_
        refine wa_iconst (v := (3 : Int32)) X dL_law_436 (by decide) ?_
        refine wa_iadd X dL_law_437 ?_
        obtain ⟨h356, hf⟩ := jck_some hf
        refine wl_sld X dL_law_438 hX hb0 hbb h356 ?_
        obtain ⟨q357, h358, hf⟩ := jde_some hf
        obtain ⟨h359, hf⟩ := jckT hf
        obtain ⟨r360, μ361, c362, m363, c364, m365, e366, hf, h367, h368⟩ := jcl_some hf
        refine wa_rcallV (st2 := [.int r360]) X dL_law_439 lmL_63 lMX10_letter h358 h359 (mX10_letter e366) rfl rfl rfl (va_cats (Nat.le_of_ble_eq_true rfl)) (by decide) (by omega) (by omega) ?_
        refine wa_aload_n X 2 dL_law_442 rfl ?_
        refine wa_aload_n X 0 dL_law_443 rfl ?_
        refine wa_iload_n X 3 dL_law_444 rfl ?_
        refine wa_iconst (v := (1 : Int32)) X dL_law_445 (by decide) ?_
        refine wa_iadd X dL_law_446 ?_
        obtain ⟨h369, hf⟩ := jck_some hf
        refine wl_sld X dL_law_447 hX hb0 hbb h369 ?_
        refine wa_aload_n X 0 dL_law_448 rfl ?_
        refine wa_iload_n X 3 dL_law_449 rfl ?_
        refine wa_iconst (v := (2 : Int32)) X dL_law_450 (by decide) ?_
        refine wa_iadd X dL_law_451 ?_
        obtain ⟨h370, hf⟩ := jck_some hf
        refine wl_sld X dL_law_452 hX hb0 hbb h370 ?_
        refine wa_aload_n X 0 dL_law_453 rfl ?_
        refine wa_iload_n X 3 dL_law_454 rfl ?_
        refine wa_iconst (v := (3 : Int32)) X dL_law_455 (by decide) ?_
        refine wa_iadd X dL_law_456 ?_
        obtain ⟨h371, hf⟩ := jck_some hf
        refine wl_sld X dL_law_457 hX hb0 hbb h371 ?_
        obtain ⟨q372, h373, hf⟩ := jde_some hf
        obtain ⟨h374, hf⟩ := jckT hf
        obtain ⟨r375, μ376, c377, m378, c379, m380, e381, hf, h382, h383⟩ := jcl_some hf
        refine wa_rcallV (st2 := [.int r375, .int r360]) X dL_law_458 lmL_66 lMX11_letter h373 h374 (mX11_letter e381) rfl rfl rfl (va_cats (Nat.le_of_ble_eq_true rfl)) (by decide) (by omega) (by omega) ?_
        refine wa_iceq (tgt := 885) X dL_law_461 (by decide) (fun h384 => ?_) (fun h384 => ?_)
        · rw [if_pos h384] at hf
          refine wa_sub (L2 := [(0, va_rf (some b0)), (1, va_rf p1), (2, va_rf p2), (3, .int x3)]) [0, 1, 2, 3] rfl ?_
          exact gL_law_b885 X hX hb0 hbb ih p1 p2 x3 μ376 _ _ _ _ hf (by omega) (by omega)
        · rw [if_neg h384] at hf
          refine wa_iconst (v := (0 : Int32)) X dL_law_464 (by decide) ?_
          cases hf
      rw [if_neg h353] at hf
      by_cases h385 : ((xs (x3).toNatClampNeg) &&& (31 : Int32)) = (12 : Int32)
      · rw [if_pos h385] at hf
        refine wa_tin (tgt := 466) X dL_law_33 h385 (by decide) (by decide) rfl (by decide) ?_
        refine wa_aload_n X 1 dL_law_466 rfl ?_
        refine wa_aload_n X 0 dL_law_467 rfl ?_
        refine wa_iload_n X 3 dL_law_468 rfl ?_
        refine wa_iconst (v := (1 : Int32)) X dL_law_469 (by decide) ?_
        refine wa_iadd X dL_law_470 ?_
        obtain ⟨h386, hf⟩ := jck_some hf
        refine wl_sld X dL_law_471 hX hb0 hbb h386 ?_
        refine wa_aload_n X 0 dL_law_472 rfl ?_
        refine wa_iload_n X 3 dL_law_473 rfl ?_
        refine wa_iconst (v := (2 : Int32)) X dL_law_474 (by decide) ?_
        refine wa_iadd X dL_law_475 ?_
        obtain ⟨h387, hf⟩ := jck_some hf
        refine wl_sld X dL_law_476 hX hb0 hbb h387 ?_
        refine wa_aload_n X 0 dL_law_477 rfl ?_
        refine wa_iload_n X 3 dL_law_478 rfl ?_
        refine wa_iconst (v := (3 : Int32)) X dL_law_479 (by decide) ?_
        refine wa_iadd X dL_law_480 ?_
        obtain ⟨h388, hf⟩ := jck_some hf
        refine wl_sld X dL_law_481 hX hb0 hbb h388 ?_
        obtain ⟨q389, h390, hf⟩ := jde_some hf
        obtain ⟨h391, hf⟩ := jckT hf
        obtain ⟨r392, μ393, c394, m395, c396, m397, e398, hf, h399, h400⟩ := jcl_some hf
        refine wa_rcallV (st2 := [.int r392]) X dL_law_482 lmL_67 lMX10_holds h390 h391 (mX10_holds e398) rfl rfl rfl (va_cats (Nat.le_of_ble_eq_true rfl)) (by decide) (by omega) (by omega) ?_
        refine wa_aload_n X 2 dL_law_485 rfl ?_
        refine wa_aload_n X 0 dL_law_486 rfl ?_
        refine wa_iload_n X 3 dL_law_487 rfl ?_
        refine wa_iconst (v := (1 : Int32)) X dL_law_488 (by decide) ?_
        refine wa_iadd X dL_law_489 ?_
        obtain ⟨h401, hf⟩ := jck_some hf
        refine wl_sld X dL_law_490 hX hb0 hbb h401 ?_
        refine wa_aload_n X 0 dL_law_491 rfl ?_
        refine wa_iload_n X 3 dL_law_492 rfl ?_
        refine wa_iconst (v := (2 : Int32)) X dL_law_493 (by decide) ?_
        refine wa_iadd X dL_law_494 ?_
        obtain ⟨h402, hf⟩ := jck_some hf
        refine wl_sld X dL_law_495 hX hb0 hbb h402 ?_
        refine wa_aload_n X 0 dL_law_496 rfl ?_
        refine wa_iload_n X 3 dL_law_497 rfl ?_
        refine wa_iconst (v := (3 : Int32)) X dL_law_498 (by decide) ?_
        refine wa_iadd X dL_law_499 ?_
        obtain ⟨h403, hf⟩ := jck_some hf
        refine wl_sld X dL_law_500 hX hb0 hbb h403 ?_
        obtain ⟨q404, h405, hf⟩ := jde_some hf
        obtain ⟨h406, hf⟩ := jckT hf
        obtain ⟨r407, μ408, c409, m410, c411, m412, e413, hf, h414, h415⟩ := jcl_some hf
        refine wa_rcallV (st2 := [.int r407, .int r392]) X dL_law_501 lmL_70 lMX11_holds h405 h406 (mX11_holds e413) rfl rfl rfl (va_cats (Nat.le_of_ble_eq_true rfl)) (by decide) (by omega) (by omega) ?_
        refine wa_iceq (tgt := 885) X dL_law_504 (by decide) (fun h416 => ?_) (fun h416 => ?_)
        · rw [if_pos h416] at hf
          refine wa_sub (L2 := [(0, va_rf (some b0)), (1, va_rf p1), (2, va_rf p2), (3, .int x3)]) [0, 1, 2, 3] rfl ?_
          exact gL_law_b885 X hX hb0 hbb ih p1 p2 x3 μ408 _ _ _ _ hf (by omega) (by omega)
        · rw [if_neg h416] at hf
          refine wa_iconst (v := (0 : Int32)) X dL_law_507 (by decide) ?_
          cases hf
      rw [if_neg h385] at hf
      by_cases h417 : ((xs (x3).toNatClampNeg) &&& (31 : Int32)) = (13 : Int32)
      · rw [if_pos h417] at hf
        refine wa_tin (tgt := 509) X dL_law_33 h417 (by decide) (by decide) rfl (by decide) ?_
        refine wa_aload_n X 1 dL_law_509 rfl ?_
        refine wa_aload_n X 0 dL_law_510 rfl ?_
        refine wa_iload_n X 3 dL_law_511 rfl ?_
        refine wa_iconst (v := (1 : Int32)) X dL_law_512 (by decide) ?_
        refine wa_iadd X dL_law_513 ?_
        obtain ⟨h418, hf⟩ := jck_some hf
        refine wl_sld X dL_law_514 hX hb0 hbb h418 ?_
        refine wa_aload_n X 0 dL_law_515 rfl ?_
        refine wa_iload_n X 3 dL_law_516 rfl ?_
        refine wa_iconst (v := (2 : Int32)) X dL_law_517 (by decide) ?_
        refine wa_iadd X dL_law_518 ?_
        obtain ⟨h419, hf⟩ := jck_some hf
        refine wl_sld X dL_law_519 hX hb0 hbb h419 ?_
        obtain ⟨q420, h421, hf⟩ := jde_some hf
        obtain ⟨h422, hf⟩ := jckT hf
        obtain ⟨r423, μ424, c425, m426, c427, m428, e429, hf, h430, h431⟩ := jcl_some hf
        refine wa_rcallV (st2 := [.int r423]) X dL_law_520 lmL_71 lMX10_outcomes h421 h422 (mX10_outcomes e429) rfl rfl rfl (va_cats (Nat.le_of_ble_eq_true rfl)) (by decide) (by omega) (by omega) ?_
        refine wa_aload_n X 2 dL_law_523 rfl ?_
        refine wa_aload_n X 0 dL_law_524 rfl ?_
        refine wa_iload_n X 3 dL_law_525 rfl ?_
        refine wa_iconst (v := (1 : Int32)) X dL_law_526 (by decide) ?_
        refine wa_iadd X dL_law_527 ?_
        obtain ⟨h432, hf⟩ := jck_some hf
        refine wl_sld X dL_law_528 hX hb0 hbb h432 ?_
        refine wa_aload_n X 0 dL_law_529 rfl ?_
        refine wa_iload_n X 3 dL_law_530 rfl ?_
        refine wa_iconst (v := (2 : Int32)) X dL_law_531 (by decide) ?_
        refine wa_iadd X dL_law_532 ?_
        obtain ⟨h433, hf⟩ := jck_some hf
        refine wl_sld X dL_law_533 hX hb0 hbb h433 ?_
        obtain ⟨q434, h435, hf⟩ := jde_some hf
        obtain ⟨h436, hf⟩ := jckT hf
        obtain ⟨r437, μ438, c439, m440, c441, m442, e443, hf, h444, h445⟩ := jcl_some hf
        refine wa_rcallV (st2 := [.int r437, .int r423]) X dL_law_534 lmL_74 lMX11_outcomes h435 h436 (mX11_outcomes e443) rfl rfl rfl (va_cats (Nat.le_of_ble_eq_true rfl)) (by decide) (by omega) (by omega) ?_
        refine wa_iceq (tgt := 885) X dL_law_537 (by decide) (fun h446 => ?_) (fun h446 => ?_)
        · rw [if_pos h446] at hf
          refine wa_sub (L2 := [(0, va_rf (some b0)), (1, va_rf p1), (2, va_rf p2), (3, .int x3)]) [0, 1, 2, 3] rfl ?_
          exact gL_law_b885 X hX hb0 hbb ih p1 p2 x3 μ438 _ _ _ _ hf (by omega) (by omega)
        · rw [if_neg h446] at hf
          refine wa_iconst (v := (0 : Int32)) X dL_law_540 (by decide) ?_
          cases hf
      rw [if_neg h417] at hf
      by_cases h447 : ((xs (x3).toNatClampNeg) &&& (31 : Int32)) = (14 : Int32)
      · rw [if_pos h447] at hf
        refine wa_tin (tgt := 542) X dL_law_33 h447 (by decide) (by decide) rfl (by decide) ?_
        refine wa_aload_n X 1 dL_law_542 rfl ?_
        refine wa_aload_n X 0 dL_law_543 rfl ?_
        refine wa_iload_n X 3 dL_law_544 rfl ?_
        refine wa_iconst (v := (1 : Int32)) X dL_law_545 (by decide) ?_
        refine wa_iadd X dL_law_546 ?_
        obtain ⟨h448, hf⟩ := jck_some hf
        refine wl_sld X dL_law_547 hX hb0 hbb h448 ?_
        refine wa_aload_n X 0 dL_law_548 rfl ?_
        refine wa_iload_n X 3 dL_law_549 rfl ?_
        refine wa_iconst (v := (2 : Int32)) X dL_law_550 (by decide) ?_
        refine wa_iadd X dL_law_551 ?_
        obtain ⟨h449, hf⟩ := jck_some hf
        refine wl_sld X dL_law_552 hX hb0 hbb h449 ?_
        refine wa_aload_n X 0 dL_law_553 rfl ?_
        refine wa_iload_n X 3 dL_law_554 rfl ?_
        refine wa_iconst (v := (3 : Int32)) X dL_law_555 (by decide) ?_
        refine wa_iadd X dL_law_556 ?_
        obtain ⟨h450, hf⟩ := jck_some hf
        refine wl_sld X dL_law_557 hX hb0 hbb h450 ?_
        refine wa_aload_n X 0 dL_law_558 rfl ?_
        refine wa_iload_n X 3 dL_law_559 rfl ?_
        refine wa_iconst (v := (4 : Int32)) X dL_law_560 (by decide) ?_
        refine wa_iadd X dL_law_561 ?_
        obtain ⟨h451, hf⟩ := jck_some hf
        refine wl_sld X dL_law_562 hX hb0 hbb h451 ?_
        obtain ⟨q452, h453, hf⟩ := jde_some hf
        obtain ⟨h454, hf⟩ := jckT hf
        obtain ⟨r455, μ456, c457, m458, c459, m460, e461, hf, h462, h463⟩ := jcl_some hf
        refine wa_rcallV (st2 := [.int r455]) X dL_law_563 lmL_75 lMX10_outcome h453 h454 (mX10_outcome e461) rfl rfl rfl (va_cats (Nat.le_of_ble_eq_true rfl)) (by decide) (by omega) (by omega) ?_
        refine wa_aload_n X 2 dL_law_566 rfl ?_
        refine wa_aload_n X 0 dL_law_567 rfl ?_
        refine wa_iload_n X 3 dL_law_568 rfl ?_
        refine wa_iconst (v := (1 : Int32)) X dL_law_569 (by decide) ?_
        refine wa_iadd X dL_law_570 ?_
        obtain ⟨h464, hf⟩ := jck_some hf
        refine wl_sld X dL_law_571 hX hb0 hbb h464 ?_
        refine wa_aload_n X 0 dL_law_572 rfl ?_
        refine wa_iload_n X 3 dL_law_573 rfl ?_
        refine wa_iconst (v := (2 : Int32)) X dL_law_574 (by decide) ?_
        refine wa_iadd X dL_law_575 ?_
        obtain ⟨h465, hf⟩ := jck_some hf
        refine wl_sld X dL_law_576 hX hb0 hbb h465 ?_
        refine wa_aload_n X 0 dL_law_577 rfl ?_
        refine wa_iload_n X 3 dL_law_578 rfl ?_
        refine wa_iconst (v := (3 : Int32)) X dL_law_579 (by decide) ?_
        refine wa_iadd X dL_law_580 ?_
        obtain ⟨h466, hf⟩ := jck_some hf
        refine wl_sld X dL_law_581 hX hb0 hbb h466 ?_
        refine wa_aload_n X 0 dL_law_582 rfl ?_
        refine wa_iload_n X 3 dL_law_583 rfl ?_
        refine wa_iconst (v := (4 : Int32)) X dL_law_584 (by decide) ?_
        refine wa_iadd X dL_law_585 ?_
        obtain ⟨h467, hf⟩ := jck_some hf
        refine wl_sld X dL_law_586 hX hb0 hbb h467 ?_
        obtain ⟨q468, h469, hf⟩ := jde_some hf
        obtain ⟨h470, hf⟩ := jckT hf
        obtain ⟨r471, μ472, c473, m474, c475, m476, e477, hf, h478, h479⟩ := jcl_some hf
        refine wa_rcallV (st2 := [.int r471, .int r455]) X dL_law_587 lmL_79 lMX11_outcome h469 h470 (mX11_outcome e477) rfl rfl rfl (va_cats (Nat.le_of_ble_eq_true rfl)) (by decide) (by omega) (by omega) ?_
        refine wa_iceq (tgt := 885) X dL_law_590 (by decide) (fun h480 => ?_) (fun h480 => ?_)
        · rw [if_pos h480] at hf
          refine wa_sub (L2 := [(0, va_rf (some b0)), (1, va_rf p1), (2, va_rf p2), (3, .int x3)]) [0, 1, 2, 3] rfl ?_
          exact gL_law_b885 X hX hb0 hbb ih p1 p2 x3 μ472 _ _ _ _ hf (by omega) (by omega)
        · rw [if_neg h480] at hf
          refine wa_iconst (v := (0 : Int32)) X dL_law_593 (by decide) ?_
          cases hf
      rw [if_neg h447] at hf
      by_cases h481 : ((xs (x3).toNatClampNeg) &&& (31 : Int32)) = (15 : Int32)
      · rw [if_pos h481] at hf
        refine wa_tin (tgt := 595) X dL_law_33 h481 (by decide) (by decide) rfl (by decide) ?_
        refine wa_aload_n X 1 dL_law_595 rfl ?_
        refine wa_aload_n X 0 dL_law_596 rfl ?_
        refine wa_iload_n X 3 dL_law_597 rfl ?_
        refine wa_iconst (v := (1 : Int32)) X dL_law_598 (by decide) ?_
        refine wa_iadd X dL_law_599 ?_
        obtain ⟨h482, hf⟩ := jck_some hf
        refine wl_sld X dL_law_600 hX hb0 hbb h482 ?_
        refine wa_aload_n X 0 dL_law_601 rfl ?_
        refine wa_iload_n X 3 dL_law_602 rfl ?_
        refine wa_iconst (v := (2 : Int32)) X dL_law_603 (by decide) ?_
        refine wa_iadd X dL_law_604 ?_
        obtain ⟨h483, hf⟩ := jck_some hf
        refine wl_sld X dL_law_605 hX hb0 hbb h483 ?_
        obtain ⟨q484, h485, hf⟩ := jde_some hf
        obtain ⟨h486, hf⟩ := jckT hf
        obtain ⟨r487, μ488, c489, m490, c491, m492, e493, hf, h494, h495⟩ := jcl_some hf
        refine wa_rcallV (st2 := [.int r487]) X dL_law_606 lmL_80 lMX10_differs h485 h486 (mX10_differs e493) rfl rfl rfl (va_cats (Nat.le_of_ble_eq_true rfl)) (by decide) (by omega) (by omega) ?_
        refine wa_aload_n X 2 dL_law_609 rfl ?_
        refine wa_aload_n X 0 dL_law_610 rfl ?_
        refine wa_iload_n X 3 dL_law_611 rfl ?_
        refine wa_iconst (v := (1 : Int32)) X dL_law_612 (by decide) ?_
        refine wa_iadd X dL_law_613 ?_
        obtain ⟨h496, hf⟩ := jck_some hf
        refine wl_sld X dL_law_614 hX hb0 hbb h496 ?_
        refine wa_aload_n X 0 dL_law_615 rfl ?_
        refine wa_iload_n X 3 dL_law_616 rfl ?_
        refine wa_iconst (v := (2 : Int32)) X dL_law_617 (by decide) ?_
        refine wa_iadd X dL_law_618 ?_
        obtain ⟨h497, hf⟩ := jck_some hf
        refine wl_sld X dL_law_619 hX hb0 hbb h497 ?_
        obtain ⟨q498, h499, hf⟩ := jde_some hf
        obtain ⟨h500, hf⟩ := jckT hf
        obtain ⟨r501, μ502, c503, m504, c505, m506, e507, hf, h508, h509⟩ := jcl_some hf
        refine wa_rcallV (st2 := [.int r501, .int r487]) X dL_law_620 lmL_83 lMX11_differs h499 h500 (mX11_differs e507) rfl rfl rfl (va_cats (Nat.le_of_ble_eq_true rfl)) (by decide) (by omega) (by omega) ?_
        refine wa_iceq (tgt := 885) X dL_law_623 (by decide) (fun h510 => ?_) (fun h510 => ?_)
        · rw [if_pos h510] at hf
          refine wa_sub (L2 := [(0, va_rf (some b0)), (1, va_rf p1), (2, va_rf p2), (3, .int x3)]) [0, 1, 2, 3] rfl ?_
          exact gL_law_b885 X hX hb0 hbb ih p1 p2 x3 μ502 _ _ _ _ hf (by omega) (by omega)
        · rw [if_neg h510] at hf
          refine wa_iconst (v := (0 : Int32)) X dL_law_626 (by decide) ?_
          cases hf
      rw [if_neg h481] at hf
      by_cases h511 : ((xs (x3).toNatClampNeg) &&& (31 : Int32)) = (16 : Int32)
      · rw [if_pos h511] at hf
        refine wa_tin (tgt := 628) X dL_law_33 h511 (by decide) (by decide) rfl (by decide) ?_
        refine wa_aload_n X 1 dL_law_628 rfl ?_
        refine wa_aload_n X 0 dL_law_629 rfl ?_
        refine wa_iload_n X 3 dL_law_630 rfl ?_
        refine wa_iconst (v := (1 : Int32)) X dL_law_631 (by decide) ?_
        refine wa_iadd X dL_law_632 ?_
        obtain ⟨h512, hf⟩ := jck_some hf
        refine wl_sld X dL_law_633 hX hb0 hbb h512 ?_
        refine wa_aload_n X 0 dL_law_634 rfl ?_
        refine wa_iload_n X 3 dL_law_635 rfl ?_
        refine wa_iconst (v := (2 : Int32)) X dL_law_636 (by decide) ?_
        refine wa_iadd X dL_law_637 ?_
        obtain ⟨h513, hf⟩ := jck_some hf
        refine wl_sld X dL_law_638 hX hb0 hbb h513 ?_
        refine wa_aload_n X 0 dL_law_639 rfl ?_
        refine wa_iload_n X 3 dL_law_640 rfl ?_
        refine wa_iconst (v := (3 : Int32)) X dL_law_641 (by decide) ?_
        refine wa_iadd X dL_law_642 ?_
        obtain ⟨h514, hf⟩ := jck_some hf
        refine wl_sld X dL_law_643 hX hb0 hbb h514 ?_
        refine wa_aload_n X 0 dL_law_644 rfl ?_
        refine wa_iload_n X 3 dL_law_645 rfl ?_
        refine wa_iconst (v := (4 : Int32)) X dL_law_646 (by decide) ?_
        refine wa_iadd X dL_law_647 ?_
        obtain ⟨h515, hf⟩ := jck_some hf
        refine wl_sld X dL_law_648 hX hb0 hbb h515 ?_
        obtain ⟨q516, h517, hf⟩ := jde_some hf
        obtain ⟨h518, hf⟩ := jckT hf
        obtain ⟨r519, μ520, c521, m522, c523, m524, e525, hf, h526, h527⟩ := jcl_some hf
        refine wa_rcallV (st2 := [.int r519]) X dL_law_649 lmL_84 lMX10_changed h517 h518 (mX10_changed e525) rfl rfl rfl (va_cats (Nat.le_of_ble_eq_true rfl)) (by decide) (by omega) (by omega) ?_
        refine wa_aload_n X 2 dL_law_652 rfl ?_
        refine wa_aload_n X 0 dL_law_653 rfl ?_
        refine wa_iload_n X 3 dL_law_654 rfl ?_
        refine wa_iconst (v := (1 : Int32)) X dL_law_655 (by decide) ?_
        refine wa_iadd X dL_law_656 ?_
        obtain ⟨h528, hf⟩ := jck_some hf
        refine wl_sld X dL_law_657 hX hb0 hbb h528 ?_
        refine wa_aload_n X 0 dL_law_658 rfl ?_
        refine wa_iload_n X 3 dL_law_659 rfl ?_
        refine wa_iconst (v := (2 : Int32)) X dL_law_660 (by decide) ?_
        refine wa_iadd X dL_law_661 ?_
        obtain ⟨h529, hf⟩ := jck_some hf
        refine wl_sld X dL_law_662 hX hb0 hbb h529 ?_
        refine wa_aload_n X 0 dL_law_663 rfl ?_
        refine wa_iload_n X 3 dL_law_664 rfl ?_
        refine wa_iconst (v := (3 : Int32)) X dL_law_665 (by decide) ?_
        refine wa_iadd X dL_law_666 ?_
        obtain ⟨h530, hf⟩ := jck_some hf
        refine wl_sld X dL_law_667 hX hb0 hbb h530 ?_
        refine wa_aload_n X 0 dL_law_668 rfl ?_
        refine wa_iload_n X 3 dL_law_669 rfl ?_
        refine wa_iconst (v := (4 : Int32)) X dL_law_670 (by decide) ?_
        refine wa_iadd X dL_law_671 ?_
        obtain ⟨h531, hf⟩ := jck_some hf
        refine wl_sld X dL_law_672 hX hb0 hbb h531 ?_
        obtain ⟨q532, h533, hf⟩ := jde_some hf
        obtain ⟨h534, hf⟩ := jckT hf
        obtain ⟨r535, μ536, c537, m538, c539, m540, e541, hf, h542, h543⟩ := jcl_some hf
        refine wa_rcallV (st2 := [.int r535, .int r519]) X dL_law_673 lmL_87 lMX11_changed h533 h534 (mX11_changed e541) rfl rfl rfl (va_cats (Nat.le_of_ble_eq_true rfl)) (by decide) (by omega) (by omega) ?_
        refine wa_iceq (tgt := 885) X dL_law_676 (by decide) (fun h544 => ?_) (fun h544 => ?_)
        · rw [if_pos h544] at hf
          refine wa_sub (L2 := [(0, va_rf (some b0)), (1, va_rf p1), (2, va_rf p2), (3, .int x3)]) [0, 1, 2, 3] rfl ?_
          exact gL_law_b885 X hX hb0 hbb ih p1 p2 x3 μ536 _ _ _ _ hf (by omega) (by omega)
        · rw [if_neg h544] at hf
          refine wa_iconst (v := (0 : Int32)) X dL_law_679 (by decide) ?_
          cases hf
      rw [if_neg h511] at hf
      by_cases h545 : ((xs (x3).toNatClampNeg) &&& (31 : Int32)) = (17 : Int32)
      · rw [if_pos h545] at hf
        refine wa_tin (tgt := 681) X dL_law_33 h545 (by decide) (by decide) rfl (by decide) ?_
        refine wa_aload_n X 1 dL_law_681 rfl ?_
        refine wa_aload_n X 0 dL_law_682 rfl ?_
        refine wa_iload_n X 3 dL_law_683 rfl ?_
        refine wa_iconst (v := (1 : Int32)) X dL_law_684 (by decide) ?_
        refine wa_iadd X dL_law_685 ?_
        obtain ⟨h546, hf⟩ := jck_some hf
        refine wl_sld X dL_law_686 hX hb0 hbb h546 ?_
        obtain ⟨q547, h548, hf⟩ := jde_some hf
        obtain ⟨h549, hf⟩ := jckT hf
        obtain ⟨r550, μ551, c552, m553, c554, m555, e556, hf, h557, h558⟩ := jcl_some hf
        refine wa_rcallV (st2 := [.int r550]) X dL_law_687 lmL_88 lMX10_quarrel h548 h549 (mX10_quarrel e556) rfl rfl rfl (va_cats (Nat.le_of_ble_eq_true rfl)) (by decide) (by omega) (by omega) ?_
        refine wa_aload_n X 2 dL_law_690 rfl ?_
        refine wa_aload_n X 0 dL_law_691 rfl ?_
        refine wa_iload_n X 3 dL_law_692 rfl ?_
        refine wa_iconst (v := (1 : Int32)) X dL_law_693 (by decide) ?_
        refine wa_iadd X dL_law_694 ?_
        obtain ⟨h559, hf⟩ := jck_some hf
        refine wl_sld X dL_law_695 hX hb0 hbb h559 ?_
        obtain ⟨q560, h561, hf⟩ := jde_some hf
        obtain ⟨h562, hf⟩ := jckT hf
        obtain ⟨r563, μ564, c565, m566, c567, m568, e569, hf, h570, h571⟩ := jcl_some hf
        refine wa_rcallV (st2 := [.int r563, .int r550]) X dL_law_696 lmL_91 lMX11_quarrel h561 h562 (mX11_quarrel e569) rfl rfl rfl (va_cats (Nat.le_of_ble_eq_true rfl)) (by decide) (by omega) (by omega) ?_
        refine wa_iceq (tgt := 885) X dL_law_699 (by decide) (fun h572 => ?_) (fun h572 => ?_)
        · rw [if_pos h572] at hf
          refine wa_sub (L2 := [(0, va_rf (some b0)), (1, va_rf p1), (2, va_rf p2), (3, .int x3)]) [0, 1, 2, 3] rfl ?_
          exact gL_law_b885 X hX hb0 hbb ih p1 p2 x3 μ564 _ _ _ _ hf (by omega) (by omega)
        · rw [if_neg h572] at hf
          refine wa_iconst (v := (0 : Int32)) X dL_law_702 (by decide) ?_
          cases hf
      rw [if_neg h545] at hf
      by_cases h573 : ((xs (x3).toNatClampNeg) &&& (31 : Int32)) = (18 : Int32)
      · rw [if_pos h573] at hf
        refine wa_tin (tgt := 704) X dL_law_33 h573 (by decide) (by decide) rfl (by decide) ?_
        refine wa_aload_n X 1 dL_law_704 rfl ?_
        refine wa_aload_n X 0 dL_law_705 rfl ?_
        refine wa_iload_n X 3 dL_law_706 rfl ?_
        refine wa_iconst (v := (1 : Int32)) X dL_law_707 (by decide) ?_
        refine wa_iadd X dL_law_708 ?_
        obtain ⟨h574, hf⟩ := jck_some hf
        refine wl_sld X dL_law_709 hX hb0 hbb h574 ?_
        obtain ⟨q575, h576, hf⟩ := jde_some hf
        obtain ⟨h577, hf⟩ := jckT hf
        obtain ⟨r578, μ579, c580, m581, c582, m583, e584, hf, h585, h586⟩ := jcl_some hf
        refine wa_rcallV (st2 := [.int r578]) X dL_law_710 lmL_92 lMX10_quarreling h576 h577 (mX10_quarreling e584) rfl rfl rfl (va_cats (Nat.le_of_ble_eq_true rfl)) (by decide) (by omega) (by omega) ?_
        refine wa_aload_n X 2 dL_law_713 rfl ?_
        refine wa_aload_n X 0 dL_law_714 rfl ?_
        refine wa_iload_n X 3 dL_law_715 rfl ?_
        refine wa_iconst (v := (1 : Int32)) X dL_law_716 (by decide) ?_
        refine wa_iadd X dL_law_717 ?_
        obtain ⟨h587, hf⟩ := jck_some hf
        refine wl_sld X dL_law_718 hX hb0 hbb h587 ?_
        obtain ⟨q588, h589, hf⟩ := jde_some hf
        obtain ⟨h590, hf⟩ := jckT hf
        obtain ⟨r591, μ592, c593, m594, c595, m596, e597, hf, h598, h599⟩ := jcl_some hf
        refine wa_rcallV (st2 := [.int r591, .int r578]) X dL_law_719 lmL_95 lMX11_quarreling h589 h590 (mX11_quarreling e597) rfl rfl rfl (va_cats (Nat.le_of_ble_eq_true rfl)) (by decide) (by omega) (by omega) ?_
        refine wa_iceq (tgt := 885) X dL_law_722 (by decide) (fun h600 => ?_) (fun h600 => ?_)
        · rw [if_pos h600] at hf
          refine wa_sub (L2 := [(0, va_rf (some b0)), (1, va_rf p1), (2, va_rf p2), (3, .int x3)]) [0, 1, 2, 3] rfl ?_
          exact gL_law_b885 X hX hb0 hbb ih p1 p2 x3 μ592 _ _ _ _ hf (by omega) (by omega)
        · rw [if_neg h600] at hf
          refine wa_iconst (v := (0 : Int32)) X dL_law_725 (by decide) ?_
          cases hf
      rw [if_neg h573] at hf
      by_cases h601 : ((xs (x3).toNatClampNeg) &&& (31 : Int32)) = (19 : Int32)
      · rw [if_pos h601] at hf
        refine wa_tin (tgt := 727) X dL_law_33 h601 (by decide) (by decide) rfl (by decide) ?_
        refine wa_aload_n X 1 dL_law_727 rfl ?_
        refine wa_aload_n X 0 dL_law_728 rfl ?_
        refine wa_iload_n X 3 dL_law_729 rfl ?_
        refine wa_iconst (v := (1 : Int32)) X dL_law_730 (by decide) ?_
        refine wa_iadd X dL_law_731 ?_
        obtain ⟨h602, hf⟩ := jck_some hf
        refine wl_sld X dL_law_732 hX hb0 hbb h602 ?_
        refine wa_aload_n X 0 dL_law_733 rfl ?_
        refine wa_iload_n X 3 dL_law_734 rfl ?_
        refine wa_iconst (v := (2 : Int32)) X dL_law_735 (by decide) ?_
        refine wa_iadd X dL_law_736 ?_
        obtain ⟨h603, hf⟩ := jck_some hf
        refine wl_sld X dL_law_737 hX hb0 hbb h603 ?_
        obtain ⟨q604, h605, hf⟩ := jde_some hf
        obtain ⟨h606, hf⟩ := jckT hf
        obtain ⟨r607, μ608, c609, m610, c611, m612, e613, hf, h614, h615⟩ := jcl_some hf
        refine wa_rcallV (st2 := [.int r607]) X dL_law_738 lmL_96 lMX10_gap h605 h606 (mX10_gap e613) rfl rfl rfl (va_cats (Nat.le_of_ble_eq_true rfl)) (by decide) (by omega) (by omega) ?_
        refine wa_aload_n X 2 dL_law_741 rfl ?_
        refine wa_aload_n X 0 dL_law_742 rfl ?_
        refine wa_iload_n X 3 dL_law_743 rfl ?_
        refine wa_iconst (v := (1 : Int32)) X dL_law_744 (by decide) ?_
        refine wa_iadd X dL_law_745 ?_
        obtain ⟨h616, hf⟩ := jck_some hf
        refine wl_sld X dL_law_746 hX hb0 hbb h616 ?_
        refine wa_aload_n X 0 dL_law_747 rfl ?_
        refine wa_iload_n X 3 dL_law_748 rfl ?_
        refine wa_iconst (v := (2 : Int32)) X dL_law_749 (by decide) ?_
        refine wa_iadd X dL_law_750 ?_
        obtain ⟨h617, hf⟩ := jck_some hf
        refine wl_sld X dL_law_751 hX hb0 hbb h617 ?_
        obtain ⟨q618, h619, hf⟩ := jde_some hf
        obtain ⟨h620, hf⟩ := jckT hf
        obtain ⟨r621, μ622, c623, m624, c625, m626, e627, hf, h628, h629⟩ := jcl_some hf
        refine wa_rcallV (st2 := [.int r621, .int r607]) X dL_law_752 lmL_99 lMX11_gap h619 h620 (mX11_gap e627) rfl rfl rfl (va_cats (Nat.le_of_ble_eq_true rfl)) (by decide) (by omega) (by omega) ?_
        refine wa_iceq (tgt := 885) X dL_law_755 (by decide) (fun h630 => ?_) (fun h630 => ?_)
        · rw [if_pos h630] at hf
          refine wa_sub (L2 := [(0, va_rf (some b0)), (1, va_rf p1), (2, va_rf p2), (3, .int x3)]) [0, 1, 2, 3] rfl ?_
          exact gL_law_b885 X hX hb0 hbb ih p1 p2 x3 μ622 _ _ _ _ hf (by omega) (by omega)
        · rw [if_neg h630] at hf
          refine wa_iconst (v := (0 : Int32)) X dL_law_758 (by decide) ?_
          cases hf
      rw [if_neg h601] at hf
      by_cases h631 : ((xs (x3).toNatClampNeg) &&& (31 : Int32)) = (20 : Int32)
      · rw [if_pos h631] at hf
        refine wa_tin (tgt := 760) X dL_law_33 h631 (by decide) (by decide) rfl (by decide) ?_
        refine wa_aload_n X 1 dL_law_760 rfl ?_
        refine wa_aload_n X 0 dL_law_761 rfl ?_
        refine wa_iload_n X 3 dL_law_762 rfl ?_
        refine wa_iconst (v := (1 : Int32)) X dL_law_763 (by decide) ?_
        refine wa_iadd X dL_law_764 ?_
        obtain ⟨h632, hf⟩ := jck_some hf
        refine wl_sld X dL_law_765 hX hb0 hbb h632 ?_
        refine wa_aload_n X 0 dL_law_766 rfl ?_
        refine wa_iload_n X 3 dL_law_767 rfl ?_
        refine wa_iconst (v := (2 : Int32)) X dL_law_768 (by decide) ?_
        refine wa_iadd X dL_law_769 ?_
        obtain ⟨h633, hf⟩ := jck_some hf
        refine wl_sld X dL_law_770 hX hb0 hbb h633 ?_
        refine wa_ifeq (tgt := 778) X dL_law_771 (by decide) (fun h634 => ?_) (fun h634 => ?_)
        · rw [if_pos h634] at hf
          refine wa_iconst (v := (0 : Int32)) X dL_law_778 (by decide) ?_
          refine wa_sub (L2 := [(0, va_rf (some b0)), (1, va_rf p1), (2, va_rf p2), (3, .int x3)]) [0, 1, 2, 3] rfl ?_
          exact gL_law_b779 X hX hb0 hbb ih p1 p2 x3 (0 : Int32) (xs ((x3 + (1 : Int32))).toNatClampNeg) p1 μ _ _ _ _ hf (by omega) (by omega)
        · rw [if_neg h634] at hf
          refine wa_iconst (v := (1 : Int32)) X dL_law_774 (by decide) ?_
          refine wa_goto (tgt := 779) X dL_law_775 (by decide) ?_
          refine wa_sub (L2 := [(0, va_rf (some b0)), (1, va_rf p1), (2, va_rf p2), (3, .int x3)]) [0, 1, 2, 3] rfl ?_
          exact gL_law_b779 X hX hb0 hbb ih p1 p2 x3 (1 : Int32) (xs ((x3 + (1 : Int32))).toNatClampNeg) p1 μ _ _ _ _ hf (by omega) (by omega)
      rw [if_neg h631] at hf
      by_cases h635 : ((xs (x3).toNatClampNeg) &&& (31 : Int32)) = (21 : Int32)
      · rw [if_pos h635] at hf
        refine wa_tin (tgt := 809) X dL_law_33 h635 (by decide) (by decide) rfl (by decide) ?_
        refine wa_aload_n X 1 dL_law_809 rfl ?_
        refine wa_aload_n X 0 dL_law_810 rfl ?_
        refine wa_iload_n X 3 dL_law_811 rfl ?_
        refine wa_iconst (v := (1 : Int32)) X dL_law_812 (by decide) ?_
        refine wa_iadd X dL_law_813 ?_
        obtain ⟨h636, hf⟩ := jck_some hf
        refine wl_sld X dL_law_814 hX hb0 hbb h636 ?_
        refine wa_aload_n X 0 dL_law_815 rfl ?_
        refine wa_iload_n X 3 dL_law_816 rfl ?_
        refine wa_iconst (v := (2 : Int32)) X dL_law_817 (by decide) ?_
        refine wa_iadd X dL_law_818 ?_
        obtain ⟨h637, hf⟩ := jck_some hf
        refine wl_sld X dL_law_819 hX hb0 hbb h637 ?_
        refine wa_aload_n X 0 dL_law_820 rfl ?_
        refine wa_iload_n X 3 dL_law_821 rfl ?_
        refine wa_iconst (v := (3 : Int32)) X dL_law_822 (by decide) ?_
        refine wa_iadd X dL_law_823 ?_
        obtain ⟨h638, hf⟩ := jck_some hf
        refine wl_sld X dL_law_824 hX hb0 hbb h638 ?_
        refine wa_aload_n X 0 dL_law_825 rfl ?_
        refine wa_iload_n X 3 dL_law_826 rfl ?_
        refine wa_iconst (v := (4 : Int32)) X dL_law_827 (by decide) ?_
        refine wa_iadd X dL_law_828 ?_
        obtain ⟨h639, hf⟩ := jck_some hf
        refine wl_sld X dL_law_829 hX hb0 hbb h639 ?_
        obtain ⟨q640, h641, hf⟩ := jde_some hf
        obtain ⟨h642, hf⟩ := jckT hf
        obtain ⟨r643, μ644, c645, m646, c647, m648, e649, hf, h650, h651⟩ := jcl_some hf
        refine wa_rcallV (st2 := [.int r643]) X dL_law_830 lmL_105 lMX10_due h641 h642 (mX10_due e649) rfl rfl rfl (va_cats (Nat.le_of_ble_eq_true rfl)) (by decide) (by omega) (by omega) ?_
        refine wa_aload_n X 2 dL_law_833 rfl ?_
        refine wa_aload_n X 0 dL_law_834 rfl ?_
        refine wa_iload_n X 3 dL_law_835 rfl ?_
        refine wa_iconst (v := (1 : Int32)) X dL_law_836 (by decide) ?_
        refine wa_iadd X dL_law_837 ?_
        obtain ⟨h652, hf⟩ := jck_some hf
        refine wl_sld X dL_law_838 hX hb0 hbb h652 ?_
        refine wa_aload_n X 0 dL_law_839 rfl ?_
        refine wa_iload_n X 3 dL_law_840 rfl ?_
        refine wa_iconst (v := (2 : Int32)) X dL_law_841 (by decide) ?_
        refine wa_iadd X dL_law_842 ?_
        obtain ⟨h653, hf⟩ := jck_some hf
        refine wl_sld X dL_law_843 hX hb0 hbb h653 ?_
        refine wa_aload_n X 0 dL_law_844 rfl ?_
        refine wa_iload_n X 3 dL_law_845 rfl ?_
        refine wa_iconst (v := (3 : Int32)) X dL_law_846 (by decide) ?_
        refine wa_iadd X dL_law_847 ?_
        obtain ⟨h654, hf⟩ := jck_some hf
        refine wl_sld X dL_law_848 hX hb0 hbb h654 ?_
        refine wa_aload_n X 0 dL_law_849 rfl ?_
        refine wa_iload_n X 3 dL_law_850 rfl ?_
        refine wa_iconst (v := (4 : Int32)) X dL_law_851 (by decide) ?_
        refine wa_iadd X dL_law_852 ?_
        obtain ⟨h655, hf⟩ := jck_some hf
        refine wl_sld X dL_law_853 hX hb0 hbb h655 ?_
        obtain ⟨q656, h657, hf⟩ := jde_some hf
        obtain ⟨h658, hf⟩ := jckT hf
        obtain ⟨r659, μ660, c661, m662, c663, m664, e665, hf, h666, h667⟩ := jcl_some hf
        refine wa_rcallV (st2 := [.int r659, .int r643]) X dL_law_854 lmL_108 lMX11_due h657 h658 (mX11_due e665) rfl rfl rfl (va_cats (Nat.le_of_ble_eq_true rfl)) (by decide) (by omega) (by omega) ?_
        refine wa_iceq (tgt := 885) X dL_law_857 (by decide) (fun h668 => ?_) (fun h668 => ?_)
        · rw [if_pos h668] at hf
          refine wa_sub (L2 := [(0, va_rf (some b0)), (1, va_rf p1), (2, va_rf p2), (3, .int x3)]) [0, 1, 2, 3] rfl ?_
          exact gL_law_b885 X hX hb0 hbb ih p1 p2 x3 μ660 _ _ _ _ hf (by omega) (by omega)
        · rw [if_neg h668] at hf
          refine wa_iconst (v := (0 : Int32)) X dL_law_860 (by decide) ?_
          cases hf
      rw [if_neg h635] at hf
      by_cases h669 : ((xs (x3).toNatClampNeg) &&& (31 : Int32)) = (22 : Int32)
      · rw [if_pos h669] at hf
        refine wa_tin (tgt := 862) X dL_law_33 h669 (by decide) (by decide) rfl (by decide) ?_
        refine wa_aload_n X 1 dL_law_862 rfl ?_
        refine wa_aload_n X 0 dL_law_863 rfl ?_
        refine wa_iload_n X 3 dL_law_864 rfl ?_
        refine wa_iconst (v := (1 : Int32)) X dL_law_865 (by decide) ?_
        refine wa_iadd X dL_law_866 ?_
        obtain ⟨h670, hf⟩ := jck_some hf
        refine wl_sld X dL_law_867 hX hb0 hbb h670 ?_
        obtain ⟨q671, h672, hf⟩ := jde_some hf
        obtain ⟨h673, hf⟩ := jckT hf
        obtain ⟨r674, μ675, c676, m677, c678, m679, e680, hf, h681, h682⟩ := jcl_some hf
        refine wa_rcallV (st2 := [.int r674]) X dL_law_868 lmL_109 lMX10_count h672 h673 (mX10_count e680) rfl rfl rfl (va_cats (Nat.le_of_ble_eq_true rfl)) (by decide) (by omega) (by omega) ?_
        refine wa_aload_n X 2 dL_law_871 rfl ?_
        refine wa_aload_n X 0 dL_law_872 rfl ?_
        refine wa_iload_n X 3 dL_law_873 rfl ?_
        refine wa_iconst (v := (1 : Int32)) X dL_law_874 (by decide) ?_
        refine wa_iadd X dL_law_875 ?_
        obtain ⟨h683, hf⟩ := jck_some hf
        refine wl_sld X dL_law_876 hX hb0 hbb h683 ?_
        obtain ⟨q684, h685, hf⟩ := jde_some hf
        obtain ⟨h686, hf⟩ := jckT hf
        obtain ⟨r687, μ688, c689, m690, c691, m692, e693, hf, h694, h695⟩ := jcl_some hf
        refine wa_rcallV (st2 := [.int r687, .int r674]) X dL_law_877 lmL_112 lMX11_count h685 h686 (mX11_count e693) rfl rfl rfl (va_cats (Nat.le_of_ble_eq_true rfl)) (by decide) (by omega) (by omega) ?_
        refine wa_iceq (tgt := 885) X dL_law_880 (by decide) (fun h696 => ?_) (fun h696 => ?_)
        · rw [if_pos h696] at hf
          refine wa_sub (L2 := [(0, va_rf (some b0)), (1, va_rf p1), (2, va_rf p2), (3, .int x3)]) [0, 1, 2, 3] rfl ?_
          exact gL_law_b885 X hX hb0 hbb ih p1 p2 x3 μ688 _ _ _ _ hf (by omega) (by omega)
        · rw [if_neg h696] at hf
          refine wa_iconst (v := (0 : Int32)) X dL_law_883 (by decide) ?_
          cases hf
      rw [if_neg h669] at hf
      have ih39 := lv_neT h39 (show ((0 : Int32)).toInt = 0 from rfl)
      have ih75 := lv_neT h75 (show ((1 : Int32)).toInt = 1 from rfl)
      have ih103 := lv_neT h103 (show ((2 : Int32)).toInt = 2 from rfl)
      have ih129 := lv_neT h129 (show ((3 : Int32)).toInt = 3 from rfl)
      have ih157 := lv_neT h157 (show ((4 : Int32)).toInt = 4 from rfl)
      have ih187 := lv_neT h187 (show ((5 : Int32)).toInt = 5 from rfl)
      have ih213 := lv_neT h213 (show ((6 : Int32)).toInt = 6 from rfl)
      have ih239 := lv_neT h239 (show ((7 : Int32)).toInt = 7 from rfl)
      have ih267 := lv_neT h267 (show ((8 : Int32)).toInt = 8 from rfl)
      have ih295 := lv_neT h295 (show ((9 : Int32)).toInt = 9 from rfl)
      have ih321 := lv_neT h321 (show ((10 : Int32)).toInt = 10 from rfl)
      have ih353 := lv_neT h353 (show ((11 : Int32)).toInt = 11 from rfl)
      have ih385 := lv_neT h385 (show ((12 : Int32)).toInt = 12 from rfl)
      have ih417 := lv_neT h417 (show ((13 : Int32)).toInt = 13 from rfl)
      have ih447 := lv_neT h447 (show ((14 : Int32)).toInt = 14 from rfl)
      have ih481 := lv_neT h481 (show ((15 : Int32)).toInt = 15 from rfl)
      have ih511 := lv_neT h511 (show ((16 : Int32)).toInt = 16 from rfl)
      have ih545 := lv_neT h545 (show ((17 : Int32)).toInt = 17 from rfl)
      have ih573 := lv_neT h573 (show ((18 : Int32)).toInt = 18 from rfl)
      have ih601 := lv_neT h601 (show ((19 : Int32)).toInt = 19 from rfl)
      have ih631 := lv_neT h631 (show ((20 : Int32)).toInt = 20 from rfl)
      have ih635 := lv_neT h635 (show ((21 : Int32)).toInt = 21 from rfl)
      have ih669 := lv_neT h669 (show ((22 : Int32)).toInt = 22 from rfl)
      refine wa_tout (tgt := 885) X dL_law_33 (by omega) (by decide) ?_
      refine wa_sub (L2 := [(0, va_rf (some b0)), (1, va_rf p1), (2, va_rf p2), (3, .int x3)]) [0, 1, 2, 3] rfl ?_
      exact gL_law_b885 X hX hb0 hbb ih p1 p2 x3 μ _ _ _ _ hf (by omega) (by omega)
def fL_law (xs : Nat → Int32) (LL : Nat) (μ : JM) : JO (Unit) := jnwo μ 11 17 fun q1 μ2 => jcl (fX10_init q1 μ2) fun u10 μ11 => jnwo μ11 12 71 fun q19 μ20 => jcl (fX11_init q19 μ20) fun u28 μ29 => fL_law_b18 xs LL  jfuel (some q1) (some q19) (0 : Int32) μ29
set_option maxHeartbeats 4000000 in
set_option maxRecDepth 100000 in
theorem gL_law {p : Program} {l : Launch} {e : Env} {s : State} {mm : MethodId} {below : List Frame} {meth : Method} {co : Code} {b0 LL b : Nat} {xs : Nat → Int32} {r : Unit} {ν : JM} (X : jX b (lwT p l e s mm below meth co b0) RL code 4 ret 12 462 600000 7302250) (hX : va_X b0 LL xs s s.heap) (hb0 : b0 < s.heap.size) (hbb : b = s.heap.size) {μ : JM} {c m : Nat} (hf : fL_law xs LL μ = some (r, ν, c, m)) (hk : 0 + c ≤ 600000) (hn : 0 + m ≤ 7302250) : WA b (lwT p l e s mm below meth co b0) 4 (lw_Z below #[Value.ref b0] s) μ 0 0 0 [(0, va_rf (some b0))] [] := by
  rw [fL_law] at hf
  obtain ⟨q1, μ2, c5, m6, h3, hm4, hf, h7, h8⟩ := jnwo_some hf
  refine wa_new (t := 11) (N := 17) X dL_law_0 (by decide) rfl lcL_7 li_RX10 ln_RX10 (by omega) (by omega) ?_
  rw [← h3, ← hm4]
  have h9 : (jT μ2 q1).1 = 11 := by rw [jT_at h3 hm4]
  refine wa_dup X dL_law_3 (va_rf_cat _) ?_
  obtain ⟨u10, μ11, c12, m13, c14, m15, e16, hf, h17, h18⟩ := jcl_some hf
  refine wa_rcallI (st2 := [va_rf (some q1)]) X dL_law_4 lmL_9 lMX10_init rfl (mX10_init e16) rfl rfl rfl (va_cats (Nat.le_of_ble_eq_true rfl)) (by decide) (by omega) (by omega) ?_
  refine wa_astore_n (L2 := [(1, va_rf (some q1)), (0, va_rf (some b0))]) X dL_law_7 (by decide) (by first | rfl | (show (1, _) :: List.filter (fun q : Nat × Value => !(q.1 == 1) && !(q.1 + 1 == 1 && q.2.category == 2)) _ = _; simp [va_rf_cat, cat_i, cat_l])) ?_
  obtain ⟨q19, μ20, c23, m24, h21, hm22, hf, h25, h26⟩ := jnwo_some hf
  refine wa_new (t := 12) (N := 71) X dL_law_8 (by decide) rfl lcL_10 li_RX11 ln_RX11 (by omega) (by omega) ?_
  rw [← h21, ← hm22]
  have h27 : (jT μ20 q19).1 = 12 := by rw [jT_at h21 hm22]
  refine wa_dup X dL_law_11 (va_rf_cat _) ?_
  obtain ⟨u28, μ29, c30, m31, c32, m33, e34, hf, h35, h36⟩ := jcl_some hf
  refine wa_rcallI (st2 := [va_rf (some q19)]) X dL_law_12 lmL_12 lMX11_init rfl (mX11_init e34) rfl rfl rfl (va_cats (Nat.le_of_ble_eq_true rfl)) (by decide) (by omega) (by omega) ?_
  refine wa_astore_n (L2 := [(2, va_rf (some q19)), (1, va_rf (some q1)), (0, va_rf (some b0))]) X dL_law_15 (by decide) (by first | rfl | (show (2, _) :: List.filter (fun q : Nat × Value => !(q.1 == 2) && !(q.1 + 1 == 2 && q.2.category == 2)) _ = _; simp [va_rf_cat, cat_i, cat_l])) ?_
  refine wa_iconst (v := (0 : Int32)) X dL_law_16 (by decide) ?_
  refine wa_istore_n (L2 := [(3, .int (0 : Int32)), (2, va_rf (some q19)), (1, va_rf (some q1)), (0, va_rf (some b0))]) X dL_law_17 (by decide) (by first | rfl | (show (3, _) :: List.filter (fun q : Nat × Value => !(q.1 == 3) && !(q.1 + 1 == 3 && q.2.category == 2)) _ = _; simp [va_rf_cat, cat_i, cat_l])) ?_
  refine wa_sub (L2 := [(0, va_rf (some b0)), (1, va_rf (some q1)), (2, va_rf (some q19)), (3, .int (0 : Int32))]) [3, 2, 1, 0] rfl ?_
  exact gL_law_b18 X hX hb0 hbb jfuel (some q1) (some q19) (0 : Int32) μ29 _ _ _ _ hf (by omega) (by omega)
