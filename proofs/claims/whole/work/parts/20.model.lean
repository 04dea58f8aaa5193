/-! functions and walks, by program -/
theorem dX11_init_0 : decode cX11_init 0 = .ok (.aload_n 0, 1) := by decide +kernel
theorem dX11_init_1 : decode cX11_init 1 = .ok (.invokespecial 1, 3) := by decide +kernel
theorem dX11_init_4 : decode cX11_init 4 = .ok (.aload_n 0, 1) := by decide +kernel
theorem dX11_init_5 : decode cX11_init 5 = .ok (.sipush 900, 3) := by decide +kernel
theorem dX11_init_8 : decode cX11_init 8 = .ok (.newarray .byte, 2) := by decide +kernel
theorem dX11_init_10 : decode cX11_init 10 = .ok (.putfield 7, 3) := by decide +kernel
theorem dX11_init_13 : decode cX11_init 13 = .ok (.aload_n 0, 1) := by decide +kernel
theorem dX11_init_14 : decode cX11_init 14 = .ok (.iconst (-1), 1) := by decide +kernel
theorem dX11_init_15 : decode cX11_init 15 = .ok (.putfield 13, 3) := by decide +kernel
theorem dX11_init_18 : decode cX11_init 18 = .ok (.aload_n 0, 1) := by decide +kernel
theorem dX11_init_19 : decode cX11_init 19 = .ok (.bipush 108, 2) := by decide +kernel
theorem dX11_init_21 : decode cX11_init 21 = .ok (.newarray .byte, 2) := by decide +kernel
theorem dX11_init_23 : decode cX11_init 23 = .ok (.putfield 17, 3) := by decide +kernel
theorem dX11_init_26 : decode cX11_init 26 = .ok (.aload_n 0, 1) := by decide +kernel
theorem dX11_init_27 : decode cX11_init 27 = .ok (.bipush 9, 2) := by decide +kernel
theorem dX11_init_29 : decode cX11_init 29 = .ok (.newarray .int, 2) := by decide +kernel
theorem dX11_init_31 : decode cX11_init 31 = .ok (.putfield 20, 3) := by decide +kernel
theorem dX11_init_34 : decode cX11_init 34 = .ok (.aload_n 0, 1) := by decide +kernel
theorem dX11_init_35 : decode cX11_init 35 = .ok (.bipush 84, 2) := by decide +kernel
theorem dX11_init_37 : decode cX11_init 37 = .ok (.newarray .byte, 2) := by decide +kernel
theorem dX11_init_39 : decode cX11_init 39 = .ok (.putfield 24, 3) := by decide +kernel
theorem dX11_init_42 : decode cX11_init 42 = .ok (.aload_n 0, 1) := by decide +kernel
theorem dX11_init_43 : decode cX11_init 43 = .ok (.bipush 7, 2) := by decide +kernel
theorem dX11_init_45 : decode cX11_init 45 = .ok (.newarray .int, 2) := by decide +kernel
theorem dX11_init_47 : decode cX11_init 47 = .ok (.putfield 27, 3) := by decide +kernel
theorem dX11_init_50 : decode cX11_init 50 = .ok (.aload_n 0, 1) := by decide +kernel
theorem dX11_init_51 : decode cX11_init 51 = .ok (.sipush 156, 3) := by decide +kernel
theorem dX11_init_54 : decode cX11_init 54 = .ok (.newarray .byte, 2) := by decide +kernel
theorem dX11_init_56 : decode cX11_init 56 = .ok (.putfield 30, 3) := by decide +kernel
theorem dX11_init_59 : decode cX11_init 59 = .ok (.aload_n 0, 1) := by decide +kernel
theorem dX11_init_60 : decode cX11_init 60 = .ok (.bipush 13, 2) := by decide +kernel
theorem dX11_init_62 : decode cX11_init 62 = .ok (.newarray .int, 2) := by decide +kernel
theorem dX11_init_64 : decode cX11_init 64 = .ok (.putfield 33, 3) := by decide +kernel
theorem dX11_init_67 : decode cX11_init 67 = .ok (.aload_n 0, 1) := by decide +kernel
theorem dX11_init_68 : decode cX11_init 68 = .ok (.sipush 2400, 3) := by decide +kernel
theorem dX11_init_71 : decode cX11_init 71 = .ok (.newarray .byte, 2) := by decide +kernel
theorem dX11_init_73 : decode cX11_init 73 = .ok (.putfield 36, 3) := by decide +kernel
theorem dX11_init_76 : decode cX11_init 76 = .ok (.aload_n 0, 1) := by decide +kernel
theorem dX11_init_77 : decode cX11_init 77 = .ok (.sipush 4000, 3) := by decide +kernel
theorem dX11_init_80 : decode cX11_init 80 = .ok (.newarray .byte, 2) := by decide +kernel
theorem dX11_init_82 : decode cX11_init 82 = .ok (.putfield 39, 3) := by decide +kernel
theorem dX11_init_85 : decode cX11_init 85 = .ok (.aload_n 0, 1) := by decide +kernel
theorem dX11_init_86 : decode cX11_init 86 = .ok (.iconst 4, 1) := by decide +kernel
theorem dX11_init_87 : decode cX11_init 87 = .ok (.newarray .long, 2) := by decide +kernel
theorem dX11_init_89 : decode cX11_init 89 = .ok (.putfield 42, 3) := by decide +kernel
theorem dX11_init_92 : decode cX11_init 92 = .ok (.aload_n 0, 1) := by decide +kernel
theorem dX11_init_93 : decode cX11_init 93 = .ok (.iconst 4, 1) := by decide +kernel
theorem dX11_init_94 : decode cX11_init 94 = .ok (.newarray .long, 2) := by decide +kernel
theorem dX11_init_96 : decode cX11_init 96 = .ok (.putfield 46, 3) := by decide +kernel
theorem dX11_init_99 : decode cX11_init 99 = .ok (.aload_n 0, 1) := by decide +kernel
theorem dX11_init_100 : decode cX11_init 100 = .ok (.bipush 32, 2) := by decide +kernel
theorem dX11_init_102 : decode cX11_init 102 = .ok (.newarray .long, 2) := by decide +kernel
theorem dX11_init_104 : decode cX11_init 104 = .ok (.putfield 49, 3) := by decide +kernel
theorem dX11_init_107 : decode cX11_init 107 = .ok (.aload_n 0, 1) := by decide +kernel
theorem dX11_init_108 : decode cX11_init 108 = .ok (.bipush 48, 2) := by decide +kernel
theorem dX11_init_110 : decode cX11_init 110 = .ok (.newarray .long, 2) := by decide +kernel
theorem dX11_init_112 : decode cX11_init 112 = .ok (.putfield 52, 3) := by decide +kernel
theorem dX11_init_115 : decode cX11_init 115 = .ok (.aload_n 0, 1) := by decide +kernel
theorem dX11_init_116 : decode cX11_init 116 = .ok (.bipush 48, 2) := by decide +kernel
theorem dX11_init_118 : decode cX11_init 118 = .ok (.newarray .long, 2) := by decide +kernel
theorem dX11_init_120 : decode cX11_init 120 = .ok (.putfield 55, 3) := by decide +kernel
theorem dX11_init_123 : decode cX11_init 123 = .ok (.aload_n 0, 1) := by decide +kernel
theorem dX11_init_124 : decode cX11_init 124 = .ok (.bipush 12, 2) := by decide +kernel
theorem dX11_init_126 : decode cX11_init 126 = .ok (.newarray .int, 2) := by decide +kernel
theorem dX11_init_128 : decode cX11_init 128 = .ok (.putfield 58, 3) := by decide +kernel
theorem dX11_init_131 : decode cX11_init 131 = .ok (.aload_n 0, 1) := by decide +kernel
theorem dX11_init_132 : decode cX11_init 132 = .ok (.iconst 4, 1) := by decide +kernel
theorem dX11_init_133 : decode cX11_init 133 = .ok (.newarray .long, 2) := by decide +kernel
theorem dX11_init_135 : decode cX11_init 135 = .ok (.putfield 61, 3) := by decide +kernel
theorem dX11_init_138 : decode cX11_init 138 = .ok (.aload_n 0, 1) := by decide +kernel
theorem dX11_init_139 : decode cX11_init 139 = .ok (.sipush 300, 3) := by decide +kernel
theorem dX11_init_142 : decode cX11_init 142 = .ok (.newarray .byte, 2) := by decide +kernel
theorem dX11_init_144 : decode cX11_init 144 = .ok (.putfield 64, 3) := by decide +kernel
theorem dX11_init_147 : decode cX11_init 147 = .ok (.aload_n 0, 1) := by decide +kernel
theorem dX11_init_148 : decode cX11_init 148 = .ok (.bipush 25, 2) := by decide +kernel
theorem dX11_init_150 : decode cX11_init 150 = .ok (.newarray .int, 2) := by decide +kernel
theorem dX11_init_152 : decode cX11_init 152 = .ok (.putfield 67, 3) := by decide +kernel
theorem dX11_init_155 : decode cX11_init 155 = .ok (.aload_n 0, 1) := by decide +kernel
theorem dX11_init_156 : decode cX11_init 156 = .ok (.bipush 100, 2) := by decide +kernel
theorem dX11_init_158 : decode cX11_init 158 = .ok (.newarray .long, 2) := by decide +kernel
theorem dX11_init_160 : decode cX11_init 160 = .ok (.putfield 70, 3) := by decide +kernel
theorem dX11_init_163 : decode cX11_init 163 = .ok (.aload_n 0, 1) := by decide +kernel
theorem dX11_init_164 : decode cX11_init 164 = .ok (.iconst 5, 1) := by decide +kernel
theorem dX11_init_165 : decode cX11_init 165 = .ok (.newarray .int, 2) := by decide +kernel
theorem dX11_init_167 : decode cX11_init 167 = .ok (.putfield 73, 3) := by decide +kernel
theorem dX11_init_170 : decode cX11_init 170 = .ok (.aload_n 0, 1) := by decide +kernel
theorem dX11_init_171 : decode cX11_init 171 = .ok (.bipush 120, 2) := by decide +kernel
theorem dX11_init_173 : decode cX11_init 173 = .ok (.newarray .int, 2) := by decide +kernel
theorem dX11_init_175 : decode cX11_init 175 = .ok (.putfield 76, 3) := by decide +kernel
theorem dX11_init_178 : decode cX11_init 178 = .ok (.aload_n 0, 1) := by decide +kernel
theorem dX11_init_179 : decode cX11_init 179 = .ok (.bipush 120, 2) := by decide +kernel
theorem dX11_init_181 : decode cX11_init 181 = .ok (.newarray .int, 2) := by decide +kernel
theorem dX11_init_183 : decode cX11_init 183 = .ok (.putfield 79, 3) := by decide +kernel
theorem dX11_init_186 : decode cX11_init 186 = .ok (.aload_n 0, 1) := by decide +kernel
theorem dX11_init_187 : decode cX11_init 187 = .ok (.bipush 120, 2) := by decide +kernel
theorem dX11_init_189 : decode cX11_init 189 = .ok (.newarray .int, 2) := by decide +kernel
theorem dX11_init_191 : decode cX11_init 191 = .ok (.putfield 82, 3) := by decide +kernel
theorem dX11_init_194 : decode cX11_init 194 = .ok (.aload_n 0, 1) := by decide +kernel
theorem dX11_init_195 : decode cX11_init 195 = .ok (.bipush 120, 2) := by decide +kernel
theorem dX11_init_197 : decode cX11_init 197 = .ok (.newarray .int, 2) := by decide +kernel
theorem dX11_init_199 : decode cX11_init 199 = .ok (.putfield 85, 3) := by decide +kernel
theorem dX11_init_202 : decode cX11_init 202 = .ok (.aload_n 0, 1) := by decide +kernel
theorem dX11_init_203 : decode cX11_init 203 = .ok (.bipush 120, 2) := by decide +kernel
theorem dX11_init_205 : decode cX11_init 205 = .ok (.newarray .int, 2) := by decide +kernel
theorem dX11_init_207 : decode cX11_init 207 = .ok (.putfield 88, 3) := by decide +kernel
theorem dX11_init_210 : decode cX11_init 210 = .ok (.aload_n 0, 1) := by decide +kernel
theorem dX11_init_211 : decode cX11_init 211 = .ok (.bipush 120, 2) := by decide +kernel
theorem dX11_init_213 : decode cX11_init 213 = .ok (.newarray .int, 2) := by decide +kernel
theorem dX11_init_215 : decode cX11_init 215 = .ok (.putfield 91, 3) := by decide +kernel
theorem dX11_init_218 : decode cX11_init 218 = .ok (.aload_n 0, 1) := by decide +kernel
theorem dX11_init_219 : decode cX11_init 219 = .ok (.bipush 120, 2) := by decide +kernel
theorem dX11_init_221 : decode cX11_init 221 = .ok (.newarray .int, 2) := by decide +kernel
theorem dX11_init_223 : decode cX11_init 223 = .ok (.putfield 94, 3) := by decide +kernel
theorem dX11_init_226 : decode cX11_init 226 = .ok (.aload_n 0, 1) := by decide +kernel
theorem dX11_init_227 : decode cX11_init 227 = .ok (.sipush 1440, 3) := by decide +kernel
theorem dX11_init_230 : decode cX11_init 230 = .ok (.newarray .byte, 2) := by decide +kernel
theorem dX11_init_232 : decode cX11_init 232 = .ok (.putfield 97, 3) := by decide +kernel
theorem dX11_init_235 : decode cX11_init 235 = .ok (.aload_n 0, 1) := by decide +kernel
theorem dX11_init_236 : decode cX11_init 236 = .ok (.bipush 120, 2) := by decide +kernel
theorem dX11_init_238 : decode cX11_init 238 = .ok (.newarray .int, 2) := by decide +kernel
theorem dX11_init_240 : decode cX11_init 240 = .ok (.putfield 100, 3) := by decide +kernel
theorem dX11_init_243 : decode cX11_init 243 = .ok (.aload_n 0, 1) := by decide +kernel
theorem dX11_init_244 : decode cX11_init 244 = .ok (.sipush 480, 3) := by decide +kernel
theorem dX11_init_247 : decode cX11_init 247 = .ok (.newarray .long, 2) := by decide +kernel
theorem dX11_init_249 : decode cX11_init 249 = .ok (.putfield 103, 3) := by decide +kernel
theorem dX11_init_252 : decode cX11_init 252 = .ok (.aload_n 0, 1) := by decide +kernel
theorem dX11_init_253 : decode cX11_init 253 = .ok (.ldc 106, 2) := by decide +kernel
theorem dX11_init_255 : decode cX11_init 255 = .ok (.newarray .byte, 2) := by decide +kernel
theorem dX11_init_257 : decode cX11_init 257 = .ok (.putfield 107, 3) := by decide +kernel
theorem dX11_init_260 : decode cX11_init 260 = .ok (.aload_n 0, 1) := by decide +kernel
theorem dX11_init_261 : decode cX11_init 261 = .ok (.sipush 600, 3) := by decide +kernel
theorem dX11_init_264 : decode cX11_init 264 = .ok (.newarray .int, 2) := by decide +kernel
theorem dX11_init_266 : decode cX11_init 266 = .ok (.putfield 110, 3) := by decide +kernel
theorem dX11_init_269 : decode cX11_init 269 = .ok (.aload_n 0, 1) := by decide +kernel
theorem dX11_init_270 : decode cX11_init 270 = .ok (.sipush 600, 3) := by decide +kernel
theorem dX11_init_273 : decode cX11_init 273 = .ok (.newarray .int, 2) := by decide +kernel
theorem dX11_init_275 : decode cX11_init 275 = .ok (.putfield 113, 3) := by decide +kernel
theorem dX11_init_278 : decode cX11_init 278 = .ok (.aload_n 0, 1) := by decide +kernel
theorem dX11_init_279 : decode cX11_init 279 = .ok (.iconst 4, 1) := by decide +kernel
theorem dX11_init_280 : decode cX11_init 280 = .ok (.newarray .int, 2) := by decide +kernel
theorem dX11_init_282 : decode cX11_init 282 = .ok (.putfield 116, 3) := by decide +kernel
theorem dX11_init_285 : decode cX11_init 285 = .ok (.aload_n 0, 1) := by decide +kernel
theorem dX11_init_286 : decode cX11_init 286 = .ok (.bipush 40, 2) := by decide +kernel
theorem dX11_init_288 : decode cX11_init 288 = .ok (.newarray .int, 2) := by decide +kernel
theorem dX11_init_290 : decode cX11_init 290 = .ok (.putfield 119, 3) := by decide +kernel
theorem dX11_init_293 : decode cX11_init 293 = .ok (.aload_n 0, 1) := by decide +kernel
theorem dX11_init_294 : decode cX11_init 294 = .ok (.bipush 40, 2) := by decide +kernel
theorem dX11_init_296 : decode cX11_init 296 = .ok (.newarray .int, 2) := by decide +kernel
theorem dX11_init_298 : decode cX11_init 298 = .ok (.putfield 122, 3) := by decide +kernel
theorem dX11_init_301 : decode cX11_init 301 = .ok (.aload_n 0, 1) := by decide +kernel
theorem dX11_init_302 : decode cX11_init 302 = .ok (.sipush 8000, 3) := by decide +kernel
theorem dX11_init_305 : decode cX11_init 305 = .ok (.newarray .byte, 2) := by decide +kernel
theorem dX11_init_307 : decode cX11_init 307 = .ok (.putfield 125, 3) := by decide +kernel
theorem dX11_init_310 : decode cX11_init 310 = .ok (.aload_n 0, 1) := by decide +kernel
theorem dX11_init_311 : decode cX11_init 311 = .ok (.sipush 600, 3) := by decide +kernel
theorem dX11_init_314 : decode cX11_init 314 = .ok (.newarray .int, 2) := by decide +kernel
theorem dX11_init_316 : decode cX11_init 316 = .ok (.putfield 128, 3) := by decide +kernel
theorem dX11_init_319 : decode cX11_init 319 = .ok (.aload_n 0, 1) := by decide +kernel
theorem dX11_init_320 : decode cX11_init 320 = .ok (.sipush 600, 3) := by decide +kernel
theorem dX11_init_323 : decode cX11_init 323 = .ok (.newarray .int, 2) := by decide +kernel
theorem dX11_init_325 : decode cX11_init 325 = .ok (.putfield 131, 3) := by decide +kernel
theorem dX11_init_328 : decode cX11_init 328 = .ok (.aload_n 0, 1) := by decide +kernel
theorem dX11_init_329 : decode cX11_init 329 = .ok (.sipush 600, 3) := by decide +kernel
theorem dX11_init_332 : decode cX11_init 332 = .ok (.newarray .int, 2) := by decide +kernel
theorem dX11_init_334 : decode cX11_init 334 = .ok (.putfield 134, 3) := by decide +kernel
theorem dX11_init_337 : decode cX11_init 337 = .ok (.aload_n 0, 1) := by decide +kernel
theorem dX11_init_338 : decode cX11_init 338 = .ok (.sipush 2400, 3) := by decide +kernel
theorem dX11_init_341 : decode cX11_init 341 = .ok (.newarray .byte, 2) := by decide +kernel
theorem dX11_init_343 : decode cX11_init 343 = .ok (.putfield 137, 3) := by decide +kernel
theorem dX11_init_346 : decode cX11_init 346 = .ok (.aload_n 0, 1) := by decide +kernel
theorem dX11_init_347 : decode cX11_init 347 = .ok (.bipush 24, 2) := by decide +kernel
theorem dX11_init_349 : decode cX11_init 349 = .ok (.newarray .int, 2) := by decide +kernel
theorem dX11_init_351 : decode cX11_init 351 = .ok (.putfield 140, 3) := by decide +kernel
theorem dX11_init_354 : decode cX11_init 354 = .ok (.aload_n 0, 1) := by decide +kernel
theorem dX11_init_355 : decode cX11_init 355 = .ok (.bipush 24, 2) := by decide +kernel
theorem dX11_init_357 : decode cX11_init 357 = .ok (.newarray .int, 2) := by decide +kernel
theorem dX11_init_359 : decode cX11_init 359 = .ok (.putfield 143, 3) := by decide +kernel
theorem dX11_init_362 : decode cX11_init 362 = .ok (.aload_n 0, 1) := by decide +kernel
theorem dX11_init_363 : decode cX11_init 363 = .ok (.iconst (-1), 1) := by decide +kernel
theorem dX11_init_364 : decode cX11_init 364 = .ok (.putfield 146, 3) := by decide +kernel
theorem dX11_init_367 : decode cX11_init 367 = .ok (.aload_n 0, 1) := by decide +kernel
theorem dX11_init_368 : decode cX11_init 368 = .ok (.iconst (-1), 1) := by decide +kernel
theorem dX11_init_369 : decode cX11_init 369 = .ok (.putfield 149, 3) := by decide +kernel
theorem dX11_init_372 : decode cX11_init 372 = .ok (.aload_n 0, 1) := by decide +kernel
theorem dX11_init_373 : decode cX11_init 373 = .ok (.sipush 10000, 3) := by decide +kernel
theorem dX11_init_376 : decode cX11_init 376 = .ok (.newarray .boolean, 2) := by decide +kernel
theorem dX11_init_378 : decode cX11_init 378 = .ok (.putfield 152, 3) := by decide +kernel
theorem dX11_init_381 : decode cX11_init 381 = .ok (.iconst 0, 1) := by decide +kernel
theorem dX11_init_382 : decode cX11_init 382 = .ok (.istore_n 1, 1) := by decide +kernel
theorem dX11_init_383 : decode cX11_init 383 = .ok (.iload_n 1, 1) := by decide +kernel
theorem dX11_init_384 : decode cX11_init 384 = .ok (.iconst 4, 1) := by decide +kernel
theorem dX11_init_385 : decode cX11_init 385 = .ok (.if_icmp .ge 16, 3) := by decide +kernel
theorem dX11_init_388 : decode cX11_init 388 = .ok (.aload_n 0, 1) := by decide +kernel
theorem dX11_init_389 : decode cX11_init 389 = .ok (.getfield 116, 3) := by decide +kernel
theorem dX11_init_392 : decode cX11_init 392 = .ok (.iload_n 1, 1) := by decide +kernel
theorem dX11_init_393 : decode cX11_init 393 = .ok (.iconst (-1), 1) := by decide +kernel
theorem dX11_init_394 : decode cX11_init 394 = .ok (.iastore, 1) := by decide +kernel
theorem dX11_init_395 : decode cX11_init 395 = .ok (.iinc 1 1, 3) := by decide +kernel
theorem dX11_init_398 : decode cX11_init 398 = .ok (.goto (-15), 3) := by decide +kernel
theorem dX11_init_401 : decode cX11_init 401 = .ok (.return_, 1) := by decide +kernel
def fX11_init_b383 : Nat → Nat → Int32 → JM → JO (Unit)
  | 0, _, _, _ => none
  | fu + 1, a, x1, μ => if (4 : Int32) ≤ x1 then (some ((), μ, 0, 0)) else (jck ((jT μ a).1 == 12) <| jde (jP μ a 50) fun q584 => jck ((jT μ q584).1 == 101) <| jck (jin x1 (jT μ q584).2) <| jlt (jsI μ q584 (x1).toNatClampNeg (-1 : Int32)) fun μ588 => fX11_init_b383 fu a (x1 + (1 : Int32)) μ588)
set_option maxHeartbeats 4000000 in
set_option maxRecDepth 100000 in
theorem gX11_init_b383 {b : Nat} {Θ : JE} {RC RS : Nat} {r : Unit} {ν : JM} (X : jX b Θ RX11 cX11_init 2 none 1 20 RC RS) (hin : (eH Θ).name = "<init>") : ∀ (fu : Nat) (a : Nat) (x1 : Int32) (μ : JM) (c m k n : Nat), fX11_init_b383 fu a x1 μ = some (r, ν, c, m) → k + c = RC → n + m = RS → WA b Θ 2 (jE b Θ (none) ν RC RS) μ k n 383 [(0, va_rf (some a)), (1, .int x1)] [] := by
  intro fu
  induction fu with
  | zero => intro a x1 μ c m k n hf; cases hf
  | succ fu ih =>
    intro a x1 μ c m k n hf hk hn
    rw [fX11_init_b383] at hf
    refine wa_iload_n X 1 dX11_init_383 rfl ?_
    refine wa_iconst (v := (4 : Int32)) X dX11_init_384 (by decide) ?_
    refine wa_icge (tgt := 401) X dX11_init_385 (by decide) (fun h582 => ?_) (fun h582 => ?_)
    · rw [if_pos h582] at hf
      obtain ⟨rfl, rfl, rfl, rfl⟩ := jret hf
      exact wa_vret X dX11_init_401 (by omega) (by omega)
    · rw [if_neg h582] at hf
      refine wa_aload_n X 0 dX11_init_388 rfl ?_
      obtain ⟨h583, hf⟩ := jckT hf
      refine wa_getP X dX11_init_389 lfX11_116 rfl h583 rfl ?_
      refine wa_iload_n X 1 dX11_init_392 rfl ?_
      refine wa_iconst (v := (-1 : Int32)) X dX11_init_393 (by decide) ?_
      obtain ⟨q584, h585, hf⟩ := jde_some hf
      obtain ⟨h586, hf⟩ := jckT hf
      obtain ⟨h587, hf⟩ := jck_some hf
      obtain ⟨μ588, hm589, hf⟩ := jlt_e hf
      have e590 : jT μ588 = jT μ := by rw [hm589]; rfl
      refine wa_riast (ν := μ588) X dX11_init_394 h585 h586 h587 hm589 ?_
      refine wa_iinc (v := (x1 + (1 : Int32))) (L2 := [(1, .int (x1 + (1 : Int32))), (0, va_rf (some a))]) X 1 dX11_init_395 rfl rfl (by decide) (by first | rfl | simp [va_rf_cat, cat_i, cat_l]) ?_
      refine wa_goto (tgt := 383) X dX11_init_398 (by decide) ?_
      refine wa_sub (L2 := [(0, va_rf (some a)), (1, .int (x1 + (1 : Int32)))]) [1, 0] rfl ?_
      exact ih a (x1 + (1 : Int32)) μ588 _ _ _ _ hf (by omega) (by omega)
def fX11_init (a : Nat) (μ : JM) : JO (Unit) := jnw μ 100 900 fun q1 μ2 => jck ((jT μ2 a).1 == 12) <| jlt (jsP μ2 a 0 (some q1)) fun μ11 => jlt (jsI μ11 a 2 (-1 : Int32)) fun μ14 => jnw μ14 100 108 fun q17 μ18 => jck ((jT μ18 a).1 == 12) <| jlt (jsP μ18 a 3 (some q17)) fun μ27 => jnw μ27 101 9 fun q30 μ31 => jck ((jT μ31 a).1 == 12) <| jlt (jsP μ31 a 4 (some q30)) fun μ40 => jnw μ40 100 84 fun q43 μ44 => jck ((jT μ44 a).1 == 12) <| jlt (jsP μ44 a 6 (some q43)) fun μ53 => jnw μ53 101 7 fun q56 μ57 => jck ((jT μ57 a).1 == 12) <| jlt (jsP μ57 a 7 (some q56)) fun μ66 => jnw μ66 100 156 fun q69 μ70 => jck ((jT μ70 a).1 == 12) <| jlt (jsP μ70 a 9 (some q69)) fun μ79 => jnw μ79 101 13 fun q82 μ83 => jck ((jT μ83 a).1 == 12) <| jlt (jsP μ83 a 10 (some q82)) fun μ92 => jnw μ92 100 2400 fun q95 μ96 => jck ((jT μ96 a).1 == 12) <| jlt (jsP μ96 a 11 (some q95)) fun μ105 => jnw μ105 100 4000 fun q108 μ109 => jck ((jT μ109 a).1 == 12) <| jlt (jsP μ109 a 19 (some q108)) fun μ118 => jnw μ118 102 4 fun q121 μ122 => jck ((jT μ122 a).1 == 12) <| jlt (jsP μ122 a 22 (some q121)) fun μ131 => jnw μ131 102 4 fun q134 μ135 => jck ((jT μ135 a).1 == 12) <| jlt (jsP μ135 a 23 (some q134)) fun μ144 => jnw μ144 102 32 fun q147 μ148 => jck ((jT μ148 a).1 == 12) <| jlt (jsP μ148 a 24 (some q147)) fun μ157 => jnw μ157 102 48 fun q160 μ161 => jck ((jT μ161 a).1 == 12) <| jlt (jsP μ161 a 25 (some q160)) fun μ170 => jnw μ170 102 48 fun q173 μ174 => jck ((jT μ174 a).1 == 12) <| jlt (jsP μ174 a 26 (some q173)) fun μ183 => jnw μ183 101 12 fun q186 μ187 => jck ((jT μ187 a).1 == 12) <| jlt (jsP μ187 a 27 (some q186)) fun μ196 => jnw μ196 102 4 fun q199 μ200 => jck ((jT μ200 a).1 == 12) <| jlt (jsP μ200 a 28 (some q199)) fun μ209 => jnw μ209 100 300 fun q212 μ213 => jck ((jT μ213 a).1 == 12) <| jlt (jsP μ213 a 30 (some q212)) fun μ222 => jnw μ222 101 25 fun q225 μ226 => jck ((jT μ226 a).1 == 12) <| jlt (jsP μ226 a 31 (some q225)) fun μ235 => jnw μ235 102 100 fun q238 μ239 => jck ((jT μ239 a).1 == 12) <| jlt (jsP μ239 a 32 (some q238)) fun μ248 => jnw μ248 101 5 fun q251 μ252 => jck ((jT μ252 a).1 == 12) <| jlt (jsP μ252 a 34 (some q251)) fun μ261 => jnw μ261 101 120 fun q264 μ265 => jck ((jT μ265 a).1 == 12) <| jlt (jsP μ265 a 35 (some q264)) fun μ274 => jnw μ274 101 120 fun q277 μ278 => jck ((jT μ278 a).1 == 12) <| jlt (jsP μ278 a 36 (some q277)) fun μ287 => jnw μ287 101 120 fun q290 μ291 => jck ((jT μ291 a).1 == 12) <| jlt (jsP μ291 a 37 (some q290)) fun μ300 => jnw μ300 101 120 fun q303 μ304 => jck ((jT μ304 a).1 == 12) <| jlt (jsP μ304 a 38 (some q303)) fun μ313 => jnw μ313 101 120 fun q316 μ317 => jck ((jT μ317 a).1 == 12) <| jlt (jsP μ317 a 39 (some q316)) fun μ326 => jnw μ326 101 120 fun q329 μ330 => jck ((jT μ330 a).1 == 12) <| jlt (jsP μ330 a 40 (some q329)) fun μ339 => jnw μ339 101 120 fun q342 μ343 => jck ((jT μ343 a).1 == 12) <| jlt (jsP μ343 a 41 (some q342)) fun μ352 => jnw μ352 100 1440 fun q355 μ356 => jck ((jT μ356 a).1 == 12) <| jlt (jsP μ356 a 42 (some q355)) fun μ365 => jnw μ365 101 120 fun q368 μ369 => jck ((jT μ369 a).1 == 12) <| jlt (jsP μ369 a 43 (some q368)) fun μ378 => jnw μ378 102 480 fun q381 μ382 => jck ((jT μ382 a).1 == 12) <| jlt (jsP μ382 a 44 (some q381)) fun μ391 => jnw μ391 100 300000 fun q394 μ395 => jck ((jT μ395 a).1 == 12) <| jlt (jsP μ395 a 45 (some q394)) fun μ404 => jnw μ404 101 600 fun q407 μ408 => jck ((jT μ408 a).1 == 12) <| jlt (jsP μ408 a 46 (some q407)) fun μ417 => jnw μ417 101 600 fun q420 μ421 => jck ((jT μ421 a).1 == 12) <| jlt (jsP μ421 a 47 (some q420)) fun μ430 => jnw μ430 101 4 fun q433 μ434 => jck ((jT μ434 a).1 == 12) <| jlt (jsP μ434 a 50 (some q433)) fun μ443 => jnw μ443 101 40 fun q446 μ447 => jck ((jT μ447 a).1 == 12) <| jlt (jsP μ447 a 52 (some q446)) fun μ456 => jnw μ456 101 40 fun q459 μ460 => jck ((jT μ460 a).1 == 12) <| jlt (jsP μ460 a 53 (some q459)) fun μ469 => jnw μ469 100 8000 fun q472 μ473 => jck ((jT μ473 a).1 == 12) <| jlt (jsP μ473 a 54 (some q472)) fun μ482 => jnw μ482 101 600 fun q485 μ486 => jck ((jT μ486 a).1 == 12) <| jlt (jsP μ486 a 59 (some q485)) fun μ495 => jnw μ495 101 600 fun q498 μ499 => jck ((jT μ499 a).1 == 12) <| jlt (jsP μ499 a 60 (some q498)) fun μ508 => jnw μ508 101 600 fun q511 μ512 => jck ((jT μ512 a).1 == 12) <| jlt (jsP μ512 a 61 (some q511)) fun μ521 => jnw μ521 100 2400 fun q524 μ525 => jck ((jT μ525 a).1 == 12) <| jlt (jsP μ525 a 62 (some q524)) fun μ534 => jnw μ534 101 24 fun q537 μ538 => jck ((jT μ538 a).1 == 12) <| jlt (jsP μ538 a 64 (some q537)) fun μ547 => jnw μ547 101 24 fun q550 μ551 => jck ((jT μ551 a).1 == 12) <| jlt (jsP μ551 a 66 (some q550)) fun μ560 => jlt (jsI μ560 a 67 (-1 : Int32)) fun μ563 => jlt (jsI μ563 a 68 (-1 : Int32)) fun μ566 => jnw μ566 103 10000 fun q569 μ570 => jck ((jT μ570 a).1 == 12) <| jlt (jsP μ570 a 69 (some q569)) fun μ579 => fX11_init_b383  jfuel a (0 : Int32) μ579
set_option maxHeartbeats 4000000 in
set_option maxRecDepth 100000 in
theorem mX11_init {b : Nat} {a : Nat} {μ : JM} {r : Unit} {ν : JM} {c m : Nat} (hf : fX11_init a μ = some (r, ν, c, m)) : JMet b yX11_init cX11_init 2 none 1 20 [va_rf (some a)] μ (none) ν c m := by
  refine JMet.of (by decide) (lg_sl_le (by simp only [List.map_cons, List.map_nil, List.sum_cons, List.sum_nil, va_rf_cat]; exact Nat.le_of_ble_eq_true rfl)) (fun Θ X hin => ?_)
  have hin := hin rfl
  refine wa_eq (L2 := [(0, va_rf (some a))]) ?_ rfl (by first | rfl | simp [lv_args, va_rf_cat, cat_i, cat_l]) rfl
  obtain ⟨k, hk0⟩ : ∃ k : Nat, k = 0 := ⟨0, rfl⟩
  obtain ⟨n, hn0⟩ : ∃ n : Nat, n = 0 := ⟨0, rfl⟩
  have hk : k + c = c := by omega
  have hn : n + m = m := by omega
  refine wa_costs hk0.symm hn0.symm ?_
  rw [fX11_init] at hf
  refine wa_aload_n X 0 dX11_init_0 rfl ?_
  refine wa_robj X dX11_init_1 lmX11_1 lo_inst lo_code (by decide) (Nat.le_trans (Nat.add_le_add_right (va_cats (m := 8) (Nat.le_of_ble_eq_true rfl)) 12) (by decide)) rfl ?_
  refine wa_aload_n X 0 dX11_init_4 rfl ?_
  refine wa_sipush (v := (900 : Int32)) X dX11_init_5 (by decide) ?_
  obtain ⟨q1, μ2, c5, m6, h3, hm4, hf, h7, h8⟩ := jnw_some hf
  refine wa_newa (t := 100) (N := 900) X dX11_init_8 (by decide) rfl la_100 (by decide) (by decide) (by decide) (by omega) (by omega) ?_
  rw [← h3, ← hm4]
  have h9 : (jT μ2 q1).1 = 100 := by rw [jT_at h3 hm4]
  obtain ⟨h10, hf⟩ := jckT hf
  obtain ⟨μ11, hm12, hf⟩ := jlt_e hf
  have e13 : jT μ11 = jT μ2 := by rw [hm12]; rfl
  refine wa_rputFP (ν := μ11) X hin dX11_init_10 lfX11_7 rfl h10 (by first | exact Or.inl ⟨_, rfl⟩ | exact Or.inr ⟨_, rfl⟩) rfl rfl hm12 ?_
  refine wa_aload_n X 0 dX11_init_13 rfl ?_
  refine wa_iconst (v := (-1 : Int32)) X dX11_init_14 (by decide) ?_
  obtain ⟨μ14, hm15, hf⟩ := jlt_e hf
  have e16 : jT μ14 = jT μ2 := by rw [hm15]; exact e13
  refine wa_rputI (ν := μ14) X dX11_init_15 lfX11_13 rfl (by rw [e13]; exact h10) rfl rfl hm15 ?_
  refine wa_aload_n X 0 dX11_init_18 rfl ?_
  refine wa_bipush (v := (108 : Int32)) X dX11_init_19 (by decide) ?_
  obtain ⟨q17, μ18, c21, m22, h19, hm20, hf, h23, h24⟩ := jnw_some hf
  refine wa_newa (t := 100) (N := 108) X dX11_init_21 (by decide) rfl la_100 (by decide) (by decide) (by decide) (by omega) (by omega) ?_
  rw [← h19, ← hm20]
  have h25 : (jT μ18 q17).1 = 100 := by rw [jT_at h19 hm20]
  obtain ⟨h26, hf⟩ := jckT hf
  obtain ⟨μ27, hm28, hf⟩ := jlt_e hf
  have e29 : jT μ27 = jT μ18 := by rw [hm28]; rfl
  refine wa_rputFP (ν := μ27) X hin dX11_init_23 lfX11_17 rfl h26 (by first | exact Or.inl ⟨_, rfl⟩ | exact Or.inr ⟨_, rfl⟩) rfl rfl hm28 ?_
  refine wa_aload_n X 0 dX11_init_26 rfl ?_
  refine wa_bipush (v := (9 : Int32)) X dX11_init_27 (by decide) ?_
  obtain ⟨q30, μ31, c34, m35, h32, hm33, hf, h36, h37⟩ := jnw_some hf
  refine wa_newa (t := 101) (N := 9) X dX11_init_29 (by decide) rfl la_101 (by decide) (by decide) (by decide) (by omega) (by omega) ?_
  rw [← h32, ← hm33]
  have h38 : (jT μ31 q30).1 = 101 := by rw [jT_at h32 hm33]
  obtain ⟨h39, hf⟩ := jckT hf
  obtain ⟨μ40, hm41, hf⟩ := jlt_e hf
  have e42 : jT μ40 = jT μ31 := by rw [hm41]; rfl
  refine wa_rputFP (ν := μ40) X hin dX11_init_31 lfX11_20 rfl h39 (by first | exact Or.inl ⟨_, rfl⟩ | exact Or.inr ⟨_, rfl⟩) rfl rfl hm41 ?_
  refine wa_aload_n X 0 dX11_init_34 rfl ?_
  refine wa_bipush (v := (84 : Int32)) X dX11_init_35 (by decide) ?_
  obtain ⟨q43, μ44, c47, m48, h45, hm46, hf, h49, h50⟩ := jnw_some hf
  refine wa_newa (t := 100) (N := 84) X dX11_init_37 (by decide) rfl la_100 (by decide) (by decide) (by decide) (by omega) (by omega) ?_
  rw [← h45, ← hm46]
  have h51 : (jT μ44 q43).1 = 100 := by rw [jT_at h45 hm46]
  obtain ⟨h52, hf⟩ := jckT hf
  obtain ⟨μ53, hm54, hf⟩ := jlt_e hf
  have e55 : jT μ53 = jT μ44 := by rw [hm54]; rfl
  refine wa_rputFP (ν := μ53) X hin dX11_init_39 lfX11_24 rfl h52 (by first | exact Or.inl ⟨_, rfl⟩ | exact Or.inr ⟨_, rfl⟩) rfl rfl hm54 ?_
  refine wa_aload_n X 0 dX11_init_42 rfl ?_
  refine wa_bipush (v := (7 : Int32)) X dX11_init_43 (by decide) ?_
  obtain ⟨q56, μ57, c60, m61, h58, hm59, hf, h62, h63⟩ := jnw_some hf
  refine wa_newa (t := 101) (N := 7) X dX11_init_45 (by decide) rfl la_101 (by decide) (by decide) (by decide) (by omega) (by omega) ?_
  rw [← h58, ← hm59]
  have h64 : (jT μ57 q56).1 = 101 := by rw [jT_at h58 hm59]
  obtain ⟨h65, hf⟩ := jckT hf
  obtain ⟨μ66, hm67, hf⟩ := jlt_e hf
  have e68 : jT μ66 = jT μ57 := by rw [hm67]; rfl
  refine wa_rputFP (ν := μ66) X hin dX11_init_47 lfX11_27 rfl h65 (by first | exact Or.inl ⟨_, rfl⟩ | exact Or.inr ⟨_, rfl⟩) rfl rfl hm67 ?_
  refine wa_aload_n X 0 dX11_init_50 rfl ?_
  refine wa_sipush (v := (156 : Int32)) X dX11_init_51 (by decide) ?_
  obtain ⟨q69, μ70, c73, m74, h71, hm72, hf, h75, h76⟩ := jnw_some hf
  refine wa_newa (t := 100) (N := 156) X dX11_init_54 (by decide) rfl la_100 (by decide) (by decide) (by decide) (by omega) (by omega) ?_
  rw [← h71, ← hm72]
  have h77 : (jT μ70 q69).1 = 100 := by rw [jT_at h71 hm72]
  obtain ⟨h78, hf⟩ := jckT hf
  obtain ⟨μ79, hm80, hf⟩ := jlt_e hf
  have e81 : jT μ79 = jT μ70 := by rw [hm80]; rfl
  refine wa_rputFP (ν := μ79) X hin dX11_init_56 lfX11_30 rfl h78 (by first | exact Or.inl ⟨_, rfl⟩ | exact Or.inr ⟨_, rfl⟩) rfl rfl hm80 ?_
  refine wa_aload_n X 0 dX11_init_59 rfl ?_
  refine wa_bipush (v := (13 : Int32)) X dX11_init_60 (by decide) ?_
  obtain ⟨q82, μ83, c86, m87, h84, hm85, hf, h88, h89⟩ := jnw_some hf
  refine wa_newa (t := 101) (N := 13) X dX11_init_62 (by decide) rfl la_101 (by decide) (by decide) (by decide) (by omega) (by omega) ?_
  rw [← h84, ← hm85]
  have h90 : (jT μ83 q82).1 = 101 := by rw [jT_at h84 hm85]
  obtain ⟨h91, hf⟩ := jckT hf
  obtain ⟨μ92, hm93, hf⟩ := jlt_e hf
  have e94 : jT μ92 = jT μ83 := by rw [hm93]; rfl
  refine wa_rputFP (ν := μ92) X hin dX11_init_64 lfX11_33 rfl h91 (by first | exact Or.inl ⟨_, rfl⟩ | exact Or.inr ⟨_, rfl⟩) rfl rfl hm93 ?_
  refine wa_aload_n X 0 dX11_init_67 rfl ?_
  refine wa_sipush (v := (2400 : Int32)) X dX11_init_68 (by decide) ?_
  obtain ⟨q95, μ96, c99, m100, h97, hm98, hf, h101, h102⟩ := jnw_some hf
  refine wa_newa (t := 100) (N := 2400) X dX11_init_71 (by decide) rfl la_100 (by decide) (by decide) (by decide) (by omega) (by omega) ?_
  rw [← h97, ← hm98]
  have h103 : (jT μ96 q95).1 = 100 := by rw [jT_at h97 hm98]
  obtain ⟨h104, hf⟩ := jckT hf
  obtain ⟨μ105, hm106, hf⟩ := jlt_e hf
  have e107 : jT μ105 = jT μ96 := by rw [hm106]; rfl
  refine wa_rputFP (ν := μ105) X hin dX11_init_73 lfX11_36 rfl h104 (by first | exact Or.inl ⟨_, rfl⟩ | exact Or.inr ⟨_, rfl⟩) rfl rfl hm106 ?_
  refine wa_aload_n X 0 dX11_init_76 rfl ?_
  refine wa_sipush (v := (4000 : Int32)) X dX11_init_77 (by decide) ?_
  obtain ⟨q108, μ109, c112, m113, h110, hm111, hf, h114, h115⟩ := jnw_some hf
  refine wa_newa (t := 100) (N := 4000) X dX11_init_80 (by decide) rfl la_100 (by decide) (by decide) (by decide) (by omega) (by omega) ?_
  rw [← h110, ← hm111]
  have h116 : (jT μ109 q108).1 = 100 := by rw [jT_at h110 hm111]
  obtain ⟨h117, hf⟩ := jckT hf
  obtain ⟨μ118, hm119, hf⟩ := jlt_e hf
  have e120 : jT μ118 = jT μ109 := by rw [hm119]; rfl
  refine wa_rputFP (ν := μ118) X hin dX11_init_82 lfX11_39 rfl h117 (by first | exact Or.inl ⟨_, rfl⟩ | exact Or.inr ⟨_, rfl⟩) rfl rfl hm119 ?_
  refine wa_aload_n X 0 dX11_init_85 rfl ?_
  refine wa_iconst (v := (4 : Int32)) X dX11_init_86 (by decide) ?_
  obtain ⟨q121, μ122, c125, m126, h123, hm124, hf, h127, h128⟩ := jnw_some hf
  refine wa_newa (t := 102) (N := 4) X dX11_init_87 (by decide) rfl la_102 (by decide) (by decide) (by decide) (by omega) (by omega) ?_
  rw [← h123, ← hm124]
  have h129 : (jT μ122 q121).1 = 102 := by rw [jT_at h123 hm124]
  obtain ⟨h130, hf⟩ := jckT hf
  obtain ⟨μ131, hm132, hf⟩ := jlt_e hf
  have e133 : jT μ131 = jT μ122 := by rw [hm132]; rfl
  refine wa_rputFP (ν := μ131) X hin dX11_init_89 lfX11_42 rfl h130 (by first | exact Or.inl ⟨_, rfl⟩ | exact Or.inr ⟨_, rfl⟩) rfl rfl hm132 ?_
  refine wa_aload_n X 0 dX11_init_92 rfl ?_
  refine wa_iconst (v := (4 : Int32)) X dX11_init_93 (by decide) ?_
  obtain ⟨q134, μ135, c138, m139, h136, hm137, hf, h140, h141⟩ := jnw_some hf
  refine wa_newa (t := 102) (N := 4) X dX11_init_94 (by decide) rfl la_102 (by decide) (by decide) (by decide) (by omega) (by omega) ?_
  rw [← h136, ← hm137]
  have h142 : (jT μ135 q134).1 = 102 := by rw [jT_at h136 hm137]
  obtain ⟨h143, hf⟩ := jckT hf
  obtain ⟨μ144, hm145, hf⟩ := jlt_e hf
  have e146 : jT μ144 = jT μ135 := by rw [hm145]; rfl
  refine wa_rputFP (ν := μ144) X hin dX11_init_96 lfX11_46 rfl h143 (by first | exact Or.inl ⟨_, rfl⟩ | exact Or.inr ⟨_, rfl⟩) rfl rfl hm145 ?_
  refine wa_aload_n X 0 dX11_init_99 rfl ?_
  refine wa_bipush (v := (32 : Int32)) X dX11_init_100 (by decide) ?_
  obtain ⟨q147, μ148, c151, m152, h149, hm150, hf, h153, h154⟩ := jnw_some hf
  refine wa_newa (t := 102) (N := 32) X dX11_init_102 (by decide) rfl la_102 (by decide) (by decide) (by decide) (by omega) (by omega) ?_
  rw [← h149, ← hm150]
  have h155 : (jT μ148 q147).1 = 102 := by rw [jT_at h149 hm150]
  obtain ⟨h156, hf⟩ := jckT hf
  obtain ⟨μ157, hm158, hf⟩ := jlt_e hf
  have e159 : jT μ157 = jT μ148 := by rw [hm158]; rfl
  refine wa_rputFP (ν := μ157) X hin dX11_init_104 lfX11_49 rfl h156 (by first | exact Or.inl ⟨_, rfl⟩ | exact Or.inr ⟨_, rfl⟩) rfl rfl hm158 ?_
  refine wa_aload_n X 0 dX11_init_107 rfl ?_
  refine wa_bipush (v := (48 : Int32)) X dX11_init_108 (by decide) ?_
  obtain ⟨q160, μ161, c164, m165, h162, hm163, hf, h166, h167⟩ := jnw_some hf
  refine wa_newa (t := 102) (N := 48) X dX11_init_110 (by decide) rfl la_102 (by decide) (by decide) (by decide) (by omega) (by omega) ?_
  rw [← h162, ← hm163]
  have h168 : (jT μ161 q160).1 = 102 := by rw [jT_at h162 hm163]
  obtain ⟨h169, hf⟩ := jckT hf
  obtain ⟨μ170, hm171, hf⟩ := jlt_e hf
  have e172 : jT μ170 = jT μ161 := by rw [hm171]; rfl
  refine wa_rputFP (ν := μ170) X hin dX11_init_112 lfX11_52 rfl h169 (by first | exact Or.inl ⟨_, rfl⟩ | exact Or.inr ⟨_, rfl⟩) rfl rfl hm171 ?_
  refine wa_aload_n X 0 dX11_init_115 rfl ?_
  refine wa_bipush (v := (48 : Int32)) X dX11_init_116 (by decide) ?_
  obtain ⟨q173, μ174, c177, m178, h175, hm176, hf, h179, h180⟩ := jnw_some hf
  refine wa_newa (t := 102) (N := 48) X dX11_init_118 (by decide) rfl la_102 (by decide) (by decide) (by decide) (by omega) (by omega) ?_
  rw [← h175, ← hm176]
  have h181 : (jT μ174 q173).1 = 102 := by rw [jT_at h175 hm176]
  obtain ⟨h182, hf⟩ := jckT hf
  obtain ⟨μ183, hm184, hf⟩ := jlt_e hf
  have e185 : jT μ183 = jT μ174 := by rw [hm184]; rfl
  refine wa_rputFP (ν := μ183) X hin dX11_init_120 lfX11_55 rfl h182 (by first | exact Or.inl ⟨_, rfl⟩ | exact Or.inr ⟨_, rfl⟩) rfl rfl hm184 ?_
  refine wa_aload_n X 0 dX11_init_123 rfl ?_
  refine wa_bipush (v := (12 : Int32)) X dX11_init_124 (by decide) ?_
  obtain ⟨q186, μ187, c190, m191, h188, hm189, hf, h192, h193⟩ := jnw_some hf
  refine wa_newa (t := 101) (N := 12) X dX11_init_126 (by decide) rfl la_101 (by decide) (by decide) (by decide) (by omega) (by omega) ?_
  rw [← h188, ← hm189]
  have h194 : (jT μ187 q186).1 = 101 := by rw [jT_at h188 hm189]
  obtain ⟨h195, hf⟩ := jckT hf
  obtain ⟨μ196, hm197, hf⟩ := jlt_e hf
  have e198 : jT μ196 = jT μ187 := by rw [hm197]; rfl
  refine wa_rputFP (ν := μ196) X hin dX11_init_128 lfX11_58 rfl h195 (by first | exact Or.inl ⟨_, rfl⟩ | exact Or.inr ⟨_, rfl⟩) rfl rfl hm197 ?_
  refine wa_aload_n X 0 dX11_init_131 rfl ?_
  refine wa_iconst (v := (4 : Int32)) X dX11_init_132 (by decide) ?_
  obtain ⟨q199, μ200, c203, m204, h201, hm202, hf, h205, h206⟩ := jnw_some hf
  refine wa_newa (t := 102) (N := 4) X dX11_init_133 (by decide) rfl la_102 (by decide) (by decide) (by decide) (by omega) (by omega) ?_
  rw [← h201, ← hm202]
  have h207 : (jT μ200 q199).1 = 102 := by rw [jT_at h201 hm202]
  obtain ⟨h208, hf⟩ := jckT hf
  obtain ⟨μ209, hm210, hf⟩ := jlt_e hf
  have e211 : jT μ209 = jT μ200 := by rw [hm210]; rfl
  refine wa_rputFP (ν := μ209) X hin dX11_init_135 lfX11_61 rfl h208 (by first | exact Or.inl ⟨_, rfl⟩ | exact Or.inr ⟨_, rfl⟩) rfl rfl hm210 ?_
  refine wa_aload_n X 0 dX11_init_138 rfl ?_
  refine wa_sipush (v := (300 : Int32)) X dX11_init_139 (by decide) ?_
  obtain ⟨q212, μ213, c216, m217, h214, hm215, hf, h218, h219⟩ := jnw_some hf
  refine wa_newa (t := 100) (N := 300) X dX11_init_142 (by decide) rfl la_100 (by decide) (by decide) (by decide) (by omega) (by omega) ?_
  rw [← h214, ← hm215]
  have h220 : (jT μ213 q212).1 = 100 := by rw [jT_at h214 hm215]
  obtain ⟨h221, hf⟩ := jckT hf
  obtain ⟨μ222, hm223, hf⟩ := jlt_e hf
  have e224 : jT μ222 = jT μ213 := by rw [hm223]; rfl
  refine wa_rputFP (ν := μ222) X hin dX11_init_144 lfX11_64 rfl h221 (by first | exact Or.inl ⟨_, rfl⟩ | exact Or.inr ⟨_, rfl⟩) rfl rfl hm223 ?_
  refine wa_aload_n X 0 dX11_init_147 rfl ?_
  refine wa_bipush (v := (25 : Int32)) X dX11_init_148 (by decide) ?_
  obtain ⟨q225, μ226, c229, m230, h227, hm228, hf, h231, h232⟩ := jnw_some hf
  refine wa_newa (t := 101) (N := 25) X dX11_init_150 (by decide) rfl la_101 (by decide) (by decide) (by decide) (by omega) (by omega) ?_
  rw [← h227, ← hm228]
  have h233 : (jT μ226 q225).1 = 101 := by rw [jT_at h227 hm228]
  obtain ⟨h234, hf⟩ := jckT hf
  obtain ⟨μ235, hm236, hf⟩ := jlt_e hf
  have e237 : jT μ235 = jT μ226 := by rw [hm236]; rfl
  refine wa_rputFP (ν := μ235) X hin dX11_init_152 lfX11_67 rfl h234 (by first | exact Or.inl ⟨_, rfl⟩ | exact Or.inr ⟨_, rfl⟩) rfl rfl hm236 ?_
  refine wa_aload_n X 0 dX11_init_155 rfl ?_
  refine wa_bipush (v := (100 : Int32)) X dX11_init_156 (by decide) ?_
  obtain ⟨q238, μ239, c242, m243, h240, hm241, hf, h244, h245⟩ := jnw_some hf
  refine wa_newa (t := 102) (N := 100) X dX11_init_158 (by decide) rfl la_102 (by decide) (by decide) (by decide) (by omega) (by omega) ?_
  rw [← h240, ← hm241]
  have h246 : (jT μ239 q238).1 = 102 := by rw [jT_at h240 hm241]
  obtain ⟨h247, hf⟩ := jckT hf
  obtain ⟨μ248, hm249, hf⟩ := jlt_e hf
  have e250 : jT μ248 = jT μ239 := by rw [hm249]; rfl
  refine wa_rputFP (ν := μ248) X hin dX11_init_160 lfX11_70 rfl h247 (by first | exact Or.inl ⟨_, rfl⟩ | exact Or.inr ⟨_, rfl⟩) rfl rfl hm249 ?_
  refine wa_aload_n X 0 dX11_init_163 rfl ?_
  refine wa_iconst (v := (5 : Int32)) X dX11_init_164 (by decide) ?_
  obtain ⟨q251, μ252, c255, m256, h253, hm254, hf, h257, h258⟩ := jnw_some hf
  refine wa_newa (t := 101) (N := 5) X dX11_init_165 (by decide) rfl la_101 (by decide) (by decide) (by decide) (by omega) (by omega) ?_
  rw [← h253, ← hm254]
  have h259 : (jT μ252 q251).1 = 101 := by rw [jT_at h253 hm254]
  obtain ⟨h260, hf⟩ := jckT hf
  obtain ⟨μ261, hm262, hf⟩ := jlt_e hf
  have e263 : jT μ261 = jT μ252 := by rw [hm262]; rfl
  refine wa_rputFP (ν := μ261) X hin dX11_init_167 lfX11_73 rfl h260 (by first | exact Or.inl ⟨_, rfl⟩ | exact Or.inr ⟨_, rfl⟩) rfl rfl hm262 ?_
  refine wa_aload_n X 0 dX11_init_170 rfl ?_
  refine wa_bipush (v := (120 : Int32)) X dX11_init_171 (by decide) ?_
  obtain ⟨q264, μ265, c268, m269, h266, hm267, hf, h270, h271⟩ := jnw_some hf
  refine wa_newa (t := 101) (N := 120) X dX11_init_173 (by decide) rfl la_101 (by decide) (by decide) (by decide) (by omega) (by omega) ?_
  rw [← h266, ← hm267]
  have h272 : (jT μ265 q264).1 = 101 := by rw [jT_at h266 hm267]
  obtain ⟨h273, hf⟩ := jckT hf
  obtain ⟨μ274, hm275, hf⟩ := jlt_e hf
  have e276 : jT μ274 = jT μ265 := by rw [hm275]; rfl
  refine wa_rputFP (ν := μ274) X hin dX11_init_175 lfX11_76 rfl h273 (by first | exact Or.inl ⟨_, rfl⟩ | exact Or.inr ⟨_, rfl⟩) rfl rfl hm275 ?_
  refine wa_aload_n X 0 dX11_init_178 rfl ?_
  refine wa_bipush (v := (120 : Int32)) X dX11_init_179 (by decide) ?_
  obtain ⟨q277, μ278, c281, m282, h279, hm280, hf, h283, h284⟩ := jnw_some hf
  refine wa_newa (t := 101) (N := 120) X dX11_init_181 (by decide) rfl la_101 (by decide) (by decide) (by decide) (by omega) (by omega) ?_
  rw [← h279, ← hm280]
  have h285 : (jT μ278 q277).1 = 101 := by rw [jT_at h279 hm280]
  obtain ⟨h286, hf⟩ := jckT hf
  obtain ⟨μ287, hm288, hf⟩ := jlt_e hf
  have e289 : jT μ287 = jT μ278 := by rw [hm288]; rfl
  refine wa_rputFP (ν := μ287) X hin dX11_init_183 lfX11_79 rfl h286 (by first | exact Or.inl ⟨_, rfl⟩ | exact Or.inr ⟨_, rfl⟩) rfl rfl hm288 ?_
  refine wa_aload_n X 0 dX11_init_186 rfl ?_
  refine wa_bipush (v := (120 : Int32)) X dX11_init_187 (by decide) ?_
  obtain ⟨q290, μ291, c294, m295, h292, hm293, hf, h296, h297⟩ := jnw_some hf
  refine wa_newa (t := 101) (N := 120) X dX11_init_189 (by decide) rfl la_101 (by decide) (by decide) (by decide) (by omega) (by omega) ?_
  rw [← h292, ← hm293]
  have h298 : (jT μ291 q290).1 = 101 := by rw [jT_at h292 hm293]
  obtain ⟨h299, hf⟩ := jckT hf
  obtain ⟨μ300, hm301, hf⟩ := jlt_e hf
  have e302 : jT μ300 = jT μ291 := by rw [hm301]; rfl
  refine wa_rputFP (ν := μ300) X hin dX11_init_191 lfX11_82 rfl h299 (by first | exact Or.inl ⟨_, rfl⟩ | exact Or.inr ⟨_, rfl⟩) rfl rfl hm301 ?_
  refine wa_aload_n X 0 dX11_init_194 rfl ?_
  refine wa_bipush (v := (120 : Int32)) X dX11_init_195 (by decide) ?_
  obtain ⟨q303, μ304, c307, m308, h305, hm306, hf, h309, h310⟩ := jnw_some hf
  refine wa_newa (t := 101) (N := 120) X dX11_init_197 (by decide) rfl la_101 (by decide) (by decide) (by decide) (by omega) (by omega) ?_
  rw [← h305, ← hm306]
  have h311 : (jT μ304 q303).1 = 101 := by rw [jT_at h305 hm306]
  obtain ⟨h312, hf⟩ := jckT hf
  obtain ⟨μ313, hm314, hf⟩ := jlt_e hf
  have e315 : jT μ313 = jT μ304 := by rw [hm314]; rfl
  refine wa_rputFP (ν := μ313) X hin dX11_init_199 lfX11_85 rfl h312 (by first | exact Or.inl ⟨_, rfl⟩ | exact Or.inr ⟨_, rfl⟩) rfl rfl hm314 ?_
  refine wa_aload_n X 0 dX11_init_202 rfl ?_
  refine wa_bipush (v := (120 : Int32)) X dX11_init_203 (by decide) ?_
  obtain ⟨q316, μ317, c320, m321, h318, hm319, hf, h322, h323⟩ := jnw_some hf
  refine wa_newa (t := 101) (N := 120) X dX11_init_205 (by decide) rfl la_101 (by decide) (by decide) (by decide) (by omega) (by omega) ?_
  rw [← h318, ← hm319]
  have h324 : (jT μ317 q316).1 = 101 := by rw [jT_at h318 hm319]
  obtain ⟨h325, hf⟩ := jckT hf
  obtain ⟨μ326, hm327, hf⟩ := jlt_e hf
  have e328 : jT μ326 = jT μ317 := by rw [hm327]; rfl
  refine wa_rputFP (ν := μ326) X hin dX11_init_207 lfX11_88 rfl h325 (by first | exact Or.inl ⟨_, rfl⟩ | exact Or.inr ⟨_, rfl⟩) rfl rfl hm327 ?_
  refine wa_aload_n X 0 dX11_init_210 rfl ?_
  refine wa_bipush (v := (120 : Int32)) X dX11_init_211 (by decide) ?_
  obtain ⟨q329, μ330, c333, m334, h331, hm332, hf, h335, h336⟩ := jnw_some hf
  refine wa_newa (t := 101) (N := 120) X dX11_init_213 (by decide) rfl la_101 (by decide) (by decide) (by decide) (by omega) (by omega) ?_
  rw [← h331, ← hm332]
  have h337 : (jT μ330 q329).1 = 101 := by rw [jT_at h331 hm332]
  obtain ⟨h338, hf⟩ := jckT hf
  obtain ⟨μ339, hm340, hf⟩ := jlt_e hf
  have e341 : jT μ339 = jT μ330 := by rw [hm340]; rfl
  refine wa_rputFP (ν := μ339) X hin dX11_init_215 lfX11_91 rfl h338 (by first | exact Or.inl ⟨_, rfl⟩ | exact Or.inr ⟨_, rfl⟩) rfl rfl hm340 ?_
  refine wa_aload_n X 0 dX11_init_218 rfl ?_
  refine wa_bipush (v := (120 : Int32)) X dX11_init_219 (by decide) ?_
  obtain ⟨q342, μ343, c346, m347, h344, hm345, hf, h348, h349⟩ := jnw_some hf
  refine wa_newa (t := 101) (N := 120) X dX11_init_221 (by decide) rfl la_101 (by decide) (by decide) (by decide) (by omega) (by omega) ?_
  rw [← h344, ← hm345]
  have h350 : (jT μ343 q342).1 = 101 := by rw [jT_at h344 hm345]
  obtain ⟨h351, hf⟩ := jckT hf
  obtain ⟨μ352, hm353, hf⟩ := jlt_e hf
  have e354 : jT μ352 = jT μ343 := by rw [hm353]; rfl
  refine wa_rputFP (ν := μ352) X hin dX11_init_223 lfX11_94 rfl h351 (by first | exact Or.inl ⟨_, rfl⟩ | exact Or.inr ⟨_, rfl⟩) rfl rfl hm353 ?_
  refine wa_aload_n X 0 dX11_init_226 rfl ?_
  refine wa_sipush (v := (1440 : Int32)) X dX11_init_227 (by decide) ?_
  obtain ⟨q355, μ356, c359, m360, h357, hm358, hf, h361, h362⟩ := jnw_some hf
  refine wa_newa (t := 100) (N := 1440) X dX11_init_230 (by decide) rfl la_100 (by decide) (by decide) (by decide) (by omega) (by omega) ?_
  rw [← h357, ← hm358]
  have h363 : (jT μ356 q355).1 = 100 := by rw [jT_at h357 hm358]
  obtain ⟨h364, hf⟩ := jckT hf
  obtain ⟨μ365, hm366, hf⟩ := jlt_e hf
  have e367 : jT μ365 = jT μ356 := by rw [hm366]; rfl
  refine wa_rputFP (ν := μ365) X hin dX11_init_232 lfX11_97 rfl h364 (by first | exact Or.inl ⟨_, rfl⟩ | exact Or.inr ⟨_, rfl⟩) rfl rfl hm366 ?_
  refine wa_aload_n X 0 dX11_init_235 rfl ?_
  refine wa_bipush (v := (120 : Int32)) X dX11_init_236 (by decide) ?_
  obtain ⟨q368, μ369, c372, m373, h370, hm371, hf, h374, h375⟩ := jnw_some hf
  refine wa_newa (t := 101) (N := 120) X dX11_init_238 (by decide) rfl la_101 (by decide) (by decide) (by decide) (by omega) (by omega) ?_
  rw [← h370, ← hm371]
  have h376 : (jT μ369 q368).1 = 101 := by rw [jT_at h370 hm371]
  obtain ⟨h377, hf⟩ := jckT hf
  obtain ⟨μ378, hm379, hf⟩ := jlt_e hf
  have e380 : jT μ378 = jT μ369 := by rw [hm379]; rfl
  refine wa_rputFP (ν := μ378) X hin dX11_init_240 lfX11_100 rfl h377 (by first | exact Or.inl ⟨_, rfl⟩ | exact Or.inr ⟨_, rfl⟩) rfl rfl hm379 ?_
  refine wa_aload_n X 0 dX11_init_243 rfl ?_
  refine wa_sipush (v := (480 : Int32)) X dX11_init_244 (by decide) ?_
  obtain ⟨q381, μ382, c385, m386, h383, hm384, hf, h387, h388⟩ := jnw_some hf
  refine wa_newa (t := 102) (N := 480) X dX11_init_247 (by decide) rfl la_102 (by decide) (by decide) (by decide) (by omega) (by omega) ?_
  rw [← h383, ← hm384]
  have h389 : (jT μ382 q381).1 = 102 := by rw [jT_at h383 hm384]
  obtain ⟨h390, hf⟩ := jckT hf
  obtain ⟨μ391, hm392, hf⟩ := jlt_e hf
  have e393 : jT μ391 = jT μ382 := by rw [hm392]; rfl
  refine wa_rputFP (ν := μ391) X hin dX11_init_249 lfX11_103 rfl h390 (by first | exact Or.inl ⟨_, rfl⟩ | exact Or.inr ⟨_, rfl⟩) rfl rfl hm392 ?_
  refine wa_aload_n X 0 dX11_init_252 rfl ?_
  refine wa_ldc (v := (300000 : Int32)) X dX11_init_253 lkX11_106 ?_
  obtain ⟨q394, μ395, c398, m399, h396, hm397, hf, h400, h401⟩ := jnw_some hf
  refine wa_newa (t := 100) (N := 300000) X dX11_init_255 (by decide) rfl la_100 (by decide) (by decide) (by decide) (by omega) (by omega) ?_
  rw [← h396, ← hm397]
  have h402 : (jT μ395 q394).1 = 100 := by rw [jT_at h396 hm397]
  obtain ⟨h403, hf⟩ := jckT hf
  obtain ⟨μ404, hm405, hf⟩ := jlt_e hf
  have e406 : jT μ404 = jT μ395 := by rw [hm405]; rfl
  refine wa_rputFP (ν := μ404) X hin dX11_init_257 lfX11_107 rfl h403 (by first | exact Or.inl ⟨_, rfl⟩ | exact Or.inr ⟨_, rfl⟩) rfl rfl hm405 ?_
  refine wa_aload_n X 0 dX11_init_260 rfl ?_
  refine wa_sipush (v := (600 : Int32)) X dX11_init_261 (by decide) ?_
  obtain ⟨q407, μ408, c411, m412, h409, hm410, hf, h413, h414⟩ := jnw_some hf
  refine wa_newa (t := 101) (N := 600) X dX11_init_264 (by decide) rfl la_101 (by decide) (by decide) (by decide) (by omega) (by omega) ?_
  rw [← h409, ← hm410]
  have h415 : (jT μ408 q407).1 = 101 := by rw [jT_at h409 hm410]
  obtain ⟨h416, hf⟩ := jckT hf
  obtain ⟨μ417, hm418, hf⟩ := jlt_e hf
  have e419 : jT μ417 = jT μ408 := by rw [hm418]; rfl
  refine wa_rputFP (ν := μ417) X hin dX11_init_266 lfX11_110 rfl h416 (by first | exact Or.inl ⟨_, rfl⟩ | exact Or.inr ⟨_, rfl⟩) rfl rfl hm418 ?_
  refine wa_aload_n X 0 dX11_init_269 rfl ?_
  refine wa_sipush (v := (600 : Int32)) X dX11_init_270 (by decide) ?_
  obtain ⟨q420, μ421, c424, m425, h422, hm423, hf, h426, h427⟩ := jnw_some hf
  refine wa_newa (t := 101) (N := 600) X dX11_init_273 (by decide) rfl la_101 (by decide) (by decide) (by decide) (by omega) (by omega) ?_
  rw [← h422, ← hm423]
  have h428 : (jT μ421 q420).1 = 101 := by rw [jT_at h422 hm423]
  obtain ⟨h429, hf⟩ := jckT hf
  obtain ⟨μ430, hm431, hf⟩ := jlt_e hf
  have e432 : jT μ430 = jT μ421 := by rw [hm431]; rfl
  refine wa_rputFP (ν := μ430) X hin dX11_init_275 lfX11_113 rfl h429 (by first | exact Or.inl ⟨_, rfl⟩ | exact Or.inr ⟨_, rfl⟩) rfl rfl hm431 ?_
  refine wa_aload_n X 0 dX11_init_278 rfl ?_
  refine wa_iconst (v := (4 : Int32)) X dX11_init_279 (by decide) ?_
  obtain ⟨q433, μ434, c437, m438, h435, hm436, hf, h439, h440⟩ := jnw_some hf
  refine wa_newa (t := 101) (N := 4) X dX11_init_280 (by decide) rfl la_101 (by decide) (by decide) (by decide) (by omega) (by omega) ?_
  rw [← h435, ← hm436]
  have h441 : (jT μ434 q433).1 = 101 := by rw [jT_at h435 hm436]
  obtain ⟨h442, hf⟩ := jckT hf
  obtain ⟨μ443, hm444, hf⟩ := jlt_e hf
  have e445 : jT μ443 = jT μ434 := by rw [hm444]; rfl
  refine wa_rputFP (ν := μ443) X hin dX11_init_282 lfX11_116 rfl h442 (by first | exact Or.inl ⟨_, rfl⟩ | exact Or.inr ⟨_, rfl⟩) rfl rfl hm444 ?_
  refine wa_aload_n X 0 dX11_init_285 rfl ?_
  refine wa_bipush (v := (40 : Int32)) X dX11_init_286 (by decide) ?_
  obtain ⟨q446, μ447, c450, m451, h448, hm449, hf, h452, h453⟩ := jnw_some hf
  refine wa_newa (t := 101) (N := 40) X dX11_init_288 (by decide) rfl la_101 (by decide) (by decide) (by decide) (by omega) (by omega) ?_
  rw [← h448, ← hm449]
  have h454 : (jT μ447 q446).1 = 101 := by rw [jT_at h448 hm449]
  obtain ⟨h455, hf⟩ := jckT hf
  obtain ⟨μ456, hm457, hf⟩ := jlt_e hf
  have e458 : jT μ456 = jT μ447 := by rw [hm457]; rfl
  refine wa_rputFP (ν := μ456) X hin dX11_init_290 lfX11_119 rfl h455 (by first | exact Or.inl ⟨_, rfl⟩ | exact Or.inr ⟨_, rfl⟩) rfl rfl hm457 ?_
  refine wa_aload_n X 0 dX11_init_293 rfl ?_
  refine wa_bipush (v := (40 : Int32)) X dX11_init_294 (by decide) ?_
  obtain ⟨q459, μ460, c463, m464, h461, hm462, hf, h465, h466⟩ := jnw_some hf
  refine wa_newa (t := 101) (N := 40) X dX11_init_296 (by decide) rfl la_101 (by decide) (by decide) (by decide) (by omega) (by omega) ?_
  rw [← h461, ← hm462]
  have h467 : (jT μ460 q459).1 = 101 := by rw [jT_at h461 hm462]
  obtain ⟨h468, hf⟩ := jckT hf
  obtain ⟨μ469, hm470, hf⟩ := jlt_e hf
  have e471 : jT μ469 = jT μ460 := by rw [hm470]; rfl
  refine wa_rputFP (ν := μ469) X hin dX11_init_298 lfX11_122 rfl h468 (by first | exact Or.inl ⟨_, rfl⟩ | exact Or.inr ⟨_, rfl⟩) rfl rfl hm470 ?_
  refine wa_aload_n X 0 dX11_init_301 rfl ?_
  refine wa_sipush (v := (8000 : Int32)) X dX11_init_302 (by decide) ?_
  obtain ⟨q472, μ473, c476, m477, h474, hm475, hf, h478, h479⟩ := jnw_some hf
  refine wa_newa (t := 100) (N := 8000) X dX11_init_305 (by decide) rfl la_100 (by decide) (by decide) (by decide) (by omega) (by omega) ?_
  rw [← h474, ← hm475]
  have h480 : (jT μ473 q472).1 = 100 := by rw [jT_at h474 hm475]
  obtain ⟨h481, hf⟩ := jckT hf
  obtain ⟨μ482, hm483, hf⟩ := jlt_e hf
  have e484 : jT μ482 = jT μ473 := by rw [hm483]; rfl
  refine wa_rputFP (ν := μ482) X hin dX11_init_307 lfX11_125 rfl h481 (by first | exact Or.inl ⟨_, rfl⟩ | exact Or.inr ⟨_, rfl⟩) rfl rfl hm483 ?_
  refine wa_aload_n X 0 dX11_init_310 rfl ?_
  refine wa_sipush (v := (600 : Int32)) X dX11_init_311 (by decide) ?_
  obtain ⟨q485, μ486, c489, m490, h487, hm488, hf, h491, h492⟩ := jnw_some hf
  refine wa_newa (t := 101) (N := 600) X dX11_init_314 (by decide) rfl la_101 (by decide) (by decide) (by decide) (by omega) (by omega) ?_
  rw [← h487, ← hm488]
  have h493 : (jT μ486 q485).1 = 101 := by rw [jT_at h487 hm488]
  obtain ⟨h494, hf⟩ := jckT hf
  obtain ⟨μ495, hm496, hf⟩ := jlt_e hf
  have e497 : jT μ495 = jT μ486 := by rw [hm496]; rfl
  refine wa_rputFP (ν := μ495) X hin dX11_init_316 lfX11_128 rfl h494 (by first | exact Or.inl ⟨_, rfl⟩ | exact Or.inr ⟨_, rfl⟩) rfl rfl hm496 ?_
  refine wa_aload_n X 0 dX11_init_319 rfl ?_
  refine wa_sipush (v := (600 : Int32)) X dX11_init_320 (by decide) ?_
  obtain ⟨q498, μ499, c502, m503, h500, hm501, hf, h504, h505⟩ := jnw_some hf
  refine wa_newa (t := 101) (N := 600) X dX11_init_323 (by decide) rfl la_101 (by decide) (by decide) (by decide) (by omega) (by omega) ?_
  rw [← h500, ← hm501]
  have h506 : (jT μ499 q498).1 = 101 := by rw [jT_at h500 hm501]
  obtain ⟨h507, hf⟩ := jckT hf
  obtain ⟨μ508, hm509, hf⟩ := jlt_e hf
  have e510 : jT μ508 = jT μ499 := by rw [hm509]; rfl
  refine wa_rputFP (ν := μ508) X hin dX11_init_325 lfX11_131 rfl h507 (by first | exact Or.inl ⟨_, rfl⟩ | exact Or.inr ⟨_, rfl⟩) rfl rfl hm509 ?_
  refine wa_aload_n X 0 dX11_init_328 rfl ?_
  refine wa_sipush (v := (600 : Int32)) X dX11_init_329 (by decide) ?_
  obtain ⟨q511, μ512, c515, m516, h513, hm514, hf, h517, h518⟩ := jnw_some hf
  refine wa_newa (t := 101) (N := 600) X dX11_init_332 (by decide) rfl la_101 (by decide) (by decide) (by decide) (by omega) (by omega) ?_
  rw [← h513, ← hm514]
  have h519 : (jT μ512 q511).1 = 101 := by rw [jT_at h513 hm514]
  obtain ⟨h520, hf⟩ := jckT hf
  obtain ⟨μ521, hm522, hf⟩ := jlt_e hf
  have e523 : jT μ521 = jT μ512 := by rw [hm522]; rfl
  refine wa_rputFP (ν := μ521) X hin dX11_init_334 lfX11_134 rfl h520 (by first | exact Or.inl ⟨_, rfl⟩ | exact Or.inr ⟨_, rfl⟩) rfl rfl hm522 ?_
  refine wa_aload_n X 0 dX11_init_337 rfl ?_
  refine wa_sipush (v := (2400 : Int32)) X dX11_init_338 (by decide) ?_
  obtain ⟨q524, μ525, c528, m529, h526, hm527, hf, h530, h531⟩ := jnw_some hf
  refine wa_newa (t := 100) (N := 2400) X dX11_init_341 (by decide) rfl la_100 (by decide) (by decide) (by decide) (by omega) (by omega) ?_
  rw [← h526, ← hm527]
  have h532 : (jT μ525 q524).1 = 100 := by rw [jT_at h526 hm527]
  obtain ⟨h533, hf⟩ := jckT hf
  obtain ⟨μ534, hm535, hf⟩ := jlt_e hf
  have e536 : jT μ534 = jT μ525 := by rw [hm535]; rfl
  refine wa_rputFP (ν := μ534) X hin dX11_init_343 lfX11_137 rfl h533 (by first | exact Or.inl ⟨_, rfl⟩ | exact Or.inr ⟨_, rfl⟩) rfl rfl hm535 ?_
  refine wa_aload_n X 0 dX11_init_346 rfl ?_
  refine wa_bipush (v := (24 : Int32)) X dX11_init_347 (by decide) ?_
  obtain ⟨q537, μ538, c541, m542, h539, hm540, hf, h543, h544⟩ := jnw_some hf
  refine wa_newa (t := 101) (N := 24) X dX11_init_349 (by decide) rfl la_101 (by decide) (by decide) (by decide) (by omega) (by omega) ?_
  rw [← h539, ← hm540]
  have h545 : (jT μ538 q537).1 = 101 := by rw [jT_at h539 hm540]
  obtain ⟨h546, hf⟩ := jckT hf
  obtain ⟨μ547, hm548, hf⟩ := jlt_e hf
  have e549 : jT μ547 = jT μ538 := by rw [hm548]; rfl
  refine wa_rputFP (ν := μ547) X hin dX11_init_351 lfX11_140 rfl h546 (by first | exact Or.inl ⟨_, rfl⟩ | exact Or.inr ⟨_, rfl⟩) rfl rfl hm548 ?_
  refine wa_aload_n X 0 dX11_init_354 rfl ?_
  refine wa_bipush (v := (24 : Int32)) X dX11_init_355 (by decide) ?_
  obtain ⟨q550, μ551, c554, m555, h552, hm553, hf, h556, h557⟩ := jnw_some hf
  refine wa_newa (t := 101) (N := 24) X dX11_init_357 (by decide) rfl la_101 (by decide) (by decide) (by decide) (by omega) (by omega) ?_
  rw [← h552, ← hm553]
  have h558 : (jT μ551 q550).1 = 101 := by rw [jT_at h552 hm553]
  obtain ⟨h559, hf⟩ := jckT hf
  obtain ⟨μ560, hm561, hf⟩ := jlt_e hf
  have e562 : jT μ560 = jT μ551 := by rw [hm561]; rfl
  refine wa_rputFP (ν := μ560) X hin dX11_init_359 lfX11_143 rfl h559 (by first | exact Or.inl ⟨_, rfl⟩ | exact Or.inr ⟨_, rfl⟩) rfl rfl hm561 ?_
  refine wa_aload_n X 0 dX11_init_362 rfl ?_
  refine wa_iconst (v := (-1 : Int32)) X dX11_init_363 (by decide) ?_
  obtain ⟨μ563, hm564, hf⟩ := jlt_e hf
  have e565 : jT μ563 = jT μ551 := by rw [hm564]; exact e562
  refine wa_rputI (ν := μ563) X dX11_init_364 lfX11_146 rfl (by rw [e562]; exact h559) rfl rfl hm564 ?_
  refine wa_aload_n X 0 dX11_init_367 rfl ?_
  refine wa_iconst (v := (-1 : Int32)) X dX11_init_368 (by decide) ?_
  obtain ⟨μ566, hm567, hf⟩ := jlt_e hf
  have e568 : jT μ566 = jT μ551 := by rw [hm567]; exact e565
  refine wa_rputI (ν := μ566) X dX11_init_369 lfX11_149 rfl (by rw [e565]; exact h559) rfl rfl hm567 ?_
  refine wa_aload_n X 0 dX11_init_372 rfl ?_
  refine wa_sipush (v := (10000 : Int32)) X dX11_init_373 (by decide) ?_
  obtain ⟨q569, μ570, c573, m574, h571, hm572, hf, h575, h576⟩ := jnw_some hf
  refine wa_newa (t := 103) (N := 10000) X dX11_init_376 (by decide) rfl la_103 (by decide) (by decide) (by decide) (by omega) (by omega) ?_
  rw [← h571, ← hm572]
  have h577 : (jT μ570 q569).1 = 103 := by rw [jT_at h571 hm572]
  obtain ⟨h578, hf⟩ := jckT hf
  obtain ⟨μ579, hm580, hf⟩ := jlt_e hf
  have e581 : jT μ579 = jT μ570 := by rw [hm580]; rfl
  refine wa_rputFP (ν := μ579) X hin dX11_init_378 lfX11_152 rfl h578 (by first | exact Or.inl ⟨_, rfl⟩ | exact Or.inr ⟨_, rfl⟩) rfl rfl hm580 ?_
  refine wa_iconst (v := (0 : Int32)) X dX11_init_381 (by decide) ?_
  refine wa_istore_n (L2 := [(1, .int (0 : Int32)), (0, va_rf (some a))]) X dX11_init_382 (by decide) (by first | rfl | (show (1, _) :: List.filter (fun q : Nat × Value => !(q.1 == 1) && !(q.1 + 1 == 1 && q.2.category == 2)) _ = _; simp [va_rf_cat, cat_i, cat_l])) ?_
  refine wa_sub (L2 := [(0, va_rf (some a)), (1, .int (0 : Int32))]) [1, 0] rfl ?_
  exact gX11_init_b383 X hin jfuel a (0 : Int32) μ579 _ _ _ _ hf (by omega) (by omega)
theorem dX11_four_0 : decode cX11_four 0 = .ok (.bipush 24, 2) := by decide +kernel
theorem dX11_four_2 : decode cX11_four 2 = .ok (.istore_n 2, 1) := by decide +kernel
theorem dX11_four_3 : decode cX11_four 3 = .ok (.iload_n 2, 1) := by decide +kernel
theorem dX11_four_4 : decode cX11_four 4 = .ok (.ifCond .lt 32, 3) := by decide +kernel
theorem dX11_four_7 : decode cX11_four 7 = .ok (.aload_n 0, 1) := by decide +kernel
theorem dX11_four_8 : decode cX11_four 8 = .ok (.getfield 7, 3) := by decide +kernel
theorem dX11_four_11 : decode cX11_four 11 = .ok (.aload_n 0, 1) := by decide +kernel
theorem dX11_four_12 : decode cX11_four 12 = .ok (.getfield 156, 3) := by decide +kernel
theorem dX11_four_15 : decode cX11_four 15 = .ok (.iload_n 1, 1) := by decide +kernel
theorem dX11_four_16 : decode cX11_four 16 = .ok (.iload_n 2, 1) := by decide +kernel
theorem dX11_four_17 : decode cX11_four 17 = .ok (.ishr, 1) := by decide +kernel
theorem dX11_four_18 : decode cX11_four 18 = .ok (.i2b, 1) := by decide +kernel
theorem dX11_four_19 : decode cX11_four 19 = .ok (.bastore, 1) := by decide +kernel
theorem dX11_four_20 : decode cX11_four 20 = .ok (.aload_n 0, 1) := by decide +kernel
theorem dX11_four_21 : decode cX11_four 21 = .ok (.dup, 1) := by decide +kernel
theorem dX11_four_22 : decode cX11_four 22 = .ok (.getfield 156, 3) := by decide +kernel
theorem dX11_four_25 : decode cX11_four 25 = .ok (.iconst 1, 1) := by decide +kernel
theorem dX11_four_26 : decode cX11_four 26 = .ok (.iadd, 1) := by decide +kernel
theorem dX11_four_27 : decode cX11_four 27 = .ok (.putfield 156, 3) := by decide +kernel
theorem dX11_four_30 : decode cX11_four 30 = .ok (.iinc 2 (-8), 3) := by decide +kernel
theorem dX11_four_33 : decode cX11_four 33 = .ok (.goto (-30), 3) := by decide +kernel
theorem dX11_four_36 : decode cX11_four 36 = .ok (.return_, 1) := by decide +kernel
def fX11_four_b3 : Nat → Nat → Int32 → Int32 → JM → JO (Unit)
  | 0, _, _, _, _ => none
  | fu + 1, a, x1, x2, μ => if x2 < 0 then (some ((), μ, 0, 0)) else (jck ((jT μ a).1 == 12) <| jde (jP μ a 0) fun q3 => jck ((jT μ q3).1 == 100) <| jck (jin (jI μ a 1) (jT μ q3).2) <| jlt (jsI μ q3 ((jI μ a 1)).toNatClampNeg (vp_nar .byte (jb8 (jshr x1 x2)))) fun μ7 => jlt (jsI μ7 a 1 ((jI μ7 a 1) + (1 : Int32))) fun μ10 => fX11_four_b3 fu a x1 (x2 + (-8 : Int32)) μ10)
set_option maxHeartbeats 4000000 in
set_option maxRecDepth 100000 in
theorem gX11_four_b3 {b : Nat} {Θ : JE} {RC RS : Nat} {r : Unit} {ν : JM} (X : jX b Θ RX11 cX11_four 3 none 0 0 RC RS) : ∀ (fu : Nat) (a : Nat) (x1 : Int32) (x2 : Int32) (μ : JM) (c m k n : Nat), fX11_four_b3 fu a x1 x2 μ = some (r, ν, c, m) → k + c = RC → n + m = RS → WA b Θ 3 (jE b Θ (none) ν RC RS) μ k n 3 [(0, va_rf (some a)), (1, .int x1), (2, .int x2)] [] := by
  intro fu
  induction fu with
  | zero => intro a x1 x2 μ c m k n hf; cases hf
  | succ fu ih =>
    intro a x1 x2 μ c m k n hf hk hn
    rw [fX11_four_b3] at hf
    refine wa_iload_n X 2 dX11_four_3 rfl ?_
    refine wa_iflt (tgt := 36) X dX11_four_4 (by decide) (fun h1 => ?_) (fun h1 => ?_)
    · rw [if_pos h1] at hf
      obtain ⟨rfl, rfl, rfl, rfl⟩ := jret hf
      exact wa_vret X dX11_four_36 (by omega) (by omega)
    · rw [if_neg h1] at hf
      refine wa_aload_n X 0 dX11_four_7 rfl ?_
      obtain ⟨h2, hf⟩ := jckT hf
      refine wa_getP X dX11_four_8 lfX11_7 rfl h2 rfl ?_
      refine wa_aload_n X 0 dX11_four_11 rfl ?_
      refine wa_getI X dX11_four_12 lfX11_156 rfl h2 rfl ?_
      refine wa_iload_n X 1 dX11_four_15 rfl ?_
      refine wa_iload_n X 2 dX11_four_16 rfl ?_
      refine wa_ishr X dX11_four_17 ?_
      refine wa_i2b X dX11_four_18 ?_
      obtain ⟨q3, h4, hf⟩ := jde_some hf
      obtain ⟨h5, hf⟩ := jckT hf
      obtain ⟨h6, hf⟩ := jck_some hf
      obtain ⟨μ7, hm8, hf⟩ := jlt_e hf
      have e9 : jT μ7 = jT μ := by rw [hm8]; rfl
      refine wa_rbast (ν := μ7) X dX11_four_19 h4 h5 h6 hm8 ?_
      refine wa_aload_n X 0 dX11_four_20 rfl ?_
      refine wa_dup X dX11_four_21 (va_rf_cat _) ?_
      refine wa_getI X dX11_four_22 lfX11_156 rfl (by rw [e9]; exact h2) rfl ?_
      refine wa_iconst (v := (1 : Int32)) X dX11_four_25 (by decide) ?_
      refine wa_iadd X dX11_four_26 ?_
      obtain ⟨μ10, hm11, hf⟩ := jlt_e hf
      have e12 : jT μ10 = jT μ := by rw [hm11]; exact e9
      refine wa_rputI (ν := μ10) X dX11_four_27 lfX11_156 rfl (by rw [e9]; exact h2) rfl rfl hm11 ?_
      refine wa_iinc (v := (x2 + (-8 : Int32))) (L2 := [(2, .int (x2 + (-8 : Int32))), (0, va_rf (some a)), (1, .int x1)]) X 2 dX11_four_30 rfl rfl (by decide) (by first | rfl | simp [va_rf_cat, cat_i, cat_l]) ?_
      refine wa_goto (tgt := 3) X dX11_four_33 (by decide) ?_
      refine wa_sub (L2 := [(0, va_rf (some a)), (1, .int x1), (2, .int (x2 + (-8 : Int32)))]) [1, 2, 0] rfl ?_
      exact ih a x1 (x2 + (-8 : Int32)) μ10 _ _ _ _ hf (by omega) (by omega)
def fX11_four (a : Nat) (x1 : Int32) (μ : JM) : JO (Unit) := fX11_four_b3  jfuel a x1 (24 : Int32) μ
set_option maxHeartbeats 4000000 in
set_option maxRecDepth 100000 in
theorem mX11_four {b : Nat} {a : Nat} {x1 : Int32} {μ : JM} {r : Unit} {ν : JM} {c m : Nat} (hf : fX11_four a x1 μ = some (r, ν, c, m)) : JMet b yX11_four cX11_four 3 none 0 0 [va_rf (some a), .int x1] μ (none) ν c m := by
  refine JMet.of (by decide) (lg_sl_le (by simp only [List.map_cons, List.map_nil, List.sum_cons, List.sum_nil, va_rf_cat]; exact Nat.le_of_ble_eq_true rfl)) (fun Θ X hin => ?_)
  refine wa_eq (L2 := [(0, va_rf (some a)), (1, .int x1)]) ?_ rfl (by first | rfl | simp [lv_args, va_rf_cat, cat_i, cat_l]) rfl
  obtain ⟨k, hk0⟩ : ∃ k : Nat, k = 0 := ⟨0, rfl⟩
  obtain ⟨n, hn0⟩ : ∃ n : Nat, n = 0 := ⟨0, rfl⟩
  have hk : k + c = c := by omega
  have hn : n + m = m := by omega
  refine wa_costs hk0.symm hn0.symm ?_
  rw [fX11_four] at hf
  refine wa_bipush (v := (24 : Int32)) X dX11_four_0 (by decide) ?_
  refine wa_istore_n (L2 := [(2, .int (24 : Int32)), (0, va_rf (some a)), (1, .int x1)]) X dX11_four_2 (by decide) (by first | rfl | (show (2, _) :: List.filter (fun q : Nat × Value => !(q.1 == 2) && !(q.1 + 1 == 2 && q.2.category == 2)) _ = _; simp [va_rf_cat, cat_i, cat_l])) ?_
  refine wa_sub (L2 := [(0, va_rf (some a)), (1, .int x1), (2, .int (24 : Int32))]) [1, 2, 0] rfl ?_
  exact gX11_four_b3 X jfuel a x1 (24 : Int32) μ _ _ _ _ hf (by omega) (by omega)
theorem dX11_feed_0 : decode cX11_feed 0 = .ok (.aload_n 0, 1) := by decide +kernel
theorem dX11_feed_1 : decode cX11_feed 1 = .ok (.getfield 156, 3) := by decide +kernel
theorem dX11_feed_4 : decode cX11_feed 4 = .ok (.bipush 20, 2) := by decide +kernel
theorem dX11_feed_6 : decode cX11_feed 6 = .ok (.iadd, 1) := by decide +kernel
theorem dX11_feed_7 : decode cX11_feed 7 = .ok (.sipush 900, 3) := by decide +kernel
theorem dX11_feed_10 : decode cX11_feed 10 = .ok (.if_icmp .le 5, 3) := by decide +kernel
theorem dX11_feed_13 : decode cX11_feed 13 = .ok (.iconst (-1), 1) := by decide +kernel
theorem dX11_feed_14 : decode cX11_feed 14 = .ok (.ireturn, 1) := by decide +kernel
theorem dX11_feed_15 : decode cX11_feed 15 = .ok (.aload_n 0, 1) := by decide +kernel
theorem dX11_feed_16 : decode cX11_feed 16 = .ok (.iload_n 1, 1) := by decide +kernel
theorem dX11_feed_17 : decode cX11_feed 17 = .ok (.invokevirtual 159, 3) := by decide +kernel
theorem dX11_feed_20 : decode cX11_feed 20 = .ok (.aload_n 0, 1) := by decide +kernel
theorem dX11_feed_21 : decode cX11_feed 21 = .ok (.iload_n 2, 1) := by decide +kernel
theorem dX11_feed_22 : decode cX11_feed 22 = .ok (.invokevirtual 159, 3) := by decide +kernel
theorem dX11_feed_25 : decode cX11_feed 25 = .ok (.aload_n 0, 1) := by decide +kernel
theorem dX11_feed_26 : decode cX11_feed 26 = .ok (.iload_n 3, 1) := by decide +kernel
theorem dX11_feed_27 : decode cX11_feed 27 = .ok (.invokevirtual 159, 3) := by decide +kernel
theorem dX11_feed_30 : decode cX11_feed 30 = .ok (.aload_n 0, 1) := by decide +kernel
theorem dX11_feed_31 : decode cX11_feed 31 = .ok (.iload 4, 2) := by decide +kernel
theorem dX11_feed_33 : decode cX11_feed 33 = .ok (.invokevirtual 159, 3) := by decide +kernel
theorem dX11_feed_36 : decode cX11_feed 36 = .ok (.aload_n 0, 1) := by decide +kernel
theorem dX11_feed_37 : decode cX11_feed 37 = .ok (.iload 5, 2) := by decide +kernel
theorem dX11_feed_39 : decode cX11_feed 39 = .ok (.invokevirtual 159, 3) := by decide +kernel
theorem dX11_feed_42 : decode cX11_feed 42 = .ok (.aload_n 0, 1) := by decide +kernel
theorem dX11_feed_43 : decode cX11_feed 43 = .ok (.getfield 156, 3) := by decide +kernel
theorem dX11_feed_46 : decode cX11_feed 46 = .ok (.ireturn, 1) := by decide +kernel
def fX11_feed (a : Nat) (x1 : Int32) (x2 : Int32) (x3 : Int32) (x4 : Int32) (x5 : Int32) (μ : JM) : JO (Int32) := jck ((jT μ a).1 == 12) <| if ((jI μ a 1) + (20 : Int32)) ≤ (900 : Int32) then (jcl (fX11_four a x1 μ) fun u3 μ4 => jck ((jT μ4 a).1 == 12) <| jcl (fX11_four a x2 μ4) fun u13 μ14 => jck ((jT μ14 a).1 == 12) <| jcl (fX11_four a x3 μ14) fun u23 μ24 => jck ((jT μ24 a).1 == 12) <| jcl (fX11_four a x4 μ24) fun u33 μ34 => jck ((jT μ34 a).1 == 12) <| jcl (fX11_four a x5 μ34) fun u43 μ44 => jck ((jT μ44 a).1 == 12) <| some ((jI μ44 a 1), μ44, 0, 0)) else (some ((-1 : Int32), μ, 0, 0))
set_option maxHeartbeats 4000000 in
set_option maxRecDepth 100000 in
theorem mX11_feed {b : Nat} {a : Nat} {x1 : Int32} {x2 : Int32} {x3 : Int32} {x4 : Int32} {x5 : Int32} {μ : JM} {r : Int32} {ν : JM} {c m : Nat} (hf : fX11_feed a x1 x2 x3 x4 x5 μ = some (r, ν, c, m)) : JMet b yX11_feed cX11_feed 6 (some .int) 1 22 [va_rf (some a), .int x1, .int x2, .int x3, .int x4, .int x5] μ (some (.int r)) ν c m := by
  refine JMet.of (by decide) (lg_sl_le (by simp only [List.map_cons, List.map_nil, List.sum_cons, List.sum_nil, va_rf_cat]; exact Nat.le_of_ble_eq_true rfl)) (fun Θ X hin => ?_)
  refine wa_eq (L2 := [(0, va_rf (some a)), (1, .int x1), (2, .int x2), (3, .int x3), (4, .int x4), (5, .int x5)]) ?_ rfl (by first | rfl | simp [lv_args, va_rf_cat, cat_i, cat_l]) rfl
  obtain ⟨k, hk0⟩ : ∃ k : Nat, k = 0 := ⟨0, rfl⟩
  obtain ⟨n, hn0⟩ : ∃ n : Nat, n = 0 := ⟨0, rfl⟩
  have hk : k + c = c := by omega
  have hn : n + m = m := by omega
  refine wa_costs hk0.symm hn0.symm ?_
  rw [fX11_feed] at hf
  refine wa_aload_n X 0 dX11_feed_0 rfl ?_
  obtain ⟨h1, hf⟩ := jckT hf
  refine wa_getI X dX11_feed_1 lfX11_156 rfl h1 rfl ?_
  refine wa_bipush (v := (20 : Int32)) X dX11_feed_4 (by decide) ?_
  refine wa_iadd X dX11_feed_6 ?_
  refine wa_sipush (v := (900 : Int32)) X dX11_feed_7 (by decide) ?_
  refine wa_icle (tgt := 15) X dX11_feed_10 (by decide) (fun h2 => ?_) (fun h2 => ?_)
  · rw [if_pos h2] at hf
    refine wa_aload_n X 0 dX11_feed_15 rfl ?_
    refine wa_iload_n X 1 dX11_feed_16 rfl ?_
    obtain ⟨u3, μ4, c5, m6, c7, m8, e9, hf, h10, h11⟩ := jcl_some hf
    refine wa_rcallV (st2 := []) X dX11_feed_17 lmX11_159 lMX11_four rfl h1 (mX11_four e9) rfl rfl rfl (va_cats (Nat.le_of_ble_eq_true rfl)) (by decide) (by omega) (by omega) ?_
    refine wa_aload_n X 0 dX11_feed_20 rfl ?_
    refine wa_iload_n X 2 dX11_feed_21 rfl ?_
    obtain ⟨h12, hf⟩ := jckT hf
    obtain ⟨u13, μ14, c15, m16, c17, m18, e19, hf, h20, h21⟩ := jcl_some hf
    refine wa_rcallV (st2 := []) X dX11_feed_22 lmX11_159 lMX11_four rfl h12 (mX11_four e19) rfl rfl rfl (va_cats (Nat.le_of_ble_eq_true rfl)) (by decide) (by omega) (by omega) ?_
    refine wa_aload_n X 0 dX11_feed_25 rfl ?_
    refine wa_iload_n X 3 dX11_feed_26 rfl ?_
    obtain ⟨h22, hf⟩ := jckT hf
    obtain ⟨u23, μ24, c25, m26, c27, m28, e29, hf, h30, h31⟩ := jcl_some hf
    refine wa_rcallV (st2 := []) X dX11_feed_27 lmX11_159 lMX11_four rfl h22 (mX11_four e29) rfl rfl rfl (va_cats (Nat.le_of_ble_eq_true rfl)) (by decide) (by omega) (by omega) ?_
    refine wa_aload_n X 0 dX11_feed_30 rfl ?_
    refine wa_iload X 4 dX11_feed_31 rfl ?_
    obtain ⟨h32, hf⟩ := jckT hf
    obtain ⟨u33, μ34, c35, m36, c37, m38, e39, hf, h40, h41⟩ := jcl_some hf
    refine wa_rcallV (st2 := []) X dX11_feed_33 lmX11_159 lMX11_four rfl h32 (mX11_four e39) rfl rfl rfl (va_cats (Nat.le_of_ble_eq_true rfl)) (by decide) (by omega) (by omega) ?_
    refine wa_aload_n X 0 dX11_feed_36 rfl ?_
    refine wa_iload X 5 dX11_feed_37 rfl ?_
    obtain ⟨h42, hf⟩ := jckT hf
    obtain ⟨u43, μ44, c45, m46, c47, m48, e49, hf, h50, h51⟩ := jcl_some hf
    refine wa_rcallV (st2 := []) X dX11_feed_39 lmX11_159 lMX11_four rfl h42 (mX11_four e49) rfl rfl rfl (va_cats (Nat.le_of_ble_eq_true rfl)) (by decide) (by omega) (by omega) ?_
    refine wa_aload_n X 0 dX11_feed_42 rfl ?_
    obtain ⟨h52, hf⟩ := jckT hf
    refine wa_getI X dX11_feed_43 lfX11_156 rfl h52 rfl ?_
    obtain ⟨rfl, rfl, rfl, rfl⟩ := jret hf
    exact wa_iret X dX11_feed_46 rfl (by omega) (by omega)
  · rw [if_neg h2] at hf
    refine wa_iconst (v := (-1 : Int32)) X dX11_feed_13 (by decide) ?_
    obtain ⟨rfl, rfl, rfl, rfl⟩ := jret hf
    exact wa_iret X dX11_feed_14 rfl (by omega) (by omega)
theorem dX11_end_0 : decode cX11_end 0 = .ok (.iload_n 1, 1) := by decide +kernel
theorem dX11_end_1 : decode cX11_end 1 = .ok (.ifCond .lt 11, 3) := by decide +kernel
theorem dX11_end_4 : decode cX11_end 4 = .ok (.iload_n 1, 1) := by decide +kernel
theorem dX11_end_5 : decode cX11_end 5 = .ok (.aload_n 0, 1) := by decide +kernel
theorem dX11_end_6 : decode cX11_end 6 = .ok (.getfield 156, 3) := by decide +kernel
theorem dX11_end_9 : decode cX11_end 9 = .ok (.if_icmp .le 5, 3) := by decide +kernel
theorem dX11_end_12 : decode cX11_end 12 = .ok (.iconst (-1), 1) := by decide +kernel
theorem dX11_end_13 : decode cX11_end 13 = .ok (.ireturn, 1) := by decide +kernel
theorem dX11_end_14 : decode cX11_end 14 = .ok (.aload_n 0, 1) := by decide +kernel
theorem dX11_end_15 : decode cX11_end 15 = .ok (.iload_n 1, 1) := by decide +kernel
theorem dX11_end_16 : decode cX11_end 16 = .ok (.putfield 156, 3) := by decide +kernel
theorem dX11_end_19 : decode cX11_end 19 = .ok (.iload_n 1, 1) := by decide +kernel
theorem dX11_end_20 : decode cX11_end 20 = .ok (.ireturn, 1) := by decide +kernel
def fX11_end (a : Nat) (x1 : Int32) (μ : JM) : JO (Int32) := if x1 < 0 then (some ((-1 : Int32), μ, 0, 0)) else (jck ((jT μ a).1 == 12) <| if x1 ≤ (jI μ a 1) then (jlt (jsI μ a 1 x1) fun μ4 => some (x1, μ4, 0, 0)) else (some ((-1 : Int32), μ, 0, 0)))
set_option maxHeartbeats 4000000 in
set_option maxRecDepth 100000 in
theorem mX11_end {b : Nat} {a : Nat} {x1 : Int32} {μ : JM} {r : Int32} {ν : JM} {c m : Nat} (hf : fX11_end a x1 μ = some (r, ν, c, m)) : JMet b yX11_end cX11_end 2 (some .int) 0 0 [va_rf (some a), .int x1] μ (some (.int r)) ν c m := by
  refine JMet.of (by decide) (lg_sl_le (by simp only [List.map_cons, List.map_nil, List.sum_cons, List.sum_nil, va_rf_cat]; exact Nat.le_of_ble_eq_true rfl)) (fun Θ X hin => ?_)
  refine wa_eq (L2 := [(0, va_rf (some a)), (1, .int x1)]) ?_ rfl (by first | rfl | simp [lv_args, va_rf_cat, cat_i, cat_l]) rfl
  obtain ⟨k, hk0⟩ : ∃ k : Nat, k = 0 := ⟨0, rfl⟩
  obtain ⟨n, hn0⟩ : ∃ n : Nat, n = 0 := ⟨0, rfl⟩
  have hk : k + c = c := by omega
  have hn : n + m = m := by omega
  refine wa_costs hk0.symm hn0.symm ?_
  rw [fX11_end] at hf
  refine wa_iload_n X 1 dX11_end_0 rfl ?_
  refine wa_iflt (tgt := 12) X dX11_end_1 (by decide) (fun h1 => ?_) (fun h1 => ?_)
  · rw [if_pos h1] at hf
    refine wa_iconst (v := (-1 : Int32)) X dX11_end_12 (by decide) ?_
    obtain ⟨rfl, rfl, rfl, rfl⟩ := jret hf
    exact wa_iret X dX11_end_13 rfl (by omega) (by omega)
  · rw [if_neg h1] at hf
    refine wa_iload_n X 1 dX11_end_4 rfl ?_
    refine wa_aload_n X 0 dX11_end_5 rfl ?_
    obtain ⟨h2, hf⟩ := jckT hf
    refine wa_getI X dX11_end_6 lfX11_156 rfl h2 rfl ?_
    refine wa_icle (tgt := 14) X dX11_end_9 (by decide) (fun h3 => ?_) (fun h3 => ?_)
    · rw [if_pos h3] at hf
      refine wa_aload_n X 0 dX11_end_14 rfl ?_
      refine wa_iload_n X 1 dX11_end_15 rfl ?_
      obtain ⟨μ4, hm5, hf⟩ := jlt_e hf
      have e6 : jT μ4 = jT μ := by rw [hm5]; rfl
      refine wa_rputI (ν := μ4) X dX11_end_16 lfX11_156 rfl h2 rfl rfl hm5 ?_
      refine wa_iload_n X 1 dX11_end_19 rfl ?_
      obtain ⟨rfl, rfl, rfl, rfl⟩ := jret hf
      exact wa_iret X dX11_end_20 rfl (by omega) (by omega)
    · rw [if_neg h3] at hf
      refine wa_iconst (v := (-1 : Int32)) X dX11_end_12 (by decide) ?_
      obtain ⟨rfl, rfl, rfl, rfl⟩ := jret hf
      exact wa_iret X dX11_end_13 rfl (by omega) (by omega)
theorem dX11_in_0 : decode cX11_in 0 = .ok (.iload_n 0, 1) := by decide +kernel
theorem dX11_in_1 : decode cX11_in 1 = .ok (.iload_n 1, 1) := by decide +kernel
theorem dX11_in_2 : decode cX11_in 2 = .ok (.if_icmp .lt 12, 3) := by decide +kernel
theorem dX11_in_5 : decode cX11_in 5 = .ok (.iload_n 0, 1) := by decide +kernel
theorem dX11_in_6 : decode cX11_in 6 = .ok (.iload_n 2, 1) := by decide +kernel
theorem dX11_in_7 : decode cX11_in 7 = .ok (.if_icmp .gt 7, 3) := by decide +kernel
theorem dX11_in_10 : decode cX11_in 10 = .ok (.iconst 1, 1) := by decide +kernel
theorem dX11_in_11 : decode cX11_in 11 = .ok (.goto 4, 3) := by decide +kernel
theorem dX11_in_14 : decode cX11_in 14 = .ok (.iconst 0, 1) := by decide +kernel
theorem dX11_in_15 : decode cX11_in 15 = .ok (.ireturn, 1) := by decide +kernel
def fX11_in (x0 : Int32) (x1 : Int32) (x2 : Int32) (μ : JM) : JO (Int32) := if x0 < x1 then (some ((0 : Int32), μ, 0, 0)) else (if x2 < x0 then (some ((0 : Int32), μ, 0, 0)) else (some ((1 : Int32), μ, 0, 0)))
set_option maxHeartbeats 4000000 in
set_option maxRecDepth 100000 in
theorem mX11_in {b : Nat} {x0 : Int32} {x1 : Int32} {x2 : Int32} {μ : JM} {r : Int32} {ν : JM} {c m : Nat} (hf : fX11_in x0 x1 x2 μ = some (r, ν, c, m)) : JMet b yX11_in cX11_in 3 (some .boolean) 0 0 [.int x0, .int x1, .int x2] μ (some (.int r)) ν c m := by
  refine JMet.of (by decide) (lg_sl_le (by simp only [List.map_cons, List.map_nil, List.sum_cons, List.sum_nil, va_rf_cat]; exact Nat.le_of_ble_eq_true rfl)) (fun Θ X hin => ?_)
  refine wa_eq (L2 := [(0, .int x0), (1, .int x1), (2, .int x2)]) ?_ rfl (by first | rfl | simp [lv_args, va_rf_cat, cat_i, cat_l]) rfl
  obtain ⟨k, hk0⟩ : ∃ k : Nat, k = 0 := ⟨0, rfl⟩
  obtain ⟨n, hn0⟩ : ∃ n : Nat, n = 0 := ⟨0, rfl⟩
  have hk : k + c = c := by omega
  have hn : n + m = m := by omega
  refine wa_costs hk0.symm hn0.symm ?_
  rw [fX11_in] at hf
  refine wa_iload_n X 0 dX11_in_0 rfl ?_
  refine wa_iload_n X 1 dX11_in_1 rfl ?_
  refine wa_iclt (tgt := 14) X dX11_in_2 (by decide) (fun h1 => ?_) (fun h1 => ?_)
  · rw [if_pos h1] at hf
    refine wa_iconst (v := (0 : Int32)) X dX11_in_14 (by decide) ?_
    obtain ⟨rfl, rfl, rfl, rfl⟩ := jret hf
    exact wa_iret X dX11_in_15 rfl (by omega) (by omega)
  · rw [if_neg h1] at hf
    refine wa_iload_n X 0 dX11_in_5 rfl ?_
    refine wa_iload_n X 2 dX11_in_6 rfl ?_
    refine wa_icgt (tgt := 14) X dX11_in_7 (by decide) (fun h2 => ?_) (fun h2 => ?_)
    · rw [if_pos h2] at hf
      refine wa_iconst (v := (0 : Int32)) X dX11_in_14 (by decide) ?_
      obtain ⟨rfl, rfl, rfl, rfl⟩ := jret hf
      exact wa_iret X dX11_in_15 rfl (by omega) (by omega)
    · rw [if_neg h2] at hf
      refine wa_iconst (v := (1 : Int32)) X dX11_in_10 (by decide) ?_
      refine wa_goto (tgt := 15) X dX11_in_11 (by decide) ?_
      obtain ⟨rfl, rfl, rfl, rfl⟩ := jret hf
      exact wa_iret X dX11_in_15 rfl (by omega) (by omega)
theorem dX11_fails_0 : decode cX11_fails 0 = .ok (.aload_n 0, 1) := by decide +kernel
theorem dX11_fails_1 : decode cX11_fails 1 = .ok (.getfield 163, 3) := by decide +kernel
theorem dX11_fails_4 : decode cX11_fails 4 = .ok (.ifCond .ne 15, 3) := by decide +kernel
theorem dX11_fails_7 : decode cX11_fails 7 = .ok (.aload_n 0, 1) := by decide +kernel
theorem dX11_fails_8 : decode cX11_fails 8 = .ok (.iconst 1, 1) := by decide +kernel
theorem dX11_fails_9 : decode cX11_fails 9 = .ok (.bipush 8, 2) := by decide +kernel
theorem dX11_fails_11 : decode cX11_fails 11 = .ok (.iload_n 2, 1) := by decide +kernel
theorem dX11_fails_12 : decode cX11_fails 12 = .ok (.imul, 1) := by decide +kernel
theorem dX11_fails_13 : decode cX11_fails 13 = .ok (.iadd, 1) := by decide +kernel
theorem dX11_fails_14 : decode cX11_fails 14 = .ok (.iload_n 1, 1) := by decide +kernel
theorem dX11_fails_15 : decode cX11_fails 15 = .ok (.iadd, 1) := by decide +kernel
theorem dX11_fails_16 : decode cX11_fails 16 = .ok (.putfield 163, 3) := by decide +kernel
theorem dX11_fails_19 : decode cX11_fails 19 = .ok (.iconst 0, 1) := by decide +kernel
theorem dX11_fails_20 : decode cX11_fails 20 = .ok (.ireturn, 1) := by decide +kernel
def fX11_fails (a : Nat) (x1 : Int32) (x2 : Int32) (μ : JM) : JO (Int32) := jck ((jT μ a).1 == 12) <| if (jI μ a 18) = 0 then (jlt (jsI μ a 18 (((1 : Int32) + ((8 : Int32) * x2)) + x1)) fun μ3 => some ((0 : Int32), μ3, 0, 0)) else (some ((0 : Int32), μ, 0, 0))
set_option maxHeartbeats 4000000 in
set_option maxRecDepth 100000 in
theorem mX11_fails {b : Nat} {a : Nat} {x1 : Int32} {x2 : Int32} {μ : JM} {r : Int32} {ν : JM} {c m : Nat} (hf : fX11_fails a x1 x2 μ = some (r, ν, c, m)) : JMet b yX11_fails cX11_fails 3 (some .boolean) 0 0 [va_rf (some a), .int x1, .int x2] μ (some (.int r)) ν c m := by
  refine JMet.of (by decide) (lg_sl_le (by simp only [List.map_cons, List.map_nil, List.sum_cons, List.sum_nil, va_rf_cat]; exact Nat.le_of_ble_eq_true rfl)) (fun Θ X hin => ?_)
  refine wa_eq (L2 := [(0, va_rf (some a)), (1, .int x1), (2, .int x2)]) ?_ rfl (by first | rfl | simp [lv_args, va_rf_cat, cat_i, cat_l]) rfl
  obtain ⟨k, hk0⟩ : ∃ k : Nat, k = 0 := ⟨0, rfl⟩
  obtain ⟨n, hn0⟩ : ∃ n : Nat, n = 0 := ⟨0, rfl⟩
  have hk : k + c = c := by omega
  have hn : n + m = m := by omega
  refine wa_costs hk0.symm hn0.symm ?_
  rw [fX11_fails] at hf
  refine wa_aload_n X 0 dX11_fails_0 rfl ?_
  obtain ⟨h1, hf⟩ := jckT hf
  refine wa_getI X dX11_fails_1 lfX11_163 rfl h1 rfl ?_
  refine wa_ifne (tgt := 19) X dX11_fails_4 (by decide) (fun h2 => ?_) (fun h2 => ?_)
  · rw [if_neg h2] at hf
    refine wa_iconst (v := (0 : Int32)) X dX11_fails_19 (by decide) ?_
    obtain ⟨rfl, rfl, rfl, rfl⟩ := jret hf
    exact wa_iret X dX11_fails_20 rfl (by omega) (by omega)
  · rw [if_pos h2] at hf
    refine wa_aload_n X 0 dX11_fails_7 rfl ?_
    refine wa_iconst (v := (1 : Int32)) X dX11_fails_8 (by decide) ?_
    refine wa_bipush (v := (8 : Int32)) X dX11_fails_9 (by decide) ?_
    refine wa_iload_n X 2 dX11_fails_11 rfl ?_
    refine wa_imul X dX11_fails_12 ?_
    refine wa_iadd X dX11_fails_13 ?_
    refine wa_iload_n X 1 dX11_fails_14 rfl ?_
    refine wa_iadd X dX11_fails_15 ?_
    obtain ⟨μ3, hm4, hf⟩ := jlt_e hf
    have e5 : jT μ3 = jT μ := by rw [hm4]; rfl
    refine wa_rputI (ν := μ3) X dX11_fails_16 lfX11_163 rfl h1 rfl rfl hm4 ?_
    refine wa_iconst (v := (0 : Int32)) X dX11_fails_19 (by decide) ?_
    obtain ⟨rfl, rfl, rfl, rfl⟩ := jret hf
    exact wa_iret X dX11_fails_20 rfl (by omega) (by omega)
theorem dX11_isLetter_0 : decode cX11_isLetter 0 = .ok (.iload_n 0, 1) := by decide +kernel
theorem dX11_isLetter_1 : decode cX11_isLetter 1 = .ok (.bipush 97, 2) := by decide +kernel
theorem dX11_isLetter_3 : decode cX11_isLetter 3 = .ok (.if_icmp .lt 13, 3) := by decide +kernel
theorem dX11_isLetter_6 : decode cX11_isLetter 6 = .ok (.iload_n 0, 1) := by decide +kernel
theorem dX11_isLetter_7 : decode cX11_isLetter 7 = .ok (.bipush 122, 2) := by decide +kernel
theorem dX11_isLetter_9 : decode cX11_isLetter 9 = .ok (.if_icmp .gt 7, 3) := by decide +kernel
theorem dX11_isLetter_12 : decode cX11_isLetter 12 = .ok (.iconst 1, 1) := by decide +kernel
theorem dX11_isLetter_13 : decode cX11_isLetter 13 = .ok (.goto 4, 3) := by decide +kernel
theorem dX11_isLetter_16 : decode cX11_isLetter 16 = .ok (.iconst 0, 1) := by decide +kernel
theorem dX11_isLetter_17 : decode cX11_isLetter 17 = .ok (.ireturn, 1) := by decide +kernel
def fX11_isLetter (x0 : Int32) (μ : JM) : JO (Int32) := if x0 < (97 : Int32) then (some ((0 : Int32), μ, 0, 0)) else (if (122 : Int32) < x0 then (some ((0 : Int32), μ, 0, 0)) else (some ((1 : Int32), μ, 0, 0)))
set_option maxHeartbeats 4000000 in
set_option maxRecDepth 100000 in
theorem mX11_isLetter {b : Nat} {x0 : Int32} {μ : JM} {r : Int32} {ν : JM} {c m : Nat} (hf : fX11_isLetter x0 μ = some (r, ν, c, m)) : JMet b yX11_isLetter cX11_isLetter 1 (some .boolean) 0 0 [.int x0] μ (some (.int r)) ν c m := by
  refine JMet.of (by decide) (lg_sl_le (by simp only [List.map_cons, List.map_nil, List.sum_cons, List.sum_nil, va_rf_cat]; exact Nat.le_of_ble_eq_true rfl)) (fun Θ X hin => ?_)
  refine wa_eq (L2 := [(0, .int x0)]) ?_ rfl (by first | rfl | simp [lv_args, va_rf_cat, cat_i, cat_l]) rfl
  obtain ⟨k, hk0⟩ : ∃ k : Nat, k = 0 := ⟨0, rfl⟩
  obtain ⟨n, hn0⟩ : ∃ n : Nat, n = 0 := ⟨0, rfl⟩
  have hk : k + c = c := by omega
  have hn : n + m = m := by omega
  refine wa_costs hk0.symm hn0.symm ?_
  rw [fX11_isLetter] at hf
  refine wa_iload_n X 0 dX11_isLetter_0 rfl ?_
  refine wa_bipush (v := (97 : Int32)) X dX11_isLetter_1 (by decide) ?_
  refine wa_iclt (tgt := 16) X dX11_isLetter_3 (by decide) (fun h1 => ?_) (fun h1 => ?_)
  · rw [if_pos h1] at hf
    refine wa_iconst (v := (0 : Int32)) X dX11_isLetter_16 (by decide) ?_
    obtain ⟨rfl, rfl, rfl, rfl⟩ := jret hf
    exact wa_iret X dX11_isLetter_17 rfl (by omega) (by omega)
  · rw [if_neg h1] at hf
    refine wa_iload_n X 0 dX11_isLetter_6 rfl ?_
    refine wa_bipush (v := (122 : Int32)) X dX11_isLetter_7 (by decide) ?_
    refine wa_icgt (tgt := 16) X dX11_isLetter_9 (by decide) (fun h2 => ?_) (fun h2 => ?_)
    · rw [if_pos h2] at hf
      refine wa_iconst (v := (0 : Int32)) X dX11_isLetter_16 (by decide) ?_
      obtain ⟨rfl, rfl, rfl, rfl⟩ := jret hf
      exact wa_iret X dX11_isLetter_17 rfl (by omega) (by omega)
    · rw [if_neg h2] at hf
      refine wa_iconst (v := (1 : Int32)) X dX11_isLetter_12 (by decide) ?_
      refine wa_goto (tgt := 17) X dX11_isLetter_13 (by decide) ?_
      obtain ⟨rfl, rfl, rfl, rfl⟩ := jret hf
      exact wa_iret X dX11_isLetter_17 rfl (by omega) (by omega)
theorem dX11_isDigit_0 : decode cX11_isDigit 0 = .ok (.iload_n 0, 1) := by decide +kernel
theorem dX11_isDigit_1 : decode cX11_isDigit 1 = .ok (.bipush 48, 2) := by decide +kernel
theorem dX11_isDigit_3 : decode cX11_isDigit 3 = .ok (.if_icmp .lt 13, 3) := by decide +kernel
theorem dX11_isDigit_6 : decode cX11_isDigit 6 = .ok (.iload_n 0, 1) := by decide +kernel
theorem dX11_isDigit_7 : decode cX11_isDigit 7 = .ok (.bipush 57, 2) := by decide +kernel
theorem dX11_isDigit_9 : decode cX11_isDigit 9 = .ok (.if_icmp .gt 7, 3) := by decide +kernel
theorem dX11_isDigit_12 : decode cX11_isDigit 12 = .ok (.iconst 1, 1) := by decide +kernel
theorem dX11_isDigit_13 : decode cX11_isDigit 13 = .ok (.goto 4, 3) := by decide +kernel
theorem dX11_isDigit_16 : decode cX11_isDigit 16 = .ok (.iconst 0, 1) := by decide +kernel
theorem dX11_isDigit_17 : decode cX11_isDigit 17 = .ok (.ireturn, 1) := by decide +kernel
def fX11_isDigit (x0 : Int32) (μ : JM) : JO (Int32) := if x0 < (48 : Int32) then (some ((0 : Int32), μ, 0, 0)) else (if (57 : Int32) < x0 then (some ((0 : Int32), μ, 0, 0)) else (some ((1 : Int32), μ, 0, 0)))
set_option maxHeartbeats 4000000 in
set_option maxRecDepth 100000 in
theorem mX11_isDigit {b : Nat} {x0 : Int32} {μ : JM} {r : Int32} {ν : JM} {c m : Nat} (hf : fX11_isDigit x0 μ = some (r, ν, c, m)) : JMet b yX11_isDigit cX11_isDigit 1 (some .boolean) 0 0 [.int x0] μ (some (.int r)) ν c m := by
  refine JMet.of (by decide) (lg_sl_le (by simp only [List.map_cons, List.map_nil, List.sum_cons, List.sum_nil, va_rf_cat]; exact Nat.le_of_ble_eq_true rfl)) (fun Θ X hin => ?_)
  refine wa_eq (L2 := [(0, .int x0)]) ?_ rfl (by first | rfl | simp [lv_args, va_rf_cat, cat_i, cat_l]) rfl
  obtain ⟨k, hk0⟩ : ∃ k : Nat, k = 0 := ⟨0, rfl⟩
  obtain ⟨n, hn0⟩ : ∃ n : Nat, n = 0 := ⟨0, rfl⟩
  have hk : k + c = c := by omega
  have hn : n + m = m := by omega
  refine wa_costs hk0.symm hn0.symm ?_
  rw [fX11_isDigit] at hf
  refine wa_iload_n X 0 dX11_isDigit_0 rfl ?_
  refine wa_bipush (v := (48 : Int32)) X dX11_isDigit_1 (by decide) ?_
  refine wa_iclt (tgt := 16) X dX11_isDigit_3 (by decide) (fun h1 => ?_) (fun h1 => ?_)
  · rw [if_pos h1] at hf
    refine wa_iconst (v := (0 : Int32)) X dX11_isDigit_16 (by decide) ?_
    obtain ⟨rfl, rfl, rfl, rfl⟩ := jret hf
    exact wa_iret X dX11_isDigit_17 rfl (by omega) (by omega)
  · rw [if_neg h1] at hf
    refine wa_iload_n X 0 dX11_isDigit_6 rfl ?_
    refine wa_bipush (v := (57 : Int32)) X dX11_isDigit_7 (by decide) ?_
    refine wa_icgt (tgt := 16) X dX11_isDigit_9 (by decide) (fun h2 => ?_) (fun h2 => ?_)
    · rw [if_pos h2] at hf
      refine wa_iconst (v := (0 : Int32)) X dX11_isDigit_16 (by decide) ?_
      obtain ⟨rfl, rfl, rfl, rfl⟩ := jret hf
      exact wa_iret X dX11_isDigit_17 rfl (by omega) (by omega)
    · rw [if_neg h2] at hf
      refine wa_iconst (v := (1 : Int32)) X dX11_isDigit_12 (by decide) ?_
      refine wa_goto (tgt := 17) X dX11_isDigit_13 (by decide) ?_
      obtain ⟨rfl, rfl, rfl, rfl⟩ := jret hf
      exact wa_iret X dX11_isDigit_17 rfl (by omega) (by omega)
theorem dX11_looks_0 : decode cX11_looks 0 = .ok (.aload_n 0, 1) := by decide +kernel
theorem dX11_looks_1 : decode cX11_looks 1 = .ok (.getfield 172, 3) := by decide +kernel
theorem dX11_looks_4 : decode cX11_looks 4 = .ok (.aload_n 0, 1) := by decide +kernel
theorem dX11_looks_5 : decode cX11_looks 5 = .ok (.getfield 166, 3) := by decide +kernel
theorem dX11_looks_8 : decode cX11_looks 8 = .ok (.if_icmp .ge 44, 3) := by decide +kernel
theorem dX11_looks_11 : decode cX11_looks 11 = .ok (.aload_n 0, 1) := by decide +kernel
theorem dX11_looks_12 : decode cX11_looks 12 = .ok (.getfield 36, 3) := by decide +kernel
theorem dX11_looks_15 : decode cX11_looks 15 = .ok (.aload_n 0, 1) := by decide +kernel
theorem dX11_looks_16 : decode cX11_looks 16 = .ok (.getfield 172, 3) := by decide +kernel
theorem dX11_looks_19 : decode cX11_looks 19 = .ok (.baload, 1) := by decide +kernel
theorem dX11_looks_20 : decode cX11_looks 20 = .ok (.bipush 32, 2) := by decide +kernel
theorem dX11_looks_22 : decode cX11_looks 22 = .ok (.if_icmp .eq 17, 3) := by decide +kernel
theorem dX11_looks_25 : decode cX11_looks 25 = .ok (.aload_n 0, 1) := by decide +kernel
theorem dX11_looks_26 : decode cX11_looks 26 = .ok (.getfield 36, 3) := by decide +kernel
theorem dX11_looks_29 : decode cX11_looks 29 = .ok (.aload_n 0, 1) := by decide +kernel
theorem dX11_looks_30 : decode cX11_looks 30 = .ok (.getfield 172, 3) := by decide +kernel
theorem dX11_looks_33 : decode cX11_looks 33 = .ok (.baload, 1) := by decide +kernel
theorem dX11_looks_34 : decode cX11_looks 34 = .ok (.bipush 10, 2) := by decide +kernel
theorem dX11_looks_36 : decode cX11_looks 36 = .ok (.if_icmp .ne 16, 3) := by decide +kernel
theorem dX11_looks_39 : decode cX11_looks 39 = .ok (.aload_n 0, 1) := by decide +kernel
theorem dX11_looks_40 : decode cX11_looks 40 = .ok (.dup, 1) := by decide +kernel
theorem dX11_looks_41 : decode cX11_looks 41 = .ok (.getfield 172, 3) := by decide +kernel
theorem dX11_looks_44 : decode cX11_looks 44 = .ok (.iconst 1, 1) := by decide +kernel
theorem dX11_looks_45 : decode cX11_looks 45 = .ok (.iadd, 1) := by decide +kernel
theorem dX11_looks_46 : decode cX11_looks 46 = .ok (.putfield 172, 3) := by decide +kernel
theorem dX11_looks_49 : decode cX11_looks 49 = .ok (.goto (-49), 3) := by decide +kernel
theorem dX11_looks_52 : decode cX11_looks 52 = .ok (.aload_n 0, 1) := by decide +kernel
theorem dX11_looks_53 : decode cX11_looks 53 = .ok (.aload_n 0, 1) := by decide +kernel
theorem dX11_looks_54 : decode cX11_looks 54 = .ok (.getfield 172, 3) := by decide +kernel
theorem dX11_looks_57 : decode cX11_looks 57 = .ok (.putfield 185, 3) := by decide +kernel
theorem dX11_looks_60 : decode cX11_looks 60 = .ok (.aload_n 0, 1) := by decide +kernel
theorem dX11_looks_61 : decode cX11_looks 61 = .ok (.iconst 0, 1) := by decide +kernel
theorem dX11_looks_62 : decode cX11_looks 62 = .ok (.putfield 188, 3) := by decide +kernel
theorem dX11_looks_65 : decode cX11_looks 65 = .ok (.aload_n 0, 1) := by decide +kernel
theorem dX11_looks_66 : decode cX11_looks 66 = .ok (.iconst 0, 1) := by decide +kernel
theorem dX11_looks_67 : decode cX11_looks 67 = .ok (.putfield 191, 3) := by decide +kernel
theorem dX11_looks_70 : decode cX11_looks 70 = .ok (.aload_n 0, 1) := by decide +kernel
theorem dX11_looks_71 : decode cX11_looks 71 = .ok (.getfield 172, 3) := by decide +kernel
theorem dX11_looks_74 : decode cX11_looks 74 = .ok (.aload_n 0, 1) := by decide +kernel
theorem dX11_looks_75 : decode cX11_looks 75 = .ok (.getfield 166, 3) := by decide +kernel
theorem dX11_looks_78 : decode cX11_looks 78 = .ok (.if_icmp .ne 10, 3) := by decide +kernel
theorem dX11_looks_81 : decode cX11_looks 81 = .ok (.aload_n 0, 1) := by decide +kernel
theorem dX11_looks_82 : decode cX11_looks 82 = .ok (.iconst 0, 1) := by decide +kernel
theorem dX11_looks_83 : decode cX11_looks 83 = .ok (.putfield 194, 3) := by decide +kernel
theorem dX11_looks_86 : decode cX11_looks 86 = .ok (.iconst 1, 1) := by decide +kernel
theorem dX11_looks_87 : decode cX11_looks 87 = .ok (.ireturn, 1) := by decide +kernel
theorem dX11_looks_88 : decode cX11_looks 88 = .ok (.aload_n 0, 1) := by decide +kernel
theorem dX11_looks_89 : decode cX11_looks 89 = .ok (.getfield 36, 3) := by decide +kernel
theorem dX11_looks_92 : decode cX11_looks 92 = .ok (.aload_n 0, 1) := by decide +kernel
theorem dX11_looks_93 : decode cX11_looks 93 = .ok (.getfield 172, 3) := by decide +kernel
theorem dX11_looks_96 : decode cX11_looks 96 = .ok (.baload, 1) := by decide +kernel
theorem dX11_looks_97 : decode cX11_looks 97 = .ok (.istore_n 1, 1) := by decide +kernel
theorem dX11_looks_98 : decode cX11_looks 98 = .ok (.iload_n 1, 1) := by decide +kernel
theorem dX11_looks_99 : decode cX11_looks 99 = .ok (.invokestatic 197, 3) := by decide +kernel
theorem dX11_looks_102 : decode cX11_looks 102 = .ok (.ifCond .eq 87, 3) := by decide +kernel
theorem dX11_looks_105 : decode cX11_looks 105 = .ok (.aload_n 0, 1) := by decide +kernel
theorem dX11_looks_106 : decode cX11_looks 106 = .ok (.iconst 1, 1) := by decide +kernel
theorem dX11_looks_107 : decode cX11_looks 107 = .ok (.putfield 194, 3) := by decide +kernel
theorem dX11_looks_110 : decode cX11_looks 110 = .ok (.aload_n 0, 1) := by decide +kernel
theorem dX11_looks_111 : decode cX11_looks 111 = .ok (.getfield 172, 3) := by decide +kernel
theorem dX11_looks_114 : decode cX11_looks 114 = .ok (.aload_n 0, 1) := by decide +kernel
theorem dX11_looks_115 : decode cX11_looks 115 = .ok (.getfield 166, 3) := by decide +kernel
theorem dX11_looks_118 : decode cX11_looks 118 = .ok (.if_icmp .ge 31, 3) := by decide +kernel
theorem dX11_looks_121 : decode cX11_looks 121 = .ok (.aload_n 0, 1) := by decide +kernel
theorem dX11_looks_122 : decode cX11_looks 122 = .ok (.getfield 36, 3) := by decide +kernel
theorem dX11_looks_125 : decode cX11_looks 125 = .ok (.aload_n 0, 1) := by decide +kernel
theorem dX11_looks_126 : decode cX11_looks 126 = .ok (.getfield 172, 3) := by decide +kernel
theorem dX11_looks_129 : decode cX11_looks 129 = .ok (.baload, 1) := by decide +kernel
theorem dX11_looks_130 : decode cX11_looks 130 = .ok (.invokestatic 197, 3) := by decide +kernel
theorem dX11_looks_133 : decode cX11_looks 133 = .ok (.ifCond .eq 16, 3) := by decide +kernel
theorem dX11_looks_136 : decode cX11_looks 136 = .ok (.aload_n 0, 1) := by decide +kernel
theorem dX11_looks_137 : decode cX11_looks 137 = .ok (.dup, 1) := by decide +kernel
theorem dX11_looks_138 : decode cX11_looks 138 = .ok (.getfield 172, 3) := by decide +kernel
theorem dX11_looks_141 : decode cX11_looks 141 = .ok (.iconst 1, 1) := by decide +kernel
theorem dX11_looks_142 : decode cX11_looks 142 = .ok (.iadd, 1) := by decide +kernel
theorem dX11_looks_143 : decode cX11_looks 143 = .ok (.putfield 172, 3) := by decide +kernel
theorem dX11_looks_146 : decode cX11_looks 146 = .ok (.goto (-36), 3) := by decide +kernel
theorem dX11_looks_149 : decode cX11_looks 149 = .ok (.aload_n 0, 1) := by decide +kernel
theorem dX11_looks_150 : decode cX11_looks 150 = .ok (.aload_n 0, 1) := by decide +kernel
theorem dX11_looks_151 : decode cX11_looks 151 = .ok (.getfield 172, 3) := by decide +kernel
theorem dX11_looks_154 : decode cX11_looks 154 = .ok (.aload_n 0, 1) := by decide +kernel
theorem dX11_looks_155 : decode cX11_looks 155 = .ok (.getfield 185, 3) := by decide +kernel
theorem dX11_looks_158 : decode cX11_looks 158 = .ok (.isub, 1) := by decide +kernel
theorem dX11_looks_159 : decode cX11_looks 159 = .ok (.putfield 188, 3) := by decide +kernel
theorem dX11_looks_162 : decode cX11_looks 162 = .ok (.aload_n 0, 1) := by decide +kernel
theorem dX11_looks_163 : decode cX11_looks 163 = .ok (.getfield 188, 3) := by decide +kernel
theorem dX11_looks_166 : decode cX11_looks 166 = .ok (.bipush 12, 2) := by decide +kernel
theorem dX11_looks_168 : decode cX11_looks 168 = .ok (.if_icmp .le 15, 3) := by decide +kernel
theorem dX11_looks_171 : decode cX11_looks 171 = .ok (.aload_n 0, 1) := by decide +kernel
theorem dX11_looks_172 : decode cX11_looks 172 = .ok (.iconst 1, 1) := by decide +kernel
theorem dX11_looks_173 : decode cX11_looks 173 = .ok (.aload_n 0, 1) := by decide +kernel
theorem dX11_looks_174 : decode cX11_looks 174 = .ok (.getfield 185, 3) := by decide +kernel
theorem dX11_looks_177 : decode cX11_looks 177 = .ok (.invokevirtual 201, 3) := by decide +kernel
theorem dX11_looks_180 : decode cX11_looks 180 = .ok (.ifCond .eq 7, 3) := by decide +kernel
theorem dX11_looks_183 : decode cX11_looks 183 = .ok (.iconst 1, 1) := by decide +kernel
theorem dX11_looks_184 : decode cX11_looks 184 = .ok (.goto 4, 3) := by decide +kernel
theorem dX11_looks_187 : decode cX11_looks 187 = .ok (.iconst 0, 1) := by decide +kernel
theorem dX11_looks_188 : decode cX11_looks 188 = .ok (.ireturn, 1) := by decide +kernel
theorem dX11_looks_189 : decode cX11_looks 189 = .ok (.iload_n 1, 1) := by decide +kernel
theorem dX11_looks_190 : decode cX11_looks 190 = .ok (.invokestatic 205, 3) := by decide +kernel
theorem dX11_looks_193 : decode cX11_looks 193 = .ok (.ifCond .eq 123, 3) := by decide +kernel
theorem dX11_looks_196 : decode cX11_looks 196 = .ok (.aload_n 0, 1) := by decide +kernel
theorem dX11_looks_197 : decode cX11_looks 197 = .ok (.iconst 2, 1) := by decide +kernel
theorem dX11_looks_198 : decode cX11_looks 198 = .ok (.putfield 194, 3) := by decide +kernel
theorem dX11_looks_201 : decode cX11_looks 201 = .ok (.aload_n 0, 1) := by decide +kernel
theorem dX11_looks_202 : decode cX11_looks 202 = .ok (.getfield 172, 3) := by decide +kernel
theorem dX11_looks_205 : decode cX11_looks 205 = .ok (.aload_n 0, 1) := by decide +kernel
theorem dX11_looks_206 : decode cX11_looks 206 = .ok (.getfield 166, 3) := by decide +kernel
theorem dX11_looks_209 : decode cX11_looks 209 = .ok (.if_icmp .ge 68, 3) := by decide +kernel
theorem dX11_looks_212 : decode cX11_looks 212 = .ok (.aload_n 0, 1) := by decide +kernel
theorem dX11_looks_213 : decode cX11_looks 213 = .ok (.getfield 36, 3) := by decide +kernel
theorem dX11_looks_216 : decode cX11_looks 216 = .ok (.aload_n 0, 1) := by decide +kernel
theorem dX11_looks_217 : decode cX11_looks 217 = .ok (.getfield 172, 3) := by decide +kernel
theorem dX11_looks_220 : decode cX11_looks 220 = .ok (.baload, 1) := by decide +kernel
theorem dX11_looks_221 : decode cX11_looks 221 = .ok (.invokestatic 205, 3) := by decide +kernel
theorem dX11_looks_224 : decode cX11_looks 224 = .ok (.ifCond .eq 53, 3) := by decide +kernel
theorem dX11_looks_227 : decode cX11_looks 227 = .ok (.aload_n 0, 1) := by decide +kernel
theorem dX11_looks_228 : decode cX11_looks 228 = .ok (.getfield 172, 3) := by decide +kernel
theorem dX11_looks_231 : decode cX11_looks 231 = .ok (.aload_n 0, 1) := by decide +kernel
theorem dX11_looks_232 : decode cX11_looks 232 = .ok (.getfield 185, 3) := by decide +kernel
theorem dX11_looks_235 : decode cX11_looks 235 = .ok (.isub, 1) := by decide +kernel
theorem dX11_looks_236 : decode cX11_looks 236 = .ok (.iconst 4, 1) := by decide +kernel
theorem dX11_looks_237 : decode cX11_looks 237 = .ok (.if_icmp .ge 27, 3) := by decide +kernel
theorem dX11_looks_240 : decode cX11_looks 240 = .ok (.aload_n 0, 1) := by decide +kernel
theorem dX11_looks_241 : decode cX11_looks 241 = .ok (.bipush 10, 2) := by decide +kernel
theorem dX11_looks_243 : decode cX11_looks 243 = .ok (.aload_n 0, 1) := by decide +kernel
theorem dX11_looks_244 : decode cX11_looks 244 = .ok (.getfield 191, 3) := by decide +kernel
theorem dX11_looks_247 : decode cX11_looks 247 = .ok (.imul, 1) := by decide +kernel
theorem dX11_looks_248 : decode cX11_looks 248 = .ok (.aload_n 0, 1) := by decide +kernel
theorem dX11_looks_249 : decode cX11_looks 249 = .ok (.getfield 36, 3) := by decide +kernel
theorem dX11_looks_252 : decode cX11_looks 252 = .ok (.aload_n 0, 1) := by decide +kernel
theorem dX11_looks_253 : decode cX11_looks 253 = .ok (.getfield 172, 3) := by decide +kernel
theorem dX11_looks_256 : decode cX11_looks 256 = .ok (.baload, 1) := by decide +kernel
theorem dX11_looks_257 : decode cX11_looks 257 = .ok (.iadd, 1) := by decide +kernel
theorem dX11_looks_258 : decode cX11_looks 258 = .ok (.bipush 48, 2) := by decide +kernel
theorem dX11_looks_260 : decode cX11_looks 260 = .ok (.isub, 1) := by decide +kernel
theorem dX11_looks_261 : decode cX11_looks 261 = .ok (.putfield 191, 3) := by decide +kernel
theorem dX11_looks_264 : decode cX11_looks 264 = .ok (.aload_n 0, 1) := by decide +kernel
theorem dX11_looks_265 : decode cX11_looks 265 = .ok (.dup, 1) := by decide +kernel
theorem dX11_looks_266 : decode cX11_looks 266 = .ok (.getfield 172, 3) := by decide +kernel
theorem dX11_looks_269 : decode cX11_looks 269 = .ok (.iconst 1, 1) := by decide +kernel
theorem dX11_looks_270 : decode cX11_looks 270 = .ok (.iadd, 1) := by decide +kernel
theorem dX11_looks_271 : decode cX11_looks 271 = .ok (.putfield 172, 3) := by decide +kernel
theorem dX11_looks_274 : decode cX11_looks 274 = .ok (.goto (-73), 3) := by decide +kernel
theorem dX11_looks_277 : decode cX11_looks 277 = .ok (.aload_n 0, 1) := by decide +kernel
theorem dX11_looks_278 : decode cX11_looks 278 = .ok (.aload_n 0, 1) := by decide +kernel
theorem dX11_looks_279 : decode cX11_looks 279 = .ok (.getfield 172, 3) := by decide +kernel
theorem dX11_looks_282 : decode cX11_looks 282 = .ok (.aload_n 0, 1) := by decide +kernel
theorem dX11_looks_283 : decode cX11_looks 283 = .ok (.getfield 185, 3) := by decide +kernel
theorem dX11_looks_286 : decode cX11_looks 286 = .ok (.isub, 1) := by decide +kernel
theorem dX11_looks_287 : decode cX11_looks 287 = .ok (.putfield 188, 3) := by decide +kernel
theorem dX11_looks_290 : decode cX11_looks 290 = .ok (.aload_n 0, 1) := by decide +kernel
theorem dX11_looks_291 : decode cX11_looks 291 = .ok (.getfield 188, 3) := by decide +kernel
theorem dX11_looks_294 : decode cX11_looks 294 = .ok (.iconst 3, 1) := by decide +kernel
theorem dX11_looks_295 : decode cX11_looks 295 = .ok (.if_icmp .le 15, 3) := by decide +kernel
theorem dX11_looks_298 : decode cX11_looks 298 = .ok (.aload_n 0, 1) := by decide +kernel
theorem dX11_looks_299 : decode cX11_looks 299 = .ok (.iconst 1, 1) := by decide +kernel
theorem dX11_looks_300 : decode cX11_looks 300 = .ok (.aload_n 0, 1) := by decide +kernel
theorem dX11_looks_301 : decode cX11_looks 301 = .ok (.getfield 185, 3) := by decide +kernel
theorem dX11_looks_304 : decode cX11_looks 304 = .ok (.invokevirtual 201, 3) := by decide +kernel
theorem dX11_looks_307 : decode cX11_looks 307 = .ok (.ifCond .eq 7, 3) := by decide +kernel
theorem dX11_looks_310 : decode cX11_looks 310 = .ok (.iconst 1, 1) := by decide +kernel
theorem dX11_looks_311 : decode cX11_looks 311 = .ok (.goto 4, 3) := by decide +kernel
theorem dX11_looks_314 : decode cX11_looks 314 = .ok (.iconst 0, 1) := by decide +kernel
theorem dX11_looks_315 : decode cX11_looks 315 = .ok (.ireturn, 1) := by decide +kernel
theorem dX11_looks_316 : decode cX11_looks 316 = .ok (.aload_n 0, 1) := by decide +kernel
theorem dX11_looks_317 : decode cX11_looks 317 = .ok (.iload_n 1, 1) := by decide +kernel
theorem dX11_looks_318 : decode cX11_looks 318 = .ok (.bipush 58, 2) := by decide +kernel
theorem dX11_looks_320 : decode cX11_looks 320 = .ok (.if_icmp .eq 21, 3) := by decide +kernel
theorem dX11_looks_323 : decode cX11_looks 323 = .ok (.iload_n 1, 1) := by decide +kernel
theorem dX11_looks_324 : decode cX11_looks 324 = .ok (.bipush 59, 2) := by decide +kernel
theorem dX11_looks_326 : decode cX11_looks 326 = .ok (.if_icmp .eq 15, 3) := by decide +kernel
theorem dX11_looks_329 : decode cX11_looks 329 = .ok (.iload_n 1, 1) := by decide +kernel
theorem dX11_looks_330 : decode cX11_looks 330 = .ok (.bipush 40, 2) := by decide +kernel
theorem dX11_looks_332 : decode cX11_looks 332 = .ok (.if_icmp .eq 9, 3) := by decide +kernel
theorem dX11_looks_335 : decode cX11_looks 335 = .ok (.iload_n 1, 1) := by decide +kernel
theorem dX11_looks_336 : decode cX11_looks 336 = .ok (.bipush 41, 2) := by decide +kernel
theorem dX11_looks_338 : decode cX11_looks 338 = .ok (.if_icmp .ne 7, 3) := by decide +kernel
theorem dX11_looks_341 : decode cX11_looks 341 = .ok (.iconst 3, 1) := by decide +kernel
theorem dX11_looks_342 : decode cX11_looks 342 = .ok (.goto 4, 3) := by decide +kernel
theorem dX11_looks_345 : decode cX11_looks 345 = .ok (.iconst 4, 1) := by decide +kernel
theorem dX11_looks_346 : decode cX11_looks 346 = .ok (.putfield 194, 3) := by decide +kernel
theorem dX11_looks_349 : decode cX11_looks 349 = .ok (.aload_n 0, 1) := by decide +kernel
theorem dX11_looks_350 : decode cX11_looks 350 = .ok (.iload_n 1, 1) := by decide +kernel
theorem dX11_looks_351 : decode cX11_looks 351 = .ok (.putfield 191, 3) := by decide +kernel
theorem dX11_looks_354 : decode cX11_looks 354 = .ok (.aload_n 0, 1) := by decide +kernel
theorem dX11_looks_355 : decode cX11_looks 355 = .ok (.iconst 1, 1) := by decide +kernel
theorem dX11_looks_356 : decode cX11_looks 356 = .ok (.putfield 188, 3) := by decide +kernel
theorem dX11_looks_359 : decode cX11_looks 359 = .ok (.aload_n 0, 1) := by decide +kernel
theorem dX11_looks_360 : decode cX11_looks 360 = .ok (.dup, 1) := by decide +kernel
theorem dX11_looks_361 : decode cX11_looks 361 = .ok (.getfield 172, 3) := by decide +kernel
theorem dX11_looks_364 : decode cX11_looks 364 = .ok (.iconst 1, 1) := by decide +kernel
theorem dX11_looks_365 : decode cX11_looks 365 = .ok (.iadd, 1) := by decide +kernel
theorem dX11_looks_366 : decode cX11_looks 366 = .ok (.putfield 172, 3) := by decide +kernel
theorem dX11_looks_369 : decode cX11_looks 369 = .ok (.iconst 1, 1) := by decide +kernel
theorem dX11_looks_370 : decode cX11_looks 370 = .ok (.ireturn, 1) := by decide +kernel
def fX11_looks_b39 (rec0 : Nat → JM → JO (Int32)) (a : Nat) (μ : JM) : JO (Int32) := jck ((jT μ a).1 == 12) <| jlt (jsI μ a 13 ((jI μ a 13) + (1 : Int32))) fun μ10 => rec0 a μ10
set_option maxHeartbeats 4000000 in
set_option maxRecDepth 100000 in
theorem gX11_looks_b39 {b : Nat} {Θ : JE} {RC RS : Nat} {r : Int32} {ν : JM} (X : jX b Θ RX11 cX11_looks 2 (some .boolean) 1 22 RC RS) {rec0 : Nat → JM → JO (Int32)} (hrec0 : ∀ (a : Nat) (μ : JM) (c m k n : Nat), rec0 a μ = some (r, ν, c, m) → k + c = RC → n + m = RS → WA b Θ 2 (jE b Θ (some (.int r)) ν RC RS) μ k n 0 [(0, va_rf (some a))] []) (a : Nat) (μ : JM) (c m k n : Nat) (hf : fX11_looks_b39 rec0 a μ = some (r, ν, c, m)) (hk : k + c = RC) (hn : n + m = RS) : WA b Θ 2 (jE b Θ (some (.int r)) ν RC RS) μ k n 39 [(0, va_rf (some a))] [] := by
  rw [fX11_looks_b39] at hf
  refine wa_aload_n X 0 dX11_looks_39 rfl ?_
  refine wa_dup X dX11_looks_40 (va_rf_cat _) ?_
  obtain ⟨h9, hf⟩ := jckT hf
  refine wa_getI X dX11_looks_41 lfX11_172 rfl h9 rfl ?_
  refine wa_iconst (v := (1 : Int32)) X dX11_looks_44 (by decide) ?_
  refine wa_iadd X dX11_looks_45 ?_
  obtain ⟨μ10, hm11, hf⟩ := jlt_e hf
  have e12 : jT μ10 = jT μ := by rw [hm11]; rfl
  refine wa_rputI (ν := μ10) X dX11_looks_46 lfX11_172 rfl h9 rfl rfl hm11 ?_
  refine wa_goto (tgt := 0) X dX11_looks_49 (by decide) ?_
  refine wa_sub (L2 := [(0, va_rf (some a))]) [0] rfl ?_
  exact hrec0 a μ10 _ _ _ _ hf (by omega) (by omega)
def fX11_looks_b149 (a : Nat) (μ : JM) : JO (Int32) := jck ((jT μ a).1 == 12) <| jlt (jsI μ a 16 ((jI μ a 13) - (jI μ a 15))) fun μ84 => if (jI μ84 a 16) ≤ (12 : Int32) then (some ((1 : Int32), μ84, 0, 0)) else (jcl (fX11_fails a (1 : Int32) (jI μ84 a 15) μ84) fun r88 μ89 => if r88 = 0 then (some ((0 : Int32), μ89, 0, 0)) else (some ((1 : Int32), μ89, 0, 0)))
set_option maxHeartbeats 4000000 in
set_option maxRecDepth 100000 in
theorem gX11_looks_b149 {b : Nat} {Θ : JE} {RC RS : Nat} {r : Int32} {ν : JM} (X : jX b Θ RX11 cX11_looks 2 (some .boolean) 1 22 RC RS) (a : Nat) (μ : JM) (c m k n : Nat) (hf : fX11_looks_b149 a μ = some (r, ν, c, m)) (hk : k + c = RC) (hn : n + m = RS) : WA b Θ 2 (jE b Θ (some (.int r)) ν RC RS) μ k n 149 [(0, va_rf (some a))] [] := by
  rw [fX11_looks_b149] at hf
  refine wa_aload_n X 0 dX11_looks_149 rfl ?_
  refine wa_aload_n X 0 dX11_looks_150 rfl ?_
  obtain ⟨h83, hf⟩ := jckT hf
  refine wa_getI X dX11_looks_151 lfX11_172 rfl h83 rfl ?_
  refine wa_aload_n X 0 dX11_looks_154 rfl ?_
  refine wa_getI X dX11_looks_155 lfX11_185 rfl h83 rfl ?_
  refine wa_isub X dX11_looks_158 ?_
  obtain ⟨μ84, hm85, hf⟩ := jlt_e hf
  have e86 : jT μ84 = jT μ := by rw [hm85]; rfl
  refine wa_rputI (ν := μ84) X dX11_looks_159 lfX11_188 rfl h83 rfl rfl hm85 ?_
  refine wa_aload_n X 0 dX11_looks_162 rfl ?_
  refine wa_getI X dX11_looks_163 lfX11_188 rfl (by rw [e86]; exact h83) rfl ?_
  refine wa_bipush (v := (12 : Int32)) X dX11_looks_166 (by decide) ?_
  refine wa_icle (tgt := 183) X dX11_looks_168 (by decide) (fun h87 => ?_) (fun h87 => ?_)
  · rw [if_pos h87] at hf
    refine wa_iconst (v := (1 : Int32)) X dX11_looks_183 (by decide) ?_
    refine wa_goto (tgt := 188) X dX11_looks_184 (by decide) ?_
    obtain ⟨rfl, rfl, rfl, rfl⟩ := jret hf
    exact wa_iret X dX11_looks_188 rfl (by omega) (by omega)
  · rw [if_neg h87] at hf
    refine wa_aload_n X 0 dX11_looks_171 rfl ?_
    refine wa_iconst (v := (1 : Int32)) X dX11_looks_172 (by decide) ?_
    refine wa_aload_n X 0 dX11_looks_173 rfl ?_
    refine wa_getI X dX11_looks_174 lfX11_185 rfl (by rw [e86]; exact h83) rfl ?_
    obtain ⟨r88, μ89, c90, m91, c92, m93, e94, hf, h95, h96⟩ := jcl_some hf
    refine wa_rcallV (st2 := [.int r88]) X dX11_looks_177 lmX11_201 lMX11_fails rfl (by rw [e86]; exact h83) (mX11_fails e94) rfl rfl rfl (va_cats (Nat.le_of_ble_eq_true rfl)) (by decide) (by omega) (by omega) ?_
    refine wa_ifeq (tgt := 187) X dX11_looks_180 (by decide) (fun h97 => ?_) (fun h97 => ?_)
    · rw [if_pos h97] at hf
      refine wa_iconst (v := (0 : Int32)) X dX11_looks_187 (by decide) ?_
      obtain ⟨rfl, rfl, rfl, rfl⟩ := jret hf
      exact wa_iret X dX11_looks_188 rfl (by omega) (by omega)
    · rw [if_neg h97] at hf
      refine wa_iconst (v := (1 : Int32)) X dX11_looks_183 (by decide) ?_
      refine wa_goto (tgt := 188) X dX11_looks_184 (by decide) ?_
      obtain ⟨rfl, rfl, rfl, rfl⟩ := jret hf
      exact wa_iret X dX11_looks_188 rfl (by omega) (by omega)
def fX11_looks_b110 : Nat → Nat → JM → JO (Int32)
  | 0, _, _ => none
  | fu + 1, a, μ => jck ((jT μ a).1 == 12) <| if (jI μ a 12) ≤ (jI μ a 13) then (fX11_looks_b149  a μ) else (jde (jP μ a 11) fun q65 => jck ((jT μ q65).1 == 100) <| jck (jin (jI μ a 13) (jT μ q65).2) <| jcl (fX11_isLetter (jI μ q65 ((jI μ a 13)).toNatClampNeg) μ) fun r69 μ70 => if r69 = 0 then (fX11_looks_b149  a μ70) else (jck ((jT μ70 a).1 == 12) <| jlt (jsI μ70 a 13 ((jI μ70 a 13) + (1 : Int32))) fun μ80 => fX11_looks_b110 fu a μ80))
set_option maxHeartbeats 4000000 in
set_option maxRecDepth 100000 in
theorem gX11_looks_b110 {b : Nat} {Θ : JE} {RC RS : Nat} {r : Int32} {ν : JM} (X : jX b Θ RX11 cX11_looks 2 (some .boolean) 1 22 RC RS) : ∀ (fu : Nat) (a : Nat) (μ : JM) (c m k n : Nat), fX11_looks_b110 fu a μ = some (r, ν, c, m) → k + c = RC → n + m = RS → WA b Θ 2 (jE b Θ (some (.int r)) ν RC RS) μ k n 110 [(0, va_rf (some a))] [] := by
  intro fu
  induction fu with
  | zero => intro a μ c m k n hf; cases hf
  | succ fu ih =>
    intro a μ c m k n hf hk hn
    rw [fX11_looks_b110] at hf
    refine wa_aload_n X 0 dX11_looks_110 rfl ?_
    obtain ⟨h63, hf⟩ := jckT hf
    refine wa_getI X dX11_looks_111 lfX11_172 rfl h63 rfl ?_
    refine wa_aload_n X 0 dX11_looks_114 rfl ?_
    refine wa_getI X dX11_looks_115 lfX11_166 rfl h63 rfl ?_
    refine wa_icge (tgt := 149) X dX11_looks_118 (by decide) (fun h64 => ?_) (fun h64 => ?_)
    · rw [if_pos h64] at hf
      refine wa_sub (L2 := [(0, va_rf (some a))]) [0] rfl ?_
      exact gX11_looks_b149 X a μ _ _ _ _ hf (by omega) (by omega)
    · rw [if_neg h64] at hf
      refine wa_aload_n X 0 dX11_looks_121 rfl ?_
      refine wa_getP X dX11_looks_122 lfX11_36 rfl h63 rfl ?_
      refine wa_aload_n X 0 dX11_looks_125 rfl ?_
      refine wa_getI X dX11_looks_126 lfX11_172 rfl h63 rfl ?_
      obtain ⟨q65, h66, hf⟩ := jde_some hf
      obtain ⟨h67, hf⟩ := jckT hf
      obtain ⟨h68, hf⟩ := jck_some hf
      refine wa_rbald X dX11_looks_129 h66 h67 h68 ?_
      obtain ⟨r69, μ70, c71, m72, c73, m74, e75, hf, h76, h77⟩ := jcl_some hf
      refine wa_rcallS (st2 := [.int r69]) X dX11_looks_130 lmX11_197 lMX11_isLetter (mX11_isLetter e75) rfl rfl rfl (va_cats (Nat.le_of_ble_eq_true rfl)) (by decide) (by omega) (by omega) ?_
      refine wa_ifeq (tgt := 149) X dX11_looks_133 (by decide) (fun h78 => ?_) (fun h78 => ?_)
      · rw [if_pos h78] at hf
        refine wa_sub (L2 := [(0, va_rf (some a))]) [0] rfl ?_
        exact gX11_looks_b149 X a μ70 _ _ _ _ hf (by omega) (by omega)
      · rw [if_neg h78] at hf
        refine wa_aload_n X 0 dX11_looks_136 rfl ?_
        refine wa_dup X dX11_looks_137 (va_rf_cat _) ?_
        obtain ⟨h79, hf⟩ := jckT hf
        refine wa_getI X dX11_looks_138 lfX11_172 rfl h79 rfl ?_
        refine wa_iconst (v := (1 : Int32)) X dX11_looks_141 (by decide) ?_
        refine wa_iadd X dX11_looks_142 ?_
        obtain ⟨μ80, hm81, hf⟩ := jlt_e hf
        have e82 : jT μ80 = jT μ70 := by rw [hm81]; rfl
        refine wa_rputI (ν := μ80) X dX11_looks_143 lfX11_172 rfl h79 rfl rfl hm81 ?_
        refine wa_goto (tgt := 110) X dX11_looks_146 (by decide) ?_
        refine wa_sub (L2 := [(0, va_rf (some a))]) [0] rfl ?_
        exact ih a μ80 _ _ _ _ hf (by omega) (by omega)
def fX11_looks_b264 (rec201 : Nat → JM → JO (Int32)) (a : Nat) (μ : JM) : JO (Int32) := jck ((jT μ a).1 == 12) <| jlt (jsI μ a 13 ((jI μ a 13) + (1 : Int32))) fun μ124 => rec201 a μ124
set_option maxHeartbeats 4000000 in
set_option maxRecDepth 100000 in
theorem gX11_looks_b264 {b : Nat} {Θ : JE} {RC RS : Nat} {r : Int32} {ν : JM} (X : jX b Θ RX11 cX11_looks 2 (some .boolean) 1 22 RC RS) {rec201 : Nat → JM → JO (Int32)} (hrec201 : ∀ (a : Nat) (μ : JM) (c m k n : Nat), rec201 a μ = some (r, ν, c, m) → k + c = RC → n + m = RS → WA b Θ 2 (jE b Θ (some (.int r)) ν RC RS) μ k n 201 [(0, va_rf (some a))] []) (a : Nat) (μ : JM) (c m k n : Nat) (hf : fX11_looks_b264 rec201 a μ = some (r, ν, c, m)) (hk : k + c = RC) (hn : n + m = RS) : WA b Θ 2 (jE b Θ (some (.int r)) ν RC RS) μ k n 264 [(0, va_rf (some a))] [] := by
  rw [fX11_looks_b264] at hf
  refine wa_aload_n X 0 dX11_looks_264 rfl ?_
  refine wa_dup X dX11_looks_265 (va_rf_cat _) ?_
  obtain ⟨h123, hf⟩ := jckT hf
  refine wa_getI X dX11_looks_266 lfX11_172 rfl h123 rfl ?_
  refine wa_iconst (v := (1 : Int32)) X dX11_looks_269 (by decide) ?_
  refine wa_iadd X dX11_looks_270 ?_
  obtain ⟨μ124, hm125, hf⟩ := jlt_e hf
  have e126 : jT μ124 = jT μ := by rw [hm125]; rfl
  refine wa_rputI (ν := μ124) X dX11_looks_271 lfX11_172 rfl h123 rfl rfl hm125 ?_
  refine wa_goto (tgt := 201) X dX11_looks_274 (by decide) ?_
  refine wa_sub (L2 := [(0, va_rf (some a))]) [0] rfl ?_
  exact hrec201 a μ124 _ _ _ _ hf (by omega) (by omega)
def fX11_looks_b277 (a : Nat) (μ : JM) : JO (Int32) := jck ((jT μ a).1 == 12) <| jlt (jsI μ a 16 ((jI μ a 13) - (jI μ a 15))) fun μ128 => if (jI μ128 a 16) ≤ (3 : Int32) then (some ((1 : Int32), μ128, 0, 0)) else (jcl (fX11_fails a (1 : Int32) (jI μ128 a 15) μ128) fun r132 μ133 => if r132 = 0 then (some ((0 : Int32), μ133, 0, 0)) else (some ((1 : Int32), μ133, 0, 0)))
set_option maxHeartbeats 4000000 in
set_option maxRecDepth 100000 in
theorem gX11_looks_b277 {b : Nat} {Θ : JE} {RC RS : Nat} {r : Int32} {ν : JM} (X : jX b Θ RX11 cX11_looks 2 (some .boolean) 1 22 RC RS) (a : Nat) (μ : JM) (c m k n : Nat) (hf : fX11_looks_b277 a μ = some (r, ν, c, m)) (hk : k + c = RC) (hn : n + m = RS) : WA b Θ 2 (jE b Θ (some (.int r)) ν RC RS) μ k n 277 [(0, va_rf (some a))] [] := by
  rw [fX11_looks_b277] at hf
  refine wa_aload_n X 0 dX11_looks_277 rfl ?_
  refine wa_aload_n X 0 dX11_looks_278 rfl ?_
  obtain ⟨h127, hf⟩ := jckT hf
  refine wa_getI X dX11_looks_279 lfX11_172 rfl h127 rfl ?_
  refine wa_aload_n X 0 dX11_looks_282 rfl ?_
  refine wa_getI X dX11_looks_283 lfX11_185 rfl h127 rfl ?_
  refine wa_isub X dX11_looks_286 ?_
  obtain ⟨μ128, hm129, hf⟩ := jlt_e hf
  have e130 : jT μ128 = jT μ := by rw [hm129]; rfl
  refine wa_rputI (ν := μ128) X dX11_looks_287 lfX11_188 rfl h127 rfl rfl hm129 ?_
  refine wa_aload_n X 0 dX11_looks_290 rfl ?_
  refine wa_getI X dX11_looks_291 lfX11_188 rfl (by rw [e130]; exact h127) rfl ?_
  refine wa_iconst (v := (3 : Int32)) X dX11_looks_294 (by decide) ?_
  refine wa_icle (tgt := 310) X dX11_looks_295 (by decide) (fun h131 => ?_) (fun h131 => ?_)
  · rw [if_pos h131] at hf
    refine wa_iconst (v := (1 : Int32)) X dX11_looks_310 (by decide) ?_
    refine wa_goto (tgt := 315) X dX11_looks_311 (by decide) ?_
    obtain ⟨rfl, rfl, rfl, rfl⟩ := jret hf
    exact wa_iret X dX11_looks_315 rfl (by omega) (by omega)
  · rw [if_neg h131] at hf
    refine wa_aload_n X 0 dX11_looks_298 rfl ?_
    refine wa_iconst (v := (1 : Int32)) X dX11_looks_299 (by decide) ?_
    refine wa_aload_n X 0 dX11_looks_300 rfl ?_
    refine wa_getI X dX11_looks_301 lfX11_185 rfl (by rw [e130]; exact h127) rfl ?_
    obtain ⟨r132, μ133, c134, m135, c136, m137, e138, hf, h139, h140⟩ := jcl_some hf
    refine wa_rcallV (st2 := [.int r132]) X dX11_looks_304 lmX11_201 lMX11_fails rfl (by rw [e130]; exact h127) (mX11_fails e138) rfl rfl rfl (va_cats (Nat.le_of_ble_eq_true rfl)) (by decide) (by omega) (by omega) ?_
    refine wa_ifeq (tgt := 314) X dX11_looks_307 (by decide) (fun h141 => ?_) (fun h141 => ?_)
    · rw [if_pos h141] at hf
      refine wa_iconst (v := (0 : Int32)) X dX11_looks_314 (by decide) ?_
      obtain ⟨rfl, rfl, rfl, rfl⟩ := jret hf
      exact wa_iret X dX11_looks_315 rfl (by omega) (by omega)
    · rw [if_neg h141] at hf
      refine wa_iconst (v := (1 : Int32)) X dX11_looks_310 (by decide) ?_
      refine wa_goto (tgt := 315) X dX11_looks_311 (by decide) ?_
      obtain ⟨rfl, rfl, rfl, rfl⟩ := jret hf
      exact wa_iret X dX11_looks_315 rfl (by omega) (by omega)
def fX11_looks_b201 : Nat → Nat → JM → JO (Int32)
  | 0, _, _ => none
  | fu + 1, a, μ => jck ((jT μ a).1 == 12) <| if (jI μ a 12) ≤ (jI μ a 13) then (fX11_looks_b277  a μ) else (jde (jP μ a 11) fun q100 => jck ((jT μ q100).1 == 100) <| jck (jin (jI μ a 13) (jT μ q100).2) <| jcl (fX11_isDigit (jI μ q100 ((jI μ a 13)).toNatClampNeg) μ) fun r104 μ105 => if r104 = 0 then (fX11_looks_b277  a μ105) else (jck ((jT μ105 a).1 == 12) <| if (4 : Int32) ≤ ((jI μ105 a 13) - (jI μ105 a 15)) then (fX11_looks_b264 (fX11_looks_b201 fu) a μ105) else (jde (jP μ105 a 11) fun q116 => jck ((jT μ105 q116).1 == 100) <| jck (jin (jI μ105 a 13) (jT μ105 q116).2) <| jlt (jsI μ105 a 17 ((((10 : Int32) * (jI μ105 a 17)) + (jI μ105 q116 ((jI μ105 a 13)).toNatClampNeg)) - (48 : Int32))) fun μ120 => fX11_looks_b264 (fX11_looks_b201 fu) a μ120)))
set_option maxHeartbeats 4000000 in
set_option maxRecDepth 100000 in
theorem gX11_looks_b201 {b : Nat} {Θ : JE} {RC RS : Nat} {r : Int32} {ν : JM} (X : jX b Θ RX11 cX11_looks 2 (some .boolean) 1 22 RC RS) : ∀ (fu : Nat) (a : Nat) (μ : JM) (c m k n : Nat), fX11_looks_b201 fu a μ = some (r, ν, c, m) → k + c = RC → n + m = RS → WA b Θ 2 (jE b Θ (some (.int r)) ν RC RS) μ k n 201 [(0, va_rf (some a))] [] := by
  intro fu
  induction fu with
  | zero => intro a μ c m k n hf; cases hf
  | succ fu ih =>
    intro a μ c m k n hf hk hn
    rw [fX11_looks_b201] at hf
    refine wa_aload_n X 0 dX11_looks_201 rfl ?_
    obtain ⟨h98, hf⟩ := jckT hf
    refine wa_getI X dX11_looks_202 lfX11_172 rfl h98 rfl ?_
    refine wa_aload_n X 0 dX11_looks_205 rfl ?_
    refine wa_getI X dX11_looks_206 lfX11_166 rfl h98 rfl ?_
    refine wa_icge (tgt := 277) X dX11_looks_209 (by decide) (fun h99 => ?_) (fun h99 => ?_)
    · rw [if_pos h99] at hf
      refine wa_sub (L2 := [(0, va_rf (some a))]) [0] rfl ?_
      exact gX11_looks_b277 X a μ _ _ _ _ hf (by omega) (by omega)
    · rw [if_neg h99] at hf
      refine wa_aload_n X 0 dX11_looks_212 rfl ?_
      refine wa_getP X dX11_looks_213 lfX11_36 rfl h98 rfl ?_
      refine wa_aload_n X 0 dX11_looks_216 rfl ?_
      refine wa_getI X dX11_looks_217 lfX11_172 rfl h98 rfl ?_
      obtain ⟨q100, h101, hf⟩ := jde_some hf
      obtain ⟨h102, hf⟩ := jckT hf
      obtain ⟨h103, hf⟩ := jck_some hf
      refine wa_rbald X dX11_looks_220 h101 h102 h103 ?_
      obtain ⟨r104, μ105, c106, m107, c108, m109, e110, hf, h111, h112⟩ := jcl_some hf
      refine wa_rcallS (st2 := [.int r104]) X dX11_looks_221 lmX11_205 lMX11_isDigit (mX11_isDigit e110) rfl rfl rfl (va_cats (Nat.le_of_ble_eq_true rfl)) (by decide) (by omega) (by omega) ?_
      refine wa_ifeq (tgt := 277) X dX11_looks_224 (by decide) (fun h113 => ?_) (fun h113 => ?_)
      · rw [if_pos h113] at hf
        refine wa_sub (L2 := [(0, va_rf (some a))]) [0] rfl ?_
        exact gX11_looks_b277 X a μ105 _ _ _ _ hf (by omega) (by omega)
      · rw [if_neg h113] at hf
        refine wa_aload_n X 0 dX11_looks_227 rfl ?_
        obtain ⟨h114, hf⟩ := jckT hf
        refine wa_getI X dX11_looks_228 lfX11_172 rfl h114 rfl ?_
        refine wa_aload_n X 0 dX11_looks_231 rfl ?_
        refine wa_getI X dX11_looks_232 lfX11_185 rfl h114 rfl ?_
        refine wa_isub X dX11_looks_235 ?_
        refine wa_iconst (v := (4 : Int32)) X dX11_looks_236 (by decide) ?_
        refine wa_icge (tgt := 264) X dX11_looks_237 (by decide) (fun h115 => ?_) (fun h115 => ?_)
        · rw [if_pos h115] at hf
          refine wa_sub (L2 := [(0, va_rf (some a))]) [0] rfl ?_
          exact gX11_looks_b264 X ih a μ105 _ _ _ _ hf (by omega) (by omega)
        · rw [if_neg h115] at hf
          refine wa_aload_n X 0 dX11_looks_240 rfl ?_
          refine wa_bipush (v := (10 : Int32)) X dX11_looks_241 (by decide) ?_
          refine wa_aload_n X 0 dX11_looks_243 rfl ?_
          refine wa_getI X dX11_looks_244 lfX11_191 rfl h114 rfl ?_
          refine wa_imul X dX11_looks_247 ?_
          refine wa_aload_n X 0 dX11_looks_248 rfl ?_
          refine wa_getP X dX11_looks_249 lfX11_36 rfl h114 rfl ?_
          refine wa_aload_n X 0 dX11_looks_252 rfl ?_
          refine wa_getI X dX11_looks_253 lfX11_172 rfl h114 rfl ?_
          obtain ⟨q116, h117, hf⟩ := jde_some hf
          obtain ⟨h118, hf⟩ := jckT hf
          obtain ⟨h119, hf⟩ := jck_some hf
          refine wa_rbald X dX11_looks_256 h117 h118 h119 ?_
          refine wa_iadd X dX11_looks_257 ?_
          refine wa_bipush (v := (48 : Int32)) X dX11_looks_258 (by decide) ?_
          refine wa_isub X dX11_looks_260 ?_
          obtain ⟨μ120, hm121, hf⟩ := jlt_e hf
          have e122 : jT μ120 = jT μ105 := by rw [hm121]; rfl
          refine wa_rputI (ν := μ120) X dX11_looks_261 lfX11_191 rfl h114 rfl rfl hm121 ?_
          refine wa_sub (L2 := [(0, va_rf (some a))]) [0] rfl ?_
          exact gX11_looks_b264 X ih a μ120 _ _ _ _ hf (by omega) (by omega)
def fX11_looks_b346 (a : Nat) (x1 : Int32) (s0 : Int32) (s1 : Option Nat) (μ : JM) : JO (Int32) := jde s1 fun q142 => jck ((jT μ q142).1 == 12) <| jlt (jsI μ q142 14 s0) fun μ145 => jck ((jT μ a).1 == 12) <| jlt (jsI μ145 a 17 x1) fun μ149 => jlt (jsI μ149 a 16 (1 : Int32)) fun μ152 => jlt (jsI μ152 a 13 ((jI μ152 a 13) + (1 : Int32))) fun μ155 => some ((1 : Int32), μ155, 0, 0)
set_option maxHeartbeats 4000000 in
set_option maxRecDepth 100000 in
theorem gX11_looks_b346 {b : Nat} {Θ : JE} {RC RS : Nat} {r : Int32} {ν : JM} (X : jX b Θ RX11 cX11_looks 2 (some .boolean) 1 22 RC RS) (a : Nat) (x1 : Int32) (s0 : Int32) (s1 : Option Nat) (μ : JM) (c m k n : Nat) (hf : fX11_looks_b346 a x1 s0 s1 μ = some (r, ν, c, m)) (hk : k + c = RC) (hn : n + m = RS) : WA b Θ 2 (jE b Θ (some (.int r)) ν RC RS) μ k n 346 [(0, va_rf (some a)), (1, .int x1)] [.int s0, va_rf s1] := by
  rw [fX11_looks_b346] at hf
  obtain ⟨q142, h143, hf⟩ := jde_some hf
  obtain ⟨h144, hf⟩ := jckT hf
  obtain ⟨μ145, hm146, hf⟩ := jlt_e hf
  have e147 : jT μ145 = jT μ := by rw [hm146]; rfl
  refine wa_rputI (ν := μ145) X dX11_looks_346 lfX11_194 h143 h144 rfl rfl hm146 ?_
  refine wa_aload_n X 0 dX11_looks_349 rfl ?_
  refine wa_iload_n X 1 dX11_looks_350 rfl ?_
  obtain ⟨h148, hf⟩ := jckT hf
  obtain ⟨μ149, hm150, hf⟩ := jlt_e hf
  have e151 : jT μ149 = jT μ := by rw [hm150]; exact e147
  refine wa_rputI (ν := μ149) X dX11_looks_351 lfX11_191 rfl (by rw [e147]; exact h148) rfl rfl hm150 ?_
  refine wa_aload_n X 0 dX11_looks_354 rfl ?_
  refine wa_iconst (v := (1 : Int32)) X dX11_looks_355 (by decide) ?_
  obtain ⟨μ152, hm153, hf⟩ := jlt_e hf
  have e154 : jT μ152 = jT μ := by rw [hm153]; exact e151
  refine wa_rputI (ν := μ152) X dX11_looks_356 lfX11_188 rfl (by rw [e151]; exact h148) rfl rfl hm153 ?_
  refine wa_aload_n X 0 dX11_looks_359 rfl ?_
  refine wa_dup X dX11_looks_360 (va_rf_cat _) ?_
  refine wa_getI X dX11_looks_361 lfX11_172 rfl (by rw [e154]; exact h148) rfl ?_
  refine wa_iconst (v := (1 : Int32)) X dX11_looks_364 (by decide) ?_
  refine wa_iadd X dX11_looks_365 ?_
  obtain ⟨μ155, hm156, hf⟩ := jlt_e hf
  have e157 : jT μ155 = jT μ := by rw [hm156]; exact e154
  refine wa_rputI (ν := μ155) X dX11_looks_366 lfX11_172 rfl (by rw [e154]; exact h148) rfl rfl hm156 ?_
  refine wa_iconst (v := (1 : Int32)) X dX11_looks_369 (by decide) ?_
  obtain ⟨rfl, rfl, rfl, rfl⟩ := jret hf
  exact wa_iret X dX11_looks_370 rfl (by omega) (by omega)
def fX11_looks_b341 (a : Nat) (x1 : Int32) (s0 : Option Nat) (μ : JM) : JO (Int32) := fX11_looks_b346  a x1 (3 : Int32) s0 μ
set_option maxHeartbeats 4000000 in
set_option maxRecDepth 100000 in
theorem gX11_looks_b341 {b : Nat} {Θ : JE} {RC RS : Nat} {r : Int32} {ν : JM} (X : jX b Θ RX11 cX11_looks 2 (some .boolean) 1 22 RC RS) (a : Nat) (x1 : Int32) (s0 : Option Nat) (μ : JM) (c m k n : Nat) (hf : fX11_looks_b341 a x1 s0 μ = some (r, ν, c, m)) (hk : k + c = RC) (hn : n + m = RS) : WA b Θ 2 (jE b Θ (some (.int r)) ν RC RS) μ k n 341 [(0, va_rf (some a)), (1, .int x1)] [va_rf s0] := by
  rw [fX11_looks_b341] at hf
  refine wa_iconst (v := (3 : Int32)) X dX11_looks_341 (by decide) ?_
  refine wa_goto (tgt := 346) X dX11_looks_342 (by decide) ?_
  refine wa_sub (L2 := [(0, va_rf (some a)), (1, .int x1)]) [0, 1] rfl ?_
  exact gX11_looks_b346 X a x1 (3 : Int32) s0 μ _ _ _ _ hf (by omega) (by omega)
def fX11_looks_b52 (a : Nat) (μ : JM) : JO (Int32) := jck ((jT μ a).1 == 12) <| jlt (jsI μ a 15 (jI μ a 13)) fun μ14 => jlt (jsI μ14 a 16 (0 : Int32)) fun μ17 => jlt (jsI μ17 a 17 (0 : Int32)) fun μ20 => if (jI μ20 a 13) = (jI μ20 a 12) then (jlt (jsI μ20 a 14 (0 : Int32)) fun μ60 => some ((1 : Int32), μ60, 0, 0)) else (jde (jP μ20 a 11) fun q24 => jck ((jT μ q24).1 == 100) <| jck (jin (jI μ20 a 13) (jT μ q24).2) <| jcl (fX11_isLetter (jI μ20 q24 ((jI μ20 a 13)).toNatClampNeg) μ20) fun r28 μ29 => if r28 = 0 then (jcl (fX11_isDigit (jI μ20 q24 ((jI μ20 a 13)).toNatClampNeg) μ29) fun r38 μ39 => if r38 = 0 then (if (jI μ20 q24 ((jI μ20 a 13)).toNatClampNeg) = (58 : Int32) then (fX11_looks_b341  a (jI μ20 q24 ((jI μ20 a 13)).toNatClampNeg) (some a) μ39) else (if (jI μ20 q24 ((jI μ20 a 13)).toNatClampNeg) = (59 : Int32) then (fX11_looks_b341  a (jI μ20 q24 ((jI μ20 a 13)).toNatClampNeg) (some a) μ39) else (if (jI μ20 q24 ((jI μ20 a 13)).toNatClampNeg) = (40 : Int32) then (fX11_looks_b341  a (jI μ20 q24 ((jI μ20 a 13)).toNatClampNeg) (some a) μ39) else (if (jI μ20 q24 ((jI μ20 a 13)).toNatClampNeg) = (41 : Int32) then (fX11_looks_b341  a (jI μ20 q24 ((jI μ20 a 13)).toNatClampNeg) (some a) μ39) else (fX11_looks_b346  a (jI μ20 q24 ((jI μ20 a 13)).toNatClampNeg) (4 : Int32) (some a) μ39))))) else (jck ((jT μ39 a).1 == 12) <| jlt (jsI μ39 a 14 (2 : Int32)) fun μ53 => fX11_looks_b201  jfuel a μ53)) else (jck ((jT μ29 a).1 == 12) <| jlt (jsI μ29 a 14 (1 : Int32)) fun μ57 => fX11_looks_b110  jfuel a μ57))
set_option maxHeartbeats 4000000 in
set_option maxRecDepth 100000 in
theorem gX11_looks_b52 {b : Nat} {Θ : JE} {RC RS : Nat} {r : Int32} {ν : JM} (X : jX b Θ RX11 cX11_looks 2 (some .boolean) 1 22 RC RS) (a : Nat) (μ : JM) (c m k n : Nat) (hf : fX11_looks_b52 a μ = some (r, ν, c, m)) (hk : k + c = RC) (hn : n + m = RS) : WA b Θ 2 (jE b Θ (some (.int r)) ν RC RS) μ k n 52 [(0, va_rf (some a))] [] := by
  rw [fX11_looks_b52] at hf
  refine wa_aload_n X 0 dX11_looks_52 rfl ?_
  refine wa_aload_n X 0 dX11_looks_53 rfl ?_
  obtain ⟨h13, hf⟩ := jckT hf
  refine wa_getI X dX11_looks_54 lfX11_172 rfl h13 rfl ?_
  obtain ⟨μ14, hm15, hf⟩ := jlt_e hf
  have e16 : jT μ14 = jT μ := by rw [hm15]; rfl
  refine wa_rputI (ν := μ14) X dX11_looks_57 lfX11_185 rfl h13 rfl rfl hm15 ?_
  refine wa_aload_n X 0 dX11_looks_60 rfl ?_
  refine wa_iconst (v := (0 : Int32)) X dX11_looks_61 (by decide) ?_
  obtain ⟨μ17, hm18, hf⟩ := jlt_e hf
  have e19 : jT μ17 = jT μ := by rw [hm18]; exact e16
  refine wa_rputI (ν := μ17) X dX11_looks_62 lfX11_188 rfl (by rw [e16]; exact h13) rfl rfl hm18 ?_
  refine wa_aload_n X 0 dX11_looks_65 rfl ?_
  refine wa_iconst (v := (0 : Int32)) X dX11_looks_66 (by decide) ?_
  obtain ⟨μ20, hm21, hf⟩ := jlt_e hf
  have e22 : jT μ20 = jT μ := by rw [hm21]; exact e19
  refine wa_rputI (ν := μ20) X dX11_looks_67 lfX11_191 rfl (by rw [e19]; exact h13) rfl rfl hm21 ?_
  refine wa_aload_n X 0 dX11_looks_70 rfl ?_
  refine wa_getI X dX11_looks_71 lfX11_172 rfl (by rw [e22]; exact h13) rfl ?_
  refine wa_aload_n X 0 dX11_looks_74 rfl ?_
  refine wa_getI X dX11_looks_75 lfX11_166 rfl (by rw [e22]; exact h13) rfl ?_
  refine wa_icne (tgt := 88) X dX11_looks_78 (by decide) (fun h23 => ?_) (fun h23 => ?_)
  · rw [if_neg h23] at hf
    refine wa_aload_n X 0 dX11_looks_88 rfl ?_
    refine wa_getP X dX11_looks_89 lfX11_36 rfl (by rw [e22]; exact h13) rfl ?_
    refine wa_aload_n X 0 dX11_looks_92 rfl ?_
    refine wa_getI X dX11_looks_93 lfX11_172 rfl (by rw [e22]; exact h13) rfl ?_
    obtain ⟨q24, h25, hf⟩ := jde_some hf
    obtain ⟨h26, hf⟩ := jckT hf
    obtain ⟨h27, hf⟩ := jck_some hf
    refine wa_rbald X dX11_looks_96 h25 (by rw [e22]; exact h26) (by rw [e22]; exact h27) ?_
    refine wa_istore_n (L2 := [(1, .int (jI μ20 q24 ((jI μ20 a 13)).toNatClampNeg)), (0, va_rf (some a))]) X dX11_looks_97 (by decide) (by first | rfl | (show (1, _) :: List.filter (fun q : Nat × Value => !(q.1 == 1) && !(q.1 + 1 == 1 && q.2.category == 2)) _ = _; simp [va_rf_cat, cat_i, cat_l])) ?_
    refine wa_iload_n X 0 dX11_looks_98 rfl ?_
    obtain ⟨r28, μ29, c30, m31, c32, m33, e34, hf, h35, h36⟩ := jcl_some hf
    refine wa_rcallS (st2 := [.int r28]) X dX11_looks_99 lmX11_197 lMX11_isLetter (mX11_isLetter e34) rfl rfl rfl (va_cats (Nat.le_of_ble_eq_true rfl)) (by decide) (by omega) (by omega) ?_
    refine wa_ifeq (tgt := 189) X dX11_looks_102 (by decide) (fun h37 => ?_) (fun h37 => ?_)
    · rw [if_pos h37] at hf
      refine wa_iload_n X 0 dX11_looks_189 rfl ?_
      obtain ⟨r38, μ39, c40, m41, c42, m43, e44, hf, h45, h46⟩ := jcl_some hf
      refine wa_rcallS (st2 := [.int r38]) X dX11_looks_190 lmX11_205 lMX11_isDigit (mX11_isDigit e44) rfl rfl rfl (va_cats (Nat.le_of_ble_eq_true rfl)) (by decide) (by omega) (by omega) ?_
      refine wa_ifeq (tgt := 316) X dX11_looks_193 (by decide) (fun h47 => ?_) (fun h47 => ?_)
      · rw [if_pos h47] at hf
        refine wa_aload_n X 1 dX11_looks_316 rfl ?_
        refine wa_iload_n X 0 dX11_looks_317 rfl ?_
        refine wa_bipush (v := (58 : Int32)) X dX11_looks_318 (by decide) ?_
        refine wa_iceq (tgt := 341) X dX11_looks_320 (by decide) (fun h48 => ?_) (fun h48 => ?_)
        · rw [if_pos h48] at hf
          refine wa_sub (L2 := [(0, va_rf (some a)), (1, .int (jI μ20 q24 ((jI μ20 a 13)).toNatClampNeg))]) [1, 0] rfl ?_
          exact gX11_looks_b341 X a (jI μ20 q24 ((jI μ20 a 13)).toNatClampNeg) (some a) μ39 _ _ _ _ hf (by omega) (by omega)
        · rw [if_neg h48] at hf
          refine wa_iload_n X 0 dX11_looks_323 rfl ?_
          refine wa_bipush (v := (59 : Int32)) X dX11_looks_324 (by decide) ?_
          refine wa_iceq (tgt := 341) X dX11_looks_326 (by decide) (fun h49 => ?_) (fun h49 => ?_)
          · rw [if_pos h49] at hf
            refine wa_sub (L2 := [(0, va_rf (some a)), (1, .int (jI μ20 q24 ((jI μ20 a 13)).toNatClampNeg))]) [1, 0] rfl ?_
            exact gX11_looks_b341 X a (jI μ20 q24 ((jI μ20 a 13)).toNatClampNeg) (some a) μ39 _ _ _ _ hf (by omega) (by omega)
          · rw [if_neg h49] at hf
            refine wa_iload_n X 0 dX11_looks_329 rfl ?_
            refine wa_bipush (v := (40 : Int32)) X dX11_looks_330 (by decide) ?_
            refine wa_iceq (tgt := 341) X dX11_looks_332 (by decide) (fun h50 => ?_) (fun h50 => ?_)
            · rw [if_pos h50] at hf
              refine wa_sub (L2 := [(0, va_rf (some a)), (1, .int (jI μ20 q24 ((jI μ20 a 13)).toNatClampNeg))]) [1, 0] rfl ?_
              exact gX11_looks_b341 X a (jI μ20 q24 ((jI μ20 a 13)).toNatClampNeg) (some a) μ39 _ _ _ _ hf (by omega) (by omega)
            · rw [if_neg h50] at hf
              refine wa_iload_n X 0 dX11_looks_335 rfl ?_
              refine wa_bipush (v := (41 : Int32)) X dX11_looks_336 (by decide) ?_
              refine wa_icne (tgt := 345) X dX11_looks_338 (by decide) (fun h51 => ?_) (fun h51 => ?_)
              · rw [if_neg h51] at hf
                refine wa_iconst (v := (4 : Int32)) X dX11_looks_345 (by decide) ?_
                refine wa_sub (L2 := [(0, va_rf (some a)), (1, .int (jI μ20 q24 ((jI μ20 a 13)).toNatClampNeg))]) [1, 0] rfl ?_
                exact gX11_looks_b346 X a (jI μ20 q24 ((jI μ20 a 13)).toNatClampNeg) (4 : Int32) (some a) μ39 _ _ _ _ hf (by omega) (by omega)
              · rw [if_pos h51] at hf
                refine wa_sub (L2 := [(0, va_rf (some a)), (1, .int (jI μ20 q24 ((jI μ20 a 13)).toNatClampNeg))]) [1, 0] rfl ?_
                exact gX11_looks_b341 X a (jI μ20 q24 ((jI μ20 a 13)).toNatClampNeg) (some a) μ39 _ _ _ _ hf (by omega) (by omega)
      · rw [if_neg h47] at hf
        refine wa_aload_n X 1 dX11_looks_196 rfl ?_
        refine wa_iconst (v := (2 : Int32)) X dX11_looks_197 (by decide) ?_
        obtain ⟨h52, hf⟩ := jckT hf
        obtain ⟨μ53, hm54, hf⟩ := jlt_e hf
        have e55 : jT μ53 = jT μ39 := by rw [hm54]; rfl
        refine wa_rputI (ν := μ53) X dX11_looks_198 lfX11_194 rfl h52 rfl rfl hm54 ?_
        refine wa_sub (L2 := [(0, va_rf (some a))]) [1] rfl ?_
        exact gX11_looks_b201 X jfuel a μ53 _ _ _ _ hf (by omega) (by omega)
    · rw [if_neg h37] at hf
      refine wa_aload_n X 1 dX11_looks_105 rfl ?_
      refine wa_iconst (v := (1 : Int32)) X dX11_looks_106 (by decide) ?_
      obtain ⟨h56, hf⟩ := jckT hf
      obtain ⟨μ57, hm58, hf⟩ := jlt_e hf
      have e59 : jT μ57 = jT μ29 := by rw [hm58]; rfl
      refine wa_rputI (ν := μ57) X dX11_looks_107 lfX11_194 rfl h56 rfl rfl hm58 ?_
      refine wa_sub (L2 := [(0, va_rf (some a))]) [1] rfl ?_
      exact gX11_looks_b110 X jfuel a μ57 _ _ _ _ hf (by omega) (by omega)
  · rw [if_pos h23] at hf
    refine wa_aload_n X 0 dX11_looks_81 rfl ?_
    refine wa_iconst (v := (0 : Int32)) X dX11_looks_82 (by decide) ?_
    obtain ⟨μ60, hm61, hf⟩ := jlt_e hf
    have e62 : jT μ60 = jT μ := by rw [hm61]; exact e22
    refine wa_rputI (ν := μ60) X dX11_looks_83 lfX11_194 rfl (by rw [e22]; exact h13) rfl rfl hm61 ?_
    refine wa_iconst (v := (1 : Int32)) X dX11_looks_86 (by decide) ?_
    obtain ⟨rfl, rfl, rfl, rfl⟩ := jret hf
    exact wa_iret X dX11_looks_87 rfl (by omega) (by omega)
def fX11_looks_b0 : Nat → Nat → JM → JO (Int32)
  | 0, _, _ => none
  | fu + 1, a, μ => jck ((jT μ a).1 == 12) <| if (jI μ a 12) ≤ (jI μ a 13) then (fX11_looks_b52  a μ) else (jde (jP μ a 11) fun q3 => jck ((jT μ q3).1 == 100) <| jck (jin (jI μ a 13) (jT μ q3).2) <| if (jI μ q3 ((jI μ a 13)).toNatClampNeg) = (32 : Int32) then (fX11_looks_b39 (fX11_looks_b0 fu) a μ) else (if (jI μ q3 ((jI μ a 13)).toNatClampNeg) = (10 : Int32) then (fX11_looks_b39 (fX11_looks_b0 fu) a μ) else (fX11_looks_b52  a μ)))
set_option maxHeartbeats 4000000 in
set_option maxRecDepth 100000 in
theorem gX11_looks_b0 {b : Nat} {Θ : JE} {RC RS : Nat} {r : Int32} {ν : JM} (X : jX b Θ RX11 cX11_looks 2 (some .boolean) 1 22 RC RS) : ∀ (fu : Nat) (a : Nat) (μ : JM) (c m k n : Nat), fX11_looks_b0 fu a μ = some (r, ν, c, m) → k + c = RC → n + m = RS → WA b Θ 2 (jE b Θ (some (.int r)) ν RC RS) μ k n 0 [(0, va_rf (some a))] [] := by
  intro fu
  induction fu with
  | zero => intro a μ c m k n hf; cases hf
  | succ fu ih =>
    intro a μ c m k n hf hk hn
    rw [fX11_looks_b0] at hf
    refine wa_aload_n X 0 dX11_looks_0 rfl ?_
    obtain ⟨h1, hf⟩ := jckT hf
    refine wa_getI X dX11_looks_1 lfX11_172 rfl h1 rfl ?_
    refine wa_aload_n X 0 dX11_looks_4 rfl ?_
    refine wa_getI X dX11_looks_5 lfX11_166 rfl h1 rfl ?_
    refine wa_icge (tgt := 52) X dX11_looks_8 (by decide) (fun h2 => ?_) (fun h2 => ?_)
    · rw [if_pos h2] at hf
      refine wa_sub (L2 := [(0, va_rf (some a))]) [0] rfl ?_
      exact gX11_looks_b52 X a μ _ _ _ _ hf (by omega) (by omega)
    · rw [if_neg h2] at hf
      refine wa_aload_n X 0 dX11_looks_11 rfl ?_
      refine wa_getP X dX11_looks_12 lfX11_36 rfl h1 rfl ?_
      refine wa_aload_n X 0 dX11_looks_15 rfl ?_
      refine wa_getI X dX11_looks_16 lfX11_172 rfl h1 rfl ?_
      obtain ⟨q3, h4, hf⟩ := jde_some hf
      obtain ⟨h5, hf⟩ := jckT hf
      obtain ⟨h6, hf⟩ := jck_some hf
      refine wa_rbald X dX11_looks_19 h4 h5 h6 ?_
      refine wa_bipush (v := (32 : Int32)) X dX11_looks_20 (by decide) ?_
      refine wa_iceq (tgt := 39) X dX11_looks_22 (by decide) (fun h7 => ?_) (fun h7 => ?_)
      · rw [if_pos h7] at hf
        refine wa_sub (L2 := [(0, va_rf (some a))]) [0] rfl ?_
        exact gX11_looks_b39 X ih a μ _ _ _ _ hf (by omega) (by omega)
      · rw [if_neg h7] at hf
        refine wa_aload_n X 0 dX11_looks_25 rfl ?_
        refine wa_getP X dX11_looks_26 lfX11_36 rfl h1 rfl ?_
        refine wa_aload_n X 0 dX11_looks_29 rfl ?_
        refine wa_getI X dX11_looks_30 lfX11_172 rfl h1 rfl ?_
        refine wa_rbald X dX11_looks_33 h4 h5 h6 ?_
        refine wa_bipush (v := (10 : Int32)) X dX11_looks_34 (by decide) ?_
        refine wa_icne (tgt := 52) X dX11_looks_36 (by decide) (fun h8 => ?_) (fun h8 => ?_)
        · rw [if_neg h8] at hf
          refine wa_sub (L2 := [(0, va_rf (some a))]) [0] rfl ?_
          exact gX11_looks_b52 X a μ _ _ _ _ hf (by omega) (by omega)
        · rw [if_pos h8] at hf
          refine wa_sub (L2 := [(0, va_rf (some a))]) [0] rfl ?_
          exact gX11_looks_b39 X ih a μ _ _ _ _ hf (by omega) (by omega)
def fX11_looks (a : Nat) (μ : JM) : JO (Int32) := fX11_looks_b0  jfuel a μ
set_option maxHeartbeats 4000000 in
set_option maxRecDepth 100000 in
theorem mX11_looks {b : Nat} {a : Nat} {μ : JM} {r : Int32} {ν : JM} {c m : Nat} (hf : fX11_looks a μ = some (r, ν, c, m)) : JMet b yX11_looks cX11_looks 2 (some .boolean) 1 22 [va_rf (some a)] μ (some (.int r)) ν c m := by
  refine JMet.of (by decide) (lg_sl_le (by simp only [List.map_cons, List.map_nil, List.sum_cons, List.sum_nil, va_rf_cat]; exact Nat.le_of_ble_eq_true rfl)) (fun Θ X hin => ?_)
  refine wa_eq (L2 := [(0, va_rf (some a))]) ?_ rfl (by first | rfl | simp [lv_args, va_rf_cat, cat_i, cat_l]) rfl
  obtain ⟨k, hk0⟩ : ∃ k : Nat, k = 0 := ⟨0, rfl⟩
  obtain ⟨n, hn0⟩ : ∃ n : Nat, n = 0 := ⟨0, rfl⟩
  have hk : k + c = c := by omega
  have hn : n + m = m := by omega
  refine wa_costs hk0.symm hn0.symm ?_
  rw [fX11_looks] at hf
  refine wa_sub (L2 := [(0, va_rf (some a))]) [0] rfl ?_
  exact gX11_looks_b0 X jfuel a μ _ _ _ _ hf (by omega) (by omega)
theorem dX11_begins_0 : decode cX11_begins 0 = .ok (.aload_n 0, 1) := by decide +kernel
theorem dX11_begins_1 : decode cX11_begins 1 = .ok (.iconst 0, 1) := by decide +kernel
theorem dX11_begins_2 : decode cX11_begins 2 = .ok (.putfield 172, 3) := by decide +kernel
theorem dX11_begins_5 : decode cX11_begins 5 = .ok (.aload_n 0, 1) := by decide +kernel
theorem dX11_begins_6 : decode cX11_begins 6 = .ok (.iconst 0, 1) := by decide +kernel
theorem dX11_begins_7 : decode cX11_begins 7 = .ok (.putfield 163, 3) := by decide +kernel
theorem dX11_begins_10 : decode cX11_begins 10 = .ok (.aload_n 0, 1) := by decide +kernel
theorem dX11_begins_11 : decode cX11_begins 11 = .ok (.iconst 0, 1) := by decide +kernel
theorem dX11_begins_12 : decode cX11_begins 12 = .ok (.putfield 175, 3) := by decide +kernel
theorem dX11_begins_15 : decode cX11_begins 15 = .ok (.aload_n 0, 1) := by decide +kernel
theorem dX11_begins_16 : decode cX11_begins 16 = .ok (.iconst 0, 1) := by decide +kernel
theorem dX11_begins_17 : decode cX11_begins 17 = .ok (.putfield 178, 3) := by decide +kernel
theorem dX11_begins_20 : decode cX11_begins 20 = .ok (.aload_n 0, 1) := by decide +kernel
theorem dX11_begins_21 : decode cX11_begins 21 = .ok (.invokevirtual 181, 3) := by decide +kernel
theorem dX11_begins_24 : decode cX11_begins 24 = .ok (.pop, 1) := by decide +kernel
theorem dX11_begins_25 : decode cX11_begins 25 = .ok (.return_, 1) := by decide +kernel
def fX11_begins (a : Nat) (μ : JM) : JO (Unit) := jck ((jT μ a).1 == 12) <| jlt (jsI μ a 13 (0 : Int32)) fun μ2 => jlt (jsI μ2 a 18 (0 : Int32)) fun μ5 => jlt (jsI μ5 a 20 (0 : Int32)) fun μ8 => jlt (jsI μ8 a 21 (0 : Int32)) fun μ11 => jcl (fX11_looks a μ11) fun r14 μ15 => some ((), μ15, 0, 0)
set_option maxHeartbeats 4000000 in
set_option maxRecDepth 100000 in
theorem mX11_begins {b : Nat} {a : Nat} {μ : JM} {r : Unit} {ν : JM} {c m : Nat} (hf : fX11_begins a μ = some (r, ν, c, m)) : JMet b yX11_begins cX11_begins 1 none 2 43 [va_rf (some a)] μ (none) ν c m := by
  refine JMet.of (by decide) (lg_sl_le (by simp only [List.map_cons, List.map_nil, List.sum_cons, List.sum_nil, va_rf_cat]; exact Nat.le_of_ble_eq_true rfl)) (fun Θ X hin => ?_)
  refine wa_eq (L2 := [(0, va_rf (some a))]) ?_ rfl (by first | rfl | simp [lv_args, va_rf_cat, cat_i, cat_l]) rfl
  obtain ⟨k, hk0⟩ : ∃ k : Nat, k = 0 := ⟨0, rfl⟩
  obtain ⟨n, hn0⟩ : ∃ n : Nat, n = 0 := ⟨0, rfl⟩
  have hk : k + c = c := by omega
  have hn : n + m = m := by omega
  refine wa_costs hk0.symm hn0.symm ?_
  rw [fX11_begins] at hf
  refine wa_aload_n X 0 dX11_begins_0 rfl ?_
  refine wa_iconst (v := (0 : Int32)) X dX11_begins_1 (by decide) ?_
  obtain ⟨h1, hf⟩ := jckT hf
  obtain ⟨μ2, hm3, hf⟩ := jlt_e hf
  have e4 : jT μ2 = jT μ := by rw [hm3]; rfl
  refine wa_rputI (ν := μ2) X dX11_begins_2 lfX11_172 rfl h1 rfl rfl hm3 ?_
  refine wa_aload_n X 0 dX11_begins_5 rfl ?_
  refine wa_iconst (v := (0 : Int32)) X dX11_begins_6 (by decide) ?_
  obtain ⟨μ5, hm6, hf⟩ := jlt_e hf
  have e7 : jT μ5 = jT μ := by rw [hm6]; exact e4
  refine wa_rputI (ν := μ5) X dX11_begins_7 lfX11_163 rfl (by rw [e4]; exact h1) rfl rfl hm6 ?_
  refine wa_aload_n X 0 dX11_begins_10 rfl ?_
  refine wa_iconst (v := (0 : Int32)) X dX11_begins_11 (by decide) ?_
  obtain ⟨μ8, hm9, hf⟩ := jlt_e hf
  have e10 : jT μ8 = jT μ := by rw [hm9]; exact e7
  refine wa_rputI (ν := μ8) X dX11_begins_12 lfX11_175 rfl (by rw [e7]; exact h1) rfl rfl hm9 ?_
  refine wa_aload_n X 0 dX11_begins_15 rfl ?_
  refine wa_iconst (v := (0 : Int32)) X dX11_begins_16 (by decide) ?_
  obtain ⟨μ11, hm12, hf⟩ := jlt_e hf
  have e13 : jT μ11 = jT μ := by rw [hm12]; exact e10
  refine wa_rputI (ν := μ11) X dX11_begins_17 lfX11_178 rfl (by rw [e10]; exact h1) rfl rfl hm12 ?_
  refine wa_aload_n X 0 dX11_begins_20 rfl ?_
  obtain ⟨r14, μ15, c16, m17, c18, m19, e20, hf, h21, h22⟩ := jcl_some hf
  refine wa_rcallV (st2 := [.int r14]) X dX11_begins_21 lmX11_181 lMX11_looks rfl (by rw [e13]; exact h1) (mX11_looks e20) rfl rfl rfl (va_cats (Nat.le_of_ble_eq_true rfl)) (by decide) (by omega) (by omega) ?_
  refine wa_pop X dX11_begins_24 rfl ?_
  obtain ⟨rfl, rfl, rfl, rfl⟩ := jret hf
  exact wa_vret X dX11_begins_25 (by omega) (by omega)
theorem dX11_takesTape_0 : decode cX11_takesTape 0 = .ok (.aload_n 0, 1) := by decide +kernel
theorem dX11_takesTape_1 : decode cX11_takesTape 1 = .ok (.aload_n 0, 1) := by decide +kernel
theorem dX11_takesTape_2 : decode cX11_takesTape 2 = .ok (.getfield 156, 3) := by decide +kernel
theorem dX11_takesTape_5 : decode cX11_takesTape 5 = .ok (.putfield 166, 3) := by decide +kernel
theorem dX11_takesTape_8 : decode cX11_takesTape 8 = .ok (.iconst 0, 1) := by decide +kernel
theorem dX11_takesTape_9 : decode cX11_takesTape 9 = .ok (.istore_n 1, 1) := by decide +kernel
theorem dX11_takesTape_10 : decode cX11_takesTape 10 = .ok (.iload_n 1, 1) := by decide +kernel
theorem dX11_takesTape_11 : decode cX11_takesTape 11 = .ok (.aload_n 0, 1) := by decide +kernel
theorem dX11_takesTape_12 : decode cX11_takesTape 12 = .ok (.getfield 156, 3) := by decide +kernel
theorem dX11_takesTape_15 : decode cX11_takesTape 15 = .ok (.if_icmp .ge 21, 3) := by decide +kernel
theorem dX11_takesTape_18 : decode cX11_takesTape 18 = .ok (.aload_n 0, 1) := by decide +kernel
theorem dX11_takesTape_19 : decode cX11_takesTape 19 = .ok (.getfield 36, 3) := by decide +kernel
theorem dX11_takesTape_22 : decode cX11_takesTape 22 = .ok (.iload_n 1, 1) := by decide +kernel
theorem dX11_takesTape_23 : decode cX11_takesTape 23 = .ok (.aload_n 0, 1) := by decide +kernel
theorem dX11_takesTape_24 : decode cX11_takesTape 24 = .ok (.getfield 7, 3) := by decide +kernel
theorem dX11_takesTape_27 : decode cX11_takesTape 27 = .ok (.iload_n 1, 1) := by decide +kernel
theorem dX11_takesTape_28 : decode cX11_takesTape 28 = .ok (.baload, 1) := by decide +kernel
theorem dX11_takesTape_29 : decode cX11_takesTape 29 = .ok (.bastore, 1) := by decide +kernel
theorem dX11_takesTape_30 : decode cX11_takesTape 30 = .ok (.iinc 1 1, 3) := by decide +kernel
theorem dX11_takesTape_33 : decode cX11_takesTape 33 = .ok (.goto (-23), 3) := by decide +kernel
theorem dX11_takesTape_36 : decode cX11_takesTape 36 = .ok (.aload_n 0, 1) := by decide +kernel
theorem dX11_takesTape_37 : decode cX11_takesTape 37 = .ok (.iconst 0, 1) := by decide +kernel
theorem dX11_takesTape_38 : decode cX11_takesTape 38 = .ok (.putfield 156, 3) := by decide +kernel
theorem dX11_takesTape_41 : decode cX11_takesTape 41 = .ok (.aload_n 0, 1) := by decide +kernel
theorem dX11_takesTape_42 : decode cX11_takesTape 42 = .ok (.invokevirtual 169, 3) := by decide +kernel
theorem dX11_takesTape_45 : decode cX11_takesTape 45 = .ok (.return_, 1) := by decide +kernel
def fX11_takesTape_b10 : Nat → Nat → Int32 → JM → JO (Unit)
  | 0, _, _, _ => none
  | fu + 1, a, x1, μ => jck ((jT μ a).1 == 12) <| if (jI μ a 1) ≤ x1 then (jlt (jsI μ a 1 (0 : Int32)) fun μ7 => jcl (fX11_begins a μ7) fun u10 μ11 => some ((), μ11, 0, 0)) else (jde (jP μ a 0) fun q19 => jck ((jT μ q19).1 == 100) <| jck (jin x1 (jT μ q19).2) <| jde (jP μ a 11) fun q23 => jck ((jT μ q23).1 == 100) <| jck (jin x1 (jT μ q23).2) <| jlt (jsI μ q23 (x1).toNatClampNeg (vp_nar .byte (jI μ q19 (x1).toNatClampNeg))) fun μ27 => fX11_takesTape_b10 fu a (x1 + (1 : Int32)) μ27)
set_option maxHeartbeats 4000000 in
set_option maxRecDepth 100000 in
theorem gX11_takesTape_b10 {b : Nat} {Θ : JE} {RC RS : Nat} {r : Unit} {ν : JM} (X : jX b Θ RX11 cX11_takesTape 2 none 3 63 RC RS) : ∀ (fu : Nat) (a : Nat) (x1 : Int32) (μ : JM) (c m k n : Nat), fX11_takesTape_b10 fu a x1 μ = some (r, ν, c, m) → k + c = RC → n + m = RS → WA b Θ 2 (jE b Θ (none) ν RC RS) μ k n 10 [(0, va_rf (some a)), (1, .int x1)] [] := by
  intro fu
  induction fu with
  | zero => intro a x1 μ c m k n hf; cases hf
  | succ fu ih =>
    intro a x1 μ c m k n hf hk hn
    rw [fX11_takesTape_b10] at hf
    refine wa_iload_n X 1 dX11_takesTape_10 rfl ?_
    refine wa_aload_n X 0 dX11_takesTape_11 rfl ?_
    obtain ⟨h5, hf⟩ := jckT hf
    refine wa_getI X dX11_takesTape_12 lfX11_156 rfl h5 rfl ?_
    refine wa_icge (tgt := 36) X dX11_takesTape_15 (by decide) (fun h6 => ?_) (fun h6 => ?_)
    · rw [if_pos h6] at hf
      refine wa_aload_n X 0 dX11_takesTape_36 rfl ?_
      refine wa_iconst (v := (0 : Int32)) X dX11_takesTape_37 (by decide) ?_
      obtain ⟨μ7, hm8, hf⟩ := jlt_e hf
      have e9 : jT μ7 = jT μ := by rw [hm8]; rfl
      refine wa_rputI (ν := μ7) X dX11_takesTape_38 lfX11_156 rfl h5 rfl rfl hm8 ?_
      refine wa_aload_n X 0 dX11_takesTape_41 rfl ?_
      obtain ⟨u10, μ11, c12, m13, c14, m15, e16, hf, h17, h18⟩ := jcl_some hf
      refine wa_rcallV (st2 := []) X dX11_takesTape_42 lmX11_169 lMX11_begins rfl (by rw [e9]; exact h5) (mX11_begins e16) rfl rfl rfl (va_cats (Nat.le_of_ble_eq_true rfl)) (by decide) (by omega) (by omega) ?_
      obtain ⟨rfl, rfl, rfl, rfl⟩ := jret hf
      exact wa_vret X dX11_takesTape_45 (by omega) (by omega)
    · rw [if_neg h6] at hf
      refine wa_aload_n X 0 dX11_takesTape_18 rfl ?_
      refine wa_getP X dX11_takesTape_19 lfX11_36 rfl h5 rfl ?_
      refine wa_iload_n X 1 dX11_takesTape_22 rfl ?_
      refine wa_aload_n X 0 dX11_takesTape_23 rfl ?_
      refine wa_getP X dX11_takesTape_24 lfX11_7 rfl h5 rfl ?_
      refine wa_iload_n X 1 dX11_takesTape_27 rfl ?_
      obtain ⟨q19, h20, hf⟩ := jde_some hf
      obtain ⟨h21, hf⟩ := jckT hf
      obtain ⟨h22, hf⟩ := jck_some hf
      refine wa_rbald X dX11_takesTape_28 h20 h21 h22 ?_
      obtain ⟨q23, h24, hf⟩ := jde_some hf
      obtain ⟨h25, hf⟩ := jckT hf
      obtain ⟨h26, hf⟩ := jck_some hf
      obtain ⟨μ27, hm28, hf⟩ := jlt_e hf
      have e29 : jT μ27 = jT μ := by rw [hm28]; rfl
      refine wa_rbast (ν := μ27) X dX11_takesTape_29 h24 h25 h26 hm28 ?_
      refine wa_iinc (v := (x1 + (1 : Int32))) (L2 := [(1, .int (x1 + (1 : Int32))), (0, va_rf (some a))]) X 1 dX11_takesTape_30 rfl rfl (by decide) (by first | rfl | simp [va_rf_cat, cat_i, cat_l]) ?_
      refine wa_goto (tgt := 10) X dX11_takesTape_33 (by decide) ?_
      refine wa_sub (L2 := [(0, va_rf (some a)), (1, .int (x1 + (1 : Int32)))]) [1, 0] rfl ?_
      exact ih a (x1 + (1 : Int32)) μ27 _ _ _ _ hf (by omega) (by omega)
def fX11_takesTape (a : Nat) (μ : JM) : JO (Unit) := jck ((jT μ a).1 == 12) <| jlt (jsI μ a 12 (jI μ a 1)) fun μ2 => fX11_takesTape_b10  jfuel a (0 : Int32) μ2
set_option maxHeartbeats 4000000 in
set_option maxRecDepth 100000 in
theorem mX11_takesTape {b : Nat} {a : Nat} {μ : JM} {r : Unit} {ν : JM} {c m : Nat} (hf : fX11_takesTape a μ = some (r, ν, c, m)) : JMet b yX11_takesTape cX11_takesTape 2 none 3 63 [va_rf (some a)] μ (none) ν c m := by
  refine JMet.of (by decide) (lg_sl_le (by simp only [List.map_cons, List.map_nil, List.sum_cons, List.sum_nil, va_rf_cat]; exact Nat.le_of_ble_eq_true rfl)) (fun Θ X hin => ?_)
  refine wa_eq (L2 := [(0, va_rf (some a))]) ?_ rfl (by first | rfl | simp [lv_args, va_rf_cat, cat_i, cat_l]) rfl
  obtain ⟨k, hk0⟩ : ∃ k : Nat, k = 0 := ⟨0, rfl⟩
  obtain ⟨n, hn0⟩ : ∃ n : Nat, n = 0 := ⟨0, rfl⟩
  have hk : k + c = c := by omega
  have hn : n + m = m := by omega
  refine wa_costs hk0.symm hn0.symm ?_
  rw [fX11_takesTape] at hf
  refine wa_aload_n X 0 dX11_takesTape_0 rfl ?_
  refine wa_aload_n X 0 dX11_takesTape_1 rfl ?_
  obtain ⟨h1, hf⟩ := jckT hf
  refine wa_getI X dX11_takesTape_2 lfX11_156 rfl h1 rfl ?_
  obtain ⟨μ2, hm3, hf⟩ := jlt_e hf
  have e4 : jT μ2 = jT μ := by rw [hm3]; rfl
  refine wa_rputI (ν := μ2) X dX11_takesTape_5 lfX11_166 rfl h1 rfl rfl hm3 ?_
  refine wa_iconst (v := (0 : Int32)) X dX11_takesTape_8 (by decide) ?_
  refine wa_istore_n (L2 := [(1, .int (0 : Int32)), (0, va_rf (some a))]) X dX11_takesTape_9 (by decide) (by first | rfl | (show (1, _) :: List.filter (fun q : Nat × Value => !(q.1 == 1) && !(q.1 + 1 == 1 && q.2.category == 2)) _ = _; simp [va_rf_cat, cat_i, cat_l])) ?_
  refine wa_sub (L2 := [(0, va_rf (some a)), (1, .int (0 : Int32))]) [1, 0] rfl ?_
  exact gX11_takesTape_b10 X jfuel a (0 : Int32) μ2 _ _ _ _ hf (by omega) (by omega)
theorem dX11_puts_0 : decode cX11_puts 0 = .ok (.aload_n 0, 1) := by decide +kernel
theorem dX11_puts_1 : decode cX11_puts 1 = .ok (.getfield 39, 3) := by decide +kernel
theorem dX11_puts_4 : decode cX11_puts 4 = .ok (.aload_n 0, 1) := by decide +kernel
theorem dX11_puts_5 : decode cX11_puts 5 = .ok (.getfield 175, 3) := by decide +kernel
theorem dX11_puts_8 : decode cX11_puts 8 = .ok (.iload_n 1, 1) := by decide +kernel
theorem dX11_puts_9 : decode cX11_puts 9 = .ok (.i2b, 1) := by decide +kernel
theorem dX11_puts_10 : decode cX11_puts 10 = .ok (.bastore, 1) := by decide +kernel
theorem dX11_puts_11 : decode cX11_puts 11 = .ok (.aload_n 0, 1) := by decide +kernel
theorem dX11_puts_12 : decode cX11_puts 12 = .ok (.dup, 1) := by decide +kernel
theorem dX11_puts_13 : decode cX11_puts 13 = .ok (.getfield 175, 3) := by decide +kernel
theorem dX11_puts_16 : decode cX11_puts 16 = .ok (.iconst 1, 1) := by decide +kernel
theorem dX11_puts_17 : decode cX11_puts 17 = .ok (.iadd, 1) := by decide +kernel
theorem dX11_puts_18 : decode cX11_puts 18 = .ok (.putfield 175, 3) := by decide +kernel
theorem dX11_puts_21 : decode cX11_puts 21 = .ok (.return_, 1) := by decide +kernel
def fX11_puts (a : Nat) (x1 : Int32) (μ : JM) : JO (Unit) := jck ((jT μ a).1 == 12) <| jde (jP μ a 19) fun q2 => jck ((jT μ q2).1 == 100) <| jck (jin (jI μ a 20) (jT μ q2).2) <| jlt (jsI μ q2 ((jI μ a 20)).toNatClampNeg (vp_nar .byte (jb8 x1))) fun μ6 => jlt (jsI μ6 a 20 ((jI μ6 a 20) + (1 : Int32))) fun μ9 => some ((), μ9, 0, 0)
set_option maxHeartbeats 4000000 in
set_option maxRecDepth 100000 in
theorem mX11_puts {b : Nat} {a : Nat} {x1 : Int32} {μ : JM} {r : Unit} {ν : JM} {c m : Nat} (hf : fX11_puts a x1 μ = some (r, ν, c, m)) : JMet b yX11_puts cX11_puts 2 none 0 0 [va_rf (some a), .int x1] μ (none) ν c m := by
  refine JMet.of (by decide) (lg_sl_le (by simp only [List.map_cons, List.map_nil, List.sum_cons, List.sum_nil, va_rf_cat]; exact Nat.le_of_ble_eq_true rfl)) (fun Θ X hin => ?_)
  refine wa_eq (L2 := [(0, va_rf (some a)), (1, .int x1)]) ?_ rfl (by first | rfl | simp [lv_args, va_rf_cat, cat_i, cat_l]) rfl
  obtain ⟨k, hk0⟩ : ∃ k : Nat, k = 0 := ⟨0, rfl⟩
  obtain ⟨n, hn0⟩ : ∃ n : Nat, n = 0 := ⟨0, rfl⟩
  have hk : k + c = c := by omega
  have hn : n + m = m := by omega
  refine wa_costs hk0.symm hn0.symm ?_
  rw [fX11_puts] at hf
  refine wa_aload_n X 0 dX11_puts_0 rfl ?_
  obtain ⟨h1, hf⟩ := jckT hf
  refine wa_getP X dX11_puts_1 lfX11_39 rfl h1 rfl ?_
  refine wa_aload_n X 0 dX11_puts_4 rfl ?_
  refine wa_getI X dX11_puts_5 lfX11_175 rfl h1 rfl ?_
  refine wa_iload_n X 1 dX11_puts_8 rfl ?_
  refine wa_i2b X dX11_puts_9 ?_
  obtain ⟨q2, h3, hf⟩ := jde_some hf
  obtain ⟨h4, hf⟩ := jckT hf
  obtain ⟨h5, hf⟩ := jck_some hf
  obtain ⟨μ6, hm7, hf⟩ := jlt_e hf
  have e8 : jT μ6 = jT μ := by rw [hm7]; rfl
  refine wa_rbast (ν := μ6) X dX11_puts_10 h3 h4 h5 hm7 ?_
  refine wa_aload_n X 0 dX11_puts_11 rfl ?_
  refine wa_dup X dX11_puts_12 (va_rf_cat _) ?_
  refine wa_getI X dX11_puts_13 lfX11_175 rfl (by rw [e8]; exact h1) rfl ?_
  refine wa_iconst (v := (1 : Int32)) X dX11_puts_16 (by decide) ?_
  refine wa_iadd X dX11_puts_17 ?_
  obtain ⟨μ9, hm10, hf⟩ := jlt_e hf
  have e11 : jT μ9 = jT μ := by rw [hm10]; exact e8
  refine wa_rputI (ν := μ9) X dX11_puts_18 lfX11_175 rfl (by rw [e8]; exact h1) rfl rfl hm10 ?_
  obtain ⟨rfl, rfl, rfl, rfl⟩ := jret hf
  exact wa_vret X dX11_puts_21 (by omega) (by omega)
theorem dX11_takes_0 : decode cX11_takes 0 = .ok (.aload_n 0, 1) := by decide +kernel
theorem dX11_takes_1 : decode cX11_takes 1 = .ok (.getfield 178, 3) := by decide +kernel
theorem dX11_takes_4 : decode cX11_takes 4 = .ok (.ifCond .eq 29, 3) := by decide +kernel
theorem dX11_takes_7 : decode cX11_takes 7 = .ok (.aload_n 0, 1) := by decide +kernel
theorem dX11_takes_8 : decode cX11_takes 8 = .ok (.getfield 178, 3) := by decide +kernel
theorem dX11_takes_11 : decode cX11_takes 11 = .ok (.bipush 40, 2) := by decide +kernel
theorem dX11_takes_13 : decode cX11_takes 13 = .ok (.if_icmp .eq 20, 3) := by decide +kernel
theorem dX11_takes_16 : decode cX11_takes 16 = .ok (.aload_n 0, 1) := by decide +kernel
theorem dX11_takes_17 : decode cX11_takes 17 = .ok (.getfield 194, 3) := by decide +kernel
theorem dX11_takes_20 : decode cX11_takes 20 = .ok (.iconst 3, 1) := by decide +kernel
theorem dX11_takes_21 : decode cX11_takes 21 = .ok (.if_icmp .ne 16, 3) := by decide +kernel
theorem dX11_takes_24 : decode cX11_takes 24 = .ok (.aload_n 0, 1) := by decide +kernel
theorem dX11_takes_25 : decode cX11_takes 25 = .ok (.getfield 191, 3) := by decide +kernel
theorem dX11_takes_28 : decode cX11_takes 28 = .ok (.bipush 40, 2) := by decide +kernel
theorem dX11_takes_30 : decode cX11_takes 30 = .ok (.if_icmp .eq 7, 3) := by decide +kernel
theorem dX11_takes_33 : decode cX11_takes 33 = .ok (.iconst 1, 1) := by decide +kernel
theorem dX11_takes_34 : decode cX11_takes 34 = .ok (.goto 4, 3) := by decide +kernel
theorem dX11_takes_37 : decode cX11_takes 37 = .ok (.iconst 0, 1) := by decide +kernel
theorem dX11_takes_38 : decode cX11_takes 38 = .ok (.istore_n 1, 1) := by decide +kernel
theorem dX11_takes_39 : decode cX11_takes 39 = .ok (.iload_n 1, 1) := by decide +kernel
theorem dX11_takes_40 : decode cX11_takes 40 = .ok (.ifCond .ne 9, 3) := by decide +kernel
theorem dX11_takes_43 : decode cX11_takes 43 = .ok (.aload_n 0, 1) := by decide +kernel
theorem dX11_takes_44 : decode cX11_takes 44 = .ok (.bipush 32, 2) := by decide +kernel
theorem dX11_takes_46 : decode cX11_takes 46 = .ok (.invokevirtual 208, 3) := by decide +kernel
theorem dX11_takes_49 : decode cX11_takes 49 = .ok (.aload_n 0, 1) := by decide +kernel
theorem dX11_takes_50 : decode cX11_takes 50 = .ok (.getfield 194, 3) := by decide +kernel
theorem dX11_takes_53 : decode cX11_takes 53 = .ok (.iconst 2, 1) := by decide +kernel
theorem dX11_takes_54 : decode cX11_takes 54 = .ok (.if_icmp .ne 50, 3) := by decide +kernel
theorem dX11_takes_57 : decode cX11_takes 57 = .ok (.bipush 100, 2) := by decide +kernel
theorem dX11_takes_59 : decode cX11_takes 59 = .ok (.istore_n 2, 1) := by decide +kernel
theorem dX11_takes_60 : decode cX11_takes 60 = .ok (.iload_n 2, 1) := by decide +kernel
theorem dX11_takes_61 : decode cX11_takes 61 = .ok (.ifCond .le 40, 3) := by decide +kernel
theorem dX11_takes_64 : decode cX11_takes 64 = .ok (.aload_n 0, 1) := by decide +kernel
theorem dX11_takes_65 : decode cX11_takes 65 = .ok (.getfield 191, 3) := by decide +kernel
theorem dX11_takes_68 : decode cX11_takes 68 = .ok (.iload_n 2, 1) := by decide +kernel
theorem dX11_takes_69 : decode cX11_takes 69 = .ok (.if_icmp .ge 8, 3) := by decide +kernel
theorem dX11_takes_72 : decode cX11_takes 72 = .ok (.iload_n 2, 1) := by decide +kernel
theorem dX11_takes_73 : decode cX11_takes 73 = .ok (.iconst 1, 1) := by decide +kernel
theorem dX11_takes_74 : decode cX11_takes 74 = .ok (.if_icmp .ne 19, 3) := by decide +kernel
theorem dX11_takes_77 : decode cX11_takes 77 = .ok (.aload_n 0, 1) := by decide +kernel
theorem dX11_takes_78 : decode cX11_takes 78 = .ok (.bipush 48, 2) := by decide +kernel
theorem dX11_takes_80 : decode cX11_takes 80 = .ok (.aload_n 0, 1) := by decide +kernel
theorem dX11_takes_81 : decode cX11_takes 81 = .ok (.getfield 191, 3) := by decide +kernel
theorem dX11_takes_84 : decode cX11_takes 84 = .ok (.iload_n 2, 1) := by decide +kernel
theorem dX11_takes_85 : decode cX11_takes 85 = .ok (.idiv, 1) := by decide +kernel
theorem dX11_takes_86 : decode cX11_takes 86 = .ok (.bipush 10, 2) := by decide +kernel
theorem dX11_takes_88 : decode cX11_takes 88 = .ok (.irem, 1) := by decide +kernel
theorem dX11_takes_89 : decode cX11_takes 89 = .ok (.iadd, 1) := by decide +kernel
theorem dX11_takes_90 : decode cX11_takes 90 = .ok (.invokevirtual 208, 3) := by decide +kernel
theorem dX11_takes_93 : decode cX11_takes 93 = .ok (.iload_n 2, 1) := by decide +kernel
theorem dX11_takes_94 : decode cX11_takes 94 = .ok (.bipush 10, 2) := by decide +kernel
theorem dX11_takes_96 : decode cX11_takes 96 = .ok (.idiv, 1) := by decide +kernel
theorem dX11_takes_97 : decode cX11_takes 97 = .ok (.istore_n 2, 1) := by decide +kernel
theorem dX11_takes_98 : decode cX11_takes 98 = .ok (.goto (-38), 3) := by decide +kernel
theorem dX11_takes_101 : decode cX11_takes 101 = .ok (.goto 34, 3) := by decide +kernel
theorem dX11_takes_104 : decode cX11_takes 104 = .ok (.iconst 0, 1) := by decide +kernel
theorem dX11_takes_105 : decode cX11_takes 105 = .ok (.istore_n 2, 1) := by decide +kernel
theorem dX11_takes_106 : decode cX11_takes 106 = .ok (.iload_n 2, 1) := by decide +kernel
theorem dX11_takes_107 : decode cX11_takes 107 = .ok (.aload_n 0, 1) := by decide +kernel
theorem dX11_takes_108 : decode cX11_takes 108 = .ok (.getfield 188, 3) := by decide +kernel
theorem dX11_takes_111 : decode cX11_takes 111 = .ok (.if_icmp .ge 24, 3) := by decide +kernel
theorem dX11_takes_114 : decode cX11_takes 114 = .ok (.aload_n 0, 1) := by decide +kernel
theorem dX11_takes_115 : decode cX11_takes 115 = .ok (.aload_n 0, 1) := by decide +kernel
theorem dX11_takes_116 : decode cX11_takes 116 = .ok (.getfield 36, 3) := by decide +kernel
theorem dX11_takes_119 : decode cX11_takes 119 = .ok (.aload_n 0, 1) := by decide +kernel
theorem dX11_takes_120 : decode cX11_takes 120 = .ok (.getfield 185, 3) := by decide +kernel
theorem dX11_takes_123 : decode cX11_takes 123 = .ok (.iload_n 2, 1) := by decide +kernel
theorem dX11_takes_124 : decode cX11_takes 124 = .ok (.iadd, 1) := by decide +kernel
theorem dX11_takes_125 : decode cX11_takes 125 = .ok (.baload, 1) := by decide +kernel
theorem dX11_takes_126 : decode cX11_takes 126 = .ok (.invokevirtual 208, 3) := by decide +kernel
theorem dX11_takes_129 : decode cX11_takes 129 = .ok (.iinc 2 1, 3) := by decide +kernel
theorem dX11_takes_132 : decode cX11_takes 132 = .ok (.goto (-26), 3) := by decide +kernel
theorem dX11_takes_135 : decode cX11_takes 135 = .ok (.aload_n 0, 1) := by decide +kernel
theorem dX11_takes_136 : decode cX11_takes 136 = .ok (.aload_n 0, 1) := by decide +kernel
theorem dX11_takes_137 : decode cX11_takes 137 = .ok (.getfield 194, 3) := by decide +kernel
theorem dX11_takes_140 : decode cX11_takes 140 = .ok (.iconst 3, 1) := by decide +kernel
theorem dX11_takes_141 : decode cX11_takes 141 = .ok (.if_icmp .ne 10, 3) := by decide +kernel
theorem dX11_takes_144 : decode cX11_takes 144 = .ok (.aload_n 0, 1) := by decide +kernel
theorem dX11_takes_145 : decode cX11_takes 145 = .ok (.getfield 191, 3) := by decide +kernel
theorem dX11_takes_148 : decode cX11_takes 148 = .ok (.goto 4, 3) := by decide +kernel
theorem dX11_takes_151 : decode cX11_takes 151 = .ok (.iconst 1, 1) := by decide +kernel
theorem dX11_takes_152 : decode cX11_takes 152 = .ok (.putfield 178, 3) := by decide +kernel
theorem dX11_takes_155 : decode cX11_takes 155 = .ok (.aload_n 0, 1) := by decide +kernel
theorem dX11_takes_156 : decode cX11_takes 156 = .ok (.invokevirtual 181, 3) := by decide +kernel
theorem dX11_takes_159 : decode cX11_takes 159 = .ok (.ireturn, 1) := by decide +kernel
def fX11_takes_b93 (rec60 : Nat → Int32 → JM → JO (Int32)) (a : Nat) (x2 : Int32) (μ : JM) : JO (Int32) := rec60 a (x2 / (10 : Int32)) μ
set_option maxHeartbeats 4000000 in
set_option maxRecDepth 100000 in
theorem gX11_takes_b93 {b : Nat} {Θ : JE} {RC RS : Nat} {r : Int32} {ν : JM} (X : jX b Θ RX11 cX11_takes 3 (some .boolean) 2 43 RC RS) {rec60 : Nat → Int32 → JM → JO (Int32)} (hrec60 : ∀ (a : Nat) (x2 : Int32) (μ : JM) (c m k n : Nat), rec60 a x2 μ = some (r, ν, c, m) → k + c = RC → n + m = RS → WA b Θ 3 (jE b Θ (some (.int r)) ν RC RS) μ k n 60 [(0, va_rf (some a)), (2, .int x2)] []) (a : Nat) (x2 : Int32) (μ : JM) (c m k n : Nat) (hf : fX11_takes_b93 rec60 a x2 μ = some (r, ν, c, m)) (hk : k + c = RC) (hn : n + m = RS) : WA b Θ 3 (jE b Θ (some (.int r)) ν RC RS) μ k n 93 [(0, va_rf (some a)), (2, .int x2)] [] := by
  rw [fX11_takes_b93] at hf
  refine wa_iload_n X 1 dX11_takes_93 rfl ?_
  refine wa_bipush (v := (10 : Int32)) X dX11_takes_94 (by decide) ?_
  refine wa_idiv X dX11_takes_96 (by decide) ?_
  refine wa_istore_n (L2 := [(2, .int (x2 / (10 : Int32))), (0, va_rf (some a))]) X dX11_takes_97 (by decide) (by first | rfl | (show (2, _) :: List.filter (fun q : Nat × Value => !(q.1 == 2) && !(q.1 + 1 == 2 && q.2.category == 2)) _ = _; simp [va_rf_cat, cat_i, cat_l])) ?_
  refine wa_goto (tgt := 60) X dX11_takes_98 (by decide) ?_
  refine wa_sub (L2 := [(0, va_rf (some a)), (2, .int (x2 / (10 : Int32)))]) [1, 0] rfl ?_
  exact hrec60 a (x2 / (10 : Int32)) μ _ _ _ _ hf (by omega) (by omega)
def fX11_takes_b77 (rec60 : Nat → Int32 → JM → JO (Int32)) (a : Nat) (x2 : Int32) (μ : JM) : JO (Int32) := jck ((jT μ a).1 == 12) <| jck (decide (¬ x2 = 0)) <| jcl (fX11_puts a ((48 : Int32) + (jrem ((jI μ a 17) / x2) (10 : Int32))) μ) fun u25 μ26 => fX11_takes_b93 rec60 a x2 μ26
set_option maxHeartbeats 4000000 in
set_option maxRecDepth 100000 in
theorem gX11_takes_b77 {b : Nat} {Θ : JE} {RC RS : Nat} {r : Int32} {ν : JM} (X : jX b Θ RX11 cX11_takes 3 (some .boolean) 2 43 RC RS) {rec60 : Nat → Int32 → JM → JO (Int32)} (hrec60 : ∀ (a : Nat) (x2 : Int32) (μ : JM) (c m k n : Nat), rec60 a x2 μ = some (r, ν, c, m) → k + c = RC → n + m = RS → WA b Θ 3 (jE b Θ (some (.int r)) ν RC RS) μ k n 60 [(0, va_rf (some a)), (2, .int x2)] []) (a : Nat) (x2 : Int32) (μ : JM) (c m k n : Nat) (hf : fX11_takes_b77 rec60 a x2 μ = some (r, ν, c, m)) (hk : k + c = RC) (hn : n + m = RS) : WA b Θ 3 (jE b Θ (some (.int r)) ν RC RS) μ k n 77 [(0, va_rf (some a)), (2, .int x2)] [] := by
  rw [fX11_takes_b77] at hf
  refine wa_aload_n X 0 dX11_takes_77 rfl ?_
  refine wa_bipush (v := (48 : Int32)) X dX11_takes_78 (by decide) ?_
  refine wa_aload_n X 0 dX11_takes_80 rfl ?_
  obtain ⟨h23, hf⟩ := jckT hf
  refine wa_getI X dX11_takes_81 lfX11_191 rfl h23 rfl ?_
  refine wa_iload_n X 1 dX11_takes_84 rfl ?_
  obtain ⟨h24, hf⟩ := jckD hf
  refine wa_idiv X dX11_takes_85 h24 ?_
  refine wa_bipush (v := (10 : Int32)) X dX11_takes_86 (by decide) ?_
  refine wa_irem X dX11_takes_88 (by decide) ?_
  refine wa_iadd X dX11_takes_89 ?_
  obtain ⟨u25, μ26, c27, m28, c29, m30, e31, hf, h32, h33⟩ := jcl_some hf
  refine wa_rcallV (st2 := []) X dX11_takes_90 lmX11_208 lMX11_puts rfl h23 (mX11_puts e31) rfl rfl rfl (va_cats (Nat.le_of_ble_eq_true rfl)) (by decide) (by omega) (by omega) ?_
  refine wa_sub (L2 := [(0, va_rf (some a)), (2, .int x2)]) [0, 1] rfl ?_
  exact gX11_takes_b93 X hrec60 a x2 μ26 _ _ _ _ hf (by omega) (by omega)
def fX11_takes_b152 (a : Nat) (s0 : Int32) (s1 : Option Nat) (μ : JM) : JO (Int32) := jde s1 fun q36 => jck ((jT μ q36).1 == 12) <| jlt (jsI μ q36 21 s0) fun μ39 => jck ((jT μ a).1 == 12) <| jcl (fX11_looks a μ39) fun r43 μ44 => jck (jbl r43) <| some (r43, μ44, 0, 0)
set_option maxHeartbeats 4000000 in
set_option maxRecDepth 100000 in
theorem gX11_takes_b152 {b : Nat} {Θ : JE} {RC RS : Nat} {r : Int32} {ν : JM} (X : jX b Θ RX11 cX11_takes 3 (some .boolean) 2 43 RC RS) (a : Nat) (s0 : Int32) (s1 : Option Nat) (μ : JM) (c m k n : Nat) (hf : fX11_takes_b152 a s0 s1 μ = some (r, ν, c, m)) (hk : k + c = RC) (hn : n + m = RS) : WA b Θ 3 (jE b Θ (some (.int r)) ν RC RS) μ k n 152 [(0, va_rf (some a))] [.int s0, va_rf s1] := by
  rw [fX11_takes_b152] at hf
  obtain ⟨q36, h37, hf⟩ := jde_some hf
  obtain ⟨h38, hf⟩ := jckT hf
  obtain ⟨μ39, hm40, hf⟩ := jlt_e hf
  have e41 : jT μ39 = jT μ := by rw [hm40]; rfl
  refine wa_rputI (ν := μ39) X dX11_takes_152 lfX11_178 h37 h38 rfl rfl hm40 ?_
  refine wa_aload_n X 0 dX11_takes_155 rfl ?_
  obtain ⟨h42, hf⟩ := jckT hf
  obtain ⟨r43, μ44, c45, m46, c47, m48, e49, hf, h50, h51⟩ := jcl_some hf
  refine wa_rcallV (st2 := [.int r43]) X dX11_takes_156 lmX11_181 lMX11_looks rfl (by rw [e41]; exact h42) (mX11_looks e49) rfl rfl rfl (va_cats (Nat.le_of_ble_eq_true rfl)) (by decide) (by omega) (by omega) ?_
  obtain ⟨h52, hf⟩ := jck_some hf
  obtain ⟨rfl, rfl, rfl, rfl⟩ := jret hf
  exact wa_iret X dX11_takes_159 (jbl_nar h52) (by omega) (by omega)
def fX11_takes_b135 (a : Nat) (μ : JM) : JO (Int32) := jck ((jT μ a).1 == 12) <| if (jI μ a 14) = (3 : Int32) then (fX11_takes_b152  a (jI μ a 17) (some a) μ) else (fX11_takes_b152  a (1 : Int32) (some a) μ)
set_option maxHeartbeats 4000000 in
set_option maxRecDepth 100000 in
theorem gX11_takes_b135 {b : Nat} {Θ : JE} {RC RS : Nat} {r : Int32} {ν : JM} (X : jX b Θ RX11 cX11_takes 3 (some .boolean) 2 43 RC RS) (a : Nat) (μ : JM) (c m k n : Nat) (hf : fX11_takes_b135 a μ = some (r, ν, c, m)) (hk : k + c = RC) (hn : n + m = RS) : WA b Θ 3 (jE b Θ (some (.int r)) ν RC RS) μ k n 135 [(0, va_rf (some a))] [] := by
  rw [fX11_takes_b135] at hf
  refine wa_aload_n X 0 dX11_takes_135 rfl ?_
  refine wa_aload_n X 0 dX11_takes_136 rfl ?_
  obtain ⟨h34, hf⟩ := jckT hf
  refine wa_getI X dX11_takes_137 lfX11_194 rfl h34 rfl ?_
  refine wa_iconst (v := (3 : Int32)) X dX11_takes_140 (by decide) ?_
  refine wa_icne (tgt := 151) X dX11_takes_141 (by decide) (fun h35 => ?_) (fun h35 => ?_)
  · rw [if_neg h35] at hf
    refine wa_iconst (v := (1 : Int32)) X dX11_takes_151 (by decide) ?_
    refine wa_sub (L2 := [(0, va_rf (some a))]) [0] rfl ?_
    exact gX11_takes_b152 X a (1 : Int32) (some a) μ _ _ _ _ hf (by omega) (by omega)
  · rw [if_pos h35] at hf
    refine wa_aload_n X 0 dX11_takes_144 rfl ?_
    refine wa_getI X dX11_takes_145 lfX11_191 rfl h34 rfl ?_
    refine wa_goto (tgt := 152) X dX11_takes_148 (by decide) ?_
    refine wa_sub (L2 := [(0, va_rf (some a))]) [0] rfl ?_
    exact gX11_takes_b152 X a (jI μ a 17) (some a) μ _ _ _ _ hf (by omega) (by omega)
def fX11_takes_b60 : Nat → Nat → Int32 → JM → JO (Int32)
  | 0, _, _, _ => none
  | fu + 1, a, x2, μ => if x2 ≤ 0 then (fX11_takes_b135  a μ) else (jck ((jT μ a).1 == 12) <| if x2 ≤ (jI μ a 17) then (fX11_takes_b77 (fX11_takes_b60 fu) a x2 μ) else (if x2 = (1 : Int32) then (fX11_takes_b77 (fX11_takes_b60 fu) a x2 μ) else (fX11_takes_b93 (fX11_takes_b60 fu) a x2 μ)))
set_option maxHeartbeats 4000000 in
set_option maxRecDepth 100000 in
theorem gX11_takes_b60 {b : Nat} {Θ : JE} {RC RS : Nat} {r : Int32} {ν : JM} (X : jX b Θ RX11 cX11_takes 3 (some .boolean) 2 43 RC RS) : ∀ (fu : Nat) (a : Nat) (x2 : Int32) (μ : JM) (c m k n : Nat), fX11_takes_b60 fu a x2 μ = some (r, ν, c, m) → k + c = RC → n + m = RS → WA b Θ 3 (jE b Θ (some (.int r)) ν RC RS) μ k n 60 [(0, va_rf (some a)), (2, .int x2)] [] := by
  intro fu
  induction fu with
  | zero => intro a x2 μ c m k n hf; cases hf
  | succ fu ih =>
    intro a x2 μ c m k n hf hk hn
    rw [fX11_takes_b60] at hf
    refine wa_iload_n X 1 dX11_takes_60 rfl ?_
    refine wa_ifle (tgt := 101) X dX11_takes_61 (by decide) (fun h19 => ?_) (fun h19 => ?_)
    · rw [if_pos h19] at hf
      refine wa_goto (tgt := 135) X dX11_takes_101 (by decide) ?_
      refine wa_sub (L2 := [(0, va_rf (some a))]) [0] rfl ?_
      exact gX11_takes_b135 X a μ _ _ _ _ hf (by omega) (by omega)
    · rw [if_neg h19] at hf
      refine wa_aload_n X 0 dX11_takes_64 rfl ?_
      obtain ⟨h20, hf⟩ := jckT hf
      refine wa_getI X dX11_takes_65 lfX11_191 rfl h20 rfl ?_
      refine wa_iload_n X 1 dX11_takes_68 rfl ?_
      refine wa_icge (tgt := 77) X dX11_takes_69 (by decide) (fun h21 => ?_) (fun h21 => ?_)
      · rw [if_pos h21] at hf
        refine wa_sub (L2 := [(0, va_rf (some a)), (2, .int x2)]) [0, 1] rfl ?_
        exact gX11_takes_b77 X ih a x2 μ _ _ _ _ hf (by omega) (by omega)
      · rw [if_neg h21] at hf
        refine wa_iload_n X 1 dX11_takes_72 rfl ?_
        refine wa_iconst (v := (1 : Int32)) X dX11_takes_73 (by decide) ?_
        refine wa_icne (tgt := 93) X dX11_takes_74 (by decide) (fun h22 => ?_) (fun h22 => ?_)
        · rw [if_neg h22] at hf
          refine wa_sub (L2 := [(0, va_rf (some a)), (2, .int x2)]) [0, 1] rfl ?_
          exact gX11_takes_b93 X ih a x2 μ _ _ _ _ hf (by omega) (by omega)
        · rw [if_pos h22] at hf
          refine wa_sub (L2 := [(0, va_rf (some a)), (2, .int x2)]) [0, 1] rfl ?_
          exact gX11_takes_b77 X ih a x2 μ _ _ _ _ hf (by omega) (by omega)
def fX11_takes_b106 : Nat → Nat → Int32 → JM → JO (Int32)
  | 0, _, _, _ => none
  | fu + 1, a, x2, μ => jck ((jT μ a).1 == 12) <| if (jI μ a 16) ≤ x2 then (fX11_takes_b135  a μ) else (jde (jP μ a 11) fun q55 => jck ((jT μ q55).1 == 100) <| jck (jin ((jI μ a 15) + x2) (jT μ q55).2) <| jcl (fX11_puts a (jI μ q55 (((jI μ a 15) + x2)).toNatClampNeg) μ) fun u59 μ60 => fX11_takes_b106 fu a (x2 + (1 : Int32)) μ60)
set_option maxHeartbeats 4000000 in
set_option maxRecDepth 100000 in
theorem gX11_takes_b106 {b : Nat} {Θ : JE} {RC RS : Nat} {r : Int32} {ν : JM} (X : jX b Θ RX11 cX11_takes 3 (some .boolean) 2 43 RC RS) : ∀ (fu : Nat) (a : Nat) (x2 : Int32) (μ : JM) (c m k n : Nat), fX11_takes_b106 fu a x2 μ = some (r, ν, c, m) → k + c = RC → n + m = RS → WA b Θ 3 (jE b Θ (some (.int r)) ν RC RS) μ k n 106 [(0, va_rf (some a)), (2, .int x2)] [] := by
  intro fu
  induction fu with
  | zero => intro a x2 μ c m k n hf; cases hf
  | succ fu ih =>
    intro a x2 μ c m k n hf hk hn
    rw [fX11_takes_b106] at hf
    refine wa_iload_n X 1 dX11_takes_106 rfl ?_
    refine wa_aload_n X 0 dX11_takes_107 rfl ?_
    obtain ⟨h53, hf⟩ := jckT hf
    refine wa_getI X dX11_takes_108 lfX11_188 rfl h53 rfl ?_
    refine wa_icge (tgt := 135) X dX11_takes_111 (by decide) (fun h54 => ?_) (fun h54 => ?_)
    · rw [if_pos h54] at hf
      refine wa_sub (L2 := [(0, va_rf (some a))]) [0] rfl ?_
      exact gX11_takes_b135 X a μ _ _ _ _ hf (by omega) (by omega)
    · rw [if_neg h54] at hf
      refine wa_aload_n X 0 dX11_takes_114 rfl ?_
      refine wa_aload_n X 0 dX11_takes_115 rfl ?_
      refine wa_getP X dX11_takes_116 lfX11_36 rfl h53 rfl ?_
      refine wa_aload_n X 0 dX11_takes_119 rfl ?_
      refine wa_getI X dX11_takes_120 lfX11_185 rfl h53 rfl ?_
      refine wa_iload_n X 1 dX11_takes_123 rfl ?_
      refine wa_iadd X dX11_takes_124 ?_
      obtain ⟨q55, h56, hf⟩ := jde_some hf
      obtain ⟨h57, hf⟩ := jckT hf
      obtain ⟨h58, hf⟩ := jck_some hf
      refine wa_rbald X dX11_takes_125 h56 h57 h58 ?_
      obtain ⟨u59, μ60, c61, m62, c63, m64, e65, hf, h66, h67⟩ := jcl_some hf
      refine wa_rcallV (st2 := []) X dX11_takes_126 lmX11_208 lMX11_puts rfl h53 (mX11_puts e65) rfl rfl rfl (va_cats (Nat.le_of_ble_eq_true rfl)) (by decide) (by omega) (by omega) ?_
      refine wa_iinc (v := (x2 + (1 : Int32))) (L2 := [(2, .int (x2 + (1 : Int32))), (0, va_rf (some a))]) X 1 dX11_takes_129 rfl rfl (by decide) (by first | rfl | simp [va_rf_cat, cat_i, cat_l]) ?_
      refine wa_goto (tgt := 106) X dX11_takes_132 (by decide) ?_
      refine wa_sub (L2 := [(0, va_rf (some a)), (2, .int (x2 + (1 : Int32)))]) [1, 0] rfl ?_
      exact ih a (x2 + (1 : Int32)) μ60 _ _ _ _ hf (by omega) (by omega)
def fX11_takes_b49 (a : Nat) (μ : JM) : JO (Int32) := jck ((jT μ a).1 == 12) <| if (jI μ a 14) = (2 : Int32) then (fX11_takes_b60  jfuel a (100 : Int32) μ) else (fX11_takes_b106  jfuel a (0 : Int32) μ)
set_option maxHeartbeats 4000000 in
set_option maxRecDepth 100000 in
theorem gX11_takes_b49 {b : Nat} {Θ : JE} {RC RS : Nat} {r : Int32} {ν : JM} (X : jX b Θ RX11 cX11_takes 3 (some .boolean) 2 43 RC RS) (a : Nat) (μ : JM) (c m k n : Nat) (hf : fX11_takes_b49 a μ = some (r, ν, c, m)) (hk : k + c = RC) (hn : n + m = RS) : WA b Θ 3 (jE b Θ (some (.int r)) ν RC RS) μ k n 49 [(0, va_rf (some a))] [] := by
  rw [fX11_takes_b49] at hf
  refine wa_aload_n X 0 dX11_takes_49 rfl ?_
  obtain ⟨h17, hf⟩ := jckT hf
  refine wa_getI X dX11_takes_50 lfX11_194 rfl h17 rfl ?_
  refine wa_iconst (v := (2 : Int32)) X dX11_takes_53 (by decide) ?_
  refine wa_icne (tgt := 104) X dX11_takes_54 (by decide) (fun h18 => ?_) (fun h18 => ?_)
  · rw [if_neg h18] at hf
    refine wa_iconst (v := (0 : Int32)) X dX11_takes_104 (by decide) ?_
    refine wa_istore_n (L2 := [(2, .int (0 : Int32)), (0, va_rf (some a))]) X dX11_takes_105 (by decide) (by first | rfl | (show (2, _) :: List.filter (fun q : Nat × Value => !(q.1 == 2) && !(q.1 + 1 == 2 && q.2.category == 2)) _ = _; simp [va_rf_cat, cat_i, cat_l])) ?_
    refine wa_sub (L2 := [(0, va_rf (some a)), (2, .int (0 : Int32))]) [1, 0] rfl ?_
    exact gX11_takes_b106 X jfuel a (0 : Int32) μ _ _ _ _ hf (by omega) (by omega)
  · rw [if_pos h18] at hf
    refine wa_bipush (v := (100 : Int32)) X dX11_takes_57 (by decide) ?_
    refine wa_istore_n (L2 := [(2, .int (100 : Int32)), (0, va_rf (some a))]) X dX11_takes_59 (by decide) (by first | rfl | (show (2, _) :: List.filter (fun q : Nat × Value => !(q.1 == 2) && !(q.1 + 1 == 2 && q.2.category == 2)) _ = _; simp [va_rf_cat, cat_i, cat_l])) ?_
    refine wa_sub (L2 := [(0, va_rf (some a)), (2, .int (100 : Int32))]) [1, 0] rfl ?_
    exact gX11_takes_b60 X jfuel a (100 : Int32) μ _ _ _ _ hf (by omega) (by omega)
def fX11_takes_b38 (a : Nat) (s0 : Int32) (μ : JM) : JO (Int32) := if s0 = 0 then (jck ((jT μ a).1 == 12) <| jcl (fX11_puts a (32 : Int32) μ) fun u8 μ9 => fX11_takes_b49  a μ9) else (fX11_takes_b49  a μ)
set_option maxHeartbeats 4000000 in
set_option maxRecDepth 100000 in
theorem gX11_takes_b38 {b : Nat} {Θ : JE} {RC RS : Nat} {r : Int32} {ν : JM} (X : jX b Θ RX11 cX11_takes 3 (some .boolean) 2 43 RC RS) (a : Nat) (s0 : Int32) (μ : JM) (c m k n : Nat) (hf : fX11_takes_b38 a s0 μ = some (r, ν, c, m)) (hk : k + c = RC) (hn : n + m = RS) : WA b Θ 3 (jE b Θ (some (.int r)) ν RC RS) μ k n 38 [(0, va_rf (some a))] [.int s0] := by
  rw [fX11_takes_b38] at hf
  refine wa_istore_n (L2 := [(1, .int s0), (0, va_rf (some a))]) X dX11_takes_38 (by decide) (by first | rfl | (show (1, _) :: List.filter (fun q : Nat × Value => !(q.1 == 1) && !(q.1 + 1 == 1 && q.2.category == 2)) _ = _; simp [va_rf_cat, cat_i, cat_l])) ?_
  refine wa_iload_n X 0 dX11_takes_39 rfl ?_
  refine wa_ifne (tgt := 49) X dX11_takes_40 (by decide) (fun h6 => ?_) (fun h6 => ?_)
  · rw [if_neg h6] at hf
    refine wa_sub (L2 := [(0, va_rf (some a))]) [1] rfl ?_
    exact gX11_takes_b49 X a μ _ _ _ _ hf (by omega) (by omega)
  · rw [if_pos h6] at hf
    refine wa_aload_n X 1 dX11_takes_43 rfl ?_
    refine wa_bipush (v := (32 : Int32)) X dX11_takes_44 (by decide) ?_
    obtain ⟨h7, hf⟩ := jckT hf
    obtain ⟨u8, μ9, c10, m11, c12, m13, e14, hf, h15, h16⟩ := jcl_some hf
    refine wa_rcallV (st2 := []) X dX11_takes_46 lmX11_208 lMX11_puts rfl h7 (mX11_puts e14) rfl rfl rfl (va_cats (Nat.le_of_ble_eq_true rfl)) (by decide) (by omega) (by omega) ?_
    refine wa_sub (L2 := [(0, va_rf (some a))]) [1] rfl ?_
    exact gX11_takes_b49 X a μ9 _ _ _ _ hf (by omega) (by omega)
def fX11_takes_b33 (a : Nat) (μ : JM) : JO (Int32) := fX11_takes_b38  a (1 : Int32) μ
set_option maxHeartbeats 4000000 in
set_option maxRecDepth 100000 in
theorem gX11_takes_b33 {b : Nat} {Θ : JE} {RC RS : Nat} {r : Int32} {ν : JM} (X : jX b Θ RX11 cX11_takes 3 (some .boolean) 2 43 RC RS) (a : Nat) (μ : JM) (c m k n : Nat) (hf : fX11_takes_b33 a μ = some (r, ν, c, m)) (hk : k + c = RC) (hn : n + m = RS) : WA b Θ 3 (jE b Θ (some (.int r)) ν RC RS) μ k n 33 [(0, va_rf (some a))] [] := by
  rw [fX11_takes_b33] at hf
  refine wa_iconst (v := (1 : Int32)) X dX11_takes_33 (by decide) ?_
  refine wa_goto (tgt := 38) X dX11_takes_34 (by decide) ?_
  refine wa_sub (L2 := [(0, va_rf (some a))]) [0] rfl ?_
  exact gX11_takes_b38 X a (1 : Int32) μ _ _ _ _ hf (by omega) (by omega)
def fX11_takes_b37 (a : Nat) (μ : JM) : JO (Int32) := fX11_takes_b38  a (0 : Int32) μ
set_option maxHeartbeats 4000000 in
set_option maxRecDepth 100000 in
theorem gX11_takes_b37 {b : Nat} {Θ : JE} {RC RS : Nat} {r : Int32} {ν : JM} (X : jX b Θ RX11 cX11_takes 3 (some .boolean) 2 43 RC RS) (a : Nat) (μ : JM) (c m k n : Nat) (hf : fX11_takes_b37 a μ = some (r, ν, c, m)) (hk : k + c = RC) (hn : n + m = RS) : WA b Θ 3 (jE b Θ (some (.int r)) ν RC RS) μ k n 37 [(0, va_rf (some a))] [] := by
  rw [fX11_takes_b37] at hf
  refine wa_iconst (v := (0 : Int32)) X dX11_takes_37 (by decide) ?_
  refine wa_sub (L2 := [(0, va_rf (some a))]) [0] rfl ?_
  exact gX11_takes_b38 X a (0 : Int32) μ _ _ _ _ hf (by omega) (by omega)
def fX11_takes (a : Nat) (μ : JM) : JO (Int32) := jck ((jT μ a).1 == 12) <| if (jI μ a 21) = 0 then (fX11_takes_b33  a μ) else (if (jI μ a 21) = (40 : Int32) then (fX11_takes_b33  a μ) else (if (jI μ a 14) = (3 : Int32) then (if (jI μ a 17) = (40 : Int32) then (fX11_takes_b37  a μ) else (fX11_takes_b33  a μ)) else (fX11_takes_b37  a μ)))
set_option maxHeartbeats 4000000 in
set_option maxRecDepth 100000 in
theorem mX11_takes {b : Nat} {a : Nat} {μ : JM} {r : Int32} {ν : JM} {c m : Nat} (hf : fX11_takes a μ = some (r, ν, c, m)) : JMet b yX11_takes cX11_takes 3 (some .boolean) 2 43 [va_rf (some a)] μ (some (.int r)) ν c m := by
  refine JMet.of (by decide) (lg_sl_le (by simp only [List.map_cons, List.map_nil, List.sum_cons, List.sum_nil, va_rf_cat]; exact Nat.le_of_ble_eq_true rfl)) (fun Θ X hin => ?_)
  refine wa_eq (L2 := [(0, va_rf (some a))]) ?_ rfl (by first | rfl | simp [lv_args, va_rf_cat, cat_i, cat_l]) rfl
  obtain ⟨k, hk0⟩ : ∃ k : Nat, k = 0 := ⟨0, rfl⟩
  obtain ⟨n, hn0⟩ : ∃ n : Nat, n = 0 := ⟨0, rfl⟩
  have hk : k + c = c := by omega
  have hn : n + m = m := by omega
  refine wa_costs hk0.symm hn0.symm ?_
  rw [fX11_takes] at hf
  refine wa_aload_n X 0 dX11_takes_0 rfl ?_
  obtain ⟨h1, hf⟩ := jckT hf
  refine wa_getI X dX11_takes_1 lfX11_178 rfl h1 rfl ?_
  refine wa_ifeq (tgt := 33) X dX11_takes_4 (by decide) (fun h2 => ?_) (fun h2 => ?_)
  · rw [if_pos h2] at hf
    refine wa_sub (L2 := [(0, va_rf (some a))]) [0] rfl ?_
    exact gX11_takes_b33 X a μ _ _ _ _ hf (by omega) (by omega)
  · rw [if_neg h2] at hf
    refine wa_aload_n X 0 dX11_takes_7 rfl ?_
    refine wa_getI X dX11_takes_8 lfX11_178 rfl h1 rfl ?_
    refine wa_bipush (v := (40 : Int32)) X dX11_takes_11 (by decide) ?_
    refine wa_iceq (tgt := 33) X dX11_takes_13 (by decide) (fun h3 => ?_) (fun h3 => ?_)
    · rw [if_pos h3] at hf
      refine wa_sub (L2 := [(0, va_rf (some a))]) [0] rfl ?_
      exact gX11_takes_b33 X a μ _ _ _ _ hf (by omega) (by omega)
    · rw [if_neg h3] at hf
      refine wa_aload_n X 0 dX11_takes_16 rfl ?_
      refine wa_getI X dX11_takes_17 lfX11_194 rfl h1 rfl ?_
      refine wa_iconst (v := (3 : Int32)) X dX11_takes_20 (by decide) ?_
      refine wa_icne (tgt := 37) X dX11_takes_21 (by decide) (fun h4 => ?_) (fun h4 => ?_)
      · rw [if_neg h4] at hf
        refine wa_sub (L2 := [(0, va_rf (some a))]) [0] rfl ?_
        exact gX11_takes_b37 X a μ _ _ _ _ hf (by omega) (by omega)
      · rw [if_pos h4] at hf
        refine wa_aload_n X 0 dX11_takes_24 rfl ?_
        refine wa_getI X dX11_takes_25 lfX11_191 rfl h1 rfl ?_
        refine wa_bipush (v := (40 : Int32)) X dX11_takes_28 (by decide) ?_
        refine wa_iceq (tgt := 37) X dX11_takes_30 (by decide) (fun h5 => ?_) (fun h5 => ?_)
        · rw [if_pos h5] at hf
          refine wa_sub (L2 := [(0, va_rf (some a))]) [0] rfl ?_
          exact gX11_takes_b37 X a μ _ _ _ _ hf (by omega) (by omega)
        · rw [if_neg h5] at hf
          refine wa_sub (L2 := [(0, va_rf (some a))]) [0] rfl ?_
          exact gX11_takes_b33 X a μ _ _ _ _ hf (by omega) (by omega)
