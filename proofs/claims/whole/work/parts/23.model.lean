/-! functions and walks, by program -/
theorem dX11_reads_0 : decode cX11_reads 0 = .ok (.aload_n 0, 1) := by decide +kernel
theorem dX11_reads_1 : decode cX11_reads 1 = .ok (.iconst 1, 1) := by decide +kernel
theorem dX11_reads_2 : decode cX11_reads 2 = .ok (.putfield 280, 3) := by decide +kernel
theorem dX11_reads_5 : decode cX11_reads 5 = .ok (.aload_n 0, 1) := by decide +kernel
theorem dX11_reads_6 : decode cX11_reads 6 = .ok (.iconst 0, 1) := by decide +kernel
theorem dX11_reads_7 : decode cX11_reads 7 = .ok (.putfield 284, 3) := by decide +kernel
theorem dX11_reads_10 : decode cX11_reads 10 = .ok (.aload_n 0, 1) := by decide +kernel
theorem dX11_reads_11 : decode cX11_reads 11 = .ok (.getfield 299, 3) := by decide +kernel
theorem dX11_reads_14 : decode cX11_reads 14 = .ok (.istore_n 1, 1) := by decide +kernel
theorem dX11_reads_15 : decode cX11_reads 15 = .ok (.aload_n 0, 1) := by decide +kernel
theorem dX11_reads_16 : decode cX11_reads 16 = .ok (.getfield 302, 3) := by decide +kernel
theorem dX11_reads_19 : decode cX11_reads 19 = .ok (.istore_n 2, 1) := by decide +kernel
theorem dX11_reads_20 : decode cX11_reads 20 = .ok (.iconst 0, 1) := by decide +kernel
theorem dX11_reads_21 : decode cX11_reads 21 = .ok (.istore_n 3, 1) := by decide +kernel
theorem dX11_reads_22 : decode cX11_reads 22 = .ok (.aload_n 0, 1) := by decide +kernel
theorem dX11_reads_23 : decode cX11_reads 23 = .ok (.getfield 163, 3) := by decide +kernel
theorem dX11_reads_26 : decode cX11_reads 26 = .ok (.ifCond .ne 7, 3) := by decide +kernel
theorem dX11_reads_29 : decode cX11_reads 29 = .ok (.iconst 1, 1) := by decide +kernel
theorem dX11_reads_30 : decode cX11_reads 30 = .ok (.goto 4, 3) := by decide +kernel
theorem dX11_reads_33 : decode cX11_reads 33 = .ok (.iconst 0, 1) := by decide +kernel
theorem dX11_reads_34 : decode cX11_reads 34 = .ok (.istore 4, 2) := by decide +kernel
theorem dX11_reads_36 : decode cX11_reads 36 = .ok (.iload 4, 2) := by decide +kernel
theorem dX11_reads_38 : decode cX11_reads 38 = .ok (.ifCond .eq 52, 3) := by decide +kernel
theorem dX11_reads_41 : decode cX11_reads 41 = .ok (.iload_n 3, 1) := by decide +kernel
theorem dX11_reads_42 : decode cX11_reads 42 = .ok (.bipush 24, 2) := by decide +kernel
theorem dX11_reads_44 : decode cX11_reads 44 = .ok (.if_icmp .ge 11, 3) := by decide +kernel
theorem dX11_reads_47 : decode cX11_reads 47 = .ok (.aload_n 0, 1) := by decide +kernel
theorem dX11_reads_48 : decode cX11_reads 48 = .ok (.iload_n 3, 1) := by decide +kernel
theorem dX11_reads_49 : decode cX11_reads 49 = .ok (.invokevirtual 341, 3) := by decide +kernel
theorem dX11_reads_52 : decode cX11_reads 52 = .ok (.goto 7, 3) := by decide +kernel
theorem dX11_reads_55 : decode cX11_reads 55 = .ok (.aload_n 0, 1) := by decide +kernel
theorem dX11_reads_56 : decode cX11_reads 56 = .ok (.invokevirtual 344, 3) := by decide +kernel
theorem dX11_reads_59 : decode cX11_reads 59 = .ok (.istore 4, 2) := by decide +kernel
theorem dX11_reads_61 : decode cX11_reads 61 = .ok (.iinc 3 1, 3) := by decide +kernel
theorem dX11_reads_64 : decode cX11_reads 64 = .ok (.iload 4, 2) := by decide +kernel
theorem dX11_reads_66 : decode cX11_reads 66 = .ok (.ifCond .eq 24, 3) := by decide +kernel
theorem dX11_reads_69 : decode cX11_reads 69 = .ok (.aload_n 0, 1) := by decide +kernel
theorem dX11_reads_70 : decode cX11_reads 70 = .ok (.getfield 194, 3) := by decide +kernel
theorem dX11_reads_73 : decode cX11_reads 73 = .ok (.ifCond .ne 6, 3) := by decide +kernel
theorem dX11_reads_76 : decode cX11_reads 76 = .ok (.goto 14, 3) := by decide +kernel
theorem dX11_reads_79 : decode cX11_reads 79 = .ok (.aload_n 0, 1) := by decide +kernel
theorem dX11_reads_80 : decode cX11_reads 80 = .ok (.bipush 59, 2) := by decide +kernel
theorem dX11_reads_82 : decode cX11_reads 82 = .ok (.invokevirtual 325, 3) := by decide +kernel
theorem dX11_reads_85 : decode cX11_reads 85 = .ok (.istore 4, 2) := by decide +kernel
theorem dX11_reads_87 : decode cX11_reads 87 = .ok (.goto (-51), 3) := by decide +kernel
theorem dX11_reads_90 : decode cX11_reads 90 = .ok (.iload 4, 2) := by decide +kernel
theorem dX11_reads_92 : decode cX11_reads 92 = .ok (.ifCond .eq 10, 3) := by decide +kernel
theorem dX11_reads_95 : decode cX11_reads 95 = .ok (.aload_n 0, 1) := by decide +kernel
theorem dX11_reads_96 : decode cX11_reads 96 = .ok (.getfield 163, 3) := by decide +kernel
theorem dX11_reads_99 : decode cX11_reads 99 = .ok (.ifCond .le 15, 3) := by decide +kernel
theorem dX11_reads_102 : decode cX11_reads 102 = .ok (.aload_n 0, 1) := by decide +kernel
theorem dX11_reads_103 : decode cX11_reads 103 = .ok (.iload_n 1, 1) := by decide +kernel
theorem dX11_reads_104 : decode cX11_reads 104 = .ok (.putfield 299, 3) := by decide +kernel
theorem dX11_reads_107 : decode cX11_reads 107 = .ok (.aload_n 0, 1) := by decide +kernel
theorem dX11_reads_108 : decode cX11_reads 108 = .ok (.iload_n 2, 1) := by decide +kernel
theorem dX11_reads_109 : decode cX11_reads 109 = .ok (.putfield 302, 3) := by decide +kernel
theorem dX11_reads_112 : decode cX11_reads 112 = .ok (.iconst 0, 1) := by decide +kernel
theorem dX11_reads_113 : decode cX11_reads 113 = .ok (.ireturn, 1) := by decide +kernel
theorem dX11_reads_114 : decode cX11_reads 114 = .ok (.aload_n 0, 1) := by decide +kernel
theorem dX11_reads_115 : decode cX11_reads 115 = .ok (.getfield 73, 3) := by decide +kernel
theorem dX11_reads_118 : decode cX11_reads 118 = .ok (.iconst 4, 1) := by decide +kernel
theorem dX11_reads_119 : decode cX11_reads 119 = .ok (.iload_n 3, 1) := by decide +kernel
theorem dX11_reads_120 : decode cX11_reads 120 = .ok (.iastore, 1) := by decide +kernel
theorem dX11_reads_121 : decode cX11_reads 121 = .ok (.iload_n 3, 1) := by decide +kernel
theorem dX11_reads_122 : decode cX11_reads 122 = .ok (.iconst 1, 1) := by decide +kernel
theorem dX11_reads_123 : decode cX11_reads 123 = .ok (.isub, 1) := by decide +kernel
theorem dX11_reads_124 : decode cX11_reads 124 = .ok (.istore 5, 2) := by decide +kernel
theorem dX11_reads_126 : decode cX11_reads 126 = .ok (.iload 5, 2) := by decide +kernel
theorem dX11_reads_128 : decode cX11_reads 128 = .ok (.ifCond .lt 125, 3) := by decide +kernel
theorem dX11_reads_131 : decode cX11_reads 131 = .ok (.bipush 96, 2) := by decide +kernel
theorem dX11_reads_133 : decode cX11_reads 133 = .ok (.iload 5, 2) := by decide +kernel
theorem dX11_reads_135 : decode cX11_reads 135 = .ok (.iadd, 1) := by decide +kernel
theorem dX11_reads_136 : decode cX11_reads 136 = .ok (.istore 6, 2) := by decide +kernel
theorem dX11_reads_138 : decode cX11_reads 138 = .ok (.iload 5, 2) := by decide +kernel
theorem dX11_reads_140 : decode cX11_reads 140 = .ok (.iconst 1, 1) := by decide +kernel
theorem dX11_reads_141 : decode cX11_reads 141 = .ok (.iadd, 1) := by decide +kernel
theorem dX11_reads_142 : decode cX11_reads 142 = .ok (.istore 7, 2) := by decide +kernel
theorem dX11_reads_144 : decode cX11_reads 144 = .ok (.iload 7, 2) := by decide +kernel
theorem dX11_reads_146 : decode cX11_reads 146 = .ok (.iload_n 3, 1) := by decide +kernel
theorem dX11_reads_147 : decode cX11_reads 147 = .ok (.if_icmp .ge 100, 3) := by decide +kernel
theorem dX11_reads_150 : decode cX11_reads 150 = .ok (.aload_n 0, 1) := by decide +kernel
theorem dX11_reads_151 : decode cX11_reads 151 = .ok (.getfield 76, 3) := by decide +kernel
theorem dX11_reads_154 : decode cX11_reads 154 = .ok (.iload 6, 2) := by decide +kernel
theorem dX11_reads_156 : decode cX11_reads 156 = .ok (.iaload, 1) := by decide +kernel
theorem dX11_reads_157 : decode cX11_reads 157 = .ok (.ifCond .eq 90, 3) := by decide +kernel
theorem dX11_reads_160 : decode cX11_reads 160 = .ok (.bipush 96, 2) := by decide +kernel
theorem dX11_reads_162 : decode cX11_reads 162 = .ok (.iload 7, 2) := by decide +kernel
theorem dX11_reads_164 : decode cX11_reads 164 = .ok (.iadd, 1) := by decide +kernel
theorem dX11_reads_165 : decode cX11_reads 165 = .ok (.istore 8, 2) := by decide +kernel
theorem dX11_reads_167 : decode cX11_reads 167 = .ok (.aload_n 0, 1) := by decide +kernel
theorem dX11_reads_168 : decode cX11_reads 168 = .ok (.getfield 76, 3) := by decide +kernel
theorem dX11_reads_171 : decode cX11_reads 171 = .ok (.iload 8, 2) := by decide +kernel
theorem dX11_reads_173 : decode cX11_reads 173 = .ok (.iaload, 1) := by decide +kernel
theorem dX11_reads_174 : decode cX11_reads 174 = .ok (.ifCond .eq 67, 3) := by decide +kernel
theorem dX11_reads_177 : decode cX11_reads 177 = .ok (.aload_n 0, 1) := by decide +kernel
theorem dX11_reads_178 : decode cX11_reads 178 = .ok (.getfield 94, 3) := by decide +kernel
theorem dX11_reads_181 : decode cX11_reads 181 = .ok (.iload 8, 2) := by decide +kernel
theorem dX11_reads_183 : decode cX11_reads 183 = .ok (.iaload, 1) := by decide +kernel
theorem dX11_reads_184 : decode cX11_reads 184 = .ok (.iload 5, 2) := by decide +kernel
theorem dX11_reads_186 : decode cX11_reads 186 = .ok (.ishr, 1) := by decide +kernel
theorem dX11_reads_187 : decode cX11_reads 187 = .ok (.iconst 1, 1) := by decide +kernel
theorem dX11_reads_188 : decode cX11_reads 188 = .ok (.iand, 1) := by decide +kernel
theorem dX11_reads_189 : decode cX11_reads 189 = .ok (.ifCond .ne 6, 3) := by decide +kernel
theorem dX11_reads_192 : decode cX11_reads 192 = .ok (.goto 49, 3) := by decide +kernel
theorem dX11_reads_195 : decode cX11_reads 195 = .ok (.iconst 0, 1) := by decide +kernel
theorem dX11_reads_196 : decode cX11_reads 196 = .ok (.istore 9, 2) := by decide +kernel
theorem dX11_reads_198 : decode cX11_reads 198 = .ok (.iload 9, 2) := by decide +kernel
theorem dX11_reads_200 : decode cX11_reads 200 = .ok (.iconst 4, 1) := by decide +kernel
theorem dX11_reads_201 : decode cX11_reads 201 = .ok (.if_icmp .ge 40, 3) := by decide +kernel
theorem dX11_reads_204 : decode cX11_reads 204 = .ok (.aload_n 0, 1) := by decide +kernel
theorem dX11_reads_205 : decode cX11_reads 205 = .ok (.getfield 103, 3) := by decide +kernel
theorem dX11_reads_208 : decode cX11_reads 208 = .ok (.iconst 4, 1) := by decide +kernel
theorem dX11_reads_209 : decode cX11_reads 209 = .ok (.iload 6, 2) := by decide +kernel
theorem dX11_reads_211 : decode cX11_reads 211 = .ok (.imul, 1) := by decide +kernel
theorem dX11_reads_212 : decode cX11_reads 212 = .ok (.iload 9, 2) := by decide +kernel
theorem dX11_reads_214 : decode cX11_reads 214 = .ok (.iadd, 1) := by decide +kernel
theorem dX11_reads_215 : decode cX11_reads 215 = .ok (.dup2, 1) := by decide +kernel
theorem dX11_reads_216 : decode cX11_reads 216 = .ok (.laload, 1) := by decide +kernel
theorem dX11_reads_217 : decode cX11_reads 217 = .ok (.aload_n 0, 1) := by decide +kernel
theorem dX11_reads_218 : decode cX11_reads 218 = .ok (.getfield 103, 3) := by decide +kernel
theorem dX11_reads_221 : decode cX11_reads 221 = .ok (.iconst 4, 1) := by decide +kernel
theorem dX11_reads_222 : decode cX11_reads 222 = .ok (.iload 8, 2) := by decide +kernel
theorem dX11_reads_224 : decode cX11_reads 224 = .ok (.imul, 1) := by decide +kernel
theorem dX11_reads_225 : decode cX11_reads 225 = .ok (.iload 9, 2) := by decide +kernel
theorem dX11_reads_227 : decode cX11_reads 227 = .ok (.iadd, 1) := by decide +kernel
theorem dX11_reads_228 : decode cX11_reads 228 = .ok (.laload, 1) := by decide +kernel
theorem dX11_reads_229 : decode cX11_reads 229 = .ok (.ldc2_w 278, 3) := by decide +kernel
theorem dX11_reads_232 : decode cX11_reads 232 = .ok (.lxor, 1) := by decide +kernel
theorem dX11_reads_233 : decode cX11_reads 233 = .ok (.land, 1) := by decide +kernel
theorem dX11_reads_234 : decode cX11_reads 234 = .ok (.lastore, 1) := by decide +kernel
theorem dX11_reads_235 : decode cX11_reads 235 = .ok (.iinc 9 1, 3) := by decide +kernel
theorem dX11_reads_238 : decode cX11_reads 238 = .ok (.goto (-40), 3) := by decide +kernel
theorem dX11_reads_241 : decode cX11_reads 241 = .ok (.iinc 7 1, 3) := by decide +kernel
theorem dX11_reads_244 : decode cX11_reads 244 = .ok (.goto (-100), 3) := by decide +kernel
theorem dX11_reads_247 : decode cX11_reads 247 = .ok (.iinc 5 (-1), 3) := by decide +kernel
theorem dX11_reads_250 : decode cX11_reads 250 = .ok (.goto (-124), 3) := by decide +kernel
theorem dX11_reads_253 : decode cX11_reads 253 = .ok (.iconst 1, 1) := by decide +kernel
theorem dX11_reads_254 : decode cX11_reads 254 = .ok (.ireturn, 1) := by decide +kernel
def fX11_reads_b102 (a : Nat) (x1 : Int32) (x2 : Int32) (μ : JM) : JO (Int32) := jck ((jT μ a).1 == 12) <| jlt (jsI μ a 5 x1) fun μ54 => jlt (jsI μ54 a 8 x2) fun μ57 => some ((0 : Int32), μ57, 0, 0)
set_option maxHeartbeats 4000000 in
set_option maxRecDepth 100000 in
theorem gX11_reads_b102 {b : Nat} {Θ : JE} {RC RS : Nat} {r : Int32} {ν : JM} (X : jX b Θ RX11 cX11_reads 10 (some .boolean) 7 158 RC RS) (a : Nat) (x1 : Int32) (x2 : Int32) (μ : JM) (c m k n : Nat) (hf : fX11_reads_b102 a x1 x2 μ = some (r, ν, c, m)) (hk : k + c = RC) (hn : n + m = RS) : WA b Θ 10 (jE b Θ (some (.int r)) ν RC RS) μ k n 102 [(0, va_rf (some a)), (1, .int x1), (2, .int x2)] [] := by
  rw [fX11_reads_b102] at hf
  refine wa_aload_n X 0 dX11_reads_102 rfl ?_
  refine wa_iload_n X 1 dX11_reads_103 rfl ?_
  obtain ⟨h53, hf⟩ := jckT hf
  obtain ⟨μ54, hm55, hf⟩ := jlt_e hf
  have e56 : jT μ54 = jT μ := by rw [hm55]; rfl
  refine wa_rputI (ν := μ54) X dX11_reads_104 lfX11_299 rfl h53 rfl rfl hm55 ?_
  refine wa_aload_n X 0 dX11_reads_107 rfl ?_
  refine wa_iload_n X 2 dX11_reads_108 rfl ?_
  obtain ⟨μ57, hm58, hf⟩ := jlt_e hf
  have e59 : jT μ57 = jT μ := by rw [hm58]; exact e56
  refine wa_rputI (ν := μ57) X dX11_reads_109 lfX11_302 rfl (by rw [e56]; exact h53) rfl rfl hm58 ?_
  refine wa_iconst (v := (0 : Int32)) X dX11_reads_112 (by decide) ?_
  obtain ⟨rfl, rfl, rfl, rfl⟩ := jret hf
  exact wa_iret X dX11_reads_113 rfl (by omega) (by omega)
def fX11_reads_b241 (rec126 : Nat → Int32 → Int32 → JM → JO (Int32)) (rec144 : Nat → Int32 → Int32 → Int32 → Int32 → JM → JO (Int32)) (a : Nat) (x3 : Int32) (x5 : Int32) (x6 : Int32) (x7 : Int32) (μ : JM) : JO (Int32) := rec144 a x3 x5 x6 (x7 + (1 : Int32)) μ
set_option maxHeartbeats 4000000 in
set_option maxRecDepth 100000 in
theorem gX11_reads_b241 {b : Nat} {Θ : JE} {RC RS : Nat} {r : Int32} {ν : JM} (X : jX b Θ RX11 cX11_reads 10 (some .boolean) 7 158 RC RS) {rec126 : Nat → Int32 → Int32 → JM → JO (Int32)} (hrec126 : ∀ (a : Nat) (x3 : Int32) (x5 : Int32) (μ : JM) (c m k n : Nat), rec126 a x3 x5 μ = some (r, ν, c, m) → k + c = RC → n + m = RS → WA b Θ 10 (jE b Θ (some (.int r)) ν RC RS) μ k n 126 [(0, va_rf (some a)), (3, .int x3), (5, .int x5)] []) {rec144 : Nat → Int32 → Int32 → Int32 → Int32 → JM → JO (Int32)} (hrec144 : ∀ (a : Nat) (x3 : Int32) (x5 : Int32) (x6 : Int32) (x7 : Int32) (μ : JM) (c m k n : Nat), rec144 a x3 x5 x6 x7 μ = some (r, ν, c, m) → k + c = RC → n + m = RS → WA b Θ 10 (jE b Θ (some (.int r)) ν RC RS) μ k n 144 [(0, va_rf (some a)), (3, .int x3), (5, .int x5), (6, .int x6), (7, .int x7)] []) (a : Nat) (x3 : Int32) (x5 : Int32) (x6 : Int32) (x7 : Int32) (μ : JM) (c m k n : Nat) (hf : fX11_reads_b241 rec126 rec144 a x3 x5 x6 x7 μ = some (r, ν, c, m)) (hk : k + c = RC) (hn : n + m = RS) : WA b Θ 10 (jE b Θ (some (.int r)) ν RC RS) μ k n 241 [(0, va_rf (some a)), (3, .int x3), (5, .int x5), (6, .int x6), (7, .int x7)] [] := by
  rw [fX11_reads_b241] at hf
  refine wa_iinc (v := (x7 + (1 : Int32))) (L2 := [(7, .int (x7 + (1 : Int32))), (0, va_rf (some a)), (3, .int x3), (5, .int x5), (6, .int x6)]) X 4 dX11_reads_241 rfl rfl (by decide) (by first | rfl | simp [va_rf_cat, cat_i, cat_l]) ?_
  refine wa_goto (tgt := 144) X dX11_reads_244 (by decide) ?_
  refine wa_sub (L2 := [(0, va_rf (some a)), (3, .int x3), (5, .int x5), (6, .int x6), (7, .int (x7 + (1 : Int32)))]) [1, 2, 3, 4, 0] rfl ?_
  exact hrec144 a x3 x5 x6 (x7 + (1 : Int32)) μ _ _ _ _ hf (by omega) (by omega)
def fX11_reads_b198 (rec126 : Nat → Int32 → Int32 → JM → JO (Int32)) (rec144 : Nat → Int32 → Int32 → Int32 → Int32 → JM → JO (Int32)) : Nat → Nat → Int32 → Int32 → Int32 → Int32 → Int32 → Int32 → JM → JO (Int32)
  | 0, _, _, _, _, _, _, _, _ => none
  | fu + 1, a, x3, x5, x6, x7, x8, x9, μ => if (4 : Int32) ≤ x9 then (fX11_reads_b241 rec126 rec144 a x3 x5 x6 x7 μ) else (jck ((jT μ a).1 == 12) <| jde (jP μ a 44) fun q77 => jck ((jT μ q77).1 == 102) <| jck (jin (((4 : Int32) * x6) + x9) (jT μ q77).2) <| jck (jin (((4 : Int32) * x8) + x9) (jT μ q77).2) <| jlt (jsJ μ q77 ((((4 : Int32) * x6) + x9)).toNatClampNeg ((jJ μ q77 ((((4 : Int32) * x6) + x9)).toNatClampNeg) &&& ((jJ μ q77 ((((4 : Int32) * x8) + x9)).toNatClampNeg) ^^^ (-1 : Int64)))) fun μ82 => fX11_reads_b198 rec126 rec144 fu a x3 x5 x6 x7 x8 (x9 + (1 : Int32)) μ82)
set_option maxHeartbeats 4000000 in
set_option maxRecDepth 100000 in
theorem gX11_reads_b198 {b : Nat} {Θ : JE} {RC RS : Nat} {r : Int32} {ν : JM} (X : jX b Θ RX11 cX11_reads 10 (some .boolean) 7 158 RC RS) {rec126 : Nat → Int32 → Int32 → JM → JO (Int32)} (hrec126 : ∀ (a : Nat) (x3 : Int32) (x5 : Int32) (μ : JM) (c m k n : Nat), rec126 a x3 x5 μ = some (r, ν, c, m) → k + c = RC → n + m = RS → WA b Θ 10 (jE b Θ (some (.int r)) ν RC RS) μ k n 126 [(0, va_rf (some a)), (3, .int x3), (5, .int x5)] []) {rec144 : Nat → Int32 → Int32 → Int32 → Int32 → JM → JO (Int32)} (hrec144 : ∀ (a : Nat) (x3 : Int32) (x5 : Int32) (x6 : Int32) (x7 : Int32) (μ : JM) (c m k n : Nat), rec144 a x3 x5 x6 x7 μ = some (r, ν, c, m) → k + c = RC → n + m = RS → WA b Θ 10 (jE b Θ (some (.int r)) ν RC RS) μ k n 144 [(0, va_rf (some a)), (3, .int x3), (5, .int x5), (6, .int x6), (7, .int x7)] []) : ∀ (fu : Nat) (a : Nat) (x3 : Int32) (x5 : Int32) (x6 : Int32) (x7 : Int32) (x8 : Int32) (x9 : Int32) (μ : JM) (c m k n : Nat), fX11_reads_b198 rec126 rec144 fu a x3 x5 x6 x7 x8 x9 μ = some (r, ν, c, m) → k + c = RC → n + m = RS → WA b Θ 10 (jE b Θ (some (.int r)) ν RC RS) μ k n 198 [(0, va_rf (some a)), (3, .int x3), (5, .int x5), (6, .int x6), (7, .int x7), (8, .int x8), (9, .int x9)] [] := by
  intro fu
  induction fu with
  | zero => intro a x3 x5 x6 x7 x8 x9 μ c m k n hf; cases hf
  | succ fu ih =>
    intro a x3 x5 x6 x7 x8 x9 μ c m k n hf hk hn
    rw [fX11_reads_b198] at hf
    refine wa_iload X 6 dX11_reads_198 rfl ?_
    refine wa_iconst (v := (4 : Int32)) X dX11_reads_200 (by decide) ?_
    refine wa_icge (tgt := 241) X dX11_reads_201 (by decide) (fun h75 => ?_) (fun h75 => ?_)
    · rw [if_pos h75] at hf
      refine wa_sub (L2 := [(0, va_rf (some a)), (3, .int x3), (5, .int x5), (6, .int x6), (7, .int x7)]) [0, 1, 2, 3, 4] rfl ?_
      exact gX11_reads_b241 X hrec126 hrec144 a x3 x5 x6 x7 μ _ _ _ _ hf (by omega) (by omega)
    · rw [if_neg h75] at hf
      refine wa_aload_n X 0 dX11_reads_204 rfl ?_
      obtain ⟨h76, hf⟩ := jckT hf
      refine wa_getP X dX11_reads_205 lfX11_103 rfl h76 rfl ?_
      refine wa_iconst (v := (4 : Int32)) X dX11_reads_208 (by decide) ?_
      refine wa_iload X 3 dX11_reads_209 rfl ?_
      refine wa_imul X dX11_reads_211 ?_
      refine wa_iload X 6 dX11_reads_212 rfl ?_
      refine wa_iadd X dX11_reads_214 ?_
      refine wa_dup2 X dX11_reads_215 rfl (va_rf_cat _) ?_
      obtain ⟨q77, h78, hf⟩ := jde_some hf
      obtain ⟨h79, hf⟩ := jckT hf
      obtain ⟨h80, hf⟩ := jck_some hf
      refine wa_rlald X dX11_reads_216 h78 h79 h80 ?_
      refine wa_aload_n X 0 dX11_reads_217 rfl ?_
      refine wa_getP X dX11_reads_218 lfX11_103 rfl h76 rfl ?_
      refine wa_iconst (v := (4 : Int32)) X dX11_reads_221 (by decide) ?_
      refine wa_iload X 5 dX11_reads_222 rfl ?_
      refine wa_imul X dX11_reads_224 ?_
      refine wa_iload X 6 dX11_reads_225 rfl ?_
      refine wa_iadd X dX11_reads_227 ?_
      obtain ⟨h81, hf⟩ := jck_some hf
      refine wa_rlald X dX11_reads_228 h78 h79 h81 ?_
      refine wa_ldc2 (v := (-1 : Int64)) X dX11_reads_229 lkX11_278 ?_
      refine wa_lxor X dX11_reads_232 ?_
      refine wa_land X dX11_reads_233 ?_
      obtain ⟨μ82, hm83, hf⟩ := jlt_e hf
      have e84 : jT μ82 = jT μ := by rw [hm83]; rfl
      refine wa_rlast (ν := μ82) X dX11_reads_234 h78 h79 h80 hm83 ?_
      refine wa_iinc (v := (x9 + (1 : Int32))) (L2 := [(9, .int (x9 + (1 : Int32))), (0, va_rf (some a)), (3, .int x3), (5, .int x5), (6, .int x6), (7, .int x7), (8, .int x8)]) X 6 dX11_reads_235 rfl rfl (by decide) (by first | rfl | simp [va_rf_cat, cat_i, cat_l]) ?_
      refine wa_goto (tgt := 198) X dX11_reads_238 (by decide) ?_
      refine wa_sub (L2 := [(0, va_rf (some a)), (3, .int x3), (5, .int x5), (6, .int x6), (7, .int x7), (8, .int x8), (9, .int (x9 + (1 : Int32)))]) [1, 2, 3, 4, 5, 6, 0] rfl ?_
      exact ih a x3 x5 x6 x7 x8 (x9 + (1 : Int32)) μ82 _ _ _ _ hf (by omega) (by omega)
def fX11_reads_b247 (rec126 : Nat → Int32 → Int32 → JM → JO (Int32)) (a : Nat) (x3 : Int32) (x5 : Int32) (μ : JM) : JO (Int32) := rec126 a x3 (x5 + (-1 : Int32)) μ
set_option maxHeartbeats 4000000 in
set_option maxRecDepth 100000 in
theorem gX11_reads_b247 {b : Nat} {Θ : JE} {RC RS : Nat} {r : Int32} {ν : JM} (X : jX b Θ RX11 cX11_reads 10 (some .boolean) 7 158 RC RS) {rec126 : Nat → Int32 → Int32 → JM → JO (Int32)} (hrec126 : ∀ (a : Nat) (x3 : Int32) (x5 : Int32) (μ : JM) (c m k n : Nat), rec126 a x3 x5 μ = some (r, ν, c, m) → k + c = RC → n + m = RS → WA b Θ 10 (jE b Θ (some (.int r)) ν RC RS) μ k n 126 [(0, va_rf (some a)), (3, .int x3), (5, .int x5)] []) (a : Nat) (x3 : Int32) (x5 : Int32) (μ : JM) (c m k n : Nat) (hf : fX11_reads_b247 rec126 a x3 x5 μ = some (r, ν, c, m)) (hk : k + c = RC) (hn : n + m = RS) : WA b Θ 10 (jE b Θ (some (.int r)) ν RC RS) μ k n 247 [(0, va_rf (some a)), (3, .int x3), (5, .int x5)] [] := by
  rw [fX11_reads_b247] at hf
  refine wa_iinc (v := (x5 + (-1 : Int32))) (L2 := [(5, .int (x5 + (-1 : Int32))), (0, va_rf (some a)), (3, .int x3)]) X 2 dX11_reads_247 rfl rfl (by decide) (by first | rfl | simp [va_rf_cat, cat_i, cat_l]) ?_
  refine wa_goto (tgt := 126) X dX11_reads_250 (by decide) ?_
  refine wa_sub (L2 := [(0, va_rf (some a)), (3, .int x3), (5, .int (x5 + (-1 : Int32)))]) [1, 2, 0] rfl ?_
  exact hrec126 a x3 (x5 + (-1 : Int32)) μ _ _ _ _ hf (by omega) (by omega)
def fX11_reads_b144 (rec126 : Nat → Int32 → Int32 → JM → JO (Int32)) : Nat → Nat → Int32 → Int32 → Int32 → Int32 → JM → JO (Int32)
  | 0, _, _, _, _, _, _ => none
  | fu + 1, a, x3, x5, x6, x7, μ => if x3 ≤ x7 then (fX11_reads_b247 rec126 a x3 x5 μ) else (jck ((jT μ a).1 == 12) <| jde (jP μ a 35) fun q63 => jck ((jT μ q63).1 == 101) <| jck (jin x6 (jT μ q63).2) <| if (jI μ q63 (x6).toNatClampNeg) = 0 then (fX11_reads_b247 rec126 a x3 x5 μ) else (jck (jin ((96 : Int32) + x7) (jT μ q63).2) <| if (jI μ q63 (((96 : Int32) + x7)).toNatClampNeg) = 0 then (fX11_reads_b241 rec126 (fX11_reads_b144 rec126 fu) a x3 x5 x6 x7 μ) else (jde (jP μ a 41) fun q70 => jck ((jT μ q70).1 == 101) <| jck (jin ((96 : Int32) + x7) (jT μ q70).2) <| if ((jshr (jI μ q70 (((96 : Int32) + x7)).toNatClampNeg) x5) &&& (1 : Int32)) = 0 then (fX11_reads_b241 rec126 (fX11_reads_b144 rec126 fu) a x3 x5 x6 x7 μ) else (fX11_reads_b198 rec126 (fX11_reads_b144 rec126 fu) jfuel a x3 x5 x6 x7 ((96 : Int32) + x7) (0 : Int32) μ))))
set_option maxHeartbeats 4000000 in
set_option maxRecDepth 100000 in
theorem gX11_reads_b144 {b : Nat} {Θ : JE} {RC RS : Nat} {r : Int32} {ν : JM} (X : jX b Θ RX11 cX11_reads 10 (some .boolean) 7 158 RC RS) {rec126 : Nat → Int32 → Int32 → JM → JO (Int32)} (hrec126 : ∀ (a : Nat) (x3 : Int32) (x5 : Int32) (μ : JM) (c m k n : Nat), rec126 a x3 x5 μ = some (r, ν, c, m) → k + c = RC → n + m = RS → WA b Θ 10 (jE b Θ (some (.int r)) ν RC RS) μ k n 126 [(0, va_rf (some a)), (3, .int x3), (5, .int x5)] []) : ∀ (fu : Nat) (a : Nat) (x3 : Int32) (x5 : Int32) (x6 : Int32) (x7 : Int32) (μ : JM) (c m k n : Nat), fX11_reads_b144 rec126 fu a x3 x5 x6 x7 μ = some (r, ν, c, m) → k + c = RC → n + m = RS → WA b Θ 10 (jE b Θ (some (.int r)) ν RC RS) μ k n 144 [(0, va_rf (some a)), (3, .int x3), (5, .int x5), (6, .int x6), (7, .int x7)] [] := by
  intro fu
  induction fu with
  | zero => intro a x3 x5 x6 x7 μ c m k n hf; cases hf
  | succ fu ih =>
    intro a x3 x5 x6 x7 μ c m k n hf hk hn
    rw [fX11_reads_b144] at hf
    refine wa_iload X 4 dX11_reads_144 rfl ?_
    refine wa_iload_n X 1 dX11_reads_146 rfl ?_
    refine wa_icge (tgt := 247) X dX11_reads_147 (by decide) (fun h61 => ?_) (fun h61 => ?_)
    · rw [if_pos h61] at hf
      refine wa_sub (L2 := [(0, va_rf (some a)), (3, .int x3), (5, .int x5)]) [0, 1, 2] rfl ?_
      exact gX11_reads_b247 X hrec126 a x3 x5 μ _ _ _ _ hf (by omega) (by omega)
    · rw [if_neg h61] at hf
      refine wa_aload_n X 0 dX11_reads_150 rfl ?_
      obtain ⟨h62, hf⟩ := jckT hf
      refine wa_getP X dX11_reads_151 lfX11_76 rfl h62 rfl ?_
      refine wa_iload X 3 dX11_reads_154 rfl ?_
      obtain ⟨q63, h64, hf⟩ := jde_some hf
      obtain ⟨h65, hf⟩ := jckT hf
      obtain ⟨h66, hf⟩ := jck_some hf
      refine wa_riald X dX11_reads_156 h64 h65 h66 ?_
      refine wa_ifeq (tgt := 247) X dX11_reads_157 (by decide) (fun h67 => ?_) (fun h67 => ?_)
      · rw [if_pos h67] at hf
        refine wa_sub (L2 := [(0, va_rf (some a)), (3, .int x3), (5, .int x5)]) [0, 1, 2] rfl ?_
        exact gX11_reads_b247 X hrec126 a x3 x5 μ _ _ _ _ hf (by omega) (by omega)
      · rw [if_neg h67] at hf
        refine wa_bipush (v := (96 : Int32)) X dX11_reads_160 (by decide) ?_
        refine wa_iload X 4 dX11_reads_162 rfl ?_
        refine wa_iadd X dX11_reads_164 ?_
        refine wa_istore (L2 := [(8, .int ((96 : Int32) + x7)), (0, va_rf (some a)), (3, .int x3), (5, .int x5), (6, .int x6), (7, .int x7)]) X dX11_reads_165 (by decide) (by first | rfl | (show (8, _) :: List.filter (fun q : Nat × Value => !(q.1 == 8) && !(q.1 + 1 == 8 && q.2.category == 2)) _ = _; simp [va_rf_cat, cat_i, cat_l])) ?_
        refine wa_aload_n X 1 dX11_reads_167 rfl ?_
        refine wa_getP X dX11_reads_168 lfX11_76 rfl h62 rfl ?_
        refine wa_iload X 0 dX11_reads_171 rfl ?_
        obtain ⟨h68, hf⟩ := jck_some hf
        refine wa_riald X dX11_reads_173 h64 h65 h68 ?_
        refine wa_ifeq (tgt := 241) X dX11_reads_174 (by decide) (fun h69 => ?_) (fun h69 => ?_)
        · rw [if_pos h69] at hf
          refine wa_sub (L2 := [(0, va_rf (some a)), (3, .int x3), (5, .int x5), (6, .int x6), (7, .int x7)]) [1, 2, 3, 4, 5] rfl ?_
          exact gX11_reads_b241 X hrec126 ih a x3 x5 x6 x7 μ _ _ _ _ hf (by omega) (by omega)
        · rw [if_neg h69] at hf
          refine wa_aload_n X 1 dX11_reads_177 rfl ?_
          refine wa_getP X dX11_reads_178 lfX11_94 rfl h62 rfl ?_
          refine wa_iload X 0 dX11_reads_181 rfl ?_
          obtain ⟨q70, h71, hf⟩ := jde_some hf
          obtain ⟨h72, hf⟩ := jckT hf
          obtain ⟨h73, hf⟩ := jck_some hf
          refine wa_riald X dX11_reads_183 h71 h72 h73 ?_
          refine wa_iload X 3 dX11_reads_184 rfl ?_
          refine wa_ishr X dX11_reads_186 ?_
          refine wa_iconst (v := (1 : Int32)) X dX11_reads_187 (by decide) ?_
          refine wa_iand X dX11_reads_188 ?_
          refine wa_ifne (tgt := 195) X dX11_reads_189 (by decide) (fun h74 => ?_) (fun h74 => ?_)
          · rw [if_neg h74] at hf
            refine wa_iconst (v := (0 : Int32)) X dX11_reads_195 (by decide) ?_
            refine wa_istore (L2 := [(9, .int (0 : Int32)), (8, .int ((96 : Int32) + x7)), (0, va_rf (some a)), (3, .int x3), (5, .int x5), (6, .int x6), (7, .int x7)]) X dX11_reads_196 (by decide) (by first | rfl | (show (9, _) :: List.filter (fun q : Nat × Value => !(q.1 == 9) && !(q.1 + 1 == 9 && q.2.category == 2)) _ = _; simp [va_rf_cat, cat_i, cat_l])) ?_
            refine wa_sub (L2 := [(0, va_rf (some a)), (3, .int x3), (5, .int x5), (6, .int x6), (7, .int x7), (8, .int ((96 : Int32) + x7)), (9, .int (0 : Int32))]) [2, 3, 4, 5, 6, 1, 0] rfl ?_
            exact gX11_reads_b198 X hrec126 ih jfuel a x3 x5 x6 x7 ((96 : Int32) + x7) (0 : Int32) μ _ _ _ _ hf (by omega) (by omega)
          · rw [if_pos h74] at hf
            refine wa_goto (tgt := 241) X dX11_reads_192 (by decide) ?_
            refine wa_sub (L2 := [(0, va_rf (some a)), (3, .int x3), (5, .int x5), (6, .int x6), (7, .int x7)]) [1, 2, 3, 4, 5] rfl ?_
            exact gX11_reads_b241 X hrec126 ih a x3 x5 x6 x7 μ _ _ _ _ hf (by omega) (by omega)
def fX11_reads_b126 : Nat → Nat → Int32 → Int32 → JM → JO (Int32)
  | 0, _, _, _, _ => none
  | fu + 1, a, x3, x5, μ => if x5 < 0 then (some ((1 : Int32), μ, 0, 0)) else (fX11_reads_b144 (fX11_reads_b126 fu) jfuel a x3 x5 ((96 : Int32) + x5) (x5 + (1 : Int32)) μ)
set_option maxHeartbeats 4000000 in
set_option maxRecDepth 100000 in
theorem gX11_reads_b126 {b : Nat} {Θ : JE} {RC RS : Nat} {r : Int32} {ν : JM} (X : jX b Θ RX11 cX11_reads 10 (some .boolean) 7 158 RC RS) : ∀ (fu : Nat) (a : Nat) (x3 : Int32) (x5 : Int32) (μ : JM) (c m k n : Nat), fX11_reads_b126 fu a x3 x5 μ = some (r, ν, c, m) → k + c = RC → n + m = RS → WA b Θ 10 (jE b Θ (some (.int r)) ν RC RS) μ k n 126 [(0, va_rf (some a)), (3, .int x3), (5, .int x5)] [] := by
  intro fu
  induction fu with
  | zero => intro a x3 x5 μ c m k n hf; cases hf
  | succ fu ih =>
    intro a x3 x5 μ c m k n hf hk hn
    rw [fX11_reads_b126] at hf
    refine wa_iload X 2 dX11_reads_126 rfl ?_
    refine wa_iflt (tgt := 253) X dX11_reads_128 (by decide) (fun h60 => ?_) (fun h60 => ?_)
    · rw [if_pos h60] at hf
      refine wa_iconst (v := (1 : Int32)) X dX11_reads_253 (by decide) ?_
      obtain ⟨rfl, rfl, rfl, rfl⟩ := jret hf
      exact wa_iret X dX11_reads_254 rfl (by omega) (by omega)
    · rw [if_neg h60] at hf
      refine wa_bipush (v := (96 : Int32)) X dX11_reads_131 (by decide) ?_
      refine wa_iload X 2 dX11_reads_133 rfl ?_
      refine wa_iadd X dX11_reads_135 ?_
      refine wa_istore (L2 := [(6, .int ((96 : Int32) + x5)), (0, va_rf (some a)), (3, .int x3), (5, .int x5)]) X dX11_reads_136 (by decide) (by first | rfl | (show (6, _) :: List.filter (fun q : Nat × Value => !(q.1 == 6) && !(q.1 + 1 == 6 && q.2.category == 2)) _ = _; simp [va_rf_cat, cat_i, cat_l])) ?_
      refine wa_iload X 3 dX11_reads_138 rfl ?_
      refine wa_iconst (v := (1 : Int32)) X dX11_reads_140 (by decide) ?_
      refine wa_iadd X dX11_reads_141 ?_
      refine wa_istore (L2 := [(7, .int (x5 + (1 : Int32))), (6, .int ((96 : Int32) + x5)), (0, va_rf (some a)), (3, .int x3), (5, .int x5)]) X dX11_reads_142 (by decide) (by first | rfl | (show (7, _) :: List.filter (fun q : Nat × Value => !(q.1 == 7) && !(q.1 + 1 == 7 && q.2.category == 2)) _ = _; simp [va_rf_cat, cat_i, cat_l])) ?_
      refine wa_sub (L2 := [(0, va_rf (some a)), (3, .int x3), (5, .int x5), (6, .int ((96 : Int32) + x5)), (7, .int (x5 + (1 : Int32)))]) [2, 3, 4, 1, 0] rfl ?_
      exact gX11_reads_b144 X ih jfuel a x3 x5 ((96 : Int32) + x5) (x5 + (1 : Int32)) μ _ _ _ _ hf (by omega) (by omega)
def fX11_reads_b90 (a : Nat) (x1 : Int32) (x2 : Int32) (x3 : Int32) (x4 : Int32) (μ : JM) : JO (Int32) := if x4 = 0 then (fX11_reads_b102  a x1 x2 μ) else (jck ((jT μ a).1 == 12) <| if (jI μ a 18) ≤ 0 then (jde (jP μ a 34) fun q46 => jck ((jT μ q46).1 == 101) <| jck (jin (4 : Int32) (jT μ q46).2) <| jlt (jsI μ q46 ((4 : Int32)).toNatClampNeg x3) fun μ50 => fX11_reads_b126  jfuel a x3 (x3 - (1 : Int32)) μ50) else (fX11_reads_b102  a x1 x2 μ))
set_option maxHeartbeats 4000000 in
set_option maxRecDepth 100000 in
theorem gX11_reads_b90 {b : Nat} {Θ : JE} {RC RS : Nat} {r : Int32} {ν : JM} (X : jX b Θ RX11 cX11_reads 10 (some .boolean) 7 158 RC RS) (a : Nat) (x1 : Int32) (x2 : Int32) (x3 : Int32) (x4 : Int32) (μ : JM) (c m k n : Nat) (hf : fX11_reads_b90 a x1 x2 x3 x4 μ = some (r, ν, c, m)) (hk : k + c = RC) (hn : n + m = RS) : WA b Θ 10 (jE b Θ (some (.int r)) ν RC RS) μ k n 90 [(0, va_rf (some a)), (1, .int x1), (2, .int x2), (3, .int x3), (4, .int x4)] [] := by
  rw [fX11_reads_b90] at hf
  refine wa_iload X 4 dX11_reads_90 rfl ?_
  refine wa_ifeq (tgt := 102) X dX11_reads_92 (by decide) (fun h43 => ?_) (fun h43 => ?_)
  · rw [if_pos h43] at hf
    refine wa_sub (L2 := [(0, va_rf (some a)), (1, .int x1), (2, .int x2)]) [0, 1, 2] rfl ?_
    exact gX11_reads_b102 X a x1 x2 μ _ _ _ _ hf (by omega) (by omega)
  · rw [if_neg h43] at hf
    refine wa_aload_n X 0 dX11_reads_95 rfl ?_
    obtain ⟨h44, hf⟩ := jckT hf
    refine wa_getI X dX11_reads_96 lfX11_163 rfl h44 rfl ?_
    refine wa_ifle (tgt := 114) X dX11_reads_99 (by decide) (fun h45 => ?_) (fun h45 => ?_)
    · rw [if_pos h45] at hf
      refine wa_aload_n X 0 dX11_reads_114 rfl ?_
      refine wa_getP X dX11_reads_115 lfX11_73 rfl h44 rfl ?_
      refine wa_iconst (v := (4 : Int32)) X dX11_reads_118 (by decide) ?_
      refine wa_iload_n X 3 dX11_reads_119 rfl ?_
      obtain ⟨q46, h47, hf⟩ := jde_some hf
      obtain ⟨h48, hf⟩ := jckT hf
      obtain ⟨h49, hf⟩ := jck_some hf
      obtain ⟨μ50, hm51, hf⟩ := jlt_e hf
      have e52 : jT μ50 = jT μ := by rw [hm51]; rfl
      refine wa_riast (ν := μ50) X dX11_reads_120 h47 h48 h49 hm51 ?_
      refine wa_iload_n X 3 dX11_reads_121 rfl ?_
      refine wa_iconst (v := (1 : Int32)) X dX11_reads_122 (by decide) ?_
      refine wa_isub X dX11_reads_123 ?_
      refine wa_istore (L2 := [(5, .int (x3 - (1 : Int32))), (0, va_rf (some a)), (1, .int x1), (2, .int x2), (3, .int x3), (4, .int x4)]) X dX11_reads_124 (by decide) (by first | rfl | (show (5, _) :: List.filter (fun q : Nat × Value => !(q.1 == 5) && !(q.1 + 1 == 5 && q.2.category == 2)) _ = _; simp [va_rf_cat, cat_i, cat_l])) ?_
      refine wa_sub (L2 := [(0, va_rf (some a)), (3, .int x3), (5, .int (x3 - (1 : Int32)))]) [1, 4, 0] rfl ?_
      exact gX11_reads_b126 X jfuel a x3 (x3 - (1 : Int32)) μ50 _ _ _ _ hf (by omega) (by omega)
    · rw [if_neg h45] at hf
      refine wa_sub (L2 := [(0, va_rf (some a)), (1, .int x1), (2, .int x2)]) [0, 1, 2] rfl ?_
      exact gX11_reads_b102 X a x1 x2 μ _ _ _ _ hf (by omega) (by omega)
def fX11_reads_b59 (rec36 : Nat → Int32 → Int32 → Int32 → Int32 → JM → JO (Int32)) (a : Nat) (x1 : Int32) (x2 : Int32) (x3 : Int32) (s0 : Int32) (μ : JM) : JO (Int32) := if s0 = 0 then (fX11_reads_b90  a x1 x2 (x3 + (1 : Int32)) s0 μ) else (jck ((jT μ a).1 == 12) <| if (jI μ a 14) = 0 then (fX11_reads_b90  a x1 x2 (x3 + (1 : Int32)) s0 μ) else (jcl (fX11_expectsSign a (59 : Int32) μ) fun r34 μ35 => rec36 a x1 x2 (x3 + (1 : Int32)) r34 μ35))
set_option maxHeartbeats 4000000 in
set_option maxRecDepth 100000 in
theorem gX11_reads_b59 {b : Nat} {Θ : JE} {RC RS : Nat} {r : Int32} {ν : JM} (X : jX b Θ RX11 cX11_reads 10 (some .boolean) 7 158 RC RS) {rec36 : Nat → Int32 → Int32 → Int32 → Int32 → JM → JO (Int32)} (hrec36 : ∀ (a : Nat) (x1 : Int32) (x2 : Int32) (x3 : Int32) (x4 : Int32) (μ : JM) (c m k n : Nat), rec36 a x1 x2 x3 x4 μ = some (r, ν, c, m) → k + c = RC → n + m = RS → WA b Θ 10 (jE b Θ (some (.int r)) ν RC RS) μ k n 36 [(0, va_rf (some a)), (1, .int x1), (2, .int x2), (3, .int x3), (4, .int x4)] []) (a : Nat) (x1 : Int32) (x2 : Int32) (x3 : Int32) (s0 : Int32) (μ : JM) (c m k n : Nat) (hf : fX11_reads_b59 rec36 a x1 x2 x3 s0 μ = some (r, ν, c, m)) (hk : k + c = RC) (hn : n + m = RS) : WA b Θ 10 (jE b Θ (some (.int r)) ν RC RS) μ k n 59 [(0, va_rf (some a)), (1, .int x1), (2, .int x2), (3, .int x3)] [.int s0] := by
  rw [fX11_reads_b59] at hf
  refine wa_istore (L2 := [(4, .int s0), (0, va_rf (some a)), (1, .int x1), (2, .int x2), (3, .int x3)]) X dX11_reads_59 (by decide) (by first | rfl | (show (4, _) :: List.filter (fun q : Nat × Value => !(q.1 == 4) && !(q.1 + 1 == 4 && q.2.category == 2)) _ = _; simp [va_rf_cat, cat_i, cat_l])) ?_
  refine wa_iinc (v := (x3 + (1 : Int32))) (L2 := [(3, .int (x3 + (1 : Int32))), (4, .int s0), (0, va_rf (some a)), (1, .int x1), (2, .int x2)]) X 4 dX11_reads_61 rfl rfl (by decide) (by first | rfl | simp [va_rf_cat, cat_i, cat_l]) ?_
  refine wa_iload X 1 dX11_reads_64 rfl ?_
  refine wa_ifeq (tgt := 90) X dX11_reads_66 (by decide) (fun h31 => ?_) (fun h31 => ?_)
  · rw [if_pos h31] at hf
    refine wa_sub (L2 := [(0, va_rf (some a)), (1, .int x1), (2, .int x2), (3, .int (x3 + (1 : Int32))), (4, .int s0)]) [2, 3, 4, 0, 1] rfl ?_
    exact gX11_reads_b90 X a x1 x2 (x3 + (1 : Int32)) s0 μ _ _ _ _ hf (by omega) (by omega)
  · rw [if_neg h31] at hf
    refine wa_aload_n X 2 dX11_reads_69 rfl ?_
    obtain ⟨h32, hf⟩ := jckT hf
    refine wa_getI X dX11_reads_70 lfX11_194 rfl h32 rfl ?_
    refine wa_ifne (tgt := 79) X dX11_reads_73 (by decide) (fun h33 => ?_) (fun h33 => ?_)
    · rw [if_neg h33] at hf
      refine wa_aload_n X 2 dX11_reads_79 rfl ?_
      refine wa_bipush (v := (59 : Int32)) X dX11_reads_80 (by decide) ?_
      obtain ⟨r34, μ35, c36, m37, c38, m39, e40, hf, h41, h42⟩ := jcl_some hf
      refine wa_rcallV (st2 := [.int r34]) X dX11_reads_82 lmX11_325 lMX11_expectsSign rfl h32 (mX11_expectsSign e40) rfl rfl rfl (va_cats (Nat.le_of_ble_eq_true rfl)) (by decide) (by omega) (by omega) ?_
      refine wa_istore (L2 := [(4, .int r34), (3, .int (x3 + (1 : Int32))), (0, va_rf (some a)), (1, .int x1), (2, .int x2)]) X dX11_reads_85 (by decide) (by first | rfl | (show (4, _) :: List.filter (fun q : Nat × Value => !(q.1 == 4) && !(q.1 + 1 == 4 && q.2.category == 2)) _ = _; simp [va_rf_cat, cat_i, cat_l])) ?_
      refine wa_goto (tgt := 36) X dX11_reads_87 (by decide) ?_
      refine wa_sub (L2 := [(0, va_rf (some a)), (1, .int x1), (2, .int x2), (3, .int (x3 + (1 : Int32))), (4, .int r34)]) [2, 3, 4, 1, 0] rfl ?_
      exact hrec36 a x1 x2 (x3 + (1 : Int32)) r34 μ35 _ _ _ _ hf (by omega) (by omega)
    · rw [if_pos h33] at hf
      refine wa_goto (tgt := 90) X dX11_reads_76 (by decide) ?_
      refine wa_sub (L2 := [(0, va_rf (some a)), (1, .int x1), (2, .int x2), (3, .int (x3 + (1 : Int32))), (4, .int s0)]) [2, 3, 4, 0, 1] rfl ?_
      exact gX11_reads_b90 X a x1 x2 (x3 + (1 : Int32)) s0 μ _ _ _ _ hf (by omega) (by omega)
def fX11_reads_b36 : Nat → Nat → Int32 → Int32 → Int32 → Int32 → JM → JO (Int32)
  | 0, _, _, _, _, _, _ => none
  | fu + 1, a, x1, x2, x3, x4, μ => if x4 = 0 then (fX11_reads_b90  a x1 x2 x3 x4 μ) else (if (24 : Int32) ≤ x3 then (jck ((jT μ a).1 == 12) <| jcl (fX11_beyond a μ) fun r12 μ13 => fX11_reads_b59 (fX11_reads_b36 fu) a x1 x2 x3 r12 μ13) else (jck ((jT μ a).1 == 12) <| jcl (fX11_clause a x3 μ) fun r22 μ23 => fX11_reads_b59 (fX11_reads_b36 fu) a x1 x2 x3 r22 μ23))
set_option maxHeartbeats 4000000 in
set_option maxRecDepth 100000 in
theorem gX11_reads_b36 {b : Nat} {Θ : JE} {RC RS : Nat} {r : Int32} {ν : JM} (X : jX b Θ RX11 cX11_reads 10 (some .boolean) 7 158 RC RS) : ∀ (fu : Nat) (a : Nat) (x1 : Int32) (x2 : Int32) (x3 : Int32) (x4 : Int32) (μ : JM) (c m k n : Nat), fX11_reads_b36 fu a x1 x2 x3 x4 μ = some (r, ν, c, m) → k + c = RC → n + m = RS → WA b Θ 10 (jE b Θ (some (.int r)) ν RC RS) μ k n 36 [(0, va_rf (some a)), (1, .int x1), (2, .int x2), (3, .int x3), (4, .int x4)] [] := by
  intro fu
  induction fu with
  | zero => intro a x1 x2 x3 x4 μ c m k n hf; cases hf
  | succ fu ih =>
    intro a x1 x2 x3 x4 μ c m k n hf hk hn
    rw [fX11_reads_b36] at hf
    refine wa_iload X 4 dX11_reads_36 rfl ?_
    refine wa_ifeq (tgt := 90) X dX11_reads_38 (by decide) (fun h9 => ?_) (fun h9 => ?_)
    · rw [if_pos h9] at hf
      refine wa_sub (L2 := [(0, va_rf (some a)), (1, .int x1), (2, .int x2), (3, .int x3), (4, .int x4)]) [0, 1, 2, 3, 4] rfl ?_
      exact gX11_reads_b90 X a x1 x2 x3 x4 μ _ _ _ _ hf (by omega) (by omega)
    · rw [if_neg h9] at hf
      refine wa_iload_n X 3 dX11_reads_41 rfl ?_
      refine wa_bipush (v := (24 : Int32)) X dX11_reads_42 (by decide) ?_
      refine wa_icge (tgt := 55) X dX11_reads_44 (by decide) (fun h10 => ?_) (fun h10 => ?_)
      · rw [if_pos h10] at hf
        refine wa_aload_n X 0 dX11_reads_55 rfl ?_
        obtain ⟨h11, hf⟩ := jckT hf
        obtain ⟨r12, μ13, c14, m15, c16, m17, e18, hf, h19, h20⟩ := jcl_some hf
        refine wa_rcallV (st2 := [.int r12]) X dX11_reads_56 lmX11_344 lMX11_beyond rfl h11 (mX11_beyond e18) rfl rfl rfl (va_cats (Nat.le_of_ble_eq_true rfl)) (by decide) (by omega) (by omega) ?_
        refine wa_sub (L2 := [(0, va_rf (some a)), (1, .int x1), (2, .int x2), (3, .int x3)]) [0, 1, 2, 3] rfl ?_
        exact gX11_reads_b59 X ih a x1 x2 x3 r12 μ13 _ _ _ _ hf (by omega) (by omega)
      · rw [if_neg h10] at hf
        refine wa_aload_n X 0 dX11_reads_47 rfl ?_
        refine wa_iload_n X 3 dX11_reads_48 rfl ?_
        obtain ⟨h21, hf⟩ := jckT hf
        obtain ⟨r22, μ23, c24, m25, c26, m27, e28, hf, h29, h30⟩ := jcl_some hf
        refine wa_rcallV (st2 := [.int r22]) X dX11_reads_49 lmX11_341 lMX11_clause rfl h21 (mX11_clause e28) rfl rfl rfl (va_cats (Nat.le_of_ble_eq_true rfl)) (by decide) (by omega) (by omega) ?_
        refine wa_goto (tgt := 59) X dX11_reads_52 (by decide) ?_
        refine wa_sub (L2 := [(0, va_rf (some a)), (1, .int x1), (2, .int x2), (3, .int x3)]) [0, 1, 2, 3] rfl ?_
        exact gX11_reads_b59 X ih a x1 x2 x3 r22 μ23 _ _ _ _ hf (by omega) (by omega)
def fX11_reads_b34 (a : Nat) (x1 : Int32) (x2 : Int32) (x3 : Int32) (s0 : Int32) (μ : JM) : JO (Int32) := fX11_reads_b36  jfuel a x1 x2 x3 s0 μ
set_option maxHeartbeats 4000000 in
set_option maxRecDepth 100000 in
theorem gX11_reads_b34 {b : Nat} {Θ : JE} {RC RS : Nat} {r : Int32} {ν : JM} (X : jX b Θ RX11 cX11_reads 10 (some .boolean) 7 158 RC RS) (a : Nat) (x1 : Int32) (x2 : Int32) (x3 : Int32) (s0 : Int32) (μ : JM) (c m k n : Nat) (hf : fX11_reads_b34 a x1 x2 x3 s0 μ = some (r, ν, c, m)) (hk : k + c = RC) (hn : n + m = RS) : WA b Θ 10 (jE b Θ (some (.int r)) ν RC RS) μ k n 34 [(0, va_rf (some a)), (1, .int x1), (2, .int x2), (3, .int x3)] [.int s0] := by
  rw [fX11_reads_b34] at hf
  refine wa_istore (L2 := [(4, .int s0), (0, va_rf (some a)), (1, .int x1), (2, .int x2), (3, .int x3)]) X dX11_reads_34 (by decide) (by first | rfl | (show (4, _) :: List.filter (fun q : Nat × Value => !(q.1 == 4) && !(q.1 + 1 == 4 && q.2.category == 2)) _ = _; simp [va_rf_cat, cat_i, cat_l])) ?_
  refine wa_sub (L2 := [(0, va_rf (some a)), (1, .int x1), (2, .int x2), (3, .int x3), (4, .int s0)]) [1, 2, 3, 4, 0] rfl ?_
  exact gX11_reads_b36 X jfuel a x1 x2 x3 s0 μ _ _ _ _ hf (by omega) (by omega)
def fX11_reads (a : Nat) (μ : JM) : JO (Int32) := jck ((jT μ a).1 == 12) <| jlt (jsI μ a 33 (1 : Int32)) fun μ2 => jlt (jsI μ2 a 29 (0 : Int32)) fun μ5 => if (jI μ5 a 18) = 0 then (fX11_reads_b34  a (jI μ5 a 5) (jI μ5 a 8) (0 : Int32) (1 : Int32) μ5) else (fX11_reads_b34  a (jI μ5 a 5) (jI μ5 a 8) (0 : Int32) (0 : Int32) μ5)
set_option maxHeartbeats 4000000 in
set_option maxRecDepth 100000 in
theorem mX11_reads {b : Nat} {a : Nat} {μ : JM} {r : Int32} {ν : JM} {c m : Nat} (hf : fX11_reads a μ = some (r, ν, c, m)) : JMet b yX11_reads cX11_reads 10 (some .boolean) 7 158 [va_rf (some a)] μ (some (.int r)) ν c m := by
  refine JMet.of (by decide) (lg_sl_le (by simp only [List.map_cons, List.map_nil, List.sum_cons, List.sum_nil, va_rf_cat]; exact Nat.le_of_ble_eq_true rfl)) (fun Θ X hin => ?_)
  refine wa_eq (L2 := [(0, va_rf (some a))]) ?_ rfl (by first | rfl | simp [lv_args, va_rf_cat, cat_i, cat_l]) rfl
  obtain ⟨k, hk0⟩ : ∃ k : Nat, k = 0 := ⟨0, rfl⟩
  obtain ⟨n, hn0⟩ : ∃ n : Nat, n = 0 := ⟨0, rfl⟩
  have hk : k + c = c := by omega
  have hn : n + m = m := by omega
  refine wa_costs hk0.symm hn0.symm ?_
  rw [fX11_reads] at hf
  refine wa_aload_n X 0 dX11_reads_0 rfl ?_
  refine wa_iconst (v := (1 : Int32)) X dX11_reads_1 (by decide) ?_
  obtain ⟨h1, hf⟩ := jckT hf
  obtain ⟨μ2, hm3, hf⟩ := jlt_e hf
  have e4 : jT μ2 = jT μ := by rw [hm3]; rfl
  refine wa_rputZ (ν := μ2) X dX11_reads_2 lfX11_280 rfl h1 rfl (by decide) rfl hm3 ?_
  refine wa_aload_n X 0 dX11_reads_5 rfl ?_
  refine wa_iconst (v := (0 : Int32)) X dX11_reads_6 (by decide) ?_
  obtain ⟨μ5, hm6, hf⟩ := jlt_e hf
  have e7 : jT μ5 = jT μ := by rw [hm6]; exact e4
  refine wa_rputI (ν := μ5) X dX11_reads_7 lfX11_284 rfl (by rw [e4]; exact h1) rfl rfl hm6 ?_
  refine wa_aload_n X 0 dX11_reads_10 rfl ?_
  refine wa_getI X dX11_reads_11 lfX11_299 rfl (by rw [e7]; exact h1) rfl ?_
  refine wa_istore_n (L2 := [(1, .int (jI μ5 a 5)), (0, va_rf (some a))]) X dX11_reads_14 (by decide) (by first | rfl | (show (1, _) :: List.filter (fun q : Nat × Value => !(q.1 == 1) && !(q.1 + 1 == 1 && q.2.category == 2)) _ = _; simp [va_rf_cat, cat_i, cat_l])) ?_
  refine wa_aload_n X 1 dX11_reads_15 rfl ?_
  refine wa_getI X dX11_reads_16 lfX11_302 rfl (by rw [e7]; exact h1) rfl ?_
  refine wa_istore_n (L2 := [(2, .int (jI μ5 a 8)), (1, .int (jI μ5 a 5)), (0, va_rf (some a))]) X dX11_reads_19 (by decide) (by first | rfl | (show (2, _) :: List.filter (fun q : Nat × Value => !(q.1 == 2) && !(q.1 + 1 == 2 && q.2.category == 2)) _ = _; simp [va_rf_cat, cat_i, cat_l])) ?_
  refine wa_iconst (v := (0 : Int32)) X dX11_reads_20 (by decide) ?_
  refine wa_istore_n (L2 := [(3, .int (0 : Int32)), (2, .int (jI μ5 a 8)), (1, .int (jI μ5 a 5)), (0, va_rf (some a))]) X dX11_reads_21 (by decide) (by first | rfl | (show (3, _) :: List.filter (fun q : Nat × Value => !(q.1 == 3) && !(q.1 + 1 == 3 && q.2.category == 2)) _ = _; simp [va_rf_cat, cat_i, cat_l])) ?_
  refine wa_aload_n X 3 dX11_reads_22 rfl ?_
  refine wa_getI X dX11_reads_23 lfX11_163 rfl (by rw [e7]; exact h1) rfl ?_
  refine wa_ifne (tgt := 33) X dX11_reads_26 (by decide) (fun h8 => ?_) (fun h8 => ?_)
  · rw [if_neg h8] at hf
    refine wa_iconst (v := (0 : Int32)) X dX11_reads_33 (by decide) ?_
    refine wa_sub (L2 := [(0, va_rf (some a)), (1, .int (jI μ5 a 5)), (2, .int (jI μ5 a 8)), (3, .int (0 : Int32))]) [3, 2, 1, 0] rfl ?_
    exact gX11_reads_b34 X a (jI μ5 a 5) (jI μ5 a 8) (0 : Int32) (0 : Int32) μ5 _ _ _ _ hf (by omega) (by omega)
  · rw [if_pos h8] at hf
    refine wa_iconst (v := (1 : Int32)) X dX11_reads_29 (by decide) ?_
    refine wa_goto (tgt := 34) X dX11_reads_30 (by decide) ?_
    refine wa_sub (L2 := [(0, va_rf (some a)), (1, .int (jI μ5 a 5)), (2, .int (jI μ5 a 8)), (3, .int (0 : Int32))]) [3, 2, 1, 0] rfl ?_
    exact gX11_reads_b34 X a (jI μ5 a 5) (jI μ5 a 8) (0 : Int32) (1 : Int32) μ5 _ _ _ _ hf (by omega) (by omega)
theorem dX11_becomes_0 : decode cX11_becomes 0 = .ok (.aload_n 0, 1) := by decide +kernel
theorem dX11_becomes_1 : decode cX11_becomes 1 = .ok (.getfield 73, 3) := by decide +kernel
theorem dX11_becomes_4 : decode cX11_becomes 4 = .ok (.iload_n 1, 1) := by decide +kernel
theorem dX11_becomes_5 : decode cX11_becomes 5 = .ok (.aload_n 0, 1) := by decide +kernel
theorem dX11_becomes_6 : decode cX11_becomes 6 = .ok (.getfield 73, 3) := by decide +kernel
theorem dX11_becomes_9 : decode cX11_becomes 9 = .ok (.iconst 4, 1) := by decide +kernel
theorem dX11_becomes_10 : decode cX11_becomes 10 = .ok (.iaload, 1) := by decide +kernel
theorem dX11_becomes_11 : decode cX11_becomes 11 = .ok (.iastore, 1) := by decide +kernel
theorem dX11_becomes_12 : decode cX11_becomes 12 = .ok (.iconst 0, 1) := by decide +kernel
theorem dX11_becomes_13 : decode cX11_becomes 13 = .ok (.istore_n 2, 1) := by decide +kernel
theorem dX11_becomes_14 : decode cX11_becomes 14 = .ok (.iload_n 2, 1) := by decide +kernel
theorem dX11_becomes_15 : decode cX11_becomes 15 = .ok (.aload_n 0, 1) := by decide +kernel
theorem dX11_becomes_16 : decode cX11_becomes 16 = .ok (.getfield 73, 3) := by decide +kernel
theorem dX11_becomes_19 : decode cX11_becomes 19 = .ok (.iload_n 1, 1) := by decide +kernel
theorem dX11_becomes_20 : decode cX11_becomes 20 = .ok (.iaload, 1) := by decide +kernel
theorem dX11_becomes_21 : decode cX11_becomes 21 = .ok (.if_icmp .ge 205, 3) := by decide +kernel
theorem dX11_becomes_24 : decode cX11_becomes 24 = .ok (.bipush 96, 2) := by decide +kernel
theorem dX11_becomes_26 : decode cX11_becomes 26 = .ok (.iload_n 2, 1) := by decide +kernel
theorem dX11_becomes_27 : decode cX11_becomes 27 = .ok (.iadd, 1) := by decide +kernel
theorem dX11_becomes_28 : decode cX11_becomes 28 = .ok (.istore_n 3, 1) := by decide +kernel
theorem dX11_becomes_29 : decode cX11_becomes 29 = .ok (.bipush 24, 2) := by decide +kernel
theorem dX11_becomes_31 : decode cX11_becomes 31 = .ok (.iload_n 1, 1) := by decide +kernel
theorem dX11_becomes_32 : decode cX11_becomes 32 = .ok (.imul, 1) := by decide +kernel
theorem dX11_becomes_33 : decode cX11_becomes 33 = .ok (.iload_n 2, 1) := by decide +kernel
theorem dX11_becomes_34 : decode cX11_becomes 34 = .ok (.iadd, 1) := by decide +kernel
theorem dX11_becomes_35 : decode cX11_becomes 35 = .ok (.istore 4, 2) := by decide +kernel
theorem dX11_becomes_37 : decode cX11_becomes 37 = .ok (.aload_n 0, 1) := by decide +kernel
theorem dX11_becomes_38 : decode cX11_becomes 38 = .ok (.getfield 76, 3) := by decide +kernel
theorem dX11_becomes_41 : decode cX11_becomes 41 = .ok (.iload 4, 2) := by decide +kernel
theorem dX11_becomes_43 : decode cX11_becomes 43 = .ok (.aload_n 0, 1) := by decide +kernel
theorem dX11_becomes_44 : decode cX11_becomes 44 = .ok (.getfield 76, 3) := by decide +kernel
theorem dX11_becomes_47 : decode cX11_becomes 47 = .ok (.iload_n 3, 1) := by decide +kernel
theorem dX11_becomes_48 : decode cX11_becomes 48 = .ok (.iaload, 1) := by decide +kernel
theorem dX11_becomes_49 : decode cX11_becomes 49 = .ok (.iastore, 1) := by decide +kernel
theorem dX11_becomes_50 : decode cX11_becomes 50 = .ok (.aload_n 0, 1) := by decide +kernel
theorem dX11_becomes_51 : decode cX11_becomes 51 = .ok (.getfield 79, 3) := by decide +kernel
theorem dX11_becomes_54 : decode cX11_becomes 54 = .ok (.iload 4, 2) := by decide +kernel
theorem dX11_becomes_56 : decode cX11_becomes 56 = .ok (.aload_n 0, 1) := by decide +kernel
theorem dX11_becomes_57 : decode cX11_becomes 57 = .ok (.getfield 79, 3) := by decide +kernel
theorem dX11_becomes_60 : decode cX11_becomes 60 = .ok (.iload_n 3, 1) := by decide +kernel
theorem dX11_becomes_61 : decode cX11_becomes 61 = .ok (.iaload, 1) := by decide +kernel
theorem dX11_becomes_62 : decode cX11_becomes 62 = .ok (.iastore, 1) := by decide +kernel
theorem dX11_becomes_63 : decode cX11_becomes 63 = .ok (.aload_n 0, 1) := by decide +kernel
theorem dX11_becomes_64 : decode cX11_becomes 64 = .ok (.getfield 82, 3) := by decide +kernel
theorem dX11_becomes_67 : decode cX11_becomes 67 = .ok (.iload 4, 2) := by decide +kernel
theorem dX11_becomes_69 : decode cX11_becomes 69 = .ok (.aload_n 0, 1) := by decide +kernel
theorem dX11_becomes_70 : decode cX11_becomes 70 = .ok (.getfield 82, 3) := by decide +kernel
theorem dX11_becomes_73 : decode cX11_becomes 73 = .ok (.iload_n 3, 1) := by decide +kernel
theorem dX11_becomes_74 : decode cX11_becomes 74 = .ok (.iaload, 1) := by decide +kernel
theorem dX11_becomes_75 : decode cX11_becomes 75 = .ok (.iastore, 1) := by decide +kernel
theorem dX11_becomes_76 : decode cX11_becomes 76 = .ok (.aload_n 0, 1) := by decide +kernel
theorem dX11_becomes_77 : decode cX11_becomes 77 = .ok (.getfield 85, 3) := by decide +kernel
theorem dX11_becomes_80 : decode cX11_becomes 80 = .ok (.iload 4, 2) := by decide +kernel
theorem dX11_becomes_82 : decode cX11_becomes 82 = .ok (.aload_n 0, 1) := by decide +kernel
theorem dX11_becomes_83 : decode cX11_becomes 83 = .ok (.getfield 85, 3) := by decide +kernel
theorem dX11_becomes_86 : decode cX11_becomes 86 = .ok (.iload_n 3, 1) := by decide +kernel
theorem dX11_becomes_87 : decode cX11_becomes 87 = .ok (.iaload, 1) := by decide +kernel
theorem dX11_becomes_88 : decode cX11_becomes 88 = .ok (.iastore, 1) := by decide +kernel
theorem dX11_becomes_89 : decode cX11_becomes 89 = .ok (.aload_n 0, 1) := by decide +kernel
theorem dX11_becomes_90 : decode cX11_becomes 90 = .ok (.getfield 88, 3) := by decide +kernel
theorem dX11_becomes_93 : decode cX11_becomes 93 = .ok (.iload 4, 2) := by decide +kernel
theorem dX11_becomes_95 : decode cX11_becomes 95 = .ok (.aload_n 0, 1) := by decide +kernel
theorem dX11_becomes_96 : decode cX11_becomes 96 = .ok (.getfield 88, 3) := by decide +kernel
theorem dX11_becomes_99 : decode cX11_becomes 99 = .ok (.iload_n 3, 1) := by decide +kernel
theorem dX11_becomes_100 : decode cX11_becomes 100 = .ok (.iaload, 1) := by decide +kernel
theorem dX11_becomes_101 : decode cX11_becomes 101 = .ok (.iastore, 1) := by decide +kernel
theorem dX11_becomes_102 : decode cX11_becomes 102 = .ok (.aload_n 0, 1) := by decide +kernel
theorem dX11_becomes_103 : decode cX11_becomes 103 = .ok (.getfield 91, 3) := by decide +kernel
theorem dX11_becomes_106 : decode cX11_becomes 106 = .ok (.iload 4, 2) := by decide +kernel
theorem dX11_becomes_108 : decode cX11_becomes 108 = .ok (.aload_n 0, 1) := by decide +kernel
theorem dX11_becomes_109 : decode cX11_becomes 109 = .ok (.getfield 91, 3) := by decide +kernel
theorem dX11_becomes_112 : decode cX11_becomes 112 = .ok (.iload_n 3, 1) := by decide +kernel
theorem dX11_becomes_113 : decode cX11_becomes 113 = .ok (.iaload, 1) := by decide +kernel
theorem dX11_becomes_114 : decode cX11_becomes 114 = .ok (.iastore, 1) := by decide +kernel
theorem dX11_becomes_115 : decode cX11_becomes 115 = .ok (.aload_n 0, 1) := by decide +kernel
theorem dX11_becomes_116 : decode cX11_becomes 116 = .ok (.getfield 94, 3) := by decide +kernel
theorem dX11_becomes_119 : decode cX11_becomes 119 = .ok (.iload 4, 2) := by decide +kernel
theorem dX11_becomes_121 : decode cX11_becomes 121 = .ok (.aload_n 0, 1) := by decide +kernel
theorem dX11_becomes_122 : decode cX11_becomes 122 = .ok (.getfield 94, 3) := by decide +kernel
theorem dX11_becomes_125 : decode cX11_becomes 125 = .ok (.iload_n 3, 1) := by decide +kernel
theorem dX11_becomes_126 : decode cX11_becomes 126 = .ok (.iaload, 1) := by decide +kernel
theorem dX11_becomes_127 : decode cX11_becomes 127 = .ok (.iastore, 1) := by decide +kernel
theorem dX11_becomes_128 : decode cX11_becomes 128 = .ok (.aload_n 0, 1) := by decide +kernel
theorem dX11_becomes_129 : decode cX11_becomes 129 = .ok (.getfield 100, 3) := by decide +kernel
theorem dX11_becomes_132 : decode cX11_becomes 132 = .ok (.iload 4, 2) := by decide +kernel
theorem dX11_becomes_134 : decode cX11_becomes 134 = .ok (.aload_n 0, 1) := by decide +kernel
theorem dX11_becomes_135 : decode cX11_becomes 135 = .ok (.getfield 100, 3) := by decide +kernel
theorem dX11_becomes_138 : decode cX11_becomes 138 = .ok (.iload_n 3, 1) := by decide +kernel
theorem dX11_becomes_139 : decode cX11_becomes 139 = .ok (.iaload, 1) := by decide +kernel
theorem dX11_becomes_140 : decode cX11_becomes 140 = .ok (.iastore, 1) := by decide +kernel
theorem dX11_becomes_141 : decode cX11_becomes 141 = .ok (.iconst 0, 1) := by decide +kernel
theorem dX11_becomes_142 : decode cX11_becomes 142 = .ok (.istore 5, 2) := by decide +kernel
theorem dX11_becomes_144 : decode cX11_becomes 144 = .ok (.iload 5, 2) := by decide +kernel
theorem dX11_becomes_146 : decode cX11_becomes 146 = .ok (.bipush 12, 2) := by decide +kernel
theorem dX11_becomes_148 : decode cX11_becomes 148 = .ok (.if_icmp .ge 34, 3) := by decide +kernel
theorem dX11_becomes_151 : decode cX11_becomes 151 = .ok (.aload_n 0, 1) := by decide +kernel
theorem dX11_becomes_152 : decode cX11_becomes 152 = .ok (.getfield 97, 3) := by decide +kernel
theorem dX11_becomes_155 : decode cX11_becomes 155 = .ok (.bipush 12, 2) := by decide +kernel
theorem dX11_becomes_157 : decode cX11_becomes 157 = .ok (.iload 4, 2) := by decide +kernel
theorem dX11_becomes_159 : decode cX11_becomes 159 = .ok (.imul, 1) := by decide +kernel
theorem dX11_becomes_160 : decode cX11_becomes 160 = .ok (.iload 5, 2) := by decide +kernel
theorem dX11_becomes_162 : decode cX11_becomes 162 = .ok (.iadd, 1) := by decide +kernel
theorem dX11_becomes_163 : decode cX11_becomes 163 = .ok (.aload_n 0, 1) := by decide +kernel
theorem dX11_becomes_164 : decode cX11_becomes 164 = .ok (.getfield 97, 3) := by decide +kernel
theorem dX11_becomes_167 : decode cX11_becomes 167 = .ok (.bipush 12, 2) := by decide +kernel
theorem dX11_becomes_169 : decode cX11_becomes 169 = .ok (.iload_n 3, 1) := by decide +kernel
theorem dX11_becomes_170 : decode cX11_becomes 170 = .ok (.imul, 1) := by decide +kernel
theorem dX11_becomes_171 : decode cX11_becomes 171 = .ok (.iload 5, 2) := by decide +kernel
theorem dX11_becomes_173 : decode cX11_becomes 173 = .ok (.iadd, 1) := by decide +kernel
theorem dX11_becomes_174 : decode cX11_becomes 174 = .ok (.baload, 1) := by decide +kernel
theorem dX11_becomes_175 : decode cX11_becomes 175 = .ok (.bastore, 1) := by decide +kernel
theorem dX11_becomes_176 : decode cX11_becomes 176 = .ok (.iinc 5 1, 3) := by decide +kernel
theorem dX11_becomes_179 : decode cX11_becomes 179 = .ok (.goto (-35), 3) := by decide +kernel
theorem dX11_becomes_182 : decode cX11_becomes 182 = .ok (.iconst 0, 1) := by decide +kernel
theorem dX11_becomes_183 : decode cX11_becomes 183 = .ok (.istore 5, 2) := by decide +kernel
theorem dX11_becomes_185 : decode cX11_becomes 185 = .ok (.iload 5, 2) := by decide +kernel
theorem dX11_becomes_187 : decode cX11_becomes 187 = .ok (.iconst 4, 1) := by decide +kernel
theorem dX11_becomes_188 : decode cX11_becomes 188 = .ok (.if_icmp .ge 32, 3) := by decide +kernel
theorem dX11_becomes_191 : decode cX11_becomes 191 = .ok (.aload_n 0, 1) := by decide +kernel
theorem dX11_becomes_192 : decode cX11_becomes 192 = .ok (.getfield 103, 3) := by decide +kernel
theorem dX11_becomes_195 : decode cX11_becomes 195 = .ok (.iconst 4, 1) := by decide +kernel
theorem dX11_becomes_196 : decode cX11_becomes 196 = .ok (.iload 4, 2) := by decide +kernel
theorem dX11_becomes_198 : decode cX11_becomes 198 = .ok (.imul, 1) := by decide +kernel
theorem dX11_becomes_199 : decode cX11_becomes 199 = .ok (.iload 5, 2) := by decide +kernel
theorem dX11_becomes_201 : decode cX11_becomes 201 = .ok (.iadd, 1) := by decide +kernel
theorem dX11_becomes_202 : decode cX11_becomes 202 = .ok (.aload_n 0, 1) := by decide +kernel
theorem dX11_becomes_203 : decode cX11_becomes 203 = .ok (.getfield 103, 3) := by decide +kernel
theorem dX11_becomes_206 : decode cX11_becomes 206 = .ok (.iconst 4, 1) := by decide +kernel
theorem dX11_becomes_207 : decode cX11_becomes 207 = .ok (.iload_n 3, 1) := by decide +kernel
theorem dX11_becomes_208 : decode cX11_becomes 208 = .ok (.imul, 1) := by decide +kernel
theorem dX11_becomes_209 : decode cX11_becomes 209 = .ok (.iload 5, 2) := by decide +kernel
theorem dX11_becomes_211 : decode cX11_becomes 211 = .ok (.iadd, 1) := by decide +kernel
theorem dX11_becomes_212 : decode cX11_becomes 212 = .ok (.laload, 1) := by decide +kernel
theorem dX11_becomes_213 : decode cX11_becomes 213 = .ok (.lastore, 1) := by decide +kernel
theorem dX11_becomes_214 : decode cX11_becomes 214 = .ok (.iinc 5 1, 3) := by decide +kernel
theorem dX11_becomes_217 : decode cX11_becomes 217 = .ok (.goto (-32), 3) := by decide +kernel
theorem dX11_becomes_220 : decode cX11_becomes 220 = .ok (.iinc 2 1, 3) := by decide +kernel
theorem dX11_becomes_223 : decode cX11_becomes 223 = .ok (.goto (-209), 3) := by decide +kernel
theorem dX11_becomes_226 : decode cX11_becomes 226 = .ok (.return_, 1) := by decide +kernel
def fX11_becomes_b185 (rec14 : Nat → Int32 → Int32 → JM → JO (Unit)) : Nat → Nat → Int32 → Int32 → Int32 → Int32 → Int32 → JM → JO (Unit)
  | 0, _, _, _, _, _, _, _ => none
  | fu + 1, a, x1, x2, x3, x4, x5, μ => if (4 : Int32) ≤ x5 then (rec14 a x1 (x2 + (1 : Int32)) μ) else (jck ((jT μ a).1 == 12) <| jde (jP μ a 44) fun q92 => jck ((jT μ q92).1 == 102) <| jck (jin (((4 : Int32) * x3) + x5) (jT μ q92).2) <| jck (jin (((4 : Int32) * x4) + x5) (jT μ q92).2) <| jlt (jsJ μ q92 ((((4 : Int32) * x4) + x5)).toNatClampNeg (jJ μ q92 ((((4 : Int32) * x3) + x5)).toNatClampNeg)) fun μ97 => fX11_becomes_b185 rec14 fu a x1 x2 x3 x4 (x5 + (1 : Int32)) μ97)
set_option maxHeartbeats 4000000 in
set_option maxRecDepth 100000 in
theorem gX11_becomes_b185 {b : Nat} {Θ : JE} {RC RS : Nat} {r : Unit} {ν : JM} (X : jX b Θ RX11 cX11_becomes 6 none 0 0 RC RS) {rec14 : Nat → Int32 → Int32 → JM → JO (Unit)} (hrec14 : ∀ (a : Nat) (x1 : Int32) (x2 : Int32) (μ : JM) (c m k n : Nat), rec14 a x1 x2 μ = some (r, ν, c, m) → k + c = RC → n + m = RS → WA b Θ 6 (jE b Θ (none) ν RC RS) μ k n 14 [(0, va_rf (some a)), (1, .int x1), (2, .int x2)] []) : ∀ (fu : Nat) (a : Nat) (x1 : Int32) (x2 : Int32) (x3 : Int32) (x4 : Int32) (x5 : Int32) (μ : JM) (c m k n : Nat), fX11_becomes_b185 rec14 fu a x1 x2 x3 x4 x5 μ = some (r, ν, c, m) → k + c = RC → n + m = RS → WA b Θ 6 (jE b Θ (none) ν RC RS) μ k n 185 [(0, va_rf (some a)), (1, .int x1), (2, .int x2), (3, .int x3), (4, .int x4), (5, .int x5)] [] := by
  intro fu
  induction fu with
  | zero => intro a x1 x2 x3 x4 x5 μ c m k n hf; cases hf
  | succ fu ih =>
    intro a x1 x2 x3 x4 x5 μ c m k n hf hk hn
    rw [fX11_becomes_b185] at hf
    refine wa_iload X 5 dX11_becomes_185 rfl ?_
    refine wa_iconst (v := (4 : Int32)) X dX11_becomes_187 (by decide) ?_
    refine wa_icge (tgt := 220) X dX11_becomes_188 (by decide) (fun h90 => ?_) (fun h90 => ?_)
    · rw [if_pos h90] at hf
      refine wa_iinc (v := (x2 + (1 : Int32))) (L2 := [(2, .int (x2 + (1 : Int32))), (0, va_rf (some a)), (1, .int x1), (3, .int x3), (4, .int x4), (5, .int x5)]) X 2 dX11_becomes_220 rfl rfl (by decide) (by first | rfl | simp [va_rf_cat, cat_i, cat_l]) ?_
      refine wa_goto (tgt := 14) X dX11_becomes_223 (by decide) ?_
      refine wa_sub (L2 := [(0, va_rf (some a)), (1, .int x1), (2, .int (x2 + (1 : Int32)))]) [1, 2, 0] rfl ?_
      exact hrec14 a x1 (x2 + (1 : Int32)) μ _ _ _ _ hf (by omega) (by omega)
    · rw [if_neg h90] at hf
      refine wa_aload_n X 0 dX11_becomes_191 rfl ?_
      obtain ⟨h91, hf⟩ := jckT hf
      refine wa_getP X dX11_becomes_192 lfX11_103 rfl h91 rfl ?_
      refine wa_iconst (v := (4 : Int32)) X dX11_becomes_195 (by decide) ?_
      refine wa_iload X 4 dX11_becomes_196 rfl ?_
      refine wa_imul X dX11_becomes_198 ?_
      refine wa_iload X 5 dX11_becomes_199 rfl ?_
      refine wa_iadd X dX11_becomes_201 ?_
      refine wa_aload_n X 0 dX11_becomes_202 rfl ?_
      refine wa_getP X dX11_becomes_203 lfX11_103 rfl h91 rfl ?_
      refine wa_iconst (v := (4 : Int32)) X dX11_becomes_206 (by decide) ?_
      refine wa_iload_n X 3 dX11_becomes_207 rfl ?_
      refine wa_imul X dX11_becomes_208 ?_
      refine wa_iload X 5 dX11_becomes_209 rfl ?_
      refine wa_iadd X dX11_becomes_211 ?_
      obtain ⟨q92, h93, hf⟩ := jde_some hf
      obtain ⟨h94, hf⟩ := jckT hf
      obtain ⟨h95, hf⟩ := jck_some hf
      refine wa_rlald X dX11_becomes_212 h93 h94 h95 ?_
      obtain ⟨h96, hf⟩ := jck_some hf
      obtain ⟨μ97, hm98, hf⟩ := jlt_e hf
      have e99 : jT μ97 = jT μ := by rw [hm98]; rfl
      refine wa_rlast (ν := μ97) X dX11_becomes_213 h93 h94 h96 hm98 ?_
      refine wa_iinc (v := (x5 + (1 : Int32))) (L2 := [(5, .int (x5 + (1 : Int32))), (0, va_rf (some a)), (1, .int x1), (2, .int x2), (3, .int x3), (4, .int x4)]) X 5 dX11_becomes_214 rfl rfl (by decide) (by first | rfl | simp [va_rf_cat, cat_i, cat_l]) ?_
      refine wa_goto (tgt := 185) X dX11_becomes_217 (by decide) ?_
      refine wa_sub (L2 := [(0, va_rf (some a)), (1, .int x1), (2, .int x2), (3, .int x3), (4, .int x4), (5, .int (x5 + (1 : Int32)))]) [1, 2, 3, 4, 5, 0] rfl ?_
      exact ih a x1 x2 x3 x4 (x5 + (1 : Int32)) μ97 _ _ _ _ hf (by omega) (by omega)
def fX11_becomes_b144 (rec14 : Nat → Int32 → Int32 → JM → JO (Unit)) : Nat → Nat → Int32 → Int32 → Int32 → Int32 → Int32 → JM → JO (Unit)
  | 0, _, _, _, _, _, _, _ => none
  | fu + 1, a, x1, x2, x3, x4, x5, μ => if (12 : Int32) ≤ x5 then (fX11_becomes_b185 rec14 jfuel a x1 x2 x3 x4 (0 : Int32) μ) else (jck ((jT μ a).1 == 12) <| jde (jP μ a 42) fun q82 => jck ((jT μ q82).1 == 100) <| jck (jin (((12 : Int32) * x3) + x5) (jT μ q82).2) <| jck (jin (((12 : Int32) * x4) + x5) (jT μ q82).2) <| jlt (jsI μ q82 ((((12 : Int32) * x4) + x5)).toNatClampNeg (vp_nar .byte (jI μ q82 ((((12 : Int32) * x3) + x5)).toNatClampNeg))) fun μ87 => fX11_becomes_b144 rec14 fu a x1 x2 x3 x4 (x5 + (1 : Int32)) μ87)
set_option maxHeartbeats 4000000 in
set_option maxRecDepth 100000 in
theorem gX11_becomes_b144 {b : Nat} {Θ : JE} {RC RS : Nat} {r : Unit} {ν : JM} (X : jX b Θ RX11 cX11_becomes 6 none 0 0 RC RS) {rec14 : Nat → Int32 → Int32 → JM → JO (Unit)} (hrec14 : ∀ (a : Nat) (x1 : Int32) (x2 : Int32) (μ : JM) (c m k n : Nat), rec14 a x1 x2 μ = some (r, ν, c, m) → k + c = RC → n + m = RS → WA b Θ 6 (jE b Θ (none) ν RC RS) μ k n 14 [(0, va_rf (some a)), (1, .int x1), (2, .int x2)] []) : ∀ (fu : Nat) (a : Nat) (x1 : Int32) (x2 : Int32) (x3 : Int32) (x4 : Int32) (x5 : Int32) (μ : JM) (c m k n : Nat), fX11_becomes_b144 rec14 fu a x1 x2 x3 x4 x5 μ = some (r, ν, c, m) → k + c = RC → n + m = RS → WA b Θ 6 (jE b Θ (none) ν RC RS) μ k n 144 [(0, va_rf (some a)), (1, .int x1), (2, .int x2), (3, .int x3), (4, .int x4), (5, .int x5)] [] := by
  intro fu
  induction fu with
  | zero => intro a x1 x2 x3 x4 x5 μ c m k n hf; cases hf
  | succ fu ih =>
    intro a x1 x2 x3 x4 x5 μ c m k n hf hk hn
    rw [fX11_becomes_b144] at hf
    refine wa_iload X 5 dX11_becomes_144 rfl ?_
    refine wa_bipush (v := (12 : Int32)) X dX11_becomes_146 (by decide) ?_
    refine wa_icge (tgt := 182) X dX11_becomes_148 (by decide) (fun h80 => ?_) (fun h80 => ?_)
    · rw [if_pos h80] at hf
      refine wa_iconst (v := (0 : Int32)) X dX11_becomes_182 (by decide) ?_
      refine wa_istore (L2 := [(5, .int (0 : Int32)), (0, va_rf (some a)), (1, .int x1), (2, .int x2), (3, .int x3), (4, .int x4)]) X dX11_becomes_183 (by decide) (by first | rfl | (show (5, _) :: List.filter (fun q : Nat × Value => !(q.1 == 5) && !(q.1 + 1 == 5 && q.2.category == 2)) _ = _; simp [va_rf_cat, cat_i, cat_l])) ?_
      refine wa_sub (L2 := [(0, va_rf (some a)), (1, .int x1), (2, .int x2), (3, .int x3), (4, .int x4), (5, .int (0 : Int32))]) [1, 2, 3, 4, 5, 0] rfl ?_
      exact gX11_becomes_b185 X hrec14 jfuel a x1 x2 x3 x4 (0 : Int32) μ _ _ _ _ hf (by omega) (by omega)
    · rw [if_neg h80] at hf
      refine wa_aload_n X 0 dX11_becomes_151 rfl ?_
      obtain ⟨h81, hf⟩ := jckT hf
      refine wa_getP X dX11_becomes_152 lfX11_97 rfl h81 rfl ?_
      refine wa_bipush (v := (12 : Int32)) X dX11_becomes_155 (by decide) ?_
      refine wa_iload X 4 dX11_becomes_157 rfl ?_
      refine wa_imul X dX11_becomes_159 ?_
      refine wa_iload X 5 dX11_becomes_160 rfl ?_
      refine wa_iadd X dX11_becomes_162 ?_
      refine wa_aload_n X 0 dX11_becomes_163 rfl ?_
      refine wa_getP X dX11_becomes_164 lfX11_97 rfl h81 rfl ?_
      refine wa_bipush (v := (12 : Int32)) X dX11_becomes_167 (by decide) ?_
      refine wa_iload_n X 3 dX11_becomes_169 rfl ?_
      refine wa_imul X dX11_becomes_170 ?_
      refine wa_iload X 5 dX11_becomes_171 rfl ?_
      refine wa_iadd X dX11_becomes_173 ?_
      obtain ⟨q82, h83, hf⟩ := jde_some hf
      obtain ⟨h84, hf⟩ := jckT hf
      obtain ⟨h85, hf⟩ := jck_some hf
      refine wa_rbald X dX11_becomes_174 h83 h84 h85 ?_
      obtain ⟨h86, hf⟩ := jck_some hf
      obtain ⟨μ87, hm88, hf⟩ := jlt_e hf
      have e89 : jT μ87 = jT μ := by rw [hm88]; rfl
      refine wa_rbast (ν := μ87) X dX11_becomes_175 h83 h84 h86 hm88 ?_
      refine wa_iinc (v := (x5 + (1 : Int32))) (L2 := [(5, .int (x5 + (1 : Int32))), (0, va_rf (some a)), (1, .int x1), (2, .int x2), (3, .int x3), (4, .int x4)]) X 5 dX11_becomes_176 rfl rfl (by decide) (by first | rfl | simp [va_rf_cat, cat_i, cat_l]) ?_
      refine wa_goto (tgt := 144) X dX11_becomes_179 (by decide) ?_
      refine wa_sub (L2 := [(0, va_rf (some a)), (1, .int x1), (2, .int x2), (3, .int x3), (4, .int x4), (5, .int (x5 + (1 : Int32)))]) [1, 2, 3, 4, 5, 0] rfl ?_
      exact ih a x1 x2 x3 x4 (x5 + (1 : Int32)) μ87 _ _ _ _ hf (by omega) (by omega)
def fX11_becomes_b14 : Nat → Nat → Int32 → Int32 → JM → JO (Unit)
  | 0, _, _, _, _ => none
  | fu + 1, a, x1, x2, μ => jck ((jT μ a).1 == 12) <| jde (jP μ a 34) fun q11 => jck ((jT μ q11).1 == 101) <| jck (jin x1 (jT μ q11).2) <| if (jI μ q11 (x1).toNatClampNeg) ≤ x2 then (some ((), μ, 0, 0)) else (jde (jP μ a 35) fun q16 => jck ((jT μ q16).1 == 101) <| jck (jin ((96 : Int32) + x2) (jT μ q16).2) <| jck (jin (((24 : Int32) * x1) + x2) (jT μ q16).2) <| jlt (jsI μ q16 ((((24 : Int32) * x1) + x2)).toNatClampNeg (jI μ q16 (((96 : Int32) + x2)).toNatClampNeg)) fun μ21 => jde (jP μ21 a 36) fun q24 => jck ((jT μ q24).1 == 101) <| jck (jin ((96 : Int32) + x2) (jT μ q24).2) <| jck (jin (((24 : Int32) * x1) + x2) (jT μ q24).2) <| jlt (jsI μ21 q24 ((((24 : Int32) * x1) + x2)).toNatClampNeg (jI μ21 q24 (((96 : Int32) + x2)).toNatClampNeg)) fun μ29 => jde (jP μ29 a 37) fun q32 => jck ((jT μ q32).1 == 101) <| jck (jin ((96 : Int32) + x2) (jT μ q32).2) <| jck (jin (((24 : Int32) * x1) + x2) (jT μ q32).2) <| jlt (jsI μ29 q32 ((((24 : Int32) * x1) + x2)).toNatClampNeg (jI μ29 q32 (((96 : Int32) + x2)).toNatClampNeg)) fun μ37 => jde (jP μ37 a 38) fun q40 => jck ((jT μ q40).1 == 101) <| jck (jin ((96 : Int32) + x2) (jT μ q40).2) <| jck (jin (((24 : Int32) * x1) + x2) (jT μ q40).2) <| jlt (jsI μ37 q40 ((((24 : Int32) * x1) + x2)).toNatClampNeg (jI μ37 q40 (((96 : Int32) + x2)).toNatClampNeg)) fun μ45 => jde (jP μ45 a 39) fun q48 => jck ((jT μ q48).1 == 101) <| jck (jin ((96 : Int32) + x2) (jT μ q48).2) <| jck (jin (((24 : Int32) * x1) + x2) (jT μ q48).2) <| jlt (jsI μ45 q48 ((((24 : Int32) * x1) + x2)).toNatClampNeg (jI μ45 q48 (((96 : Int32) + x2)).toNatClampNeg)) fun μ53 => jde (jP μ53 a 40) fun q56 => jck ((jT μ q56).1 == 101) <| jck (jin ((96 : Int32) + x2) (jT μ q56).2) <| jck (jin (((24 : Int32) * x1) + x2) (jT μ q56).2) <| jlt (jsI μ53 q56 ((((24 : Int32) * x1) + x2)).toNatClampNeg (jI μ53 q56 (((96 : Int32) + x2)).toNatClampNeg)) fun μ61 => jde (jP μ61 a 41) fun q64 => jck ((jT μ q64).1 == 101) <| jck (jin ((96 : Int32) + x2) (jT μ q64).2) <| jck (jin (((24 : Int32) * x1) + x2) (jT μ q64).2) <| jlt (jsI μ61 q64 ((((24 : Int32) * x1) + x2)).toNatClampNeg (jI μ61 q64 (((96 : Int32) + x2)).toNatClampNeg)) fun μ69 => jde (jP μ69 a 43) fun q72 => jck ((jT μ q72).1 == 101) <| jck (jin ((96 : Int32) + x2) (jT μ q72).2) <| jck (jin (((24 : Int32) * x1) + x2) (jT μ q72).2) <| jlt (jsI μ69 q72 ((((24 : Int32) * x1) + x2)).toNatClampNeg (jI μ69 q72 (((96 : Int32) + x2)).toNatClampNeg)) fun μ77 => fX11_becomes_b144 (fX11_becomes_b14 fu) jfuel a x1 x2 ((96 : Int32) + x2) (((24 : Int32) * x1) + x2) (0 : Int32) μ77)
set_option maxHeartbeats 4000000 in
set_option maxRecDepth 100000 in
theorem gX11_becomes_b14 {b : Nat} {Θ : JE} {RC RS : Nat} {r : Unit} {ν : JM} (X : jX b Θ RX11 cX11_becomes 6 none 0 0 RC RS) : ∀ (fu : Nat) (a : Nat) (x1 : Int32) (x2 : Int32) (μ : JM) (c m k n : Nat), fX11_becomes_b14 fu a x1 x2 μ = some (r, ν, c, m) → k + c = RC → n + m = RS → WA b Θ 6 (jE b Θ (none) ν RC RS) μ k n 14 [(0, va_rf (some a)), (1, .int x1), (2, .int x2)] [] := by
  intro fu
  induction fu with
  | zero => intro a x1 x2 μ c m k n hf; cases hf
  | succ fu ih =>
    intro a x1 x2 μ c m k n hf hk hn
    rw [fX11_becomes_b14] at hf
    refine wa_iload_n X 2 dX11_becomes_14 rfl ?_
    refine wa_aload_n X 0 dX11_becomes_15 rfl ?_
    obtain ⟨h10, hf⟩ := jckT hf
    refine wa_getP X dX11_becomes_16 lfX11_73 rfl h10 rfl ?_
    refine wa_iload_n X 1 dX11_becomes_19 rfl ?_
    obtain ⟨q11, h12, hf⟩ := jde_some hf
    obtain ⟨h13, hf⟩ := jckT hf
    obtain ⟨h14, hf⟩ := jck_some hf
    refine wa_riald X dX11_becomes_20 h12 h13 h14 ?_
    refine wa_icge (tgt := 226) X dX11_becomes_21 (by decide) (fun h15 => ?_) (fun h15 => ?_)
    · rw [if_pos h15] at hf
      obtain ⟨rfl, rfl, rfl, rfl⟩ := jret hf
      exact wa_vret X dX11_becomes_226 (by omega) (by omega)
    · rw [if_neg h15] at hf
      refine wa_bipush (v := (96 : Int32)) X dX11_becomes_24 (by decide) ?_
      refine wa_iload_n X 2 dX11_becomes_26 rfl ?_
      refine wa_iadd X dX11_becomes_27 ?_
      refine wa_istore_n (L2 := [(3, .int ((96 : Int32) + x2)), (0, va_rf (some a)), (1, .int x1), (2, .int x2)]) X dX11_becomes_28 (by decide) (by first | rfl | (show (3, _) :: List.filter (fun q : Nat × Value => !(q.1 == 3) && !(q.1 + 1 == 3 && q.2.category == 2)) _ = _; simp [va_rf_cat, cat_i, cat_l])) ?_
      refine wa_bipush (v := (24 : Int32)) X dX11_becomes_29 (by decide) ?_
      refine wa_iload_n X 2 dX11_becomes_31 rfl ?_
      refine wa_imul X dX11_becomes_32 ?_
      refine wa_iload_n X 3 dX11_becomes_33 rfl ?_
      refine wa_iadd X dX11_becomes_34 ?_
      refine wa_istore (L2 := [(4, .int (((24 : Int32) * x1) + x2)), (3, .int ((96 : Int32) + x2)), (0, va_rf (some a)), (1, .int x1), (2, .int x2)]) X dX11_becomes_35 (by decide) (by first | rfl | (show (4, _) :: List.filter (fun q : Nat × Value => !(q.1 == 4) && !(q.1 + 1 == 4 && q.2.category == 2)) _ = _; simp [va_rf_cat, cat_i, cat_l])) ?_
      refine wa_aload_n X 2 dX11_becomes_37 rfl ?_
      refine wa_getP X dX11_becomes_38 lfX11_76 rfl h10 rfl ?_
      refine wa_iload X 0 dX11_becomes_41 rfl ?_
      refine wa_aload_n X 2 dX11_becomes_43 rfl ?_
      refine wa_getP X dX11_becomes_44 lfX11_76 rfl h10 rfl ?_
      refine wa_iload_n X 1 dX11_becomes_47 rfl ?_
      obtain ⟨q16, h17, hf⟩ := jde_some hf
      obtain ⟨h18, hf⟩ := jckT hf
      obtain ⟨h19, hf⟩ := jck_some hf
      refine wa_riald X dX11_becomes_48 h17 h18 h19 ?_
      obtain ⟨h20, hf⟩ := jck_some hf
      obtain ⟨μ21, hm22, hf⟩ := jlt_e hf
      have e23 : jT μ21 = jT μ := by rw [hm22]; rfl
      refine wa_riast (ν := μ21) X dX11_becomes_49 h17 h18 h20 hm22 ?_
      refine wa_aload_n X 2 dX11_becomes_50 rfl ?_
      refine wa_getP X dX11_becomes_51 lfX11_79 rfl (by rw [e23]; exact h10) rfl ?_
      refine wa_iload X 0 dX11_becomes_54 rfl ?_
      refine wa_aload_n X 2 dX11_becomes_56 rfl ?_
      refine wa_getP X dX11_becomes_57 lfX11_79 rfl (by rw [e23]; exact h10) rfl ?_
      refine wa_iload_n X 1 dX11_becomes_60 rfl ?_
      obtain ⟨q24, h25, hf⟩ := jde_some hf
      obtain ⟨h26, hf⟩ := jckT hf
      obtain ⟨h27, hf⟩ := jck_some hf
      refine wa_riald X dX11_becomes_61 h25 (by rw [e23]; exact h26) (by rw [e23]; exact h27) ?_
      obtain ⟨h28, hf⟩ := jck_some hf
      obtain ⟨μ29, hm30, hf⟩ := jlt_e hf
      have e31 : jT μ29 = jT μ := by rw [hm30]; exact e23
      refine wa_riast (ν := μ29) X dX11_becomes_62 h25 (by rw [e23]; exact h26) (by rw [e23]; exact h28) hm30 ?_
      refine wa_aload_n X 2 dX11_becomes_63 rfl ?_
      refine wa_getP X dX11_becomes_64 lfX11_82 rfl (by rw [e31]; exact h10) rfl ?_
      refine wa_iload X 0 dX11_becomes_67 rfl ?_
      refine wa_aload_n X 2 dX11_becomes_69 rfl ?_
      refine wa_getP X dX11_becomes_70 lfX11_82 rfl (by rw [e31]; exact h10) rfl ?_
      refine wa_iload_n X 1 dX11_becomes_73 rfl ?_
      obtain ⟨q32, h33, hf⟩ := jde_some hf
      obtain ⟨h34, hf⟩ := jckT hf
      obtain ⟨h35, hf⟩ := jck_some hf
      refine wa_riald X dX11_becomes_74 h33 (by rw [e31]; exact h34) (by rw [e31]; exact h35) ?_
      obtain ⟨h36, hf⟩ := jck_some hf
      obtain ⟨μ37, hm38, hf⟩ := jlt_e hf
      have e39 : jT μ37 = jT μ := by rw [hm38]; exact e31
      refine wa_riast (ν := μ37) X dX11_becomes_75 h33 (by rw [e31]; exact h34) (by rw [e31]; exact h36) hm38 ?_
      refine wa_aload_n X 2 dX11_becomes_76 rfl ?_
      refine wa_getP X dX11_becomes_77 lfX11_85 rfl (by rw [e39]; exact h10) rfl ?_
      refine wa_iload X 0 dX11_becomes_80 rfl ?_
      refine wa_aload_n X 2 dX11_becomes_82 rfl ?_
      refine wa_getP X dX11_becomes_83 lfX11_85 rfl (by rw [e39]; exact h10) rfl ?_
      refine wa_iload_n X 1 dX11_becomes_86 rfl ?_
      obtain ⟨q40, h41, hf⟩ := jde_some hf
      obtain ⟨h42, hf⟩ := jckT hf
      obtain ⟨h43, hf⟩ := jck_some hf
      refine wa_riald X dX11_becomes_87 h41 (by rw [e39]; exact h42) (by rw [e39]; exact h43) ?_
      obtain ⟨h44, hf⟩ := jck_some hf
      obtain ⟨μ45, hm46, hf⟩ := jlt_e hf
      have e47 : jT μ45 = jT μ := by rw [hm46]; exact e39
      refine wa_riast (ν := μ45) X dX11_becomes_88 h41 (by rw [e39]; exact h42) (by rw [e39]; exact h44) hm46 ?_
      refine wa_aload_n X 2 dX11_becomes_89 rfl ?_
      refine wa_getP X dX11_becomes_90 lfX11_88 rfl (by rw [e47]; exact h10) rfl ?_
      refine wa_iload X 0 dX11_becomes_93 rfl ?_
      refine wa_aload_n X 2 dX11_becomes_95 rfl ?_
      refine wa_getP X dX11_becomes_96 lfX11_88 rfl (by rw [e47]; exact h10) rfl ?_
      refine wa_iload_n X 1 dX11_becomes_99 rfl ?_
      obtain ⟨q48, h49, hf⟩ := jde_some hf
      obtain ⟨h50, hf⟩ := jckT hf
      obtain ⟨h51, hf⟩ := jck_some hf
      refine wa_riald X dX11_becomes_100 h49 (by rw [e47]; exact h50) (by rw [e47]; exact h51) ?_
      obtain ⟨h52, hf⟩ := jck_some hf
      obtain ⟨μ53, hm54, hf⟩ := jlt_e hf
      have e55 : jT μ53 = jT μ := by rw [hm54]; exact e47
      refine wa_riast (ν := μ53) X dX11_becomes_101 h49 (by rw [e47]; exact h50) (by rw [e47]; exact h52) hm54 ?_
      refine wa_aload_n X 2 dX11_becomes_102 rfl ?_
      refine wa_getP X dX11_becomes_103 lfX11_91 rfl (by rw [e55]; exact h10) rfl ?_
      refine wa_iload X 0 dX11_becomes_106 rfl ?_
      refine wa_aload_n X 2 dX11_becomes_108 rfl ?_
      refine wa_getP X dX11_becomes_109 lfX11_91 rfl (by rw [e55]; exact h10) rfl ?_
      refine wa_iload_n X 1 dX11_becomes_112 rfl ?_
      obtain ⟨q56, h57, hf⟩ := jde_some hf
      obtain ⟨h58, hf⟩ := jckT hf
      obtain ⟨h59, hf⟩ := jck_some hf
      refine wa_riald X dX11_becomes_113 h57 (by rw [e55]; exact h58) (by rw [e55]; exact h59) ?_
      obtain ⟨h60, hf⟩ := jck_some hf
      obtain ⟨μ61, hm62, hf⟩ := jlt_e hf
      have e63 : jT μ61 = jT μ := by rw [hm62]; exact e55
      refine wa_riast (ν := μ61) X dX11_becomes_114 h57 (by rw [e55]; exact h58) (by rw [e55]; exact h60) hm62 ?_
      refine wa_aload_n X 2 dX11_becomes_115 rfl ?_
      refine wa_getP X dX11_becomes_116 lfX11_94 rfl (by rw [e63]; exact h10) rfl ?_
      refine wa_iload X 0 dX11_becomes_119 rfl ?_
      refine wa_aload_n X 2 dX11_becomes_121 rfl ?_
      refine wa_getP X dX11_becomes_122 lfX11_94 rfl (by rw [e63]; exact h10) rfl ?_
      refine wa_iload_n X 1 dX11_becomes_125 rfl ?_
      obtain ⟨q64, h65, hf⟩ := jde_some hf
      obtain ⟨h66, hf⟩ := jckT hf
      obtain ⟨h67, hf⟩ := jck_some hf
      refine wa_riald X dX11_becomes_126 h65 (by rw [e63]; exact h66) (by rw [e63]; exact h67) ?_
      obtain ⟨h68, hf⟩ := jck_some hf
      obtain ⟨μ69, hm70, hf⟩ := jlt_e hf
      have e71 : jT μ69 = jT μ := by rw [hm70]; exact e63
      refine wa_riast (ν := μ69) X dX11_becomes_127 h65 (by rw [e63]; exact h66) (by rw [e63]; exact h68) hm70 ?_
      refine wa_aload_n X 2 dX11_becomes_128 rfl ?_
      refine wa_getP X dX11_becomes_129 lfX11_100 rfl (by rw [e71]; exact h10) rfl ?_
      refine wa_iload X 0 dX11_becomes_132 rfl ?_
      refine wa_aload_n X 2 dX11_becomes_134 rfl ?_
      refine wa_getP X dX11_becomes_135 lfX11_100 rfl (by rw [e71]; exact h10) rfl ?_
      refine wa_iload_n X 1 dX11_becomes_138 rfl ?_
      obtain ⟨q72, h73, hf⟩ := jde_some hf
      obtain ⟨h74, hf⟩ := jckT hf
      obtain ⟨h75, hf⟩ := jck_some hf
      refine wa_riald X dX11_becomes_139 h73 (by rw [e71]; exact h74) (by rw [e71]; exact h75) ?_
      obtain ⟨h76, hf⟩ := jck_some hf
      obtain ⟨μ77, hm78, hf⟩ := jlt_e hf
      have e79 : jT μ77 = jT μ := by rw [hm78]; exact e71
      refine wa_riast (ν := μ77) X dX11_becomes_140 h73 (by rw [e71]; exact h74) (by rw [e71]; exact h76) hm78 ?_
      refine wa_iconst (v := (0 : Int32)) X dX11_becomes_141 (by decide) ?_
      refine wa_istore (L2 := [(5, .int (0 : Int32)), (4, .int (((24 : Int32) * x1) + x2)), (3, .int ((96 : Int32) + x2)), (0, va_rf (some a)), (1, .int x1), (2, .int x2)]) X dX11_becomes_142 (by decide) (by first | rfl | (show (5, _) :: List.filter (fun q : Nat × Value => !(q.1 == 5) && !(q.1 + 1 == 5 && q.2.category == 2)) _ = _; simp [va_rf_cat, cat_i, cat_l])) ?_
      refine wa_sub (L2 := [(0, va_rf (some a)), (1, .int x1), (2, .int x2), (3, .int ((96 : Int32) + x2)), (4, .int (((24 : Int32) * x1) + x2)), (5, .int (0 : Int32))]) [3, 4, 5, 2, 1, 0] rfl ?_
      exact gX11_becomes_b144 X ih jfuel a x1 x2 ((96 : Int32) + x2) (((24 : Int32) * x1) + x2) (0 : Int32) μ77 _ _ _ _ hf (by omega) (by omega)
def fX11_becomes (a : Nat) (x1 : Int32) (μ : JM) : JO (Unit) := jck ((jT μ a).1 == 12) <| jde (jP μ a 34) fun q2 => jck ((jT μ q2).1 == 101) <| jck (jin (4 : Int32) (jT μ q2).2) <| jck (jin x1 (jT μ q2).2) <| jlt (jsI μ q2 (x1).toNatClampNeg (jI μ q2 ((4 : Int32)).toNatClampNeg)) fun μ7 => fX11_becomes_b14  jfuel a x1 (0 : Int32) μ7
set_option maxHeartbeats 4000000 in
set_option maxRecDepth 100000 in
theorem mX11_becomes {b : Nat} {a : Nat} {x1 : Int32} {μ : JM} {r : Unit} {ν : JM} {c m : Nat} (hf : fX11_becomes a x1 μ = some (r, ν, c, m)) : JMet b yX11_becomes cX11_becomes 6 none 0 0 [va_rf (some a), .int x1] μ (none) ν c m := by
  refine JMet.of (by decide) (lg_sl_le (by simp only [List.map_cons, List.map_nil, List.sum_cons, List.sum_nil, va_rf_cat]; exact Nat.le_of_ble_eq_true rfl)) (fun Θ X hin => ?_)
  refine wa_eq (L2 := [(0, va_rf (some a)), (1, .int x1)]) ?_ rfl (by first | rfl | simp [lv_args, va_rf_cat, cat_i, cat_l]) rfl
  obtain ⟨k, hk0⟩ : ∃ k : Nat, k = 0 := ⟨0, rfl⟩
  obtain ⟨n, hn0⟩ : ∃ n : Nat, n = 0 := ⟨0, rfl⟩
  have hk : k + c = c := by omega
  have hn : n + m = m := by omega
  refine wa_costs hk0.symm hn0.symm ?_
  rw [fX11_becomes] at hf
  refine wa_aload_n X 0 dX11_becomes_0 rfl ?_
  obtain ⟨h1, hf⟩ := jckT hf
  refine wa_getP X dX11_becomes_1 lfX11_73 rfl h1 rfl ?_
  refine wa_iload_n X 1 dX11_becomes_4 rfl ?_
  refine wa_aload_n X 0 dX11_becomes_5 rfl ?_
  refine wa_getP X dX11_becomes_6 lfX11_73 rfl h1 rfl ?_
  refine wa_iconst (v := (4 : Int32)) X dX11_becomes_9 (by decide) ?_
  obtain ⟨q2, h3, hf⟩ := jde_some hf
  obtain ⟨h4, hf⟩ := jckT hf
  obtain ⟨h5, hf⟩ := jck_some hf
  refine wa_riald X dX11_becomes_10 h3 h4 h5 ?_
  obtain ⟨h6, hf⟩ := jck_some hf
  obtain ⟨μ7, hm8, hf⟩ := jlt_e hf
  have e9 : jT μ7 = jT μ := by rw [hm8]; rfl
  refine wa_riast (ν := μ7) X dX11_becomes_11 h3 h4 h6 hm8 ?_
  refine wa_iconst (v := (0 : Int32)) X dX11_becomes_12 (by decide) ?_
  refine wa_istore_n (L2 := [(2, .int (0 : Int32)), (0, va_rf (some a)), (1, .int x1)]) X dX11_becomes_13 (by decide) (by first | rfl | (show (2, _) :: List.filter (fun q : Nat × Value => !(q.1 == 2) && !(q.1 + 1 == 2 && q.2.category == 2)) _ = _; simp [va_rf_cat, cat_i, cat_l])) ?_
  refine wa_sub (L2 := [(0, va_rf (some a)), (1, .int x1), (2, .int (0 : Int32))]) [1, 2, 0] rfl ?_
  exact gX11_becomes_b14 X jfuel a x1 (0 : Int32) μ7 _ _ _ _ hf (by omega) (by omega)
theorem dX11_isPlace_0 : decode cX11_isPlace 0 = .ok (.iload_n 0, 1) := by decide +kernel
theorem dX11_isPlace_1 : decode cX11_isPlace 1 = .ok (.iconst 0, 1) := by decide +kernel
theorem dX11_isPlace_2 : decode cX11_isPlace 2 = .ok (.iconst 3, 1) := by decide +kernel
theorem dX11_isPlace_3 : decode cX11_isPlace 3 = .ok (.invokestatic 347, 3) := by decide +kernel
theorem dX11_isPlace_6 : decode cX11_isPlace 6 = .ok (.ireturn, 1) := by decide +kernel
def fX11_isPlace (x0 : Int32) (μ : JM) : JO (Int32) := jcl (fX11_in x0 (0 : Int32) (3 : Int32) μ) fun r1 μ2 => jck (jbl r1) <| some (r1, μ2, 0, 0)
set_option maxHeartbeats 4000000 in
set_option maxRecDepth 100000 in
theorem mX11_isPlace {b : Nat} {x0 : Int32} {μ : JM} {r : Int32} {ν : JM} {c m : Nat} (hf : fX11_isPlace x0 μ = some (r, ν, c, m)) : JMet b yX11_isPlace cX11_isPlace 1 (some .boolean) 1 22 [.int x0] μ (some (.int r)) ν c m := by
  refine JMet.of (by decide) (lg_sl_le (by simp only [List.map_cons, List.map_nil, List.sum_cons, List.sum_nil, va_rf_cat]; exact Nat.le_of_ble_eq_true rfl)) (fun Θ X hin => ?_)
  refine wa_eq (L2 := [(0, .int x0)]) ?_ rfl (by first | rfl | simp [lv_args, va_rf_cat, cat_i, cat_l]) rfl
  obtain ⟨k, hk0⟩ : ∃ k : Nat, k = 0 := ⟨0, rfl⟩
  obtain ⟨n, hn0⟩ : ∃ n : Nat, n = 0 := ⟨0, rfl⟩
  have hk : k + c = c := by omega
  have hn : n + m = m := by omega
  refine wa_costs hk0.symm hn0.symm ?_
  rw [fX11_isPlace] at hf
  refine wa_iload_n X 0 dX11_isPlace_0 rfl ?_
  refine wa_iconst (v := (0 : Int32)) X dX11_isPlace_1 (by decide) ?_
  refine wa_iconst (v := (3 : Int32)) X dX11_isPlace_2 (by decide) ?_
  obtain ⟨r1, μ2, c3, m4, c5, m6, e7, hf, h8, h9⟩ := jcl_some hf
  refine wa_rcallS (st2 := [.int r1]) X dX11_isPlace_3 lmX11_347 lMX11_in (mX11_in e7) rfl rfl rfl (va_cats (Nat.le_of_ble_eq_true rfl)) (by decide) (by omega) (by omega) ?_
  obtain ⟨h10, hf⟩ := jck_some hf
  obtain ⟨rfl, rfl, rfl, rfl⟩ := jret hf
  exact wa_iret X dX11_isPlace_6 (jbl_nar h10) (by omega) (by omega)
theorem dX11_isVersion_0 : decode cX11_isVersion 0 = .ok (.iload_n 1, 1) := by decide +kernel
theorem dX11_isVersion_1 : decode cX11_isVersion 1 = .ok (.invokestatic 351, 3) := by decide +kernel
theorem dX11_isVersion_4 : decode cX11_isVersion 4 = .ok (.ifCond .eq 16, 3) := by decide +kernel
theorem dX11_isVersion_7 : decode cX11_isVersion 7 = .ok (.aload_n 0, 1) := by decide +kernel
theorem dX11_isVersion_8 : decode cX11_isVersion 8 = .ok (.getfield 116, 3) := by decide +kernel
theorem dX11_isVersion_11 : decode cX11_isVersion 11 = .ok (.iload_n 1, 1) := by decide +kernel
theorem dX11_isVersion_12 : decode cX11_isVersion 12 = .ok (.iaload, 1) := by decide +kernel
theorem dX11_isVersion_13 : decode cX11_isVersion 13 = .ok (.ifCond .lt 7, 3) := by decide +kernel
theorem dX11_isVersion_16 : decode cX11_isVersion 16 = .ok (.iconst 1, 1) := by decide +kernel
theorem dX11_isVersion_17 : decode cX11_isVersion 17 = .ok (.goto 4, 3) := by decide +kernel
theorem dX11_isVersion_20 : decode cX11_isVersion 20 = .ok (.iconst 0, 1) := by decide +kernel
theorem dX11_isVersion_21 : decode cX11_isVersion 21 = .ok (.ireturn, 1) := by decide +kernel
def fX11_isVersion (a : Nat) (x1 : Int32) (μ : JM) : JO (Int32) := jcl (fX11_isPlace x1 μ) fun r1 μ2 => if r1 = 0 then (some ((0 : Int32), μ2, 0, 0)) else (jck ((jT μ2 a).1 == 12) <| jde (jP μ2 a 50) fun q12 => jck ((jT μ2 q12).1 == 101) <| jck (jin x1 (jT μ2 q12).2) <| if (jI μ2 q12 (x1).toNatClampNeg) < 0 then (some ((0 : Int32), μ2, 0, 0)) else (some ((1 : Int32), μ2, 0, 0)))
set_option maxHeartbeats 4000000 in
set_option maxRecDepth 100000 in
theorem mX11_isVersion {b : Nat} {a : Nat} {x1 : Int32} {μ : JM} {r : Int32} {ν : JM} {c m : Nat} (hf : fX11_isVersion a x1 μ = some (r, ν, c, m)) : JMet b yX11_isVersion cX11_isVersion 2 (some .boolean) 2 42 [va_rf (some a), .int x1] μ (some (.int r)) ν c m := by
  refine JMet.of (by decide) (lg_sl_le (by simp only [List.map_cons, List.map_nil, List.sum_cons, List.sum_nil, va_rf_cat]; exact Nat.le_of_ble_eq_true rfl)) (fun Θ X hin => ?_)
  refine wa_eq (L2 := [(0, va_rf (some a)), (1, .int x1)]) ?_ rfl (by first | rfl | simp [lv_args, va_rf_cat, cat_i, cat_l]) rfl
  obtain ⟨k, hk0⟩ : ∃ k : Nat, k = 0 := ⟨0, rfl⟩
  obtain ⟨n, hn0⟩ : ∃ n : Nat, n = 0 := ⟨0, rfl⟩
  have hk : k + c = c := by omega
  have hn : n + m = m := by omega
  refine wa_costs hk0.symm hn0.symm ?_
  rw [fX11_isVersion] at hf
  refine wa_iload_n X 1 dX11_isVersion_0 rfl ?_
  obtain ⟨r1, μ2, c3, m4, c5, m6, e7, hf, h8, h9⟩ := jcl_some hf
  refine wa_rcallS (st2 := [.int r1]) X dX11_isVersion_1 lmX11_351 lMX11_isPlace (mX11_isPlace e7) rfl rfl rfl (va_cats (Nat.le_of_ble_eq_true rfl)) (by decide) (by omega) (by omega) ?_
  refine wa_ifeq (tgt := 20) X dX11_isVersion_4 (by decide) (fun h10 => ?_) (fun h10 => ?_)
  · rw [if_pos h10] at hf
    refine wa_iconst (v := (0 : Int32)) X dX11_isVersion_20 (by decide) ?_
    obtain ⟨rfl, rfl, rfl, rfl⟩ := jret hf
    exact wa_iret X dX11_isVersion_21 rfl (by omega) (by omega)
  · rw [if_neg h10] at hf
    refine wa_aload_n X 0 dX11_isVersion_7 rfl ?_
    obtain ⟨h11, hf⟩ := jckT hf
    refine wa_getP X dX11_isVersion_8 lfX11_116 rfl h11 rfl ?_
    refine wa_iload_n X 1 dX11_isVersion_11 rfl ?_
    obtain ⟨q12, h13, hf⟩ := jde_some hf
    obtain ⟨h14, hf⟩ := jckT hf
    obtain ⟨h15, hf⟩ := jck_some hf
    refine wa_riald X dX11_isVersion_12 h13 h14 h15 ?_
    refine wa_iflt (tgt := 20) X dX11_isVersion_13 (by decide) (fun h16 => ?_) (fun h16 => ?_)
    · rw [if_pos h16] at hf
      refine wa_iconst (v := (0 : Int32)) X dX11_isVersion_20 (by decide) ?_
      obtain ⟨rfl, rfl, rfl, rfl⟩ := jret hf
      exact wa_iret X dX11_isVersion_21 rfl (by omega) (by omega)
    · rw [if_neg h16] at hf
      refine wa_iconst (v := (1 : Int32)) X dX11_isVersion_16 (by decide) ?_
      refine wa_goto (tgt := 21) X dX11_isVersion_17 (by decide) ?_
      obtain ⟨rfl, rfl, rfl, rfl⟩ := jret hf
      exact wa_iret X dX11_isVersion_21 rfl (by omega) (by omega)
theorem dX11_keeps_0 : decode cX11_keeps 0 = .ok (.aload_n 0, 1) := by decide +kernel
theorem dX11_keeps_1 : decode cX11_keeps 1 = .ok (.getfield 110, 3) := by decide +kernel
theorem dX11_keeps_4 : decode cX11_keeps 4 = .ok (.aload_n 0, 1) := by decide +kernel
theorem dX11_keeps_5 : decode cX11_keeps 5 = .ok (.getfield 354, 3) := by decide +kernel
theorem dX11_keeps_8 : decode cX11_keeps 8 = .ok (.aload_n 0, 1) := by decide +kernel
theorem dX11_keeps_9 : decode cX11_keeps 9 = .ok (.getfield 357, 3) := by decide +kernel
theorem dX11_keeps_12 : decode cX11_keeps 12 = .ok (.iastore, 1) := by decide +kernel
theorem dX11_keeps_13 : decode cX11_keeps 13 = .ok (.aload_n 0, 1) := by decide +kernel
theorem dX11_keeps_14 : decode cX11_keeps 14 = .ok (.getfield 113, 3) := by decide +kernel
theorem dX11_keeps_17 : decode cX11_keeps 17 = .ok (.aload_n 0, 1) := by decide +kernel
theorem dX11_keeps_18 : decode cX11_keeps 18 = .ok (.getfield 354, 3) := by decide +kernel
theorem dX11_keeps_21 : decode cX11_keeps 21 = .ok (.aload_n 0, 1) := by decide +kernel
theorem dX11_keeps_22 : decode cX11_keeps 22 = .ok (.getfield 175, 3) := by decide +kernel
theorem dX11_keeps_25 : decode cX11_keeps 25 = .ok (.iastore, 1) := by decide +kernel
theorem dX11_keeps_26 : decode cX11_keeps 26 = .ok (.iconst 0, 1) := by decide +kernel
theorem dX11_keeps_27 : decode cX11_keeps 27 = .ok (.istore_n 2, 1) := by decide +kernel
theorem dX11_keeps_28 : decode cX11_keeps 28 = .ok (.iload_n 2, 1) := by decide +kernel
theorem dX11_keeps_29 : decode cX11_keeps 29 = .ok (.aload_n 0, 1) := by decide +kernel
theorem dX11_keeps_30 : decode cX11_keeps 30 = .ok (.getfield 175, 3) := by decide +kernel
theorem dX11_keeps_33 : decode cX11_keeps 33 = .ok (.if_icmp .ge 26, 3) := by decide +kernel
theorem dX11_keeps_36 : decode cX11_keeps 36 = .ok (.aload_n 0, 1) := by decide +kernel
theorem dX11_keeps_37 : decode cX11_keeps 37 = .ok (.getfield 107, 3) := by decide +kernel
theorem dX11_keeps_40 : decode cX11_keeps 40 = .ok (.aload_n 0, 1) := by decide +kernel
theorem dX11_keeps_41 : decode cX11_keeps 41 = .ok (.getfield 357, 3) := by decide +kernel
theorem dX11_keeps_44 : decode cX11_keeps 44 = .ok (.iload_n 2, 1) := by decide +kernel
theorem dX11_keeps_45 : decode cX11_keeps 45 = .ok (.iadd, 1) := by decide +kernel
theorem dX11_keeps_46 : decode cX11_keeps 46 = .ok (.aload_n 0, 1) := by decide +kernel
theorem dX11_keeps_47 : decode cX11_keeps 47 = .ok (.getfield 39, 3) := by decide +kernel
theorem dX11_keeps_50 : decode cX11_keeps 50 = .ok (.iload_n 2, 1) := by decide +kernel
theorem dX11_keeps_51 : decode cX11_keeps 51 = .ok (.baload, 1) := by decide +kernel
theorem dX11_keeps_52 : decode cX11_keeps 52 = .ok (.bastore, 1) := by decide +kernel
theorem dX11_keeps_53 : decode cX11_keeps 53 = .ok (.iinc 2 1, 3) := by decide +kernel
theorem dX11_keeps_56 : decode cX11_keeps 56 = .ok (.goto (-28), 3) := by decide +kernel
theorem dX11_keeps_59 : decode cX11_keeps 59 = .ok (.aload_n 0, 1) := by decide +kernel
theorem dX11_keeps_60 : decode cX11_keeps 60 = .ok (.dup, 1) := by decide +kernel
theorem dX11_keeps_61 : decode cX11_keeps 61 = .ok (.getfield 357, 3) := by decide +kernel
theorem dX11_keeps_64 : decode cX11_keeps 64 = .ok (.aload_n 0, 1) := by decide +kernel
theorem dX11_keeps_65 : decode cX11_keeps 65 = .ok (.getfield 175, 3) := by decide +kernel
theorem dX11_keeps_68 : decode cX11_keeps 68 = .ok (.iadd, 1) := by decide +kernel
theorem dX11_keeps_69 : decode cX11_keeps 69 = .ok (.putfield 357, 3) := by decide +kernel
theorem dX11_keeps_72 : decode cX11_keeps 72 = .ok (.aload_n 0, 1) := by decide +kernel
theorem dX11_keeps_73 : decode cX11_keeps 73 = .ok (.getfield 116, 3) := by decide +kernel
theorem dX11_keeps_76 : decode cX11_keeps 76 = .ok (.iload_n 1, 1) := by decide +kernel
theorem dX11_keeps_77 : decode cX11_keeps 77 = .ok (.aload_n 0, 1) := by decide +kernel
theorem dX11_keeps_78 : decode cX11_keeps 78 = .ok (.getfield 354, 3) := by decide +kernel
theorem dX11_keeps_81 : decode cX11_keeps 81 = .ok (.iastore, 1) := by decide +kernel
theorem dX11_keeps_82 : decode cX11_keeps 82 = .ok (.aload_n 0, 1) := by decide +kernel
theorem dX11_keeps_83 : decode cX11_keeps 83 = .ok (.dup, 1) := by decide +kernel
theorem dX11_keeps_84 : decode cX11_keeps 84 = .ok (.getfield 354, 3) := by decide +kernel
theorem dX11_keeps_87 : decode cX11_keeps 87 = .ok (.iconst 1, 1) := by decide +kernel
theorem dX11_keeps_88 : decode cX11_keeps 88 = .ok (.iadd, 1) := by decide +kernel
theorem dX11_keeps_89 : decode cX11_keeps 89 = .ok (.putfield 354, 3) := by decide +kernel
theorem dX11_keeps_92 : decode cX11_keeps 92 = .ok (.aload_n 0, 1) := by decide +kernel
theorem dX11_keeps_93 : decode cX11_keeps 93 = .ok (.iload_n 1, 1) := by decide +kernel
theorem dX11_keeps_94 : decode cX11_keeps 94 = .ok (.invokevirtual 360, 3) := by decide +kernel
theorem dX11_keeps_97 : decode cX11_keeps 97 = .ok (.aload_n 0, 1) := by decide +kernel
theorem dX11_keeps_98 : decode cX11_keeps 98 = .ok (.getfield 73, 3) := by decide +kernel
theorem dX11_keeps_101 : decode cX11_keeps 101 = .ok (.iload_n 1, 1) := by decide +kernel
theorem dX11_keeps_102 : decode cX11_keeps 102 = .ok (.iaload, 1) := by decide +kernel
theorem dX11_keeps_103 : decode cX11_keeps 103 = .ok (.ireturn, 1) := by decide +kernel
def fX11_keeps_b28 : Nat → Nat → Int32 → Int32 → JM → JO (Int32)
  | 0, _, _, _, _ => none
  | fu + 1, a, x1, x2, μ => jck ((jT μ a).1 == 12) <| if (jI μ a 20) ≤ x2 then (jlt (jsI μ a 49 ((jI μ a 49) + (jI μ a 20))) fun μ18 => jde (jP μ18 a 50) fun q21 => jck ((jT μ q21).1 == 101) <| jck (jin x1 (jT μ q21).2) <| jlt (jsI μ18 q21 (x1).toNatClampNeg (jI μ18 a 48)) fun μ25 => jlt (jsI μ25 a 48 ((jI μ25 a 48) + (1 : Int32))) fun μ28 => jcl (fX11_becomes a x1 μ28) fun u31 μ32 => jck ((jT μ32 a).1 == 12) <| jde (jP μ32 a 34) fun q41 => jck ((jT μ32 q41).1 == 101) <| jck (jin x1 (jT μ32 q41).2) <| some ((jI μ32 q41 (x1).toNatClampNeg), μ32, 0, 0)) else (jde (jP μ a 19) fun q45 => jck ((jT μ q45).1 == 100) <| jck (jin x2 (jT μ q45).2) <| jde (jP μ a 45) fun q49 => jck ((jT μ q49).1 == 100) <| jck (jin ((jI μ a 49) + x2) (jT μ q49).2) <| jlt (jsI μ q49 (((jI μ a 49) + x2)).toNatClampNeg (vp_nar .byte (jI μ q45 (x2).toNatClampNeg))) fun μ53 => fX11_keeps_b28 fu a x1 (x2 + (1 : Int32)) μ53)
set_option maxHeartbeats 4000000 in
set_option maxRecDepth 100000 in
theorem gX11_keeps_b28 {b : Nat} {Θ : JE} {RC RS : Nat} {r : Int32} {ν : JM} (X : jX b Θ RX11 cX11_keeps 3 (some .int) 1 25 RC RS) : ∀ (fu : Nat) (a : Nat) (x1 : Int32) (x2 : Int32) (μ : JM) (c m k n : Nat), fX11_keeps_b28 fu a x1 x2 μ = some (r, ν, c, m) → k + c = RC → n + m = RS → WA b Θ 3 (jE b Θ (some (.int r)) ν RC RS) μ k n 28 [(0, va_rf (some a)), (1, .int x1), (2, .int x2)] [] := by
  intro fu
  induction fu with
  | zero => intro a x1 x2 μ c m k n hf; cases hf
  | succ fu ih =>
    intro a x1 x2 μ c m k n hf hk hn
    rw [fX11_keeps_b28] at hf
    refine wa_iload_n X 2 dX11_keeps_28 rfl ?_
    refine wa_aload_n X 0 dX11_keeps_29 rfl ?_
    obtain ⟨h16, hf⟩ := jckT hf
    refine wa_getI X dX11_keeps_30 lfX11_175 rfl h16 rfl ?_
    refine wa_icge (tgt := 59) X dX11_keeps_33 (by decide) (fun h17 => ?_) (fun h17 => ?_)
    · rw [if_pos h17] at hf
      refine wa_aload_n X 0 dX11_keeps_59 rfl ?_
      refine wa_dup X dX11_keeps_60 (va_rf_cat _) ?_
      refine wa_getI X dX11_keeps_61 lfX11_357 rfl h16 rfl ?_
      refine wa_aload_n X 0 dX11_keeps_64 rfl ?_
      refine wa_getI X dX11_keeps_65 lfX11_175 rfl h16 rfl ?_
      refine wa_iadd X dX11_keeps_68 ?_
      obtain ⟨μ18, hm19, hf⟩ := jlt_e hf
      have e20 : jT μ18 = jT μ := by rw [hm19]; rfl
      refine wa_rputI (ν := μ18) X dX11_keeps_69 lfX11_357 rfl h16 rfl rfl hm19 ?_
      refine wa_aload_n X 0 dX11_keeps_72 rfl ?_
      refine wa_getP X dX11_keeps_73 lfX11_116 rfl (by rw [e20]; exact h16) rfl ?_
      refine wa_iload_n X 1 dX11_keeps_76 rfl ?_
      refine wa_aload_n X 0 dX11_keeps_77 rfl ?_
      refine wa_getI X dX11_keeps_78 lfX11_354 rfl (by rw [e20]; exact h16) rfl ?_
      obtain ⟨q21, h22, hf⟩ := jde_some hf
      obtain ⟨h23, hf⟩ := jckT hf
      obtain ⟨h24, hf⟩ := jck_some hf
      obtain ⟨μ25, hm26, hf⟩ := jlt_e hf
      have e27 : jT μ25 = jT μ := by rw [hm26]; exact e20
      refine wa_riast (ν := μ25) X dX11_keeps_81 h22 (by rw [e20]; exact h23) (by rw [e20]; exact h24) hm26 ?_
      refine wa_aload_n X 0 dX11_keeps_82 rfl ?_
      refine wa_dup X dX11_keeps_83 (va_rf_cat _) ?_
      refine wa_getI X dX11_keeps_84 lfX11_354 rfl (by rw [e27]; exact h16) rfl ?_
      refine wa_iconst (v := (1 : Int32)) X dX11_keeps_87 (by decide) ?_
      refine wa_iadd X dX11_keeps_88 ?_
      obtain ⟨μ28, hm29, hf⟩ := jlt_e hf
      have e30 : jT μ28 = jT μ := by rw [hm29]; exact e27
      refine wa_rputI (ν := μ28) X dX11_keeps_89 lfX11_354 rfl (by rw [e27]; exact h16) rfl rfl hm29 ?_
      refine wa_aload_n X 0 dX11_keeps_92 rfl ?_
      refine wa_iload_n X 1 dX11_keeps_93 rfl ?_
      obtain ⟨u31, μ32, c33, m34, c35, m36, e37, hf, h38, h39⟩ := jcl_some hf
      refine wa_rcallV (st2 := []) X dX11_keeps_94 lmX11_360 lMX11_becomes rfl (by rw [e30]; exact h16) (mX11_becomes e37) rfl rfl rfl (va_cats (Nat.le_of_ble_eq_true rfl)) (by decide) (by omega) (by omega) ?_
      refine wa_aload_n X 0 dX11_keeps_97 rfl ?_
      obtain ⟨h40, hf⟩ := jckT hf
      refine wa_getP X dX11_keeps_98 lfX11_73 rfl h40 rfl ?_
      refine wa_iload_n X 1 dX11_keeps_101 rfl ?_
      obtain ⟨q41, h42, hf⟩ := jde_some hf
      obtain ⟨h43, hf⟩ := jckT hf
      obtain ⟨h44, hf⟩ := jck_some hf
      refine wa_riald X dX11_keeps_102 h42 h43 h44 ?_
      obtain ⟨rfl, rfl, rfl, rfl⟩ := jret hf
      exact wa_iret X dX11_keeps_103 rfl (by omega) (by omega)
    · rw [if_neg h17] at hf
      refine wa_aload_n X 0 dX11_keeps_36 rfl ?_
      refine wa_getP X dX11_keeps_37 lfX11_107 rfl h16 rfl ?_
      refine wa_aload_n X 0 dX11_keeps_40 rfl ?_
      refine wa_getI X dX11_keeps_41 lfX11_357 rfl h16 rfl ?_
      refine wa_iload_n X 2 dX11_keeps_44 rfl ?_
      refine wa_iadd X dX11_keeps_45 ?_
      refine wa_aload_n X 0 dX11_keeps_46 rfl ?_
      refine wa_getP X dX11_keeps_47 lfX11_39 rfl h16 rfl ?_
      refine wa_iload_n X 2 dX11_keeps_50 rfl ?_
      obtain ⟨q45, h46, hf⟩ := jde_some hf
      obtain ⟨h47, hf⟩ := jckT hf
      obtain ⟨h48, hf⟩ := jck_some hf
      refine wa_rbald X dX11_keeps_51 h46 h47 h48 ?_
      obtain ⟨q49, h50, hf⟩ := jde_some hf
      obtain ⟨h51, hf⟩ := jckT hf
      obtain ⟨h52, hf⟩ := jck_some hf
      obtain ⟨μ53, hm54, hf⟩ := jlt_e hf
      have e55 : jT μ53 = jT μ := by rw [hm54]; rfl
      refine wa_rbast (ν := μ53) X dX11_keeps_52 h50 h51 h52 hm54 ?_
      refine wa_iinc (v := (x2 + (1 : Int32))) (L2 := [(2, .int (x2 + (1 : Int32))), (0, va_rf (some a)), (1, .int x1)]) X 2 dX11_keeps_53 rfl rfl (by decide) (by first | rfl | simp [va_rf_cat, cat_i, cat_l]) ?_
      refine wa_goto (tgt := 28) X dX11_keeps_56 (by decide) ?_
      refine wa_sub (L2 := [(0, va_rf (some a)), (1, .int x1), (2, .int (x2 + (1 : Int32)))]) [1, 2, 0] rfl ?_
      exact ih a x1 (x2 + (1 : Int32)) μ53 _ _ _ _ hf (by omega) (by omega)
def fX11_keeps (a : Nat) (x1 : Int32) (μ : JM) : JO (Int32) := jck ((jT μ a).1 == 12) <| jde (jP μ a 46) fun q2 => jck ((jT μ q2).1 == 101) <| jck (jin (jI μ a 48) (jT μ q2).2) <| jlt (jsI μ q2 ((jI μ a 48)).toNatClampNeg (jI μ a 49)) fun μ6 => jde (jP μ6 a 47) fun q9 => jck ((jT μ q9).1 == 101) <| jck (jin (jI μ6 a 48) (jT μ q9).2) <| jlt (jsI μ6 q9 ((jI μ6 a 48)).toNatClampNeg (jI μ6 a 20)) fun μ13 => fX11_keeps_b28  jfuel a x1 (0 : Int32) μ13
set_option maxHeartbeats 4000000 in
set_option maxRecDepth 100000 in
theorem mX11_keeps {b : Nat} {a : Nat} {x1 : Int32} {μ : JM} {r : Int32} {ν : JM} {c m : Nat} (hf : fX11_keeps a x1 μ = some (r, ν, c, m)) : JMet b yX11_keeps cX11_keeps 3 (some .int) 1 25 [va_rf (some a), .int x1] μ (some (.int r)) ν c m := by
  refine JMet.of (by decide) (lg_sl_le (by simp only [List.map_cons, List.map_nil, List.sum_cons, List.sum_nil, va_rf_cat]; exact Nat.le_of_ble_eq_true rfl)) (fun Θ X hin => ?_)
  refine wa_eq (L2 := [(0, va_rf (some a)), (1, .int x1)]) ?_ rfl (by first | rfl | simp [lv_args, va_rf_cat, cat_i, cat_l]) rfl
  obtain ⟨k, hk0⟩ : ∃ k : Nat, k = 0 := ⟨0, rfl⟩
  obtain ⟨n, hn0⟩ : ∃ n : Nat, n = 0 := ⟨0, rfl⟩
  have hk : k + c = c := by omega
  have hn : n + m = m := by omega
  refine wa_costs hk0.symm hn0.symm ?_
  rw [fX11_keeps] at hf
  refine wa_aload_n X 0 dX11_keeps_0 rfl ?_
  obtain ⟨h1, hf⟩ := jckT hf
  refine wa_getP X dX11_keeps_1 lfX11_110 rfl h1 rfl ?_
  refine wa_aload_n X 0 dX11_keeps_4 rfl ?_
  refine wa_getI X dX11_keeps_5 lfX11_354 rfl h1 rfl ?_
  refine wa_aload_n X 0 dX11_keeps_8 rfl ?_
  refine wa_getI X dX11_keeps_9 lfX11_357 rfl h1 rfl ?_
  obtain ⟨q2, h3, hf⟩ := jde_some hf
  obtain ⟨h4, hf⟩ := jckT hf
  obtain ⟨h5, hf⟩ := jck_some hf
  obtain ⟨μ6, hm7, hf⟩ := jlt_e hf
  have e8 : jT μ6 = jT μ := by rw [hm7]; rfl
  refine wa_riast (ν := μ6) X dX11_keeps_12 h3 h4 h5 hm7 ?_
  refine wa_aload_n X 0 dX11_keeps_13 rfl ?_
  refine wa_getP X dX11_keeps_14 lfX11_113 rfl (by rw [e8]; exact h1) rfl ?_
  refine wa_aload_n X 0 dX11_keeps_17 rfl ?_
  refine wa_getI X dX11_keeps_18 lfX11_354 rfl (by rw [e8]; exact h1) rfl ?_
  refine wa_aload_n X 0 dX11_keeps_21 rfl ?_
  refine wa_getI X dX11_keeps_22 lfX11_175 rfl (by rw [e8]; exact h1) rfl ?_
  obtain ⟨q9, h10, hf⟩ := jde_some hf
  obtain ⟨h11, hf⟩ := jckT hf
  obtain ⟨h12, hf⟩ := jck_some hf
  obtain ⟨μ13, hm14, hf⟩ := jlt_e hf
  have e15 : jT μ13 = jT μ := by rw [hm14]; exact e8
  refine wa_riast (ν := μ13) X dX11_keeps_25 h10 (by rw [e8]; exact h11) (by rw [e8]; exact h12) hm14 ?_
  refine wa_iconst (v := (0 : Int32)) X dX11_keeps_26 (by decide) ?_
  refine wa_istore_n (L2 := [(2, .int (0 : Int32)), (0, va_rf (some a)), (1, .int x1)]) X dX11_keeps_27 (by decide) (by first | rfl | (show (2, _) :: List.filter (fun q : Nat × Value => !(q.1 == 2) && !(q.1 + 1 == 2 && q.2.category == 2)) _ = _; simp [va_rf_cat, cat_i, cat_l])) ?_
  refine wa_sub (L2 := [(0, va_rf (some a)), (1, .int x1), (2, .int (0 : Int32))]) [1, 2, 0] rfl ?_
  exact gX11_keeps_b28 X jfuel a x1 (0 : Int32) μ13 _ _ _ _ hf (by omega) (by omega)
theorem dX11_version_0 : decode cX11_version 0 = .ok (.aload_n 0, 1) := by decide +kernel
theorem dX11_version_1 : decode cX11_version 1 = .ok (.invokevirtual 264, 3) := by decide +kernel
theorem dX11_version_4 : decode cX11_version 4 = .ok (.aload_n 0, 1) := by decide +kernel
theorem dX11_version_5 : decode cX11_version 5 = .ok (.getfield 13, 3) := by decide +kernel
theorem dX11_version_8 : decode cX11_version 8 = .ok (.ifCond .lt 10, 3) := by decide +kernel
theorem dX11_version_11 : decode cX11_version 11 = .ok (.iload_n 1, 1) := by decide +kernel
theorem dX11_version_12 : decode cX11_version 12 = .ok (.invokestatic 351, 3) := by decide +kernel
theorem dX11_version_15 : decode cX11_version 15 = .ok (.ifCond .ne 5, 3) := by decide +kernel
theorem dX11_version_18 : decode cX11_version 18 = .ok (.iconst (-1), 1) := by decide +kernel
theorem dX11_version_19 : decode cX11_version 19 = .ok (.ireturn, 1) := by decide +kernel
theorem dX11_version_20 : decode cX11_version 20 = .ok (.aload_n 0, 1) := by decide +kernel
theorem dX11_version_21 : decode cX11_version 21 = .ok (.invokevirtual 363, 3) := by decide +kernel
theorem dX11_version_24 : decode cX11_version 24 = .ok (.ifCond .eq 11, 3) := by decide +kernel
theorem dX11_version_27 : decode cX11_version 27 = .ok (.aload_n 0, 1) := by decide +kernel
theorem dX11_version_28 : decode cX11_version 28 = .ok (.iload_n 1, 1) := by decide +kernel
theorem dX11_version_29 : decode cX11_version 29 = .ok (.invokevirtual 366, 3) := by decide +kernel
theorem dX11_version_32 : decode cX11_version 32 = .ok (.goto 10, 3) := by decide +kernel
theorem dX11_version_35 : decode cX11_version 35 = .ok (.bipush (-2), 2) := by decide +kernel
theorem dX11_version_37 : decode cX11_version 37 = .ok (.aload_n 0, 1) := by decide +kernel
theorem dX11_version_38 : decode cX11_version 38 = .ok (.getfield 163, 3) := by decide +kernel
theorem dX11_version_41 : decode cX11_version 41 = .ok (.isub, 1) := by decide +kernel
theorem dX11_version_42 : decode cX11_version 42 = .ok (.ireturn, 1) := by decide +kernel
def fX11_version (a : Nat) (x1 : Int32) (μ : JM) : JO (Int32) := jck ((jT μ a).1 == 12) <| jcl (fX11_takesTape a μ) fun u2 μ3 => jck ((jT μ3 a).1 == 12) <| if (jI μ3 a 2) < 0 then (some ((-1 : Int32), μ3, 0, 0)) else (jcl (fX11_isPlace x1 μ3) fun r13 μ14 => if r13 = 0 then (some ((-1 : Int32), μ14, 0, 0)) else (jck ((jT μ14 a).1 == 12) <| jcl (fX11_reads a μ14) fun r24 μ25 => if r24 = 0 then (jck ((jT μ25 a).1 == 12) <| some (((-2 : Int32) - (jI μ25 a 18)), μ25, 0, 0)) else (jck ((jT μ25 a).1 == 12) <| jcl (fX11_keeps a x1 μ25) fun r36 μ37 => some (r36, μ37, 0, 0))))
set_option maxHeartbeats 4000000 in
set_option maxRecDepth 100000 in
theorem mX11_version {b : Nat} {a : Nat} {x1 : Int32} {μ : JM} {r : Int32} {ν : JM} {c m : Nat} (hf : fX11_version a x1 μ = some (r, ν, c, m)) : JMet b yX11_version cX11_version 2 (some .int) 8 187 [va_rf (some a), .int x1] μ (some (.int r)) ν c m := by
  refine JMet.of (by decide) (lg_sl_le (by simp only [List.map_cons, List.map_nil, List.sum_cons, List.sum_nil, va_rf_cat]; exact Nat.le_of_ble_eq_true rfl)) (fun Θ X hin => ?_)
  refine wa_eq (L2 := [(0, va_rf (some a)), (1, .int x1)]) ?_ rfl (by first | rfl | simp [lv_args, va_rf_cat, cat_i, cat_l]) rfl
  obtain ⟨k, hk0⟩ : ∃ k : Nat, k = 0 := ⟨0, rfl⟩
  obtain ⟨n, hn0⟩ : ∃ n : Nat, n = 0 := ⟨0, rfl⟩
  have hk : k + c = c := by omega
  have hn : n + m = m := by omega
  refine wa_costs hk0.symm hn0.symm ?_
  rw [fX11_version] at hf
  refine wa_aload_n X 0 dX11_version_0 rfl ?_
  obtain ⟨h1, hf⟩ := jckT hf
  obtain ⟨u2, μ3, c4, m5, c6, m7, e8, hf, h9, h10⟩ := jcl_some hf
  refine wa_rcallV (st2 := []) X dX11_version_1 lmX11_264 lMX11_takesTape rfl h1 (mX11_takesTape e8) rfl rfl rfl (va_cats (Nat.le_of_ble_eq_true rfl)) (by decide) (by omega) (by omega) ?_
  refine wa_aload_n X 0 dX11_version_4 rfl ?_
  obtain ⟨h11, hf⟩ := jckT hf
  refine wa_getI X dX11_version_5 lfX11_13 rfl h11 rfl ?_
  refine wa_iflt (tgt := 18) X dX11_version_8 (by decide) (fun h12 => ?_) (fun h12 => ?_)
  · rw [if_pos h12] at hf
    refine wa_iconst (v := (-1 : Int32)) X dX11_version_18 (by decide) ?_
    obtain ⟨rfl, rfl, rfl, rfl⟩ := jret hf
    exact wa_iret X dX11_version_19 rfl (by omega) (by omega)
  · rw [if_neg h12] at hf
    refine wa_iload_n X 1 dX11_version_11 rfl ?_
    obtain ⟨r13, μ14, c15, m16, c17, m18, e19, hf, h20, h21⟩ := jcl_some hf
    refine wa_rcallS (st2 := [.int r13]) X dX11_version_12 lmX11_351 lMX11_isPlace (mX11_isPlace e19) rfl rfl rfl (va_cats (Nat.le_of_ble_eq_true rfl)) (by decide) (by omega) (by omega) ?_
    refine wa_ifne (tgt := 20) X dX11_version_15 (by decide) (fun h22 => ?_) (fun h22 => ?_)
    · rw [if_neg h22] at hf
      refine wa_aload_n X 0 dX11_version_20 rfl ?_
      obtain ⟨h23, hf⟩ := jckT hf
      obtain ⟨r24, μ25, c26, m27, c28, m29, e30, hf, h31, h32⟩ := jcl_some hf
      refine wa_rcallV (st2 := [.int r24]) X dX11_version_21 lmX11_363 lMX11_reads rfl h23 (mX11_reads e30) rfl rfl rfl (va_cats (Nat.le_of_ble_eq_true rfl)) (by decide) (by omega) (by omega) ?_
      refine wa_ifeq (tgt := 35) X dX11_version_24 (by decide) (fun h33 => ?_) (fun h33 => ?_)
      · rw [if_pos h33] at hf
        refine wa_bipush (v := (-2 : Int32)) X dX11_version_35 (by decide) ?_
        refine wa_aload_n X 0 dX11_version_37 rfl ?_
        obtain ⟨h34, hf⟩ := jckT hf
        refine wa_getI X dX11_version_38 lfX11_163 rfl h34 rfl ?_
        refine wa_isub X dX11_version_41 ?_
        obtain ⟨rfl, rfl, rfl, rfl⟩ := jret hf
        exact wa_iret X dX11_version_42 rfl (by omega) (by omega)
      · rw [if_neg h33] at hf
        refine wa_aload_n X 0 dX11_version_27 rfl ?_
        refine wa_iload_n X 1 dX11_version_28 rfl ?_
        obtain ⟨h35, hf⟩ := jckT hf
        obtain ⟨r36, μ37, c38, m39, c40, m41, e42, hf, h43, h44⟩ := jcl_some hf
        refine wa_rcallV (st2 := [.int r36]) X dX11_version_29 lmX11_366 lMX11_keeps rfl h35 (mX11_keeps e42) rfl rfl rfl (va_cats (Nat.le_of_ble_eq_true rfl)) (by decide) (by omega) (by omega) ?_
        refine wa_goto (tgt := 42) X dX11_version_32 (by decide) ?_
        obtain ⟨rfl, rfl, rfl, rfl⟩ := jret hf
        exact wa_iret X dX11_version_42 rfl (by omega) (by omega)
    · rw [if_pos h22] at hf
      refine wa_iconst (v := (-1 : Int32)) X dX11_version_18 (by decide) ?_
      obtain ⟨rfl, rfl, rfl, rfl⟩ := jret hf
      exact wa_iret X dX11_version_19 rfl (by omega) (by omega)
theorem dX11_takesText_0 : decode cX11_takesText 0 = .ok (.aload_n 0, 1) := by decide +kernel
theorem dX11_takesText_1 : decode cX11_takesText 1 = .ok (.aload_n 0, 1) := by decide +kernel
theorem dX11_takesText_2 : decode cX11_takesText 2 = .ok (.getfield 113, 3) := by decide +kernel
theorem dX11_takesText_5 : decode cX11_takesText 5 = .ok (.iload_n 1, 1) := by decide +kernel
theorem dX11_takesText_6 : decode cX11_takesText 6 = .ok (.iaload, 1) := by decide +kernel
theorem dX11_takesText_7 : decode cX11_takesText 7 = .ok (.putfield 166, 3) := by decide +kernel
theorem dX11_takesText_10 : decode cX11_takesText 10 = .ok (.iconst 0, 1) := by decide +kernel
theorem dX11_takesText_11 : decode cX11_takesText 11 = .ok (.istore_n 2, 1) := by decide +kernel
theorem dX11_takesText_12 : decode cX11_takesText 12 = .ok (.iload_n 2, 1) := by decide +kernel
theorem dX11_takesText_13 : decode cX11_takesText 13 = .ok (.aload_n 0, 1) := by decide +kernel
theorem dX11_takesText_14 : decode cX11_takesText 14 = .ok (.getfield 166, 3) := by decide +kernel
theorem dX11_takesText_17 : decode cX11_takesText 17 = .ok (.if_icmp .ge 28, 3) := by decide +kernel
theorem dX11_takesText_20 : decode cX11_takesText 20 = .ok (.aload_n 0, 1) := by decide +kernel
theorem dX11_takesText_21 : decode cX11_takesText 21 = .ok (.getfield 36, 3) := by decide +kernel
theorem dX11_takesText_24 : decode cX11_takesText 24 = .ok (.iload_n 2, 1) := by decide +kernel
theorem dX11_takesText_25 : decode cX11_takesText 25 = .ok (.aload_n 0, 1) := by decide +kernel
theorem dX11_takesText_26 : decode cX11_takesText 26 = .ok (.getfield 107, 3) := by decide +kernel
theorem dX11_takesText_29 : decode cX11_takesText 29 = .ok (.aload_n 0, 1) := by decide +kernel
theorem dX11_takesText_30 : decode cX11_takesText 30 = .ok (.getfield 110, 3) := by decide +kernel
theorem dX11_takesText_33 : decode cX11_takesText 33 = .ok (.iload_n 1, 1) := by decide +kernel
theorem dX11_takesText_34 : decode cX11_takesText 34 = .ok (.iaload, 1) := by decide +kernel
theorem dX11_takesText_35 : decode cX11_takesText 35 = .ok (.iload_n 2, 1) := by decide +kernel
theorem dX11_takesText_36 : decode cX11_takesText 36 = .ok (.iadd, 1) := by decide +kernel
theorem dX11_takesText_37 : decode cX11_takesText 37 = .ok (.baload, 1) := by decide +kernel
theorem dX11_takesText_38 : decode cX11_takesText 38 = .ok (.bastore, 1) := by decide +kernel
theorem dX11_takesText_39 : decode cX11_takesText 39 = .ok (.iinc 2 1, 3) := by decide +kernel
theorem dX11_takesText_42 : decode cX11_takesText 42 = .ok (.goto (-30), 3) := by decide +kernel
theorem dX11_takesText_45 : decode cX11_takesText 45 = .ok (.aload_n 0, 1) := by decide +kernel
theorem dX11_takesText_46 : decode cX11_takesText 46 = .ok (.invokevirtual 169, 3) := by decide +kernel
theorem dX11_takesText_49 : decode cX11_takesText 49 = .ok (.return_, 1) := by decide +kernel
def fX11_takesText_b12 : Nat → Nat → Int32 → Int32 → JM → JO (Unit)
  | 0, _, _, _, _ => none
  | fu + 1, a, x1, x2, μ => jck ((jT μ a).1 == 12) <| if (jI μ a 12) ≤ x2 then (jcl (fX11_begins a μ) fun u11 μ12 => some ((), μ12, 0, 0)) else (jde (jP μ a 46) fun q20 => jck ((jT μ q20).1 == 101) <| jck (jin x1 (jT μ q20).2) <| jde (jP μ a 45) fun q24 => jck ((jT μ q24).1 == 100) <| jck (jin ((jI μ q20 (x1).toNatClampNeg) + x2) (jT μ q24).2) <| jde (jP μ a 11) fun q28 => jck ((jT μ q28).1 == 100) <| jck (jin x2 (jT μ q28).2) <| jlt (jsI μ q28 (x2).toNatClampNeg (vp_nar .byte (jI μ q24 (((jI μ q20 (x1).toNatClampNeg) + x2)).toNatClampNeg))) fun μ32 => fX11_takesText_b12 fu a x1 (x2 + (1 : Int32)) μ32)
set_option maxHeartbeats 4000000 in
set_option maxRecDepth 100000 in
theorem gX11_takesText_b12 {b : Nat} {Θ : JE} {RC RS : Nat} {r : Unit} {ν : JM} (X : jX b Θ RX11 cX11_takesText 3 none 3 63 RC RS) : ∀ (fu : Nat) (a : Nat) (x1 : Int32) (x2 : Int32) (μ : JM) (c m k n : Nat), fX11_takesText_b12 fu a x1 x2 μ = some (r, ν, c, m) → k + c = RC → n + m = RS → WA b Θ 3 (jE b Θ (none) ν RC RS) μ k n 12 [(0, va_rf (some a)), (1, .int x1), (2, .int x2)] [] := by
  intro fu
  induction fu with
  | zero => intro a x1 x2 μ c m k n hf; cases hf
  | succ fu ih =>
    intro a x1 x2 μ c m k n hf hk hn
    rw [fX11_takesText_b12] at hf
    refine wa_iload_n X 2 dX11_takesText_12 rfl ?_
    refine wa_aload_n X 0 dX11_takesText_13 rfl ?_
    obtain ⟨h9, hf⟩ := jckT hf
    refine wa_getI X dX11_takesText_14 lfX11_166 rfl h9 rfl ?_
    refine wa_icge (tgt := 45) X dX11_takesText_17 (by decide) (fun h10 => ?_) (fun h10 => ?_)
    · rw [if_pos h10] at hf
      refine wa_aload_n X 0 dX11_takesText_45 rfl ?_
      obtain ⟨u11, μ12, c13, m14, c15, m16, e17, hf, h18, h19⟩ := jcl_some hf
      refine wa_rcallV (st2 := []) X dX11_takesText_46 lmX11_169 lMX11_begins rfl h9 (mX11_begins e17) rfl rfl rfl (va_cats (Nat.le_of_ble_eq_true rfl)) (by decide) (by omega) (by omega) ?_
      obtain ⟨rfl, rfl, rfl, rfl⟩ := jret hf
      exact wa_vret X dX11_takesText_49 (by omega) (by omega)
    · rw [if_neg h10] at hf
      refine wa_aload_n X 0 dX11_takesText_20 rfl ?_
      refine wa_getP X dX11_takesText_21 lfX11_36 rfl h9 rfl ?_
      refine wa_iload_n X 2 dX11_takesText_24 rfl ?_
      refine wa_aload_n X 0 dX11_takesText_25 rfl ?_
      refine wa_getP X dX11_takesText_26 lfX11_107 rfl h9 rfl ?_
      refine wa_aload_n X 0 dX11_takesText_29 rfl ?_
      refine wa_getP X dX11_takesText_30 lfX11_110 rfl h9 rfl ?_
      refine wa_iload_n X 1 dX11_takesText_33 rfl ?_
      obtain ⟨q20, h21, hf⟩ := jde_some hf
      obtain ⟨h22, hf⟩ := jckT hf
      obtain ⟨h23, hf⟩ := jck_some hf
      refine wa_riald X dX11_takesText_34 h21 h22 h23 ?_
      refine wa_iload_n X 2 dX11_takesText_35 rfl ?_
      refine wa_iadd X dX11_takesText_36 ?_
      obtain ⟨q24, h25, hf⟩ := jde_some hf
      obtain ⟨h26, hf⟩ := jckT hf
      obtain ⟨h27, hf⟩ := jck_some hf
      refine wa_rbald X dX11_takesText_37 h25 h26 h27 ?_
      obtain ⟨q28, h29, hf⟩ := jde_some hf
      obtain ⟨h30, hf⟩ := jckT hf
      obtain ⟨h31, hf⟩ := jck_some hf
      obtain ⟨μ32, hm33, hf⟩ := jlt_e hf
      have e34 : jT μ32 = jT μ := by rw [hm33]; rfl
      refine wa_rbast (ν := μ32) X dX11_takesText_38 h29 h30 h31 hm33 ?_
      refine wa_iinc (v := (x2 + (1 : Int32))) (L2 := [(2, .int (x2 + (1 : Int32))), (0, va_rf (some a)), (1, .int x1)]) X 2 dX11_takesText_39 rfl rfl (by decide) (by first | rfl | simp [va_rf_cat, cat_i, cat_l]) ?_
      refine wa_goto (tgt := 12) X dX11_takesText_42 (by decide) ?_
      refine wa_sub (L2 := [(0, va_rf (some a)), (1, .int x1), (2, .int (x2 + (1 : Int32)))]) [1, 2, 0] rfl ?_
      exact ih a x1 (x2 + (1 : Int32)) μ32 _ _ _ _ hf (by omega) (by omega)
def fX11_takesText (a : Nat) (x1 : Int32) (μ : JM) : JO (Unit) := jck ((jT μ a).1 == 12) <| jde (jP μ a 47) fun q2 => jck ((jT μ q2).1 == 101) <| jck (jin x1 (jT μ q2).2) <| jlt (jsI μ a 12 (jI μ q2 (x1).toNatClampNeg)) fun μ6 => fX11_takesText_b12  jfuel a x1 (0 : Int32) μ6
set_option maxHeartbeats 4000000 in
set_option maxRecDepth 100000 in
theorem mX11_takesText {b : Nat} {a : Nat} {x1 : Int32} {μ : JM} {r : Unit} {ν : JM} {c m : Nat} (hf : fX11_takesText a x1 μ = some (r, ν, c, m)) : JMet b yX11_takesText cX11_takesText 3 none 3 63 [va_rf (some a), .int x1] μ (none) ν c m := by
  refine JMet.of (by decide) (lg_sl_le (by simp only [List.map_cons, List.map_nil, List.sum_cons, List.sum_nil, va_rf_cat]; exact Nat.le_of_ble_eq_true rfl)) (fun Θ X hin => ?_)
  refine wa_eq (L2 := [(0, va_rf (some a)), (1, .int x1)]) ?_ rfl (by first | rfl | simp [lv_args, va_rf_cat, cat_i, cat_l]) rfl
  obtain ⟨k, hk0⟩ : ∃ k : Nat, k = 0 := ⟨0, rfl⟩
  obtain ⟨n, hn0⟩ : ∃ n : Nat, n = 0 := ⟨0, rfl⟩
  have hk : k + c = c := by omega
  have hn : n + m = m := by omega
  refine wa_costs hk0.symm hn0.symm ?_
  rw [fX11_takesText] at hf
  refine wa_aload_n X 0 dX11_takesText_0 rfl ?_
  refine wa_aload_n X 0 dX11_takesText_1 rfl ?_
  obtain ⟨h1, hf⟩ := jckT hf
  refine wa_getP X dX11_takesText_2 lfX11_113 rfl h1 rfl ?_
  refine wa_iload_n X 1 dX11_takesText_5 rfl ?_
  obtain ⟨q2, h3, hf⟩ := jde_some hf
  obtain ⟨h4, hf⟩ := jckT hf
  obtain ⟨h5, hf⟩ := jck_some hf
  refine wa_riald X dX11_takesText_6 h3 h4 h5 ?_
  obtain ⟨μ6, hm7, hf⟩ := jlt_e hf
  have e8 : jT μ6 = jT μ := by rw [hm7]; rfl
  refine wa_rputI (ν := μ6) X dX11_takesText_7 lfX11_166 rfl h1 rfl rfl hm7 ?_
  refine wa_iconst (v := (0 : Int32)) X dX11_takesText_10 (by decide) ?_
  refine wa_istore_n (L2 := [(2, .int (0 : Int32)), (0, va_rf (some a)), (1, .int x1)]) X dX11_takesText_11 (by decide) (by first | rfl | (show (2, _) :: List.filter (fun q : Nat × Value => !(q.1 == 2) && !(q.1 + 1 == 2 && q.2.category == 2)) _ = _; simp [va_rf_cat, cat_i, cat_l])) ?_
  refine wa_sub (L2 := [(0, va_rf (some a)), (1, .int x1), (2, .int (0 : Int32))]) [1, 2, 0] rfl ?_
  exact gX11_takesText_b12 X jfuel a x1 (0 : Int32) μ6 _ _ _ _ hf (by omega) (by omega)
theorem dX11_part_0 : decode cX11_part 0 = .ok (.aload_n 0, 1) := by decide +kernel
theorem dX11_part_1 : decode cX11_part 1 = .ok (.getfield 119, 3) := by decide +kernel
theorem dX11_part_4 : decode cX11_part 4 = .ok (.iload_n 1, 1) := by decide +kernel
theorem dX11_part_5 : decode cX11_part 5 = .ok (.aload_n 0, 1) := by decide +kernel
theorem dX11_part_6 : decode cX11_part 6 = .ok (.getfield 370, 3) := by decide +kernel
theorem dX11_part_9 : decode cX11_part 9 = .ok (.iastore, 1) := by decide +kernel
theorem dX11_part_10 : decode cX11_part 10 = .ok (.aload_n 0, 1) := by decide +kernel
theorem dX11_part_11 : decode cX11_part 11 = .ok (.getfield 122, 3) := by decide +kernel
theorem dX11_part_14 : decode cX11_part 14 = .ok (.iload_n 1, 1) := by decide +kernel
theorem dX11_part_15 : decode cX11_part 15 = .ok (.iload 4, 2) := by decide +kernel
theorem dX11_part_17 : decode cX11_part 17 = .ok (.iastore, 1) := by decide +kernel
theorem dX11_part_18 : decode cX11_part 18 = .ok (.iconst 0, 1) := by decide +kernel
theorem dX11_part_19 : decode cX11_part 19 = .ok (.istore 5, 2) := by decide +kernel
theorem dX11_part_21 : decode cX11_part 21 = .ok (.iload 5, 2) := by decide +kernel
theorem dX11_part_23 : decode cX11_part 23 = .ok (.iload 4, 2) := by decide +kernel
theorem dX11_part_25 : decode cX11_part 25 = .ok (.if_icmp .ge 27, 3) := by decide +kernel
theorem dX11_part_28 : decode cX11_part 28 = .ok (.aload_n 0, 1) := by decide +kernel
theorem dX11_part_29 : decode cX11_part 29 = .ok (.getfield 125, 3) := by decide +kernel
theorem dX11_part_32 : decode cX11_part 32 = .ok (.aload_n 0, 1) := by decide +kernel
theorem dX11_part_33 : decode cX11_part 33 = .ok (.getfield 370, 3) := by decide +kernel
theorem dX11_part_36 : decode cX11_part 36 = .ok (.iload 5, 2) := by decide +kernel
theorem dX11_part_38 : decode cX11_part 38 = .ok (.iadd, 1) := by decide +kernel
theorem dX11_part_39 : decode cX11_part 39 = .ok (.aload_n 2, 1) := by decide +kernel
theorem dX11_part_40 : decode cX11_part 40 = .ok (.iload_n 3, 1) := by decide +kernel
theorem dX11_part_41 : decode cX11_part 41 = .ok (.iload 5, 2) := by decide +kernel
theorem dX11_part_43 : decode cX11_part 43 = .ok (.iadd, 1) := by decide +kernel
theorem dX11_part_44 : decode cX11_part 44 = .ok (.baload, 1) := by decide +kernel
theorem dX11_part_45 : decode cX11_part 45 = .ok (.bastore, 1) := by decide +kernel
theorem dX11_part_46 : decode cX11_part 46 = .ok (.iinc 5 1, 3) := by decide +kernel
theorem dX11_part_49 : decode cX11_part 49 = .ok (.goto (-28), 3) := by decide +kernel
theorem dX11_part_52 : decode cX11_part 52 = .ok (.aload_n 0, 1) := by decide +kernel
theorem dX11_part_53 : decode cX11_part 53 = .ok (.dup, 1) := by decide +kernel
theorem dX11_part_54 : decode cX11_part 54 = .ok (.getfield 370, 3) := by decide +kernel
theorem dX11_part_57 : decode cX11_part 57 = .ok (.iload 4, 2) := by decide +kernel
theorem dX11_part_59 : decode cX11_part 59 = .ok (.iadd, 1) := by decide +kernel
theorem dX11_part_60 : decode cX11_part 60 = .ok (.putfield 370, 3) := by decide +kernel
theorem dX11_part_63 : decode cX11_part 63 = .ok (.return_, 1) := by decide +kernel
def fX11_part_b21 : Nat → Nat → Option Nat → Int32 → Int32 → Int32 → JM → JO (Unit)
  | 0, _, _, _, _, _, _ => none
  | fu + 1, a, p2, x3, x4, x5, μ => if x4 ≤ x5 then (jck ((jT μ a).1 == 12) <| jlt (jsI μ a 55 ((jI μ a 55) + x4)) fun μ18 => some ((), μ18, 0, 0)) else (jck ((jT μ a).1 == 12) <| jde p2 fun q22 => jck ((jT μ q22).1 == 100) <| jck (jin (x3 + x5) (jT μ q22).2) <| jde (jP μ a 54) fun q26 => jck ((jT μ q26).1 == 100) <| jck (jin ((jI μ a 55) + x5) (jT μ q26).2) <| jlt (jsI μ q26 (((jI μ a 55) + x5)).toNatClampNeg (vp_nar .byte (jI μ q22 ((x3 + x5)).toNatClampNeg))) fun μ30 => fX11_part_b21 fu a p2 x3 x4 (x5 + (1 : Int32)) μ30)
set_option maxHeartbeats 4000000 in
set_option maxRecDepth 100000 in
theorem gX11_part_b21 {b : Nat} {Θ : JE} {RC RS : Nat} {r : Unit} {ν : JM} (X : jX b Θ RX11 cX11_part 6 none 0 0 RC RS) : ∀ (fu : Nat) (a : Nat) (p2 : Option Nat) (x3 : Int32) (x4 : Int32) (x5 : Int32) (μ : JM) (c m k n : Nat), fX11_part_b21 fu a p2 x3 x4 x5 μ = some (r, ν, c, m) → k + c = RC → n + m = RS → WA b Θ 6 (jE b Θ (none) ν RC RS) μ k n 21 [(0, va_rf (some a)), (2, va_rf p2), (3, .int x3), (4, .int x4), (5, .int x5)] [] := by
  intro fu
  induction fu with
  | zero => intro a p2 x3 x4 x5 μ c m k n hf; cases hf
  | succ fu ih =>
    intro a p2 x3 x4 x5 μ c m k n hf hk hn
    rw [fX11_part_b21] at hf
    refine wa_iload X 4 dX11_part_21 rfl ?_
    refine wa_iload X 3 dX11_part_23 rfl ?_
    refine wa_icge (tgt := 52) X dX11_part_25 (by decide) (fun h16 => ?_) (fun h16 => ?_)
    · rw [if_pos h16] at hf
      refine wa_aload_n X 0 dX11_part_52 rfl ?_
      refine wa_dup X dX11_part_53 (va_rf_cat _) ?_
      obtain ⟨h17, hf⟩ := jckT hf
      refine wa_getI X dX11_part_54 lfX11_370 rfl h17 rfl ?_
      refine wa_iload X 3 dX11_part_57 rfl ?_
      refine wa_iadd X dX11_part_59 ?_
      obtain ⟨μ18, hm19, hf⟩ := jlt_e hf
      have e20 : jT μ18 = jT μ := by rw [hm19]; rfl
      refine wa_rputI (ν := μ18) X dX11_part_60 lfX11_370 rfl h17 rfl rfl hm19 ?_
      obtain ⟨rfl, rfl, rfl, rfl⟩ := jret hf
      exact wa_vret X dX11_part_63 (by omega) (by omega)
    · rw [if_neg h16] at hf
      refine wa_aload_n X 0 dX11_part_28 rfl ?_
      obtain ⟨h21, hf⟩ := jckT hf
      refine wa_getP X dX11_part_29 lfX11_125 rfl h21 rfl ?_
      refine wa_aload_n X 0 dX11_part_32 rfl ?_
      refine wa_getI X dX11_part_33 lfX11_370 rfl h21 rfl ?_
      refine wa_iload X 4 dX11_part_36 rfl ?_
      refine wa_iadd X dX11_part_38 ?_
      refine wa_aload_n X 1 dX11_part_39 rfl ?_
      refine wa_iload_n X 2 dX11_part_40 rfl ?_
      refine wa_iload X 4 dX11_part_41 rfl ?_
      refine wa_iadd X dX11_part_43 ?_
      obtain ⟨q22, h23, hf⟩ := jde_some hf
      obtain ⟨h24, hf⟩ := jckT hf
      obtain ⟨h25, hf⟩ := jck_some hf
      refine wa_rbald X dX11_part_44 h23 h24 h25 ?_
      obtain ⟨q26, h27, hf⟩ := jde_some hf
      obtain ⟨h28, hf⟩ := jckT hf
      obtain ⟨h29, hf⟩ := jck_some hf
      obtain ⟨μ30, hm31, hf⟩ := jlt_e hf
      have e32 : jT μ30 = jT μ := by rw [hm31]; rfl
      refine wa_rbast (ν := μ30) X dX11_part_45 h27 h28 h29 hm31 ?_
      refine wa_iinc (v := (x5 + (1 : Int32))) (L2 := [(5, .int (x5 + (1 : Int32))), (0, va_rf (some a)), (2, va_rf p2), (3, .int x3), (4, .int x4)]) X 4 dX11_part_46 rfl rfl (by decide) (by first | rfl | simp [va_rf_cat, cat_i, cat_l]) ?_
      refine wa_goto (tgt := 21) X dX11_part_49 (by decide) ?_
      refine wa_sub (L2 := [(0, va_rf (some a)), (2, va_rf p2), (3, .int x3), (4, .int x4), (5, .int (x5 + (1 : Int32)))]) [1, 2, 3, 4, 0] rfl ?_
      exact ih a p2 x3 x4 (x5 + (1 : Int32)) μ30 _ _ _ _ hf (by omega) (by omega)
def fX11_part (a : Nat) (x1 : Int32) (p2 : Option Nat) (x3 : Int32) (x4 : Int32) (μ : JM) : JO (Unit) := jck ((jT μ a).1 == 12) <| jde (jP μ a 52) fun q2 => jck ((jT μ q2).1 == 101) <| jck (jin x1 (jT μ q2).2) <| jlt (jsI μ q2 (x1).toNatClampNeg (jI μ a 55)) fun μ6 => jde (jP μ6 a 53) fun q9 => jck ((jT μ q9).1 == 101) <| jck (jin x1 (jT μ q9).2) <| jlt (jsI μ6 q9 (x1).toNatClampNeg x4) fun μ13 => fX11_part_b21  jfuel a p2 x3 x4 (0 : Int32) μ13
set_option maxHeartbeats 4000000 in
set_option maxRecDepth 100000 in
theorem mX11_part {b : Nat} {a : Nat} {x1 : Int32} {p2 : Option Nat} {x3 : Int32} {x4 : Int32} {μ : JM} {r : Unit} {ν : JM} {c m : Nat} (hf : fX11_part a x1 p2 x3 x4 μ = some (r, ν, c, m)) : JMet b yX11_part cX11_part 6 none 0 0 [va_rf (some a), .int x1, va_rf p2, .int x3, .int x4] μ (none) ν c m := by
  refine JMet.of (by decide) (lg_sl_le (by simp only [List.map_cons, List.map_nil, List.sum_cons, List.sum_nil, va_rf_cat]; exact Nat.le_of_ble_eq_true rfl)) (fun Θ X hin => ?_)
  refine wa_eq (L2 := [(0, va_rf (some a)), (1, .int x1), (2, va_rf p2), (3, .int x3), (4, .int x4)]) ?_ rfl (by first | rfl | simp [lv_args, va_rf_cat, cat_i, cat_l]) rfl
  obtain ⟨k, hk0⟩ : ∃ k : Nat, k = 0 := ⟨0, rfl⟩
  obtain ⟨n, hn0⟩ : ∃ n : Nat, n = 0 := ⟨0, rfl⟩
  have hk : k + c = c := by omega
  have hn : n + m = m := by omega
  refine wa_costs hk0.symm hn0.symm ?_
  rw [fX11_part] at hf
  refine wa_aload_n X 0 dX11_part_0 rfl ?_
  obtain ⟨h1, hf⟩ := jckT hf
  refine wa_getP X dX11_part_1 lfX11_119 rfl h1 rfl ?_
  refine wa_iload_n X 1 dX11_part_4 rfl ?_
  refine wa_aload_n X 0 dX11_part_5 rfl ?_
  refine wa_getI X dX11_part_6 lfX11_370 rfl h1 rfl ?_
  obtain ⟨q2, h3, hf⟩ := jde_some hf
  obtain ⟨h4, hf⟩ := jckT hf
  obtain ⟨h5, hf⟩ := jck_some hf
  obtain ⟨μ6, hm7, hf⟩ := jlt_e hf
  have e8 : jT μ6 = jT μ := by rw [hm7]; rfl
  refine wa_riast (ν := μ6) X dX11_part_9 h3 h4 h5 hm7 ?_
  refine wa_aload_n X 0 dX11_part_10 rfl ?_
  refine wa_getP X dX11_part_11 lfX11_122 rfl (by rw [e8]; exact h1) rfl ?_
  refine wa_iload_n X 1 dX11_part_14 rfl ?_
  refine wa_iload X 4 dX11_part_15 rfl ?_
  obtain ⟨q9, h10, hf⟩ := jde_some hf
  obtain ⟨h11, hf⟩ := jckT hf
  obtain ⟨h12, hf⟩ := jck_some hf
  obtain ⟨μ13, hm14, hf⟩ := jlt_e hf
  have e15 : jT μ13 = jT μ := by rw [hm14]; exact e8
  refine wa_riast (ν := μ13) X dX11_part_17 h10 (by rw [e8]; exact h11) (by rw [e8]; exact h12) hm14 ?_
  refine wa_iconst (v := (0 : Int32)) X dX11_part_18 (by decide) ?_
  refine wa_istore (L2 := [(5, .int (0 : Int32)), (0, va_rf (some a)), (1, .int x1), (2, va_rf p2), (3, .int x3), (4, .int x4)]) X dX11_part_19 (by decide) (by first | rfl | (show (5, _) :: List.filter (fun q : Nat × Value => !(q.1 == 5) && !(q.1 + 1 == 5 && q.2.category == 2)) _ = _; simp [va_rf_cat, cat_i, cat_l])) ?_
  refine wa_sub (L2 := [(0, va_rf (some a)), (2, va_rf p2), (3, .int x3), (4, .int x4), (5, .int (0 : Int32))]) [1, 3, 4, 5, 0] rfl ?_
  exact gX11_part_b21 X jfuel a p2 x3 x4 (0 : Int32) μ13 _ _ _ _ hf (by omega) (by omega)
theorem dX11_change_0 : decode cX11_change 0 = .ok (.aload_n 0, 1) := by decide +kernel
theorem dX11_change_1 : decode cX11_change 1 = .ok (.iconst 0, 1) := by decide +kernel
theorem dX11_change_2 : decode cX11_change 2 = .ok (.putfield 175, 3) := by decide +kernel
theorem dX11_change_5 : decode cX11_change 5 = .ok (.aload_n 0, 1) := by decide +kernel
theorem dX11_change_6 : decode cX11_change 6 = .ok (.iconst 0, 1) := by decide +kernel
theorem dX11_change_7 : decode cX11_change 7 = .ok (.putfield 178, 3) := by decide +kernel
theorem dX11_change_10 : decode cX11_change 10 = .ok (.aload_n 0, 1) := by decide +kernel
theorem dX11_change_11 : decode cX11_change 11 = .ok (.ldc2_w 249, 3) := by decide +kernel
theorem dX11_change_14 : decode cX11_change 14 = .ok (.invokevirtual 217, 3) := by decide +kernel
theorem dX11_change_17 : decode cX11_change 17 = .ok (.ifCond .eq 98, 3) := by decide +kernel
theorem dX11_change_20 : decode cX11_change 20 = .ok (.aload_n 0, 1) := by decide +kernel
theorem dX11_change_21 : decode cX11_change 21 = .ok (.invokevirtual 255, 3) := by decide +kernel
theorem dX11_change_24 : decode cX11_change 24 = .ok (.ifCond .eq 10, 3) := by decide +kernel
theorem dX11_change_27 : decode cX11_change 27 = .ok (.aload_n 0, 1) := by decide +kernel
theorem dX11_change_28 : decode cX11_change 28 = .ok (.invokevirtual 267, 3) := by decide +kernel
theorem dX11_change_31 : decode cX11_change 31 = .ok (.ifCond .ne 5, 3) := by decide +kernel
theorem dX11_change_34 : decode cX11_change 34 = .ok (.iconst 0, 1) := by decide +kernel
theorem dX11_change_35 : decode cX11_change 35 = .ok (.ireturn, 1) := by decide +kernel
theorem dX11_change_36 : decode cX11_change 36 = .ok (.aload_n 0, 1) := by decide +kernel
theorem dX11_change_37 : decode cX11_change 37 = .ok (.iconst 0, 1) := by decide +kernel
theorem dX11_change_38 : decode cX11_change 38 = .ok (.invokevirtual 379, 3) := by decide +kernel
theorem dX11_change_41 : decode cX11_change 41 = .ok (.istore_n 1, 1) := by decide +kernel
theorem dX11_change_42 : decode cX11_change 42 = .ok (.iload_n 1, 1) := by decide +kernel
theorem dX11_change_43 : decode cX11_change 43 = .ok (.ifCond .ge 13, 3) := by decide +kernel
theorem dX11_change_46 : decode cX11_change 46 = .ok (.aload_n 0, 1) := by decide +kernel
theorem dX11_change_47 : decode cX11_change 47 = .ok (.iconst 3, 1) := by decide +kernel
theorem dX11_change_48 : decode cX11_change 48 = .ok (.aload_n 0, 1) := by decide +kernel
theorem dX11_change_49 : decode cX11_change 49 = .ok (.getfield 185, 3) := by decide +kernel
theorem dX11_change_52 : decode cX11_change 52 = .ok (.invokevirtual 201, 3) := by decide +kernel
theorem dX11_change_55 : decode cX11_change 55 = .ok (.ireturn, 1) := by decide +kernel
theorem dX11_change_56 : decode cX11_change 56 = .ok (.aload_n 0, 1) := by decide +kernel
theorem dX11_change_57 : decode cX11_change 57 = .ok (.dup, 1) := by decide +kernel
theorem dX11_change_58 : decode cX11_change 58 = .ok (.getfield 373, 3) := by decide +kernel
theorem dX11_change_61 : decode cX11_change 61 = .ok (.iconst 1, 1) := by decide +kernel
theorem dX11_change_62 : decode cX11_change 62 = .ok (.isub, 1) := by decide +kernel
theorem dX11_change_63 : decode cX11_change 63 = .ok (.putfield 373, 3) := by decide +kernel
theorem dX11_change_66 : decode cX11_change 66 = .ok (.iload_n 1, 1) := by decide +kernel
theorem dX11_change_67 : decode cX11_change 67 = .ok (.istore_n 2, 1) := by decide +kernel
theorem dX11_change_68 : decode cX11_change 68 = .ok (.iload_n 2, 1) := by decide +kernel
theorem dX11_change_69 : decode cX11_change 69 = .ok (.aload_n 0, 1) := by decide +kernel
theorem dX11_change_70 : decode cX11_change 70 = .ok (.getfield 373, 3) := by decide +kernel
theorem dX11_change_73 : decode cX11_change 73 = .ok (.if_icmp .ge 37, 3) := by decide +kernel
theorem dX11_change_76 : decode cX11_change 76 = .ok (.aload_n 0, 1) := by decide +kernel
theorem dX11_change_77 : decode cX11_change 77 = .ok (.getfield 119, 3) := by decide +kernel
theorem dX11_change_80 : decode cX11_change 80 = .ok (.iload_n 2, 1) := by decide +kernel
theorem dX11_change_81 : decode cX11_change 81 = .ok (.aload_n 0, 1) := by decide +kernel
theorem dX11_change_82 : decode cX11_change 82 = .ok (.getfield 119, 3) := by decide +kernel
theorem dX11_change_85 : decode cX11_change 85 = .ok (.iload_n 2, 1) := by decide +kernel
theorem dX11_change_86 : decode cX11_change 86 = .ok (.iconst 1, 1) := by decide +kernel
theorem dX11_change_87 : decode cX11_change 87 = .ok (.iadd, 1) := by decide +kernel
theorem dX11_change_88 : decode cX11_change 88 = .ok (.iaload, 1) := by decide +kernel
theorem dX11_change_89 : decode cX11_change 89 = .ok (.iastore, 1) := by decide +kernel
theorem dX11_change_90 : decode cX11_change 90 = .ok (.aload_n 0, 1) := by decide +kernel
theorem dX11_change_91 : decode cX11_change 91 = .ok (.getfield 122, 3) := by decide +kernel
theorem dX11_change_94 : decode cX11_change 94 = .ok (.iload_n 2, 1) := by decide +kernel
theorem dX11_change_95 : decode cX11_change 95 = .ok (.aload_n 0, 1) := by decide +kernel
theorem dX11_change_96 : decode cX11_change 96 = .ok (.getfield 122, 3) := by decide +kernel
theorem dX11_change_99 : decode cX11_change 99 = .ok (.iload_n 2, 1) := by decide +kernel
theorem dX11_change_100 : decode cX11_change 100 = .ok (.iconst 1, 1) := by decide +kernel
theorem dX11_change_101 : decode cX11_change 101 = .ok (.iadd, 1) := by decide +kernel
theorem dX11_change_102 : decode cX11_change 102 = .ok (.iaload, 1) := by decide +kernel
theorem dX11_change_103 : decode cX11_change 103 = .ok (.iastore, 1) := by decide +kernel
theorem dX11_change_104 : decode cX11_change 104 = .ok (.iinc 2 1, 3) := by decide +kernel
theorem dX11_change_107 : decode cX11_change 107 = .ok (.goto (-39), 3) := by decide +kernel
theorem dX11_change_110 : decode cX11_change 110 = .ok (.aload_n 0, 1) := by decide +kernel
theorem dX11_change_111 : decode cX11_change 111 = .ok (.invokevirtual 255, 3) := by decide +kernel
theorem dX11_change_114 : decode cX11_change 114 = .ok (.ireturn, 1) := by decide +kernel
theorem dX11_change_115 : decode cX11_change 115 = .ok (.aload_n 0, 1) := by decide +kernel
theorem dX11_change_116 : decode cX11_change 116 = .ok (.aload_n 0, 1) := by decide +kernel
theorem dX11_change_117 : decode cX11_change 117 = .ok (.ldc2_w 251, 3) := by decide +kernel
theorem dX11_change_120 : decode cX11_change 120 = .ok (.invokevirtual 217, 3) := by decide +kernel
theorem dX11_change_123 : decode cX11_change 123 = .ok (.putfield 376, 3) := by decide +kernel
theorem dX11_change_126 : decode cX11_change 126 = .ok (.aload_n 0, 1) := by decide +kernel
theorem dX11_change_127 : decode cX11_change 127 = .ok (.getfield 376, 3) := by decide +kernel
theorem dX11_change_130 : decode cX11_change 130 = .ok (.ifCond .ne 23, 3) := by decide +kernel
theorem dX11_change_133 : decode cX11_change 133 = .ok (.aload_n 0, 1) := by decide +kernel
theorem dX11_change_134 : decode cX11_change 134 = .ok (.ldc2_w 253, 3) := by decide +kernel
theorem dX11_change_137 : decode cX11_change 137 = .ok (.invokevirtual 217, 3) := by decide +kernel
theorem dX11_change_140 : decode cX11_change 140 = .ok (.ifCond .ne 13, 3) := by decide +kernel
theorem dX11_change_143 : decode cX11_change 143 = .ok (.aload_n 0, 1) := by decide +kernel
theorem dX11_change_144 : decode cX11_change 144 = .ok (.iconst 0, 1) := by decide +kernel
theorem dX11_change_145 : decode cX11_change 145 = .ok (.aload_n 0, 1) := by decide +kernel
theorem dX11_change_146 : decode cX11_change 146 = .ok (.getfield 185, 3) := by decide +kernel
theorem dX11_change_149 : decode cX11_change 149 = .ok (.invokevirtual 201, 3) := by decide +kernel
theorem dX11_change_152 : decode cX11_change 152 = .ok (.ireturn, 1) := by decide +kernel
theorem dX11_change_153 : decode cX11_change 153 = .ok (.aload_n 0, 1) := by decide +kernel
theorem dX11_change_154 : decode cX11_change 154 = .ok (.invokevirtual 255, 3) := by decide +kernel
theorem dX11_change_157 : decode cX11_change 157 = .ok (.istore_n 1, 1) := by decide +kernel
theorem dX11_change_158 : decode cX11_change 158 = .ok (.aload_n 0, 1) := by decide +kernel
theorem dX11_change_159 : decode cX11_change 159 = .ok (.iconst 0, 1) := by decide +kernel
theorem dX11_change_160 : decode cX11_change 160 = .ok (.putfield 175, 3) := by decide +kernel
theorem dX11_change_163 : decode cX11_change 163 = .ok (.aload_n 0, 1) := by decide +kernel
theorem dX11_change_164 : decode cX11_change 164 = .ok (.iconst 0, 1) := by decide +kernel
theorem dX11_change_165 : decode cX11_change 165 = .ok (.putfield 178, 3) := by decide +kernel
theorem dX11_change_168 : decode cX11_change 168 = .ok (.iload_n 1, 1) := by decide +kernel
theorem dX11_change_169 : decode cX11_change 169 = .ok (.ifCond .eq 15, 3) := by decide +kernel
theorem dX11_change_172 : decode cX11_change 172 = .ok (.aload_n 0, 1) := by decide +kernel
theorem dX11_change_173 : decode cX11_change 173 = .ok (.iconst 0, 1) := by decide +kernel
theorem dX11_change_174 : decode cX11_change 174 = .ok (.invokevirtual 341, 3) := by decide +kernel
theorem dX11_change_177 : decode cX11_change 177 = .ok (.ifCond .eq 7, 3) := by decide +kernel
theorem dX11_change_180 : decode cX11_change 180 = .ok (.iconst 1, 1) := by decide +kernel
theorem dX11_change_181 : decode cX11_change 181 = .ok (.goto 4, 3) := by decide +kernel
theorem dX11_change_184 : decode cX11_change 184 = .ok (.iconst 0, 1) := by decide +kernel
theorem dX11_change_185 : decode cX11_change 185 = .ok (.istore_n 1, 1) := by decide +kernel
theorem dX11_change_186 : decode cX11_change 186 = .ok (.iload_n 1, 1) := by decide +kernel
theorem dX11_change_187 : decode cX11_change 187 = .ok (.ifCond .ne 5, 3) := by decide +kernel
theorem dX11_change_190 : decode cX11_change 190 = .ok (.iconst 0, 1) := by decide +kernel
theorem dX11_change_191 : decode cX11_change 191 = .ok (.ireturn, 1) := by decide +kernel
theorem dX11_change_192 : decode cX11_change 192 = .ok (.aload_n 0, 1) := by decide +kernel
theorem dX11_change_193 : decode cX11_change 193 = .ok (.getfield 376, 3) := by decide +kernel
theorem dX11_change_196 : decode cX11_change 196 = .ok (.ifCond .eq 23, 3) := by decide +kernel
theorem dX11_change_199 : decode cX11_change 199 = .ok (.aload_n 0, 1) := by decide +kernel
theorem dX11_change_200 : decode cX11_change 200 = .ok (.aload_n 0, 1) := by decide +kernel
theorem dX11_change_201 : decode cX11_change 201 = .ok (.getfield 383, 3) := by decide +kernel
theorem dX11_change_204 : decode cX11_change 204 = .ok (.aload_n 0, 1) := by decide +kernel
theorem dX11_change_205 : decode cX11_change 205 = .ok (.getfield 39, 3) := by decide +kernel
theorem dX11_change_208 : decode cX11_change 208 = .ok (.iconst 0, 1) := by decide +kernel
theorem dX11_change_209 : decode cX11_change 209 = .ok (.aload_n 0, 1) := by decide +kernel
theorem dX11_change_210 : decode cX11_change 210 = .ok (.getfield 175, 3) := by decide +kernel
theorem dX11_change_213 : decode cX11_change 213 = .ok (.invokevirtual 386, 3) := by decide +kernel
theorem dX11_change_216 : decode cX11_change 216 = .ok (.goto 30, 3) := by decide +kernel
theorem dX11_change_219 : decode cX11_change 219 = .ok (.aload_n 0, 1) := by decide +kernel
theorem dX11_change_220 : decode cX11_change 220 = .ok (.aload_n 0, 1) := by decide +kernel
theorem dX11_change_221 : decode cX11_change 221 = .ok (.getfield 373, 3) := by decide +kernel
theorem dX11_change_224 : decode cX11_change 224 = .ok (.aload_n 0, 1) := by decide +kernel
theorem dX11_change_225 : decode cX11_change 225 = .ok (.getfield 39, 3) := by decide +kernel
theorem dX11_change_228 : decode cX11_change 228 = .ok (.iconst 0, 1) := by decide +kernel
theorem dX11_change_229 : decode cX11_change 229 = .ok (.aload_n 0, 1) := by decide +kernel
theorem dX11_change_230 : decode cX11_change 230 = .ok (.getfield 175, 3) := by decide +kernel
theorem dX11_change_233 : decode cX11_change 233 = .ok (.invokevirtual 386, 3) := by decide +kernel
theorem dX11_change_236 : decode cX11_change 236 = .ok (.aload_n 0, 1) := by decide +kernel
theorem dX11_change_237 : decode cX11_change 237 = .ok (.dup, 1) := by decide +kernel
theorem dX11_change_238 : decode cX11_change 238 = .ok (.getfield 373, 3) := by decide +kernel
theorem dX11_change_241 : decode cX11_change 241 = .ok (.iconst 1, 1) := by decide +kernel
theorem dX11_change_242 : decode cX11_change 242 = .ok (.iadd, 1) := by decide +kernel
theorem dX11_change_243 : decode cX11_change 243 = .ok (.putfield 373, 3) := by decide +kernel
theorem dX11_change_246 : decode cX11_change 246 = .ok (.iconst 1, 1) := by decide +kernel
theorem dX11_change_247 : decode cX11_change 247 = .ok (.ireturn, 1) := by decide +kernel
def fX11_change_b68 : Nat → Nat → Int32 → JM → JO (Int32)
  | 0, _, _, _ => none
  | fu + 1, a, x2, μ => jck ((jT μ a).1 == 12) <| if (jI μ a 51) ≤ x2 then (jcl (fX11_takes a μ) fun r105 μ106 => jck (jbl r105) <| some (r105, μ106, 0, 0)) else (jde (jP μ a 52) fun q115 => jck ((jT μ q115).1 == 101) <| jck (jin (x2 + (1 : Int32)) (jT μ q115).2) <| jck (jin x2 (jT μ q115).2) <| jlt (jsI μ q115 (x2).toNatClampNeg (jI μ q115 ((x2 + (1 : Int32))).toNatClampNeg)) fun μ120 => jde (jP μ120 a 53) fun q123 => jck ((jT μ q123).1 == 101) <| jck (jin (x2 + (1 : Int32)) (jT μ q123).2) <| jck (jin x2 (jT μ q123).2) <| jlt (jsI μ120 q123 (x2).toNatClampNeg (jI μ120 q123 ((x2 + (1 : Int32))).toNatClampNeg)) fun μ128 => fX11_change_b68 fu a (x2 + (1 : Int32)) μ128)
set_option maxHeartbeats 4000000 in
set_option maxRecDepth 100000 in
theorem gX11_change_b68 {b : Nat} {Θ : JE} {RC RS : Nat} {r : Int32} {ν : JM} (X : jX b Θ RX11 cX11_change 3 (some .boolean) 7 158 RC RS) : ∀ (fu : Nat) (a : Nat) (x2 : Int32) (μ : JM) (c m k n : Nat), fX11_change_b68 fu a x2 μ = some (r, ν, c, m) → k + c = RC → n + m = RS → WA b Θ 3 (jE b Θ (some (.int r)) ν RC RS) μ k n 68 [(0, va_rf (some a)), (2, .int x2)] [] := by
  intro fu
  induction fu with
  | zero => intro a x2 μ c m k n hf; cases hf
  | succ fu ih =>
    intro a x2 μ c m k n hf hk hn
    rw [fX11_change_b68] at hf
    refine wa_iload_n X 1 dX11_change_68 rfl ?_
    refine wa_aload_n X 0 dX11_change_69 rfl ?_
    obtain ⟨h103, hf⟩ := jckT hf
    refine wa_getI X dX11_change_70 lfX11_373 rfl h103 rfl ?_
    refine wa_icge (tgt := 110) X dX11_change_73 (by decide) (fun h104 => ?_) (fun h104 => ?_)
    · rw [if_pos h104] at hf
      refine wa_aload_n X 0 dX11_change_110 rfl ?_
      obtain ⟨r105, μ106, c107, m108, c109, m110, e111, hf, h112, h113⟩ := jcl_some hf
      refine wa_rcallV (st2 := [.int r105]) X dX11_change_111 lmX11_255 lMX11_takes rfl h103 (mX11_takes e111) rfl rfl rfl (va_cats (Nat.le_of_ble_eq_true rfl)) (by decide) (by omega) (by omega) ?_
      obtain ⟨h114, hf⟩ := jck_some hf
      obtain ⟨rfl, rfl, rfl, rfl⟩ := jret hf
      exact wa_iret X dX11_change_114 (jbl_nar h114) (by omega) (by omega)
    · rw [if_neg h104] at hf
      refine wa_aload_n X 0 dX11_change_76 rfl ?_
      refine wa_getP X dX11_change_77 lfX11_119 rfl h103 rfl ?_
      refine wa_iload_n X 1 dX11_change_80 rfl ?_
      refine wa_aload_n X 0 dX11_change_81 rfl ?_
      refine wa_getP X dX11_change_82 lfX11_119 rfl h103 rfl ?_
      refine wa_iload_n X 1 dX11_change_85 rfl ?_
      refine wa_iconst (v := (1 : Int32)) X dX11_change_86 (by decide) ?_
      refine wa_iadd X dX11_change_87 ?_
      obtain ⟨q115, h116, hf⟩ := jde_some hf
      obtain ⟨h117, hf⟩ := jckT hf
      obtain ⟨h118, hf⟩ := jck_some hf
      refine wa_riald X dX11_change_88 h116 h117 h118 ?_
      obtain ⟨h119, hf⟩ := jck_some hf
      obtain ⟨μ120, hm121, hf⟩ := jlt_e hf
      have e122 : jT μ120 = jT μ := by rw [hm121]; rfl
      refine wa_riast (ν := μ120) X dX11_change_89 h116 h117 h119 hm121 ?_
      refine wa_aload_n X 0 dX11_change_90 rfl ?_
      refine wa_getP X dX11_change_91 lfX11_122 rfl (by rw [e122]; exact h103) rfl ?_
      refine wa_iload_n X 1 dX11_change_94 rfl ?_
      refine wa_aload_n X 0 dX11_change_95 rfl ?_
      refine wa_getP X dX11_change_96 lfX11_122 rfl (by rw [e122]; exact h103) rfl ?_
      refine wa_iload_n X 1 dX11_change_99 rfl ?_
      refine wa_iconst (v := (1 : Int32)) X dX11_change_100 (by decide) ?_
      refine wa_iadd X dX11_change_101 ?_
      obtain ⟨q123, h124, hf⟩ := jde_some hf
      obtain ⟨h125, hf⟩ := jckT hf
      obtain ⟨h126, hf⟩ := jck_some hf
      refine wa_riald X dX11_change_102 h124 (by rw [e122]; exact h125) (by rw [e122]; exact h126) ?_
      obtain ⟨h127, hf⟩ := jck_some hf
      obtain ⟨μ128, hm129, hf⟩ := jlt_e hf
      have e130 : jT μ128 = jT μ := by rw [hm129]; exact e122
      refine wa_riast (ν := μ128) X dX11_change_103 h124 (by rw [e122]; exact h125) (by rw [e122]; exact h127) hm129 ?_
      refine wa_iinc (v := (x2 + (1 : Int32))) (L2 := [(2, .int (x2 + (1 : Int32))), (0, va_rf (some a))]) X 1 dX11_change_104 rfl rfl (by decide) (by first | rfl | simp [va_rf_cat, cat_i, cat_l]) ?_
      refine wa_goto (tgt := 68) X dX11_change_107 (by decide) ?_
      refine wa_sub (L2 := [(0, va_rf (some a)), (2, .int (x2 + (1 : Int32)))]) [1, 0] rfl ?_
      exact ih a (x2 + (1 : Int32)) μ128 _ _ _ _ hf (by omega) (by omega)
def fX11_change_b185 (a : Nat) (s0 : Int32) (μ : JM) : JO (Int32) := if s0 = 0 then (some ((0 : Int32), μ, 0, 0)) else (jck ((jT μ a).1 == 12) <| if (jI μ a 56) = 0 then (jcl (fX11_part a (jI μ a 51) (jP μ a 19) (0 : Int32) (jI μ a 20) μ) fun u162 μ163 => jck ((jT μ163 a).1 == 12) <| jlt (jsI μ163 a 51 ((jI μ163 a 51) + (1 : Int32))) fun μ172 => some ((1 : Int32), μ172, 0, 0)) else (jcl (fX11_part a (jI μ a 57) (jP μ a 19) (0 : Int32) (jI μ a 20) μ) fun u175 μ176 => some ((1 : Int32), μ176, 0, 0)))
set_option maxHeartbeats 4000000 in
set_option maxRecDepth 100000 in
theorem gX11_change_b185 {b : Nat} {Θ : JE} {RC RS : Nat} {r : Int32} {ν : JM} (X : jX b Θ RX11 cX11_change 3 (some .boolean) 7 158 RC RS) (a : Nat) (s0 : Int32) (μ : JM) (c m k n : Nat) (hf : fX11_change_b185 a s0 μ = some (r, ν, c, m)) (hk : k + c = RC) (hn : n + m = RS) : WA b Θ 3 (jE b Θ (some (.int r)) ν RC RS) μ k n 185 [(0, va_rf (some a))] [.int s0] := by
  rw [fX11_change_b185] at hf
  refine wa_istore_n (L2 := [(1, .int s0), (0, va_rf (some a))]) X dX11_change_185 (by decide) (by first | rfl | (show (1, _) :: List.filter (fun q : Nat × Value => !(q.1 == 1) && !(q.1 + 1 == 1 && q.2.category == 2)) _ = _; simp [va_rf_cat, cat_i, cat_l])) ?_
  refine wa_iload_n X 0 dX11_change_186 rfl ?_
  refine wa_ifne (tgt := 192) X dX11_change_187 (by decide) (fun h159 => ?_) (fun h159 => ?_)
  · rw [if_neg h159] at hf
    refine wa_aload_n X 1 dX11_change_192 rfl ?_
    obtain ⟨h160, hf⟩ := jckT hf
    refine wa_getI X dX11_change_193 lfX11_376 rfl h160 rfl ?_
    refine wa_ifeq (tgt := 219) X dX11_change_196 (by decide) (fun h161 => ?_) (fun h161 => ?_)
    · rw [if_pos h161] at hf
      refine wa_aload_n X 1 dX11_change_219 rfl ?_
      refine wa_aload_n X 1 dX11_change_220 rfl ?_
      refine wa_getI X dX11_change_221 lfX11_373 rfl h160 rfl ?_
      refine wa_aload_n X 1 dX11_change_224 rfl ?_
      refine wa_getP X dX11_change_225 lfX11_39 rfl h160 rfl ?_
      refine wa_iconst (v := (0 : Int32)) X dX11_change_228 (by decide) ?_
      refine wa_aload_n X 1 dX11_change_229 rfl ?_
      refine wa_getI X dX11_change_230 lfX11_175 rfl h160 rfl ?_
      obtain ⟨u162, μ163, c164, m165, c166, m167, e168, hf, h169, h170⟩ := jcl_some hf
      refine wa_rcallV (st2 := []) X dX11_change_233 lmX11_386 lMX11_part rfl h160 (mX11_part e168) rfl rfl rfl (va_cats (Nat.le_of_ble_eq_true rfl)) (by decide) (by omega) (by omega) ?_
      refine wa_aload_n X 1 dX11_change_236 rfl ?_
      refine wa_dup X dX11_change_237 (va_rf_cat _) ?_
      obtain ⟨h171, hf⟩ := jckT hf
      refine wa_getI X dX11_change_238 lfX11_373 rfl h171 rfl ?_
      refine wa_iconst (v := (1 : Int32)) X dX11_change_241 (by decide) ?_
      refine wa_iadd X dX11_change_242 ?_
      obtain ⟨μ172, hm173, hf⟩ := jlt_e hf
      have e174 : jT μ172 = jT μ163 := by rw [hm173]; rfl
      refine wa_rputI (ν := μ172) X dX11_change_243 lfX11_373 rfl h171 rfl rfl hm173 ?_
      refine wa_iconst (v := (1 : Int32)) X dX11_change_246 (by decide) ?_
      obtain ⟨rfl, rfl, rfl, rfl⟩ := jret hf
      exact wa_iret X dX11_change_247 rfl (by omega) (by omega)
    · rw [if_neg h161] at hf
      refine wa_aload_n X 1 dX11_change_199 rfl ?_
      refine wa_aload_n X 1 dX11_change_200 rfl ?_
      refine wa_getI X dX11_change_201 lfX11_383 rfl h160 rfl ?_
      refine wa_aload_n X 1 dX11_change_204 rfl ?_
      refine wa_getP X dX11_change_205 lfX11_39 rfl h160 rfl ?_
      refine wa_iconst (v := (0 : Int32)) X dX11_change_208 (by decide) ?_
      refine wa_aload_n X 1 dX11_change_209 rfl ?_
      refine wa_getI X dX11_change_210 lfX11_175 rfl h160 rfl ?_
      obtain ⟨u175, μ176, c177, m178, c179, m180, e181, hf, h182, h183⟩ := jcl_some hf
      refine wa_rcallV (st2 := []) X dX11_change_213 lmX11_386 lMX11_part rfl h160 (mX11_part e181) rfl rfl rfl (va_cats (Nat.le_of_ble_eq_true rfl)) (by decide) (by omega) (by omega) ?_
      refine wa_goto (tgt := 246) X dX11_change_216 (by decide) ?_
      refine wa_iconst (v := (1 : Int32)) X dX11_change_246 (by decide) ?_
      obtain ⟨rfl, rfl, rfl, rfl⟩ := jret hf
      exact wa_iret X dX11_change_247 rfl (by omega) (by omega)
  · rw [if_pos h159] at hf
    refine wa_iconst (v := (0 : Int32)) X dX11_change_190 (by decide) ?_
    obtain ⟨rfl, rfl, rfl, rfl⟩ := jret hf
    exact wa_iret X dX11_change_191 rfl (by omega) (by omega)
def fX11_change_b184 (a : Nat) (μ : JM) : JO (Int32) := fX11_change_b185  a (0 : Int32) μ
set_option maxHeartbeats 4000000 in
set_option maxRecDepth 100000 in
theorem gX11_change_b184 {b : Nat} {Θ : JE} {RC RS : Nat} {r : Int32} {ν : JM} (X : jX b Θ RX11 cX11_change 3 (some .boolean) 7 158 RC RS) (a : Nat) (μ : JM) (c m k n : Nat) (hf : fX11_change_b184 a μ = some (r, ν, c, m)) (hk : k + c = RC) (hn : n + m = RS) : WA b Θ 3 (jE b Θ (some (.int r)) ν RC RS) μ k n 184 [(0, va_rf (some a))] [] := by
  rw [fX11_change_b184] at hf
  refine wa_iconst (v := (0 : Int32)) X dX11_change_184 (by decide) ?_
  refine wa_sub (L2 := [(0, va_rf (some a))]) [0] rfl ?_
  exact gX11_change_b185 X a (0 : Int32) μ _ _ _ _ hf (by omega) (by omega)
def fX11_change_b153 (a : Nat) (μ : JM) : JO (Int32) := jck ((jT μ a).1 == 12) <| jcl (fX11_takes a μ) fun r132 μ133 => jck ((jT μ133 a).1 == 12) <| jlt (jsI μ133 a 20 (0 : Int32)) fun μ142 => jlt (jsI μ142 a 21 (0 : Int32)) fun μ145 => if r132 = 0 then (fX11_change_b184  a μ145) else (jcl (fX11_clause a (0 : Int32) μ145) fun r149 μ150 => if r149 = 0 then (fX11_change_b184  a μ150) else (fX11_change_b185  a (1 : Int32) μ150))
set_option maxHeartbeats 4000000 in
set_option maxRecDepth 100000 in
theorem gX11_change_b153 {b : Nat} {Θ : JE} {RC RS : Nat} {r : Int32} {ν : JM} (X : jX b Θ RX11 cX11_change 3 (some .boolean) 7 158 RC RS) (a : Nat) (μ : JM) (c m k n : Nat) (hf : fX11_change_b153 a μ = some (r, ν, c, m)) (hk : k + c = RC) (hn : n + m = RS) : WA b Θ 3 (jE b Θ (some (.int r)) ν RC RS) μ k n 153 [(0, va_rf (some a))] [] := by
  rw [fX11_change_b153] at hf
  refine wa_aload_n X 0 dX11_change_153 rfl ?_
  obtain ⟨h131, hf⟩ := jckT hf
  obtain ⟨r132, μ133, c134, m135, c136, m137, e138, hf, h139, h140⟩ := jcl_some hf
  refine wa_rcallV (st2 := [.int r132]) X dX11_change_154 lmX11_255 lMX11_takes rfl h131 (mX11_takes e138) rfl rfl rfl (va_cats (Nat.le_of_ble_eq_true rfl)) (by decide) (by omega) (by omega) ?_
  refine wa_istore_n (L2 := [(1, .int r132), (0, va_rf (some a))]) X dX11_change_157 (by decide) (by first | rfl | (show (1, _) :: List.filter (fun q : Nat × Value => !(q.1 == 1) && !(q.1 + 1 == 1 && q.2.category == 2)) _ = _; simp [va_rf_cat, cat_i, cat_l])) ?_
  refine wa_aload_n X 1 dX11_change_158 rfl ?_
  refine wa_iconst (v := (0 : Int32)) X dX11_change_159 (by decide) ?_
  obtain ⟨h141, hf⟩ := jckT hf
  obtain ⟨μ142, hm143, hf⟩ := jlt_e hf
  have e144 : jT μ142 = jT μ133 := by rw [hm143]; rfl
  refine wa_rputI (ν := μ142) X dX11_change_160 lfX11_175 rfl h141 rfl rfl hm143 ?_
  refine wa_aload_n X 1 dX11_change_163 rfl ?_
  refine wa_iconst (v := (0 : Int32)) X dX11_change_164 (by decide) ?_
  obtain ⟨μ145, hm146, hf⟩ := jlt_e hf
  have e147 : jT μ145 = jT μ133 := by rw [hm146]; exact e144
  refine wa_rputI (ν := μ145) X dX11_change_165 lfX11_178 rfl (by rw [e144]; exact h141) rfl rfl hm146 ?_
  refine wa_iload_n X 0 dX11_change_168 rfl ?_
  refine wa_ifeq (tgt := 184) X dX11_change_169 (by decide) (fun h148 => ?_) (fun h148 => ?_)
  · rw [if_pos h148] at hf
    refine wa_sub (L2 := [(0, va_rf (some a))]) [1] rfl ?_
    exact gX11_change_b184 X a μ145 _ _ _ _ hf (by omega) (by omega)
  · rw [if_neg h148] at hf
    refine wa_aload_n X 1 dX11_change_172 rfl ?_
    refine wa_iconst (v := (0 : Int32)) X dX11_change_173 (by decide) ?_
    obtain ⟨r149, μ150, c151, m152, c153, m154, e155, hf, h156, h157⟩ := jcl_some hf
    refine wa_rcallV (st2 := [.int r149]) X dX11_change_174 lmX11_341 lMX11_clause rfl (by rw [e147]; exact h141) (mX11_clause e155) rfl rfl rfl (va_cats (Nat.le_of_ble_eq_true rfl)) (by decide) (by omega) (by omega) ?_
    refine wa_ifeq (tgt := 184) X dX11_change_177 (by decide) (fun h158 => ?_) (fun h158 => ?_)
    · rw [if_pos h158] at hf
      refine wa_sub (L2 := [(0, va_rf (some a))]) [1] rfl ?_
      exact gX11_change_b184 X a μ150 _ _ _ _ hf (by omega) (by omega)
    · rw [if_neg h158] at hf
      refine wa_iconst (v := (1 : Int32)) X dX11_change_180 (by decide) ?_
      refine wa_goto (tgt := 185) X dX11_change_181 (by decide) ?_
      refine wa_sub (L2 := [(0, va_rf (some a))]) [1] rfl ?_
      exact gX11_change_b185 X a (1 : Int32) μ150 _ _ _ _ hf (by omega) (by omega)
def fX11_change (a : Nat) (μ : JM) : JO (Int32) := jck ((jT μ a).1 == 12) <| jlt (jsI μ a 20 (0 : Int32)) fun μ2 => jlt (jsI μ2 a 21 (0 : Int32)) fun μ5 => jcl (fX11_isWord a (659105125 : Int64) μ5) fun r8 μ9 => if r8 = 0 then (jck ((jT μ9 a).1 == 12) <| jcl (fX11_isWord a (19512296549 : Int64) μ9) fun r19 μ20 => jck ((jT μ20 a).1 == 12) <| jck (jbl r19) <| jlt (jsI μ20 a 56 r19) fun μ30 => if (jI μ30 a 56) = 0 then (jcl (fX11_isWord a (1156 : Int64) μ30) fun r34 μ35 => if r34 = 0 then (jck ((jT μ35 a).1 == 12) <| jcl (fX11_fails a (0 : Int32) (jI μ35 a 15) μ35) fun r45 μ46 => jck (jbl r45) <| some (r45, μ46, 0, 0)) else (fX11_change_b153  a μ35)) else (fX11_change_b153  a μ30)) else (jck ((jT μ9 a).1 == 12) <| jcl (fX11_takes a μ9) fun r56 μ57 => if r56 = 0 then (some ((0 : Int32), μ57, 0, 0)) else (jck ((jT μ57 a).1 == 12) <| jcl (fX11_isName a μ57) fun r67 μ68 => if r67 = 0 then (some ((0 : Int32), μ68, 0, 0)) else (jck ((jT μ68 a).1 == 12) <| jcl (fX11_placed a (0 : Int32) μ68) fun r78 μ79 => if 0 ≤ r78 then (jck ((jT μ79 a).1 == 12) <| jlt (jsI μ79 a 51 ((jI μ79 a 51) - (1 : Int32))) fun μ89 => fX11_change_b68  jfuel a r78 μ89) else (jck ((jT μ79 a).1 == 12) <| jcl (fX11_fails a (3 : Int32) (jI μ79 a 15) μ79) fun r93 μ94 => jck (jbl r93) <| some (r93, μ94, 0, 0)))))
set_option maxHeartbeats 4000000 in
set_option maxRecDepth 100000 in
theorem mX11_change {b : Nat} {a : Nat} {μ : JM} {r : Int32} {ν : JM} {c m : Nat} (hf : fX11_change a μ = some (r, ν, c, m)) : JMet b yX11_change cX11_change 3 (some .boolean) 7 158 [va_rf (some a)] μ (some (.int r)) ν c m := by
  refine JMet.of (by decide) (lg_sl_le (by simp only [List.map_cons, List.map_nil, List.sum_cons, List.sum_nil, va_rf_cat]; exact Nat.le_of_ble_eq_true rfl)) (fun Θ X hin => ?_)
  refine wa_eq (L2 := [(0, va_rf (some a))]) ?_ rfl (by first | rfl | simp [lv_args, va_rf_cat, cat_i, cat_l]) rfl
  obtain ⟨k, hk0⟩ : ∃ k : Nat, k = 0 := ⟨0, rfl⟩
  obtain ⟨n, hn0⟩ : ∃ n : Nat, n = 0 := ⟨0, rfl⟩
  have hk : k + c = c := by omega
  have hn : n + m = m := by omega
  refine wa_costs hk0.symm hn0.symm ?_
  rw [fX11_change] at hf
  refine wa_aload_n X 0 dX11_change_0 rfl ?_
  refine wa_iconst (v := (0 : Int32)) X dX11_change_1 (by decide) ?_
  obtain ⟨h1, hf⟩ := jckT hf
  obtain ⟨μ2, hm3, hf⟩ := jlt_e hf
  have e4 : jT μ2 = jT μ := by rw [hm3]; rfl
  refine wa_rputI (ν := μ2) X dX11_change_2 lfX11_175 rfl h1 rfl rfl hm3 ?_
  refine wa_aload_n X 0 dX11_change_5 rfl ?_
  refine wa_iconst (v := (0 : Int32)) X dX11_change_6 (by decide) ?_
  obtain ⟨μ5, hm6, hf⟩ := jlt_e hf
  have e7 : jT μ5 = jT μ := by rw [hm6]; exact e4
  refine wa_rputI (ν := μ5) X dX11_change_7 lfX11_178 rfl (by rw [e4]; exact h1) rfl rfl hm6 ?_
  refine wa_aload_n X 0 dX11_change_10 rfl ?_
  refine wa_ldc2 (v := (659105125 : Int64)) X dX11_change_11 lkX11_249 ?_
  obtain ⟨r8, μ9, c10, m11, c12, m13, e14, hf, h15, h16⟩ := jcl_some hf
  refine wa_rcallV (st2 := [.int r8]) X dX11_change_14 lmX11_217 lMX11_isWord rfl (by rw [e7]; exact h1) (mX11_isWord e14) rfl rfl rfl (va_cats (Nat.le_of_ble_eq_true rfl)) (by decide) (by omega) (by omega) ?_
  refine wa_ifeq (tgt := 115) X dX11_change_17 (by decide) (fun h17 => ?_) (fun h17 => ?_)
  · rw [if_pos h17] at hf
    refine wa_aload_n X 0 dX11_change_115 rfl ?_
    refine wa_aload_n X 0 dX11_change_116 rfl ?_
    refine wa_ldc2 (v := (19512296549 : Int64)) X dX11_change_117 lkX11_251 ?_
    obtain ⟨h18, hf⟩ := jckT hf
    obtain ⟨r19, μ20, c21, m22, c23, m24, e25, hf, h26, h27⟩ := jcl_some hf
    refine wa_rcallV (st2 := [.int r19, va_rf (some a)]) X dX11_change_120 lmX11_217 lMX11_isWord rfl h18 (mX11_isWord e25) rfl rfl rfl (va_cats (Nat.le_of_ble_eq_true rfl)) (by decide) (by omega) (by omega) ?_
    obtain ⟨h28, hf⟩ := jckT hf
    obtain ⟨h29, hf⟩ := jck_some hf
    obtain ⟨μ30, hm31, hf⟩ := jlt_e hf
    have e32 : jT μ30 = jT μ20 := by rw [hm31]; rfl
    refine wa_rputZ (ν := μ30) X dX11_change_123 lfX11_376 rfl h28 rfl h29 rfl hm31 ?_
    refine wa_aload_n X 0 dX11_change_126 rfl ?_
    refine wa_getI X dX11_change_127 lfX11_376 rfl (by rw [e32]; exact h28) rfl ?_
    refine wa_ifne (tgt := 153) X dX11_change_130 (by decide) (fun h33 => ?_) (fun h33 => ?_)
    · rw [if_neg h33] at hf
      refine wa_sub (L2 := [(0, va_rf (some a))]) [0] rfl ?_
      exact gX11_change_b153 X a μ30 _ _ _ _ hf (by omega) (by omega)
    · rw [if_pos h33] at hf
      refine wa_aload_n X 0 dX11_change_133 rfl ?_
      refine wa_ldc2 (v := (1156 : Int64)) X dX11_change_134 lkX11_253 ?_
      obtain ⟨r34, μ35, c36, m37, c38, m39, e40, hf, h41, h42⟩ := jcl_some hf
      refine wa_rcallV (st2 := [.int r34]) X dX11_change_137 lmX11_217 lMX11_isWord rfl (by rw [e32]; exact h28) (mX11_isWord e40) rfl rfl rfl (va_cats (Nat.le_of_ble_eq_true rfl)) (by decide) (by omega) (by omega) ?_
      refine wa_ifne (tgt := 153) X dX11_change_140 (by decide) (fun h43 => ?_) (fun h43 => ?_)
      · rw [if_neg h43] at hf
        refine wa_sub (L2 := [(0, va_rf (some a))]) [0] rfl ?_
        exact gX11_change_b153 X a μ35 _ _ _ _ hf (by omega) (by omega)
      · rw [if_pos h43] at hf
        refine wa_aload_n X 0 dX11_change_143 rfl ?_
        refine wa_iconst (v := (0 : Int32)) X dX11_change_144 (by decide) ?_
        refine wa_aload_n X 0 dX11_change_145 rfl ?_
        obtain ⟨h44, hf⟩ := jckT hf
        refine wa_getI X dX11_change_146 lfX11_185 rfl h44 rfl ?_
        obtain ⟨r45, μ46, c47, m48, c49, m50, e51, hf, h52, h53⟩ := jcl_some hf
        refine wa_rcallV (st2 := [.int r45]) X dX11_change_149 lmX11_201 lMX11_fails rfl h44 (mX11_fails e51) rfl rfl rfl (va_cats (Nat.le_of_ble_eq_true rfl)) (by decide) (by omega) (by omega) ?_
        obtain ⟨h54, hf⟩ := jck_some hf
        obtain ⟨rfl, rfl, rfl, rfl⟩ := jret hf
        exact wa_iret X dX11_change_152 (jbl_nar h54) (by omega) (by omega)
  · rw [if_neg h17] at hf
    refine wa_aload_n X 0 dX11_change_20 rfl ?_
    obtain ⟨h55, hf⟩ := jckT hf
    obtain ⟨r56, μ57, c58, m59, c60, m61, e62, hf, h63, h64⟩ := jcl_some hf
    refine wa_rcallV (st2 := [.int r56]) X dX11_change_21 lmX11_255 lMX11_takes rfl h55 (mX11_takes e62) rfl rfl rfl (va_cats (Nat.le_of_ble_eq_true rfl)) (by decide) (by omega) (by omega) ?_
    refine wa_ifeq (tgt := 34) X dX11_change_24 (by decide) (fun h65 => ?_) (fun h65 => ?_)
    · rw [if_pos h65] at hf
      refine wa_iconst (v := (0 : Int32)) X dX11_change_34 (by decide) ?_
      obtain ⟨rfl, rfl, rfl, rfl⟩ := jret hf
      exact wa_iret X dX11_change_35 rfl (by omega) (by omega)
    · rw [if_neg h65] at hf
      refine wa_aload_n X 0 dX11_change_27 rfl ?_
      obtain ⟨h66, hf⟩ := jckT hf
      obtain ⟨r67, μ68, c69, m70, c71, m72, e73, hf, h74, h75⟩ := jcl_some hf
      refine wa_rcallV (st2 := [.int r67]) X dX11_change_28 lmX11_267 lMX11_isName rfl h66 (mX11_isName e73) rfl rfl rfl (va_cats (Nat.le_of_ble_eq_true rfl)) (by decide) (by omega) (by omega) ?_
      refine wa_ifne (tgt := 36) X dX11_change_31 (by decide) (fun h76 => ?_) (fun h76 => ?_)
      · rw [if_neg h76] at hf
        refine wa_aload_n X 0 dX11_change_36 rfl ?_
        refine wa_iconst (v := (0 : Int32)) X dX11_change_37 (by decide) ?_
        obtain ⟨h77, hf⟩ := jckT hf
        obtain ⟨r78, μ79, c80, m81, c82, m83, e84, hf, h85, h86⟩ := jcl_some hf
        refine wa_rcallV (st2 := [.int r78]) X dX11_change_38 lmX11_379 lMX11_placed rfl h77 (mX11_placed e84) rfl rfl rfl (va_cats (Nat.le_of_ble_eq_true rfl)) (by decide) (by omega) (by omega) ?_
        refine wa_istore_n (L2 := [(1, .int r78), (0, va_rf (some a))]) X dX11_change_41 (by decide) (by first | rfl | (show (1, _) :: List.filter (fun q : Nat × Value => !(q.1 == 1) && !(q.1 + 1 == 1 && q.2.category == 2)) _ = _; simp [va_rf_cat, cat_i, cat_l])) ?_
        refine wa_iload_n X 0 dX11_change_42 rfl ?_
        refine wa_ifge (tgt := 56) X dX11_change_43 (by decide) (fun h87 => ?_) (fun h87 => ?_)
        · rw [if_pos h87] at hf
          refine wa_aload_n X 1 dX11_change_56 rfl ?_
          refine wa_dup X dX11_change_57 (va_rf_cat _) ?_
          obtain ⟨h88, hf⟩ := jckT hf
          refine wa_getI X dX11_change_58 lfX11_373 rfl h88 rfl ?_
          refine wa_iconst (v := (1 : Int32)) X dX11_change_61 (by decide) ?_
          refine wa_isub X dX11_change_62 ?_
          obtain ⟨μ89, hm90, hf⟩ := jlt_e hf
          have e91 : jT μ89 = jT μ79 := by rw [hm90]; rfl
          refine wa_rputI (ν := μ89) X dX11_change_63 lfX11_373 rfl h88 rfl rfl hm90 ?_
          refine wa_iload_n X 0 dX11_change_66 rfl ?_
          refine wa_istore_n (L2 := [(2, .int r78), (1, .int r78), (0, va_rf (some a))]) X dX11_change_67 (by decide) (by first | rfl | (show (2, _) :: List.filter (fun q : Nat × Value => !(q.1 == 2) && !(q.1 + 1 == 2 && q.2.category == 2)) _ = _; simp [va_rf_cat, cat_i, cat_l])) ?_
          refine wa_sub (L2 := [(0, va_rf (some a)), (2, .int r78)]) [2, 0] rfl ?_
          exact gX11_change_b68 X jfuel a r78 μ89 _ _ _ _ hf (by omega) (by omega)
        · rw [if_neg h87] at hf
          refine wa_aload_n X 1 dX11_change_46 rfl ?_
          refine wa_iconst (v := (3 : Int32)) X dX11_change_47 (by decide) ?_
          refine wa_aload_n X 1 dX11_change_48 rfl ?_
          obtain ⟨h92, hf⟩ := jckT hf
          refine wa_getI X dX11_change_49 lfX11_185 rfl h92 rfl ?_
          obtain ⟨r93, μ94, c95, m96, c97, m98, e99, hf, h100, h101⟩ := jcl_some hf
          refine wa_rcallV (st2 := [.int r93]) X dX11_change_52 lmX11_201 lMX11_fails rfl h92 (mX11_fails e99) rfl rfl rfl (va_cats (Nat.le_of_ble_eq_true rfl)) (by decide) (by omega) (by omega) ?_
          obtain ⟨h102, hf⟩ := jck_some hf
          obtain ⟨rfl, rfl, rfl, rfl⟩ := jret hf
          exact wa_iret X dX11_change_55 (jbl_nar h102) (by omega) (by omega)
      · rw [if_pos h76] at hf
        refine wa_iconst (v := (0 : Int32)) X dX11_change_34 (by decide) ?_
        obtain ⟨rfl, rfl, rfl, rfl⟩ := jret hf
        exact wa_iret X dX11_change_35 rfl (by omega) (by omega)
theorem dX11_changes_0 : decode cX11_changes 0 = .ok (.aload_n 0, 1) := by decide +kernel
theorem dX11_changes_1 : decode cX11_changes 1 = .ok (.iconst 0, 1) := by decide +kernel
theorem dX11_changes_2 : decode cX11_changes 2 = .ok (.putfield 280, 3) := by decide +kernel
theorem dX11_changes_5 : decode cX11_changes 5 = .ok (.aload_n 0, 1) := by decide +kernel
theorem dX11_changes_6 : decode cX11_changes 6 = .ok (.iconst 0, 1) := by decide +kernel
theorem dX11_changes_7 : decode cX11_changes 7 = .ok (.putfield 284, 3) := by decide +kernel
theorem dX11_changes_10 : decode cX11_changes 10 = .ok (.iconst 0, 1) := by decide +kernel
theorem dX11_changes_11 : decode cX11_changes 11 = .ok (.istore_n 1, 1) := by decide +kernel
theorem dX11_changes_12 : decode cX11_changes 12 = .ok (.aload_n 0, 1) := by decide +kernel
theorem dX11_changes_13 : decode cX11_changes 13 = .ok (.getfield 163, 3) := by decide +kernel
theorem dX11_changes_16 : decode cX11_changes 16 = .ok (.ifCond .ne 7, 3) := by decide +kernel
theorem dX11_changes_19 : decode cX11_changes 19 = .ok (.iconst 1, 1) := by decide +kernel
theorem dX11_changes_20 : decode cX11_changes 20 = .ok (.goto 4, 3) := by decide +kernel
theorem dX11_changes_23 : decode cX11_changes 23 = .ok (.iconst 0, 1) := by decide +kernel
theorem dX11_changes_24 : decode cX11_changes 24 = .ok (.istore_n 2, 1) := by decide +kernel
theorem dX11_changes_25 : decode cX11_changes 25 = .ok (.iload_n 2, 1) := by decide +kernel
theorem dX11_changes_26 : decode cX11_changes 26 = .ok (.ifCond .eq 120, 3) := by decide +kernel
theorem dX11_changes_29 : decode cX11_changes 29 = .ok (.aload_n 0, 1) := by decide +kernel
theorem dX11_changes_30 : decode cX11_changes 30 = .ok (.ldc2_w 249, 3) := by decide +kernel
theorem dX11_changes_33 : decode cX11_changes 33 = .ok (.invokevirtual 217, 3) := by decide +kernel
theorem dX11_changes_36 : decode cX11_changes 36 = .ok (.ifCond .ne 23, 3) := by decide +kernel
theorem dX11_changes_39 : decode cX11_changes 39 = .ok (.aload_n 0, 1) := by decide +kernel
theorem dX11_changes_40 : decode cX11_changes 40 = .ok (.ldc2_w 251, 3) := by decide +kernel
theorem dX11_changes_43 : decode cX11_changes 43 = .ok (.invokevirtual 217, 3) := by decide +kernel
theorem dX11_changes_46 : decode cX11_changes 46 = .ok (.ifCond .ne 13, 3) := by decide +kernel
theorem dX11_changes_49 : decode cX11_changes 49 = .ok (.aload_n 0, 1) := by decide +kernel
theorem dX11_changes_50 : decode cX11_changes 50 = .ok (.ldc2_w 253, 3) := by decide +kernel
theorem dX11_changes_53 : decode cX11_changes 53 = .ok (.invokevirtual 217, 3) := by decide +kernel
theorem dX11_changes_56 : decode cX11_changes 56 = .ok (.ifCond .eq 7, 3) := by decide +kernel
theorem dX11_changes_59 : decode cX11_changes 59 = .ok (.iconst 1, 1) := by decide +kernel
theorem dX11_changes_60 : decode cX11_changes 60 = .ok (.goto 4, 3) := by decide +kernel
theorem dX11_changes_63 : decode cX11_changes 63 = .ok (.iconst 0, 1) := by decide +kernel
theorem dX11_changes_64 : decode cX11_changes 64 = .ok (.istore_n 3, 1) := by decide +kernel
theorem dX11_changes_65 : decode cX11_changes 65 = .ok (.iload_n 1, 1) := by decide +kernel
theorem dX11_changes_66 : decode cX11_changes 66 = .ok (.bipush 12, 2) := by decide +kernel
theorem dX11_changes_68 : decode cX11_changes 68 = .ok (.if_icmp .lt 23, 3) := by decide +kernel
theorem dX11_changes_71 : decode cX11_changes 71 = .ok (.aload_n 0, 1) := by decide +kernel
theorem dX11_changes_72 : decode cX11_changes 72 = .ok (.iload_n 3, 1) := by decide +kernel
theorem dX11_changes_73 : decode cX11_changes 73 = .ok (.ifCond .eq 7, 3) := by decide +kernel
theorem dX11_changes_76 : decode cX11_changes 76 = .ok (.iconst 4, 1) := by decide +kernel
theorem dX11_changes_77 : decode cX11_changes 77 = .ok (.goto 4, 3) := by decide +kernel
theorem dX11_changes_80 : decode cX11_changes 80 = .ok (.iconst 0, 1) := by decide +kernel
theorem dX11_changes_81 : decode cX11_changes 81 = .ok (.aload_n 0, 1) := by decide +kernel
theorem dX11_changes_82 : decode cX11_changes 82 = .ok (.getfield 185, 3) := by decide +kernel
theorem dX11_changes_85 : decode cX11_changes 85 = .ok (.invokevirtual 201, 3) := by decide +kernel
theorem dX11_changes_88 : decode cX11_changes 88 = .ok (.ifCond .eq 7, 3) := by decide +kernel
theorem dX11_changes_91 : decode cX11_changes 91 = .ok (.iconst 1, 1) := by decide +kernel
theorem dX11_changes_92 : decode cX11_changes 92 = .ok (.goto 4, 3) := by decide +kernel
theorem dX11_changes_95 : decode cX11_changes 95 = .ok (.iconst 0, 1) := by decide +kernel
theorem dX11_changes_96 : decode cX11_changes 96 = .ok (.istore_n 2, 1) := by decide +kernel
theorem dX11_changes_97 : decode cX11_changes 97 = .ok (.iload_n 2, 1) := by decide +kernel
theorem dX11_changes_98 : decode cX11_changes 98 = .ok (.ifCond .eq 14, 3) := by decide +kernel
theorem dX11_changes_101 : decode cX11_changes 101 = .ok (.aload_n 0, 1) := by decide +kernel
theorem dX11_changes_102 : decode cX11_changes 102 = .ok (.invokevirtual 390, 3) := by decide +kernel
theorem dX11_changes_105 : decode cX11_changes 105 = .ok (.ifCond .eq 7, 3) := by decide +kernel
theorem dX11_changes_108 : decode cX11_changes 108 = .ok (.iconst 1, 1) := by decide +kernel
theorem dX11_changes_109 : decode cX11_changes 109 = .ok (.goto 4, 3) := by decide +kernel
theorem dX11_changes_112 : decode cX11_changes 112 = .ok (.iconst 0, 1) := by decide +kernel
theorem dX11_changes_113 : decode cX11_changes 113 = .ok (.istore_n 2, 1) := by decide +kernel
theorem dX11_changes_114 : decode cX11_changes 114 = .ok (.iinc 1 1, 3) := by decide +kernel
theorem dX11_changes_117 : decode cX11_changes 117 = .ok (.aload_n 0, 1) := by decide +kernel
theorem dX11_changes_118 : decode cX11_changes 118 = .ok (.iconst 0, 1) := by decide +kernel
theorem dX11_changes_119 : decode cX11_changes 119 = .ok (.putfield 376, 3) := by decide +kernel
theorem dX11_changes_122 : decode cX11_changes 122 = .ok (.iload_n 2, 1) := by decide +kernel
theorem dX11_changes_123 : decode cX11_changes 123 = .ok (.ifCond .eq 23, 3) := by decide +kernel
theorem dX11_changes_126 : decode cX11_changes 126 = .ok (.aload_n 0, 1) := by decide +kernel
theorem dX11_changes_127 : decode cX11_changes 127 = .ok (.getfield 194, 3) := by decide +kernel
theorem dX11_changes_130 : decode cX11_changes 130 = .ok (.ifCond .ne 6, 3) := by decide +kernel
theorem dX11_changes_133 : decode cX11_changes 133 = .ok (.goto 13, 3) := by decide +kernel
theorem dX11_changes_136 : decode cX11_changes 136 = .ok (.aload_n 0, 1) := by decide +kernel
theorem dX11_changes_137 : decode cX11_changes 137 = .ok (.bipush 59, 2) := by decide +kernel
theorem dX11_changes_139 : decode cX11_changes 139 = .ok (.invokevirtual 325, 3) := by decide +kernel
theorem dX11_changes_142 : decode cX11_changes 142 = .ok (.istore_n 2, 1) := by decide +kernel
theorem dX11_changes_143 : decode cX11_changes 143 = .ok (.goto (-118), 3) := by decide +kernel
theorem dX11_changes_146 : decode cX11_changes 146 = .ok (.aload_n 0, 1) := by decide +kernel
theorem dX11_changes_147 : decode cX11_changes 147 = .ok (.iconst 0, 1) := by decide +kernel
theorem dX11_changes_148 : decode cX11_changes 148 = .ok (.putfield 376, 3) := by decide +kernel
theorem dX11_changes_151 : decode cX11_changes 151 = .ok (.iload_n 2, 1) := by decide +kernel
theorem dX11_changes_152 : decode cX11_changes 152 = .ok (.ifCond .eq 14, 3) := by decide +kernel
theorem dX11_changes_155 : decode cX11_changes 155 = .ok (.aload_n 0, 1) := by decide +kernel
theorem dX11_changes_156 : decode cX11_changes 156 = .ok (.getfield 163, 3) := by decide +kernel
theorem dX11_changes_159 : decode cX11_changes 159 = .ok (.ifCond .ne 7, 3) := by decide +kernel
theorem dX11_changes_162 : decode cX11_changes 162 = .ok (.iconst 1, 1) := by decide +kernel
theorem dX11_changes_163 : decode cX11_changes 163 = .ok (.goto 4, 3) := by decide +kernel
theorem dX11_changes_166 : decode cX11_changes 166 = .ok (.iconst 0, 1) := by decide +kernel
theorem dX11_changes_167 : decode cX11_changes 167 = .ok (.ireturn, 1) := by decide +kernel
def fX11_changes_b146 (a : Nat) (x2 : Int32) (μ : JM) : JO (Int32) := jck ((jT μ a).1 == 12) <| jlt (jsI μ a 56 (0 : Int32)) fun μ87 => if x2 = 0 then (some ((0 : Int32), μ87, 0, 0)) else (if (jI μ87 a 18) = 0 then (some ((1 : Int32), μ87, 0, 0)) else (some ((0 : Int32), μ87, 0, 0)))
set_option maxHeartbeats 4000000 in
set_option maxRecDepth 100000 in
theorem gX11_changes_b146 {b : Nat} {Θ : JE} {RC RS : Nat} {r : Int32} {ν : JM} (X : jX b Θ RX11 cX11_changes 4 (some .boolean) 8 180 RC RS) (a : Nat) (x2 : Int32) (μ : JM) (c m k n : Nat) (hf : fX11_changes_b146 a x2 μ = some (r, ν, c, m)) (hk : k + c = RC) (hn : n + m = RS) : WA b Θ 4 (jE b Θ (some (.int r)) ν RC RS) μ k n 146 [(0, va_rf (some a)), (2, .int x2)] [] := by
  rw [fX11_changes_b146] at hf
  refine wa_aload_n X 0 dX11_changes_146 rfl ?_
  refine wa_iconst (v := (0 : Int32)) X dX11_changes_147 (by decide) ?_
  obtain ⟨h86, hf⟩ := jckT hf
  obtain ⟨μ87, hm88, hf⟩ := jlt_e hf
  have e89 : jT μ87 = jT μ := by rw [hm88]; rfl
  refine wa_rputZ (ν := μ87) X dX11_changes_148 lfX11_376 rfl h86 rfl (by decide) rfl hm88 ?_
  refine wa_iload_n X 1 dX11_changes_151 rfl ?_
  refine wa_ifeq (tgt := 166) X dX11_changes_152 (by decide) (fun h90 => ?_) (fun h90 => ?_)
  · rw [if_pos h90] at hf
    refine wa_iconst (v := (0 : Int32)) X dX11_changes_166 (by decide) ?_
    obtain ⟨rfl, rfl, rfl, rfl⟩ := jret hf
    exact wa_iret X dX11_changes_167 rfl (by omega) (by omega)
  · rw [if_neg h90] at hf
    refine wa_aload_n X 0 dX11_changes_155 rfl ?_
    refine wa_getI X dX11_changes_156 lfX11_163 rfl (by rw [e89]; exact h86) rfl ?_
    refine wa_ifne (tgt := 166) X dX11_changes_159 (by decide) (fun h91 => ?_) (fun h91 => ?_)
    · rw [if_neg h91] at hf
      refine wa_iconst (v := (0 : Int32)) X dX11_changes_166 (by decide) ?_
      obtain ⟨rfl, rfl, rfl, rfl⟩ := jret hf
      exact wa_iret X dX11_changes_167 rfl (by omega) (by omega)
    · rw [if_pos h91] at hf
      refine wa_iconst (v := (1 : Int32)) X dX11_changes_162 (by decide) ?_
      refine wa_goto (tgt := 167) X dX11_changes_163 (by decide) ?_
      obtain ⟨rfl, rfl, rfl, rfl⟩ := jret hf
      exact wa_iret X dX11_changes_167 rfl (by omega) (by omega)
def fX11_changes_b113 (rec25 : Nat → Int32 → Int32 → JM → JO (Int32)) (a : Nat) (x1 : Int32) (s0 : Int32) (μ : JM) : JO (Int32) := jck ((jT μ a).1 == 12) <| jlt (jsI μ a 56 (0 : Int32)) fun μ72 => if s0 = 0 then (fX11_changes_b146  a s0 μ72) else (if (jI μ72 a 14) = 0 then (fX11_changes_b146  a s0 μ72) else (jcl (fX11_expectsSign a (59 : Int32) μ72) fun r77 μ78 => rec25 a (x1 + (1 : Int32)) r77 μ78))
set_option maxHeartbeats 4000000 in
set_option maxRecDepth 100000 in
theorem gX11_changes_b113 {b : Nat} {Θ : JE} {RC RS : Nat} {r : Int32} {ν : JM} (X : jX b Θ RX11 cX11_changes 4 (some .boolean) 8 180 RC RS) {rec25 : Nat → Int32 → Int32 → JM → JO (Int32)} (hrec25 : ∀ (a : Nat) (x1 : Int32) (x2 : Int32) (μ : JM) (c m k n : Nat), rec25 a x1 x2 μ = some (r, ν, c, m) → k + c = RC → n + m = RS → WA b Θ 4 (jE b Θ (some (.int r)) ν RC RS) μ k n 25 [(0, va_rf (some a)), (1, .int x1), (2, .int x2)] []) (a : Nat) (x1 : Int32) (s0 : Int32) (μ : JM) (c m k n : Nat) (hf : fX11_changes_b113 rec25 a x1 s0 μ = some (r, ν, c, m)) (hk : k + c = RC) (hn : n + m = RS) : WA b Θ 4 (jE b Θ (some (.int r)) ν RC RS) μ k n 113 [(0, va_rf (some a)), (1, .int x1)] [.int s0] := by
  rw [fX11_changes_b113] at hf
  refine wa_istore_n (L2 := [(2, .int s0), (0, va_rf (some a)), (1, .int x1)]) X dX11_changes_113 (by decide) (by first | rfl | (show (2, _) :: List.filter (fun q : Nat × Value => !(q.1 == 2) && !(q.1 + 1 == 2 && q.2.category == 2)) _ = _; simp [va_rf_cat, cat_i, cat_l])) ?_
  refine wa_iinc (v := (x1 + (1 : Int32))) (L2 := [(1, .int (x1 + (1 : Int32))), (2, .int s0), (0, va_rf (some a))]) X 2 dX11_changes_114 rfl rfl (by decide) (by first | rfl | simp [va_rf_cat, cat_i, cat_l]) ?_
  refine wa_aload_n X 2 dX11_changes_117 rfl ?_
  refine wa_iconst (v := (0 : Int32)) X dX11_changes_118 (by decide) ?_
  obtain ⟨h71, hf⟩ := jckT hf
  obtain ⟨μ72, hm73, hf⟩ := jlt_e hf
  have e74 : jT μ72 = jT μ := by rw [hm73]; rfl
  refine wa_rputZ (ν := μ72) X dX11_changes_119 lfX11_376 rfl h71 rfl (by decide) rfl hm73 ?_
  refine wa_iload_n X 1 dX11_changes_122 rfl ?_
  refine wa_ifeq (tgt := 146) X dX11_changes_123 (by decide) (fun h75 => ?_) (fun h75 => ?_)
  · rw [if_pos h75] at hf
    refine wa_sub (L2 := [(0, va_rf (some a)), (2, .int s0)]) [2, 1] rfl ?_
    exact gX11_changes_b146 X a s0 μ72 _ _ _ _ hf (by omega) (by omega)
  · rw [if_neg h75] at hf
    refine wa_aload_n X 2 dX11_changes_126 rfl ?_
    refine wa_getI X dX11_changes_127 lfX11_194 rfl (by rw [e74]; exact h71) rfl ?_
    refine wa_ifne (tgt := 136) X dX11_changes_130 (by decide) (fun h76 => ?_) (fun h76 => ?_)
    · rw [if_neg h76] at hf
      refine wa_aload_n X 2 dX11_changes_136 rfl ?_
      refine wa_bipush (v := (59 : Int32)) X dX11_changes_137 (by decide) ?_
      obtain ⟨r77, μ78, c79, m80, c81, m82, e83, hf, h84, h85⟩ := jcl_some hf
      refine wa_rcallV (st2 := [.int r77]) X dX11_changes_139 lmX11_325 lMX11_expectsSign rfl (by rw [e74]; exact h71) (mX11_expectsSign e83) rfl rfl rfl (va_cats (Nat.le_of_ble_eq_true rfl)) (by decide) (by omega) (by omega) ?_
      refine wa_istore_n (L2 := [(2, .int r77), (1, .int (x1 + (1 : Int32))), (0, va_rf (some a))]) X dX11_changes_142 (by decide) (by first | rfl | (show (2, _) :: List.filter (fun q : Nat × Value => !(q.1 == 2) && !(q.1 + 1 == 2 && q.2.category == 2)) _ = _; simp [va_rf_cat, cat_i, cat_l])) ?_
      refine wa_goto (tgt := 25) X dX11_changes_143 (by decide) ?_
      refine wa_sub (L2 := [(0, va_rf (some a)), (1, .int (x1 + (1 : Int32))), (2, .int r77)]) [2, 1, 0] rfl ?_
      exact hrec25 a (x1 + (1 : Int32)) r77 μ78 _ _ _ _ hf (by omega) (by omega)
    · rw [if_pos h76] at hf
      refine wa_goto (tgt := 146) X dX11_changes_133 (by decide) ?_
      refine wa_sub (L2 := [(0, va_rf (some a)), (2, .int s0)]) [2, 1] rfl ?_
      exact gX11_changes_b146 X a s0 μ72 _ _ _ _ hf (by omega) (by omega)
def fX11_changes_b112 (rec25 : Nat → Int32 → Int32 → JM → JO (Int32)) (a : Nat) (x1 : Int32) (μ : JM) : JO (Int32) := fX11_changes_b113 rec25 a x1 (0 : Int32) μ
set_option maxHeartbeats 4000000 in
set_option maxRecDepth 100000 in
theorem gX11_changes_b112 {b : Nat} {Θ : JE} {RC RS : Nat} {r : Int32} {ν : JM} (X : jX b Θ RX11 cX11_changes 4 (some .boolean) 8 180 RC RS) {rec25 : Nat → Int32 → Int32 → JM → JO (Int32)} (hrec25 : ∀ (a : Nat) (x1 : Int32) (x2 : Int32) (μ : JM) (c m k n : Nat), rec25 a x1 x2 μ = some (r, ν, c, m) → k + c = RC → n + m = RS → WA b Θ 4 (jE b Θ (some (.int r)) ν RC RS) μ k n 25 [(0, va_rf (some a)), (1, .int x1), (2, .int x2)] []) (a : Nat) (x1 : Int32) (μ : JM) (c m k n : Nat) (hf : fX11_changes_b112 rec25 a x1 μ = some (r, ν, c, m)) (hk : k + c = RC) (hn : n + m = RS) : WA b Θ 4 (jE b Θ (some (.int r)) ν RC RS) μ k n 112 [(0, va_rf (some a)), (1, .int x1)] [] := by
  rw [fX11_changes_b112] at hf
  refine wa_iconst (v := (0 : Int32)) X dX11_changes_112 (by decide) ?_
  refine wa_sub (L2 := [(0, va_rf (some a)), (1, .int x1)]) [0, 1] rfl ?_
  exact gX11_changes_b113 X hrec25 a x1 (0 : Int32) μ _ _ _ _ hf (by omega) (by omega)
def fX11_changes_b96 (rec25 : Nat → Int32 → Int32 → JM → JO (Int32)) (a : Nat) (x1 : Int32) (s0 : Int32) (μ : JM) : JO (Int32) := if s0 = 0 then (fX11_changes_b112 rec25 a x1 μ) else (jck ((jT μ a).1 == 12) <| jcl (fX11_change a μ) fun r61 μ62 => if r61 = 0 then (fX11_changes_b112 rec25 a x1 μ62) else (fX11_changes_b113 rec25 a x1 (1 : Int32) μ62))
set_option maxHeartbeats 4000000 in
set_option maxRecDepth 100000 in
theorem gX11_changes_b96 {b : Nat} {Θ : JE} {RC RS : Nat} {r : Int32} {ν : JM} (X : jX b Θ RX11 cX11_changes 4 (some .boolean) 8 180 RC RS) {rec25 : Nat → Int32 → Int32 → JM → JO (Int32)} (hrec25 : ∀ (a : Nat) (x1 : Int32) (x2 : Int32) (μ : JM) (c m k n : Nat), rec25 a x1 x2 μ = some (r, ν, c, m) → k + c = RC → n + m = RS → WA b Θ 4 (jE b Θ (some (.int r)) ν RC RS) μ k n 25 [(0, va_rf (some a)), (1, .int x1), (2, .int x2)] []) (a : Nat) (x1 : Int32) (s0 : Int32) (μ : JM) (c m k n : Nat) (hf : fX11_changes_b96 rec25 a x1 s0 μ = some (r, ν, c, m)) (hk : k + c = RC) (hn : n + m = RS) : WA b Θ 4 (jE b Θ (some (.int r)) ν RC RS) μ k n 96 [(0, va_rf (some a)), (1, .int x1)] [.int s0] := by
  rw [fX11_changes_b96] at hf
  refine wa_istore_n (L2 := [(2, .int s0), (0, va_rf (some a)), (1, .int x1)]) X dX11_changes_96 (by decide) (by first | rfl | (show (2, _) :: List.filter (fun q : Nat × Value => !(q.1 == 2) && !(q.1 + 1 == 2 && q.2.category == 2)) _ = _; simp [va_rf_cat, cat_i, cat_l])) ?_
  refine wa_iload_n X 0 dX11_changes_97 rfl ?_
  refine wa_ifeq (tgt := 112) X dX11_changes_98 (by decide) (fun h59 => ?_) (fun h59 => ?_)
  · rw [if_pos h59] at hf
    refine wa_sub (L2 := [(0, va_rf (some a)), (1, .int x1)]) [1, 2] rfl ?_
    exact gX11_changes_b112 X hrec25 a x1 μ _ _ _ _ hf (by omega) (by omega)
  · rw [if_neg h59] at hf
    refine wa_aload_n X 1 dX11_changes_101 rfl ?_
    obtain ⟨h60, hf⟩ := jckT hf
    obtain ⟨r61, μ62, c63, m64, c65, m66, e67, hf, h68, h69⟩ := jcl_some hf
    refine wa_rcallV (st2 := [.int r61]) X dX11_changes_102 lmX11_390 lMX11_change rfl h60 (mX11_change e67) rfl rfl rfl (va_cats (Nat.le_of_ble_eq_true rfl)) (by decide) (by omega) (by omega) ?_
    refine wa_ifeq (tgt := 112) X dX11_changes_105 (by decide) (fun h70 => ?_) (fun h70 => ?_)
    · rw [if_pos h70] at hf
      refine wa_sub (L2 := [(0, va_rf (some a)), (1, .int x1)]) [1, 2] rfl ?_
      exact gX11_changes_b112 X hrec25 a x1 μ62 _ _ _ _ hf (by omega) (by omega)
    · rw [if_neg h70] at hf
      refine wa_iconst (v := (1 : Int32)) X dX11_changes_108 (by decide) ?_
      refine wa_goto (tgt := 113) X dX11_changes_109 (by decide) ?_
      refine wa_sub (L2 := [(0, va_rf (some a)), (1, .int x1)]) [1, 2] rfl ?_
      exact gX11_changes_b113 X hrec25 a x1 (1 : Int32) μ62 _ _ _ _ hf (by omega) (by omega)
def fX11_changes_b91 (rec25 : Nat → Int32 → Int32 → JM → JO (Int32)) (a : Nat) (x1 : Int32) (μ : JM) : JO (Int32) := fX11_changes_b96 rec25 a x1 (1 : Int32) μ
set_option maxHeartbeats 4000000 in
set_option maxRecDepth 100000 in
theorem gX11_changes_b91 {b : Nat} {Θ : JE} {RC RS : Nat} {r : Int32} {ν : JM} (X : jX b Θ RX11 cX11_changes 4 (some .boolean) 8 180 RC RS) {rec25 : Nat → Int32 → Int32 → JM → JO (Int32)} (hrec25 : ∀ (a : Nat) (x1 : Int32) (x2 : Int32) (μ : JM) (c m k n : Nat), rec25 a x1 x2 μ = some (r, ν, c, m) → k + c = RC → n + m = RS → WA b Θ 4 (jE b Θ (some (.int r)) ν RC RS) μ k n 25 [(0, va_rf (some a)), (1, .int x1), (2, .int x2)] []) (a : Nat) (x1 : Int32) (μ : JM) (c m k n : Nat) (hf : fX11_changes_b91 rec25 a x1 μ = some (r, ν, c, m)) (hk : k + c = RC) (hn : n + m = RS) : WA b Θ 4 (jE b Θ (some (.int r)) ν RC RS) μ k n 91 [(0, va_rf (some a)), (1, .int x1)] [] := by
  rw [fX11_changes_b91] at hf
  refine wa_iconst (v := (1 : Int32)) X dX11_changes_91 (by decide) ?_
  refine wa_goto (tgt := 96) X dX11_changes_92 (by decide) ?_
  refine wa_sub (L2 := [(0, va_rf (some a)), (1, .int x1)]) [0, 1] rfl ?_
  exact gX11_changes_b96 X hrec25 a x1 (1 : Int32) μ _ _ _ _ hf (by omega) (by omega)
def fX11_changes_b81 (rec25 : Nat → Int32 → Int32 → JM → JO (Int32)) (a : Nat) (x1 : Int32) (s0 : Int32) (s1 : Option Nat) (μ : JM) : JO (Int32) := jck ((jT μ a).1 == 12) <| jde s1 fun q46 => jck ((jT μ q46).1 == 12) <| jcl (fX11_fails q46 s0 (jI μ a 15) μ) fun r49 μ50 => if r49 = 0 then (fX11_changes_b96 rec25 a x1 (0 : Int32) μ50) else (fX11_changes_b91 rec25 a x1 μ50)
set_option maxHeartbeats 4000000 in
set_option maxRecDepth 100000 in
theorem gX11_changes_b81 {b : Nat} {Θ : JE} {RC RS : Nat} {r : Int32} {ν : JM} (X : jX b Θ RX11 cX11_changes 4 (some .boolean) 8 180 RC RS) {rec25 : Nat → Int32 → Int32 → JM → JO (Int32)} (hrec25 : ∀ (a : Nat) (x1 : Int32) (x2 : Int32) (μ : JM) (c m k n : Nat), rec25 a x1 x2 μ = some (r, ν, c, m) → k + c = RC → n + m = RS → WA b Θ 4 (jE b Θ (some (.int r)) ν RC RS) μ k n 25 [(0, va_rf (some a)), (1, .int x1), (2, .int x2)] []) (a : Nat) (x1 : Int32) (s0 : Int32) (s1 : Option Nat) (μ : JM) (c m k n : Nat) (hf : fX11_changes_b81 rec25 a x1 s0 s1 μ = some (r, ν, c, m)) (hk : k + c = RC) (hn : n + m = RS) : WA b Θ 4 (jE b Θ (some (.int r)) ν RC RS) μ k n 81 [(0, va_rf (some a)), (1, .int x1)] [.int s0, va_rf s1] := by
  rw [fX11_changes_b81] at hf
  refine wa_aload_n X 0 dX11_changes_81 rfl ?_
  obtain ⟨h45, hf⟩ := jckT hf
  refine wa_getI X dX11_changes_82 lfX11_185 rfl h45 rfl ?_
  obtain ⟨q46, h47, hf⟩ := jde_some hf
  obtain ⟨h48, hf⟩ := jckT hf
  obtain ⟨r49, μ50, c51, m52, c53, m54, e55, hf, h56, h57⟩ := jcl_some hf
  refine wa_rcallV (st2 := [.int r49]) X dX11_changes_85 lmX11_201 lMX11_fails h47 h48 (mX11_fails e55) rfl rfl rfl (va_cats (Nat.le_of_ble_eq_true rfl)) (by decide) (by omega) (by omega) ?_
  refine wa_ifeq (tgt := 95) X dX11_changes_88 (by decide) (fun h58 => ?_) (fun h58 => ?_)
  · rw [if_pos h58] at hf
    refine wa_iconst (v := (0 : Int32)) X dX11_changes_95 (by decide) ?_
    refine wa_sub (L2 := [(0, va_rf (some a)), (1, .int x1)]) [0, 1] rfl ?_
    exact gX11_changes_b96 X hrec25 a x1 (0 : Int32) μ50 _ _ _ _ hf (by omega) (by omega)
  · rw [if_neg h58] at hf
    refine wa_sub (L2 := [(0, va_rf (some a)), (1, .int x1)]) [0, 1] rfl ?_
    exact gX11_changes_b91 X hrec25 a x1 μ50 _ _ _ _ hf (by omega) (by omega)
def fX11_changes_b64 (rec25 : Nat → Int32 → Int32 → JM → JO (Int32)) (a : Nat) (x1 : Int32) (s0 : Int32) (μ : JM) : JO (Int32) := if x1 < (12 : Int32) then (fX11_changes_b91 rec25 a x1 μ) else (if s0 = 0 then (fX11_changes_b81 rec25 a x1 (0 : Int32) (some a) μ) else (fX11_changes_b81 rec25 a x1 (4 : Int32) (some a) μ))
set_option maxHeartbeats 4000000 in
set_option maxRecDepth 100000 in
theorem gX11_changes_b64 {b : Nat} {Θ : JE} {RC RS : Nat} {r : Int32} {ν : JM} (X : jX b Θ RX11 cX11_changes 4 (some .boolean) 8 180 RC RS) {rec25 : Nat → Int32 → Int32 → JM → JO (Int32)} (hrec25 : ∀ (a : Nat) (x1 : Int32) (x2 : Int32) (μ : JM) (c m k n : Nat), rec25 a x1 x2 μ = some (r, ν, c, m) → k + c = RC → n + m = RS → WA b Θ 4 (jE b Θ (some (.int r)) ν RC RS) μ k n 25 [(0, va_rf (some a)), (1, .int x1), (2, .int x2)] []) (a : Nat) (x1 : Int32) (s0 : Int32) (μ : JM) (c m k n : Nat) (hf : fX11_changes_b64 rec25 a x1 s0 μ = some (r, ν, c, m)) (hk : k + c = RC) (hn : n + m = RS) : WA b Θ 4 (jE b Θ (some (.int r)) ν RC RS) μ k n 64 [(0, va_rf (some a)), (1, .int x1)] [.int s0] := by
  rw [fX11_changes_b64] at hf
  refine wa_istore_n (L2 := [(3, .int s0), (0, va_rf (some a)), (1, .int x1)]) X dX11_changes_64 (by decide) (by first | rfl | (show (3, _) :: List.filter (fun q : Nat × Value => !(q.1 == 3) && !(q.1 + 1 == 3 && q.2.category == 2)) _ = _; simp [va_rf_cat, cat_i, cat_l])) ?_
  refine wa_iload_n X 2 dX11_changes_65 rfl ?_
  refine wa_bipush (v := (12 : Int32)) X dX11_changes_66 (by decide) ?_
  refine wa_iclt (tgt := 91) X dX11_changes_68 (by decide) (fun h43 => ?_) (fun h43 => ?_)
  · rw [if_pos h43] at hf
    refine wa_sub (L2 := [(0, va_rf (some a)), (1, .int x1)]) [1, 2] rfl ?_
    exact gX11_changes_b91 X hrec25 a x1 μ _ _ _ _ hf (by omega) (by omega)
  · rw [if_neg h43] at hf
    refine wa_aload_n X 1 dX11_changes_71 rfl ?_
    refine wa_iload_n X 0 dX11_changes_72 rfl ?_
    refine wa_ifeq (tgt := 80) X dX11_changes_73 (by decide) (fun h44 => ?_) (fun h44 => ?_)
    · rw [if_pos h44] at hf
      refine wa_iconst (v := (0 : Int32)) X dX11_changes_80 (by decide) ?_
      refine wa_sub (L2 := [(0, va_rf (some a)), (1, .int x1)]) [1, 2] rfl ?_
      exact gX11_changes_b81 X hrec25 a x1 (0 : Int32) (some a) μ _ _ _ _ hf (by omega) (by omega)
    · rw [if_neg h44] at hf
      refine wa_iconst (v := (4 : Int32)) X dX11_changes_76 (by decide) ?_
      refine wa_goto (tgt := 81) X dX11_changes_77 (by decide) ?_
      refine wa_sub (L2 := [(0, va_rf (some a)), (1, .int x1)]) [1, 2] rfl ?_
      exact gX11_changes_b81 X hrec25 a x1 (4 : Int32) (some a) μ _ _ _ _ hf (by omega) (by omega)
def fX11_changes_b59 (rec25 : Nat → Int32 → Int32 → JM → JO (Int32)) (a : Nat) (x1 : Int32) (μ : JM) : JO (Int32) := fX11_changes_b64 rec25 a x1 (1 : Int32) μ
set_option maxHeartbeats 4000000 in
set_option maxRecDepth 100000 in
theorem gX11_changes_b59 {b : Nat} {Θ : JE} {RC RS : Nat} {r : Int32} {ν : JM} (X : jX b Θ RX11 cX11_changes 4 (some .boolean) 8 180 RC RS) {rec25 : Nat → Int32 → Int32 → JM → JO (Int32)} (hrec25 : ∀ (a : Nat) (x1 : Int32) (x2 : Int32) (μ : JM) (c m k n : Nat), rec25 a x1 x2 μ = some (r, ν, c, m) → k + c = RC → n + m = RS → WA b Θ 4 (jE b Θ (some (.int r)) ν RC RS) μ k n 25 [(0, va_rf (some a)), (1, .int x1), (2, .int x2)] []) (a : Nat) (x1 : Int32) (μ : JM) (c m k n : Nat) (hf : fX11_changes_b59 rec25 a x1 μ = some (r, ν, c, m)) (hk : k + c = RC) (hn : n + m = RS) : WA b Θ 4 (jE b Θ (some (.int r)) ν RC RS) μ k n 59 [(0, va_rf (some a)), (1, .int x1)] [] := by
  rw [fX11_changes_b59] at hf
  refine wa_iconst (v := (1 : Int32)) X dX11_changes_59 (by decide) ?_
  refine wa_goto (tgt := 64) X dX11_changes_60 (by decide) ?_
  refine wa_sub (L2 := [(0, va_rf (some a)), (1, .int x1)]) [0, 1] rfl ?_
  exact gX11_changes_b64 X hrec25 a x1 (1 : Int32) μ _ _ _ _ hf (by omega) (by omega)
def fX11_changes_b25 : Nat → Nat → Int32 → Int32 → JM → JO (Int32)
  | 0, _, _, _, _ => none
  | fu + 1, a, x1, x2, μ => if x2 = 0 then (fX11_changes_b146  a x2 μ) else (jck ((jT μ a).1 == 12) <| jcl (fX11_isWord a (659105125 : Int64) μ) fun r11 μ12 => if r11 = 0 then (jck ((jT μ12 a).1 == 12) <| jcl (fX11_isWord a (19512296549 : Int64) μ12) fun r22 μ23 => if r22 = 0 then (jck ((jT μ23 a).1 == 12) <| jcl (fX11_isWord a (1156 : Int64) μ23) fun r33 μ34 => if r33 = 0 then (fX11_changes_b64 (fX11_changes_b25 fu) a x1 (0 : Int32) μ34) else (fX11_changes_b59 (fX11_changes_b25 fu) a x1 μ34)) else (fX11_changes_b59 (fX11_changes_b25 fu) a x1 μ23)) else (fX11_changes_b59 (fX11_changes_b25 fu) a x1 μ12))
set_option maxHeartbeats 4000000 in
set_option maxRecDepth 100000 in
theorem gX11_changes_b25 {b : Nat} {Θ : JE} {RC RS : Nat} {r : Int32} {ν : JM} (X : jX b Θ RX11 cX11_changes 4 (some .boolean) 8 180 RC RS) : ∀ (fu : Nat) (a : Nat) (x1 : Int32) (x2 : Int32) (μ : JM) (c m k n : Nat), fX11_changes_b25 fu a x1 x2 μ = some (r, ν, c, m) → k + c = RC → n + m = RS → WA b Θ 4 (jE b Θ (some (.int r)) ν RC RS) μ k n 25 [(0, va_rf (some a)), (1, .int x1), (2, .int x2)] [] := by
  intro fu
  induction fu with
  | zero => intro a x1 x2 μ c m k n hf; cases hf
  | succ fu ih =>
    intro a x1 x2 μ c m k n hf hk hn
    rw [fX11_changes_b25] at hf
    refine wa_iload_n X 2 dX11_changes_25 rfl ?_
    refine wa_ifeq (tgt := 146) X dX11_changes_26 (by decide) (fun h9 => ?_) (fun h9 => ?_)
    · rw [if_pos h9] at hf
      refine wa_sub (L2 := [(0, va_rf (some a)), (2, .int x2)]) [0, 2] rfl ?_
      exact gX11_changes_b146 X a x2 μ _ _ _ _ hf (by omega) (by omega)
    · rw [if_neg h9] at hf
      refine wa_aload_n X 0 dX11_changes_29 rfl ?_
      refine wa_ldc2 (v := (659105125 : Int64)) X dX11_changes_30 lkX11_249 ?_
      obtain ⟨h10, hf⟩ := jckT hf
      obtain ⟨r11, μ12, c13, m14, c15, m16, e17, hf, h18, h19⟩ := jcl_some hf
      refine wa_rcallV (st2 := [.int r11]) X dX11_changes_33 lmX11_217 lMX11_isWord rfl h10 (mX11_isWord e17) rfl rfl rfl (va_cats (Nat.le_of_ble_eq_true rfl)) (by decide) (by omega) (by omega) ?_
      refine wa_ifne (tgt := 59) X dX11_changes_36 (by decide) (fun h20 => ?_) (fun h20 => ?_)
      · rw [if_neg h20] at hf
        refine wa_sub (L2 := [(0, va_rf (some a)), (1, .int x1)]) [0, 1] rfl ?_
        exact gX11_changes_b59 X ih a x1 μ12 _ _ _ _ hf (by omega) (by omega)
      · rw [if_pos h20] at hf
        refine wa_aload_n X 0 dX11_changes_39 rfl ?_
        refine wa_ldc2 (v := (19512296549 : Int64)) X dX11_changes_40 lkX11_251 ?_
        obtain ⟨h21, hf⟩ := jckT hf
        obtain ⟨r22, μ23, c24, m25, c26, m27, e28, hf, h29, h30⟩ := jcl_some hf
        refine wa_rcallV (st2 := [.int r22]) X dX11_changes_43 lmX11_217 lMX11_isWord rfl h21 (mX11_isWord e28) rfl rfl rfl (va_cats (Nat.le_of_ble_eq_true rfl)) (by decide) (by omega) (by omega) ?_
        refine wa_ifne (tgt := 59) X dX11_changes_46 (by decide) (fun h31 => ?_) (fun h31 => ?_)
        · rw [if_neg h31] at hf
          refine wa_sub (L2 := [(0, va_rf (some a)), (1, .int x1)]) [0, 1] rfl ?_
          exact gX11_changes_b59 X ih a x1 μ23 _ _ _ _ hf (by omega) (by omega)
        · rw [if_pos h31] at hf
          refine wa_aload_n X 0 dX11_changes_49 rfl ?_
          refine wa_ldc2 (v := (1156 : Int64)) X dX11_changes_50 lkX11_253 ?_
          obtain ⟨h32, hf⟩ := jckT hf
          obtain ⟨r33, μ34, c35, m36, c37, m38, e39, hf, h40, h41⟩ := jcl_some hf
          refine wa_rcallV (st2 := [.int r33]) X dX11_changes_53 lmX11_217 lMX11_isWord rfl h32 (mX11_isWord e39) rfl rfl rfl (va_cats (Nat.le_of_ble_eq_true rfl)) (by decide) (by omega) (by omega) ?_
          refine wa_ifeq (tgt := 63) X dX11_changes_56 (by decide) (fun h42 => ?_) (fun h42 => ?_)
          · rw [if_pos h42] at hf
            refine wa_iconst (v := (0 : Int32)) X dX11_changes_63 (by decide) ?_
            refine wa_sub (L2 := [(0, va_rf (some a)), (1, .int x1)]) [0, 1] rfl ?_
            exact gX11_changes_b64 X ih a x1 (0 : Int32) μ34 _ _ _ _ hf (by omega) (by omega)
          · rw [if_neg h42] at hf
            refine wa_sub (L2 := [(0, va_rf (some a)), (1, .int x1)]) [0, 1] rfl ?_
            exact gX11_changes_b59 X ih a x1 μ34 _ _ _ _ hf (by omega) (by omega)
def fX11_changes_b24 (a : Nat) (x1 : Int32) (s0 : Int32) (μ : JM) : JO (Int32) := fX11_changes_b25  jfuel a x1 s0 μ
set_option maxHeartbeats 4000000 in
set_option maxRecDepth 100000 in
theorem gX11_changes_b24 {b : Nat} {Θ : JE} {RC RS : Nat} {r : Int32} {ν : JM} (X : jX b Θ RX11 cX11_changes 4 (some .boolean) 8 180 RC RS) (a : Nat) (x1 : Int32) (s0 : Int32) (μ : JM) (c m k n : Nat) (hf : fX11_changes_b24 a x1 s0 μ = some (r, ν, c, m)) (hk : k + c = RC) (hn : n + m = RS) : WA b Θ 4 (jE b Θ (some (.int r)) ν RC RS) μ k n 24 [(0, va_rf (some a)), (1, .int x1)] [.int s0] := by
  rw [fX11_changes_b24] at hf
  refine wa_istore_n (L2 := [(2, .int s0), (0, va_rf (some a)), (1, .int x1)]) X dX11_changes_24 (by decide) (by first | rfl | (show (2, _) :: List.filter (fun q : Nat × Value => !(q.1 == 2) && !(q.1 + 1 == 2 && q.2.category == 2)) _ = _; simp [va_rf_cat, cat_i, cat_l])) ?_
  refine wa_sub (L2 := [(0, va_rf (some a)), (1, .int x1), (2, .int s0)]) [1, 2, 0] rfl ?_
  exact gX11_changes_b25 X jfuel a x1 s0 μ _ _ _ _ hf (by omega) (by omega)
def fX11_changes (a : Nat) (μ : JM) : JO (Int32) := jck ((jT μ a).1 == 12) <| jlt (jsI μ a 33 (0 : Int32)) fun μ2 => jlt (jsI μ2 a 29 (0 : Int32)) fun μ5 => if (jI μ5 a 18) = 0 then (fX11_changes_b24  a (0 : Int32) (1 : Int32) μ5) else (fX11_changes_b24  a (0 : Int32) (0 : Int32) μ5)
set_option maxHeartbeats 4000000 in
set_option maxRecDepth 100000 in
theorem mX11_changes {b : Nat} {a : Nat} {μ : JM} {r : Int32} {ν : JM} {c m : Nat} (hf : fX11_changes a μ = some (r, ν, c, m)) : JMet b yX11_changes cX11_changes 4 (some .boolean) 8 180 [va_rf (some a)] μ (some (.int r)) ν c m := by
  refine JMet.of (by decide) (lg_sl_le (by simp only [List.map_cons, List.map_nil, List.sum_cons, List.sum_nil, va_rf_cat]; exact Nat.le_of_ble_eq_true rfl)) (fun Θ X hin => ?_)
  refine wa_eq (L2 := [(0, va_rf (some a))]) ?_ rfl (by first | rfl | simp [lv_args, va_rf_cat, cat_i, cat_l]) rfl
  obtain ⟨k, hk0⟩ : ∃ k : Nat, k = 0 := ⟨0, rfl⟩
  obtain ⟨n, hn0⟩ : ∃ n : Nat, n = 0 := ⟨0, rfl⟩
  have hk : k + c = c := by omega
  have hn : n + m = m := by omega
  refine wa_costs hk0.symm hn0.symm ?_
  rw [fX11_changes] at hf
  refine wa_aload_n X 0 dX11_changes_0 rfl ?_
  refine wa_iconst (v := (0 : Int32)) X dX11_changes_1 (by decide) ?_
  obtain ⟨h1, hf⟩ := jckT hf
  obtain ⟨μ2, hm3, hf⟩ := jlt_e hf
  have e4 : jT μ2 = jT μ := by rw [hm3]; rfl
  refine wa_rputZ (ν := μ2) X dX11_changes_2 lfX11_280 rfl h1 rfl (by decide) rfl hm3 ?_
  refine wa_aload_n X 0 dX11_changes_5 rfl ?_
  refine wa_iconst (v := (0 : Int32)) X dX11_changes_6 (by decide) ?_
  obtain ⟨μ5, hm6, hf⟩ := jlt_e hf
  have e7 : jT μ5 = jT μ := by rw [hm6]; exact e4
  refine wa_rputI (ν := μ5) X dX11_changes_7 lfX11_284 rfl (by rw [e4]; exact h1) rfl rfl hm6 ?_
  refine wa_iconst (v := (0 : Int32)) X dX11_changes_10 (by decide) ?_
  refine wa_istore_n (L2 := [(1, .int (0 : Int32)), (0, va_rf (some a))]) X dX11_changes_11 (by decide) (by first | rfl | (show (1, _) :: List.filter (fun q : Nat × Value => !(q.1 == 1) && !(q.1 + 1 == 1 && q.2.category == 2)) _ = _; simp [va_rf_cat, cat_i, cat_l])) ?_
  refine wa_aload_n X 1 dX11_changes_12 rfl ?_
  refine wa_getI X dX11_changes_13 lfX11_163 rfl (by rw [e7]; exact h1) rfl ?_
  refine wa_ifne (tgt := 23) X dX11_changes_16 (by decide) (fun h8 => ?_) (fun h8 => ?_)
  · rw [if_neg h8] at hf
    refine wa_iconst (v := (0 : Int32)) X dX11_changes_23 (by decide) ?_
    refine wa_sub (L2 := [(0, va_rf (some a)), (1, .int (0 : Int32))]) [1, 0] rfl ?_
    exact gX11_changes_b24 X a (0 : Int32) (0 : Int32) μ5 _ _ _ _ hf (by omega) (by omega)
  · rw [if_pos h8] at hf
    refine wa_iconst (v := (1 : Int32)) X dX11_changes_19 (by decide) ?_
    refine wa_goto (tgt := 24) X dX11_changes_20 (by decide) ?_
    refine wa_sub (L2 := [(0, va_rf (some a)), (1, .int (0 : Int32))]) [1, 0] rfl ?_
    exact gX11_changes_b24 X a (0 : Int32) (1 : Int32) μ5 _ _ _ _ hf (by omega) (by omega)
theorem dX11_rider_0 : decode cX11_rider 0 = .ok (.aload_n 0, 1) := by decide +kernel
theorem dX11_rider_1 : decode cX11_rider 1 = .ok (.invokevirtual 264, 3) := by decide +kernel
theorem dX11_rider_4 : decode cX11_rider 4 = .ok (.aload_n 0, 1) := by decide +kernel
theorem dX11_rider_5 : decode cX11_rider 5 = .ok (.iload_n 1, 1) := by decide +kernel
theorem dX11_rider_6 : decode cX11_rider 6 = .ok (.invokevirtual 393, 3) := by decide +kernel
theorem dX11_rider_9 : decode cX11_rider 9 = .ok (.ifCond .eq 10, 3) := by decide +kernel
theorem dX11_rider_12 : decode cX11_rider 12 = .ok (.iload_n 2, 1) := by decide +kernel
theorem dX11_rider_13 : decode cX11_rider 13 = .ok (.invokestatic 351, 3) := by decide +kernel
theorem dX11_rider_16 : decode cX11_rider 16 = .ok (.ifCond .ne 5, 3) := by decide +kernel
theorem dX11_rider_19 : decode cX11_rider 19 = .ok (.iconst (-1), 1) := by decide +kernel
theorem dX11_rider_20 : decode cX11_rider 20 = .ok (.ireturn, 1) := by decide +kernel
theorem dX11_rider_21 : decode cX11_rider 21 = .ok (.aload_n 0, 1) := by decide +kernel
theorem dX11_rider_22 : decode cX11_rider 22 = .ok (.iconst 0, 1) := by decide +kernel
theorem dX11_rider_23 : decode cX11_rider 23 = .ok (.putfield 373, 3) := by decide +kernel
theorem dX11_rider_26 : decode cX11_rider 26 = .ok (.aload_n 0, 1) := by decide +kernel
theorem dX11_rider_27 : decode cX11_rider 27 = .ok (.iconst 0, 1) := by decide +kernel
theorem dX11_rider_28 : decode cX11_rider 28 = .ok (.putfield 370, 3) := by decide +kernel
theorem dX11_rider_31 : decode cX11_rider 31 = .ok (.aload_n 0, 1) := by decide +kernel
theorem dX11_rider_32 : decode cX11_rider 32 = .ok (.getfield 116, 3) := by decide +kernel
theorem dX11_rider_35 : decode cX11_rider 35 = .ok (.iload_n 1, 1) := by decide +kernel
theorem dX11_rider_36 : decode cX11_rider 36 = .ok (.iaload, 1) := by decide +kernel
theorem dX11_rider_37 : decode cX11_rider 37 = .ok (.istore_n 3, 1) := by decide +kernel
theorem dX11_rider_38 : decode cX11_rider 38 = .ok (.aload_n 0, 1) := by decide +kernel
theorem dX11_rider_39 : decode cX11_rider 39 = .ok (.getfield 110, 3) := by decide +kernel
theorem dX11_rider_42 : decode cX11_rider 42 = .ok (.iload_n 3, 1) := by decide +kernel
theorem dX11_rider_43 : decode cX11_rider 43 = .ok (.iaload, 1) := by decide +kernel
theorem dX11_rider_44 : decode cX11_rider 44 = .ok (.istore 4, 2) := by decide +kernel
theorem dX11_rider_46 : decode cX11_rider 46 = .ok (.aload_n 0, 1) := by decide +kernel
theorem dX11_rider_47 : decode cX11_rider 47 = .ok (.getfield 110, 3) := by decide +kernel
theorem dX11_rider_50 : decode cX11_rider 50 = .ok (.iload_n 3, 1) := by decide +kernel
theorem dX11_rider_51 : decode cX11_rider 51 = .ok (.iaload, 1) := by decide +kernel
theorem dX11_rider_52 : decode cX11_rider 52 = .ok (.aload_n 0, 1) := by decide +kernel
theorem dX11_rider_53 : decode cX11_rider 53 = .ok (.getfield 113, 3) := by decide +kernel
theorem dX11_rider_56 : decode cX11_rider 56 = .ok (.iload_n 3, 1) := by decide +kernel
theorem dX11_rider_57 : decode cX11_rider 57 = .ok (.iaload, 1) := by decide +kernel
theorem dX11_rider_58 : decode cX11_rider 58 = .ok (.iadd, 1) := by decide +kernel
theorem dX11_rider_59 : decode cX11_rider 59 = .ok (.istore 5, 2) := by decide +kernel
theorem dX11_rider_61 : decode cX11_rider 61 = .ok (.iload 4, 2) := by decide +kernel
theorem dX11_rider_63 : decode cX11_rider 63 = .ok (.istore 6, 2) := by decide +kernel
theorem dX11_rider_65 : decode cX11_rider 65 = .ok (.iload 6, 2) := by decide +kernel
theorem dX11_rider_67 : decode cX11_rider 67 = .ok (.iload 5, 2) := by decide +kernel
theorem dX11_rider_69 : decode cX11_rider 69 = .ok (.if_icmp .gt 66, 3) := by decide +kernel
theorem dX11_rider_72 : decode cX11_rider 72 = .ok (.iload 6, 2) := by decide +kernel
theorem dX11_rider_74 : decode cX11_rider 74 = .ok (.iload 5, 2) := by decide +kernel
theorem dX11_rider_76 : decode cX11_rider 76 = .ok (.if_icmp .ge 18, 3) := by decide +kernel
theorem dX11_rider_79 : decode cX11_rider 79 = .ok (.aload_n 0, 1) := by decide +kernel
theorem dX11_rider_80 : decode cX11_rider 80 = .ok (.getfield 107, 3) := by decide +kernel
theorem dX11_rider_83 : decode cX11_rider 83 = .ok (.iload 6, 2) := by decide +kernel
theorem dX11_rider_85 : decode cX11_rider 85 = .ok (.baload, 1) := by decide +kernel
theorem dX11_rider_86 : decode cX11_rider 86 = .ok (.bipush 59, 2) := by decide +kernel
theorem dX11_rider_88 : decode cX11_rider 88 = .ok (.if_icmp .eq 6, 3) := by decide +kernel
theorem dX11_rider_91 : decode cX11_rider 91 = .ok (.goto 38, 3) := by decide +kernel
theorem dX11_rider_94 : decode cX11_rider 94 = .ok (.aload_n 0, 1) := by decide +kernel
theorem dX11_rider_95 : decode cX11_rider 95 = .ok (.aload_n 0, 1) := by decide +kernel
theorem dX11_rider_96 : decode cX11_rider 96 = .ok (.getfield 373, 3) := by decide +kernel
theorem dX11_rider_99 : decode cX11_rider 99 = .ok (.aload_n 0, 1) := by decide +kernel
theorem dX11_rider_100 : decode cX11_rider 100 = .ok (.getfield 107, 3) := by decide +kernel
theorem dX11_rider_103 : decode cX11_rider 103 = .ok (.iload 4, 2) := by decide +kernel
theorem dX11_rider_105 : decode cX11_rider 105 = .ok (.iload 6, 2) := by decide +kernel
theorem dX11_rider_107 : decode cX11_rider 107 = .ok (.iload 4, 2) := by decide +kernel
theorem dX11_rider_109 : decode cX11_rider 109 = .ok (.isub, 1) := by decide +kernel
theorem dX11_rider_110 : decode cX11_rider 110 = .ok (.invokevirtual 386, 3) := by decide +kernel
theorem dX11_rider_113 : decode cX11_rider 113 = .ok (.aload_n 0, 1) := by decide +kernel
theorem dX11_rider_114 : decode cX11_rider 114 = .ok (.dup, 1) := by decide +kernel
theorem dX11_rider_115 : decode cX11_rider 115 = .ok (.getfield 373, 3) := by decide +kernel
theorem dX11_rider_118 : decode cX11_rider 118 = .ok (.iconst 1, 1) := by decide +kernel
theorem dX11_rider_119 : decode cX11_rider 119 = .ok (.iadd, 1) := by decide +kernel
theorem dX11_rider_120 : decode cX11_rider 120 = .ok (.putfield 373, 3) := by decide +kernel
theorem dX11_rider_123 : decode cX11_rider 123 = .ok (.iload 6, 2) := by decide +kernel
theorem dX11_rider_125 : decode cX11_rider 125 = .ok (.iconst 2, 1) := by decide +kernel
theorem dX11_rider_126 : decode cX11_rider 126 = .ok (.iadd, 1) := by decide +kernel
theorem dX11_rider_127 : decode cX11_rider 127 = .ok (.istore 4, 2) := by decide +kernel
theorem dX11_rider_129 : decode cX11_rider 129 = .ok (.iinc 6 1, 3) := by decide +kernel
theorem dX11_rider_132 : decode cX11_rider 132 = .ok (.goto (-67), 3) := by decide +kernel
theorem dX11_rider_135 : decode cX11_rider 135 = .ok (.aload_n 0, 1) := by decide +kernel
theorem dX11_rider_136 : decode cX11_rider 136 = .ok (.invokevirtual 396, 3) := by decide +kernel
theorem dX11_rider_139 : decode cX11_rider 139 = .ok (.ifCond .ne 11, 3) := by decide +kernel
theorem dX11_rider_142 : decode cX11_rider 142 = .ok (.bipush (-2), 2) := by decide +kernel
theorem dX11_rider_144 : decode cX11_rider 144 = .ok (.aload_n 0, 1) := by decide +kernel
theorem dX11_rider_145 : decode cX11_rider 145 = .ok (.getfield 163, 3) := by decide +kernel
theorem dX11_rider_148 : decode cX11_rider 148 = .ok (.isub, 1) := by decide +kernel
theorem dX11_rider_149 : decode cX11_rider 149 = .ok (.ireturn, 1) := by decide +kernel
theorem dX11_rider_150 : decode cX11_rider 150 = .ok (.aload_n 0, 1) := by decide +kernel
theorem dX11_rider_151 : decode cX11_rider 151 = .ok (.iconst 0, 1) := by decide +kernel
theorem dX11_rider_152 : decode cX11_rider 152 = .ok (.putfield 166, 3) := by decide +kernel
theorem dX11_rider_155 : decode cX11_rider 155 = .ok (.iconst 0, 1) := by decide +kernel
theorem dX11_rider_156 : decode cX11_rider 156 = .ok (.istore 6, 2) := by decide +kernel
theorem dX11_rider_158 : decode cX11_rider 158 = .ok (.iload 6, 2) := by decide +kernel
theorem dX11_rider_160 : decode cX11_rider 160 = .ok (.aload_n 0, 1) := by decide +kernel
theorem dX11_rider_161 : decode cX11_rider 161 = .ok (.getfield 373, 3) := by decide +kernel
theorem dX11_rider_164 : decode cX11_rider 164 = .ok (.if_icmp .ge 144, 3) := by decide +kernel
theorem dX11_rider_167 : decode cX11_rider 167 = .ok (.aload_n 0, 1) := by decide +kernel
theorem dX11_rider_168 : decode cX11_rider 168 = .ok (.getfield 166, 3) := by decide +kernel
theorem dX11_rider_171 : decode cX11_rider 171 = .ok (.aload_n 0, 1) := by decide +kernel
theorem dX11_rider_172 : decode cX11_rider 172 = .ok (.getfield 122, 3) := by decide +kernel
theorem dX11_rider_175 : decode cX11_rider 175 = .ok (.iload 6, 2) := by decide +kernel
theorem dX11_rider_177 : decode cX11_rider 177 = .ok (.iaload, 1) := by decide +kernel
theorem dX11_rider_178 : decode cX11_rider 178 = .ok (.iadd, 1) := by decide +kernel
theorem dX11_rider_179 : decode cX11_rider 179 = .ok (.iload 6, 2) := by decide +kernel
theorem dX11_rider_181 : decode cX11_rider 181 = .ok (.ifCond .le 7, 3) := by decide +kernel
theorem dX11_rider_184 : decode cX11_rider 184 = .ok (.iconst 2, 1) := by decide +kernel
theorem dX11_rider_185 : decode cX11_rider 185 = .ok (.goto 4, 3) := by decide +kernel
theorem dX11_rider_188 : decode cX11_rider 188 = .ok (.iconst 0, 1) := by decide +kernel
theorem dX11_rider_189 : decode cX11_rider 189 = .ok (.iadd, 1) := by decide +kernel
theorem dX11_rider_190 : decode cX11_rider 190 = .ok (.sipush 900, 3) := by decide +kernel
theorem dX11_rider_193 : decode cX11_rider 193 = .ok (.if_icmp .le 6, 3) := by decide +kernel
theorem dX11_rider_196 : decode cX11_rider 196 = .ok (.bipush (-2), 2) := by decide +kernel
theorem dX11_rider_198 : decode cX11_rider 198 = .ok (.ireturn, 1) := by decide +kernel
theorem dX11_rider_199 : decode cX11_rider 199 = .ok (.iload 6, 2) := by decide +kernel
theorem dX11_rider_201 : decode cX11_rider 201 = .ok (.ifCond .le 37, 3) := by decide +kernel
theorem dX11_rider_204 : decode cX11_rider 204 = .ok (.aload_n 0, 1) := by decide +kernel
theorem dX11_rider_205 : decode cX11_rider 205 = .ok (.getfield 36, 3) := by decide +kernel
theorem dX11_rider_208 : decode cX11_rider 208 = .ok (.aload_n 0, 1) := by decide +kernel
theorem dX11_rider_209 : decode cX11_rider 209 = .ok (.getfield 166, 3) := by decide +kernel
theorem dX11_rider_212 : decode cX11_rider 212 = .ok (.bipush 59, 2) := by decide +kernel
theorem dX11_rider_214 : decode cX11_rider 214 = .ok (.bastore, 1) := by decide +kernel
theorem dX11_rider_215 : decode cX11_rider 215 = .ok (.aload_n 0, 1) := by decide +kernel
theorem dX11_rider_216 : decode cX11_rider 216 = .ok (.getfield 36, 3) := by decide +kernel
theorem dX11_rider_219 : decode cX11_rider 219 = .ok (.aload_n 0, 1) := by decide +kernel
theorem dX11_rider_220 : decode cX11_rider 220 = .ok (.getfield 166, 3) := by decide +kernel
theorem dX11_rider_223 : decode cX11_rider 223 = .ok (.iconst 1, 1) := by decide +kernel
theorem dX11_rider_224 : decode cX11_rider 224 = .ok (.iadd, 1) := by decide +kernel
theorem dX11_rider_225 : decode cX11_rider 225 = .ok (.bipush 32, 2) := by decide +kernel
theorem dX11_rider_227 : decode cX11_rider 227 = .ok (.bastore, 1) := by decide +kernel
theorem dX11_rider_228 : decode cX11_rider 228 = .ok (.aload_n 0, 1) := by decide +kernel
theorem dX11_rider_229 : decode cX11_rider 229 = .ok (.dup, 1) := by decide +kernel
theorem dX11_rider_230 : decode cX11_rider 230 = .ok (.getfield 166, 3) := by decide +kernel
theorem dX11_rider_233 : decode cX11_rider 233 = .ok (.iconst 2, 1) := by decide +kernel
theorem dX11_rider_234 : decode cX11_rider 234 = .ok (.iadd, 1) := by decide +kernel
theorem dX11_rider_235 : decode cX11_rider 235 = .ok (.putfield 166, 3) := by decide +kernel
theorem dX11_rider_238 : decode cX11_rider 238 = .ok (.iconst 0, 1) := by decide +kernel
theorem dX11_rider_239 : decode cX11_rider 239 = .ok (.istore 7, 2) := by decide +kernel
theorem dX11_rider_241 : decode cX11_rider 241 = .ok (.iload 7, 2) := by decide +kernel
theorem dX11_rider_243 : decode cX11_rider 243 = .ok (.aload_n 0, 1) := by decide +kernel
theorem dX11_rider_244 : decode cX11_rider 244 = .ok (.getfield 122, 3) := by decide +kernel
theorem dX11_rider_247 : decode cX11_rider 247 = .ok (.iload 6, 2) := by decide +kernel
theorem dX11_rider_249 : decode cX11_rider 249 = .ok (.iaload, 1) := by decide +kernel
theorem dX11_rider_250 : decode cX11_rider 250 = .ok (.if_icmp .ge 36, 3) := by decide +kernel
theorem dX11_rider_253 : decode cX11_rider 253 = .ok (.aload_n 0, 1) := by decide +kernel
theorem dX11_rider_254 : decode cX11_rider 254 = .ok (.getfield 36, 3) := by decide +kernel
theorem dX11_rider_257 : decode cX11_rider 257 = .ok (.aload_n 0, 1) := by decide +kernel
theorem dX11_rider_258 : decode cX11_rider 258 = .ok (.getfield 166, 3) := by decide +kernel
theorem dX11_rider_261 : decode cX11_rider 261 = .ok (.iload 7, 2) := by decide +kernel
theorem dX11_rider_263 : decode cX11_rider 263 = .ok (.iadd, 1) := by decide +kernel
theorem dX11_rider_264 : decode cX11_rider 264 = .ok (.aload_n 0, 1) := by decide +kernel
theorem dX11_rider_265 : decode cX11_rider 265 = .ok (.getfield 125, 3) := by decide +kernel
theorem dX11_rider_268 : decode cX11_rider 268 = .ok (.aload_n 0, 1) := by decide +kernel
theorem dX11_rider_269 : decode cX11_rider 269 = .ok (.getfield 119, 3) := by decide +kernel
theorem dX11_rider_272 : decode cX11_rider 272 = .ok (.iload 6, 2) := by decide +kernel
theorem dX11_rider_274 : decode cX11_rider 274 = .ok (.iaload, 1) := by decide +kernel
theorem dX11_rider_275 : decode cX11_rider 275 = .ok (.iload 7, 2) := by decide +kernel
theorem dX11_rider_277 : decode cX11_rider 277 = .ok (.iadd, 1) := by decide +kernel
theorem dX11_rider_278 : decode cX11_rider 278 = .ok (.baload, 1) := by decide +kernel
theorem dX11_rider_279 : decode cX11_rider 279 = .ok (.bastore, 1) := by decide +kernel
theorem dX11_rider_280 : decode cX11_rider 280 = .ok (.iinc 7 1, 3) := by decide +kernel
theorem dX11_rider_283 : decode cX11_rider 283 = .ok (.goto (-42), 3) := by decide +kernel
theorem dX11_rider_286 : decode cX11_rider 286 = .ok (.aload_n 0, 1) := by decide +kernel
theorem dX11_rider_287 : decode cX11_rider 287 = .ok (.dup, 1) := by decide +kernel
theorem dX11_rider_288 : decode cX11_rider 288 = .ok (.getfield 166, 3) := by decide +kernel
theorem dX11_rider_291 : decode cX11_rider 291 = .ok (.aload_n 0, 1) := by decide +kernel
theorem dX11_rider_292 : decode cX11_rider 292 = .ok (.getfield 122, 3) := by decide +kernel
theorem dX11_rider_295 : decode cX11_rider 295 = .ok (.iload 6, 2) := by decide +kernel
theorem dX11_rider_297 : decode cX11_rider 297 = .ok (.iaload, 1) := by decide +kernel
theorem dX11_rider_298 : decode cX11_rider 298 = .ok (.iadd, 1) := by decide +kernel
theorem dX11_rider_299 : decode cX11_rider 299 = .ok (.putfield 166, 3) := by decide +kernel
theorem dX11_rider_302 : decode cX11_rider 302 = .ok (.iinc 6 1, 3) := by decide +kernel
theorem dX11_rider_305 : decode cX11_rider 305 = .ok (.goto (-147), 3) := by decide +kernel
theorem dX11_rider_308 : decode cX11_rider 308 = .ok (.aload_n 0, 1) := by decide +kernel
theorem dX11_rider_309 : decode cX11_rider 309 = .ok (.invokevirtual 169, 3) := by decide +kernel
theorem dX11_rider_312 : decode cX11_rider 312 = .ok (.aload_n 0, 1) := by decide +kernel
theorem dX11_rider_313 : decode cX11_rider 313 = .ok (.invokevirtual 363, 3) := by decide +kernel
theorem dX11_rider_316 : decode cX11_rider 316 = .ok (.ifCond .ne 6, 3) := by decide +kernel
theorem dX11_rider_319 : decode cX11_rider 319 = .ok (.bipush (-2), 2) := by decide +kernel
theorem dX11_rider_321 : decode cX11_rider 321 = .ok (.ireturn, 1) := by decide +kernel
theorem dX11_rider_322 : decode cX11_rider 322 = .ok (.aload_n 0, 1) := by decide +kernel
theorem dX11_rider_323 : decode cX11_rider 323 = .ok (.getfield 128, 3) := by decide +kernel
theorem dX11_rider_326 : decode cX11_rider 326 = .ok (.aload_n 0, 1) := by decide +kernel
theorem dX11_rider_327 : decode cX11_rider 327 = .ok (.getfield 399, 3) := by decide +kernel
theorem dX11_rider_330 : decode cX11_rider 330 = .ok (.iload_n 2, 1) := by decide +kernel
theorem dX11_rider_331 : decode cX11_rider 331 = .ok (.iastore, 1) := by decide +kernel
theorem dX11_rider_332 : decode cX11_rider 332 = .ok (.aload_n 0, 1) := by decide +kernel
theorem dX11_rider_333 : decode cX11_rider 333 = .ok (.getfield 131, 3) := by decide +kernel
theorem dX11_rider_336 : decode cX11_rider 336 = .ok (.aload_n 0, 1) := by decide +kernel
theorem dX11_rider_337 : decode cX11_rider 337 = .ok (.getfield 399, 3) := by decide +kernel
theorem dX11_rider_340 : decode cX11_rider 340 = .ok (.aload_n 0, 1) := by decide +kernel
theorem dX11_rider_341 : decode cX11_rider 341 = .ok (.getfield 116, 3) := by decide +kernel
theorem dX11_rider_344 : decode cX11_rider 344 = .ok (.iload_n 2, 1) := by decide +kernel
theorem dX11_rider_345 : decode cX11_rider 345 = .ok (.iaload, 1) := by decide +kernel
theorem dX11_rider_346 : decode cX11_rider 346 = .ok (.iastore, 1) := by decide +kernel
theorem dX11_rider_347 : decode cX11_rider 347 = .ok (.aload_n 0, 1) := by decide +kernel
theorem dX11_rider_348 : decode cX11_rider 348 = .ok (.iload_n 2, 1) := by decide +kernel
theorem dX11_rider_349 : decode cX11_rider 349 = .ok (.invokevirtual 366, 3) := by decide +kernel
theorem dX11_rider_352 : decode cX11_rider 352 = .ok (.istore 6, 2) := by decide +kernel
theorem dX11_rider_354 : decode cX11_rider 354 = .ok (.aload_n 0, 1) := by decide +kernel
theorem dX11_rider_355 : decode cX11_rider 355 = .ok (.getfield 134, 3) := by decide +kernel
theorem dX11_rider_358 : decode cX11_rider 358 = .ok (.aload_n 0, 1) := by decide +kernel
theorem dX11_rider_359 : decode cX11_rider 359 = .ok (.getfield 399, 3) := by decide +kernel
theorem dX11_rider_362 : decode cX11_rider 362 = .ok (.aload_n 0, 1) := by decide +kernel
theorem dX11_rider_363 : decode cX11_rider 363 = .ok (.getfield 116, 3) := by decide +kernel
theorem dX11_rider_366 : decode cX11_rider 366 = .ok (.iload_n 2, 1) := by decide +kernel
theorem dX11_rider_367 : decode cX11_rider 367 = .ok (.iaload, 1) := by decide +kernel
theorem dX11_rider_368 : decode cX11_rider 368 = .ok (.iastore, 1) := by decide +kernel
theorem dX11_rider_369 : decode cX11_rider 369 = .ok (.aload_n 0, 1) := by decide +kernel
theorem dX11_rider_370 : decode cX11_rider 370 = .ok (.dup, 1) := by decide +kernel
theorem dX11_rider_371 : decode cX11_rider 371 = .ok (.getfield 399, 3) := by decide +kernel
theorem dX11_rider_374 : decode cX11_rider 374 = .ok (.iconst 1, 1) := by decide +kernel
theorem dX11_rider_375 : decode cX11_rider 375 = .ok (.iadd, 1) := by decide +kernel
theorem dX11_rider_376 : decode cX11_rider 376 = .ok (.putfield 399, 3) := by decide +kernel
theorem dX11_rider_379 : decode cX11_rider 379 = .ok (.iload 6, 2) := by decide +kernel
theorem dX11_rider_381 : decode cX11_rider 381 = .ok (.ireturn, 1) := by decide +kernel
def fX11_rider_b129 (rec65 : Nat → Int32 → Int32 → Int32 → Int32 → JM → JO (Int32)) (a : Nat) (x2 : Int32) (x4 : Int32) (x5 : Int32) (x6 : Int32) (μ : JM) : JO (Int32) := rec65 a x2 x4 x5 (x6 + (1 : Int32)) μ
set_option maxHeartbeats 4000000 in
set_option maxRecDepth 100000 in
theorem gX11_rider_b129 {b : Nat} {Θ : JE} {RC RS : Nat} {r : Int32} {ν : JM} (X : jX b Θ RX11 cX11_rider 8 (some .int) 9 203 RC RS) {rec65 : Nat → Int32 → Int32 → Int32 → Int32 → JM → JO (Int32)} (hrec65 : ∀ (a : Nat) (x2 : Int32) (x4 : Int32) (x5 : Int32) (x6 : Int32) (μ : JM) (c m k n : Nat), rec65 a x2 x4 x5 x6 μ = some (r, ν, c, m) → k + c = RC → n + m = RS → WA b Θ 8 (jE b Θ (some (.int r)) ν RC RS) μ k n 65 [(0, va_rf (some a)), (2, .int x2), (4, .int x4), (5, .int x5), (6, .int x6)] []) (a : Nat) (x2 : Int32) (x4 : Int32) (x5 : Int32) (x6 : Int32) (μ : JM) (c m k n : Nat) (hf : fX11_rider_b129 rec65 a x2 x4 x5 x6 μ = some (r, ν, c, m)) (hk : k + c = RC) (hn : n + m = RS) : WA b Θ 8 (jE b Θ (some (.int r)) ν RC RS) μ k n 129 [(0, va_rf (some a)), (2, .int x2), (4, .int x4), (5, .int x5), (6, .int x6)] [] := by
  rw [fX11_rider_b129] at hf
  refine wa_iinc (v := (x6 + (1 : Int32))) (L2 := [(6, .int (x6 + (1 : Int32))), (0, va_rf (some a)), (2, .int x2), (4, .int x4), (5, .int x5)]) X 4 dX11_rider_129 rfl rfl (by decide) (by first | rfl | simp [va_rf_cat, cat_i, cat_l]) ?_
  refine wa_goto (tgt := 65) X dX11_rider_132 (by decide) ?_
  refine wa_sub (L2 := [(0, va_rf (some a)), (2, .int x2), (4, .int x4), (5, .int x5), (6, .int (x6 + (1 : Int32)))]) [1, 2, 3, 4, 0] rfl ?_
  exact hrec65 a x2 x4 x5 (x6 + (1 : Int32)) μ _ _ _ _ hf (by omega) (by omega)
def fX11_rider_b94 (rec65 : Nat → Int32 → Int32 → Int32 → Int32 → JM → JO (Int32)) (a : Nat) (x2 : Int32) (x4 : Int32) (x5 : Int32) (x6 : Int32) (μ : JM) : JO (Int32) := jck ((jT μ a).1 == 12) <| jcl (fX11_part a (jI μ a 51) (jP μ a 45) x4 (x6 - x4) μ) fun u76 μ77 => jck ((jT μ77 a).1 == 12) <| jlt (jsI μ77 a 51 ((jI μ77 a 51) + (1 : Int32))) fun μ86 => fX11_rider_b129 rec65 a x2 (x6 + (2 : Int32)) x5 x6 μ86
set_option maxHeartbeats 4000000 in
set_option maxRecDepth 100000 in
theorem gX11_rider_b94 {b : Nat} {Θ : JE} {RC RS : Nat} {r : Int32} {ν : JM} (X : jX b Θ RX11 cX11_rider 8 (some .int) 9 203 RC RS) {rec65 : Nat → Int32 → Int32 → Int32 → Int32 → JM → JO (Int32)} (hrec65 : ∀ (a : Nat) (x2 : Int32) (x4 : Int32) (x5 : Int32) (x6 : Int32) (μ : JM) (c m k n : Nat), rec65 a x2 x4 x5 x6 μ = some (r, ν, c, m) → k + c = RC → n + m = RS → WA b Θ 8 (jE b Θ (some (.int r)) ν RC RS) μ k n 65 [(0, va_rf (some a)), (2, .int x2), (4, .int x4), (5, .int x5), (6, .int x6)] []) (a : Nat) (x2 : Int32) (x4 : Int32) (x5 : Int32) (x6 : Int32) (μ : JM) (c m k n : Nat) (hf : fX11_rider_b94 rec65 a x2 x4 x5 x6 μ = some (r, ν, c, m)) (hk : k + c = RC) (hn : n + m = RS) : WA b Θ 8 (jE b Θ (some (.int r)) ν RC RS) μ k n 94 [(0, va_rf (some a)), (2, .int x2), (4, .int x4), (5, .int x5), (6, .int x6)] [] := by
  rw [fX11_rider_b94] at hf
  refine wa_aload_n X 0 dX11_rider_94 rfl ?_
  refine wa_aload_n X 0 dX11_rider_95 rfl ?_
  obtain ⟨h75, hf⟩ := jckT hf
  refine wa_getI X dX11_rider_96 lfX11_373 rfl h75 rfl ?_
  refine wa_aload_n X 0 dX11_rider_99 rfl ?_
  refine wa_getP X dX11_rider_100 lfX11_107 rfl h75 rfl ?_
  refine wa_iload X 2 dX11_rider_103 rfl ?_
  refine wa_iload X 4 dX11_rider_105 rfl ?_
  refine wa_iload X 2 dX11_rider_107 rfl ?_
  refine wa_isub X dX11_rider_109 ?_
  obtain ⟨u76, μ77, c78, m79, c80, m81, e82, hf, h83, h84⟩ := jcl_some hf
  refine wa_rcallV (st2 := []) X dX11_rider_110 lmX11_386 lMX11_part rfl h75 (mX11_part e82) rfl rfl rfl (va_cats (Nat.le_of_ble_eq_true rfl)) (by decide) (by omega) (by omega) ?_
  refine wa_aload_n X 0 dX11_rider_113 rfl ?_
  refine wa_dup X dX11_rider_114 (va_rf_cat _) ?_
  obtain ⟨h85, hf⟩ := jckT hf
  refine wa_getI X dX11_rider_115 lfX11_373 rfl h85 rfl ?_
  refine wa_iconst (v := (1 : Int32)) X dX11_rider_118 (by decide) ?_
  refine wa_iadd X dX11_rider_119 ?_
  obtain ⟨μ86, hm87, hf⟩ := jlt_e hf
  have e88 : jT μ86 = jT μ77 := by rw [hm87]; rfl
  refine wa_rputI (ν := μ86) X dX11_rider_120 lfX11_373 rfl h85 rfl rfl hm87 ?_
  refine wa_iload X 4 dX11_rider_123 rfl ?_
  refine wa_iconst (v := (2 : Int32)) X dX11_rider_125 (by decide) ?_
  refine wa_iadd X dX11_rider_126 ?_
  refine wa_istore (L2 := [(4, .int (x6 + (2 : Int32))), (0, va_rf (some a)), (2, .int x2), (5, .int x5), (6, .int x6)]) X dX11_rider_127 (by decide) (by first | rfl | (show (4, _) :: List.filter (fun q : Nat × Value => !(q.1 == 4) && !(q.1 + 1 == 4 && q.2.category == 2)) _ = _; simp [va_rf_cat, cat_i, cat_l])) ?_
  refine wa_sub (L2 := [(0, va_rf (some a)), (2, .int x2), (4, .int (x6 + (2 : Int32))), (5, .int x5), (6, .int x6)]) [1, 2, 0, 3, 4] rfl ?_
  exact gX11_rider_b129 X hrec65 a x2 (x6 + (2 : Int32)) x5 x6 μ86 _ _ _ _ hf (by omega) (by omega)
def fX11_rider_b241 (rec158 : Nat → Int32 → Int32 → JM → JO (Int32)) : Nat → Nat → Int32 → Int32 → Int32 → JM → JO (Int32)
  | 0, _, _, _, _, _ => none
  | fu + 1, a, x2, x6, x7, μ => jck ((jT μ a).1 == 12) <| jde (jP μ a 53) fun q180 => jck ((jT μ q180).1 == 101) <| jck (jin x6 (jT μ q180).2) <| if (jI μ q180 (x6).toNatClampNeg) ≤ x7 then (jlt (jsI μ a 12 ((jI μ a 12) + (jI μ q180 (x6).toNatClampNeg))) fun μ185 => rec158 a x2 (x6 + (1 : Int32)) μ185) else (jde (jP μ a 52) fun q188 => jck ((jT μ q188).1 == 101) <| jck (jin x6 (jT μ q188).2) <| jde (jP μ a 54) fun q192 => jck ((jT μ q192).1 == 100) <| jck (jin ((jI μ q188 (x6).toNatClampNeg) + x7) (jT μ q192).2) <| jde (jP μ a 11) fun q196 => jck ((jT μ q196).1 == 100) <| jck (jin ((jI μ a 12) + x7) (jT μ q196).2) <| jlt (jsI μ q196 (((jI μ a 12) + x7)).toNatClampNeg (vp_nar .byte (jI μ q192 (((jI μ q188 (x6).toNatClampNeg) + x7)).toNatClampNeg))) fun μ200 => fX11_rider_b241 rec158 fu a x2 x6 (x7 + (1 : Int32)) μ200)
set_option maxHeartbeats 4000000 in
set_option maxRecDepth 100000 in
theorem gX11_rider_b241 {b : Nat} {Θ : JE} {RC RS : Nat} {r : Int32} {ν : JM} (X : jX b Θ RX11 cX11_rider 8 (some .int) 9 203 RC RS) {rec158 : Nat → Int32 → Int32 → JM → JO (Int32)} (hrec158 : ∀ (a : Nat) (x2 : Int32) (x6 : Int32) (μ : JM) (c m k n : Nat), rec158 a x2 x6 μ = some (r, ν, c, m) → k + c = RC → n + m = RS → WA b Θ 8 (jE b Θ (some (.int r)) ν RC RS) μ k n 158 [(0, va_rf (some a)), (2, .int x2), (6, .int x6)] []) : ∀ (fu : Nat) (a : Nat) (x2 : Int32) (x6 : Int32) (x7 : Int32) (μ : JM) (c m k n : Nat), fX11_rider_b241 rec158 fu a x2 x6 x7 μ = some (r, ν, c, m) → k + c = RC → n + m = RS → WA b Θ 8 (jE b Θ (some (.int r)) ν RC RS) μ k n 241 [(0, va_rf (some a)), (2, .int x2), (6, .int x6), (7, .int x7)] [] := by
  intro fu
  induction fu with
  | zero => intro a x2 x6 x7 μ c m k n hf; cases hf
  | succ fu ih =>
    intro a x2 x6 x7 μ c m k n hf hk hn
    rw [fX11_rider_b241] at hf
    refine wa_iload X 3 dX11_rider_241 rfl ?_
    refine wa_aload_n X 0 dX11_rider_243 rfl ?_
    obtain ⟨h179, hf⟩ := jckT hf
    refine wa_getP X dX11_rider_244 lfX11_122 rfl h179 rfl ?_
    refine wa_iload X 2 dX11_rider_247 rfl ?_
    obtain ⟨q180, h181, hf⟩ := jde_some hf
    obtain ⟨h182, hf⟩ := jckT hf
    obtain ⟨h183, hf⟩ := jck_some hf
    refine wa_riald X dX11_rider_249 h181 h182 h183 ?_
    refine wa_icge (tgt := 286) X dX11_rider_250 (by decide) (fun h184 => ?_) (fun h184 => ?_)
    · rw [if_pos h184] at hf
      refine wa_aload_n X 0 dX11_rider_286 rfl ?_
      refine wa_dup X dX11_rider_287 (va_rf_cat _) ?_
      refine wa_getI X dX11_rider_288 lfX11_166 rfl h179 rfl ?_
      refine wa_aload_n X 0 dX11_rider_291 rfl ?_
      refine wa_getP X dX11_rider_292 lfX11_122 rfl h179 rfl ?_
      refine wa_iload X 2 dX11_rider_295 rfl ?_
      refine wa_riald X dX11_rider_297 h181 h182 h183 ?_
      refine wa_iadd X dX11_rider_298 ?_
      obtain ⟨μ185, hm186, hf⟩ := jlt_e hf
      have e187 : jT μ185 = jT μ := by rw [hm186]; rfl
      refine wa_rputI (ν := μ185) X dX11_rider_299 lfX11_166 rfl h179 rfl rfl hm186 ?_
      refine wa_iinc (v := (x6 + (1 : Int32))) (L2 := [(6, .int (x6 + (1 : Int32))), (0, va_rf (some a)), (2, .int x2), (7, .int x7)]) X 2 dX11_rider_302 rfl rfl (by decide) (by first | rfl | simp [va_rf_cat, cat_i, cat_l]) ?_
      refine wa_goto (tgt := 158) X dX11_rider_305 (by decide) ?_
      refine wa_sub (L2 := [(0, va_rf (some a)), (2, .int x2), (6, .int (x6 + (1 : Int32)))]) [1, 2, 0] rfl ?_
      exact hrec158 a x2 (x6 + (1 : Int32)) μ185 _ _ _ _ hf (by omega) (by omega)
    · rw [if_neg h184] at hf
      refine wa_aload_n X 0 dX11_rider_253 rfl ?_
      refine wa_getP X dX11_rider_254 lfX11_36 rfl h179 rfl ?_
      refine wa_aload_n X 0 dX11_rider_257 rfl ?_
      refine wa_getI X dX11_rider_258 lfX11_166 rfl h179 rfl ?_
      refine wa_iload X 3 dX11_rider_261 rfl ?_
      refine wa_iadd X dX11_rider_263 ?_
      refine wa_aload_n X 0 dX11_rider_264 rfl ?_
      refine wa_getP X dX11_rider_265 lfX11_125 rfl h179 rfl ?_
      refine wa_aload_n X 0 dX11_rider_268 rfl ?_
      refine wa_getP X dX11_rider_269 lfX11_119 rfl h179 rfl ?_
      refine wa_iload X 2 dX11_rider_272 rfl ?_
      obtain ⟨q188, h189, hf⟩ := jde_some hf
      obtain ⟨h190, hf⟩ := jckT hf
      obtain ⟨h191, hf⟩ := jck_some hf
      refine wa_riald X dX11_rider_274 h189 h190 h191 ?_
      refine wa_iload X 3 dX11_rider_275 rfl ?_
      refine wa_iadd X dX11_rider_277 ?_
      obtain ⟨q192, h193, hf⟩ := jde_some hf
      obtain ⟨h194, hf⟩ := jckT hf
      obtain ⟨h195, hf⟩ := jck_some hf
      refine wa_rbald X dX11_rider_278 h193 h194 h195 ?_
      obtain ⟨q196, h197, hf⟩ := jde_some hf
      obtain ⟨h198, hf⟩ := jckT hf
      obtain ⟨h199, hf⟩ := jck_some hf
      obtain ⟨μ200, hm201, hf⟩ := jlt_e hf
      have e202 : jT μ200 = jT μ := by rw [hm201]; rfl
      refine wa_rbast (ν := μ200) X dX11_rider_279 h197 h198 h199 hm201 ?_
      refine wa_iinc (v := (x7 + (1 : Int32))) (L2 := [(7, .int (x7 + (1 : Int32))), (0, va_rf (some a)), (2, .int x2), (6, .int x6)]) X 3 dX11_rider_280 rfl rfl (by decide) (by first | rfl | simp [va_rf_cat, cat_i, cat_l]) ?_
      refine wa_goto (tgt := 241) X dX11_rider_283 (by decide) ?_
      refine wa_sub (L2 := [(0, va_rf (some a)), (2, .int x2), (6, .int x6), (7, .int (x7 + (1 : Int32)))]) [1, 2, 3, 0] rfl ?_
      exact ih a x2 x6 (x7 + (1 : Int32)) μ200 _ _ _ _ hf (by omega) (by omega)
def fX11_rider_b238 (rec158 : Nat → Int32 → Int32 → JM → JO (Int32)) (a : Nat) (x2 : Int32) (x6 : Int32) (μ : JM) : JO (Int32) := fX11_rider_b241 rec158 jfuel a x2 x6 (0 : Int32) μ
set_option maxHeartbeats 4000000 in
set_option maxRecDepth 100000 in
theorem gX11_rider_b238 {b : Nat} {Θ : JE} {RC RS : Nat} {r : Int32} {ν : JM} (X : jX b Θ RX11 cX11_rider 8 (some .int) 9 203 RC RS) {rec158 : Nat → Int32 → Int32 → JM → JO (Int32)} (hrec158 : ∀ (a : Nat) (x2 : Int32) (x6 : Int32) (μ : JM) (c m k n : Nat), rec158 a x2 x6 μ = some (r, ν, c, m) → k + c = RC → n + m = RS → WA b Θ 8 (jE b Θ (some (.int r)) ν RC RS) μ k n 158 [(0, va_rf (some a)), (2, .int x2), (6, .int x6)] []) (a : Nat) (x2 : Int32) (x6 : Int32) (μ : JM) (c m k n : Nat) (hf : fX11_rider_b238 rec158 a x2 x6 μ = some (r, ν, c, m)) (hk : k + c = RC) (hn : n + m = RS) : WA b Θ 8 (jE b Θ (some (.int r)) ν RC RS) μ k n 238 [(0, va_rf (some a)), (2, .int x2), (6, .int x6)] [] := by
  rw [fX11_rider_b238] at hf
  refine wa_iconst (v := (0 : Int32)) X dX11_rider_238 (by decide) ?_
  refine wa_istore (L2 := [(7, .int (0 : Int32)), (0, va_rf (some a)), (2, .int x2), (6, .int x6)]) X dX11_rider_239 (by decide) (by first | rfl | (show (7, _) :: List.filter (fun q : Nat × Value => !(q.1 == 7) && !(q.1 + 1 == 7 && q.2.category == 2)) _ = _; simp [va_rf_cat, cat_i, cat_l])) ?_
  refine wa_sub (L2 := [(0, va_rf (some a)), (2, .int x2), (6, .int x6), (7, .int (0 : Int32))]) [1, 2, 3, 0] rfl ?_
  exact gX11_rider_b241 X hrec158 jfuel a x2 x6 (0 : Int32) μ _ _ _ _ hf (by omega) (by omega)
def fX11_rider_b189 (rec158 : Nat → Int32 → Int32 → JM → JO (Int32)) (a : Nat) (x2 : Int32) (x6 : Int32) (s0 : Int32) (s1 : Int32) (μ : JM) : JO (Int32) := if (s1 + s0) ≤ (900 : Int32) then (if x6 ≤ 0 then (fX11_rider_b238 rec158 a x2 x6 μ) else (jck ((jT μ a).1 == 12) <| jde (jP μ a 11) fun q162 => jck ((jT μ q162).1 == 100) <| jck (jin (jI μ a 12) (jT μ q162).2) <| jlt (jsI μ q162 ((jI μ a 12)).toNatClampNeg (vp_nar .byte (59 : Int32))) fun μ166 => jde (jP μ166 a 11) fun q169 => jck ((jT μ q169).1 == 100) <| jck (jin ((jI μ166 a 12) + (1 : Int32)) (jT μ q169).2) <| jlt (jsI μ166 q169 (((jI μ166 a 12) + (1 : Int32))).toNatClampNeg (vp_nar .byte (32 : Int32))) fun μ173 => jlt (jsI μ173 a 12 ((jI μ173 a 12) + (2 : Int32))) fun μ176 => fX11_rider_b238 rec158 a x2 x6 μ176)) else (some ((-2 : Int32), μ, 0, 0))
set_option maxHeartbeats 4000000 in
set_option maxRecDepth 100000 in
theorem gX11_rider_b189 {b : Nat} {Θ : JE} {RC RS : Nat} {r : Int32} {ν : JM} (X : jX b Θ RX11 cX11_rider 8 (some .int) 9 203 RC RS) {rec158 : Nat → Int32 → Int32 → JM → JO (Int32)} (hrec158 : ∀ (a : Nat) (x2 : Int32) (x6 : Int32) (μ : JM) (c m k n : Nat), rec158 a x2 x6 μ = some (r, ν, c, m) → k + c = RC → n + m = RS → WA b Θ 8 (jE b Θ (some (.int r)) ν RC RS) μ k n 158 [(0, va_rf (some a)), (2, .int x2), (6, .int x6)] []) (a : Nat) (x2 : Int32) (x6 : Int32) (s0 : Int32) (s1 : Int32) (μ : JM) (c m k n : Nat) (hf : fX11_rider_b189 rec158 a x2 x6 s0 s1 μ = some (r, ν, c, m)) (hk : k + c = RC) (hn : n + m = RS) : WA b Θ 8 (jE b Θ (some (.int r)) ν RC RS) μ k n 189 [(0, va_rf (some a)), (2, .int x2), (6, .int x6)] [.int s0, .int s1] := by
  rw [fX11_rider_b189] at hf
  refine wa_iadd X dX11_rider_189 ?_
  refine wa_sipush (v := (900 : Int32)) X dX11_rider_190 (by decide) ?_
  refine wa_icle (tgt := 199) X dX11_rider_193 (by decide) (fun h159 => ?_) (fun h159 => ?_)
  · rw [if_pos h159] at hf
    refine wa_iload X 2 dX11_rider_199 rfl ?_
    refine wa_ifle (tgt := 238) X dX11_rider_201 (by decide) (fun h160 => ?_) (fun h160 => ?_)
    · rw [if_pos h160] at hf
      refine wa_sub (L2 := [(0, va_rf (some a)), (2, .int x2), (6, .int x6)]) [0, 1, 2] rfl ?_
      exact gX11_rider_b238 X hrec158 a x2 x6 μ _ _ _ _ hf (by omega) (by omega)
    · rw [if_neg h160] at hf
      refine wa_aload_n X 0 dX11_rider_204 rfl ?_
      obtain ⟨h161, hf⟩ := jckT hf
      refine wa_getP X dX11_rider_205 lfX11_36 rfl h161 rfl ?_
      refine wa_aload_n X 0 dX11_rider_208 rfl ?_
      refine wa_getI X dX11_rider_209 lfX11_166 rfl h161 rfl ?_
      refine wa_bipush (v := (59 : Int32)) X dX11_rider_212 (by decide) ?_
      obtain ⟨q162, h163, hf⟩ := jde_some hf
      obtain ⟨h164, hf⟩ := jckT hf
      obtain ⟨h165, hf⟩ := jck_some hf
      obtain ⟨μ166, hm167, hf⟩ := jlt_e hf
      have e168 : jT μ166 = jT μ := by rw [hm167]; rfl
      refine wa_rbast (ν := μ166) X dX11_rider_214 h163 h164 h165 hm167 ?_
      refine wa_aload_n X 0 dX11_rider_215 rfl ?_
      refine wa_getP X dX11_rider_216 lfX11_36 rfl (by rw [e168]; exact h161) rfl ?_
      refine wa_aload_n X 0 dX11_rider_219 rfl ?_
      refine wa_getI X dX11_rider_220 lfX11_166 rfl (by rw [e168]; exact h161) rfl ?_
      refine wa_iconst (v := (1 : Int32)) X dX11_rider_223 (by decide) ?_
      refine wa_iadd X dX11_rider_224 ?_
      refine wa_bipush (v := (32 : Int32)) X dX11_rider_225 (by decide) ?_
      obtain ⟨q169, h170, hf⟩ := jde_some hf
      obtain ⟨h171, hf⟩ := jckT hf
      obtain ⟨h172, hf⟩ := jck_some hf
      obtain ⟨μ173, hm174, hf⟩ := jlt_e hf
      have e175 : jT μ173 = jT μ := by rw [hm174]; exact e168
      refine wa_rbast (ν := μ173) X dX11_rider_227 h170 (by rw [e168]; exact h171) (by rw [e168]; exact h172) hm174 ?_
      refine wa_aload_n X 0 dX11_rider_228 rfl ?_
      refine wa_dup X dX11_rider_229 (va_rf_cat _) ?_
      refine wa_getI X dX11_rider_230 lfX11_166 rfl (by rw [e175]; exact h161) rfl ?_
      refine wa_iconst (v := (2 : Int32)) X dX11_rider_233 (by decide) ?_
      refine wa_iadd X dX11_rider_234 ?_
      obtain ⟨μ176, hm177, hf⟩ := jlt_e hf
      have e178 : jT μ176 = jT μ := by rw [hm177]; exact e175
      refine wa_rputI (ν := μ176) X dX11_rider_235 lfX11_166 rfl (by rw [e175]; exact h161) rfl rfl hm177 ?_
      refine wa_sub (L2 := [(0, va_rf (some a)), (2, .int x2), (6, .int x6)]) [0, 1, 2] rfl ?_
      exact gX11_rider_b238 X hrec158 a x2 x6 μ176 _ _ _ _ hf (by omega) (by omega)
  · rw [if_neg h159] at hf
    refine wa_bipush (v := (-2 : Int32)) X dX11_rider_196 (by decide) ?_
    obtain ⟨rfl, rfl, rfl, rfl⟩ := jret hf
    exact wa_iret X dX11_rider_198 rfl (by omega) (by omega)
def fX11_rider_b158 : Nat → Nat → Int32 → Int32 → JM → JO (Int32)
  | 0, _, _, _, _ => none
  | fu + 1, a, x2, x6, μ => jck ((jT μ a).1 == 12) <| if (jI μ a 51) ≤ x6 then (jcl (fX11_begins a μ) fun u91 μ92 => jck ((jT μ92 a).1 == 12) <| jcl (fX11_reads a μ92) fun r101 μ102 => if r101 = 0 then (some ((-2 : Int32), μ102, 0, 0)) else (jck ((jT μ102 a).1 == 12) <| jde (jP μ102 a 59) fun q112 => jck ((jT μ102 q112).1 == 101) <| jck (jin (jI μ102 a 58) (jT μ102 q112).2) <| jlt (jsI μ102 q112 ((jI μ102 a 58)).toNatClampNeg x2) fun μ116 => jde (jP μ116 a 50) fun q119 => jck ((jT μ102 q119).1 == 101) <| jck (jin x2 (jT μ102 q119).2) <| jde (jP μ116 a 60) fun q123 => jck ((jT μ102 q123).1 == 101) <| jck (jin (jI μ116 a 58) (jT μ102 q123).2) <| jlt (jsI μ116 q123 ((jI μ116 a 58)).toNatClampNeg (jI μ116 q119 (x2).toNatClampNeg)) fun μ127 => jcl (fX11_keeps a x2 μ127) fun r130 μ131 => jck ((jT μ131 a).1 == 12) <| jde (jP μ131 a 50) fun q140 => jck ((jT μ131 q140).1 == 101) <| jck (jin x2 (jT μ131 q140).2) <| jde (jP μ131 a 61) fun q144 => jck ((jT μ131 q144).1 == 101) <| jck (jin (jI μ131 a 58) (jT μ131 q144).2) <| jlt (jsI μ131 q144 ((jI μ131 a 58)).toNatClampNeg (jI μ131 q140 (x2).toNatClampNeg)) fun μ148 => jlt (jsI μ148 a 58 ((jI μ148 a 58) + (1 : Int32))) fun μ151 => some (r130, μ151, 0, 0))) else (jde (jP μ a 53) fun q154 => jck ((jT μ q154).1 == 101) <| jck (jin x6 (jT μ q154).2) <| if x6 ≤ 0 then (fX11_rider_b189 (fX11_rider_b158 fu) a x2 x6 (0 : Int32) ((jI μ a 12) + (jI μ q154 (x6).toNatClampNeg)) μ) else (fX11_rider_b189 (fX11_rider_b158 fu) a x2 x6 (2 : Int32) ((jI μ a 12) + (jI μ q154 (x6).toNatClampNeg)) μ))
set_option maxHeartbeats 4000000 in
set_option maxRecDepth 100000 in
theorem gX11_rider_b158 {b : Nat} {Θ : JE} {RC RS : Nat} {r : Int32} {ν : JM} (X : jX b Θ RX11 cX11_rider 8 (some .int) 9 203 RC RS) : ∀ (fu : Nat) (a : Nat) (x2 : Int32) (x6 : Int32) (μ : JM) (c m k n : Nat), fX11_rider_b158 fu a x2 x6 μ = some (r, ν, c, m) → k + c = RC → n + m = RS → WA b Θ 8 (jE b Θ (some (.int r)) ν RC RS) μ k n 158 [(0, va_rf (some a)), (2, .int x2), (6, .int x6)] [] := by
  intro fu
  induction fu with
  | zero => intro a x2 x6 μ c m k n hf; cases hf
  | succ fu ih =>
    intro a x2 x6 μ c m k n hf hk hn
    rw [fX11_rider_b158] at hf
    refine wa_iload X 2 dX11_rider_158 rfl ?_
    refine wa_aload_n X 0 dX11_rider_160 rfl ?_
    obtain ⟨h89, hf⟩ := jckT hf
    refine wa_getI X dX11_rider_161 lfX11_373 rfl h89 rfl ?_
    refine wa_icge (tgt := 308) X dX11_rider_164 (by decide) (fun h90 => ?_) (fun h90 => ?_)
    · rw [if_pos h90] at hf
      refine wa_aload_n X 0 dX11_rider_308 rfl ?_
      obtain ⟨u91, μ92, c93, m94, c95, m96, e97, hf, h98, h99⟩ := jcl_some hf
      refine wa_rcallV (st2 := []) X dX11_rider_309 lmX11_169 lMX11_begins rfl h89 (mX11_begins e97) rfl rfl rfl (va_cats (Nat.le_of_ble_eq_true rfl)) (by decide) (by omega) (by omega) ?_
      refine wa_aload_n X 0 dX11_rider_312 rfl ?_
      obtain ⟨h100, hf⟩ := jckT hf
      obtain ⟨r101, μ102, c103, m104, c105, m106, e107, hf, h108, h109⟩ := jcl_some hf
      refine wa_rcallV (st2 := [.int r101]) X dX11_rider_313 lmX11_363 lMX11_reads rfl h100 (mX11_reads e107) rfl rfl rfl (va_cats (Nat.le_of_ble_eq_true rfl)) (by decide) (by omega) (by omega) ?_
      refine wa_ifne (tgt := 322) X dX11_rider_316 (by decide) (fun h110 => ?_) (fun h110 => ?_)
      · rw [if_neg h110] at hf
        refine wa_aload_n X 0 dX11_rider_322 rfl ?_
        obtain ⟨h111, hf⟩ := jckT hf
        refine wa_getP X dX11_rider_323 lfX11_128 rfl h111 rfl ?_
        refine wa_aload_n X 0 dX11_rider_326 rfl ?_
        refine wa_getI X dX11_rider_327 lfX11_399 rfl h111 rfl ?_
        refine wa_iload_n X 1 dX11_rider_330 rfl ?_
        obtain ⟨q112, h113, hf⟩ := jde_some hf
        obtain ⟨h114, hf⟩ := jckT hf
        obtain ⟨h115, hf⟩ := jck_some hf
        obtain ⟨μ116, hm117, hf⟩ := jlt_e hf
        have e118 : jT μ116 = jT μ102 := by rw [hm117]; rfl
        refine wa_riast (ν := μ116) X dX11_rider_331 h113 h114 h115 hm117 ?_
        refine wa_aload_n X 0 dX11_rider_332 rfl ?_
        refine wa_getP X dX11_rider_333 lfX11_131 rfl (by rw [e118]; exact h111) rfl ?_
        refine wa_aload_n X 0 dX11_rider_336 rfl ?_
        refine wa_getI X dX11_rider_337 lfX11_399 rfl (by rw [e118]; exact h111) rfl ?_
        refine wa_aload_n X 0 dX11_rider_340 rfl ?_
        refine wa_getP X dX11_rider_341 lfX11_116 rfl (by rw [e118]; exact h111) rfl ?_
        refine wa_iload_n X 1 dX11_rider_344 rfl ?_
        obtain ⟨q119, h120, hf⟩ := jde_some hf
        obtain ⟨h121, hf⟩ := jckT hf
        obtain ⟨h122, hf⟩ := jck_some hf
        refine wa_riald X dX11_rider_345 h120 (by rw [e118]; exact h121) (by rw [e118]; exact h122) ?_
        obtain ⟨q123, h124, hf⟩ := jde_some hf
        obtain ⟨h125, hf⟩ := jckT hf
        obtain ⟨h126, hf⟩ := jck_some hf
        obtain ⟨μ127, hm128, hf⟩ := jlt_e hf
        have e129 : jT μ127 = jT μ102 := by rw [hm128]; exact e118
        refine wa_riast (ν := μ127) X dX11_rider_346 h124 (by rw [e118]; exact h125) (by rw [e118]; exact h126) hm128 ?_
        refine wa_aload_n X 0 dX11_rider_347 rfl ?_
        refine wa_iload_n X 1 dX11_rider_348 rfl ?_
        obtain ⟨r130, μ131, c132, m133, c134, m135, e136, hf, h137, h138⟩ := jcl_some hf
        refine wa_rcallV (st2 := [.int r130]) X dX11_rider_349 lmX11_366 lMX11_keeps rfl (by rw [e129]; exact h111) (mX11_keeps e136) rfl rfl rfl (va_cats (Nat.le_of_ble_eq_true rfl)) (by decide) (by omega) (by omega) ?_
        refine wa_istore (L2 := [(6, .int r130), (0, va_rf (some a)), (2, .int x2)]) X dX11_rider_352 (by decide) (by first | rfl | (show (6, _) :: List.filter (fun q : Nat × Value => !(q.1 == 6) && !(q.1 + 1 == 6 && q.2.category == 2)) _ = _; simp [va_rf_cat, cat_i, cat_l])) ?_
        refine wa_aload_n X 1 dX11_rider_354 rfl ?_
        obtain ⟨h139, hf⟩ := jckT hf
        refine wa_getP X dX11_rider_355 lfX11_134 rfl h139 rfl ?_
        refine wa_aload_n X 1 dX11_rider_358 rfl ?_
        refine wa_getI X dX11_rider_359 lfX11_399 rfl h139 rfl ?_
        refine wa_aload_n X 1 dX11_rider_362 rfl ?_
        refine wa_getP X dX11_rider_363 lfX11_116 rfl h139 rfl ?_
        refine wa_iload_n X 2 dX11_rider_366 rfl ?_
        obtain ⟨q140, h141, hf⟩ := jde_some hf
        obtain ⟨h142, hf⟩ := jckT hf
        obtain ⟨h143, hf⟩ := jck_some hf
        refine wa_riald X dX11_rider_367 h141 h142 h143 ?_
        obtain ⟨q144, h145, hf⟩ := jde_some hf
        obtain ⟨h146, hf⟩ := jckT hf
        obtain ⟨h147, hf⟩ := jck_some hf
        obtain ⟨μ148, hm149, hf⟩ := jlt_e hf
        have e150 : jT μ148 = jT μ131 := by rw [hm149]; rfl
        refine wa_riast (ν := μ148) X dX11_rider_368 h145 h146 h147 hm149 ?_
        refine wa_aload_n X 1 dX11_rider_369 rfl ?_
        refine wa_dup X dX11_rider_370 (va_rf_cat _) ?_
        refine wa_getI X dX11_rider_371 lfX11_399 rfl (by rw [e150]; exact h139) rfl ?_
        refine wa_iconst (v := (1 : Int32)) X dX11_rider_374 (by decide) ?_
        refine wa_iadd X dX11_rider_375 ?_
        obtain ⟨μ151, hm152, hf⟩ := jlt_e hf
        have e153 : jT μ151 = jT μ131 := by rw [hm152]; exact e150
        refine wa_rputI (ν := μ151) X dX11_rider_376 lfX11_399 rfl (by rw [e150]; exact h139) rfl rfl hm152 ?_
        refine wa_iload X 0 dX11_rider_379 rfl ?_
        obtain ⟨rfl, rfl, rfl, rfl⟩ := jret hf
        exact wa_iret X dX11_rider_381 rfl (by omega) (by omega)
      · rw [if_pos h110] at hf
        refine wa_bipush (v := (-2 : Int32)) X dX11_rider_319 (by decide) ?_
        obtain ⟨rfl, rfl, rfl, rfl⟩ := jret hf
        exact wa_iret X dX11_rider_321 rfl (by omega) (by omega)
    · rw [if_neg h90] at hf
      refine wa_aload_n X 0 dX11_rider_167 rfl ?_
      refine wa_getI X dX11_rider_168 lfX11_166 rfl h89 rfl ?_
      refine wa_aload_n X 0 dX11_rider_171 rfl ?_
      refine wa_getP X dX11_rider_172 lfX11_122 rfl h89 rfl ?_
      refine wa_iload X 2 dX11_rider_175 rfl ?_
      obtain ⟨q154, h155, hf⟩ := jde_some hf
      obtain ⟨h156, hf⟩ := jckT hf
      obtain ⟨h157, hf⟩ := jck_some hf
      refine wa_riald X dX11_rider_177 h155 h156 h157 ?_
      refine wa_iadd X dX11_rider_178 ?_
      refine wa_iload X 2 dX11_rider_179 rfl ?_
      refine wa_ifle (tgt := 188) X dX11_rider_181 (by decide) (fun h158 => ?_) (fun h158 => ?_)
      · rw [if_pos h158] at hf
        refine wa_iconst (v := (0 : Int32)) X dX11_rider_188 (by decide) ?_
        refine wa_sub (L2 := [(0, va_rf (some a)), (2, .int x2), (6, .int x6)]) [0, 1, 2] rfl ?_
        exact gX11_rider_b189 X ih a x2 x6 (0 : Int32) ((jI μ a 12) + (jI μ q154 (x6).toNatClampNeg)) μ _ _ _ _ hf (by omega) (by omega)
      · rw [if_neg h158] at hf
        refine wa_iconst (v := (2 : Int32)) X dX11_rider_184 (by decide) ?_
        refine wa_goto (tgt := 189) X dX11_rider_185 (by decide) ?_
        refine wa_sub (L2 := [(0, va_rf (some a)), (2, .int x2), (6, .int x6)]) [0, 1, 2] rfl ?_
        exact gX11_rider_b189 X ih a x2 x6 (2 : Int32) ((jI μ a 12) + (jI μ q154 (x6).toNatClampNeg)) μ _ _ _ _ hf (by omega) (by omega)
def fX11_rider_b65 : Nat → Nat → Int32 → Int32 → Int32 → Int32 → JM → JO (Int32)
  | 0, _, _, _, _, _, _ => none
  | fu + 1, a, x2, x4, x5, x6, μ => if x5 < x6 then (jck ((jT μ a).1 == 12) <| jcl (fX11_changes a μ) fun r53 μ54 => if r53 = 0 then (jck ((jT μ54 a).1 == 12) <| some (((-2 : Int32) - (jI μ54 a 18)), μ54, 0, 0)) else (jck ((jT μ54 a).1 == 12) <| jlt (jsI μ54 a 12 (0 : Int32)) fun μ64 => fX11_rider_b158  jfuel a x2 (0 : Int32) μ64)) else (if x5 ≤ x6 then (fX11_rider_b94 (fX11_rider_b65 fu) a x2 x4 x5 x6 μ) else (jck ((jT μ a).1 == 12) <| jde (jP μ a 45) fun q70 => jck ((jT μ q70).1 == 100) <| jck (jin x6 (jT μ q70).2) <| if (jI μ q70 (x6).toNatClampNeg) = (59 : Int32) then (fX11_rider_b94 (fX11_rider_b65 fu) a x2 x4 x5 x6 μ) else (fX11_rider_b129 (fX11_rider_b65 fu) a x2 x4 x5 x6 μ)))
set_option maxHeartbeats 4000000 in
set_option maxRecDepth 100000 in
theorem gX11_rider_b65 {b : Nat} {Θ : JE} {RC RS : Nat} {r : Int32} {ν : JM} (X : jX b Θ RX11 cX11_rider 8 (some .int) 9 203 RC RS) : ∀ (fu : Nat) (a : Nat) (x2 : Int32) (x4 : Int32) (x5 : Int32) (x6 : Int32) (μ : JM) (c m k n : Nat), fX11_rider_b65 fu a x2 x4 x5 x6 μ = some (r, ν, c, m) → k + c = RC → n + m = RS → WA b Θ 8 (jE b Θ (some (.int r)) ν RC RS) μ k n 65 [(0, va_rf (some a)), (2, .int x2), (4, .int x4), (5, .int x5), (6, .int x6)] [] := by
  intro fu
  induction fu with
  | zero => intro a x2 x4 x5 x6 μ c m k n hf; cases hf
  | succ fu ih =>
    intro a x2 x4 x5 x6 μ c m k n hf hk hn
    rw [fX11_rider_b65] at hf
    refine wa_iload X 4 dX11_rider_65 rfl ?_
    refine wa_iload X 3 dX11_rider_67 rfl ?_
    refine wa_icgt (tgt := 135) X dX11_rider_69 (by decide) (fun h51 => ?_) (fun h51 => ?_)
    · rw [if_pos h51] at hf
      refine wa_aload_n X 0 dX11_rider_135 rfl ?_
      obtain ⟨h52, hf⟩ := jckT hf
      obtain ⟨r53, μ54, c55, m56, c57, m58, e59, hf, h60, h61⟩ := jcl_some hf
      refine wa_rcallV (st2 := [.int r53]) X dX11_rider_136 lmX11_396 lMX11_changes rfl h52 (mX11_changes e59) rfl rfl rfl (va_cats (Nat.le_of_ble_eq_true rfl)) (by decide) (by omega) (by omega) ?_
      refine wa_ifne (tgt := 150) X dX11_rider_139 (by decide) (fun h62 => ?_) (fun h62 => ?_)
      · rw [if_neg h62] at hf
        refine wa_aload_n X 0 dX11_rider_150 rfl ?_
        refine wa_iconst (v := (0 : Int32)) X dX11_rider_151 (by decide) ?_
        obtain ⟨h63, hf⟩ := jckT hf
        obtain ⟨μ64, hm65, hf⟩ := jlt_e hf
        have e66 : jT μ64 = jT μ54 := by rw [hm65]; rfl
        refine wa_rputI (ν := μ64) X dX11_rider_152 lfX11_166 rfl h63 rfl rfl hm65 ?_
        refine wa_iconst (v := (0 : Int32)) X dX11_rider_155 (by decide) ?_
        refine wa_istore (L2 := [(6, .int (0 : Int32)), (0, va_rf (some a)), (2, .int x2), (4, .int x4), (5, .int x5)]) X dX11_rider_156 (by decide) (by first | rfl | (show (6, _) :: List.filter (fun q : Nat × Value => !(q.1 == 6) && !(q.1 + 1 == 6 && q.2.category == 2)) _ = _; simp [va_rf_cat, cat_i, cat_l])) ?_
        refine wa_sub (L2 := [(0, va_rf (some a)), (2, .int x2), (6, .int (0 : Int32))]) [1, 2, 0] rfl ?_
        exact gX11_rider_b158 X jfuel a x2 (0 : Int32) μ64 _ _ _ _ hf (by omega) (by omega)
      · rw [if_pos h62] at hf
        refine wa_bipush (v := (-2 : Int32)) X dX11_rider_142 (by decide) ?_
        refine wa_aload_n X 0 dX11_rider_144 rfl ?_
        obtain ⟨h67, hf⟩ := jckT hf
        refine wa_getI X dX11_rider_145 lfX11_163 rfl h67 rfl ?_
        refine wa_isub X dX11_rider_148 ?_
        obtain ⟨rfl, rfl, rfl, rfl⟩ := jret hf
        exact wa_iret X dX11_rider_149 rfl (by omega) (by omega)
    · rw [if_neg h51] at hf
      refine wa_iload X 4 dX11_rider_72 rfl ?_
      refine wa_iload X 3 dX11_rider_74 rfl ?_
      refine wa_icge (tgt := 94) X dX11_rider_76 (by decide) (fun h68 => ?_) (fun h68 => ?_)
      · rw [if_pos h68] at hf
        refine wa_sub (L2 := [(0, va_rf (some a)), (2, .int x2), (4, .int x4), (5, .int x5), (6, .int x6)]) [0, 1, 2, 3, 4] rfl ?_
        exact gX11_rider_b94 X ih a x2 x4 x5 x6 μ _ _ _ _ hf (by omega) (by omega)
      · rw [if_neg h68] at hf
        refine wa_aload_n X 0 dX11_rider_79 rfl ?_
        obtain ⟨h69, hf⟩ := jckT hf
        refine wa_getP X dX11_rider_80 lfX11_107 rfl h69 rfl ?_
        refine wa_iload X 4 dX11_rider_83 rfl ?_
        obtain ⟨q70, h71, hf⟩ := jde_some hf
        obtain ⟨h72, hf⟩ := jckT hf
        obtain ⟨h73, hf⟩ := jck_some hf
        refine wa_rbald X dX11_rider_85 h71 h72 h73 ?_
        refine wa_bipush (v := (59 : Int32)) X dX11_rider_86 (by decide) ?_
        refine wa_iceq (tgt := 94) X dX11_rider_88 (by decide) (fun h74 => ?_) (fun h74 => ?_)
        · rw [if_pos h74] at hf
          refine wa_sub (L2 := [(0, va_rf (some a)), (2, .int x2), (4, .int x4), (5, .int x5), (6, .int x6)]) [0, 1, 2, 3, 4] rfl ?_
          exact gX11_rider_b94 X ih a x2 x4 x5 x6 μ _ _ _ _ hf (by omega) (by omega)
        · rw [if_neg h74] at hf
          refine wa_goto (tgt := 129) X dX11_rider_91 (by decide) ?_
          refine wa_sub (L2 := [(0, va_rf (some a)), (2, .int x2), (4, .int x4), (5, .int x5), (6, .int x6)]) [0, 1, 2, 3, 4] rfl ?_
          exact gX11_rider_b129 X ih a x2 x4 x5 x6 μ _ _ _ _ hf (by omega) (by omega)
def fX11_rider (a : Nat) (x1 : Int32) (x2 : Int32) (μ : JM) : JO (Int32) := jck ((jT μ a).1 == 12) <| jcl (fX11_takesTape a μ) fun u2 μ3 => jck ((jT μ3 a).1 == 12) <| jcl (fX11_isVersion a x1 μ3) fun r12 μ13 => if r12 = 0 then (some ((-1 : Int32), μ13, 0, 0)) else (jcl (fX11_isPlace x2 μ13) fun r22 μ23 => if r22 = 0 then (some ((-1 : Int32), μ23, 0, 0)) else (jck ((jT μ23 a).1 == 12) <| jlt (jsI μ23 a 51 (0 : Int32)) fun μ33 => jlt (jsI μ33 a 55 (0 : Int32)) fun μ36 => jde (jP μ36 a 50) fun q39 => jck ((jT μ23 q39).1 == 101) <| jck (jin x1 (jT μ23 q39).2) <| jde (jP μ36 a 46) fun q43 => jck ((jT μ23 q43).1 == 101) <| jck (jin (jI μ36 q39 (x1).toNatClampNeg) (jT μ23 q43).2) <| jde (jP μ36 a 47) fun q47 => jck ((jT μ23 q47).1 == 101) <| jck (jin (jI μ36 q39 (x1).toNatClampNeg) (jT μ23 q47).2) <| fX11_rider_b65  jfuel a x2 (jI μ36 q43 ((jI μ36 q39 (x1).toNatClampNeg)).toNatClampNeg) ((jI μ36 q43 ((jI μ36 q39 (x1).toNatClampNeg)).toNatClampNeg) + (jI μ36 q47 ((jI μ36 q39 (x1).toNatClampNeg)).toNatClampNeg)) (jI μ36 q43 ((jI μ36 q39 (x1).toNatClampNeg)).toNatClampNeg) μ36))
set_option maxHeartbeats 4000000 in
set_option maxRecDepth 100000 in
theorem mX11_rider {b : Nat} {a : Nat} {x1 : Int32} {x2 : Int32} {μ : JM} {r : Int32} {ν : JM} {c m : Nat} (hf : fX11_rider a x1 x2 μ = some (r, ν, c, m)) : JMet b yX11_rider cX11_rider 8 (some .int) 9 203 [va_rf (some a), .int x1, .int x2] μ (some (.int r)) ν c m := by
  refine JMet.of (by decide) (lg_sl_le (by simp only [List.map_cons, List.map_nil, List.sum_cons, List.sum_nil, va_rf_cat]; exact Nat.le_of_ble_eq_true rfl)) (fun Θ X hin => ?_)
  refine wa_eq (L2 := [(0, va_rf (some a)), (1, .int x1), (2, .int x2)]) ?_ rfl (by first | rfl | simp [lv_args, va_rf_cat, cat_i, cat_l]) rfl
  obtain ⟨k, hk0⟩ : ∃ k : Nat, k = 0 := ⟨0, rfl⟩
  obtain ⟨n, hn0⟩ : ∃ n : Nat, n = 0 := ⟨0, rfl⟩
  have hk : k + c = c := by omega
  have hn : n + m = m := by omega
  refine wa_costs hk0.symm hn0.symm ?_
  rw [fX11_rider] at hf
  refine wa_aload_n X 0 dX11_rider_0 rfl ?_
  obtain ⟨h1, hf⟩ := jckT hf
  obtain ⟨u2, μ3, c4, m5, c6, m7, e8, hf, h9, h10⟩ := jcl_some hf
  refine wa_rcallV (st2 := []) X dX11_rider_1 lmX11_264 lMX11_takesTape rfl h1 (mX11_takesTape e8) rfl rfl rfl (va_cats (Nat.le_of_ble_eq_true rfl)) (by decide) (by omega) (by omega) ?_
  refine wa_aload_n X 0 dX11_rider_4 rfl ?_
  refine wa_iload_n X 1 dX11_rider_5 rfl ?_
  obtain ⟨h11, hf⟩ := jckT hf
  obtain ⟨r12, μ13, c14, m15, c16, m17, e18, hf, h19, h20⟩ := jcl_some hf
  refine wa_rcallV (st2 := [.int r12]) X dX11_rider_6 lmX11_393 lMX11_isVersion rfl h11 (mX11_isVersion e18) rfl rfl rfl (va_cats (Nat.le_of_ble_eq_true rfl)) (by decide) (by omega) (by omega) ?_
  refine wa_ifeq (tgt := 19) X dX11_rider_9 (by decide) (fun h21 => ?_) (fun h21 => ?_)
  · rw [if_pos h21] at hf
    refine wa_iconst (v := (-1 : Int32)) X dX11_rider_19 (by decide) ?_
    obtain ⟨rfl, rfl, rfl, rfl⟩ := jret hf
    exact wa_iret X dX11_rider_20 rfl (by omega) (by omega)
  · rw [if_neg h21] at hf
    refine wa_iload_n X 2 dX11_rider_12 rfl ?_
    obtain ⟨r22, μ23, c24, m25, c26, m27, e28, hf, h29, h30⟩ := jcl_some hf
    refine wa_rcallS (st2 := [.int r22]) X dX11_rider_13 lmX11_351 lMX11_isPlace (mX11_isPlace e28) rfl rfl rfl (va_cats (Nat.le_of_ble_eq_true rfl)) (by decide) (by omega) (by omega) ?_
    refine wa_ifne (tgt := 21) X dX11_rider_16 (by decide) (fun h31 => ?_) (fun h31 => ?_)
    · rw [if_neg h31] at hf
      refine wa_aload_n X 0 dX11_rider_21 rfl ?_
      refine wa_iconst (v := (0 : Int32)) X dX11_rider_22 (by decide) ?_
      obtain ⟨h32, hf⟩ := jckT hf
      obtain ⟨μ33, hm34, hf⟩ := jlt_e hf
      have e35 : jT μ33 = jT μ23 := by rw [hm34]; rfl
      refine wa_rputI (ν := μ33) X dX11_rider_23 lfX11_373 rfl h32 rfl rfl hm34 ?_
      refine wa_aload_n X 0 dX11_rider_26 rfl ?_
      refine wa_iconst (v := (0 : Int32)) X dX11_rider_27 (by decide) ?_
      obtain ⟨μ36, hm37, hf⟩ := jlt_e hf
      have e38 : jT μ36 = jT μ23 := by rw [hm37]; exact e35
      refine wa_rputI (ν := μ36) X dX11_rider_28 lfX11_370 rfl (by rw [e35]; exact h32) rfl rfl hm37 ?_
      refine wa_aload_n X 0 dX11_rider_31 rfl ?_
      refine wa_getP X dX11_rider_32 lfX11_116 rfl (by rw [e38]; exact h32) rfl ?_
      refine wa_iload_n X 1 dX11_rider_35 rfl ?_
      obtain ⟨q39, h40, hf⟩ := jde_some hf
      obtain ⟨h41, hf⟩ := jckT hf
      obtain ⟨h42, hf⟩ := jck_some hf
      refine wa_riald X dX11_rider_36 h40 (by rw [e38]; exact h41) (by rw [e38]; exact h42) ?_
      refine wa_istore_n (L2 := [(3, .int (jI μ36 q39 (x1).toNatClampNeg)), (0, va_rf (some a)), (1, .int x1), (2, .int x2)]) X dX11_rider_37 (by decide) (by first | rfl | (show (3, _) :: List.filter (fun q : Nat × Value => !(q.1 == 3) && !(q.1 + 1 == 3 && q.2.category == 2)) _ = _; simp [va_rf_cat, cat_i, cat_l])) ?_
      refine wa_aload_n X 1 dX11_rider_38 rfl ?_
      refine wa_getP X dX11_rider_39 lfX11_110 rfl (by rw [e38]; exact h32) rfl ?_
      refine wa_iload_n X 0 dX11_rider_42 rfl ?_
      obtain ⟨q43, h44, hf⟩ := jde_some hf
      obtain ⟨h45, hf⟩ := jckT hf
      obtain ⟨h46, hf⟩ := jck_some hf
      refine wa_riald X dX11_rider_43 h44 (by rw [e38]; exact h45) (by rw [e38]; exact h46) ?_
      refine wa_istore (L2 := [(4, .int (jI μ36 q43 ((jI μ36 q39 (x1).toNatClampNeg)).toNatClampNeg)), (3, .int (jI μ36 q39 (x1).toNatClampNeg)), (0, va_rf (some a)), (1, .int x1), (2, .int x2)]) X dX11_rider_44 (by decide) (by first | rfl | (show (4, _) :: List.filter (fun q : Nat × Value => !(q.1 == 4) && !(q.1 + 1 == 4 && q.2.category == 2)) _ = _; simp [va_rf_cat, cat_i, cat_l])) ?_
      refine wa_aload_n X 2 dX11_rider_46 rfl ?_
      refine wa_getP X dX11_rider_47 lfX11_110 rfl (by rw [e38]; exact h32) rfl ?_
      refine wa_iload_n X 1 dX11_rider_50 rfl ?_
      refine wa_riald X dX11_rider_51 h44 (by rw [e38]; exact h45) (by rw [e38]; exact h46) ?_
      refine wa_aload_n X 2 dX11_rider_52 rfl ?_
      refine wa_getP X dX11_rider_53 lfX11_113 rfl (by rw [e38]; exact h32) rfl ?_
      refine wa_iload_n X 1 dX11_rider_56 rfl ?_
      obtain ⟨q47, h48, hf⟩ := jde_some hf
      obtain ⟨h49, hf⟩ := jckT hf
      obtain ⟨h50, hf⟩ := jck_some hf
      refine wa_riald X dX11_rider_57 h48 (by rw [e38]; exact h49) (by rw [e38]; exact h50) ?_
      refine wa_iadd X dX11_rider_58 ?_
      refine wa_istore (L2 := [(5, .int ((jI μ36 q43 ((jI μ36 q39 (x1).toNatClampNeg)).toNatClampNeg) + (jI μ36 q47 ((jI μ36 q39 (x1).toNatClampNeg)).toNatClampNeg))), (4, .int (jI μ36 q43 ((jI μ36 q39 (x1).toNatClampNeg)).toNatClampNeg)), (3, .int (jI μ36 q39 (x1).toNatClampNeg)), (0, va_rf (some a)), (1, .int x1), (2, .int x2)]) X dX11_rider_59 (by decide) (by first | rfl | (show (5, _) :: List.filter (fun q : Nat × Value => !(q.1 == 5) && !(q.1 + 1 == 5 && q.2.category == 2)) _ = _; simp [va_rf_cat, cat_i, cat_l])) ?_
      refine wa_iload X 1 dX11_rider_61 rfl ?_
      refine wa_istore (L2 := [(6, .int (jI μ36 q43 ((jI μ36 q39 (x1).toNatClampNeg)).toNatClampNeg)), (5, .int ((jI μ36 q43 ((jI μ36 q39 (x1).toNatClampNeg)).toNatClampNeg) + (jI μ36 q47 ((jI μ36 q39 (x1).toNatClampNeg)).toNatClampNeg))), (4, .int (jI μ36 q43 ((jI μ36 q39 (x1).toNatClampNeg)).toNatClampNeg)), (3, .int (jI μ36 q39 (x1).toNatClampNeg)), (0, va_rf (some a)), (1, .int x1), (2, .int x2)]) X dX11_rider_63 (by decide) (by first | rfl | (show (6, _) :: List.filter (fun q : Nat × Value => !(q.1 == 6) && !(q.1 + 1 == 6 && q.2.category == 2)) _ = _; simp [va_rf_cat, cat_i, cat_l])) ?_
      refine wa_sub (L2 := [(0, va_rf (some a)), (2, .int x2), (4, .int (jI μ36 q43 ((jI μ36 q39 (x1).toNatClampNeg)).toNatClampNeg)), (5, .int ((jI μ36 q43 ((jI μ36 q39 (x1).toNatClampNeg)).toNatClampNeg) + (jI μ36 q47 ((jI μ36 q39 (x1).toNatClampNeg)).toNatClampNeg))), (6, .int (jI μ36 q43 ((jI μ36 q39 (x1).toNatClampNeg)).toNatClampNeg))]) [4, 6, 2, 1, 0] rfl ?_
      exact gX11_rider_b65 X jfuel a x2 (jI μ36 q43 ((jI μ36 q39 (x1).toNatClampNeg)).toNatClampNeg) ((jI μ36 q43 ((jI μ36 q39 (x1).toNatClampNeg)).toNatClampNeg) + (jI μ36 q47 ((jI μ36 q39 (x1).toNatClampNeg)).toNatClampNeg)) (jI μ36 q43 ((jI μ36 q39 (x1).toNatClampNeg)).toNatClampNeg) μ36 _ _ _ _ hf (by omega) (by omega)
    · rw [if_pos h31] at hf
      refine wa_iconst (v := (-1 : Int32)) X dX11_rider_19 (by decide) ?_
      obtain ⟨rfl, rfl, rfl, rfl⟩ := jret hf
      exact wa_iret X dX11_rider_20 rfl (by omega) (by omega)
theorem dX11_takeOff_0 : decode cX11_takeOff 0 = .ok (.aload_n 0, 1) := by decide +kernel
theorem dX11_takeOff_1 : decode cX11_takeOff 1 = .ok (.getfield 399, 3) := by decide +kernel
theorem dX11_takeOff_4 : decode cX11_takeOff 4 = .ok (.ifCond .ne 5, 3) := by decide +kernel
theorem dX11_takeOff_7 : decode cX11_takeOff 7 = .ok (.iconst 0, 1) := by decide +kernel
theorem dX11_takeOff_8 : decode cX11_takeOff 8 = .ok (.ireturn, 1) := by decide +kernel
theorem dX11_takeOff_9 : decode cX11_takeOff 9 = .ok (.aload_n 0, 1) := by decide +kernel
theorem dX11_takeOff_10 : decode cX11_takeOff 10 = .ok (.dup, 1) := by decide +kernel
theorem dX11_takeOff_11 : decode cX11_takeOff 11 = .ok (.getfield 399, 3) := by decide +kernel
theorem dX11_takeOff_14 : decode cX11_takeOff 14 = .ok (.iconst 1, 1) := by decide +kernel
theorem dX11_takeOff_15 : decode cX11_takeOff 15 = .ok (.isub, 1) := by decide +kernel
theorem dX11_takeOff_16 : decode cX11_takeOff 16 = .ok (.putfield 399, 3) := by decide +kernel
theorem dX11_takeOff_19 : decode cX11_takeOff 19 = .ok (.aload_n 0, 1) := by decide +kernel
theorem dX11_takeOff_20 : decode cX11_takeOff 20 = .ok (.getfield 128, 3) := by decide +kernel
theorem dX11_takeOff_23 : decode cX11_takeOff 23 = .ok (.aload_n 0, 1) := by decide +kernel
theorem dX11_takeOff_24 : decode cX11_takeOff 24 = .ok (.getfield 399, 3) := by decide +kernel
theorem dX11_takeOff_27 : decode cX11_takeOff 27 = .ok (.iaload, 1) := by decide +kernel
theorem dX11_takeOff_28 : decode cX11_takeOff 28 = .ok (.istore_n 1, 1) := by decide +kernel
theorem dX11_takeOff_29 : decode cX11_takeOff 29 = .ok (.aload_n 0, 1) := by decide +kernel
theorem dX11_takeOff_30 : decode cX11_takeOff 30 = .ok (.getfield 116, 3) := by decide +kernel
theorem dX11_takeOff_33 : decode cX11_takeOff 33 = .ok (.iload_n 1, 1) := by decide +kernel
theorem dX11_takeOff_34 : decode cX11_takeOff 34 = .ok (.iaload, 1) := by decide +kernel
theorem dX11_takeOff_35 : decode cX11_takeOff 35 = .ok (.aload_n 0, 1) := by decide +kernel
theorem dX11_takeOff_36 : decode cX11_takeOff 36 = .ok (.getfield 134, 3) := by decide +kernel
theorem dX11_takeOff_39 : decode cX11_takeOff 39 = .ok (.aload_n 0, 1) := by decide +kernel
theorem dX11_takeOff_40 : decode cX11_takeOff 40 = .ok (.getfield 399, 3) := by decide +kernel
theorem dX11_takeOff_43 : decode cX11_takeOff 43 = .ok (.iaload, 1) := by decide +kernel
theorem dX11_takeOff_44 : decode cX11_takeOff 44 = .ok (.if_icmp .eq 5, 3) := by decide +kernel
theorem dX11_takeOff_47 : decode cX11_takeOff 47 = .ok (.iconst 0, 1) := by decide +kernel
theorem dX11_takeOff_48 : decode cX11_takeOff 48 = .ok (.ireturn, 1) := by decide +kernel
theorem dX11_takeOff_49 : decode cX11_takeOff 49 = .ok (.aload_n 0, 1) := by decide +kernel
theorem dX11_takeOff_50 : decode cX11_takeOff 50 = .ok (.getfield 116, 3) := by decide +kernel
theorem dX11_takeOff_53 : decode cX11_takeOff 53 = .ok (.iload_n 1, 1) := by decide +kernel
theorem dX11_takeOff_54 : decode cX11_takeOff 54 = .ok (.aload_n 0, 1) := by decide +kernel
theorem dX11_takeOff_55 : decode cX11_takeOff 55 = .ok (.getfield 131, 3) := by decide +kernel
theorem dX11_takeOff_58 : decode cX11_takeOff 58 = .ok (.aload_n 0, 1) := by decide +kernel
theorem dX11_takeOff_59 : decode cX11_takeOff 59 = .ok (.getfield 399, 3) := by decide +kernel
theorem dX11_takeOff_62 : decode cX11_takeOff 62 = .ok (.iaload, 1) := by decide +kernel
theorem dX11_takeOff_63 : decode cX11_takeOff 63 = .ok (.iastore, 1) := by decide +kernel
theorem dX11_takeOff_64 : decode cX11_takeOff 64 = .ok (.aload_n 0, 1) := by decide +kernel
theorem dX11_takeOff_65 : decode cX11_takeOff 65 = .ok (.getfield 116, 3) := by decide +kernel
theorem dX11_takeOff_68 : decode cX11_takeOff 68 = .ok (.iload_n 1, 1) := by decide +kernel
theorem dX11_takeOff_69 : decode cX11_takeOff 69 = .ok (.iaload, 1) := by decide +kernel
theorem dX11_takeOff_70 : decode cX11_takeOff 70 = .ok (.ifCond .ge 5, 3) := by decide +kernel
theorem dX11_takeOff_73 : decode cX11_takeOff 73 = .ok (.iconst 1, 1) := by decide +kernel
theorem dX11_takeOff_74 : decode cX11_takeOff 74 = .ok (.ireturn, 1) := by decide +kernel
theorem dX11_takeOff_75 : decode cX11_takeOff 75 = .ok (.aload_n 0, 1) := by decide +kernel
theorem dX11_takeOff_76 : decode cX11_takeOff 76 = .ok (.aload_n 0, 1) := by decide +kernel
theorem dX11_takeOff_77 : decode cX11_takeOff 77 = .ok (.getfield 116, 3) := by decide +kernel
theorem dX11_takeOff_80 : decode cX11_takeOff 80 = .ok (.iload_n 1, 1) := by decide +kernel
theorem dX11_takeOff_81 : decode cX11_takeOff 81 = .ok (.iaload, 1) := by decide +kernel
theorem dX11_takeOff_82 : decode cX11_takeOff 82 = .ok (.invokevirtual 402, 3) := by decide +kernel
theorem dX11_takeOff_85 : decode cX11_takeOff 85 = .ok (.aload_n 0, 1) := by decide +kernel
theorem dX11_takeOff_86 : decode cX11_takeOff 86 = .ok (.invokevirtual 363, 3) := by decide +kernel
theorem dX11_takeOff_89 : decode cX11_takeOff 89 = .ok (.istore_n 2, 1) := by decide +kernel
theorem dX11_takeOff_90 : decode cX11_takeOff 90 = .ok (.aload_n 0, 1) := by decide +kernel
theorem dX11_takeOff_91 : decode cX11_takeOff 91 = .ok (.iload_n 1, 1) := by decide +kernel
theorem dX11_takeOff_92 : decode cX11_takeOff 92 = .ok (.invokevirtual 360, 3) := by decide +kernel
theorem dX11_takeOff_95 : decode cX11_takeOff 95 = .ok (.iconst 1, 1) := by decide +kernel
theorem dX11_takeOff_96 : decode cX11_takeOff 96 = .ok (.ireturn, 1) := by decide +kernel
def fX11_takeOff (a : Nat) (μ : JM) : JO (Int32) := jck ((jT μ a).1 == 12) <| if (jI μ a 58) = 0 then (some ((0 : Int32), μ, 0, 0)) else (jlt (jsI μ a 58 ((jI μ a 58) - (1 : Int32))) fun μ3 => jde (jP μ3 a 59) fun q6 => jck ((jT μ q6).1 == 101) <| jck (jin (jI μ3 a 58) (jT μ q6).2) <| jde (jP μ3 a 50) fun q10 => jck ((jT μ q10).1 == 101) <| jck (jin (jI μ3 q6 ((jI μ3 a 58)).toNatClampNeg) (jT μ q10).2) <| jde (jP μ3 a 61) fun q14 => jck ((jT μ q14).1 == 101) <| jck (jin (jI μ3 a 58) (jT μ q14).2) <| if (jI μ3 q10 ((jI μ3 q6 ((jI μ3 a 58)).toNatClampNeg)).toNatClampNeg) = (jI μ3 q14 ((jI μ3 a 58)).toNatClampNeg) then (jde (jP μ3 a 60) fun q19 => jck ((jT μ q19).1 == 101) <| jck (jin (jI μ3 a 58) (jT μ q19).2) <| jlt (jsI μ3 q10 ((jI μ3 q6 ((jI μ3 a 58)).toNatClampNeg)).toNatClampNeg (jI μ3 q19 ((jI μ3 a 58)).toNatClampNeg)) fun μ23 => jde (jP μ23 a 50) fun q26 => jck ((jT μ q26).1 == 101) <| jck (jin (jI μ3 q6 ((jI μ3 a 58)).toNatClampNeg) (jT μ q26).2) <| if 0 ≤ (jI μ23 q26 ((jI μ3 q6 ((jI μ3 a 58)).toNatClampNeg)).toNatClampNeg) then (jcl (fX11_takesText a (jI μ23 q26 ((jI μ3 q6 ((jI μ3 a 58)).toNatClampNeg)).toNatClampNeg) μ23) fun u31 μ32 => jck ((jT μ32 a).1 == 12) <| jcl (fX11_reads a μ32) fun r41 μ42 => jck ((jT μ42 a).1 == 12) <| jcl (fX11_becomes a (jI μ3 q6 ((jI μ3 a 58)).toNatClampNeg) μ42) fun u51 μ52 => some ((1 : Int32), μ52, 0, 0)) else (some ((1 : Int32), μ23, 0, 0))) else (some ((0 : Int32), μ3, 0, 0)))
set_option maxHeartbeats 4000000 in
set_option maxRecDepth 100000 in
theorem mX11_takeOff {b : Nat} {a : Nat} {μ : JM} {r : Int32} {ν : JM} {c m : Nat} (hf : fX11_takeOff a μ = some (r, ν, c, m)) : JMet b yX11_takeOff cX11_takeOff 3 (some .boolean) 8 187 [va_rf (some a)] μ (some (.int r)) ν c m := by
  refine JMet.of (by decide) (lg_sl_le (by simp only [List.map_cons, List.map_nil, List.sum_cons, List.sum_nil, va_rf_cat]; exact Nat.le_of_ble_eq_true rfl)) (fun Θ X hin => ?_)
  refine wa_eq (L2 := [(0, va_rf (some a))]) ?_ rfl (by first | rfl | simp [lv_args, va_rf_cat, cat_i, cat_l]) rfl
  obtain ⟨k, hk0⟩ : ∃ k : Nat, k = 0 := ⟨0, rfl⟩
  obtain ⟨n, hn0⟩ : ∃ n : Nat, n = 0 := ⟨0, rfl⟩
  have hk : k + c = c := by omega
  have hn : n + m = m := by omega
  refine wa_costs hk0.symm hn0.symm ?_
  rw [fX11_takeOff] at hf
  refine wa_aload_n X 0 dX11_takeOff_0 rfl ?_
  obtain ⟨h1, hf⟩ := jckT hf
  refine wa_getI X dX11_takeOff_1 lfX11_399 rfl h1 rfl ?_
  refine wa_ifne (tgt := 9) X dX11_takeOff_4 (by decide) (fun h2 => ?_) (fun h2 => ?_)
  · rw [if_neg h2] at hf
    refine wa_aload_n X 0 dX11_takeOff_9 rfl ?_
    refine wa_dup X dX11_takeOff_10 (va_rf_cat _) ?_
    refine wa_getI X dX11_takeOff_11 lfX11_399 rfl h1 rfl ?_
    refine wa_iconst (v := (1 : Int32)) X dX11_takeOff_14 (by decide) ?_
    refine wa_isub X dX11_takeOff_15 ?_
    obtain ⟨μ3, hm4, hf⟩ := jlt_e hf
    have e5 : jT μ3 = jT μ := by rw [hm4]; rfl
    refine wa_rputI (ν := μ3) X dX11_takeOff_16 lfX11_399 rfl h1 rfl rfl hm4 ?_
    refine wa_aload_n X 0 dX11_takeOff_19 rfl ?_
    refine wa_getP X dX11_takeOff_20 lfX11_128 rfl (by rw [e5]; exact h1) rfl ?_
    refine wa_aload_n X 0 dX11_takeOff_23 rfl ?_
    refine wa_getI X dX11_takeOff_24 lfX11_399 rfl (by rw [e5]; exact h1) rfl ?_
    obtain ⟨q6, h7, hf⟩ := jde_some hf
    obtain ⟨h8, hf⟩ := jckT hf
    obtain ⟨h9, hf⟩ := jck_some hf
    refine wa_riald X dX11_takeOff_27 h7 (by rw [e5]; exact h8) (by rw [e5]; exact h9) ?_
    refine wa_istore_n (L2 := [(1, .int (jI μ3 q6 ((jI μ3 a 58)).toNatClampNeg)), (0, va_rf (some a))]) X dX11_takeOff_28 (by decide) (by first | rfl | (show (1, _) :: List.filter (fun q : Nat × Value => !(q.1 == 1) && !(q.1 + 1 == 1 && q.2.category == 2)) _ = _; simp [va_rf_cat, cat_i, cat_l])) ?_
    refine wa_aload_n X 1 dX11_takeOff_29 rfl ?_
    refine wa_getP X dX11_takeOff_30 lfX11_116 rfl (by rw [e5]; exact h1) rfl ?_
    refine wa_iload_n X 0 dX11_takeOff_33 rfl ?_
    obtain ⟨q10, h11, hf⟩ := jde_some hf
    obtain ⟨h12, hf⟩ := jckT hf
    obtain ⟨h13, hf⟩ := jck_some hf
    refine wa_riald X dX11_takeOff_34 h11 (by rw [e5]; exact h12) (by rw [e5]; exact h13) ?_
    refine wa_aload_n X 1 dX11_takeOff_35 rfl ?_
    refine wa_getP X dX11_takeOff_36 lfX11_134 rfl (by rw [e5]; exact h1) rfl ?_
    refine wa_aload_n X 1 dX11_takeOff_39 rfl ?_
    refine wa_getI X dX11_takeOff_40 lfX11_399 rfl (by rw [e5]; exact h1) rfl ?_
    obtain ⟨q14, h15, hf⟩ := jde_some hf
    obtain ⟨h16, hf⟩ := jckT hf
    obtain ⟨h17, hf⟩ := jck_some hf
    refine wa_riald X dX11_takeOff_43 h15 (by rw [e5]; exact h16) (by rw [e5]; exact h17) ?_
    refine wa_iceq (tgt := 49) X dX11_takeOff_44 (by decide) (fun h18 => ?_) (fun h18 => ?_)
    · rw [if_pos h18] at hf
      refine wa_aload_n X 1 dX11_takeOff_49 rfl ?_
      refine wa_getP X dX11_takeOff_50 lfX11_116 rfl (by rw [e5]; exact h1) rfl ?_
      refine wa_iload_n X 0 dX11_takeOff_53 rfl ?_
      refine wa_aload_n X 1 dX11_takeOff_54 rfl ?_
      refine wa_getP X dX11_takeOff_55 lfX11_131 rfl (by rw [e5]; exact h1) rfl ?_
      refine wa_aload_n X 1 dX11_takeOff_58 rfl ?_
      refine wa_getI X dX11_takeOff_59 lfX11_399 rfl (by rw [e5]; exact h1) rfl ?_
      obtain ⟨q19, h20, hf⟩ := jde_some hf
      obtain ⟨h21, hf⟩ := jckT hf
      obtain ⟨h22, hf⟩ := jck_some hf
      refine wa_riald X dX11_takeOff_62 h20 (by rw [e5]; exact h21) (by rw [e5]; exact h22) ?_
      obtain ⟨μ23, hm24, hf⟩ := jlt_e hf
      have e25 : jT μ23 = jT μ := by rw [hm24]; exact e5
      refine wa_riast (ν := μ23) X dX11_takeOff_63 h11 (by rw [e5]; exact h12) (by rw [e5]; exact h13) hm24 ?_
      refine wa_aload_n X 1 dX11_takeOff_64 rfl ?_
      refine wa_getP X dX11_takeOff_65 lfX11_116 rfl (by rw [e25]; exact h1) rfl ?_
      refine wa_iload_n X 0 dX11_takeOff_68 rfl ?_
      obtain ⟨q26, h27, hf⟩ := jde_some hf
      obtain ⟨h28, hf⟩ := jckT hf
      obtain ⟨h29, hf⟩ := jck_some hf
      refine wa_riald X dX11_takeOff_69 h27 (by rw [e25]; exact h28) (by rw [e25]; exact h29) ?_
      refine wa_ifge (tgt := 75) X dX11_takeOff_70 (by decide) (fun h30 => ?_) (fun h30 => ?_)
      · rw [if_pos h30] at hf
        refine wa_aload_n X 1 dX11_takeOff_75 rfl ?_
        refine wa_aload_n X 1 dX11_takeOff_76 rfl ?_
        refine wa_getP X dX11_takeOff_77 lfX11_116 rfl (by rw [e25]; exact h1) rfl ?_
        refine wa_iload_n X 0 dX11_takeOff_80 rfl ?_
        refine wa_riald X dX11_takeOff_81 h27 (by rw [e25]; exact h28) (by rw [e25]; exact h29) ?_
        obtain ⟨u31, μ32, c33, m34, c35, m36, e37, hf, h38, h39⟩ := jcl_some hf
        refine wa_rcallV (st2 := []) X dX11_takeOff_82 lmX11_402 lMX11_takesText rfl (by rw [e25]; exact h1) (mX11_takesText e37) rfl rfl rfl (va_cats (Nat.le_of_ble_eq_true rfl)) (by decide) (by omega) (by omega) ?_
        refine wa_aload_n X 1 dX11_takeOff_85 rfl ?_
        obtain ⟨h40, hf⟩ := jckT hf
        obtain ⟨r41, μ42, c43, m44, c45, m46, e47, hf, h48, h49⟩ := jcl_some hf
        refine wa_rcallV (st2 := [.int r41]) X dX11_takeOff_86 lmX11_363 lMX11_reads rfl h40 (mX11_reads e47) rfl rfl rfl (va_cats (Nat.le_of_ble_eq_true rfl)) (by decide) (by omega) (by omega) ?_
        refine wa_istore_n (L2 := [(2, .int r41), (1, .int (jI μ3 q6 ((jI μ3 a 58)).toNatClampNeg)), (0, va_rf (some a))]) X dX11_takeOff_89 (by decide) (by first | rfl | (show (2, _) :: List.filter (fun q : Nat × Value => !(q.1 == 2) && !(q.1 + 1 == 2 && q.2.category == 2)) _ = _; simp [va_rf_cat, cat_i, cat_l])) ?_
        refine wa_aload_n X 2 dX11_takeOff_90 rfl ?_
        refine wa_iload_n X 1 dX11_takeOff_91 rfl ?_
        obtain ⟨h50, hf⟩ := jckT hf
        obtain ⟨u51, μ52, c53, m54, c55, m56, e57, hf, h58, h59⟩ := jcl_some hf
        refine wa_rcallV (st2 := []) X dX11_takeOff_92 lmX11_360 lMX11_becomes rfl h50 (mX11_becomes e57) rfl rfl rfl (va_cats (Nat.le_of_ble_eq_true rfl)) (by decide) (by omega) (by omega) ?_
        refine wa_iconst (v := (1 : Int32)) X dX11_takeOff_95 (by decide) ?_
        obtain ⟨rfl, rfl, rfl, rfl⟩ := jret hf
        exact wa_iret X dX11_takeOff_96 rfl (by omega) (by omega)
      · rw [if_neg h30] at hf
        refine wa_iconst (v := (1 : Int32)) X dX11_takeOff_73 (by decide) ?_
        obtain ⟨rfl, rfl, rfl, rfl⟩ := jret hf
        exact wa_iret X dX11_takeOff_74 rfl (by omega) (by omega)
    · rw [if_neg h18] at hf
      refine wa_iconst (v := (0 : Int32)) X dX11_takeOff_47 (by decide) ?_
      obtain ⟨rfl, rfl, rfl, rfl⟩ := jret hf
      exact wa_iret X dX11_takeOff_48 rfl (by omega) (by omega)
  · rw [if_pos h2] at hf
    refine wa_iconst (v := (0 : Int32)) X dX11_takeOff_7 (by decide) ?_
    obtain ⟨rfl, rfl, rfl, rfl⟩ := jret hf
    exact wa_iret X dX11_takeOff_8 rfl (by omega) (by omega)
theorem dX11_isIn_0 : decode cX11_isIn 0 = .ok (.aload_n 0, 1) := by decide +kernel
theorem dX11_isIn_1 : decode cX11_isIn 1 = .ok (.getfield 46, 3) := by decide +kernel
theorem dX11_isIn_4 : decode cX11_isIn 4 = .ok (.iload_n 1, 1) := by decide +kernel
theorem dX11_isIn_5 : decode cX11_isIn 5 = .ok (.bipush 64, 2) := by decide +kernel
theorem dX11_isIn_7 : decode cX11_isIn 7 = .ok (.idiv, 1) := by decide +kernel
theorem dX11_isIn_8 : decode cX11_isIn 8 = .ok (.laload, 1) := by decide +kernel
theorem dX11_isIn_9 : decode cX11_isIn 9 = .ok (.iload_n 1, 1) := by decide +kernel
theorem dX11_isIn_10 : decode cX11_isIn 10 = .ok (.bipush 64, 2) := by decide +kernel
theorem dX11_isIn_12 : decode cX11_isIn 12 = .ok (.irem, 1) := by decide +kernel
theorem dX11_isIn_13 : decode cX11_isIn 13 = .ok (.lushr, 1) := by decide +kernel
theorem dX11_isIn_14 : decode cX11_isIn 14 = .ok (.lconst 1, 1) := by decide +kernel
theorem dX11_isIn_15 : decode cX11_isIn 15 = .ok (.land, 1) := by decide +kernel
theorem dX11_isIn_16 : decode cX11_isIn 16 = .ok (.lconst 1, 1) := by decide +kernel
theorem dX11_isIn_17 : decode cX11_isIn 17 = .ok (.lcmp, 1) := by decide +kernel
theorem dX11_isIn_18 : decode cX11_isIn 18 = .ok (.ifCond .ne 7, 3) := by decide +kernel
theorem dX11_isIn_21 : decode cX11_isIn 21 = .ok (.iconst 1, 1) := by decide +kernel
theorem dX11_isIn_22 : decode cX11_isIn 22 = .ok (.goto 4, 3) := by decide +kernel
theorem dX11_isIn_25 : decode cX11_isIn 25 = .ok (.iconst 0, 1) := by decide +kernel
theorem dX11_isIn_26 : decode cX11_isIn 26 = .ok (.ireturn, 1) := by decide +kernel
def fX11_isIn (a : Nat) (x1 : Int32) (μ : JM) : JO (Int32) := jck ((jT μ a).1 == 12) <| jde (jP μ a 23) fun q2 => jck ((jT μ q2).1 == 102) <| jck (jin (x1 / (64 : Int32)) (jT μ q2).2) <| if (lg_cmp ((jlushr (jJ μ q2 ((x1 / (64 : Int32))).toNatClampNeg) (jrem x1 (64 : Int32))) &&& (1 : Int64)) (1 : Int64)) = 0 then (some ((1 : Int32), μ, 0, 0)) else (some ((0 : Int32), μ, 0, 0))
set_option maxHeartbeats 4000000 in
set_option maxRecDepth 100000 in
theorem mX11_isIn {b : Nat} {a : Nat} {x1 : Int32} {μ : JM} {r : Int32} {ν : JM} {c m : Nat} (hf : fX11_isIn a x1 μ = some (r, ν, c, m)) : JMet b yX11_isIn cX11_isIn 2 (some .boolean) 0 0 [va_rf (some a), .int x1] μ (some (.int r)) ν c m := by
  refine JMet.of (by decide) (lg_sl_le (by simp only [List.map_cons, List.map_nil, List.sum_cons, List.sum_nil, va_rf_cat]; exact Nat.le_of_ble_eq_true rfl)) (fun Θ X hin => ?_)
  refine wa_eq (L2 := [(0, va_rf (some a)), (1, .int x1)]) ?_ rfl (by first | rfl | simp [lv_args, va_rf_cat, cat_i, cat_l]) rfl
  obtain ⟨k, hk0⟩ : ∃ k : Nat, k = 0 := ⟨0, rfl⟩
  obtain ⟨n, hn0⟩ : ∃ n : Nat, n = 0 := ⟨0, rfl⟩
  have hk : k + c = c := by omega
  have hn : n + m = m := by omega
  refine wa_costs hk0.symm hn0.symm ?_
  rw [fX11_isIn] at hf
  refine wa_aload_n X 0 dX11_isIn_0 rfl ?_
  obtain ⟨h1, hf⟩ := jckT hf
  refine wa_getP X dX11_isIn_1 lfX11_46 rfl h1 rfl ?_
  refine wa_iload_n X 1 dX11_isIn_4 rfl ?_
  refine wa_bipush (v := (64 : Int32)) X dX11_isIn_5 (by decide) ?_
  refine wa_idiv X dX11_isIn_7 (by decide) ?_
  obtain ⟨q2, h3, hf⟩ := jde_some hf
  obtain ⟨h4, hf⟩ := jckT hf
  obtain ⟨h5, hf⟩ := jck_some hf
  refine wa_rlald X dX11_isIn_8 h3 h4 h5 ?_
  refine wa_iload_n X 1 dX11_isIn_9 rfl ?_
  refine wa_bipush (v := (64 : Int32)) X dX11_isIn_10 (by decide) ?_
  refine wa_irem X dX11_isIn_12 (by decide) ?_
  refine wa_lushr X dX11_isIn_13 ?_
  refine wa_lconst (v := (1 : Int64)) X dX11_isIn_14 (by decide) ?_
  refine wa_land X dX11_isIn_15 ?_
  refine wa_lconst (v := (1 : Int64)) X dX11_isIn_16 (by decide) ?_
  refine wa_lcmp X dX11_isIn_17 ?_
  refine wa_ifne (tgt := 25) X dX11_isIn_18 (by decide) (fun h6 => ?_) (fun h6 => ?_)
  · rw [if_neg h6] at hf
    refine wa_iconst (v := (0 : Int32)) X dX11_isIn_25 (by decide) ?_
    obtain ⟨rfl, rfl, rfl, rfl⟩ := jret hf
    exact wa_iret X dX11_isIn_26 rfl (by omega) (by omega)
  · rw [if_pos h6] at hf
    refine wa_iconst (v := (1 : Int32)) X dX11_isIn_21 (by decide) ?_
    refine wa_goto (tgt := 26) X dX11_isIn_22 (by decide) ?_
    obtain ⟨rfl, rfl, rfl, rfl⟩ := jret hf
    exact wa_iret X dX11_isIn_26 rfl (by omega) (by omega)
