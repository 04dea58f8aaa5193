/-! the words, by their places -/
theorem jw_s0 {w : Cond} (i : Nat) (h1 : (k2_sels lw_privs)[i]? = some w) (g : goodWord w = true) : w ∈ jw := List.mem_filter.mpr ⟨(by have h := List.mem_of_getElem? h1; exact List.mem_append_left _ h), g⟩
theorem jw_s1 {w : Cond} (i : Nat) (h1 : tables_1_1[i]? = some w) (g : goodWord w = true) : w ∈ jw := List.mem_filter.mpr ⟨(by have h := List.mem_of_getElem? h1; exact List.mem_append_right _ (List.mem_append_left _ h)), g⟩
theorem jw_s2 {w : Cond} (i : Nat) (h1 : tables_1_2[i]? = some w) (g : goodWord w = true) : w ∈ jw := List.mem_filter.mpr ⟨(by have h := List.mem_of_getElem? h1; exact List.mem_append_right _ (List.mem_append_right _ (List.mem_append_left _ h))), g⟩
theorem jw_s3 {w : Cond} (i : Nat) (h1 : tables_1_3[i]? = some w) (g : goodWord w = true) : w ∈ jw := List.mem_filter.mpr ⟨(by have h := List.mem_of_getElem? h1; exact List.mem_append_right _ (List.mem_append_right _ (List.mem_append_right _ (List.mem_append_left _ h)))), g⟩
theorem jw_s4 {w : Cond} (i : Nat) (h1 : tables_1_4[i]? = some w) (g : goodWord w = true) : w ∈ jw := List.mem_filter.mpr ⟨(by have h := List.mem_of_getElem? h1; exact List.mem_append_right _ (List.mem_append_right _ (List.mem_append_right _ (List.mem_append_right _ (List.mem_append_left _ h))))), g⟩
theorem jw_s5 {w : Cond} (i : Nat) (h1 : tables_1_5[i]? = some w) (g : goodWord w = true) : w ∈ jw := List.mem_filter.mpr ⟨(by have h := List.mem_of_getElem? h1; exact List.mem_append_right _ (List.mem_append_right _ (List.mem_append_right _ (List.mem_append_right _ (List.mem_append_right _ (List.mem_append_left _ h)))))), g⟩
theorem jw_s6 {w : Cond} (i : Nat) (h1 : tables_1_6[i]? = some w) (g : goodWord w = true) : w ∈ jw := List.mem_filter.mpr ⟨(by have h := List.mem_of_getElem? h1; exact List.mem_append_right _ (List.mem_append_right _ (List.mem_append_right _ (List.mem_append_right _ (List.mem_append_right _ (List.mem_append_right _ (List.mem_append_left _ h))))))), g⟩
theorem jw_s7 {w : Cond} (i : Nat) (h1 : tables_1_7[i]? = some w) (g : goodWord w = true) : w ∈ jw := List.mem_filter.mpr ⟨(by have h := List.mem_of_getElem? h1; exact List.mem_append_right _ (List.mem_append_right _ (List.mem_append_right _ (List.mem_append_right _ (List.mem_append_right _ (List.mem_append_right _ (List.mem_append_right _ (h)))))))), g⟩
def jkd (μ : JM) (r : Option Nat) (t : Nat) : Bool := match r with
  | none => true
  | some z => (jT μ z).1 == t
theorem jkd_is {μ : JM} {r : Option Nat} {t z : Nat} (h : jkd μ r t = true) (hz : r = some z) : (jT μ z).1 = t := by
  subst hz
  exact eq_of_beq h
set_option maxRecDepth 100000 in
theorem lmX0_3 : Cond.methodLink RX0 3 Lib.objectInit ∈ jw := jw_s2 4 rfl rfl
set_option maxRecDepth 100000 in
theorem lo_inst : Cond.instanceMethod Lib.objectInit ∈ jw := jw_s1 28 rfl rfl
set_option maxRecDepth 100000 in
theorem lo_code : Cond.code Lib.objectInit ⟨#[0xb1]⟩ 1 none ∈ jw := jw_s1 29 rfl rfl
set_option maxRecDepth 100000 in
theorem la_102 : Cond.arrayClass (jaty 102) ∈ jw := jw_s1 48 rfl rfl
set_option maxRecDepth 100000 in
theorem lfX0_11 : jF RX0 11 1 0 := ⟨by decide, by decide, jw_s2 5 rfl rfl⟩
set_option maxRecDepth 100000 in
theorem lmX0_15 : Cond.methodLink RX0 15 yX0_isDay ∈ jw := jw_s5 2 rfl rfl
set_option maxRecDepth 100000 in
theorem lmX0_19 : Cond.methodLink RX0 19 yX0_isFree ∈ jw := jw_s5 5 rfl rfl
set_option maxRecDepth 100000 in
theorem lfX0_22 : jF RX0 22 1 1 := ⟨by decide, by decide, jw_s2 6 rfl rfl⟩
set_option maxRecDepth 100000 in
theorem lmX1_3 : Cond.methodLink RX1 3 Lib.objectInit ∈ jw := jw_s1 179 rfl rfl
set_option maxRecDepth 100000 in
theorem lfX1_11 : jF RX1 11 2 0 := ⟨by decide, by decide, jw_s1 180 rfl rfl⟩
set_option maxRecDepth 100000 in
theorem lkX1_15 : Cond.constantLong RX1 15 (-1) ∈ jw := jw_s2 181 rfl rfl
set_option maxRecDepth 100000 in
theorem lfX1_17 : Cond.fieldLink RX1 17 RX1 "FACT_BITS" "[J" ∈ jw := jw_s3 91 rfl rfl
set_option maxRecDepth 100000 in
theorem lkJ6_264 : Cond.constant RJ6 264 (65536) ∈ jw := jw_s4 200 rfl rfl
set_option maxRecDepth 100000 in
theorem lmJ13_311 : Cond.methodLink RJ13 311 yJ6_numberOfTrailingZeros_0f7a4 ∈ jw := jw_s4 197 rfl rfl
set_option maxRecDepth 100000 in
theorem lmX1_20 : Cond.methodLink RX1 20 yJ13_numberOfTrailingZeros_95d88 ∈ jw := jw_s4 194 rfl rfl
set_option maxRecDepth 100000 in
theorem lkJ13_314 : Cond.constantLong RJ13 314 (6148914691236517205) ∈ jw := jw_s4 79 rfl rfl
set_option maxRecDepth 100000 in
theorem lkJ13_316 : Cond.constantLong RJ13 316 (3689348814741910323) ∈ jw := jw_s4 80 rfl rfl
set_option maxRecDepth 100000 in
theorem lkJ13_318 : Cond.constantLong RJ13 318 (1085102592571150095) ∈ jw := jw_s4 81 rfl rfl
set_option maxRecDepth 100000 in
theorem lmX1_26 : Cond.methodLink RX1 26 yJ13_bitCount_95d88 ∈ jw := jw_s4 76 rfl rfl
set_option maxRecDepth 100000 in
theorem lmX2_3 : Cond.methodLink RX2 3 Lib.objectInit ∈ jw := jw_s2 221 rfl rfl
set_option maxRecDepth 100000 in
theorem lfX2_9 : jF RX2 9 3 0 := ⟨by decide, by decide, jw_s2 224 rfl rfl⟩
set_option maxRecDepth 100000 in
theorem lfX2_15 : jF RX2 15 3 2 := ⟨by decide, by decide, jw_s2 231 rfl rfl⟩
set_option maxRecDepth 100000 in
theorem lfX2_18 : jF RX2 18 3 3 := ⟨by decide, by decide, jw_s2 235 rfl rfl⟩
set_option maxRecDepth 100000 in
theorem lfX2_21 : jF RX2 21 3 4 := ⟨by decide, by decide, jw_s2 239 rfl rfl⟩
set_option maxRecDepth 100000 in
theorem lfX2_24 : jF RX2 24 3 5 := ⟨by decide, by decide, jw_s3 2 rfl rfl⟩
set_option maxRecDepth 100000 in
theorem lcX2_27 : Cond.classLink RX2 27 RX1 ∈ jw := jw_s2 222 rfl rfl
set_option maxRecDepth 100000 in
theorem li_RX1 : Cond.instantiable RX1 1 ∈ jw := jw_s1 175 rfl rfl
set_option maxRecDepth 100000 in
theorem ln_RX1 : Cond.initialized RX1 ∈ jw := jw_s1 12 rfl rfl
set_option maxRecDepth 100000 in
theorem lmX2_29 : Cond.methodLink RX2 29 yX1_init ∈ jw := jw_s2 223 rfl rfl
set_option maxRecDepth 100000 in
theorem lfX2_30 : jF RX2 30 3 8 := ⟨by decide, by decide, jw_s3 10 rfl rfl⟩
set_option maxRecDepth 100000 in
theorem lmX3_3 : Cond.methodLink RX3 3 Lib.objectInit ∈ jw := jw_s1 172 rfl rfl
set_option maxRecDepth 100000 in
theorem lfX3_9 : jF RX3 9 4 0 := ⟨by decide, by decide, jw_s1 184 rfl rfl⟩
set_option maxRecDepth 100000 in
theorem lfX3_15 : jF RX3 15 4 1 := ⟨by decide, by decide, jw_s1 185 rfl rfl⟩
set_option maxRecDepth 100000 in
theorem lcX3_19 : Cond.classLink RX3 19 RX1 ∈ jw := jw_s1 173 rfl rfl
set_option maxRecDepth 100000 in
theorem lfX3_21 : jF RX3 21 4 2 := ⟨by decide, by decide, jw_s1 186 rfl rfl⟩
set_option maxRecDepth 100000 in
theorem lfX3_25 : jF RX3 25 4 3 := ⟨by decide, by decide, jw_s1 187 rfl rfl⟩
set_option maxRecDepth 100000 in
theorem la_103 : Cond.arrayClass (jaty 103) ∈ jw := jw_s1 210 rfl rfl
set_option maxRecDepth 100000 in
theorem lfX3_29 : jF RX3 29 4 4 := ⟨by decide, by decide, jw_s1 188 rfl rfl⟩
set_option maxRecDepth 100000 in
theorem lmX3_28 : Cond.methodLink RX3 28 yX1_init ∈ jw := jw_s1 176 rfl rfl
set_option maxRecDepth 100000 in
theorem lfX3_33 : jF RX3 33 4 7 := ⟨by decide, by decide, jw_s1 191 rfl rfl⟩
set_option maxRecDepth 100000 in
theorem lfX7_27 : jF RX7 27 8 4 := ⟨by decide, by decide, jw_s1 142 rfl rfl⟩
set_option maxRecDepth 100000 in
theorem lfX7_23 : jF RX7 23 8 3 := ⟨by decide, by decide, jw_s1 141 rfl rfl⟩
set_option maxRecDepth 100000 in
theorem lfX7_15 : jF RX7 15 8 1 := ⟨by decide, by decide, jw_s1 139 rfl rfl⟩
set_option maxRecDepth 100000 in
theorem lfX7_30 : jF RX7 30 8 5 := ⟨by decide, by decide, jw_s1 144 rfl rfl⟩
set_option maxRecDepth 100000 in
theorem lkX7_68 : Cond.constantLong RX7 68 (-2000) ∈ jw := jw_s2 116 rfl rfl
set_option maxRecDepth 100000 in
theorem lfX7_19 : jF RX7 19 8 2 := ⟨by decide, by decide, jw_s1 140 rfl rfl⟩
set_option maxRecDepth 100000 in
theorem lmX3_81 : Cond.methodLink RX3 81 yX7_fail ∈ jw := jw_s3 74 rfl rfl
set_option maxRecDepth 100000 in
theorem lmX3_61 : Cond.methodLink RX3 61 yX7_token ∈ jw := jw_s3 71 rfl rfl
set_option maxRecDepth 100000 in
theorem lkX3_85 : Cond.constantLong RX3 85 (-3014) ∈ jw := jw_s3 72 rfl rfl
set_option maxRecDepth 100000 in
theorem lkX3_87 : Cond.constantLong RX3 87 (-41) ∈ jw := jw_s3 73 rfl rfl
set_option maxRecDepth 100000 in
theorem lfX3_37 : jF RX3 37 4 5 := ⟨by decide, by decide, jw_s1 189 rfl rfl⟩
set_option maxRecDepth 100000 in
theorem lmX3_44 : Cond.methodLink RX3 44 yX1_clear ∈ jw := jw_s3 59 rfl rfl
set_option maxRecDepth 100000 in
theorem lmX3_47 : Cond.methodLink RX3 47 yX1_fill ∈ jw := jw_s3 63 rfl rfl
set_option maxRecDepth 100000 in
theorem lmX3_78 : Cond.methodLink RX3 78 yX7_step ∈ jw := jw_s3 75 rfl rfl
set_option maxRecDepth 100000 in
theorem lfX9_21 : jF RX9 21 10 1 := ⟨by decide, by decide, jw_s1 40 rfl rfl⟩
set_option maxRecDepth 100000 in
theorem lfX9_15 : jF RX9 15 10 0 := ⟨by decide, by decide, jw_s1 39 rfl rfl⟩
set_option maxRecDepth 100000 in
theorem lfX8_27 : jF RX8 27 9 2 := ⟨by decide, by decide, jw_s2 202 rfl rfl⟩
set_option maxRecDepth 100000 in
theorem lfX8_17 : jF RX8 17 9 0 := ⟨by decide, by decide, jw_s2 199 rfl rfl⟩
set_option maxRecDepth 100000 in
theorem lfX8_34 : jF RX8 34 3 1 := ⟨by decide, by decide, jw_s2 229 rfl rfl⟩
set_option maxRecDepth 100000 in
theorem lfX8_38 : jF RX8 38 3 0 := ⟨by decide, by decide, jw_s2 225 rfl rfl⟩
set_option maxRecDepth 100000 in
theorem lNX3_89 : Cond.methodLinkNest RX3 89 yX10_isFreeWord "ClauseBench" ∈ jNest := List.mem_filter.mpr ⟨List.mem_of_getElem? (i := 638) (by decide +kernel), rfl⟩
set_option maxRecDepth 100000 in
theorem lmX3_93 : Cond.methodLink RX3 93 yX9_find ∈ jw := jw_s3 81 rfl rfl
set_option maxRecDepth 100000 in
theorem lmX3_99 : Cond.methodLink RX3 99 yX8_find ∈ jw := jw_s3 82 rfl rfl
set_option maxRecDepth 100000 in
theorem lmX3_104 : Cond.methodLink RX3 104 yX8_at ∈ jw := jw_s3 83 rfl rfl
set_option maxRecDepth 100000 in
theorem lfX3_41 : jF RX3 41 4 6 := ⟨by decide, by decide, jw_s1 190 rfl rfl⟩
set_option maxRecDepth 100000 in
theorem lfX3_112 : jF RX3 112 3 8 := ⟨by decide, by decide, jw_s3 11 rfl rfl⟩
set_option maxRecDepth 100000 in
theorem lmX3_117 : Cond.methodLink RX3 117 yX1_copy ∈ jw := jw_s3 93 rfl rfl
set_option maxRecDepth 100000 in
theorem lmX3_108 : Cond.methodLink RX3 108 yX1_setFact ∈ jw := jw_s3 87 rfl rfl
set_option maxRecDepth 100000 in
theorem lmX3_123 : Cond.methodLink RX3 123 yX1_and ∈ jw := jw_s3 105 rfl rfl
set_option maxRecDepth 100000 in
theorem lkX3_126 : Cond.constantLong RX3 126 (-42) ∈ jw := jw_s3 109 rfl rfl
set_option maxRecDepth 100000 in
theorem lmX3_74 : Cond.methodLink RX3 74 yX1_or ∈ jw := jw_s3 110 rfl rfl
set_option maxRecDepth 100000 in
theorem lmX3_120 : Cond.methodLink RX3 120 yX1_flip ∈ jw := jw_s3 101 rfl rfl
set_option maxRecDepth 100000 in
theorem lmX3_50 : Cond.methodLink RX3 50 yX3_readOpenings ∈ jw := jw_s3 67 rfl rfl
set_option maxRecDepth 100000 in
theorem lmX3_54 : Cond.methodLink RX3 54 yX3_readOperand ∈ jw := jw_s3 76 rfl rfl
set_option maxRecDepth 100000 in
theorem lmX3_58 : Cond.methodLink RX3 58 yX3_closeLevels ∈ jw := jw_s3 97 rfl rfl
set_option maxRecDepth 100000 in
theorem lkX3_67 : Cond.constantLong RX3 67 (-3012) ∈ jw := jw_s3 114 rfl rfl
set_option maxRecDepth 100000 in
theorem lkX3_69 : Cond.constantLong RX3 69 (-3013) ∈ jw := jw_s3 115 rfl rfl
set_option maxRecDepth 100000 in
theorem lmX3_71 : Cond.methodLink RX3 71 yX3_finish ∈ jw := jw_s3 116 rfl rfl
set_option maxRecDepth 100000 in
theorem lmX4_3 : Cond.methodLink RX4 3 Lib.objectInit ∈ jw := jw_s1 166 rfl rfl
set_option maxRecDepth 100000 in
theorem lfX4_9 : jF RX4 9 5 0 := ⟨by decide, by decide, jw_s1 211 rfl rfl⟩
set_option maxRecDepth 100000 in
theorem lfX4_15 : jF RX4 15 5 1 := ⟨by decide, by decide, jw_s1 212 rfl rfl⟩
set_option maxRecDepth 100000 in
theorem lfX4_19 : jF RX4 19 5 2 := ⟨by decide, by decide, jw_s1 213 rfl rfl⟩
set_option maxRecDepth 100000 in
theorem lfX4_22 : jF RX4 22 5 3 := ⟨by decide, by decide, jw_s1 214 rfl rfl⟩
set_option maxRecDepth 100000 in
theorem lcX4_25 : Cond.classLink RX4 25 RX3 ∈ jw := jw_s1 167 rfl rfl
set_option maxRecDepth 100000 in
theorem li_RX3 : Cond.instantiable RX3 8 ∈ jw := jw_s1 168 rfl rfl
set_option maxRecDepth 100000 in
theorem ln_RX3 : Cond.initialized RX3 ∈ jw := jw_s1 11 rfl rfl
set_option maxRecDepth 100000 in
theorem lmX4_27 : Cond.methodLink RX4 27 yX3_init ∈ jw := jw_s1 169 rfl rfl
set_option maxRecDepth 100000 in
theorem lfX4_30 : jF RX4 30 5 4 := ⟨by decide, by decide, jw_s1 215 rfl rfl⟩
set_option maxRecDepth 100000 in
theorem lkX10_318 : Cond.constantLong RX10 318 (-3000) ∈ jw := jw_s2 154 rfl rfl
set_option maxRecDepth 100000 in
theorem lmX4_34 : Cond.methodLink RX4 34 yX7_token ∈ jw := jw_s2 143 rfl rfl
set_option maxRecDepth 100000 in
theorem lNX4_50 : Cond.methodLinkNest RX4 50 yX10_isOurs "ClauseBench" ∈ jNest := List.mem_filter.mpr ⟨List.mem_of_getElem? (i := 469) (by decide +kernel), rfl⟩
set_option maxRecDepth 100000 in
theorem lNX4_58 : Cond.methodLinkNest RX4 58 yX10_isFreeWord "ClauseBench" ∈ jNest := List.mem_filter.mpr ⟨List.mem_of_getElem? (i := 477) (by decide +kernel), rfl⟩
set_option maxRecDepth 100000 in
theorem lmX4_61 : Cond.methodLink RX4 61 yX9_find ∈ jw := jw_s2 162 rfl rfl
set_option maxRecDepth 100000 in
theorem lmX4_65 : Cond.methodLink RX4 65 yX9_add ∈ jw := jw_s2 163 rfl rfl
set_option maxRecDepth 100000 in
theorem lmX4_68 : Cond.methodLink RX4 68 yX7_step ∈ jw := jw_s2 164 rfl rfl
set_option maxRecDepth 100000 in
theorem lmX4_54 : Cond.methodLink RX4 54 yX7_fail ∈ jw := jw_s2 155 rfl rfl
set_option maxRecDepth 100000 in
theorem lmX9_9 : Cond.methodLink RX9 9 Lib.Math.max.name ∈ jw := jw_s1 36 rfl rfl
set_option maxRecDepth 100000 in
theorem l9_smax : Cond.static Lib.Math.max.name ∈ jw := jw_s1 37 rfl rfl
set_option maxRecDepth 100000 in
theorem l9_cmax : Cond.code Lib.Math.max.name Lib.Math.max.code 2 (some .int) ∈ jw := jw_s1 38 rfl rfl
set_option maxRecDepth 100000 in
theorem ln_RJ9 : Cond.initialized "java/lang/Math" ∈ jw := jw_s1 3 rfl rfl
set_option maxRecDepth 100000 in
theorem lmX9_43 : Cond.methodLink RX9 43 Lib.Math.min.name ∈ jw := jw_s2 172 rfl rfl
set_option maxRecDepth 100000 in
theorem l9_smin : Cond.static Lib.Math.min.name ∈ jw := jw_s2 94 rfl rfl
set_option maxRecDepth 100000 in
theorem l9_cmin : Cond.code Lib.Math.min.name Lib.Math.min.code 2 (some .int) ∈ jw := jw_s2 95 rfl rfl
set_option maxRecDepth 100000 in
theorem lmX4_40 : Cond.methodLink RX4 40 yX4_readFact ∈ jw := jw_s2 147 rfl rfl
set_option maxRecDepth 100000 in
theorem lmX4_44 : Cond.methodLink RX4 44 yX9_cut ∈ jw := jw_s2 168 rfl rfl
set_option maxRecDepth 100000 in
theorem lmX7_90 : Cond.methodLink RX7 90 yX7_token ∈ jw := jw_s3 52 rfl rfl
set_option maxRecDepth 100000 in
theorem lmX7_97 : Cond.methodLink RX7 97 yX7_step ∈ jw := jw_s3 54 rfl rfl
set_option maxRecDepth 100000 in
theorem lmX7_94 : Cond.methodLink RX7 94 yX7_fail ∈ jw := jw_s3 53 rfl rfl
set_option maxRecDepth 100000 in
theorem lmX4_80 : Cond.methodLink RX4 80 yX3_read ∈ jw := jw_s3 55 rfl rfl
set_option maxRecDepth 100000 in
theorem lmX4_84 : Cond.methodLink RX4 84 yX7_take ∈ jw := jw_s3 48 rfl rfl
set_option maxRecDepth 100000 in
theorem lfX4_71 : jF RX4 71 4 7 := ⟨by decide, by decide, jw_s1 192 rfl rfl⟩
set_option maxRecDepth 100000 in
theorem lmX4_75 : Cond.methodLink RX4 75 yX1_fill ∈ jw := jw_s3 154 rfl rfl
set_option maxRecDepth 100000 in
theorem lmX8_3 : Cond.methodLink RX8 3 Lib.objectInit ∈ jw := jw_s2 195 rfl rfl
set_option maxRecDepth 100000 in
theorem lmX8_9 : Cond.methodLink RX8 9 Lib.Math.max.name ∈ jw := jw_s2 196 rfl rfl
set_option maxRecDepth 100000 in
theorem lcX8_15 : Cond.classLink RX8 15 RX2 ∈ jw := jw_s2 197 rfl rfl
set_option maxRecDepth 100000 in
theorem lfX8_23 : jF RX8 23 9 1 := ⟨by decide, by decide, jw_s2 200 rfl rfl⟩
set_option maxRecDepth 100000 in
theorem lfX4_144 : jF RX4 144 5 6 := ⟨by decide, by decide, jw_s1 217 rfl rfl⟩
set_option maxRecDepth 100000 in
theorem lmX4_137 : Cond.methodLink RX4 137 yX8_find ∈ jw := jw_s3 43 rfl rfl
set_option maxRecDepth 100000 in
theorem lfX4_148 : jF RX4 148 5 5 := ⟨by decide, by decide, jw_s1 216 rfl rfl⟩
set_option maxRecDepth 100000 in
theorem lfX4_179 : jF RX4 179 9 2 := ⟨by decide, by decide, jw_s2 204 rfl rfl⟩
set_option maxRecDepth 100000 in
theorem lfX4_128 : jF RX4 128 3 1 := ⟨by decide, by decide, jw_s2 228 rfl rfl⟩
set_option maxRecDepth 100000 in
theorem lmX4_161 : Cond.methodLink RX4 161 yX4_readName ∈ jw := jw_s3 39 rfl rfl
set_option maxRecDepth 100000 in
theorem lkX4_180 : Cond.constantLong RX4 180 (-3001) ∈ jw := jw_s3 47 rfl rfl
set_option maxRecDepth 100000 in
theorem lfX4_182 : jF RX4 182 3 8 := ⟨by decide, by decide, jw_s3 13 rfl rfl⟩
set_option maxRecDepth 100000 in
theorem lmX4_185 : Cond.methodLink RX4 185 yX1_copy ∈ jw := jw_s3 120 rfl rfl
set_option maxRecDepth 100000 in
theorem lkX4_212 : Cond.constantLong RX4 212 (-3002) ∈ jw := jw_s3 129 rfl rfl
set_option maxRecDepth 100000 in
theorem lkX4_214 : Cond.constantLong RX4 214 (-3003) ∈ jw := jw_s3 130 rfl rfl
set_option maxRecDepth 100000 in
theorem lkX4_216 : Cond.constantLong RX4 216 (-3004) ∈ jw := jw_s3 131 rfl rfl
set_option maxRecDepth 100000 in
theorem lkX10_314 : Cond.constantLong RX10 314 (-1000) ∈ jw := jw_s3 145 rfl rfl
set_option maxRecDepth 100000 in
theorem lkX10_316 : Cond.constantLong RX10 316 (-2000) ∈ jw := jw_s3 146 rfl rfl
set_option maxRecDepth 100000 in
theorem lkX4_218 : Cond.constantLong RX4 218 (-3006) ∈ jw := jw_s3 141 rfl rfl
set_option maxRecDepth 100000 in
theorem lNX4_220 : Cond.methodLinkNest RX4 220 yX10_isNumber "ClauseBench" ∈ jNest := List.mem_filter.mpr ⟨List.mem_of_getElem? (i := 700) (by decide +kernel), rfl⟩
set_option maxRecDepth 100000 in
theorem lkX4_223 : Cond.constantLong RX4 223 (-1000) ∈ jw := jw_s3 147 rfl rfl
set_option maxRecDepth 100000 in
theorem lfX4_225 : jF RX4 225 3 4 := ⟨by decide, by decide, jw_s3 1 rfl rfl⟩
set_option maxRecDepth 100000 in
theorem lkX4_228 : Cond.constantLong RX4 228 (-3008) ∈ jw := jw_s3 148 rfl rfl
set_option maxRecDepth 100000 in
theorem lfX4_230 : jF RX4 230 3 5 := ⟨by decide, by decide, jw_s3 4 rfl rfl⟩
set_option maxRecDepth 100000 in
theorem lkX4_233 : Cond.constantLong RX4 233 (-3007) ∈ jw := jw_s3 149 rfl rfl
set_option maxRecDepth 100000 in
theorem lkX4_189 : Cond.constantLong RX4 189 (-59) ∈ jw := jw_s3 125 rfl rfl
set_option maxRecDepth 100000 in
theorem lmX4_191 : Cond.methodLink RX4 191 yX4_kindOf ∈ jw := jw_s3 126 rfl rfl
set_option maxRecDepth 100000 in
theorem lfX4_194 : jF RX4 194 3 0 := ⟨by decide, by decide, jw_s2 226 rfl rfl⟩
set_option maxRecDepth 100000 in
theorem lmX4_197 : Cond.methodLink RX4 197 yX4_readNumbered ∈ jw := jw_s3 132 rfl rfl
set_option maxRecDepth 100000 in
theorem lfX4_201 : jF RX4 201 3 2 := ⟨by decide, by decide, jw_s2 232 rfl rfl⟩
set_option maxRecDepth 100000 in
theorem lfX4_103 : jF RX4 103 8 5 := ⟨by decide, by decide, jw_s1 146 rfl rfl⟩
set_option maxRecDepth 100000 in
theorem lkX4_204 : Cond.constantLong RX4 204 (-3005) ∈ jw := jw_s3 136 rfl rfl
set_option maxRecDepth 100000 in
theorem lfX4_206 : jF RX4 206 3 3 := ⟨by decide, by decide, jw_s2 237 rfl rfl⟩
set_option maxRecDepth 100000 in
theorem lmX4_209 : Cond.methodLink RX4 209 yX4_readTerm ∈ jw := jw_s3 137 rfl rfl
set_option maxRecDepth 100000 in
theorem lfX4_250 : jF RX4 250 3 6 := ⟨by decide, by decide, jw_s3 7 rfl rfl⟩
set_option maxRecDepth 100000 in
theorem lkX4_253 : Cond.constantLong RX4 253 (-3012) ∈ jw := jw_s3 167 rfl rfl
set_option maxRecDepth 100000 in
theorem lkX4_235 : Cond.constantLong RX4 235 (-3009) ∈ jw := jw_s3 155 rfl rfl
set_option maxRecDepth 100000 in
theorem lmX4_237 : Cond.methodLink RX4 237 yX1_and ∈ jw := jw_s3 156 rfl rfl
set_option maxRecDepth 100000 in
theorem lkX4_240 : Cond.constantLong RX4 240 (-3010) ∈ jw := jw_s3 157 rfl rfl
set_option maxRecDepth 100000 in
theorem lmX4_242 : Cond.methodLink RX4 242 yX1_andNot ∈ jw := jw_s3 158 rfl rfl
set_option maxRecDepth 100000 in
theorem lkX4_245 : Cond.constantLong RX4 245 (-3011) ∈ jw := jw_s3 162 rfl rfl
set_option maxRecDepth 100000 in
theorem lmX4_247 : Cond.methodLink RX4 247 yX4_readOver ∈ jw := jw_s3 163 rfl rfl
set_option maxRecDepth 100000 in
theorem lmJ7_343 : Cond.methodLink RJ7 343 yJ7_checkLength_df160 ∈ jw := jw_s3 178 rfl rfl
set_option maxRecDepth 100000 in
theorem lmJ7_304 : Cond.methodLink RJ7 304 Lib.Math.min.name ∈ jw := jw_s3 181 rfl rfl
set_option maxRecDepth 100000 in
theorem lmJ7_150 : Cond.methodLink RJ7 150 arraycopyName ∈ jw := jw_s3 182 rfl rfl
set_option maxRecDepth 100000 in
theorem l8_native : Cond.native arraycopyName ∈ jw := jw_s3 184 rfl rfl
set_option maxRecDepth 100000 in
theorem l8_static : Cond.static arraycopyName ∈ jw := jw_s3 183 rfl rfl
set_option maxRecDepth 100000 in
theorem l8_ini : Cond.initialized "java/lang/System" ∈ jw := jw_s1 18 rfl rfl
set_option maxRecDepth 100000 in
theorem lmJ7_355 : Cond.methodLink RJ7 355 yJ7_copyOfRangeLong_23910 ∈ jw := jw_s3 175 rfl rfl
set_option maxRecDepth 100000 in
theorem lmX7_36 : Cond.methodLink RX7 36 Lib.Math.min.name ∈ jw := jw_s2 93 rfl rfl
set_option maxRecDepth 100000 in
theorem lmX7_100 : Cond.methodLink RX7 100 yJ7_copyOfRange_23910 ∈ jw := jw_s3 172 rfl rfl
set_option maxRecDepth 100000 in
theorem lfX4_151 : jF RX4 151 8 4 := ⟨by decide, by decide, jw_s1 143 rfl rfl⟩
set_option maxRecDepth 100000 in
theorem lcX4_129 : Cond.classLink RX4 129 RX2 ∈ jw := jw_s2 216 rfl rfl
set_option maxRecDepth 100000 in
theorem li_RX2 : Cond.instantiable RX2 9 ∈ jw := jw_s2 217 rfl rfl
set_option maxRecDepth 100000 in
theorem ln_RX2 : Cond.initialized RX2 ∈ jw := jw_s1 16 rfl rfl
set_option maxRecDepth 100000 in
theorem lmX4_154 : Cond.methodLink RX4 154 yX2_init ∈ jw := jw_s2 218 rfl rfl
set_option maxRecDepth 100000 in
theorem lkX4_155 : Cond.constantLong RX4 155 (-3000) ∈ jw := jw_s3 34 rfl rfl
set_option maxRecDepth 100000 in
theorem lmX4_165 : Cond.methodLink RX4 165 yX4_readDeed ∈ jw := jw_s3 121 rfl rfl
set_option maxRecDepth 100000 in
theorem lmX4_168 : Cond.methodLink RX4 168 yX4_readTail ∈ jw := jw_s3 150 rfl rfl
set_option maxRecDepth 100000 in
theorem lmX4_157 : Cond.methodLink RX4 157 yX4_readDefine ∈ jw := jw_s3 35 rfl rfl
set_option maxRecDepth 100000 in
theorem lmX4_171 : Cond.methodLink RX4 171 yX7_readSince ∈ jw := jw_s3 168 rfl rfl
set_option maxRecDepth 100000 in
theorem lfX4_175 : jF RX4 175 3 7 := ⟨by decide, by decide, jw_s3 9 rfl rfl⟩
set_option maxRecDepth 100000 in
theorem lfX8_41 : jF RX8 41 3 6 := ⟨by decide, by decide, jw_s3 5 rfl rfl⟩
set_option maxRecDepth 100000 in
theorem lfX8_44 : jF RX8 44 3 8 := ⟨by decide, by decide, jw_s3 12 rfl rfl⟩
set_option maxRecDepth 100000 in
theorem lmX8_48 : Cond.methodLink RX8 48 yX1_andNot ∈ jw := jw_s3 201 rfl rfl
set_option maxRecDepth 100000 in
theorem lfX4_87 : jF RX4 87 10 1 := ⟨by decide, by decide, jw_s1 42 rfl rfl⟩
set_option maxRecDepth 100000 in
theorem lcX4_91 : Cond.classLink RX4 91 RX8 ∈ jw := jw_s2 190 rfl rfl
set_option maxRecDepth 100000 in
theorem li_RX8 : Cond.instantiable RX8 3 ∈ jw := jw_s2 191 rfl rfl
set_option maxRecDepth 100000 in
theorem ln_RX8 : Cond.initialized RX8 ∈ jw := jw_s1 15 rfl rfl
set_option maxRecDepth 100000 in
theorem lmX4_93 : Cond.methodLink RX4 93 yX8_init ∈ jw := jw_s2 192 rfl rfl
set_option maxRecDepth 100000 in
theorem lmX4_96 : Cond.methodLink RX4 96 yX4_readClause ∈ jw := jw_s2 212 rfl rfl
set_option maxRecDepth 100000 in
theorem lmX4_100 : Cond.methodLink RX4 100 yX8_add ∈ jw := jw_s3 192 rfl rfl
set_option maxRecDepth 100000 in
theorem lkX4_106 : Cond.constantLong RX4 106 (-60) ∈ jw := jw_s3 196 rfl rfl
set_option maxRecDepth 100000 in
theorem lmX4_108 : Cond.methodLink RX4 108 yX8_settle ∈ jw := jw_s3 197 rfl rfl
set_option maxRecDepth 100000 in
theorem lmX4_134 : Cond.methodLink RX4 134 yX2_isDefine ∈ jw := jw_s3 234 rfl rfl
set_option maxRecDepth 100000 in
theorem lmX4_140 : Cond.methodLink RX4 140 yX8_replace ∈ jw := jw_s3 238 rfl rfl
set_option maxRecDepth 100000 in
theorem lkX4_111 : Cond.constantLong RX4 111 (-3015) ∈ jw := jw_s3 220 rfl rfl
set_option maxRecDepth 100000 in
theorem lkX4_113 : Cond.constantLong RX4 113 (-3016) ∈ jw := jw_s3 221 rfl rfl
set_option maxRecDepth 100000 in
theorem lkX4_115 : Cond.constantLong RX4 115 (-3017) ∈ jw := jw_s3 222 rfl rfl
set_option maxRecDepth 100000 in
theorem lmX4_124 : Cond.methodLink RX4 124 yX4_replaceIn ∈ jw := jw_s3 231 rfl rfl
set_option maxRecDepth 100000 in
theorem lmX4_117 : Cond.methodLink RX4 117 yX4_readLabelIn ∈ jw := jw_s3 223 rfl rfl
set_option maxRecDepth 100000 in
theorem lmX4_121 : Cond.methodLink RX4 121 yX8_remove ∈ jw := jw_s3 227 rfl rfl
set_option maxRecDepth 100000 in
theorem lmX5_1 : Cond.methodLink RX5 1 Lib.objectInit ∈ jw := jw_s4 45 rfl rfl
set_option maxRecDepth 100000 in
theorem lfX5_7 : jF RX5 7 6 0 := ⟨by decide, by decide, jw_s4 46 rfl rfl⟩
set_option maxRecDepth 100000 in
theorem lfX5_13 : jF RX5 13 6 1 := ⟨by decide, by decide, jw_s4 48 rfl rfl⟩
set_option maxRecDepth 100000 in
theorem lfX5_17 : jF RX5 17 6 2 := ⟨by decide, by decide, jw_s4 50 rfl rfl⟩
set_option maxRecDepth 100000 in
theorem lmX6_3 : Cond.methodLink RX6 3 Lib.objectInit ∈ jw := jw_s1 114 rfl rfl
set_option maxRecDepth 100000 in
theorem lmX6_9 : Cond.methodLink RX6 9 Lib.Math.max.name ∈ jw := jw_s1 115 rfl rfl
set_option maxRecDepth 100000 in
theorem la_100 : Cond.arrayClass (jaty 100) ∈ jw := jw_s1 131 rfl rfl
set_option maxRecDepth 100000 in
theorem lfX6_15 : jF RX6 15 7 0 := ⟨by decide, by decide, jw_s1 116 rfl rfl⟩
set_option maxRecDepth 100000 in
theorem lfX6_21 : jF RX6 21 7 1 := ⟨by decide, by decide, jw_s1 117 rfl rfl⟩
set_option maxRecDepth 100000 in
theorem lfX6_25 : jF RX6 25 7 2 := ⟨by decide, by decide, jw_s1 118 rfl rfl⟩
set_option maxRecDepth 100000 in
theorem lmX6_29 : Cond.methodLink RX6 29 yX6_addByte ∈ jw := jw_s2 73 rfl rfl
set_option maxRecDepth 100000 in
theorem lmX9_46 : Cond.methodLink RX9 46 yX9_letterCount ∈ jw := jw_s4 26 rfl rfl
set_option maxRecDepth 100000 in
theorem lkX9_49 : Cond.constantLong RX9 49 (31) ∈ jw := jw_s4 27 rfl rfl
set_option maxRecDepth 100000 in
theorem lmX6_74 : Cond.methodLink RX6 74 yX9_letterCount ∈ jw := jw_s4 20 rfl rfl
set_option maxRecDepth 100000 in
theorem lmX6_78 : Cond.methodLink RX6 78 yX9_letterAt ∈ jw := jw_s4 23 rfl rfl
set_option maxRecDepth 100000 in
theorem lfX6_33 : jF RX6 33 7 3 := ⟨by decide, by decide, jw_s1 121 rfl rfl⟩
set_option maxRecDepth 100000 in
theorem lkX6_37 : Cond.constantLong RX6 37 (-41) ∈ jw := jw_s4 11 rfl rfl
set_option maxRecDepth 100000 in
theorem lkX6_39 : Cond.constantLong RX6 39 (-42) ∈ jw := jw_s4 12 rfl rfl
set_option maxRecDepth 100000 in
theorem lkX6_41 : Cond.constantLong RX6 41 (-59) ∈ jw := jw_s4 13 rfl rfl
set_option maxRecDepth 100000 in
theorem lkX6_43 : Cond.constantLong RX6 43 (-60) ∈ jw := jw_s4 14 rfl rfl
set_option maxRecDepth 100000 in
theorem lNX6_45 : Cond.methodLinkNest RX6 45 yX10_isFreeWord "ClauseBench" ∈ jNest := List.mem_filter.mpr ⟨List.mem_of_getElem? (i := 813) (by decide +kernel), rfl⟩
set_option maxRecDepth 100000 in
theorem lNX6_53 : Cond.methodLinkNest RX6 53 yX10_isOurs "ClauseBench" ∈ jNest := List.mem_filter.mpr ⟨List.mem_of_getElem? (i := 826) (by decide +kernel), rfl⟩
set_option maxRecDepth 100000 in
theorem lNX6_64 : Cond.methodLinkNest RX6 64 yX10_isNumber "ClauseBench" ∈ jNest := List.mem_filter.mpr ⟨List.mem_of_getElem? (i := 832) (by decide +kernel), rfl⟩
set_option maxRecDepth 100000 in
theorem lkX6_72 : Cond.constantLong RX6 72 (-1) ∈ jw := jw_s4 40 rfl rfl
set_option maxRecDepth 100000 in
theorem lkX6_67 : Cond.constantLong RX6 67 (-1000) ∈ jw := jw_s4 35 rfl rfl
set_option maxRecDepth 100000 in
theorem lmX6_69 : Cond.methodLink RX6 69 yX6_putNumber ∈ jw := jw_s4 36 rfl rfl
set_option maxRecDepth 100000 in
theorem lkX6_56 : Cond.constantLong RX6 56 (-3000) ∈ jw := jw_s4 29 rfl rfl
set_option maxRecDepth 100000 in
theorem lmX6_58 : Cond.methodLink RX6 58 yX9_at ∈ jw := jw_s4 30 rfl rfl
set_option maxRecDepth 100000 in
theorem lmX6_49 : Cond.methodLink RX6 49 yX6_putWord ∈ jw := jw_s4 16 rfl rfl
set_option maxRecDepth 100000 in
theorem lmX7_3 : Cond.methodLink RX7 3 Lib.objectInit ∈ jw := jw_s1 137 rfl rfl
set_option maxRecDepth 100000 in
theorem lfX7_9 : jF RX7 9 8 0 := ⟨by decide, by decide, jw_s1 138 rfl rfl⟩
set_option maxRecDepth 100000 in
theorem la_101 : Cond.arrayClass (jaty 101) ∈ jw := jw_s1 160 rfl rfl
set_option maxRecDepth 100000 in
theorem lmX7_42 : Cond.methodLink RX7 42 yX6_byteAt ∈ jw := jw_s2 96 rfl rfl
set_option maxRecDepth 100000 in
theorem lmX7_62 : Cond.methodLink RX7 62 yX7_isLetter ∈ jw := jw_s2 106 rfl rfl
set_option maxRecDepth 100000 in
theorem lmX7_65 : Cond.methodLink RX7 65 yX7_isDigit ∈ jw := jw_s2 109 rfl rfl
set_option maxRecDepth 100000 in
theorem lmX7_82 : Cond.methodLink RX7 82 yX9_find ∈ jw := jw_s2 122 rfl rfl
set_option maxRecDepth 100000 in
theorem lkX7_86 : Cond.constantLong RX7 86 (-3000) ∈ jw := jw_s2 126 rfl rfl
set_option maxRecDepth 100000 in
theorem lmX7_76 : Cond.methodLink RX7 76 yX9_grown ∈ jw := jw_s2 121 rfl rfl
set_option maxRecDepth 100000 in
theorem lkX7_88 : Cond.constantLong RX7 88 (-1000) ∈ jw := jw_s2 130 rfl rfl
set_option maxRecDepth 100000 in
theorem lmX7_73 : Cond.methodLink RX7 73 yX7_numberOf ∈ jw := jw_s2 127 rfl rfl
set_option maxRecDepth 100000 in
theorem lmX7_70 : Cond.methodLink RX7 70 yX7_wordOf ∈ jw := jw_s2 117 rfl rfl
set_option maxRecDepth 100000 in
theorem lfX7_33 : jF RX7 33 7 2 := ⟨by decide, by decide, jw_s1 120 rfl rfl⟩
set_option maxRecDepth 100000 in
theorem lmX7_46 : Cond.methodLink RX7 46 yX7_isBlank ∈ jw := jw_s2 100 rfl rfl
set_option maxRecDepth 100000 in
theorem lmX7_50 : Cond.methodLink RX7 50 yX7_runEnd ∈ jw := jw_s2 103 rfl rfl
set_option maxRecDepth 100000 in
theorem lmX7_54 : Cond.methodLink RX7 54 yX7_tokenOf ∈ jw := jw_s2 112 rfl rfl
set_option maxRecDepth 100000 in
theorem lmX7_58 : Cond.methodLink RX7 58 yX7_add ∈ jw := jw_s2 131 rfl rfl
set_option maxRecDepth 100000 in
theorem lmX8_30 : Cond.methodLink RX8 30 yX8_add ∈ jw := jw_s3 215 rfl rfl
set_option maxRecDepth 100000 in
theorem lkX8_54 : Cond.constantLong RX8 54 (-60) ∈ jw := jw_s4 6 rfl rfl
set_option maxRecDepth 100000 in
theorem lmX8_56 : Cond.methodLink RX8 56 yX6_put ∈ jw := jw_s4 7 rfl rfl
set_option maxRecDepth 100000 in
theorem lfX8_62 : jF RX8 62 3 7 := ⟨by decide, by decide, jw_s3 8 rfl rfl⟩
set_option maxRecDepth 100000 in
theorem lmX8_66 : Cond.methodLink RX8 66 yX2_isDefine ∈ jw := jw_s4 137 rfl rfl
set_option maxRecDepth 100000 in
theorem lmX8_70 : Cond.methodLink RX8 70 yX1_has ∈ jw := jw_s4 138 rfl rfl
set_option maxRecDepth 100000 in
theorem lmX8_74 : Cond.methodLink RX8 74 yX2_key ∈ jw := jw_s4 139 rfl rfl
set_option maxRecDepth 100000 in
theorem lmX8_78 : Cond.methodLink RX8 78 yX8_insert ∈ jw := jw_s4 143 rfl rfl
set_option maxRecDepth 100000 in
theorem lmX8_93 : Cond.methodLink RX8 93 yX1_clear ∈ jw := jw_s4 184 rfl rfl
set_option maxRecDepth 100000 in
theorem lmX8_90 : Cond.methodLink RX8 90 yX1_or ∈ jw := jw_s4 185 rfl rfl
set_option maxRecDepth 100000 in
theorem lcX8_49 : Cond.classLink RX8 49 RX1 ∈ jw := jw_s4 178 rfl rfl
set_option maxRecDepth 100000 in
theorem lmX8_82 : Cond.methodLink RX8 82 yX1_init ∈ jw := jw_s4 179 rfl rfl
set_option maxRecDepth 100000 in
theorem lmX8_83 : Cond.methodLink RX8 83 yX8_setOutcome ∈ jw := jw_s4 180 rfl rfl
set_option maxRecDepth 100000 in
theorem lmX8_87 : Cond.methodLink RX8 87 yX1_xor ∈ jw := jw_s4 186 rfl rfl
set_option maxRecDepth 100000 in
theorem lmX8_96 : Cond.methodLink RX8 96 yX8_at ∈ jw := jw_s4 209 rfl rfl
set_option maxRecDepth 100000 in
theorem lmX8_100 : Cond.methodLink RX8 100 yX1_copy ∈ jw := jw_s4 210 rfl rfl
set_option maxRecDepth 100000 in
theorem lmX8_103 : Cond.methodLink RX8 103 yX8_find ∈ jw := jw_s4 211 rfl rfl
set_option maxRecDepth 100000 in
theorem lfX8_107 : jF RX8 107 3 2 := ⟨by decide, by decide, jw_s2 234 rfl rfl⟩
set_option maxRecDepth 100000 in
theorem lfX8_110 : jF RX8 110 3 3 := ⟨by decide, by decide, jw_s2 238 rfl rfl⟩
set_option maxRecDepth 100000 in
theorem lmX8_113 : Cond.methodLink RX8 113 yX1_and ∈ jw := jw_s4 220 rfl rfl
set_option maxRecDepth 100000 in
theorem lmX9_3 : Cond.methodLink RX9 3 Lib.objectInit ∈ jw := jw_s1 35 rfl rfl
set_option maxRecDepth 100000 in
theorem lfX10_25 : jF RX10 25 11 0 := ⟨by decide, by decide, jw_s2 13 rfl rfl⟩
set_option maxRecDepth 100000 in
theorem lfX10_100 : jF RX10 100 7 2 := ⟨by decide, by decide, jw_s1 119 rfl rfl⟩
set_option maxRecDepth 100000 in
theorem lmX10_103 : Cond.methodLink RX10 103 yX6_addFour ∈ jw := jw_s2 69 rfl rfl
set_option maxRecDepth 100000 in
theorem lfX10_50 : jF RX10 50 11 6 := ⟨by decide, by decide, jw_s2 19 rfl rfl⟩
set_option maxRecDepth 100000 in
theorem lmX10_156 : Cond.methodLink RX10 156 yX7_scan ∈ jw := jw_s2 89 rfl rfl
set_option maxRecDepth 100000 in
theorem lmX10_149 : Cond.methodLink RX10 149 yX6_clear ∈ jw := jw_s2 135 rfl rfl
set_option maxRecDepth 100000 in
theorem lfX10_35 : jF RX10 35 11 3 := ⟨by decide, by decide, jw_s2 16 rfl rfl⟩
set_option maxRecDepth 100000 in
theorem lfX10_109 : jF RX10 109 10 1 := ⟨by decide, by decide, jw_s1 41 rfl rfl⟩
set_option maxRecDepth 100000 in
theorem lmX10_106 : Cond.methodLink RX10 106 yX10_useTape ∈ jw := jw_s2 85 rfl rfl
set_option maxRecDepth 100000 in
theorem lfX10_59 : jF RX10 59 11 7 := ⟨by decide, by decide, jw_s2 20 rfl rfl⟩
set_option maxRecDepth 100000 in
theorem lmX10_110 : Cond.methodLink RX10 110 yX4_readFacts ∈ jw := jw_s2 139 rfl rfl
set_option maxRecDepth 100000 in
theorem lfX10_78 : jF RX10 78 11 10 := ⟨by decide, by decide, jw_s2 23 rfl rfl⟩
set_option maxRecDepth 100000 in
theorem lmX10_117 : Cond.methodLink RX10 117 yX10_caseCount ∈ jw := jw_s2 173 rfl rfl
set_option maxRecDepth 100000 in
theorem lmX10_121 : Cond.methodLink RX10 121 yX1_setFirst ∈ jw := jw_s2 177 rfl rfl
set_option maxRecDepth 100000 in
theorem lfX10_114 : jF RX10 114 8 5 := ⟨by decide, by decide, jw_s1 145 rfl rfl⟩
set_option maxRecDepth 100000 in
theorem lfX10_124 : jF RX10 124 11 13 := ⟨by decide, by decide, jw_s2 26 rfl rfl⟩
set_option maxRecDepth 100000 in
theorem lmX10_127 : Cond.methodLink RX10 127 yX4_readVersion ∈ jw := jw_s2 186 rfl rfl
set_option maxRecDepth 100000 in
theorem lfX10_65 : jF RX10 65 11 8 := ⟨by decide, by decide, jw_s2 21 rfl rfl⟩
set_option maxRecDepth 100000 in
theorem lfX10_131 : jF RX10 131 9 2 := ⟨by decide, by decide, jw_s2 203 rfl rfl⟩
set_option maxRecDepth 100000 in
theorem lmX10_132 : Cond.methodLink RX10 132 yX10_versionAt ∈ jw := jw_s3 206 rfl rfl
set_option maxRecDepth 100000 in
theorem lfX10_135 : jF RX10 135 11 14 := ⟨by decide, by decide, jw_s2 27 rfl rfl⟩
set_option maxRecDepth 100000 in
theorem lcX10_63 : Cond.classLink RX10 63 RX8 ∈ jw := jw_s1 233 rfl rfl
set_option maxRecDepth 100000 in
theorem lmX10_138 : Cond.methodLink RX10 138 yX8_init ∈ jw := jw_s3 210 rfl rfl
set_option maxRecDepth 100000 in
theorem lmX10_141 : Cond.methodLink RX10 141 yX8_addAll ∈ jw := jw_s3 211 rfl rfl
set_option maxRecDepth 100000 in
theorem lmX10_145 : Cond.methodLink RX10 145 yX4_readRider ∈ jw := jw_s3 216 rfl rfl
set_option maxRecDepth 100000 in
theorem lfX10_32 : jF RX10 32 11 2 := ⟨by decide, by decide, jw_s2 15 rfl rfl⟩
set_option maxRecDepth 100000 in
theorem lmX10_152 : Cond.methodLink RX10 152 yX8_putOn ∈ jw := jw_s4 2 rfl rfl
set_option maxRecDepth 100000 in
theorem lfX10_71 : jF RX10 71 11 9 := ⟨by decide, by decide, jw_s2 22 rfl rfl⟩
set_option maxRecDepth 100000 in
theorem lcX10_69 : Cond.classLink RX10 69 RX5 ∈ jw := jw_s1 235 rfl rfl
set_option maxRecDepth 100000 in
theorem li_RX5 : Cond.instantiable RX5 3 ∈ jw := jw_s4 41 rfl rfl
set_option maxRecDepth 100000 in
theorem ln_RX5 : Cond.initialized RX5 ∈ jw := jw_s1 19 rfl rfl
set_option maxRecDepth 100000 in
theorem lfX10_159 : jF RX10 159 9 1 := ⟨by decide, by decide, jw_s2 201 rfl rfl⟩
set_option maxRecDepth 100000 in
theorem lmX10_162 : Cond.methodLink RX10 162 yX5_init ∈ jw := jw_s4 42 rfl rfl
set_option maxRecDepth 100000 in
theorem lfX10_165 : jF RX10 165 6 0 := ⟨by decide, by decide, jw_s4 47 rfl rfl⟩
set_option maxRecDepth 100000 in
theorem lfX10_168 : jF RX10 168 6 2 := ⟨by decide, by decide, jw_s4 51 rfl rfl⟩
set_option maxRecDepth 100000 in
theorem lfX10_169 : jF RX10 169 6 1 := ⟨by decide, by decide, jw_s4 49 rfl rfl⟩
set_option maxRecDepth 100000 in
theorem lmX10_173 : Cond.methodLink RX10 173 yX4_readWorld ∈ jw := jw_s4 67 rfl rfl
set_option maxRecDepth 100000 in
theorem lmX10_177 : Cond.methodLink RX10 177 yX1_and ∈ jw := jw_s4 71 rfl rfl
set_option maxRecDepth 100000 in
theorem lmX10_181 : Cond.methodLink RX10 181 yX1_total ∈ jw := jw_s4 72 rfl rfl
set_option maxRecDepth 100000 in
theorem lfX10_29 : jF RX10 29 11 1 := ⟨by decide, by decide, jw_s2 14 rfl rfl⟩
set_option maxRecDepth 100000 in
theorem lmX10_184 : Cond.methodLink RX10 184 yX6_byteAt ∈ jw := jw_s4 90 rfl rfl
set_option maxRecDepth 100000 in
theorem lmX10_188 : Cond.methodLink RX10 188 yX6_addByte ∈ jw := jw_s4 95 rfl rfl
set_option maxRecDepth 100000 in
theorem lmX10_307 : Cond.methodLink RX10 307 yX8_at ∈ jw := jw_s4 104 rfl rfl
set_option maxRecDepth 100000 in
theorem lkJ6_265 : Cond.constant RJ6 265 (1431655765) ∈ jw := jw_s4 108 rfl rfl
set_option maxRecDepth 100000 in
theorem lkJ6_266 : Cond.constant RJ6 266 (858993459) ∈ jw := jw_s4 109 rfl rfl
set_option maxRecDepth 100000 in
theorem lkJ6_267 : Cond.constant RJ6 267 (252645135) ∈ jw := jw_s4 110 rfl rfl
set_option maxRecDepth 100000 in
theorem lmX10_191 : Cond.methodLink RX10 191 yX10_clauseAt ∈ jw := jw_s4 100 rfl rfl
set_option maxRecDepth 100000 in
theorem lfX10_195 : jF RX10 195 3 0 := ⟨by decide, by decide, jw_s2 227 rfl rfl⟩
set_option maxRecDepth 100000 in
theorem lfX10_200 : jF RX10 200 3 2 := ⟨by decide, by decide, jw_s2 233 rfl rfl⟩
set_option maxRecDepth 100000 in
theorem lfX10_203 : jF RX10 203 3 3 := ⟨by decide, by decide, jw_s2 236 rfl rfl⟩
set_option maxRecDepth 100000 in
theorem lfX10_206 : jF RX10 206 3 4 := ⟨by decide, by decide, jw_s3 0 rfl rfl⟩
set_option maxRecDepth 100000 in
theorem lfX10_209 : jF RX10 209 3 5 := ⟨by decide, by decide, jw_s3 3 rfl rfl⟩
set_option maxRecDepth 100000 in
theorem lfX10_212 : jF RX10 212 3 6 := ⟨by decide, by decide, jw_s3 6 rfl rfl⟩
set_option maxRecDepth 100000 in
theorem lmX10_215 : Cond.methodLink RX10 215 yJ6_bitCount_0f7a4 ∈ jw := jw_s4 105 rfl rfl
set_option maxRecDepth 100000 in
theorem lfX10_220 : jF RX10 220 3 1 := ⟨by decide, by decide, jw_s2 230 rfl rfl⟩
set_option maxRecDepth 100000 in
theorem lmX10_224 : Cond.methodLink RX10 224 yX9_letterCount ∈ jw := jw_s4 111 rfl rfl
set_option maxRecDepth 100000 in
theorem lmX10_228 : Cond.methodLink RX10 228 yX9_letterAt ∈ jw := jw_s4 116 rfl rfl
set_option maxRecDepth 100000 in
theorem lmX10_232 : Cond.methodLink RX10 232 yX10_isCase ∈ jw := jw_s4 121 rfl rfl
set_option maxRecDepth 100000 in
theorem lfX10_236 : jF RX10 236 3 8 := ⟨by decide, by decide, jw_s3 14 rfl rfl⟩
set_option maxRecDepth 100000 in
theorem lmX10_239 : Cond.methodLink RX10 239 yX1_has ∈ jw := jw_s4 125 rfl rfl
set_option maxRecDepth 100000 in
theorem lfX10_89 : jF RX10 89 11 12 := ⟨by decide, by decide, jw_s2 25 rfl rfl⟩
set_option maxRecDepth 100000 in
theorem lmX10_242 : Cond.methodLink RX10 242 yX8_gatherKeys ∈ jw := jw_s4 133 rfl rfl
set_option maxRecDepth 100000 in
theorem lmX10_311 : Cond.methodLink RX10 311 yX10_outcomes ∈ jw := jw_s4 154 rfl rfl
set_option maxRecDepth 100000 in
theorem lmX10_246 : Cond.methodLink RX10 246 yX10_keyAt ∈ jw := jw_s4 150 rfl rfl
set_option maxRecDepth 100000 in
theorem lmX10_250 : Cond.methodLink RX10 250 yX2_keyKind ∈ jw := jw_s4 155 rfl rfl
set_option maxRecDepth 100000 in
theorem lmX10_253 : Cond.methodLink RX10 253 yX2_keyParty ∈ jw := jw_s4 158 rfl rfl
set_option maxRecDepth 100000 in
theorem lmX10_256 : Cond.methodLink RX10 256 yX2_keyAct ∈ jw := jw_s4 161 rfl rfl
set_option maxRecDepth 100000 in
theorem lmX10_259 : Cond.methodLink RX10 259 yX2_keyNumber ∈ jw := jw_s4 164 rfl rfl
set_option maxRecDepth 100000 in
theorem lmX10_262 : Cond.methodLink RX10 262 yX2_keyWorkdays ∈ jw := jw_s4 167 rfl rfl
set_option maxRecDepth 100000 in
theorem lcX10_75 : Cond.classLink RX10 75 RX1 ∈ jw := jw_s1 237 rfl rfl
set_option maxRecDepth 100000 in
theorem lmX10_77 : Cond.methodLink RX10 77 yX1_init ∈ jw := jw_s1 238 rfl rfl
set_option maxRecDepth 100000 in
theorem lmX10_265 : Cond.methodLink RX10 265 yX8_addUnlike ∈ jw := jw_s4 174 rfl rfl
set_option maxRecDepth 100000 in
theorem lmX10_269 : Cond.methodLink RX10 269 yX1_least ∈ jw := jw_s4 190 rfl rfl
set_option maxRecDepth 100000 in
theorem lmX10_272 : Cond.methodLink RX10 272 yX8_compareClause ∈ jw := jw_s4 205 rfl rfl
set_option maxRecDepth 100000 in
theorem lmX10_276 : Cond.methodLink RX10 276 yX8_clash ∈ jw := jw_s4 216 rfl rfl
set_option maxRecDepth 100000 in
theorem lfX10_93 : jF RX10 93 11 15 := ⟨by decide, by decide, jw_s2 28 rfl rfl⟩
set_option maxRecDepth 100000 in
theorem lfX10_97 : jF RX10 97 11 16 := ⟨by decide, by decide, jw_s2 29 rfl rfl⟩
set_option maxRecDepth 100000 in
theorem lfX10_42 : jF RX10 42 11 5 := ⟨by decide, by decide, jw_s2 18 rfl rfl⟩
set_option maxRecDepth 100000 in
theorem lmX10_280 : Cond.methodLink RX10 280 yX8_addOwing ∈ jw := jw_s4 229 rfl rfl
set_option maxRecDepth 100000 in
theorem lmX10_284 : Cond.methodLink RX10 284 yX1_flip ∈ jw := jw_s4 233 rfl rfl
set_option maxRecDepth 100000 in
theorem lfX10_85 : jF RX10 85 11 11 := ⟨by decide, by decide, jw_s2 24 rfl rfl⟩
set_option maxRecDepth 100000 in
theorem lmX10_287 : Cond.methodLink RX10 287 yX0_mark ∈ jw := jw_s4 238 rfl rfl
set_option maxRecDepth 100000 in
theorem lmX10_291 : Cond.methodLink RX10 291 yX0_isDay ∈ jw := jw_s5 13 rfl rfl
set_option maxRecDepth 100000 in
theorem lmX10_298 : Cond.methodLink RX10 298 yX0_daysOn ∈ jw := jw_s5 18 rfl rfl
set_option maxRecDepth 100000 in
theorem lmX10_294 : Cond.methodLink RX10 294 yX0_workdaysOn ∈ jw := jw_s5 14 rfl rfl
set_option maxRecDepth 100000 in
theorem lfX10_39 : jF RX10 39 11 4 := ⟨by decide, by decide, jw_s2 17 rfl rfl⟩
set_option maxRecDepth 100000 in
theorem lfX10_301 : jF RX10 301 1 1 := ⟨by decide, by decide, jw_s2 7 rfl rfl⟩
set_option maxRecDepth 100000 in
theorem lmX10_304 : Cond.methodLink RX10 304 yX10_clauseCount ∈ jw := jw_s5 25 rfl rfl
set_option maxRecDepth 100000 in
theorem lmX11_1 : Cond.methodLink RX11 1 Lib.objectInit ∈ jw := jw_s5 34 rfl rfl
set_option maxRecDepth 100000 in
theorem lfX11_7 : jF RX11 7 12 0 := ⟨by decide, by decide, jw_s5 36 rfl rfl⟩
set_option maxRecDepth 100000 in
theorem lfX11_13 : jF RX11 13 12 2 := ⟨by decide, by decide, jw_s5 38 rfl rfl⟩
set_option maxRecDepth 100000 in
theorem lfX11_17 : jF RX11 17 12 3 := ⟨by decide, by decide, jw_s5 39 rfl rfl⟩
set_option maxRecDepth 100000 in
theorem lfX11_20 : jF RX11 20 12 4 := ⟨by decide, by decide, jw_s5 40 rfl rfl⟩
set_option maxRecDepth 100000 in
theorem lfX11_24 : jF RX11 24 12 6 := ⟨by decide, by decide, jw_s5 42 rfl rfl⟩
set_option maxRecDepth 100000 in
theorem lfX11_27 : jF RX11 27 12 7 := ⟨by decide, by decide, jw_s5 43 rfl rfl⟩
set_option maxRecDepth 100000 in
theorem lfX11_30 : jF RX11 30 12 9 := ⟨by decide, by decide, jw_s5 45 rfl rfl⟩
set_option maxRecDepth 100000 in
theorem lfX11_33 : jF RX11 33 12 10 := ⟨by decide, by decide, jw_s5 46 rfl rfl⟩
set_option maxRecDepth 100000 in
theorem lfX11_36 : jF RX11 36 12 11 := ⟨by decide, by decide, jw_s5 47 rfl rfl⟩
set_option maxRecDepth 100000 in
theorem lfX11_39 : jF RX11 39 12 19 := ⟨by decide, by decide, jw_s5 55 rfl rfl⟩
set_option maxRecDepth 100000 in
theorem lfX11_42 : jF RX11 42 12 22 := ⟨by decide, by decide, jw_s5 58 rfl rfl⟩
set_option maxRecDepth 100000 in
theorem lfX11_46 : jF RX11 46 12 23 := ⟨by decide, by decide, jw_s5 59 rfl rfl⟩
set_option maxRecDepth 100000 in
theorem lfX11_49 : jF RX11 49 12 24 := ⟨by decide, by decide, jw_s5 60 rfl rfl⟩
set_option maxRecDepth 100000 in
theorem lfX11_52 : jF RX11 52 12 25 := ⟨by decide, by decide, jw_s5 61 rfl rfl⟩
set_option maxRecDepth 100000 in
theorem lfX11_55 : jF RX11 55 12 26 := ⟨by decide, by decide, jw_s5 62 rfl rfl⟩
set_option maxRecDepth 100000 in
theorem lfX11_58 : jF RX11 58 12 27 := ⟨by decide, by decide, jw_s5 63 rfl rfl⟩
set_option maxRecDepth 100000 in
theorem lfX11_61 : jF RX11 61 12 28 := ⟨by decide, by decide, jw_s5 64 rfl rfl⟩
set_option maxRecDepth 100000 in
theorem lfX11_64 : jF RX11 64 12 30 := ⟨by decide, by decide, jw_s5 66 rfl rfl⟩
set_option maxRecDepth 100000 in
theorem lfX11_67 : jF RX11 67 12 31 := ⟨by decide, by decide, jw_s5 67 rfl rfl⟩
set_option maxRecDepth 100000 in
theorem lfX11_70 : jF RX11 70 12 32 := ⟨by decide, by decide, jw_s5 68 rfl rfl⟩
set_option maxRecDepth 100000 in
theorem lfX11_73 : jF RX11 73 12 34 := ⟨by decide, by decide, jw_s5 70 rfl rfl⟩
set_option maxRecDepth 100000 in
theorem lfX11_76 : jF RX11 76 12 35 := ⟨by decide, by decide, jw_s5 71 rfl rfl⟩
set_option maxRecDepth 100000 in
theorem lfX11_79 : jF RX11 79 12 36 := ⟨by decide, by decide, jw_s5 72 rfl rfl⟩
set_option maxRecDepth 100000 in
theorem lfX11_82 : jF RX11 82 12 37 := ⟨by decide, by decide, jw_s5 73 rfl rfl⟩
set_option maxRecDepth 100000 in
theorem lfX11_85 : jF RX11 85 12 38 := ⟨by decide, by decide, jw_s5 74 rfl rfl⟩
set_option maxRecDepth 100000 in
theorem lfX11_88 : jF RX11 88 12 39 := ⟨by decide, by decide, jw_s5 75 rfl rfl⟩
set_option maxRecDepth 100000 in
theorem lfX11_91 : jF RX11 91 12 40 := ⟨by decide, by decide, jw_s5 76 rfl rfl⟩
set_option maxRecDepth 100000 in
theorem lfX11_94 : jF RX11 94 12 41 := ⟨by decide, by decide, jw_s5 77 rfl rfl⟩
set_option maxRecDepth 100000 in
theorem lfX11_97 : jF RX11 97 12 42 := ⟨by decide, by decide, jw_s5 78 rfl rfl⟩
set_option maxRecDepth 100000 in
theorem lfX11_100 : jF RX11 100 12 43 := ⟨by decide, by decide, jw_s5 79 rfl rfl⟩
set_option maxRecDepth 100000 in
theorem lfX11_103 : jF RX11 103 12 44 := ⟨by decide, by decide, jw_s5 80 rfl rfl⟩
set_option maxRecDepth 100000 in
theorem lkX11_106 : Cond.constant RX11 106 (300000) ∈ jw := jw_s5 35 rfl rfl
set_option maxRecDepth 100000 in
theorem lfX11_107 : jF RX11 107 12 45 := ⟨by decide, by decide, jw_s5 81 rfl rfl⟩
set_option maxRecDepth 100000 in
theorem lfX11_110 : jF RX11 110 12 46 := ⟨by decide, by decide, jw_s5 82 rfl rfl⟩
set_option maxRecDepth 100000 in
theorem lfX11_113 : jF RX11 113 12 47 := ⟨by decide, by decide, jw_s5 83 rfl rfl⟩
set_option maxRecDepth 100000 in
theorem lfX11_116 : jF RX11 116 12 50 := ⟨by decide, by decide, jw_s5 86 rfl rfl⟩
set_option maxRecDepth 100000 in
theorem lfX11_119 : jF RX11 119 12 52 := ⟨by decide, by decide, jw_s5 88 rfl rfl⟩
set_option maxRecDepth 100000 in
theorem lfX11_122 : jF RX11 122 12 53 := ⟨by decide, by decide, jw_s5 89 rfl rfl⟩
set_option maxRecDepth 100000 in
theorem lfX11_125 : jF RX11 125 12 54 := ⟨by decide, by decide, jw_s5 90 rfl rfl⟩
set_option maxRecDepth 100000 in
theorem lfX11_128 : jF RX11 128 12 59 := ⟨by decide, by decide, jw_s5 95 rfl rfl⟩
set_option maxRecDepth 100000 in
theorem lfX11_131 : jF RX11 131 12 60 := ⟨by decide, by decide, jw_s5 96 rfl rfl⟩
set_option maxRecDepth 100000 in
theorem lfX11_134 : jF RX11 134 12 61 := ⟨by decide, by decide, jw_s5 97 rfl rfl⟩
set_option maxRecDepth 100000 in
theorem lfX11_137 : jF RX11 137 12 62 := ⟨by decide, by decide, jw_s5 98 rfl rfl⟩
set_option maxRecDepth 100000 in
theorem lfX11_140 : jF RX11 140 12 64 := ⟨by decide, by decide, jw_s5 100 rfl rfl⟩
set_option maxRecDepth 100000 in
theorem lfX11_143 : jF RX11 143 12 66 := ⟨by decide, by decide, jw_s5 102 rfl rfl⟩
set_option maxRecDepth 100000 in
theorem lfX11_146 : jF RX11 146 12 67 := ⟨by decide, by decide, jw_s5 103 rfl rfl⟩
set_option maxRecDepth 100000 in
theorem lfX11_149 : jF RX11 149 12 68 := ⟨by decide, by decide, jw_s5 104 rfl rfl⟩
set_option maxRecDepth 100000 in
theorem lfX11_152 : jF RX11 152 12 69 := ⟨by decide, by decide, jw_s5 105 rfl rfl⟩
set_option maxRecDepth 100000 in
theorem lfX11_156 : jF RX11 156 12 1 := ⟨by decide, by decide, jw_s5 37 rfl rfl⟩
set_option maxRecDepth 100000 in
theorem lmX11_159 : Cond.methodLink RX11 159 yX11_four ∈ jw := jw_s6 14 rfl rfl
set_option maxRecDepth 100000 in
theorem lfX11_163 : jF RX11 163 12 18 := ⟨by decide, by decide, jw_s5 54 rfl rfl⟩
set_option maxRecDepth 100000 in
theorem lfX11_172 : jF RX11 172 12 13 := ⟨by decide, by decide, jw_s5 49 rfl rfl⟩
set_option maxRecDepth 100000 in
theorem lfX11_166 : jF RX11 166 12 12 := ⟨by decide, by decide, jw_s5 48 rfl rfl⟩
set_option maxRecDepth 100000 in
theorem lfX11_185 : jF RX11 185 12 15 := ⟨by decide, by decide, jw_s5 51 rfl rfl⟩
set_option maxRecDepth 100000 in
theorem lfX11_188 : jF RX11 188 12 16 := ⟨by decide, by decide, jw_s5 52 rfl rfl⟩
set_option maxRecDepth 100000 in
theorem lfX11_191 : jF RX11 191 12 17 := ⟨by decide, by decide, jw_s5 53 rfl rfl⟩
set_option maxRecDepth 100000 in
theorem lmX11_197 : Cond.methodLink RX11 197 yX11_isLetter ∈ jw := jw_s6 38 rfl rfl
set_option maxRecDepth 100000 in
theorem lmX11_205 : Cond.methodLink RX11 205 yX11_isDigit ∈ jw := jw_s6 45 rfl rfl
set_option maxRecDepth 100000 in
theorem lfX11_194 : jF RX11 194 12 14 := ⟨by decide, by decide, jw_s5 50 rfl rfl⟩
set_option maxRecDepth 100000 in
theorem lmX11_201 : Cond.methodLink RX11 201 yX11_fails ∈ jw := jw_s6 41 rfl rfl
set_option maxRecDepth 100000 in
theorem lfX11_175 : jF RX11 175 12 20 := ⟨by decide, by decide, jw_s5 56 rfl rfl⟩
set_option maxRecDepth 100000 in
theorem lfX11_178 : jF RX11 178 12 21 := ⟨by decide, by decide, jw_s5 57 rfl rfl⟩
set_option maxRecDepth 100000 in
theorem lmX11_181 : Cond.methodLink RX11 181 yX11_looks ∈ jw := jw_s6 34 rfl rfl
set_option maxRecDepth 100000 in
theorem lmX11_169 : Cond.methodLink RX11 169 yX11_begins ∈ jw := jw_s6 30 rfl rfl
set_option maxRecDepth 100000 in
theorem lmX11_208 : Cond.methodLink RX11 208 yX11_puts ∈ jw := jw_s6 94 rfl rfl
set_option maxRecDepth 100000 in
theorem lmX11_211 : Cond.methodLink RX11 211 yX11_letters ∈ jw := jw_s6 61 rfl rfl
set_option maxRecDepth 100000 in
theorem lkX11_215 : Cond.constantLong RX11 215 (139666885) ∈ jw := jw_s6 56 rfl rfl
set_option maxRecDepth 100000 in
theorem lmX11_217 : Cond.methodLink RX11 217 yX11_isWord ∈ jw := jw_s6 57 rfl rfl
set_option maxRecDepth 100000 in
theorem lkX11_221 : Cond.constantLong RX11 221 (51) ∈ jw := jw_s6 65 rfl rfl
set_option maxRecDepth 100000 in
theorem lkX11_223 : Cond.constantLong RX11 223 (153241) ∈ jw := jw_s6 66 rfl rfl
set_option maxRecDepth 100000 in
theorem lkX11_225 : Cond.constantLong RX11 225 (19176724) ∈ jw := jw_s6 67 rfl rfl
set_option maxRecDepth 100000 in
theorem lkX11_227 : Cond.constantLong RX11 227 (2094) ∈ jw := jw_s6 68 rfl rfl
set_option maxRecDepth 100000 in
theorem lkX11_229 : Cond.constantLong RX11 229 (655) ∈ jw := jw_s6 69 rfl rfl
set_option maxRecDepth 100000 in
theorem lkX11_231 : Cond.constantLong RX11 231 (89) ∈ jw := jw_s6 70 rfl rfl
set_option maxRecDepth 100000 in
theorem lkX11_233 : Cond.constantLong RX11 233 (132915) ∈ jw := jw_s6 71 rfl rfl
set_option maxRecDepth 100000 in
theorem lkX11_235 : Cond.constantLong RX11 235 (806995756851) ∈ jw := jw_s6 72 rfl rfl
set_option maxRecDepth 100000 in
theorem lkX11_237 : Cond.constantLong RX11 237 (294) ∈ jw := jw_s6 73 rfl rfl
set_option maxRecDepth 100000 in
theorem lkX11_239 : Cond.constantLong RX11 239 (719722099) ∈ jw := jw_s6 74 rfl rfl
set_option maxRecDepth 100000 in
theorem lkX11_241 : Cond.constantLong RX11 241 (514226) ∈ jw := jw_s6 75 rfl rfl
set_option maxRecDepth 100000 in
theorem lkX11_243 : Cond.constantLong RX11 243 (1476) ∈ jw := jw_s6 76 rfl rfl
set_option maxRecDepth 100000 in
theorem lkX11_245 : Cond.constantLong RX11 245 (498) ∈ jw := jw_s6 77 rfl rfl
set_option maxRecDepth 100000 in
theorem lkX11_247 : Cond.constantLong RX11 247 (14836) ∈ jw := jw_s6 78 rfl rfl
set_option maxRecDepth 100000 in
theorem lkX11_249 : Cond.constantLong RX11 249 (659105125) ∈ jw := jw_s6 79 rfl rfl
set_option maxRecDepth 100000 in
theorem lkX11_251 : Cond.constantLong RX11 251 (19512296549) ∈ jw := jw_s6 80 rfl rfl
set_option maxRecDepth 100000 in
theorem lkX11_253 : Cond.constantLong RX11 253 (1156) ∈ jw := jw_s6 81 rfl rfl
set_option maxRecDepth 100000 in
theorem lmX11_255 : Cond.methodLink RX11 255 yX11_takes ∈ jw := jw_s6 90 rfl rfl
set_option maxRecDepth 100000 in
theorem lmX11_258 : Cond.methodLink RX11 258 yX11_isSign ∈ jw := jw_s6 144 rfl rfl
set_option maxRecDepth 100000 in
theorem lmX11_261 : Cond.methodLink RX11 261 yX11_isOwn ∈ jw := jw_s6 52 rfl rfl
set_option maxRecDepth 100000 in
theorem lmX11_264 : Cond.methodLink RX11 264 yX11_takesTape ∈ jw := jw_s6 26 rfl rfl
set_option maxRecDepth 100000 in
theorem lmX11_267 : Cond.methodLink RX11 267 yX11_isName ∈ jw := jw_s6 48 rfl rfl
set_option maxRecDepth 100000 in
theorem lmX11_270 : Cond.methodLink RX11 270 yX11_find ∈ jw := jw_s6 82 rfl rfl
set_option maxRecDepth 100000 in
theorem lmX11_274 : Cond.methodLink RX11 274 yX11_name ∈ jw := jw_s6 86 rfl rfl
set_option maxRecDepth 100000 in
theorem lkX11_278 : Cond.constantLong RX11 278 (-1) ∈ jw := jw_s6 156 rfl rfl
set_option maxRecDepth 100000 in
theorem lfX11_280 : jF RX11 280 12 33 := ⟨by decide, by decide, jw_s5 69 rfl rfl⟩
set_option maxRecDepth 100000 in
theorem lfX11_284 : jF RX11 284 12 29 := ⟨by decide, by decide, jw_s5 65 rfl rfl⟩
set_option maxRecDepth 100000 in
theorem lmX11_287 : Cond.methodLink RX11 287 yX11_opens ∈ jw := jw_s6 140 rfl rfl
set_option maxRecDepth 100000 in
theorem lmX11_290 : Cond.methodLink RX11 290 yX11_one ∈ jw := jw_s6 148 rfl rfl
set_option maxRecDepth 100000 in
theorem lmX11_293 : Cond.methodLink RX11 293 yX11_joins ∈ jw := jw_s6 152 rfl rfl
set_option maxRecDepth 100000 in
theorem lmX11_296 : Cond.methodLink RX11 296 yX11_ors ∈ jw := jw_s6 157 rfl rfl
set_option maxRecDepth 100000 in
theorem lfX11_299 : jF RX11 299 12 5 := ⟨by decide, by decide, jw_s5 41 rfl rfl⟩
set_option maxRecDepth 100000 in
theorem lfX11_302 : jF RX11 302 12 8 := ⟨by decide, by decide, jw_s5 44 rfl rfl⟩
set_option maxRecDepth 100000 in
theorem lfX11_373 : jF RX11 373 12 51 := ⟨by decide, by decide, jw_s5 87 rfl rfl⟩
set_option maxRecDepth 100000 in
theorem lfX11_376 : jF RX11 376 12 56 := ⟨by decide, by decide, jw_s5 92 rfl rfl⟩
set_option maxRecDepth 100000 in
theorem lmX11_379 : Cond.methodLink RX11 379 yX11_placed ∈ jw := jw_s6 124 rfl rfl
set_option maxRecDepth 100000 in
theorem lfX11_383 : jF RX11 383 12 57 := ⟨by decide, by decide, jw_s5 93 rfl rfl⟩
set_option maxRecDepth 100000 in
theorem lmX11_305 : Cond.methodLink RX11 305 yX11_isThere ∈ jw := jw_s6 120 rfl rfl
set_option maxRecDepth 100000 in
theorem lmX11_309 : Cond.methodLink RX11 309 yX11_keepsLabel ∈ jw := jw_s6 128 rfl rfl
set_option maxRecDepth 100000 in
theorem lmX11_312 : Cond.methodLink RX11 312 yX11_expects ∈ jw := jw_s6 132 rfl rfl
set_option maxRecDepth 100000 in
theorem lmX11_315 : Cond.methodLink RX11 315 yX11_condition ∈ jw := jw_s6 136 rfl rfl
set_option maxRecDepth 100000 in
theorem lmX11_321 : Cond.methodLink RX11 321 yX11_labelled ∈ jw := jw_s6 161 rfl rfl
set_option maxRecDepth 100000 in
theorem lmX11_318 : Cond.methodLink RX11 318 yX11_defines ∈ jw := jw_s6 116 rfl rfl
set_option maxRecDepth 100000 in
theorem lmX11_325 : Cond.methodLink RX11 325 yX11_expectsSign ∈ jw := jw_s6 165 rfl rfl
set_option maxRecDepth 100000 in
theorem lmX11_328 : Cond.methodLink RX11 328 yX11_partyOf ∈ jw := jw_s6 169 rfl rfl
set_option maxRecDepth 100000 in
theorem lmX11_332 : Cond.methodLink RX11 332 yX11_actOf ∈ jw := jw_s6 173 rfl rfl
set_option maxRecDepth 100000 in
theorem lmX11_335 : Cond.methodLink RX11 335 yX11_byDays ∈ jw := jw_s6 177 rfl rfl
set_option maxRecDepth 100000 in
theorem lmX11_338 : Cond.methodLink RX11 338 yX11_over ∈ jw := jw_s6 181 rfl rfl
set_option maxRecDepth 100000 in
theorem lmX11_344 : Cond.methodLink RX11 344 yX11_beyond ∈ jw := jw_s6 185 rfl rfl
set_option maxRecDepth 100000 in
theorem lmX11_341 : Cond.methodLink RX11 341 yX11_clause ∈ jw := jw_s6 112 rfl rfl
set_option maxRecDepth 100000 in
theorem lmX11_347 : Cond.methodLink RX11 347 yX11_in ∈ jw := jw_s6 105 rfl rfl
set_option maxRecDepth 100000 in
theorem lmX11_351 : Cond.methodLink RX11 351 yX11_isPlace ∈ jw := jw_s6 102 rfl rfl
set_option maxRecDepth 100000 in
theorem lfX11_354 : jF RX11 354 12 48 := ⟨by decide, by decide, jw_s5 84 rfl rfl⟩
set_option maxRecDepth 100000 in
theorem lfX11_357 : jF RX11 357 12 49 := ⟨by decide, by decide, jw_s5 85 rfl rfl⟩
set_option maxRecDepth 100000 in
theorem lmX11_360 : Cond.methodLink RX11 360 yX11_becomes ∈ jw := jw_s6 193 rfl rfl
set_option maxRecDepth 100000 in
theorem lmX11_363 : Cond.methodLink RX11 363 yX11_reads ∈ jw := jw_s6 108 rfl rfl
set_option maxRecDepth 100000 in
theorem lmX11_366 : Cond.methodLink RX11 366 yX11_keeps ∈ jw := jw_s6 189 rfl rfl
set_option maxRecDepth 100000 in
theorem lfX11_370 : jF RX11 370 12 55 := ⟨by decide, by decide, jw_s5 91 rfl rfl⟩
set_option maxRecDepth 100000 in
theorem lmX11_386 : Cond.methodLink RX11 386 yX11_part ∈ jw := jw_s6 205 rfl rfl
set_option maxRecDepth 100000 in
theorem lmX11_390 : Cond.methodLink RX11 390 yX11_change ∈ jw := jw_s6 213 rfl rfl
set_option maxRecDepth 100000 in
theorem lmX11_393 : Cond.methodLink RX11 393 yX11_isVersion ∈ jw := jw_s6 201 rfl rfl
set_option maxRecDepth 100000 in
theorem lmX11_396 : Cond.methodLink RX11 396 yX11_changes ∈ jw := jw_s6 209 rfl rfl
set_option maxRecDepth 100000 in
theorem lfX11_399 : jF RX11 399 12 58 := ⟨by decide, by decide, jw_s5 94 rfl rfl⟩
set_option maxRecDepth 100000 in
theorem lmX11_402 : Cond.methodLink RX11 402 yX11_takesText ∈ jw := jw_s6 221 rfl rfl
set_option maxRecDepth 100000 in
theorem lmX11_408 : Cond.methodLink RX11 408 yX11_isIn ∈ jw := jw_s6 233 rfl rfl
set_option maxRecDepth 100000 in
theorem lmX11_405 : Cond.methodLink RX11 405 yX11_worldMany ∈ jw := jw_s6 229 rfl rfl
set_option maxRecDepth 100000 in
theorem lfX11_411 : jF RX11 411 12 63 := ⟨by decide, by decide, jw_s5 99 rfl rfl⟩
set_option maxRecDepth 100000 in
theorem lmX11_414 : Cond.methodLink RX11 414 yX11_isClause ∈ jw := jw_s7 13 rfl rfl
set_option maxRecDepth 100000 in
theorem lmX11_417 : Cond.methodLink RX11 417 yX11_isCase ∈ jw := jw_s7 25 rfl rfl
set_option maxRecDepth 100000 in
theorem lmX11_420 : Cond.methodLink RX11 420 yX11_isSo ∈ jw := jw_s7 29 rfl rfl
set_option maxRecDepth 100000 in
theorem lfX11_423 : jF RX11 423 12 65 := ⟨by decide, by decide, jw_s5 101 rfl rfl⟩
set_option maxRecDepth 100000 in
theorem lmX11_426 : Cond.methodLink RX11 426 yX11_outcomeOf ∈ jw := jw_s7 41 rfl rfl
set_option maxRecDepth 100000 in
theorem lmX11_429 : Cond.methodLink RX11 429 yX11_finds ∈ jw := jw_s7 37 rfl rfl
set_option maxRecDepth 100000 in
theorem lmX11_433 : Cond.methodLink RX11 433 yX11_likewise ∈ jw := jw_s7 61 rfl rfl
set_option maxRecDepth 100000 in
theorem lmX11_437 : Cond.methodLink RX11 437 yX11_leastChange ∈ jw := jw_s7 57 rfl rfl
set_option maxRecDepth 100000 in
theorem lmX11_440 : Cond.methodLink RX11 440 yX11_quarrels ∈ jw := jw_s7 69 rfl rfl
set_option maxRecDepth 100000 in
theorem lfX11_443 : jF RX11 443 12 70 := ⟨by decide, by decide, jw_s5 106 rfl rfl⟩
set_option maxRecDepth 100000 in
theorem lmX11_446 : Cond.methodLink RX11 446 yX11_outcome ∈ jw := jw_s7 89 rfl rfl
set_option maxRecDepth 100000 in
theorem lMJ13_bitCount_95d88 : jMS yJ13_bitCount_95d88 cJ13_bitCount_95d88 2 (some .int) 1 := ⟨⟨by decide, by decide⟩, by decide +kernel, jw_s4 77 rfl rfl, jw_s1 20 rfl rfl, jw_s4 78 rfl rfl⟩
set_option maxRecDepth 100000 in
theorem lMJ13_numberOfTrailingZeros_95d88 : jMS yJ13_numberOfTrailingZeros_95d88 cJ13_numberOfTrailingZeros_95d88 3 (some .int) 1 := ⟨⟨by decide, by decide⟩, by decide +kernel, jw_s4 195 rfl rfl, jw_s1 20 rfl rfl, jw_s4 196 rfl rfl⟩
set_option maxRecDepth 100000 in
theorem lMJ6_bitCount_0f7a4 : jMS yJ6_bitCount_0f7a4 cJ6_bitCount_0f7a4 1 (some .int) 1 := ⟨⟨by decide, by decide⟩, by decide +kernel, jw_s4 106 rfl rfl, jw_s1 21 rfl rfl, jw_s4 107 rfl rfl⟩
set_option maxRecDepth 100000 in
theorem lMJ6_numberOfTrailingZeros_0f7a4 : jMS yJ6_numberOfTrailingZeros_0f7a4 cJ6_numberOfTrailingZeros_0f7a4 2 (some .int) 1 := ⟨⟨by decide, by decide⟩, by decide +kernel, jw_s4 198 rfl rfl, jw_s1 21 rfl rfl, jw_s4 199 rfl rfl⟩
set_option maxRecDepth 100000 in
theorem lMJ7_checkLength_df160 : jMS yJ7_checkLength_df160 cJ7_checkLength_df160 2 none 2 := ⟨⟨by decide, by decide⟩, by decide +kernel, jw_s3 179 rfl rfl, jw_s1 17 rfl rfl, jw_s3 180 rfl rfl⟩
set_option maxRecDepth 100000 in
theorem lMJ7_copyOfRangeLong_23910 : jMS yJ7_copyOfRangeLong_23910 cJ7_copyOfRangeLong_23910 5 (some (.array .long)) 3 := ⟨⟨by decide, by decide⟩, by decide +kernel, jw_s3 176 rfl rfl, jw_s1 17 rfl rfl, jw_s3 177 rfl rfl⟩
set_option maxRecDepth 100000 in
theorem lMJ7_copyOfRange_23910 : jMS yJ7_copyOfRange_23910 cJ7_copyOfRange_23910 3 (some (.array .long)) 3 := ⟨⟨by decide, by decide⟩, by decide +kernel, jw_s3 173 rfl rfl, jw_s1 17 rfl rfl, jw_s3 174 rfl rfl⟩
set_option maxRecDepth 100000 in
theorem lMX0_daysOn : jMS yX0_daysOn cX0_daysOn 2 (some .int) 2 := ⟨⟨by decide, by decide⟩, by decide +kernel, jw_s5 19 rfl rfl, jw_s1 13 rfl rfl, jw_s5 20 rfl rfl⟩
set_option maxRecDepth 100000 in
theorem lMX0_isDay : jMS yX0_isDay cX0_isDay 1 (some .boolean) 1 := ⟨⟨by decide, by decide⟩, by decide +kernel, jw_s5 3 rfl rfl, jw_s1 13 rfl rfl, jw_s5 4 rfl rfl⟩
set_option maxRecDepth 100000 in
theorem lMX0_isFree : jMV 1 yX0_isFree cX0_isFree 2 (some .boolean) 1 := ⟨by decide, rfl, ⟨by decide, by decide⟩, by decide +kernel, jw_s5 7 rfl rfl, jw_s0 26 rfl rfl, jw_s1 13 rfl rfl, jw_s5 8 rfl rfl⟩
set_option maxRecDepth 100000 in
theorem lMX0_mark : jMV 1 yX0_mark cX0_mark 3 (some .boolean) 2 := ⟨by decide, rfl, ⟨by decide, by decide⟩, by decide +kernel, jw_s4 239 rfl rfl, jw_s5 0 rfl rfl, jw_s1 13 rfl rfl, jw_s5 1 rfl rfl⟩
set_option maxRecDepth 100000 in
theorem lMX0_workdaysOn : jMV 1 yX0_workdaysOn cX0_workdaysOn 5 (some .int) 2 := ⟨by decide, rfl, ⟨by decide, by decide⟩, by decide +kernel, jw_s5 15 rfl rfl, jw_s5 16 rfl rfl, jw_s1 13 rfl rfl, jw_s5 17 rfl rfl⟩
set_option maxRecDepth 100000 in
theorem lMX10_caseCount : jMV 11 yX10_caseCount cX10_caseCount 1 (some .int) 0 := ⟨by decide, rfl, ⟨by decide, by decide⟩, by decide +kernel, jw_s2 175 rfl rfl, jw_s0 5 rfl rfl, jw_s1 1 rfl rfl, jw_s2 176 rfl rfl⟩
set_option maxRecDepth 100000 in
theorem lMX10_clauseAt : jMV 11 yX10_clauseAt cX10_clauseAt 4 (some (.object "ClauseBench$Clause")) 2 := ⟨by decide, rfl, ⟨by decide, by decide⟩, by decide +kernel, jw_s4 102 rfl rfl, jw_s0 22 rfl rfl, jw_s1 1 rfl rfl, jw_s4 103 rfl rfl⟩
set_option maxRecDepth 100000 in
theorem lMX10_clauseCount : jMV 11 yX10_clauseCount cX10_clauseCount 3 (some .int) 1 := ⟨by decide, rfl, ⟨by decide, by decide⟩, by decide +kernel, jw_s5 27 rfl rfl, jw_s0 27 rfl rfl, jw_s1 1 rfl rfl, jw_s5 28 rfl rfl⟩
set_option maxRecDepth 100000 in
theorem lMX10_isCase : jMV 11 yX10_isCase cX10_isCase 2 (some .boolean) 1 := ⟨by decide, rfl, ⟨by decide, by decide⟩, by decide +kernel, jw_s4 123 rfl rfl, jw_s0 23 rfl rfl, jw_s1 1 rfl rfl, jw_s4 124 rfl rfl⟩
set_option maxRecDepth 100000 in
theorem lMX10_isFreeWord : jMS yX10_isFreeWord cX10_isFreeWord 2 (some .boolean) 1 := ⟨⟨by decide, by decide⟩, by decide +kernel, jw_s2 160 rfl rfl, jw_s1 1 rfl rfl, jw_s2 161 rfl rfl⟩
set_option maxRecDepth 100000 in
theorem lMX10_isNumber : jMS yX10_isNumber cX10_isNumber 2 (some .boolean) 1 := ⟨⟨by decide, by decide⟩, by decide +kernel, jw_s3 143 rfl rfl, jw_s1 1 rfl rfl, jw_s3 144 rfl rfl⟩
set_option maxRecDepth 100000 in
theorem lMX10_isOurs : jMS yX10_isOurs cX10_isOurs 2 (some .boolean) 1 := ⟨⟨by decide, by decide⟩, by decide +kernel, jw_s2 152 rfl rfl, jw_s1 1 rfl rfl, jw_s2 153 rfl rfl⟩
set_option maxRecDepth 100000 in
theorem lMX10_keyAt : jMV 11 yX10_keyAt cX10_keyAt 5 (some .int) 3 := ⟨by decide, rfl, ⟨by decide, by decide⟩, by decide +kernel, jw_s4 152 rfl rfl, jw_s0 24 rfl rfl, jw_s1 1 rfl rfl, jw_s4 153 rfl rfl⟩
set_option maxRecDepth 100000 in
theorem lMX10_outcomes : jMV 11 yX10_outcomes cX10_outcomes 4 (some .int) 2 := ⟨by decide, rfl, ⟨by decide, by decide⟩, by decide +kernel, jw_s4 130 rfl rfl, jw_s4 131 rfl rfl, jw_s1 1 rfl rfl, jw_s4 132 rfl rfl⟩
set_option maxRecDepth 100000 in
theorem lMX10_useTape : jMV 11 yX10_useTape cX10_useTape 1 none 0 := ⟨by decide, rfl, ⟨by decide, by decide⟩, by decide +kernel, jw_s2 87 rfl rfl, jw_s0 0 rfl rfl, jw_s1 1 rfl rfl, jw_s2 88 rfl rfl⟩
set_option maxRecDepth 100000 in
theorem lMX10_versionAt : jMV 11 yX10_versionAt cX10_versionAt 2 (some (.object "ClauseBench$Version")) 1 := ⟨by decide, rfl, ⟨by decide, by decide⟩, by decide +kernel, jw_s3 208 rfl rfl, jw_s0 18 rfl rfl, jw_s1 1 rfl rfl, jw_s3 209 rfl rfl⟩
set_option maxRecDepth 100000 in
theorem lMX11_actOf : jMV 12 yX11_actOf cX11_actOf 3 (some .int) 0 := ⟨by decide, rfl, ⟨by decide, by decide⟩, by decide +kernel, jw_s6 175 rfl rfl, jw_s0 57 rfl rfl, jw_s1 14 rfl rfl, jw_s6 176 rfl rfl⟩
set_option maxRecDepth 100000 in
theorem lMX11_becomes : jMV 12 yX11_becomes cX11_becomes 6 none 1 := ⟨by decide, rfl, ⟨by decide, by decide⟩, by decide +kernel, jw_s6 195 rfl rfl, jw_s0 62 rfl rfl, jw_s1 14 rfl rfl, jw_s6 196 rfl rfl⟩
set_option maxRecDepth 100000 in
theorem lMX11_begins : jMV 12 yX11_begins cX11_begins 1 none 0 := ⟨by decide, rfl, ⟨by decide, by decide⟩, by decide +kernel, jw_s6 32 rfl rfl, jw_s0 30 rfl rfl, jw_s1 14 rfl rfl, jw_s6 33 rfl rfl⟩
set_option maxRecDepth 100000 in
theorem lMX11_beyond : jMV 12 yX11_beyond cX11_beyond 2 (some .boolean) 0 := ⟨by decide, rfl, ⟨by decide, by decide⟩, by decide +kernel, jw_s6 187 rfl rfl, jw_s0 60 rfl rfl, jw_s1 14 rfl rfl, jw_s6 188 rfl rfl⟩
set_option maxRecDepth 100000 in
theorem lMX11_byDays : jMV 12 yX11_byDays cX11_byDays 2 (some .boolean) 1 := ⟨by decide, rfl, ⟨by decide, by decide⟩, by decide +kernel, jw_s6 179 rfl rfl, jw_s0 58 rfl rfl, jw_s1 14 rfl rfl, jw_s6 180 rfl rfl⟩
set_option maxRecDepth 100000 in
theorem lMX11_change : jMV 12 yX11_change cX11_change 3 (some .boolean) 0 := ⟨by decide, rfl, ⟨by decide, by decide⟩, by decide +kernel, jw_s6 215 rfl rfl, jw_s0 66 rfl rfl, jw_s1 14 rfl rfl, jw_s6 216 rfl rfl⟩
set_option maxRecDepth 100000 in
theorem lMX11_changes : jMV 12 yX11_changes cX11_changes 4 (some .boolean) 0 := ⟨by decide, rfl, ⟨by decide, by decide⟩, by decide +kernel, jw_s6 211 rfl rfl, jw_s0 65 rfl rfl, jw_s1 14 rfl rfl, jw_s6 212 rfl rfl⟩
set_option maxRecDepth 100000 in
theorem lMX11_clause : jMV 12 yX11_clause cX11_clause 4 (some .boolean) 1 := ⟨by decide, rfl, ⟨by decide, by decide⟩, by decide +kernel, jw_s6 114 rfl rfl, jw_s0 42 rfl rfl, jw_s1 14 rfl rfl, jw_s6 115 rfl rfl⟩
set_option maxRecDepth 100000 in
theorem lMX11_condition : jMV 12 yX11_condition cX11_condition 6 (some .boolean) 0 := ⟨by decide, rfl, ⟨by decide, by decide⟩, by decide +kernel, jw_s6 138 rfl rfl, jw_s0 48 rfl rfl, jw_s1 14 rfl rfl, jw_s6 139 rfl rfl⟩
set_option maxRecDepth 100000 in
theorem lMX11_defines : jMV 12 yX11_defines cX11_defines 3 (some .boolean) 1 := ⟨by decide, rfl, ⟨by decide, by decide⟩, by decide +kernel, jw_s6 118 rfl rfl, jw_s0 43 rfl rfl, jw_s1 14 rfl rfl, jw_s6 119 rfl rfl⟩
set_option maxRecDepth 100000 in
theorem lMX11_expects : jMV 12 yX11_expects cX11_expects 3 (some .boolean) 1 := ⟨by decide, rfl, ⟨by decide, by decide⟩, by decide +kernel, jw_s6 134 rfl rfl, jw_s0 47 rfl rfl, jw_s1 14 rfl rfl, jw_s6 135 rfl rfl⟩
set_option maxRecDepth 100000 in
theorem lMX11_expectsSign : jMV 12 yX11_expectsSign cX11_expectsSign 2 (some .boolean) 1 := ⟨by decide, rfl, ⟨by decide, by decide⟩, by decide +kernel, jw_s6 167 rfl rfl, jw_s0 55 rfl rfl, jw_s1 14 rfl rfl, jw_s6 168 rfl rfl⟩
set_option maxRecDepth 100000 in
theorem lMX11_fails : jMV 12 yX11_fails cX11_fails 3 (some .boolean) 2 := ⟨by decide, rfl, ⟨by decide, by decide⟩, by decide +kernel, jw_s6 43 rfl rfl, jw_s0 32 rfl rfl, jw_s1 14 rfl rfl, jw_s6 44 rfl rfl⟩
set_option maxRecDepth 100000 in
theorem lMX11_find : jMV 12 yX11_find cX11_find 7 (some .int) 3 := ⟨by decide, rfl, ⟨by decide, by decide⟩, by decide +kernel, jw_s6 84 rfl rfl, jw_s0 37 rfl rfl, jw_s1 14 rfl rfl, jw_s6 85 rfl rfl⟩
set_option maxRecDepth 100000 in
theorem lMX11_finds : jMV 12 yX11_finds cX11_finds 7 none 2 := ⟨by decide, rfl, ⟨by decide, by decide⟩, by decide +kernel, jw_s7 39 rfl rfl, jw_s0 73 rfl rfl, jw_s1 14 rfl rfl, jw_s7 40 rfl rfl⟩
set_option maxRecDepth 100000 in
theorem lMX11_four : jMV 12 yX11_four cX11_four 3 none 1 := ⟨by decide, rfl, ⟨by decide, by decide⟩, by decide +kernel, jw_s6 16 rfl rfl, jw_s0 28 rfl rfl, jw_s1 14 rfl rfl, jw_s6 17 rfl rfl⟩
set_option maxRecDepth 100000 in
theorem lMX11_in : jMS yX11_in cX11_in 3 (some .boolean) 3 := ⟨⟨by decide, by decide⟩, by decide +kernel, jw_s6 106 rfl rfl, jw_s1 14 rfl rfl, jw_s6 107 rfl rfl⟩
set_option maxRecDepth 100000 in
theorem lMX11_isCase : jMV 12 yX11_isCase cX11_isCase 2 (some .boolean) 1 := ⟨by decide, rfl, ⟨by decide, by decide⟩, by decide +kernel, jw_s7 27 rfl rfl, jw_s0 71 rfl rfl, jw_s1 14 rfl rfl, jw_s7 28 rfl rfl⟩
set_option maxRecDepth 100000 in
theorem lMX11_isClause : jMV 12 yX11_isClause cX11_isClause 3 (some .boolean) 2 := ⟨by decide, rfl, ⟨by decide, by decide⟩, by decide +kernel, jw_s7 15 rfl rfl, jw_s0 70 rfl rfl, jw_s1 14 rfl rfl, jw_s7 16 rfl rfl⟩
set_option maxRecDepth 100000 in
theorem lMX11_isDigit : jMS yX11_isDigit cX11_isDigit 1 (some .boolean) 1 := ⟨⟨by decide, by decide⟩, by decide +kernel, jw_s6 46 rfl rfl, jw_s1 14 rfl rfl, jw_s6 47 rfl rfl⟩
set_option maxRecDepth 100000 in
theorem lMX11_isIn : jMV 12 yX11_isIn cX11_isIn 2 (some .boolean) 1 := ⟨by decide, rfl, ⟨by decide, by decide⟩, by decide +kernel, jw_s6 235 rfl rfl, jw_s0 69 rfl rfl, jw_s1 14 rfl rfl, jw_s6 236 rfl rfl⟩
set_option maxRecDepth 100000 in
theorem lMX11_isLetter : jMS yX11_isLetter cX11_isLetter 1 (some .boolean) 1 := ⟨⟨by decide, by decide⟩, by decide +kernel, jw_s6 39 rfl rfl, jw_s1 14 rfl rfl, jw_s6 40 rfl rfl⟩
set_option maxRecDepth 100000 in
theorem lMX11_isName : jMV 12 yX11_isName cX11_isName 1 (some .boolean) 0 := ⟨by decide, rfl, ⟨by decide, by decide⟩, by decide +kernel, jw_s6 50 rfl rfl, jw_s0 33 rfl rfl, jw_s1 14 rfl rfl, jw_s6 51 rfl rfl⟩
set_option maxRecDepth 100000 in
theorem lMX11_isOwn : jMV 12 yX11_isOwn cX11_isOwn 1 (some .boolean) 0 := ⟨by decide, rfl, ⟨by decide, by decide⟩, by decide +kernel, jw_s6 54 rfl rfl, jw_s0 34 rfl rfl, jw_s1 14 rfl rfl, jw_s6 55 rfl rfl⟩
set_option maxRecDepth 100000 in
theorem lMX11_isPlace : jMS yX11_isPlace cX11_isPlace 1 (some .boolean) 1 := ⟨⟨by decide, by decide⟩, by decide +kernel, jw_s6 103 rfl rfl, jw_s1 14 rfl rfl, jw_s6 104 rfl rfl⟩
set_option maxRecDepth 100000 in
theorem lMX11_isSign : jMV 12 yX11_isSign cX11_isSign 2 (some .boolean) 1 := ⟨by decide, rfl, ⟨by decide, by decide⟩, by decide +kernel, jw_s6 146 rfl rfl, jw_s0 50 rfl rfl, jw_s1 14 rfl rfl, jw_s6 147 rfl rfl⟩
set_option maxRecDepth 100000 in
theorem lMX11_isSo : jMV 12 yX11_isSo cX11_isSo 4 (some .boolean) 3 := ⟨by decide, rfl, ⟨by decide, by decide⟩, by decide +kernel, jw_s7 31 rfl rfl, jw_s0 72 rfl rfl, jw_s1 14 rfl rfl, jw_s7 32 rfl rfl⟩
set_option maxRecDepth 100000 in
theorem lMX11_isThere : jMV 12 yX11_isThere cX11_isThere 2 (some .boolean) 1 := ⟨by decide, rfl, ⟨by decide, by decide⟩, by decide +kernel, jw_s6 122 rfl rfl, jw_s0 44 rfl rfl, jw_s1 14 rfl rfl, jw_s6 123 rfl rfl⟩
set_option maxRecDepth 100000 in
theorem lMX11_isVersion : jMV 12 yX11_isVersion cX11_isVersion 2 (some .boolean) 1 := ⟨by decide, rfl, ⟨by decide, by decide⟩, by decide +kernel, jw_s6 203 rfl rfl, jw_s0 63 rfl rfl, jw_s1 14 rfl rfl, jw_s6 204 rfl rfl⟩
set_option maxRecDepth 100000 in
theorem lMX11_isWord : jMV 12 yX11_isWord cX11_isWord 3 (some .boolean) 1 := ⟨by decide, rfl, ⟨by decide, by decide⟩, by decide +kernel, jw_s6 59 rfl rfl, jw_s0 35 rfl rfl, jw_s1 14 rfl rfl, jw_s6 60 rfl rfl⟩
set_option maxRecDepth 100000 in
theorem lMX11_joins : jMV 12 yX11_joins cX11_joins 5 none 1 := ⟨by decide, rfl, ⟨by decide, by decide⟩, by decide +kernel, jw_s6 154 rfl rfl, jw_s0 52 rfl rfl, jw_s1 14 rfl rfl, jw_s6 155 rfl rfl⟩
set_option maxRecDepth 100000 in
theorem lMX11_keeps : jMV 12 yX11_keeps cX11_keeps 3 (some .int) 1 := ⟨by decide, rfl, ⟨by decide, by decide⟩, by decide +kernel, jw_s6 191 rfl rfl, jw_s0 61 rfl rfl, jw_s1 14 rfl rfl, jw_s6 192 rfl rfl⟩
set_option maxRecDepth 100000 in
theorem lMX11_keepsLabel : jMV 12 yX11_keepsLabel cX11_keepsLabel 3 none 1 := ⟨by decide, rfl, ⟨by decide, by decide⟩, by decide +kernel, jw_s6 130 rfl rfl, jw_s0 46 rfl rfl, jw_s1 14 rfl rfl, jw_s6 131 rfl rfl⟩
set_option maxRecDepth 100000 in
theorem lMX11_labelled : jMV 12 yX11_labelled cX11_labelled 7 (some .int) 2 := ⟨by decide, rfl, ⟨by decide, by decide⟩, by decide +kernel, jw_s6 163 rfl rfl, jw_s0 54 rfl rfl, jw_s1 14 rfl rfl, jw_s6 164 rfl rfl⟩
set_option maxRecDepth 100000 in
theorem lMX11_leastChange : jMV 12 yX11_leastChange cX11_leastChange 6 (some .int) 3 := ⟨by decide, rfl, ⟨by decide, by decide⟩, by decide +kernel, jw_s7 59 rfl rfl, jw_s0 75 rfl rfl, jw_s1 14 rfl rfl, jw_s7 60 rfl rfl⟩
set_option maxRecDepth 100000 in
theorem lMX11_letters : jMV 12 yX11_letters cX11_letters 4 (some .long) 0 := ⟨by decide, rfl, ⟨by decide, by decide⟩, by decide +kernel, jw_s6 63 rfl rfl, jw_s0 36 rfl rfl, jw_s1 14 rfl rfl, jw_s6 64 rfl rfl⟩
set_option maxRecDepth 100000 in
theorem lMX11_likewise : jMV 12 yX11_likewise cX11_likewise 9 (some .int) 3 := ⟨by decide, rfl, ⟨by decide, by decide⟩, by decide +kernel, jw_s7 63 rfl rfl, jw_s0 76 rfl rfl, jw_s1 14 rfl rfl, jw_s7 64 rfl rfl⟩
set_option maxRecDepth 100000 in
theorem lMX11_looks : jMV 12 yX11_looks cX11_looks 2 (some .boolean) 0 := ⟨by decide, rfl, ⟨by decide, by decide⟩, by decide +kernel, jw_s6 36 rfl rfl, jw_s0 31 rfl rfl, jw_s1 14 rfl rfl, jw_s6 37 rfl rfl⟩
set_option maxRecDepth 100000 in
theorem lMX11_name : jMV 12 yX11_name cX11_name 5 none 3 := ⟨by decide, rfl, ⟨by decide, by decide⟩, by decide +kernel, jw_s6 88 rfl rfl, jw_s0 38 rfl rfl, jw_s1 14 rfl rfl, jw_s6 89 rfl rfl⟩
set_option maxRecDepth 100000 in
theorem lMX11_one : jMV 12 yX11_one cX11_one 4 (some .boolean) 0 := ⟨by decide, rfl, ⟨by decide, by decide⟩, by decide +kernel, jw_s6 150 rfl rfl, jw_s0 51 rfl rfl, jw_s1 14 rfl rfl, jw_s6 151 rfl rfl⟩
set_option maxRecDepth 100000 in
theorem lMX11_opens : jMV 12 yX11_opens cX11_opens 3 none 1 := ⟨by decide, rfl, ⟨by decide, by decide⟩, by decide +kernel, jw_s6 142 rfl rfl, jw_s0 49 rfl rfl, jw_s1 14 rfl rfl, jw_s6 143 rfl rfl⟩
set_option maxRecDepth 100000 in
theorem lMX11_ors : jMV 12 yX11_ors cX11_ors 3 none 1 := ⟨by decide, rfl, ⟨by decide, by decide⟩, by decide +kernel, jw_s6 159 rfl rfl, jw_s0 53 rfl rfl, jw_s1 14 rfl rfl, jw_s6 160 rfl rfl⟩
set_option maxRecDepth 100000 in
theorem lMX11_outcome : jMV 12 yX11_outcome cX11_outcome 7 (some .int) 4 := ⟨by decide, rfl, ⟨by decide, by decide⟩, by decide +kernel, jw_s7 46 rfl rfl, jw_s7 47 rfl rfl, jw_s1 14 rfl rfl, jw_s7 48 rfl rfl⟩
set_option maxRecDepth 100000 in
theorem lMX11_outcomeOf : jMV 12 yX11_outcomeOf cX11_outcomeOf 5 (some .int) 2 := ⟨by decide, rfl, ⟨by decide, by decide⟩, by decide +kernel, jw_s7 43 rfl rfl, jw_s0 74 rfl rfl, jw_s1 14 rfl rfl, jw_s7 44 rfl rfl⟩
set_option maxRecDepth 100000 in
theorem lMX11_over : jMV 12 yX11_over cX11_over 5 (some .boolean) 2 := ⟨by decide, rfl, ⟨by decide, by decide⟩, by decide +kernel, jw_s6 183 rfl rfl, jw_s0 59 rfl rfl, jw_s1 14 rfl rfl, jw_s6 184 rfl rfl⟩
set_option maxRecDepth 100000 in
theorem lMX11_part : jMV 12 yX11_part cX11_part 6 none 4 := ⟨by decide, rfl, ⟨by decide, by decide⟩, by decide +kernel, jw_s6 207 rfl rfl, jw_s0 64 rfl rfl, jw_s1 14 rfl rfl, jw_s6 208 rfl rfl⟩
set_option maxRecDepth 100000 in
theorem lMX11_partyOf : jMV 12 yX11_partyOf cX11_partyOf 3 (some .int) 0 := ⟨by decide, rfl, ⟨by decide, by decide⟩, by decide +kernel, jw_s6 171 rfl rfl, jw_s0 56 rfl rfl, jw_s1 14 rfl rfl, jw_s6 172 rfl rfl⟩
set_option maxRecDepth 100000 in
theorem lMX11_placed : jMV 12 yX11_placed cX11_placed 8 (some .int) 1 := ⟨by decide, rfl, ⟨by decide, by decide⟩, by decide +kernel, jw_s6 126 rfl rfl, jw_s0 45 rfl rfl, jw_s1 14 rfl rfl, jw_s6 127 rfl rfl⟩
set_option maxRecDepth 100000 in
theorem lMX11_puts : jMV 12 yX11_puts cX11_puts 2 none 1 := ⟨by decide, rfl, ⟨by decide, by decide⟩, by decide +kernel, jw_s6 96 rfl rfl, jw_s0 40 rfl rfl, jw_s1 14 rfl rfl, jw_s6 97 rfl rfl⟩
set_option maxRecDepth 100000 in
theorem lMX11_quarrels : jMV 12 yX11_quarrels cX11_quarrels 7 (some .boolean) 2 := ⟨by decide, rfl, ⟨by decide, by decide⟩, by decide +kernel, jw_s7 71 rfl rfl, jw_s0 77 rfl rfl, jw_s1 14 rfl rfl, jw_s7 72 rfl rfl⟩
set_option maxRecDepth 100000 in
theorem lMX11_reads : jMV 12 yX11_reads cX11_reads 10 (some .boolean) 0 := ⟨by decide, rfl, ⟨by decide, by decide⟩, by decide +kernel, jw_s6 110 rfl rfl, jw_s0 41 rfl rfl, jw_s1 14 rfl rfl, jw_s6 111 rfl rfl⟩
set_option maxRecDepth 100000 in
theorem lMX11_takes : jMV 12 yX11_takes cX11_takes 3 (some .boolean) 0 := ⟨by decide, rfl, ⟨by decide, by decide⟩, by decide +kernel, jw_s6 92 rfl rfl, jw_s0 39 rfl rfl, jw_s1 14 rfl rfl, jw_s6 93 rfl rfl⟩
set_option maxRecDepth 100000 in
theorem lMX11_takesTape : jMV 12 yX11_takesTape cX11_takesTape 2 none 0 := ⟨by decide, rfl, ⟨by decide, by decide⟩, by decide +kernel, jw_s6 28 rfl rfl, jw_s0 29 rfl rfl, jw_s1 14 rfl rfl, jw_s6 29 rfl rfl⟩
set_option maxRecDepth 100000 in
theorem lMX11_takesText : jMV 12 yX11_takesText cX11_takesText 3 none 1 := ⟨by decide, rfl, ⟨by decide, by decide⟩, by decide +kernel, jw_s6 223 rfl rfl, jw_s0 67 rfl rfl, jw_s1 14 rfl rfl, jw_s6 224 rfl rfl⟩
set_option maxRecDepth 100000 in
theorem lMX11_worldMany : jMV 12 yX11_worldMany cX11_worldMany 3 (some .int) 0 := ⟨by decide, rfl, ⟨by decide, by decide⟩, by decide +kernel, jw_s6 231 rfl rfl, jw_s0 68 rfl rfl, jw_s1 14 rfl rfl, jw_s6 232 rfl rfl⟩
set_option maxRecDepth 100000 in
theorem lMX1_and : jMV 2 yX1_and cX1_and 3 none 1 := ⟨by decide, rfl, ⟨by decide, by decide⟩, by decide +kernel, jw_s3 106 rfl rfl, jw_s3 107 rfl rfl, jw_s1 12 rfl rfl, jw_s3 108 rfl rfl⟩
set_option maxRecDepth 100000 in
theorem lMX1_andNot : jMV 2 yX1_andNot cX1_andNot 3 none 1 := ⟨by decide, rfl, ⟨by decide, by decide⟩, by decide +kernel, jw_s3 159 rfl rfl, jw_s3 160 rfl rfl, jw_s1 12 rfl rfl, jw_s3 161 rfl rfl⟩
set_option maxRecDepth 100000 in
theorem lMX1_clear : jMV 2 yX1_clear cX1_clear 2 none 0 := ⟨by decide, rfl, ⟨by decide, by decide⟩, by decide +kernel, jw_s3 60 rfl rfl, jw_s3 61 rfl rfl, jw_s1 12 rfl rfl, jw_s3 62 rfl rfl⟩
set_option maxRecDepth 100000 in
theorem lMX1_copy : jMV 2 yX1_copy cX1_copy 3 none 1 := ⟨by decide, rfl, ⟨by decide, by decide⟩, by decide +kernel, jw_s3 94 rfl rfl, jw_s3 95 rfl rfl, jw_s1 12 rfl rfl, jw_s3 96 rfl rfl⟩
set_option maxRecDepth 100000 in
theorem lMX1_fill : jMV 2 yX1_fill cX1_fill 2 none 0 := ⟨by decide, rfl, ⟨by decide, by decide⟩, by decide +kernel, jw_s3 64 rfl rfl, jw_s3 65 rfl rfl, jw_s1 12 rfl rfl, jw_s3 66 rfl rfl⟩
set_option maxRecDepth 100000 in
theorem lMX1_flip : jMV 2 yX1_flip cX1_flip 2 none 0 := ⟨by decide, rfl, ⟨by decide, by decide⟩, by decide +kernel, jw_s3 102 rfl rfl, jw_s3 103 rfl rfl, jw_s1 12 rfl rfl, jw_s3 104 rfl rfl⟩
set_option maxRecDepth 100000 in
theorem lMX1_has : jMV 2 yX1_has cX1_has 3 (some .boolean) 1 := ⟨by decide, rfl, ⟨by decide, by decide⟩, by decide +kernel, jw_s4 126 rfl rfl, jw_s4 127 rfl rfl, jw_s1 12 rfl rfl, jw_s4 128 rfl rfl⟩
set_option maxRecDepth 100000 in
theorem lMX1_init : jMI yX1_init cX1_init 1 0 := ⟨rfl, ⟨by decide, by decide⟩, by decide +kernel, jw_s1 177 rfl rfl, jw_s1 12 rfl rfl, jw_s1 178 rfl rfl⟩
set_option maxRecDepth 100000 in
theorem lMX1_least : jMV 2 yX1_least cX1_least 2 (some .int) 0 := ⟨by decide, rfl, ⟨by decide, by decide⟩, by decide +kernel, jw_s4 191 rfl rfl, jw_s4 192 rfl rfl, jw_s1 12 rfl rfl, jw_s4 193 rfl rfl⟩
set_option maxRecDepth 100000 in
theorem lMX1_or : jMV 2 yX1_or cX1_or 3 none 1 := ⟨by decide, rfl, ⟨by decide, by decide⟩, by decide +kernel, jw_s3 111 rfl rfl, jw_s3 112 rfl rfl, jw_s1 12 rfl rfl, jw_s3 113 rfl rfl⟩
set_option maxRecDepth 100000 in
theorem lMX1_setFact : jMV 2 yX1_setFact cX1_setFact 3 none 1 := ⟨by decide, rfl, ⟨by decide, by decide⟩, by decide +kernel, jw_s3 88 rfl rfl, jw_s3 89 rfl rfl, jw_s1 12 rfl rfl, jw_s3 90 rfl rfl⟩
set_option maxRecDepth 100000 in
theorem lMX1_setFirst : jMV 2 yX1_setFirst cX1_setFirst 4 none 1 := ⟨by decide, rfl, ⟨by decide, by decide⟩, by decide +kernel, jw_s2 178 rfl rfl, jw_s2 179 rfl rfl, jw_s1 12 rfl rfl, jw_s2 180 rfl rfl⟩
set_option maxRecDepth 100000 in
theorem lMX1_total : jMV 2 yX1_total cX1_total 3 (some .int) 0 := ⟨by decide, rfl, ⟨by decide, by decide⟩, by decide +kernel, jw_s4 73 rfl rfl, jw_s4 74 rfl rfl, jw_s1 12 rfl rfl, jw_s4 75 rfl rfl⟩
set_option maxRecDepth 100000 in
theorem lMX1_xor : jMV 2 yX1_xor cX1_xor 3 none 1 := ⟨by decide, rfl, ⟨by decide, by decide⟩, by decide +kernel, jw_s4 187 rfl rfl, jw_s4 188 rfl rfl, jw_s1 12 rfl rfl, jw_s4 189 rfl rfl⟩
set_option maxRecDepth 100000 in
theorem lMX2_init : jMI yX2_init cX2_init 1 0 := ⟨rfl, ⟨by decide, by decide⟩, by decide +kernel, jw_s2 219 rfl rfl, jw_s1 16 rfl rfl, jw_s2 220 rfl rfl⟩
set_option maxRecDepth 100000 in
theorem lMX2_isDefine : jMV 3 yX2_isDefine cX2_isDefine 1 (some .boolean) 0 := ⟨by decide, rfl, ⟨by decide, by decide⟩, by decide +kernel, jw_s3 235 rfl rfl, jw_s3 236 rfl rfl, jw_s1 16 rfl rfl, jw_s3 237 rfl rfl⟩
set_option maxRecDepth 100000 in
theorem lMX2_key : jMV 3 yX2_key cX2_key 2 (some .int) 0 := ⟨by decide, rfl, ⟨by decide, by decide⟩, by decide +kernel, jw_s4 140 rfl rfl, jw_s4 141 rfl rfl, jw_s1 16 rfl rfl, jw_s4 142 rfl rfl⟩
set_option maxRecDepth 100000 in
theorem lMX2_keyAct : jMS yX2_keyAct cX2_keyAct 1 (some .int) 1 := ⟨⟨by decide, by decide⟩, by decide +kernel, jw_s4 162 rfl rfl, jw_s1 16 rfl rfl, jw_s4 163 rfl rfl⟩
set_option maxRecDepth 100000 in
theorem lMX2_keyKind : jMS yX2_keyKind cX2_keyKind 1 (some .int) 1 := ⟨⟨by decide, by decide⟩, by decide +kernel, jw_s4 156 rfl rfl, jw_s1 16 rfl rfl, jw_s4 157 rfl rfl⟩
set_option maxRecDepth 100000 in
theorem lMX2_keyNumber : jMS yX2_keyNumber cX2_keyNumber 1 (some .int) 1 := ⟨⟨by decide, by decide⟩, by decide +kernel, jw_s4 165 rfl rfl, jw_s1 16 rfl rfl, jw_s4 166 rfl rfl⟩
set_option maxRecDepth 100000 in
theorem lMX2_keyParty : jMS yX2_keyParty cX2_keyParty 1 (some .int) 1 := ⟨⟨by decide, by decide⟩, by decide +kernel, jw_s4 159 rfl rfl, jw_s1 16 rfl rfl, jw_s4 160 rfl rfl⟩
set_option maxRecDepth 100000 in
theorem lMX2_keyWorkdays : jMS yX2_keyWorkdays cX2_keyWorkdays 1 (some .int) 1 := ⟨⟨by decide, by decide⟩, by decide +kernel, jw_s4 168 rfl rfl, jw_s1 16 rfl rfl, jw_s4 169 rfl rfl⟩
set_option maxRecDepth 100000 in
theorem lMX3_closeLevels : jMV 4 yX3_closeLevels cX3_closeLevels 2 none 0 := ⟨by decide, rfl, ⟨by decide, by decide⟩, by decide +kernel, jw_s3 99 rfl rfl, jw_s0 11 rfl rfl, jw_s1 11 rfl rfl, jw_s3 100 rfl rfl⟩
set_option maxRecDepth 100000 in
theorem lMX3_finish : jMV 4 yX3_finish cX3_finish 1 (some .boolean) 0 := ⟨by decide, rfl, ⟨by decide, by decide⟩, by decide +kernel, jw_s3 118 rfl rfl, jw_s0 12 rfl rfl, jw_s1 11 rfl rfl, jw_s3 119 rfl rfl⟩
set_option maxRecDepth 100000 in
theorem lMX3_init : jMI yX3_init cX3_init 4 2 := ⟨rfl, ⟨by decide, by decide⟩, by decide +kernel, jw_s1 170 rfl rfl, jw_s1 11 rfl rfl, jw_s1 171 rfl rfl⟩
set_option maxRecDepth 100000 in
theorem lMX3_read : jMV 4 yX3_read cX3_read 6 (some .boolean) 2 := ⟨by decide, rfl, ⟨by decide, by decide⟩, by decide +kernel, jw_s3 56 rfl rfl, jw_s3 57 rfl rfl, jw_s1 11 rfl rfl, jw_s3 58 rfl rfl⟩
set_option maxRecDepth 100000 in
theorem lMX3_readOpenings : jMV 4 yX3_readOpenings cX3_readOpenings 4 (some .boolean) 0 := ⟨by decide, rfl, ⟨by decide, by decide⟩, by decide +kernel, jw_s3 69 rfl rfl, jw_s0 9 rfl rfl, jw_s1 11 rfl rfl, jw_s3 70 rfl rfl⟩
set_option maxRecDepth 100000 in
theorem lMX3_readOperand : jMV 4 yX3_readOperand cX3_readOperand 7 (some .boolean) 2 := ⟨by decide, rfl, ⟨by decide, by decide⟩, by decide +kernel, jw_s3 78 rfl rfl, jw_s0 10 rfl rfl, jw_s1 11 rfl rfl, jw_s3 79 rfl rfl⟩
set_option maxRecDepth 100000 in
theorem lMX4_kindOf : jMS yX4_kindOf cX4_kindOf 2 (some .int) 1 := ⟨⟨by decide, by decide⟩, by decide +kernel, jw_s3 127 rfl rfl, jw_s1 10 rfl rfl, jw_s3 128 rfl rfl⟩
set_option maxRecDepth 100000 in
theorem lMX4_readClause : jMV 5 yX4_readClause cX4_readClause 6 (some (.object "ClauseBench$Clause")) 2 := ⟨by decide, rfl, ⟨by decide, by decide⟩, by decide +kernel, jw_s2 214 rfl rfl, jw_s0 6 rfl rfl, jw_s1 10 rfl rfl, jw_s2 215 rfl rfl⟩
set_option maxRecDepth 100000 in
theorem lMX4_readDeed : jMV 5 yX4_readDeed cX4_readDeed 2 (some .boolean) 1 := ⟨by decide, rfl, ⟨by decide, by decide⟩, by decide +kernel, jw_s3 123 rfl rfl, jw_s0 13 rfl rfl, jw_s1 10 rfl rfl, jw_s3 124 rfl rfl⟩
set_option maxRecDepth 100000 in
theorem lMX4_readDefine : jMV 5 yX4_readDefine cX4_readDefine 2 (some .boolean) 1 := ⟨by decide, rfl, ⟨by decide, by decide⟩, by decide +kernel, jw_s3 37 rfl rfl, jw_s0 7 rfl rfl, jw_s1 10 rfl rfl, jw_s3 38 rfl rfl⟩
set_option maxRecDepth 100000 in
theorem lMX4_readFact : jMV 5 yX4_readFact cX4_readFact 3 (some .boolean) 0 := ⟨by decide, rfl, ⟨by decide, by decide⟩, by decide +kernel, jw_s2 149 rfl rfl, jw_s0 4 rfl rfl, jw_s1 10 rfl rfl, jw_s2 150 rfl rfl⟩
set_option maxRecDepth 100000 in
theorem lMX4_readFacts : jMV 5 yX4_readFacts cX4_readFacts 2 (some .boolean) 0 := ⟨by decide, rfl, ⟨by decide, by decide⟩, by decide +kernel, jw_s2 140 rfl rfl, jw_s2 141 rfl rfl, jw_s1 10 rfl rfl, jw_s2 142 rfl rfl⟩
set_option maxRecDepth 100000 in
theorem lMX4_readLabelIn : jMV 5 yX4_readLabelIn cX4_readLabelIn 5 (some .int) 1 := ⟨by decide, rfl, ⟨by decide, by decide⟩, by decide +kernel, jw_s3 225 rfl rfl, jw_s0 19 rfl rfl, jw_s1 10 rfl rfl, jw_s3 226 rfl rfl⟩
set_option maxRecDepth 100000 in
theorem lMX4_readName : jMV 5 yX4_readName cX4_readName 6 (some .boolean) 2 := ⟨by decide, rfl, ⟨by decide, by decide⟩, by decide +kernel, jw_s3 41 rfl rfl, jw_s0 8 rfl rfl, jw_s1 10 rfl rfl, jw_s3 42 rfl rfl⟩
set_option maxRecDepth 100000 in
theorem lMX4_readNumbered : jMV 5 yX4_readNumbered cX4_readNumbered 5 (some .int) 1 := ⟨by decide, rfl, ⟨by decide, by decide⟩, by decide +kernel, jw_s3 134 rfl rfl, jw_s0 14 rfl rfl, jw_s1 10 rfl rfl, jw_s3 135 rfl rfl⟩
set_option maxRecDepth 100000 in
theorem lMX4_readOver : jMV 5 yX4_readOver cX4_readOver 6 (some .boolean) 1 := ⟨by decide, rfl, ⟨by decide, by decide⟩, by decide +kernel, jw_s3 165 rfl rfl, jw_s0 17 rfl rfl, jw_s1 10 rfl rfl, jw_s3 166 rfl rfl⟩
set_option maxRecDepth 100000 in
theorem lMX4_readRider : jMV 5 yX4_readRider cX4_readRider 6 (some .boolean) 1 := ⟨by decide, rfl, ⟨by decide, by decide⟩, by decide +kernel, jw_s3 217 rfl rfl, jw_s3 218 rfl rfl, jw_s1 10 rfl rfl, jw_s3 219 rfl rfl⟩
set_option maxRecDepth 100000 in
theorem lMX4_readTail : jMV 5 yX4_readTail cX4_readTail 3 (some .boolean) 1 := ⟨by decide, rfl, ⟨by decide, by decide⟩, by decide +kernel, jw_s3 152 rfl rfl, jw_s0 16 rfl rfl, jw_s1 10 rfl rfl, jw_s3 153 rfl rfl⟩
set_option maxRecDepth 100000 in
theorem lMX4_readTerm : jMV 5 yX4_readTerm cX4_readTerm 4 (some .boolean) 1 := ⟨by decide, rfl, ⟨by decide, by decide⟩, by decide +kernel, jw_s3 139 rfl rfl, jw_s0 15 rfl rfl, jw_s1 10 rfl rfl, jw_s3 140 rfl rfl⟩
set_option maxRecDepth 100000 in
theorem lMX4_readVersion : jMV 5 yX4_readVersion cX4_readVersion 7 (some (.object "ClauseBench$Version")) 1 := ⟨by decide, rfl, ⟨by decide, by decide⟩, by decide +kernel, jw_s2 187 rfl rfl, jw_s2 188 rfl rfl, jw_s1 10 rfl rfl, jw_s2 189 rfl rfl⟩
set_option maxRecDepth 100000 in
theorem lMX4_readWorld : jMV 5 yX4_readWorld cX4_readWorld 1 (some (.object "ClauseBench$Cases")) 0 := ⟨by decide, rfl, ⟨by decide, by decide⟩, by decide +kernel, jw_s4 68 rfl rfl, jw_s4 69 rfl rfl, jw_s1 10 rfl rfl, jw_s4 70 rfl rfl⟩
set_option maxRecDepth 100000 in
theorem lMX4_replaceIn : jMS yX4_replaceIn cX4_replaceIn 2 none 2 := ⟨⟨by decide, by decide⟩, by decide +kernel, jw_s3 232 rfl rfl, jw_s1 10 rfl rfl, jw_s3 233 rfl rfl⟩
set_option maxRecDepth 100000 in
theorem lMX5_init : jMI yX5_init cX5_init 4 3 := ⟨rfl, ⟨by decide, by decide⟩, by decide +kernel, jw_s4 43 rfl rfl, jw_s1 19 rfl rfl, jw_s4 44 rfl rfl⟩
set_option maxRecDepth 100000 in
theorem lMX6_addByte : jMV 7 yX6_addByte cX6_addByte 2 none 1 := ⟨by decide, rfl, ⟨by decide, by decide⟩, by decide +kernel, jw_s2 74 rfl rfl, jw_s2 75 rfl rfl, jw_s1 8 rfl rfl, jw_s2 76 rfl rfl⟩
set_option maxRecDepth 100000 in
theorem lMX6_addFour : jMV 7 yX6_addFour cX6_addFour 2 none 1 := ⟨by decide, rfl, ⟨by decide, by decide⟩, by decide +kernel, jw_s2 70 rfl rfl, jw_s2 71 rfl rfl, jw_s1 8 rfl rfl, jw_s2 72 rfl rfl⟩
set_option maxRecDepth 100000 in
theorem lMX6_byteAt : jMV 7 yX6_byteAt cX6_byteAt 2 (some .int) 1 := ⟨by decide, rfl, ⟨by decide, by decide⟩, by decide +kernel, jw_s2 97 rfl rfl, jw_s2 98 rfl rfl, jw_s1 8 rfl rfl, jw_s2 99 rfl rfl⟩
set_option maxRecDepth 100000 in
theorem lMX6_clear : jMV 7 yX6_clear cX6_clear 1 none 0 := ⟨by decide, rfl, ⟨by decide, by decide⟩, by decide +kernel, jw_s2 136 rfl rfl, jw_s2 137 rfl rfl, jw_s1 8 rfl rfl, jw_s2 138 rfl rfl⟩
set_option maxRecDepth 100000 in
theorem lMX6_put : jMV 7 yX6_put cX6_put 4 none 1 := ⟨by decide, rfl, ⟨by decide, by decide⟩, by decide +kernel, jw_s4 8 rfl rfl, jw_s4 9 rfl rfl, jw_s1 8 rfl rfl, jw_s4 10 rfl rfl⟩
set_option maxRecDepth 100000 in
theorem lMX6_putNumber : jMV 7 yX6_putNumber cX6_putNumber 2 none 1 := ⟨by decide, rfl, ⟨by decide, by decide⟩, by decide +kernel, jw_s4 38 rfl rfl, jw_s0 21 rfl rfl, jw_s1 8 rfl rfl, jw_s4 39 rfl rfl⟩
set_option maxRecDepth 100000 in
theorem lMX6_putWord : jMV 7 yX6_putWord cX6_putWord 5 none 1 := ⟨by decide, rfl, ⟨by decide, by decide⟩, by decide +kernel, jw_s4 18 rfl rfl, jw_s0 20 rfl rfl, jw_s1 8 rfl rfl, jw_s4 19 rfl rfl⟩
set_option maxRecDepth 100000 in
theorem lMX7_add : jMV 8 yX7_add cX7_add 4 none 2 := ⟨by decide, rfl, ⟨by decide, by decide⟩, by decide +kernel, jw_s2 133 rfl rfl, jw_s0 3 rfl rfl, jw_s1 9 rfl rfl, jw_s2 134 rfl rfl⟩
set_option maxRecDepth 100000 in
theorem lMX7_fail : jMV 8 yX7_fail cX7_fail 3 (some .boolean) 1 := ⟨by decide, rfl, ⟨by decide, by decide⟩, by decide +kernel, jw_s2 156 rfl rfl, jw_s2 157 rfl rfl, jw_s1 9 rfl rfl, jw_s2 158 rfl rfl⟩
set_option maxRecDepth 100000 in
theorem lMX7_isBlank : jMS yX7_isBlank cX7_isBlank 1 (some .boolean) 1 := ⟨⟨by decide, by decide⟩, by decide +kernel, jw_s2 101 rfl rfl, jw_s1 9 rfl rfl, jw_s2 102 rfl rfl⟩
set_option maxRecDepth 100000 in
theorem lMX7_isDigit : jMS yX7_isDigit cX7_isDigit 1 (some .boolean) 1 := ⟨⟨by decide, by decide⟩, by decide +kernel, jw_s2 110 rfl rfl, jw_s1 9 rfl rfl, jw_s2 111 rfl rfl⟩
set_option maxRecDepth 100000 in
theorem lMX7_isLetter : jMS yX7_isLetter cX7_isLetter 1 (some .boolean) 1 := ⟨⟨by decide, by decide⟩, by decide +kernel, jw_s2 107 rfl rfl, jw_s1 9 rfl rfl, jw_s2 108 rfl rfl⟩
set_option maxRecDepth 100000 in
theorem lMX7_numberOf : jMS yX7_numberOf cX7_numberOf 5 (some .long) 3 := ⟨⟨by decide, by decide⟩, by decide +kernel, jw_s2 128 rfl rfl, jw_s1 9 rfl rfl, jw_s2 129 rfl rfl⟩
set_option maxRecDepth 100000 in
theorem lMX7_readSince : jMV 8 yX7_readSince cX7_readSince 2 (some (.array .long)) 1 := ⟨by decide, rfl, ⟨by decide, by decide⟩, by decide +kernel, jw_s3 169 rfl rfl, jw_s3 170 rfl rfl, jw_s1 9 rfl rfl, jw_s3 171 rfl rfl⟩
set_option maxRecDepth 100000 in
theorem lMX7_runEnd : jMS yX7_runEnd cX7_runEnd 7 (some .int) 3 := ⟨⟨by decide, by decide⟩, by decide +kernel, jw_s2 104 rfl rfl, jw_s1 9 rfl rfl, jw_s2 105 rfl rfl⟩
set_option maxRecDepth 100000 in
theorem lMX7_scan : jMV 8 yX7_scan cX7_scan 5 none 1 := ⟨by decide, rfl, ⟨by decide, by decide⟩, by decide +kernel, jw_s2 90 rfl rfl, jw_s2 91 rfl rfl, jw_s1 9 rfl rfl, jw_s2 92 rfl rfl⟩
set_option maxRecDepth 100000 in
theorem lMX7_step : jMV 8 yX7_step cX7_step 1 none 0 := ⟨by decide, rfl, ⟨by decide, by decide⟩, by decide +kernel, jw_s2 165 rfl rfl, jw_s2 166 rfl rfl, jw_s1 9 rfl rfl, jw_s2 167 rfl rfl⟩
set_option maxRecDepth 100000 in
theorem lMX7_take : jMV 8 yX7_take cX7_take 3 (some .boolean) 1 := ⟨by decide, rfl, ⟨by decide, by decide⟩, by decide +kernel, jw_s3 49 rfl rfl, jw_s3 50 rfl rfl, jw_s1 9 rfl rfl, jw_s3 51 rfl rfl⟩
set_option maxRecDepth 100000 in
theorem lMX7_token : jMV 8 yX7_token cX7_token 1 (some .long) 0 := ⟨by decide, rfl, ⟨by decide, by decide⟩, by decide +kernel, jw_s2 144 rfl rfl, jw_s2 145 rfl rfl, jw_s1 9 rfl rfl, jw_s2 146 rfl rfl⟩
set_option maxRecDepth 100000 in
theorem lMX7_tokenOf : jMV 8 yX7_tokenOf cX7_tokenOf 5 (some .long) 3 := ⟨by decide, rfl, ⟨by decide, by decide⟩, by decide +kernel, jw_s2 114 rfl rfl, jw_s0 1 rfl rfl, jw_s1 9 rfl rfl, jw_s2 115 rfl rfl⟩
set_option maxRecDepth 100000 in
theorem lMX7_wordOf : jMV 8 yX7_wordOf cX7_wordOf 7 (some .long) 3 := ⟨by decide, rfl, ⟨by decide, by decide⟩, by decide +kernel, jw_s2 119 rfl rfl, jw_s0 2 rfl rfl, jw_s1 9 rfl rfl, jw_s2 120 rfl rfl⟩
set_option maxRecDepth 100000 in
theorem lMX8_add : jMV 9 yX8_add cX8_add 2 none 1 := ⟨by decide, rfl, ⟨by decide, by decide⟩, by decide +kernel, jw_s3 193 rfl rfl, jw_s3 194 rfl rfl, jw_s1 15 rfl rfl, jw_s3 195 rfl rfl⟩
set_option maxRecDepth 100000 in
theorem lMX8_addAll : jMV 9 yX8_addAll cX8_addAll 3 none 1 := ⟨by decide, rfl, ⟨by decide, by decide⟩, by decide +kernel, jw_s3 212 rfl rfl, jw_s3 213 rfl rfl, jw_s1 15 rfl rfl, jw_s3 214 rfl rfl⟩
set_option maxRecDepth 100000 in
theorem lMX8_addOwing : jMV 9 yX8_addOwing cX8_addOwing 4 none 2 := ⟨by decide, rfl, ⟨by decide, by decide⟩, by decide +kernel, jw_s4 230 rfl rfl, jw_s4 231 rfl rfl, jw_s1 15 rfl rfl, jw_s4 232 rfl rfl⟩
set_option maxRecDepth 100000 in
theorem lMX8_addUnlike : jMV 9 yX8_addUnlike cX8_addUnlike 6 none 2 := ⟨by decide, rfl, ⟨by decide, by decide⟩, by decide +kernel, jw_s4 175 rfl rfl, jw_s4 176 rfl rfl, jw_s1 15 rfl rfl, jw_s4 177 rfl rfl⟩
set_option maxRecDepth 100000 in
theorem lMX8_at : jMV 9 yX8_at cX8_at 2 (some (.object "ClauseBench$Clause")) 1 := ⟨by decide, rfl, ⟨by decide, by decide⟩, by decide +kernel, jw_s3 84 rfl rfl, jw_s3 85 rfl rfl, jw_s1 15 rfl rfl, jw_s3 86 rfl rfl⟩
set_option maxRecDepth 100000 in
theorem lMX8_clash : jMV 9 yX8_clash cX8_clash 6 none 3 := ⟨by decide, rfl, ⟨by decide, by decide⟩, by decide +kernel, jw_s4 217 rfl rfl, jw_s4 218 rfl rfl, jw_s1 15 rfl rfl, jw_s4 219 rfl rfl⟩
set_option maxRecDepth 100000 in
theorem lMX8_compareClause : jMV 9 yX8_compareClause cX8_compareClause 6 none 3 := ⟨by decide, rfl, ⟨by decide, by decide⟩, by decide +kernel, jw_s4 206 rfl rfl, jw_s4 207 rfl rfl, jw_s1 15 rfl rfl, jw_s4 208 rfl rfl⟩
set_option maxRecDepth 100000 in
theorem lMX8_find : jMV 9 yX8_find cX8_find 5 (some .int) 2 := ⟨by decide, rfl, ⟨by decide, by decide⟩, by decide +kernel, jw_s3 44 rfl rfl, jw_s3 45 rfl rfl, jw_s1 15 rfl rfl, jw_s3 46 rfl rfl⟩
set_option maxRecDepth 100000 in
theorem lMX8_gatherKeys : jMV 9 yX8_gatherKeys cX8_gatherKeys 6 (some .int) 2 := ⟨by decide, rfl, ⟨by decide, by decide⟩, by decide +kernel, jw_s4 134 rfl rfl, jw_s4 135 rfl rfl, jw_s1 15 rfl rfl, jw_s4 136 rfl rfl⟩
set_option maxRecDepth 100000 in
theorem lMX8_init : jMI yX8_init cX8_init 3 2 := ⟨rfl, ⟨by decide, by decide⟩, by decide +kernel, jw_s2 193 rfl rfl, jw_s1 15 rfl rfl, jw_s2 194 rfl rfl⟩
set_option maxRecDepth 100000 in
theorem lMX8_insert : jMS yX8_insert cX8_insert 5 (some .int) 3 := ⟨⟨by decide, by decide⟩, by decide +kernel, jw_s4 144 rfl rfl, jw_s1 15 rfl rfl, jw_s4 145 rfl rfl⟩
set_option maxRecDepth 100000 in
theorem lMX8_putOn : jMV 9 yX8_putOn cX8_putOn 5 none 1 := ⟨by decide, rfl, ⟨by decide, by decide⟩, by decide +kernel, jw_s4 3 rfl rfl, jw_s4 4 rfl rfl, jw_s1 15 rfl rfl, jw_s4 5 rfl rfl⟩
set_option maxRecDepth 100000 in
theorem lMX8_remove : jMV 9 yX8_remove cX8_remove 3 none 1 := ⟨by decide, rfl, ⟨by decide, by decide⟩, by decide +kernel, jw_s3 228 rfl rfl, jw_s3 229 rfl rfl, jw_s1 15 rfl rfl, jw_s3 230 rfl rfl⟩
set_option maxRecDepth 100000 in
theorem lMX8_replace : jMV 9 yX8_replace cX8_replace 3 none 2 := ⟨by decide, rfl, ⟨by decide, by decide⟩, by decide +kernel, jw_s3 239 rfl rfl, jw_s4 0 rfl rfl, jw_s1 15 rfl rfl, jw_s4 1 rfl rfl⟩
set_option maxRecDepth 100000 in
theorem lMX8_setOutcome : jMV 9 yX8_setOutcome cX8_setOutcome 4 none 2 := ⟨by decide, rfl, ⟨by decide, by decide⟩, by decide +kernel, jw_s4 182 rfl rfl, jw_s0 25 rfl rfl, jw_s1 15 rfl rfl, jw_s4 183 rfl rfl⟩
set_option maxRecDepth 100000 in
theorem lMX8_settle : jMV 9 yX8_settle cX8_settle 3 none 0 := ⟨by decide, rfl, ⟨by decide, by decide⟩, by decide +kernel, jw_s3 198 rfl rfl, jw_s3 199 rfl rfl, jw_s1 15 rfl rfl, jw_s3 200 rfl rfl⟩
set_option maxRecDepth 100000 in
theorem lMX9_add : jMV 10 yX9_add cX9_add 3 (some .int) 1 := ⟨by decide, rfl, ⟨by decide, by decide⟩, by decide +kernel, jw_s1 103 rfl rfl, jw_s1 104 rfl rfl, jw_s1 2 rfl rfl, jw_s1 105 rfl rfl⟩
set_option maxRecDepth 100000 in
theorem lMX9_at : jMV 10 yX9_at cX9_at 2 (some .long) 1 := ⟨by decide, rfl, ⟨by decide, by decide⟩, by decide +kernel, jw_s4 31 rfl rfl, jw_s4 32 rfl rfl, jw_s1 2 rfl rfl, jw_s4 33 rfl rfl⟩
set_option maxRecDepth 100000 in
theorem lMX9_cut : jMV 10 yX9_cut cX9_cut 2 none 1 := ⟨by decide, rfl, ⟨by decide, by decide⟩, by decide +kernel, jw_s2 169 rfl rfl, jw_s2 170 rfl rfl, jw_s1 2 rfl rfl, jw_s2 171 rfl rfl⟩
set_option maxRecDepth 100000 in
theorem lMX9_find : jMV 10 yX9_find cX9_find 4 (some .int) 1 := ⟨by decide, rfl, ⟨by decide, by decide⟩, by decide +kernel, jw_s2 123 rfl rfl, jw_s2 124 rfl rfl, jw_s1 2 rfl rfl, jw_s2 125 rfl rfl⟩
set_option maxRecDepth 100000 in
theorem lMX9_grown : jMS yX9_grown cX9_grown 3 (some .long) 2 := ⟨⟨by decide, by decide⟩, by decide +kernel, jw_s1 107 rfl rfl, jw_s1 2 rfl rfl, jw_s1 108 rfl rfl⟩
set_option maxRecDepth 100000 in
theorem lMX9_letterAt : jMS yX9_letterAt cX9_letterAt 4 (some .int) 2 := ⟨⟨by decide, by decide⟩, by decide +kernel, jw_s4 24 rfl rfl, jw_s1 2 rfl rfl, jw_s4 25 rfl rfl⟩
set_option maxRecDepth 100000 in
theorem lMX9_letterCount : jMS yX9_letterCount cX9_letterCount 4 (some .int) 1 := ⟨⟨by decide, by decide⟩, by decide +kernel, jw_s4 21 rfl rfl, jw_s1 2 rfl rfl, jw_s4 22 rfl rfl⟩
