/-! functions and walks, by program -/
theorem dX10_init_0 : decode cX10_init 0 = .ok (.aload_n 0, 1) := by decide +kernel
theorem dX10_init_1 : decode cX10_init 1 = .ok (.invokespecial 3, 3) := by decide +kernel
theorem dX10_init_4 : decode cX10_init 4 = .ok (.new 9, 3) := by decide +kernel
theorem dX10_init_7 : decode cX10_init 7 = .ok (.dup, 1) := by decide +kernel
theorem dX10_init_8 : decode cX10_init 8 = .ok (.bipush 18, 2) := by decide +kernel
theorem dX10_init_10 : decode cX10_init 10 = .ok (.invokespecial 11, 3) := by decide +kernel
theorem dX10_init_13 : decode cX10_init 13 = .ok (.astore_n 1, 1) := by decide +kernel
theorem dX10_init_14 : decode cX10_init 14 = .ok (.aload_n 1, 1) := by decide +kernel
theorem dX10_init_15 : decode cX10_init 15 = .ok (.ldc 14, 2) := by decide +kernel
theorem dX10_init_17 : decode cX10_init 17 = .ok (.invokevirtual 16, 3) := by decide +kernel
theorem dX10_init_20 : decode cX10_init 20 = .ok (.aload_n 0, 1) := by decide +kernel
theorem dX10_init_21 : decode cX10_init 21 = .ok (.new 20, 3) := by decide +kernel
theorem dX10_init_24 : decode cX10_init 24 = .ok (.dup, 1) := by decide +kernel
theorem dX10_init_25 : decode cX10_init 25 = .ok (.sipush 900, 3) := by decide +kernel
theorem dX10_init_28 : decode cX10_init 28 = .ok (.aload_n 1, 1) := by decide +kernel
theorem dX10_init_29 : decode cX10_init 29 = .ok (.invokespecial 22, 3) := by decide +kernel
theorem dX10_init_32 : decode cX10_init 32 = .ok (.putfield 25, 3) := by decide +kernel
theorem dX10_init_35 : decode cX10_init 35 = .ok (.aload_n 0, 1) := by decide +kernel
theorem dX10_init_36 : decode cX10_init 36 = .ok (.new 20, 3) := by decide +kernel
theorem dX10_init_39 : decode cX10_init 39 = .ok (.dup, 1) := by decide +kernel
theorem dX10_init_40 : decode cX10_init 40 = .ok (.sipush 1800, 3) := by decide +kernel
theorem dX10_init_43 : decode cX10_init 43 = .ok (.aload_n 1, 1) := by decide +kernel
theorem dX10_init_44 : decode cX10_init 44 = .ok (.invokespecial 22, 3) := by decide +kernel
theorem dX10_init_47 : decode cX10_init 47 = .ok (.putfield 29, 3) := by decide +kernel
theorem dX10_init_50 : decode cX10_init 50 = .ok (.aload_n 0, 1) := by decide +kernel
theorem dX10_init_51 : decode cX10_init 51 = .ok (.new 20, 3) := by decide +kernel
theorem dX10_init_54 : decode cX10_init 54 = .ok (.dup, 1) := by decide +kernel
theorem dX10_init_55 : decode cX10_init 55 = .ok (.sipush 900, 3) := by decide +kernel
theorem dX10_init_58 : decode cX10_init 58 = .ok (.aload_n 1, 1) := by decide +kernel
theorem dX10_init_59 : decode cX10_init 59 = .ok (.invokespecial 22, 3) := by decide +kernel
theorem dX10_init_62 : decode cX10_init 62 = .ok (.putfield 32, 3) := by decide +kernel
theorem dX10_init_65 : decode cX10_init 65 = .ok (.aload_n 0, 1) := by decide +kernel
theorem dX10_init_66 : decode cX10_init 66 = .ok (.new 9, 3) := by decide +kernel
theorem dX10_init_69 : decode cX10_init 69 = .ok (.dup, 1) := by decide +kernel
theorem dX10_init_70 : decode cX10_init 70 = .ok (.bipush 8, 2) := by decide +kernel
theorem dX10_init_72 : decode cX10_init 72 = .ok (.invokespecial 11, 3) := by decide +kernel
theorem dX10_init_75 : decode cX10_init 75 = .ok (.putfield 35, 3) := by decide +kernel
theorem dX10_init_78 : decode cX10_init 78 = .ok (.aload_n 0, 1) := by decide +kernel
theorem dX10_init_79 : decode cX10_init 79 = .ok (.new 9, 3) := by decide +kernel
theorem dX10_init_82 : decode cX10_init 82 = .ok (.dup, 1) := by decide +kernel
theorem dX10_init_83 : decode cX10_init 83 = .ok (.bipush 6, 2) := by decide +kernel
theorem dX10_init_85 : decode cX10_init 85 = .ok (.invokespecial 11, 3) := by decide +kernel
theorem dX10_init_88 : decode cX10_init 88 = .ok (.putfield 39, 3) := by decide +kernel
theorem dX10_init_91 : decode cX10_init 91 = .ok (.aload_n 0, 1) := by decide +kernel
theorem dX10_init_92 : decode cX10_init 92 = .ok (.new 9, 3) := by decide +kernel
theorem dX10_init_95 : decode cX10_init 95 = .ok (.dup, 1) := by decide +kernel
theorem dX10_init_96 : decode cX10_init 96 = .ok (.bipush 12, 2) := by decide +kernel
theorem dX10_init_98 : decode cX10_init 98 = .ok (.invokespecial 11, 3) := by decide +kernel
theorem dX10_init_101 : decode cX10_init 101 = .ok (.putfield 42, 3) := by decide +kernel
theorem dX10_init_104 : decode cX10_init 104 = .ok (.aload_n 0, 1) := by decide +kernel
theorem dX10_init_105 : decode cX10_init 105 = .ok (.new 45, 3) := by decide +kernel
theorem dX10_init_108 : decode cX10_init 108 = .ok (.dup, 1) := by decide +kernel
theorem dX10_init_109 : decode cX10_init 109 = .ok (.aload_n 1, 1) := by decide +kernel
theorem dX10_init_110 : decode cX10_init 110 = .ok (.invokespecial 47, 3) := by decide +kernel
theorem dX10_init_113 : decode cX10_init 113 = .ok (.putfield 50, 3) := by decide +kernel
theorem dX10_init_116 : decode cX10_init 116 = .ok (.aload_n 0, 1) := by decide +kernel
theorem dX10_init_117 : decode cX10_init 117 = .ok (.new 54, 3) := by decide +kernel
theorem dX10_init_120 : decode cX10_init 120 = .ok (.dup, 1) := by decide +kernel
theorem dX10_init_121 : decode cX10_init 121 = .ok (.aload_n 0, 1) := by decide +kernel
theorem dX10_init_122 : decode cX10_init 122 = .ok (.getfield 50, 3) := by decide +kernel
theorem dX10_init_125 : decode cX10_init 125 = .ok (.aload_n 0, 1) := by decide +kernel
theorem dX10_init_126 : decode cX10_init 126 = .ok (.getfield 35, 3) := by decide +kernel
theorem dX10_init_129 : decode cX10_init 129 = .ok (.aload_n 0, 1) := by decide +kernel
theorem dX10_init_130 : decode cX10_init 130 = .ok (.getfield 39, 3) := by decide +kernel
theorem dX10_init_133 : decode cX10_init 133 = .ok (.aload_n 0, 1) := by decide +kernel
theorem dX10_init_134 : decode cX10_init 134 = .ok (.getfield 42, 3) := by decide +kernel
theorem dX10_init_137 : decode cX10_init 137 = .ok (.invokespecial 56, 3) := by decide +kernel
theorem dX10_init_140 : decode cX10_init 140 = .ok (.putfield 59, 3) := by decide +kernel
theorem dX10_init_143 : decode cX10_init 143 = .ok (.aload_n 0, 1) := by decide +kernel
theorem dX10_init_144 : decode cX10_init 144 = .ok (.iconst 4, 1) := by decide +kernel
theorem dX10_init_145 : decode cX10_init 145 = .ok (.anewarray 63, 3) := by decide +kernel
theorem dX10_init_148 : decode cX10_init 148 = .ok (.putfield 65, 3) := by decide +kernel
theorem dX10_init_151 : decode cX10_init 151 = .ok (.aload_n 0, 1) := by decide +kernel
theorem dX10_init_152 : decode cX10_init 152 = .ok (.sipush 256, 3) := by decide +kernel
theorem dX10_init_155 : decode cX10_init 155 = .ok (.anewarray 69, 3) := by decide +kernel
theorem dX10_init_158 : decode cX10_init 158 = .ok (.putfield 71, 3) := by decide +kernel
theorem dX10_init_161 : decode cX10_init 161 = .ok (.aload_n 0, 1) := by decide +kernel
theorem dX10_init_162 : decode cX10_init 162 = .ok (.new 75, 3) := by decide +kernel
theorem dX10_init_165 : decode cX10_init 165 = .ok (.dup, 1) := by decide +kernel
theorem dX10_init_166 : decode cX10_init 166 = .ok (.invokespecial 77, 3) := by decide +kernel
theorem dX10_init_169 : decode cX10_init 169 = .ok (.putfield 78, 3) := by decide +kernel
theorem dX10_init_172 : decode cX10_init 172 = .ok (.aload_n 0, 1) := by decide +kernel
theorem dX10_init_173 : decode cX10_init 173 = .ok (.new 82, 3) := by decide +kernel
theorem dX10_init_176 : decode cX10_init 176 = .ok (.dup, 1) := by decide +kernel
theorem dX10_init_177 : decode cX10_init 177 = .ok (.invokespecial 84, 3) := by decide +kernel
theorem dX10_init_180 : decode cX10_init 180 = .ok (.putfield 85, 3) := by decide +kernel
theorem dX10_init_183 : decode cX10_init 183 = .ok (.aload_n 0, 1) := by decide +kernel
theorem dX10_init_184 : decode cX10_init 184 = .ok (.bipush 24, 2) := by decide +kernel
theorem dX10_init_186 : decode cX10_init 186 = .ok (.newarray .int, 2) := by decide +kernel
theorem dX10_init_188 : decode cX10_init 188 = .ok (.putfield 89, 3) := by decide +kernel
theorem dX10_init_191 : decode cX10_init 191 = .ok (.aload_n 0, 1) := by decide +kernel
theorem dX10_init_192 : decode cX10_init 192 = .ok (.iconst (-1), 1) := by decide +kernel
theorem dX10_init_193 : decode cX10_init 193 = .ok (.putfield 93, 3) := by decide +kernel
theorem dX10_init_196 : decode cX10_init 196 = .ok (.aload_n 0, 1) := by decide +kernel
theorem dX10_init_197 : decode cX10_init 197 = .ok (.iconst (-1), 1) := by decide +kernel
theorem dX10_init_198 : decode cX10_init 198 = .ok (.putfield 97, 3) := by decide +kernel
theorem dX10_init_201 : decode cX10_init 201 = .ok (.return_, 1) := by decide +kernel
def fX10_init (a : Nat) (μ : JM) : JO (Unit) := jnwo μ 10 2 fun q1 μ2 => jcl (fX9_init q1 (18 : Int32) μ2) fun u10 μ11 => jck ((jT μ11 q1).1 == 10) <| jcl (fX9_addEach q1 μ11) fun u20 μ21 => jnwo μ21 7 4 fun q29 μ30 => jcl (fX6_init q29 (900 : Int32) (some q1) μ30) fun u38 μ39 => jck ((jT μ39 a).1 == 11) <| jlt (jsP μ39 a 0 (some q29)) fun μ48 => jnwo μ48 7 4 fun q51 μ52 => jcl (fX6_init q51 (1800 : Int32) (some q1) μ52) fun u60 μ61 => jck ((jT μ61 a).1 == 11) <| jlt (jsP μ61 a 1 (some q51)) fun μ70 => jnwo μ70 7 4 fun q73 μ74 => jcl (fX6_init q73 (900 : Int32) (some q1) μ74) fun u82 μ83 => jck ((jT μ83 a).1 == 11) <| jlt (jsP μ83 a 2 (some q73)) fun μ92 => jnwo μ92 10 2 fun q95 μ96 => jcl (fX9_init q95 (8 : Int32) μ96) fun u104 μ105 => jck ((jT μ105 a).1 == 11) <| jlt (jsP μ105 a 3 (some q95)) fun μ114 => jnwo μ114 10 2 fun q117 μ118 => jcl (fX9_init q117 (6 : Int32) μ118) fun u126 μ127 => jck ((jT μ127 a).1 == 11) <| jlt (jsP μ127 a 4 (some q117)) fun μ136 => jnwo μ136 10 2 fun q139 μ140 => jcl (fX9_init q139 (12 : Int32) μ140) fun u148 μ149 => jck ((jT μ149 a).1 == 11) <| jlt (jsP μ149 a 5 (some q139)) fun μ158 => jnwo μ158 8 6 fun q161 μ162 => jcl (fX7_init q161 (some q1) μ162) fun u170 μ171 => jck ((jT μ171 a).1 == 11) <| jlt (jsP μ171 a 6 (some q161)) fun μ180 => jnwo μ180 5 7 fun q183 μ184 => jck ((jT μ184 a).1 == 11) <| jcl (fX4_init q183 (jP μ184 a 6) (jP μ184 a 3) (jP μ184 a 4) (jP μ184 a 5) μ184) fun u193 μ194 => jck ((jT μ194 a).1 == 11) <| jlt (jsP μ194 a 7 (some q183)) fun μ203 => jnw μ203 106 4 fun q206 μ207 => jck ((jT μ207 a).1 == 11) <| jlt (jsP μ207 a 8 (some q206)) fun μ216 => jnw μ216 107 256 fun q219 μ220 => jck ((jT μ220 a).1 == 11) <| jlt (jsP μ220 a 9 (some q219)) fun μ229 => jnwo μ229 2 1 fun q232 μ233 => jcl (fX1_init q232 μ233) fun u241 μ242 => jck ((jT μ242 a).1 == 11) <| jlt (jsP μ242 a 10 (some q232)) fun μ251 => jnwo μ251 1 2 fun q254 μ255 => jcl (fX0_init q254 μ255) fun u263 μ264 => jck ((jT μ264 a).1 == 11) <| jlt (jsP μ264 a 11 (some q254)) fun μ273 => jnw μ273 101 24 fun q276 μ277 => jck ((jT μ277 a).1 == 11) <| jlt (jsP μ277 a 12 (some q276)) fun μ286 => jlt (jsI μ286 a 15 (-1 : Int32)) fun μ289 => jlt (jsI μ289 a 16 (-1 : Int32)) fun μ292 => some ((), μ292, 0, 0)
set_option maxHeartbeats 4000000 in
set_option maxRecDepth 100000 in
theorem mX10_init {b : Nat} {a : Nat} {μ : JM} {r : Unit} {ν : JM} {c m : Nat} (hf : fX10_init a μ = some (r, ν, c, m)) : JMet b yX10_init cX10_init 2 none 5 109 [va_rf (some a)] μ (none) ν c m := by
  refine JMet.of (by decide) (lg_sl_le (by simp only [List.map_cons, List.map_nil, List.sum_cons, List.sum_nil, va_rf_cat]; exact Nat.le_of_ble_eq_true rfl)) (fun Θ X hin => ?_)
  have hin := hin rfl
  refine wa_eq (L2 := [(0, va_rf (some a))]) ?_ rfl (by first | rfl | simp [lv_args, va_rf_cat, cat_i, cat_l]) rfl
  obtain ⟨k, hk0⟩ : ∃ k : Nat, k = 0 := ⟨0, rfl⟩
  obtain ⟨n, hn0⟩ : ∃ n : Nat, n = 0 := ⟨0, rfl⟩
  have hk : k + c = c := by omega
  have hn : n + m = m := by omega
  refine wa_costs hk0.symm hn0.symm ?_
  rw [fX10_init] at hf
  refine wa_aload_n X 0 dX10_init_0 rfl ?_
  refine wa_robj X dX10_init_1 lmX10_3 lo_inst lo_code (by decide) (Nat.le_trans (Nat.add_le_add_right (va_cats (m := 8) (Nat.le_of_ble_eq_true rfl)) 12) (by decide)) rfl ?_
  obtain ⟨q1, μ2, c5, m6, h3, hm4, hf, h7, h8⟩ := jnwo_some hf
  refine wa_new (t := 10) (N := 2) X dX10_init_4 (by decide) rfl lcX10_9 li_RX9 ln_RX9 (by omega) (by omega) ?_
  rw [← h3, ← hm4]
  have h9 : (jT μ2 q1).1 = 10 := by rw [jT_at h3 hm4]
  refine wa_dup X dX10_init_7 (va_rf_cat _) ?_
  refine wa_bipush (v := (18 : Int32)) X dX10_init_8 (by decide) ?_
  obtain ⟨u10, μ11, c12, m13, c14, m15, e16, hf, h17, h18⟩ := jcl_some hf
  refine wa_rcallI (st2 := [va_rf (some q1)]) X dX10_init_10 lmX10_11 lMX9_init rfl (mX9_init e16) rfl rfl rfl (va_cats (Nat.le_of_ble_eq_true rfl)) (by decide) (by omega) (by omega) ?_
  refine wa_astore_n (L2 := [(1, va_rf (some q1)), (0, va_rf (some a))]) X dX10_init_13 (by decide) (by first | rfl | (show (1, _) :: List.filter (fun q : Nat × Value => !(q.1 == 1) && !(q.1 + 1 == 1 && q.2.category == 2)) _ = _; simp [va_rf_cat, cat_i, cat_l])) ?_
  refine wa_aload_n X 0 dX10_init_14 rfl ?_
  obtain ⟨h19, hf⟩ := jckT hf
  obtain ⟨u20, μ21, c22, m23, c24, m25, e26, hf, h27, h28⟩ := jcl_some hf
  refine wx_ours X dX10_init_15 dX10_init_17 rfl h19 e26 (va_cats (Nat.le_of_ble_eq_true rfl)) (by decide) (by omega) (by omega) ?_
  refine wa_aload_n X 1 dX10_init_20 rfl ?_
  obtain ⟨q29, μ30, c33, m34, h31, hm32, hf, h35, h36⟩ := jnwo_some hf
  refine wa_new (t := 7) (N := 4) X dX10_init_21 (by decide) rfl lcX10_20 li_RX6 ln_RX6 (by omega) (by omega) ?_
  rw [← h31, ← hm32]
  have h37 : (jT μ30 q29).1 = 7 := by rw [jT_at h31 hm32]
  refine wa_dup X dX10_init_24 (va_rf_cat _) ?_
  refine wa_sipush (v := (900 : Int32)) X dX10_init_25 (by decide) ?_
  refine wa_aload_n X 0 dX10_init_28 rfl ?_
  obtain ⟨u38, μ39, c40, m41, c42, m43, e44, hf, h45, h46⟩ := jcl_some hf
  refine wa_rcallI (st2 := [va_rf (some q29), va_rf (some a)]) X dX10_init_29 lmX10_22 lMX6_init rfl (mX6_init e44) rfl rfl rfl (va_cats (Nat.le_of_ble_eq_true rfl)) (by decide) (by omega) (by omega) ?_
  obtain ⟨h47, hf⟩ := jckT hf
  obtain ⟨μ48, hm49, hf⟩ := jlt_e hf
  have e50 : jT μ48 = jT μ39 := by rw [hm49]; rfl
  refine wa_rputFP (ν := μ48) X hin dX10_init_32 lfX10_25 rfl h47 (by first | exact Or.inl ⟨_, rfl⟩ | exact Or.inr ⟨_, rfl⟩) rfl rfl hm49 ?_
  refine wa_aload_n X 1 dX10_init_35 rfl ?_
  obtain ⟨q51, μ52, c55, m56, h53, hm54, hf, h57, h58⟩ := jnwo_some hf
  refine wa_new (t := 7) (N := 4) X dX10_init_36 (by decide) rfl lcX10_20 li_RX6 ln_RX6 (by omega) (by omega) ?_
  rw [← h53, ← hm54]
  have h59 : (jT μ52 q51).1 = 7 := by rw [jT_at h53 hm54]
  refine wa_dup X dX10_init_39 (va_rf_cat _) ?_
  refine wa_sipush (v := (1800 : Int32)) X dX10_init_40 (by decide) ?_
  refine wa_aload_n X 0 dX10_init_43 rfl ?_
  obtain ⟨u60, μ61, c62, m63, c64, m65, e66, hf, h67, h68⟩ := jcl_some hf
  refine wa_rcallI (st2 := [va_rf (some q51), va_rf (some a)]) X dX10_init_44 lmX10_22 lMX6_init rfl (mX6_init e66) rfl rfl rfl (va_cats (Nat.le_of_ble_eq_true rfl)) (by decide) (by omega) (by omega) ?_
  obtain ⟨h69, hf⟩ := jckT hf
  obtain ⟨μ70, hm71, hf⟩ := jlt_e hf
  have e72 : jT μ70 = jT μ61 := by rw [hm71]; rfl
  refine wa_rputFP (ν := μ70) X hin dX10_init_47 lfX10_29 rfl h69 (by first | exact Or.inl ⟨_, rfl⟩ | exact Or.inr ⟨_, rfl⟩) rfl rfl hm71 ?_
  refine wa_aload_n X 1 dX10_init_50 rfl ?_
  obtain ⟨q73, μ74, c77, m78, h75, hm76, hf, h79, h80⟩ := jnwo_some hf
  refine wa_new (t := 7) (N := 4) X dX10_init_51 (by decide) rfl lcX10_20 li_RX6 ln_RX6 (by omega) (by omega) ?_
  rw [← h75, ← hm76]
  have h81 : (jT μ74 q73).1 = 7 := by rw [jT_at h75 hm76]
  refine wa_dup X dX10_init_54 (va_rf_cat _) ?_
  refine wa_sipush (v := (900 : Int32)) X dX10_init_55 (by decide) ?_
  refine wa_aload_n X 0 dX10_init_58 rfl ?_
  obtain ⟨u82, μ83, c84, m85, c86, m87, e88, hf, h89, h90⟩ := jcl_some hf
  refine wa_rcallI (st2 := [va_rf (some q73), va_rf (some a)]) X dX10_init_59 lmX10_22 lMX6_init rfl (mX6_init e88) rfl rfl rfl (va_cats (Nat.le_of_ble_eq_true rfl)) (by decide) (by omega) (by omega) ?_
  obtain ⟨h91, hf⟩ := jckT hf
  obtain ⟨μ92, hm93, hf⟩ := jlt_e hf
  have e94 : jT μ92 = jT μ83 := by rw [hm93]; rfl
  refine wa_rputFP (ν := μ92) X hin dX10_init_62 lfX10_32 rfl h91 (by first | exact Or.inl ⟨_, rfl⟩ | exact Or.inr ⟨_, rfl⟩) rfl rfl hm93 ?_
  refine wa_aload_n X 1 dX10_init_65 rfl ?_
  obtain ⟨q95, μ96, c99, m100, h97, hm98, hf, h101, h102⟩ := jnwo_some hf
  refine wa_new (t := 10) (N := 2) X dX10_init_66 (by decide) rfl lcX10_9 li_RX9 ln_RX9 (by omega) (by omega) ?_
  rw [← h97, ← hm98]
  have h103 : (jT μ96 q95).1 = 10 := by rw [jT_at h97 hm98]
  refine wa_dup X dX10_init_69 (va_rf_cat _) ?_
  refine wa_bipush (v := (8 : Int32)) X dX10_init_70 (by decide) ?_
  obtain ⟨u104, μ105, c106, m107, c108, m109, e110, hf, h111, h112⟩ := jcl_some hf
  refine wa_rcallI (st2 := [va_rf (some q95), va_rf (some a)]) X dX10_init_72 lmX10_11 lMX9_init rfl (mX9_init e110) rfl rfl rfl (va_cats (Nat.le_of_ble_eq_true rfl)) (by decide) (by omega) (by omega) ?_
  obtain ⟨h113, hf⟩ := jckT hf
  obtain ⟨μ114, hm115, hf⟩ := jlt_e hf
  have e116 : jT μ114 = jT μ105 := by rw [hm115]; rfl
  refine wa_rputFP (ν := μ114) X hin dX10_init_75 lfX10_35 rfl h113 (by first | exact Or.inl ⟨_, rfl⟩ | exact Or.inr ⟨_, rfl⟩) rfl rfl hm115 ?_
  refine wa_aload_n X 1 dX10_init_78 rfl ?_
  obtain ⟨q117, μ118, c121, m122, h119, hm120, hf, h123, h124⟩ := jnwo_some hf
  refine wa_new (t := 10) (N := 2) X dX10_init_79 (by decide) rfl lcX10_9 li_RX9 ln_RX9 (by omega) (by omega) ?_
  rw [← h119, ← hm120]
  have h125 : (jT μ118 q117).1 = 10 := by rw [jT_at h119 hm120]
  refine wa_dup X dX10_init_82 (va_rf_cat _) ?_
  refine wa_bipush (v := (6 : Int32)) X dX10_init_83 (by decide) ?_
  obtain ⟨u126, μ127, c128, m129, c130, m131, e132, hf, h133, h134⟩ := jcl_some hf
  refine wa_rcallI (st2 := [va_rf (some q117), va_rf (some a)]) X dX10_init_85 lmX10_11 lMX9_init rfl (mX9_init e132) rfl rfl rfl (va_cats (Nat.le_of_ble_eq_true rfl)) (by decide) (by omega) (by omega) ?_
  obtain ⟨h135, hf⟩ := jckT hf
  obtain ⟨μ136, hm137, hf⟩ := jlt_e hf
  have e138 : jT μ136 = jT μ127 := by rw [hm137]; rfl
  refine wa_rputFP (ν := μ136) X hin dX10_init_88 lfX10_39 rfl h135 (by first | exact Or.inl ⟨_, rfl⟩ | exact Or.inr ⟨_, rfl⟩) rfl rfl hm137 ?_
  refine wa_aload_n X 1 dX10_init_91 rfl ?_
  obtain ⟨q139, μ140, c143, m144, h141, hm142, hf, h145, h146⟩ := jnwo_some hf
  refine wa_new (t := 10) (N := 2) X dX10_init_92 (by decide) rfl lcX10_9 li_RX9 ln_RX9 (by omega) (by omega) ?_
  rw [← h141, ← hm142]
  have h147 : (jT μ140 q139).1 = 10 := by rw [jT_at h141 hm142]
  refine wa_dup X dX10_init_95 (va_rf_cat _) ?_
  refine wa_bipush (v := (12 : Int32)) X dX10_init_96 (by decide) ?_
  obtain ⟨u148, μ149, c150, m151, c152, m153, e154, hf, h155, h156⟩ := jcl_some hf
  refine wa_rcallI (st2 := [va_rf (some q139), va_rf (some a)]) X dX10_init_98 lmX10_11 lMX9_init rfl (mX9_init e154) rfl rfl rfl (va_cats (Nat.le_of_ble_eq_true rfl)) (by decide) (by omega) (by omega) ?_
  obtain ⟨h157, hf⟩ := jckT hf
  obtain ⟨μ158, hm159, hf⟩ := jlt_e hf
  have e160 : jT μ158 = jT μ149 := by rw [hm159]; rfl
  refine wa_rputFP (ν := μ158) X hin dX10_init_101 lfX10_42 rfl h157 (by first | exact Or.inl ⟨_, rfl⟩ | exact Or.inr ⟨_, rfl⟩) rfl rfl hm159 ?_
  refine wa_aload_n X 1 dX10_init_104 rfl ?_
  obtain ⟨q161, μ162, c165, m166, h163, hm164, hf, h167, h168⟩ := jnwo_some hf
  refine wa_new (t := 8) (N := 6) X dX10_init_105 (by decide) rfl lcX10_45 li_RX7 ln_RX7 (by omega) (by omega) ?_
  rw [← h163, ← hm164]
  have h169 : (jT μ162 q161).1 = 8 := by rw [jT_at h163 hm164]
  refine wa_dup X dX10_init_108 (va_rf_cat _) ?_
  refine wa_aload_n X 0 dX10_init_109 rfl ?_
  obtain ⟨u170, μ171, c172, m173, c174, m175, e176, hf, h177, h178⟩ := jcl_some hf
  refine wa_rcallI (st2 := [va_rf (some q161), va_rf (some a)]) X dX10_init_110 lmX10_47 lMX7_init rfl (mX7_init e176) rfl rfl rfl (va_cats (Nat.le_of_ble_eq_true rfl)) (by decide) (by omega) (by omega) ?_
  obtain ⟨h179, hf⟩ := jckT hf
  obtain ⟨μ180, hm181, hf⟩ := jlt_e hf
  have e182 : jT μ180 = jT μ171 := by rw [hm181]; rfl
  refine wa_rputFP (ν := μ180) X hin dX10_init_113 lfX10_50 rfl h179 (by first | exact Or.inl ⟨_, rfl⟩ | exact Or.inr ⟨_, rfl⟩) rfl rfl hm181 ?_
  refine wa_aload_n X 1 dX10_init_116 rfl ?_
  obtain ⟨q183, μ184, c187, m188, h185, hm186, hf, h189, h190⟩ := jnwo_some hf
  refine wa_new (t := 5) (N := 7) X dX10_init_117 (by decide) rfl lcX10_54 li_RX4 ln_RX4 (by omega) (by omega) ?_
  rw [← h185, ← hm186]
  have h191 : (jT μ184 q183).1 = 5 := by rw [jT_at h185 hm186]
  refine wa_dup X dX10_init_120 (va_rf_cat _) ?_
  refine wa_aload_n X 1 dX10_init_121 rfl ?_
  obtain ⟨h192, hf⟩ := jckT hf
  refine wa_getP X dX10_init_122 lfX10_50 rfl h192 rfl ?_
  refine wa_aload_n X 1 dX10_init_125 rfl ?_
  refine wa_getP X dX10_init_126 lfX10_35 rfl h192 rfl ?_
  refine wa_aload_n X 1 dX10_init_129 rfl ?_
  refine wa_getP X dX10_init_130 lfX10_39 rfl h192 rfl ?_
  refine wa_aload_n X 1 dX10_init_133 rfl ?_
  refine wa_getP X dX10_init_134 lfX10_42 rfl h192 rfl ?_
  obtain ⟨u193, μ194, c195, m196, c197, m198, e199, hf, h200, h201⟩ := jcl_some hf
  refine wa_rcallI (st2 := [va_rf (some q183), va_rf (some a)]) X dX10_init_137 lmX10_56 lMX4_init rfl (mX4_init e199) rfl rfl rfl (va_cats (Nat.le_of_ble_eq_true rfl)) (by decide) (by omega) (by omega) ?_
  obtain ⟨h202, hf⟩ := jckT hf
  obtain ⟨μ203, hm204, hf⟩ := jlt_e hf
  have e205 : jT μ203 = jT μ194 := by rw [hm204]; rfl
  refine wa_rputFP (ν := μ203) X hin dX10_init_140 lfX10_59 rfl h202 (by first | exact Or.inl ⟨_, rfl⟩ | exact Or.inr ⟨_, rfl⟩) rfl rfl hm204 ?_
  refine wa_aload_n X 1 dX10_init_143 rfl ?_
  refine wa_iconst (v := (4 : Int32)) X dX10_init_144 (by decide) ?_
  obtain ⟨q206, μ207, c210, m211, h208, hm209, hf, h212, h213⟩ := jnw_some hf
  refine wa_anew (t := 106) (N := 4) (C := RX8) X dX10_init_145 (by decide) rfl (fun _ _ => rfl) lcX10_63 (by decide +kernel) (by decide) (by decide) (by decide) (by omega) (by omega) ?_
  rw [← h208, ← hm209]
  have h214 : (jT μ207 q206).1 = 106 := by rw [jT_at h208 hm209]
  obtain ⟨h215, hf⟩ := jckT hf
  obtain ⟨μ216, hm217, hf⟩ := jlt_e hf
  have e218 : jT μ216 = jT μ207 := by rw [hm217]; rfl
  refine wa_rputFP (ν := μ216) X hin dX10_init_148 lfX10_65 rfl h215 (by first | exact Or.inl ⟨_, rfl⟩ | exact Or.inr ⟨_, rfl⟩) rfl rfl hm217 ?_
  refine wa_aload_n X 1 dX10_init_151 rfl ?_
  refine wa_sipush (v := (256 : Int32)) X dX10_init_152 (by decide) ?_
  obtain ⟨q219, μ220, c223, m224, h221, hm222, hf, h225, h226⟩ := jnw_some hf
  refine wa_anew (t := 107) (N := 256) (C := RX5) X dX10_init_155 (by decide) rfl (fun _ _ => rfl) lcX10_69 (by decide +kernel) (by decide) (by decide) (by decide) (by omega) (by omega) ?_
  rw [← h221, ← hm222]
  have h227 : (jT μ220 q219).1 = 107 := by rw [jT_at h221 hm222]
  obtain ⟨h228, hf⟩ := jckT hf
  obtain ⟨μ229, hm230, hf⟩ := jlt_e hf
  have e231 : jT μ229 = jT μ220 := by rw [hm230]; rfl
  refine wa_rputFP (ν := μ229) X hin dX10_init_158 lfX10_71 rfl h228 (by first | exact Or.inl ⟨_, rfl⟩ | exact Or.inr ⟨_, rfl⟩) rfl rfl hm230 ?_
  refine wa_aload_n X 1 dX10_init_161 rfl ?_
  obtain ⟨q232, μ233, c236, m237, h234, hm235, hf, h238, h239⟩ := jnwo_some hf
  refine wa_new (t := 2) (N := 1) X dX10_init_162 (by decide) rfl lcX10_75 li_RX1 ln_RX1 (by omega) (by omega) ?_
  rw [← h234, ← hm235]
  have h240 : (jT μ233 q232).1 = 2 := by rw [jT_at h234 hm235]
  refine wa_dup X dX10_init_165 (va_rf_cat _) ?_
  obtain ⟨u241, μ242, c243, m244, c245, m246, e247, hf, h248, h249⟩ := jcl_some hf
  refine wa_rcallI (st2 := [va_rf (some q232), va_rf (some a)]) X dX10_init_166 lmX10_77 lMX1_init rfl (mX1_init e247) rfl rfl rfl (va_cats (Nat.le_of_ble_eq_true rfl)) (by decide) (by omega) (by omega) ?_
  obtain ⟨h250, hf⟩ := jckT hf
  obtain ⟨μ251, hm252, hf⟩ := jlt_e hf
  have e253 : jT μ251 = jT μ242 := by rw [hm252]; rfl
  refine wa_rputFP (ν := μ251) X hin dX10_init_169 lfX10_78 rfl h250 (by first | exact Or.inl ⟨_, rfl⟩ | exact Or.inr ⟨_, rfl⟩) rfl rfl hm252 ?_
  refine wa_aload_n X 1 dX10_init_172 rfl ?_
  obtain ⟨q254, μ255, c258, m259, h256, hm257, hf, h260, h261⟩ := jnwo_some hf
  refine wa_new (t := 1) (N := 2) X dX10_init_173 (by decide) rfl lcX10_82 li_RX0 ln_RX0 (by omega) (by omega) ?_
  rw [← h256, ← hm257]
  have h262 : (jT μ255 q254).1 = 1 := by rw [jT_at h256 hm257]
  refine wa_dup X dX10_init_176 (va_rf_cat _) ?_
  obtain ⟨u263, μ264, c265, m266, c267, m268, e269, hf, h270, h271⟩ := jcl_some hf
  refine wa_rcallI (st2 := [va_rf (some q254), va_rf (some a)]) X dX10_init_177 lmX10_84 lMX0_init rfl (mX0_init e269) rfl rfl rfl (va_cats (Nat.le_of_ble_eq_true rfl)) (by decide) (by omega) (by omega) ?_
  obtain ⟨h272, hf⟩ := jckT hf
  obtain ⟨μ273, hm274, hf⟩ := jlt_e hf
  have e275 : jT μ273 = jT μ264 := by rw [hm274]; rfl
  refine wa_rputFP (ν := μ273) X hin dX10_init_180 lfX10_85 rfl h272 (by first | exact Or.inl ⟨_, rfl⟩ | exact Or.inr ⟨_, rfl⟩) rfl rfl hm274 ?_
  refine wa_aload_n X 1 dX10_init_183 rfl ?_
  refine wa_bipush (v := (24 : Int32)) X dX10_init_184 (by decide) ?_
  obtain ⟨q276, μ277, c280, m281, h278, hm279, hf, h282, h283⟩ := jnw_some hf
  refine wa_newa (t := 101) (N := 24) X dX10_init_186 (by decide) rfl la_101 (by decide) (by decide) (by decide) (by omega) (by omega) ?_
  rw [← h278, ← hm279]
  have h284 : (jT μ277 q276).1 = 101 := by rw [jT_at h278 hm279]
  obtain ⟨h285, hf⟩ := jckT hf
  obtain ⟨μ286, hm287, hf⟩ := jlt_e hf
  have e288 : jT μ286 = jT μ277 := by rw [hm287]; rfl
  refine wa_rputFP (ν := μ286) X hin dX10_init_188 lfX10_89 rfl h285 (by first | exact Or.inl ⟨_, rfl⟩ | exact Or.inr ⟨_, rfl⟩) rfl rfl hm287 ?_
  refine wa_aload_n X 1 dX10_init_191 rfl ?_
  refine wa_iconst (v := (-1 : Int32)) X dX10_init_192 (by decide) ?_
  obtain ⟨μ289, hm290, hf⟩ := jlt_e hf
  have e291 : jT μ289 = jT μ277 := by rw [hm290]; exact e288
  refine wa_rputI (ν := μ289) X dX10_init_193 lfX10_93 rfl (by rw [e288]; exact h285) rfl rfl hm290 ?_
  refine wa_aload_n X 1 dX10_init_196 rfl ?_
  refine wa_iconst (v := (-1 : Int32)) X dX10_init_197 (by decide) ?_
  obtain ⟨μ292, hm293, hf⟩ := jlt_e hf
  have e294 : jT μ292 = jT μ277 := by rw [hm293]; exact e291
  refine wa_rputI (ν := μ292) X dX10_init_198 lfX10_97 rfl (by rw [e291]; exact h285) rfl rfl hm293 ?_
  obtain ⟨rfl, rfl, rfl, rfl⟩ := jret hf
  exact wa_vret X dX10_init_201 (by omega) (by omega)
