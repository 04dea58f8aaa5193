/-! functions and walks, by program -/
theorem dX0_init_0 : decode cX0_init 0 = .ok (.aload_n 0, 1) := by decide +kernel
theorem dX0_init_1 : decode cX0_init 1 = .ok (.invokespecial 3, 3) := by decide +kernel
theorem dX0_init_4 : decode cX0_init 4 = .ok (.aload_n 0, 1) := by decide +kernel
theorem dX0_init_5 : decode cX0_init 5 = .ok (.sipush 157, 3) := by decide +kernel
theorem dX0_init_8 : decode cX0_init 8 = .ok (.newarray .long, 2) := by decide +kernel
theorem dX0_init_10 : decode cX0_init 10 = .ok (.putfield 11, 3) := by decide +kernel
theorem dX0_init_13 : decode cX0_init 13 = .ok (.return_, 1) := by decide +kernel
def fX0_init (a : Nat) (μ : JM) : JO (Unit) := jnw μ 102 157 fun q1 μ2 => jck ((jT μ2 a).1 == 1) <| jlt (jsP μ2 a 0 (some q1)) fun μ11 => some ((), μ11, 0, 0)
set_option maxHeartbeats 4000000 in
set_option maxRecDepth 100000 in
theorem mX0_init {b : Nat} {a : Nat} {μ : JM} {r : Unit} {ν : JM} {c m : Nat} (hf : fX0_init a μ = some (r, ν, c, m)) : JMet b yX0_init cX0_init 1 none 1 20 [va_rf (some a)] μ (none) ν c m := by
  refine JMet.of (by decide) (lg_sl_le (by simp only [List.map_cons, List.map_nil, List.sum_cons, List.sum_nil, va_rf_cat]; exact Nat.le_of_ble_eq_true rfl)) (fun Θ X hin => ?_)
  have hin := hin rfl
  refine wa_eq (L2 := [(0, va_rf (some a))]) ?_ rfl (by first | rfl | simp [lv_args, va_rf_cat, cat_i, cat_l]) rfl
  obtain ⟨k, hk0⟩ : ∃ k : Nat, k = 0 := ⟨0, rfl⟩
  obtain ⟨n, hn0⟩ : ∃ n : Nat, n = 0 := ⟨0, rfl⟩
  have hk : k + c = c := by omega
  have hn : n + m = m := by omega
  refine wa_costs hk0.symm hn0.symm ?_
  rw [fX0_init] at hf
  refine wa_aload_n X 0 dX0_init_0 rfl ?_
  refine wa_robj X dX0_init_1 lmX0_3 lo_inst lo_code (by decide) (Nat.le_trans (Nat.add_le_add_right (va_cats (m := 8) (Nat.le_of_ble_eq_true rfl)) 12) (by decide)) rfl ?_
  refine wa_aload_n X 0 dX0_init_4 rfl ?_
  refine wa_sipush (v := (157 : Int32)) X dX0_init_5 (by decide) ?_
  obtain ⟨q1, μ2, c5, m6, h3, hm4, hf, h7, h8⟩ := jnw_some hf
  refine wa_newa (t := 102) (N := 157) X dX0_init_8 (by decide) rfl la_102 (by decide) (by decide) (by decide) (by omega) (by omega) ?_
  rw [← h3, ← hm4]
  have h9 : (jT μ2 q1).1 = 102 := by rw [jT_at h3 hm4]
  obtain ⟨h10, hf⟩ := jckT hf
  obtain ⟨μ11, hm12, hf⟩ := jlt_e hf
  have e13 : jT μ11 = jT μ2 := by rw [hm12]; rfl
  refine wa_rputFP (ν := μ11) X hin dX0_init_10 lfX0_11 rfl h10 (by first | exact Or.inl ⟨_, rfl⟩ | exact Or.inr ⟨_, rfl⟩) rfl rfl hm12 ?_
  obtain ⟨rfl, rfl, rfl, rfl⟩ := jret hf
  exact wa_vret X dX0_init_13 (by omega) (by omega)
theorem dX0_isDay_0 : decode cX0_isDay 0 = .ok (.iload_n 0, 1) := by decide +kernel
theorem dX0_isDay_1 : decode cX0_isDay 1 = .ok (.ifCond .lt 14, 3) := by decide +kernel
theorem dX0_isDay_4 : decode cX0_isDay 4 = .ok (.iload_n 0, 1) := by decide +kernel
theorem dX0_isDay_5 : decode cX0_isDay 5 = .ok (.sipush 9999, 3) := by decide +kernel
theorem dX0_isDay_8 : decode cX0_isDay 8 = .ok (.if_icmp .gt 7, 3) := by decide +kernel
theorem dX0_isDay_11 : decode cX0_isDay 11 = .ok (.iconst 1, 1) := by decide +kernel
theorem dX0_isDay_12 : decode cX0_isDay 12 = .ok (.goto 4, 3) := by decide +kernel
theorem dX0_isDay_15 : decode cX0_isDay 15 = .ok (.iconst 0, 1) := by decide +kernel
theorem dX0_isDay_16 : decode cX0_isDay 16 = .ok (.ireturn, 1) := by decide +kernel
def fX0_isDay (x0 : Int32) (μ : JM) : JO (Int32) := if x0 < 0 then (some ((0 : Int32), μ, 0, 0)) else (if (9999 : Int32) < x0 then (some ((0 : Int32), μ, 0, 0)) else (some ((1 : Int32), μ, 0, 0)))
set_option maxHeartbeats 4000000 in
set_option maxRecDepth 100000 in
theorem mX0_isDay {b : Nat} {x0 : Int32} {μ : JM} {r : Int32} {ν : JM} {c m : Nat} (hf : fX0_isDay x0 μ = some (r, ν, c, m)) : JMet b yX0_isDay cX0_isDay 1 (some .boolean) 0 0 [.int x0] μ (some (.int r)) ν c m := by
  refine JMet.of (by decide) (lg_sl_le (by simp only [List.map_cons, List.map_nil, List.sum_cons, List.sum_nil, va_rf_cat]; exact Nat.le_of_ble_eq_true rfl)) (fun Θ X hin => ?_)
  refine wa_eq (L2 := [(0, .int x0)]) ?_ rfl (by first | rfl | simp [lv_args, va_rf_cat, cat_i, cat_l]) rfl
  obtain ⟨k, hk0⟩ : ∃ k : Nat, k = 0 := ⟨0, rfl⟩
  obtain ⟨n, hn0⟩ : ∃ n : Nat, n = 0 := ⟨0, rfl⟩
  have hk : k + c = c := by omega
  have hn : n + m = m := by omega
  refine wa_costs hk0.symm hn0.symm ?_
  rw [fX0_isDay] at hf
  refine wa_iload_n X 0 dX0_isDay_0 rfl ?_
  refine wa_iflt (tgt := 15) X dX0_isDay_1 (by decide) (fun h1 => ?_) (fun h1 => ?_)
  · rw [if_pos h1] at hf
    refine wa_iconst (v := (0 : Int32)) X dX0_isDay_15 (by decide) ?_
    obtain ⟨rfl, rfl, rfl, rfl⟩ := jret hf
    exact wa_iret X dX0_isDay_16 rfl (by omega) (by omega)
  · rw [if_neg h1] at hf
    refine wa_iload_n X 0 dX0_isDay_4 rfl ?_
    refine wa_sipush (v := (9999 : Int32)) X dX0_isDay_5 (by decide) ?_
    refine wa_icgt (tgt := 15) X dX0_isDay_8 (by decide) (fun h2 => ?_) (fun h2 => ?_)
    · rw [if_pos h2] at hf
      refine wa_iconst (v := (0 : Int32)) X dX0_isDay_15 (by decide) ?_
      obtain ⟨rfl, rfl, rfl, rfl⟩ := jret hf
      exact wa_iret X dX0_isDay_16 rfl (by omega) (by omega)
    · rw [if_neg h2] at hf
      refine wa_iconst (v := (1 : Int32)) X dX0_isDay_11 (by decide) ?_
      refine wa_goto (tgt := 16) X dX0_isDay_12 (by decide) ?_
      obtain ⟨rfl, rfl, rfl, rfl⟩ := jret hf
      exact wa_iret X dX0_isDay_16 rfl (by omega) (by omega)
theorem dX0_isFree_0 : decode cX0_isFree 0 = .ok (.iload_n 1, 1) := by decide +kernel
theorem dX0_isFree_1 : decode cX0_isFree 1 = .ok (.invokestatic 15, 3) := by decide +kernel
theorem dX0_isFree_4 : decode cX0_isFree 4 = .ok (.ifCond .eq 28, 3) := by decide +kernel
theorem dX0_isFree_7 : decode cX0_isFree 7 = .ok (.aload_n 0, 1) := by decide +kernel
theorem dX0_isFree_8 : decode cX0_isFree 8 = .ok (.getfield 11, 3) := by decide +kernel
theorem dX0_isFree_11 : decode cX0_isFree 11 = .ok (.iload_n 1, 1) := by decide +kernel
theorem dX0_isFree_12 : decode cX0_isFree 12 = .ok (.bipush 64, 2) := by decide +kernel
theorem dX0_isFree_14 : decode cX0_isFree 14 = .ok (.idiv, 1) := by decide +kernel
theorem dX0_isFree_15 : decode cX0_isFree 15 = .ok (.laload, 1) := by decide +kernel
theorem dX0_isFree_16 : decode cX0_isFree 16 = .ok (.iload_n 1, 1) := by decide +kernel
theorem dX0_isFree_17 : decode cX0_isFree 17 = .ok (.bipush 64, 2) := by decide +kernel
theorem dX0_isFree_19 : decode cX0_isFree 19 = .ok (.irem, 1) := by decide +kernel
theorem dX0_isFree_20 : decode cX0_isFree 20 = .ok (.lshr, 1) := by decide +kernel
theorem dX0_isFree_21 : decode cX0_isFree 21 = .ok (.lconst 1, 1) := by decide +kernel
theorem dX0_isFree_22 : decode cX0_isFree 22 = .ok (.land, 1) := by decide +kernel
theorem dX0_isFree_23 : decode cX0_isFree 23 = .ok (.lconst 1, 1) := by decide +kernel
theorem dX0_isFree_24 : decode cX0_isFree 24 = .ok (.lcmp, 1) := by decide +kernel
theorem dX0_isFree_25 : decode cX0_isFree 25 = .ok (.ifCond .ne 7, 3) := by decide +kernel
theorem dX0_isFree_28 : decode cX0_isFree 28 = .ok (.iconst 1, 1) := by decide +kernel
theorem dX0_isFree_29 : decode cX0_isFree 29 = .ok (.goto 4, 3) := by decide +kernel
theorem dX0_isFree_32 : decode cX0_isFree 32 = .ok (.iconst 0, 1) := by decide +kernel
theorem dX0_isFree_33 : decode cX0_isFree 33 = .ok (.ireturn, 1) := by decide +kernel
def fX0_isFree (a : Nat) (x1 : Int32) (μ : JM) : JO (Int32) := jcl (fX0_isDay x1 μ) fun r1 μ2 => if r1 = 0 then (some ((0 : Int32), μ2, 0, 0)) else (jck ((jT μ2 a).1 == 1) <| jde (jP μ2 a 0) fun q12 => jck ((jT μ2 q12).1 == 102) <| jck (jin (x1 / (64 : Int32)) (jT μ2 q12).2) <| if (lg_cmp ((jlshr (jJ μ2 q12 ((x1 / (64 : Int32))).toNatClampNeg) (jrem x1 (64 : Int32))) &&& (1 : Int64)) (1 : Int64)) = 0 then (some ((1 : Int32), μ2, 0, 0)) else (some ((0 : Int32), μ2, 0, 0)))
set_option maxHeartbeats 4000000 in
set_option maxRecDepth 100000 in
theorem mX0_isFree {b : Nat} {a : Nat} {x1 : Int32} {μ : JM} {r : Int32} {ν : JM} {c m : Nat} (hf : fX0_isFree a x1 μ = some (r, ν, c, m)) : JMet b yX0_isFree cX0_isFree 2 (some .boolean) 1 20 [va_rf (some a), .int x1] μ (some (.int r)) ν c m := by
  refine JMet.of (by decide) (lg_sl_le (by simp only [List.map_cons, List.map_nil, List.sum_cons, List.sum_nil, va_rf_cat]; exact Nat.le_of_ble_eq_true rfl)) (fun Θ X hin => ?_)
  refine wa_eq (L2 := [(0, va_rf (some a)), (1, .int x1)]) ?_ rfl (by first | rfl | simp [lv_args, va_rf_cat, cat_i, cat_l]) rfl
  obtain ⟨k, hk0⟩ : ∃ k : Nat, k = 0 := ⟨0, rfl⟩
  obtain ⟨n, hn0⟩ : ∃ n : Nat, n = 0 := ⟨0, rfl⟩
  have hk : k + c = c := by omega
  have hn : n + m = m := by omega
  refine wa_costs hk0.symm hn0.symm ?_
  rw [fX0_isFree] at hf
  refine wa_iload_n X 1 dX0_isFree_0 rfl ?_
  obtain ⟨r1, μ2, c3, m4, c5, m6, e7, hf, h8, h9⟩ := jcl_some hf
  refine wa_rcallS (st2 := [.int r1]) X dX0_isFree_1 lmX0_15 lMX0_isDay (mX0_isDay e7) rfl rfl rfl (va_cats (Nat.le_of_ble_eq_true rfl)) (by decide) (by omega) (by omega) ?_
  refine wa_ifeq (tgt := 32) X dX0_isFree_4 (by decide) (fun h10 => ?_) (fun h10 => ?_)
  · rw [if_pos h10] at hf
    refine wa_iconst (v := (0 : Int32)) X dX0_isFree_32 (by decide) ?_
    obtain ⟨rfl, rfl, rfl, rfl⟩ := jret hf
    exact wa_iret X dX0_isFree_33 rfl (by omega) (by omega)
  · rw [if_neg h10] at hf
    refine wa_aload_n X 0 dX0_isFree_7 rfl ?_
    obtain ⟨h11, hf⟩ := jckT hf
    refine wa_getP X dX0_isFree_8 lfX0_11 rfl h11 rfl ?_
    refine wa_iload_n X 1 dX0_isFree_11 rfl ?_
    refine wa_bipush (v := (64 : Int32)) X dX0_isFree_12 (by decide) ?_
    refine wa_idiv X dX0_isFree_14 (by decide) ?_
    obtain ⟨q12, h13, hf⟩ := jde_some hf
    obtain ⟨h14, hf⟩ := jckT hf
    obtain ⟨h15, hf⟩ := jck_some hf
    refine wa_rlald X dX0_isFree_15 h13 h14 h15 ?_
    refine wa_iload_n X 1 dX0_isFree_16 rfl ?_
    refine wa_bipush (v := (64 : Int32)) X dX0_isFree_17 (by decide) ?_
    refine wa_irem X dX0_isFree_19 (by decide) ?_
    refine wa_lshr X dX0_isFree_20 ?_
    refine wa_lconst (v := (1 : Int64)) X dX0_isFree_21 (by decide) ?_
    refine wa_land X dX0_isFree_22 ?_
    refine wa_lconst (v := (1 : Int64)) X dX0_isFree_23 (by decide) ?_
    refine wa_lcmp X dX0_isFree_24 ?_
    refine wa_ifne (tgt := 32) X dX0_isFree_25 (by decide) (fun h16 => ?_) (fun h16 => ?_)
    · rw [if_neg h16] at hf
      refine wa_iconst (v := (0 : Int32)) X dX0_isFree_32 (by decide) ?_
      obtain ⟨rfl, rfl, rfl, rfl⟩ := jret hf
      exact wa_iret X dX0_isFree_33 rfl (by omega) (by omega)
    · rw [if_pos h16] at hf
      refine wa_iconst (v := (1 : Int32)) X dX0_isFree_28 (by decide) ?_
      refine wa_goto (tgt := 33) X dX0_isFree_29 (by decide) ?_
      obtain ⟨rfl, rfl, rfl, rfl⟩ := jret hf
      exact wa_iret X dX0_isFree_33 rfl (by omega) (by omega)
theorem dX0_mark_0 : decode cX0_mark 0 = .ok (.iload_n 1, 1) := by decide +kernel
theorem dX0_mark_1 : decode cX0_mark 1 = .ok (.invokestatic 15, 3) := by decide +kernel
theorem dX0_mark_4 : decode cX0_mark 4 = .ok (.ifCond .eq 12, 3) := by decide +kernel
theorem dX0_mark_7 : decode cX0_mark 7 = .ok (.aload_n 0, 1) := by decide +kernel
theorem dX0_mark_8 : decode cX0_mark 8 = .ok (.iload_n 1, 1) := by decide +kernel
theorem dX0_mark_9 : decode cX0_mark 9 = .ok (.invokevirtual 19, 3) := by decide +kernel
theorem dX0_mark_12 : decode cX0_mark 12 = .ok (.iload_n 2, 1) := by decide +kernel
theorem dX0_mark_13 : decode cX0_mark 13 = .ok (.if_icmp .ne 5, 3) := by decide +kernel
theorem dX0_mark_16 : decode cX0_mark 16 = .ok (.iconst 0, 1) := by decide +kernel
theorem dX0_mark_17 : decode cX0_mark 17 = .ok (.ireturn, 1) := by decide +kernel
theorem dX0_mark_18 : decode cX0_mark 18 = .ok (.aload_n 0, 1) := by decide +kernel
theorem dX0_mark_19 : decode cX0_mark 19 = .ok (.getfield 11, 3) := by decide +kernel
theorem dX0_mark_22 : decode cX0_mark 22 = .ok (.iload_n 1, 1) := by decide +kernel
theorem dX0_mark_23 : decode cX0_mark 23 = .ok (.bipush 64, 2) := by decide +kernel
theorem dX0_mark_25 : decode cX0_mark 25 = .ok (.idiv, 1) := by decide +kernel
theorem dX0_mark_26 : decode cX0_mark 26 = .ok (.dup2, 1) := by decide +kernel
theorem dX0_mark_27 : decode cX0_mark 27 = .ok (.laload, 1) := by decide +kernel
theorem dX0_mark_28 : decode cX0_mark 28 = .ok (.lconst 1, 1) := by decide +kernel
theorem dX0_mark_29 : decode cX0_mark 29 = .ok (.iload_n 1, 1) := by decide +kernel
theorem dX0_mark_30 : decode cX0_mark 30 = .ok (.bipush 64, 2) := by decide +kernel
theorem dX0_mark_32 : decode cX0_mark 32 = .ok (.irem, 1) := by decide +kernel
theorem dX0_mark_33 : decode cX0_mark 33 = .ok (.lshl, 1) := by decide +kernel
theorem dX0_mark_34 : decode cX0_mark 34 = .ok (.lxor, 1) := by decide +kernel
theorem dX0_mark_35 : decode cX0_mark 35 = .ok (.lastore, 1) := by decide +kernel
theorem dX0_mark_36 : decode cX0_mark 36 = .ok (.aload_n 0, 1) := by decide +kernel
theorem dX0_mark_37 : decode cX0_mark 37 = .ok (.dup, 1) := by decide +kernel
theorem dX0_mark_38 : decode cX0_mark 38 = .ok (.getfield 22, 3) := by decide +kernel
theorem dX0_mark_41 : decode cX0_mark 41 = .ok (.iload_n 2, 1) := by decide +kernel
theorem dX0_mark_42 : decode cX0_mark 42 = .ok (.ifCond .eq 7, 3) := by decide +kernel
theorem dX0_mark_45 : decode cX0_mark 45 = .ok (.iconst 1, 1) := by decide +kernel
theorem dX0_mark_46 : decode cX0_mark 46 = .ok (.goto 4, 3) := by decide +kernel
theorem dX0_mark_49 : decode cX0_mark 49 = .ok (.iconst (-1), 1) := by decide +kernel
theorem dX0_mark_50 : decode cX0_mark 50 = .ok (.iadd, 1) := by decide +kernel
theorem dX0_mark_51 : decode cX0_mark 51 = .ok (.putfield 22, 3) := by decide +kernel
theorem dX0_mark_54 : decode cX0_mark 54 = .ok (.iconst 1, 1) := by decide +kernel
theorem dX0_mark_55 : decode cX0_mark 55 = .ok (.ireturn, 1) := by decide +kernel
def fX0_mark (a : Nat) (x1 : Int32) (x2 : Int32) (μ : JM) : JO (Int32) := jcl (fX0_isDay x1 μ) fun r1 μ2 => if r1 = 0 then (some ((0 : Int32), μ2, 0, 0)) else (jck ((jT μ2 a).1 == 1) <| jcl (fX0_isFree a x1 μ2) fun r12 μ13 => if r12 = x2 then (some ((0 : Int32), μ13, 0, 0)) else (jck ((jT μ13 a).1 == 1) <| jde (jP μ13 a 0) fun q23 => jck ((jT μ13 q23).1 == 102) <| jck (jin (x1 / (64 : Int32)) (jT μ13 q23).2) <| jlt (jsJ μ13 q23 ((x1 / (64 : Int32))).toNatClampNeg ((jJ μ13 q23 ((x1 / (64 : Int32))).toNatClampNeg) ^^^ (jlshl (1 : Int64) (jrem x1 (64 : Int32))))) fun μ27 => if x2 = 0 then (jlt (jsI μ27 a 1 ((jI μ27 a 1) + (-1 : Int32))) fun μ31 => some ((1 : Int32), μ31, 0, 0)) else (jlt (jsI μ27 a 1 ((jI μ27 a 1) + (1 : Int32))) fun μ34 => some ((1 : Int32), μ34, 0, 0))))
set_option maxHeartbeats 4000000 in
set_option maxRecDepth 100000 in
theorem mX0_mark {b : Nat} {a : Nat} {x1 : Int32} {x2 : Int32} {μ : JM} {r : Int32} {ν : JM} {c m : Nat} (hf : fX0_mark a x1 x2 μ = some (r, ν, c, m)) : JMet b yX0_mark cX0_mark 3 (some .boolean) 2 41 [va_rf (some a), .int x1, .int x2] μ (some (.int r)) ν c m := by
  refine JMet.of (by decide) (lg_sl_le (by simp only [List.map_cons, List.map_nil, List.sum_cons, List.sum_nil, va_rf_cat]; exact Nat.le_of_ble_eq_true rfl)) (fun Θ X hin => ?_)
  refine wa_eq (L2 := [(0, va_rf (some a)), (1, .int x1), (2, .int x2)]) ?_ rfl (by first | rfl | simp [lv_args, va_rf_cat, cat_i, cat_l]) rfl
  obtain ⟨k, hk0⟩ : ∃ k : Nat, k = 0 := ⟨0, rfl⟩
  obtain ⟨n, hn0⟩ : ∃ n : Nat, n = 0 := ⟨0, rfl⟩
  have hk : k + c = c := by omega
  have hn : n + m = m := by omega
  refine wa_costs hk0.symm hn0.symm ?_
  rw [fX0_mark] at hf
  refine wa_iload_n X 1 dX0_mark_0 rfl ?_
  obtain ⟨r1, μ2, c3, m4, c5, m6, e7, hf, h8, h9⟩ := jcl_some hf
  refine wa_rcallS (st2 := [.int r1]) X dX0_mark_1 lmX0_15 lMX0_isDay (mX0_isDay e7) rfl rfl rfl (va_cats (Nat.le_of_ble_eq_true rfl)) (by decide) (by omega) (by omega) ?_
  refine wa_ifeq (tgt := 16) X dX0_mark_4 (by decide) (fun h10 => ?_) (fun h10 => ?_)
  · rw [if_pos h10] at hf
    refine wa_iconst (v := (0 : Int32)) X dX0_mark_16 (by decide) ?_
    obtain ⟨rfl, rfl, rfl, rfl⟩ := jret hf
    exact wa_iret X dX0_mark_17 rfl (by omega) (by omega)
  · rw [if_neg h10] at hf
    refine wa_aload_n X 0 dX0_mark_7 rfl ?_
    refine wa_iload_n X 1 dX0_mark_8 rfl ?_
    obtain ⟨h11, hf⟩ := jckT hf
    obtain ⟨r12, μ13, c14, m15, c16, m17, e18, hf, h19, h20⟩ := jcl_some hf
    refine wa_rcallV (st2 := [.int r12]) X dX0_mark_9 lmX0_19 lMX0_isFree rfl h11 (mX0_isFree e18) rfl rfl rfl (va_cats (Nat.le_of_ble_eq_true rfl)) (by decide) (by omega) (by omega) ?_
    refine wa_iload_n X 2 dX0_mark_12 rfl ?_
    refine wa_icne (tgt := 18) X dX0_mark_13 (by decide) (fun h21 => ?_) (fun h21 => ?_)
    · rw [if_neg h21] at hf
      refine wa_aload_n X 0 dX0_mark_18 rfl ?_
      obtain ⟨h22, hf⟩ := jckT hf
      refine wa_getP X dX0_mark_19 lfX0_11 rfl h22 rfl ?_
      refine wa_iload_n X 1 dX0_mark_22 rfl ?_
      refine wa_bipush (v := (64 : Int32)) X dX0_mark_23 (by decide) ?_
      refine wa_idiv X dX0_mark_25 (by decide) ?_
      refine wa_dup2 X dX0_mark_26 rfl (va_rf_cat _) ?_
      obtain ⟨q23, h24, hf⟩ := jde_some hf
      obtain ⟨h25, hf⟩ := jckT hf
      obtain ⟨h26, hf⟩ := jck_some hf
      refine wa_rlald X dX0_mark_27 h24 h25 h26 ?_
      refine wa_lconst (v := (1 : Int64)) X dX0_mark_28 (by decide) ?_
      refine wa_iload_n X 1 dX0_mark_29 rfl ?_
      refine wa_bipush (v := (64 : Int32)) X dX0_mark_30 (by decide) ?_
      refine wa_irem X dX0_mark_32 (by decide) ?_
      refine wa_lshl X dX0_mark_33 ?_
      refine wa_lxor X dX0_mark_34 ?_
      obtain ⟨μ27, hm28, hf⟩ := jlt_e hf
      have e29 : jT μ27 = jT μ13 := by rw [hm28]; rfl
      refine wa_rlast (ν := μ27) X dX0_mark_35 h24 h25 h26 hm28 ?_
      refine wa_aload_n X 0 dX0_mark_36 rfl ?_
      refine wa_dup X dX0_mark_37 (va_rf_cat _) ?_
      refine wa_getI X dX0_mark_38 lfX0_22 rfl (by rw [e29]; exact h22) rfl ?_
      refine wa_iload_n X 2 dX0_mark_41 rfl ?_
      refine wa_ifeq (tgt := 49) X dX0_mark_42 (by decide) (fun h30 => ?_) (fun h30 => ?_)
      · rw [if_pos h30] at hf
        refine wa_iconst (v := (-1 : Int32)) X dX0_mark_49 (by decide) ?_
        refine wa_iadd X dX0_mark_50 ?_
        obtain ⟨μ31, hm32, hf⟩ := jlt_e hf
        have e33 : jT μ31 = jT μ13 := by rw [hm32]; exact e29
        refine wa_rputI (ν := μ31) X dX0_mark_51 lfX0_22 rfl (by rw [e29]; exact h22) rfl rfl hm32 ?_
        refine wa_iconst (v := (1 : Int32)) X dX0_mark_54 (by decide) ?_
        obtain ⟨rfl, rfl, rfl, rfl⟩ := jret hf
        exact wa_iret X dX0_mark_55 rfl (by omega) (by omega)
      · rw [if_neg h30] at hf
        refine wa_iconst (v := (1 : Int32)) X dX0_mark_45 (by decide) ?_
        refine wa_goto (tgt := 50) X dX0_mark_46 (by decide) ?_
        refine wa_iadd X dX0_mark_50 ?_
        obtain ⟨μ34, hm35, hf⟩ := jlt_e hf
        have e36 : jT μ34 = jT μ13 := by rw [hm35]; exact e29
        refine wa_rputI (ν := μ34) X dX0_mark_51 lfX0_22 rfl (by rw [e29]; exact h22) rfl rfl hm35 ?_
        refine wa_iconst (v := (1 : Int32)) X dX0_mark_54 (by decide) ?_
        obtain ⟨rfl, rfl, rfl, rfl⟩ := jret hf
        exact wa_iret X dX0_mark_55 rfl (by omega) (by omega)
    · rw [if_pos h21] at hf
      refine wa_iconst (v := (0 : Int32)) X dX0_mark_16 (by decide) ?_
      obtain ⟨rfl, rfl, rfl, rfl⟩ := jret hf
      exact wa_iret X dX0_mark_17 rfl (by omega) (by omega)
theorem dX0_daysOn_0 : decode cX0_daysOn 0 = .ok (.iload_n 0, 1) := by decide +kernel
theorem dX0_daysOn_1 : decode cX0_daysOn 1 = .ok (.iload_n 1, 1) := by decide +kernel
theorem dX0_daysOn_2 : decode cX0_daysOn 2 = .ok (.iadd, 1) := by decide +kernel
theorem dX0_daysOn_3 : decode cX0_daysOn 3 = .ok (.invokestatic 15, 3) := by decide +kernel
theorem dX0_daysOn_6 : decode cX0_daysOn 6 = .ok (.ifCond .eq 9, 3) := by decide +kernel
theorem dX0_daysOn_9 : decode cX0_daysOn 9 = .ok (.iload_n 0, 1) := by decide +kernel
theorem dX0_daysOn_10 : decode cX0_daysOn 10 = .ok (.iload_n 1, 1) := by decide +kernel
theorem dX0_daysOn_11 : decode cX0_daysOn 11 = .ok (.iadd, 1) := by decide +kernel
theorem dX0_daysOn_12 : decode cX0_daysOn 12 = .ok (.goto 4, 3) := by decide +kernel
theorem dX0_daysOn_15 : decode cX0_daysOn 15 = .ok (.iconst (-1), 1) := by decide +kernel
theorem dX0_daysOn_16 : decode cX0_daysOn 16 = .ok (.ireturn, 1) := by decide +kernel
def fX0_daysOn (x0 : Int32) (x1 : Int32) (μ : JM) : JO (Int32) := jcl (fX0_isDay (x0 + x1) μ) fun r1 μ2 => if r1 = 0 then (some ((-1 : Int32), μ2, 0, 0)) else (some ((x0 + x1), μ2, 0, 0))
set_option maxHeartbeats 4000000 in
set_option maxRecDepth 100000 in
theorem mX0_daysOn {b : Nat} {x0 : Int32} {x1 : Int32} {μ : JM} {r : Int32} {ν : JM} {c m : Nat} (hf : fX0_daysOn x0 x1 μ = some (r, ν, c, m)) : JMet b yX0_daysOn cX0_daysOn 2 (some .int) 1 20 [.int x0, .int x1] μ (some (.int r)) ν c m := by
  refine JMet.of (by decide) (lg_sl_le (by simp only [List.map_cons, List.map_nil, List.sum_cons, List.sum_nil, va_rf_cat]; exact Nat.le_of_ble_eq_true rfl)) (fun Θ X hin => ?_)
  refine wa_eq (L2 := [(0, .int x0), (1, .int x1)]) ?_ rfl (by first | rfl | simp [lv_args, va_rf_cat, cat_i, cat_l]) rfl
  obtain ⟨k, hk0⟩ : ∃ k : Nat, k = 0 := ⟨0, rfl⟩
  obtain ⟨n, hn0⟩ : ∃ n : Nat, n = 0 := ⟨0, rfl⟩
  have hk : k + c = c := by omega
  have hn : n + m = m := by omega
  refine wa_costs hk0.symm hn0.symm ?_
  rw [fX0_daysOn] at hf
  refine wa_iload_n X 0 dX0_daysOn_0 rfl ?_
  refine wa_iload_n X 1 dX0_daysOn_1 rfl ?_
  refine wa_iadd X dX0_daysOn_2 ?_
  obtain ⟨r1, μ2, c3, m4, c5, m6, e7, hf, h8, h9⟩ := jcl_some hf
  refine wa_rcallS (st2 := [.int r1]) X dX0_daysOn_3 lmX0_15 lMX0_isDay (mX0_isDay e7) rfl rfl rfl (va_cats (Nat.le_of_ble_eq_true rfl)) (by decide) (by omega) (by omega) ?_
  refine wa_ifeq (tgt := 15) X dX0_daysOn_6 (by decide) (fun h10 => ?_) (fun h10 => ?_)
  · rw [if_pos h10] at hf
    refine wa_iconst (v := (-1 : Int32)) X dX0_daysOn_15 (by decide) ?_
    obtain ⟨rfl, rfl, rfl, rfl⟩ := jret hf
    exact wa_iret X dX0_daysOn_16 rfl (by omega) (by omega)
  · rw [if_neg h10] at hf
    refine wa_iload_n X 0 dX0_daysOn_9 rfl ?_
    refine wa_iload_n X 1 dX0_daysOn_10 rfl ?_
    refine wa_iadd X dX0_daysOn_11 ?_
    refine wa_goto (tgt := 16) X dX0_daysOn_12 (by decide) ?_
    obtain ⟨rfl, rfl, rfl, rfl⟩ := jret hf
    exact wa_iret X dX0_daysOn_16 rfl (by omega) (by omega)
theorem dX0_workdaysOn_0 : decode cX0_workdaysOn 0 = .ok (.iload_n 2, 1) := by decide +kernel
theorem dX0_workdaysOn_1 : decode cX0_workdaysOn 1 = .ok (.ifCond .ne 5, 3) := by decide +kernel
theorem dX0_workdaysOn_4 : decode cX0_workdaysOn 4 = .ok (.iload_n 1, 1) := by decide +kernel
theorem dX0_workdaysOn_5 : decode cX0_workdaysOn 5 = .ok (.ireturn, 1) := by decide +kernel
theorem dX0_workdaysOn_6 : decode cX0_workdaysOn 6 = .ok (.iload_n 2, 1) := by decide +kernel
theorem dX0_workdaysOn_7 : decode cX0_workdaysOn 7 = .ok (.istore_n 3, 1) := by decide +kernel
theorem dX0_workdaysOn_8 : decode cX0_workdaysOn 8 = .ok (.iload_n 1, 1) := by decide +kernel
theorem dX0_workdaysOn_9 : decode cX0_workdaysOn 9 = .ok (.iconst 1, 1) := by decide +kernel
theorem dX0_workdaysOn_10 : decode cX0_workdaysOn 10 = .ok (.iadd, 1) := by decide +kernel
theorem dX0_workdaysOn_11 : decode cX0_workdaysOn 11 = .ok (.istore 4, 2) := by decide +kernel
theorem dX0_workdaysOn_13 : decode cX0_workdaysOn 13 = .ok (.iload 4, 2) := by decide +kernel
theorem dX0_workdaysOn_15 : decode cX0_workdaysOn 15 = .ok (.ifCond .le 45, 3) := by decide +kernel
theorem dX0_workdaysOn_18 : decode cX0_workdaysOn 18 = .ok (.iload 4, 2) := by decide +kernel
theorem dX0_workdaysOn_20 : decode cX0_workdaysOn 20 = .ok (.sipush 9999, 3) := by decide +kernel
theorem dX0_workdaysOn_23 : decode cX0_workdaysOn 23 = .ok (.if_icmp .gt 37, 3) := by decide +kernel
theorem dX0_workdaysOn_26 : decode cX0_workdaysOn 26 = .ok (.iload 4, 2) := by decide +kernel
theorem dX0_workdaysOn_28 : decode cX0_workdaysOn 28 = .ok (.bipush 7, 2) := by decide +kernel
theorem dX0_workdaysOn_30 : decode cX0_workdaysOn 30 = .ok (.irem, 1) := by decide +kernel
theorem dX0_workdaysOn_31 : decode cX0_workdaysOn 31 = .ok (.iconst 5, 1) := by decide +kernel
theorem dX0_workdaysOn_32 : decode cX0_workdaysOn 32 = .ok (.if_icmp .ge 15, 3) := by decide +kernel
theorem dX0_workdaysOn_35 : decode cX0_workdaysOn 35 = .ok (.aload_n 0, 1) := by decide +kernel
theorem dX0_workdaysOn_36 : decode cX0_workdaysOn 36 = .ok (.iload 4, 2) := by decide +kernel
theorem dX0_workdaysOn_38 : decode cX0_workdaysOn 38 = .ok (.invokevirtual 19, 3) := by decide +kernel
theorem dX0_workdaysOn_41 : decode cX0_workdaysOn 41 = .ok (.ifCond .ne 6, 3) := by decide +kernel
theorem dX0_workdaysOn_44 : decode cX0_workdaysOn 44 = .ok (.iinc 3 (-1), 3) := by decide +kernel
theorem dX0_workdaysOn_47 : decode cX0_workdaysOn 47 = .ok (.iload_n 3, 1) := by decide +kernel
theorem dX0_workdaysOn_48 : decode cX0_workdaysOn 48 = .ok (.ifCond .ne 6, 3) := by decide +kernel
theorem dX0_workdaysOn_51 : decode cX0_workdaysOn 51 = .ok (.iload 4, 2) := by decide +kernel
theorem dX0_workdaysOn_53 : decode cX0_workdaysOn 53 = .ok (.ireturn, 1) := by decide +kernel
theorem dX0_workdaysOn_54 : decode cX0_workdaysOn 54 = .ok (.iinc 4 1, 3) := by decide +kernel
theorem dX0_workdaysOn_57 : decode cX0_workdaysOn 57 = .ok (.goto (-44), 3) := by decide +kernel
theorem dX0_workdaysOn_60 : decode cX0_workdaysOn 60 = .ok (.iconst (-1), 1) := by decide +kernel
theorem dX0_workdaysOn_61 : decode cX0_workdaysOn 61 = .ok (.ireturn, 1) := by decide +kernel
def fX0_workdaysOn_b47 (rec13 : Nat → Int32 → Int32 → JM → JO (Int32)) (a : Nat) (x3 : Int32) (x4 : Int32) (μ : JM) : JO (Int32) := if x3 = 0 then (some (x4, μ, 0, 0)) else (rec13 a x3 (x4 + (1 : Int32)) μ)
set_option maxHeartbeats 4000000 in
set_option maxRecDepth 100000 in
theorem gX0_workdaysOn_b47 {b : Nat} {Θ : JE} {RC RS : Nat} {r : Int32} {ν : JM} (X : jX b Θ RX0 cX0_workdaysOn 5 (some .int) 2 41 RC RS) {rec13 : Nat → Int32 → Int32 → JM → JO (Int32)} (hrec13 : ∀ (a : Nat) (x3 : Int32) (x4 : Int32) (μ : JM) (c m k n : Nat), rec13 a x3 x4 μ = some (r, ν, c, m) → k + c = RC → n + m = RS → WA b Θ 5 (jE b Θ (some (.int r)) ν RC RS) μ k n 13 [(0, va_rf (some a)), (3, .int x3), (4, .int x4)] []) (a : Nat) (x3 : Int32) (x4 : Int32) (μ : JM) (c m k n : Nat) (hf : fX0_workdaysOn_b47 rec13 a x3 x4 μ = some (r, ν, c, m)) (hk : k + c = RC) (hn : n + m = RS) : WA b Θ 5 (jE b Θ (some (.int r)) ν RC RS) μ k n 47 [(0, va_rf (some a)), (3, .int x3), (4, .int x4)] [] := by
  rw [fX0_workdaysOn_b47] at hf
  refine wa_iload_n X 1 dX0_workdaysOn_47 rfl ?_
  refine wa_ifne (tgt := 54) X dX0_workdaysOn_48 (by decide) (fun h16 => ?_) (fun h16 => ?_)
  · rw [if_neg h16] at hf
    refine wa_iinc (v := (x4 + (1 : Int32))) (L2 := [(4, .int (x4 + (1 : Int32))), (0, va_rf (some a)), (3, .int x3)]) X 2 dX0_workdaysOn_54 rfl rfl (by decide) (by first | rfl | simp [va_rf_cat, cat_i, cat_l]) ?_
    refine wa_goto (tgt := 13) X dX0_workdaysOn_57 (by decide) ?_
    refine wa_sub (L2 := [(0, va_rf (some a)), (3, .int x3), (4, .int (x4 + (1 : Int32)))]) [1, 2, 0] rfl ?_
    exact hrec13 a x3 (x4 + (1 : Int32)) μ _ _ _ _ hf (by omega) (by omega)
  · rw [if_pos h16] at hf
    refine wa_iload X 2 dX0_workdaysOn_51 rfl ?_
    obtain ⟨rfl, rfl, rfl, rfl⟩ := jret hf
    exact wa_iret X dX0_workdaysOn_53 rfl (by omega) (by omega)
def fX0_workdaysOn_b13 : Nat → Nat → Int32 → Int32 → JM → JO (Int32)
  | 0, _, _, _, _ => none
  | fu + 1, a, x3, x4, μ => if x4 ≤ 0 then (some ((-1 : Int32), μ, 0, 0)) else (if (9999 : Int32) < x4 then (some ((-1 : Int32), μ, 0, 0)) else (if (5 : Int32) ≤ (jrem x4 (7 : Int32)) then (fX0_workdaysOn_b47 (fX0_workdaysOn_b13 fu) a x3 x4 μ) else (jck ((jT μ a).1 == 1) <| jcl (fX0_isFree a x4 μ) fun r6 μ7 => if r6 = 0 then (fX0_workdaysOn_b47 (fX0_workdaysOn_b13 fu) a (x3 + (-1 : Int32)) x4 μ7) else (fX0_workdaysOn_b47 (fX0_workdaysOn_b13 fu) a x3 x4 μ7))))
set_option maxHeartbeats 4000000 in
set_option maxRecDepth 100000 in
theorem gX0_workdaysOn_b13 {b : Nat} {Θ : JE} {RC RS : Nat} {r : Int32} {ν : JM} (X : jX b Θ RX0 cX0_workdaysOn 5 (some .int) 2 41 RC RS) : ∀ (fu : Nat) (a : Nat) (x3 : Int32) (x4 : Int32) (μ : JM) (c m k n : Nat), fX0_workdaysOn_b13 fu a x3 x4 μ = some (r, ν, c, m) → k + c = RC → n + m = RS → WA b Θ 5 (jE b Θ (some (.int r)) ν RC RS) μ k n 13 [(0, va_rf (some a)), (3, .int x3), (4, .int x4)] [] := by
  intro fu
  induction fu with
  | zero => intro a x3 x4 μ c m k n hf; cases hf
  | succ fu ih =>
    intro a x3 x4 μ c m k n hf hk hn
    rw [fX0_workdaysOn_b13] at hf
    refine wa_iload X 2 dX0_workdaysOn_13 rfl ?_
    refine wa_ifle (tgt := 60) X dX0_workdaysOn_15 (by decide) (fun h2 => ?_) (fun h2 => ?_)
    · rw [if_pos h2] at hf
      refine wa_iconst (v := (-1 : Int32)) X dX0_workdaysOn_60 (by decide) ?_
      obtain ⟨rfl, rfl, rfl, rfl⟩ := jret hf
      exact wa_iret X dX0_workdaysOn_61 rfl (by omega) (by omega)
    · rw [if_neg h2] at hf
      refine wa_iload X 2 dX0_workdaysOn_18 rfl ?_
      refine wa_sipush (v := (9999 : Int32)) X dX0_workdaysOn_20 (by decide) ?_
      refine wa_icgt (tgt := 60) X dX0_workdaysOn_23 (by decide) (fun h3 => ?_) (fun h3 => ?_)
      · rw [if_pos h3] at hf
        refine wa_iconst (v := (-1 : Int32)) X dX0_workdaysOn_60 (by decide) ?_
        obtain ⟨rfl, rfl, rfl, rfl⟩ := jret hf
        exact wa_iret X dX0_workdaysOn_61 rfl (by omega) (by omega)
      · rw [if_neg h3] at hf
        refine wa_iload X 2 dX0_workdaysOn_26 rfl ?_
        refine wa_bipush (v := (7 : Int32)) X dX0_workdaysOn_28 (by decide) ?_
        refine wa_irem X dX0_workdaysOn_30 (by decide) ?_
        refine wa_iconst (v := (5 : Int32)) X dX0_workdaysOn_31 (by decide) ?_
        refine wa_icge (tgt := 47) X dX0_workdaysOn_32 (by decide) (fun h4 => ?_) (fun h4 => ?_)
        · rw [if_pos h4] at hf
          refine wa_sub (L2 := [(0, va_rf (some a)), (3, .int x3), (4, .int x4)]) [0, 1, 2] rfl ?_
          exact gX0_workdaysOn_b47 X ih a x3 x4 μ _ _ _ _ hf (by omega) (by omega)
        · rw [if_neg h4] at hf
          refine wa_aload_n X 0 dX0_workdaysOn_35 rfl ?_
          refine wa_iload X 2 dX0_workdaysOn_36 rfl ?_
          obtain ⟨h5, hf⟩ := jckT hf
          obtain ⟨r6, μ7, c8, m9, c10, m11, e12, hf, h13, h14⟩ := jcl_some hf
          refine wa_rcallV (st2 := [.int r6]) X dX0_workdaysOn_38 lmX0_19 lMX0_isFree rfl h5 (mX0_isFree e12) rfl rfl rfl (va_cats (Nat.le_of_ble_eq_true rfl)) (by decide) (by omega) (by omega) ?_
          refine wa_ifne (tgt := 47) X dX0_workdaysOn_41 (by decide) (fun h15 => ?_) (fun h15 => ?_)
          · rw [if_neg h15] at hf
            refine wa_sub (L2 := [(0, va_rf (some a)), (3, .int x3), (4, .int x4)]) [0, 1, 2] rfl ?_
            exact gX0_workdaysOn_b47 X ih a x3 x4 μ7 _ _ _ _ hf (by omega) (by omega)
          · rw [if_pos h15] at hf
            refine wa_iinc (v := (x3 + (-1 : Int32))) (L2 := [(3, .int (x3 + (-1 : Int32))), (0, va_rf (some a)), (4, .int x4)]) X 1 dX0_workdaysOn_44 rfl rfl (by decide) (by first | rfl | simp [va_rf_cat, cat_i, cat_l]) ?_
            refine wa_sub (L2 := [(0, va_rf (some a)), (3, .int (x3 + (-1 : Int32))), (4, .int x4)]) [1, 0, 2] rfl ?_
            exact gX0_workdaysOn_b47 X ih a (x3 + (-1 : Int32)) x4 μ7 _ _ _ _ hf (by omega) (by omega)
def fX0_workdaysOn (a : Nat) (x1 : Int32) (x2 : Int32) (μ : JM) : JO (Int32) := if x2 = 0 then (some (x1, μ, 0, 0)) else (fX0_workdaysOn_b13  jfuel a x2 (x1 + (1 : Int32)) μ)
set_option maxHeartbeats 4000000 in
set_option maxRecDepth 100000 in
theorem mX0_workdaysOn {b : Nat} {a : Nat} {x1 : Int32} {x2 : Int32} {μ : JM} {r : Int32} {ν : JM} {c m : Nat} (hf : fX0_workdaysOn a x1 x2 μ = some (r, ν, c, m)) : JMet b yX0_workdaysOn cX0_workdaysOn 5 (some .int) 2 41 [va_rf (some a), .int x1, .int x2] μ (some (.int r)) ν c m := by
  refine JMet.of (by decide) (lg_sl_le (by simp only [List.map_cons, List.map_nil, List.sum_cons, List.sum_nil, va_rf_cat]; exact Nat.le_of_ble_eq_true rfl)) (fun Θ X hin => ?_)
  refine wa_eq (L2 := [(0, va_rf (some a)), (1, .int x1), (2, .int x2)]) ?_ rfl (by first | rfl | simp [lv_args, va_rf_cat, cat_i, cat_l]) rfl
  obtain ⟨k, hk0⟩ : ∃ k : Nat, k = 0 := ⟨0, rfl⟩
  obtain ⟨n, hn0⟩ : ∃ n : Nat, n = 0 := ⟨0, rfl⟩
  have hk : k + c = c := by omega
  have hn : n + m = m := by omega
  refine wa_costs hk0.symm hn0.symm ?_
  rw [fX0_workdaysOn] at hf
  refine wa_iload_n X 2 dX0_workdaysOn_0 rfl ?_
  refine wa_ifne (tgt := 6) X dX0_workdaysOn_1 (by decide) (fun h1 => ?_) (fun h1 => ?_)
  · rw [if_neg h1] at hf
    refine wa_iload_n X 2 dX0_workdaysOn_6 rfl ?_
    refine wa_istore_n (L2 := [(3, .int x2), (0, va_rf (some a)), (1, .int x1), (2, .int x2)]) X dX0_workdaysOn_7 (by decide) (by first | rfl | (show (3, _) :: List.filter (fun q : Nat × Value => !(q.1 == 3) && !(q.1 + 1 == 3 && q.2.category == 2)) _ = _; simp [va_rf_cat, cat_i, cat_l])) ?_
    refine wa_iload_n X 2 dX0_workdaysOn_8 rfl ?_
    refine wa_iconst (v := (1 : Int32)) X dX0_workdaysOn_9 (by decide) ?_
    refine wa_iadd X dX0_workdaysOn_10 ?_
    refine wa_istore (L2 := [(4, .int (x1 + (1 : Int32))), (3, .int x2), (0, va_rf (some a)), (1, .int x1), (2, .int x2)]) X dX0_workdaysOn_11 (by decide) (by first | rfl | (show (4, _) :: List.filter (fun q : Nat × Value => !(q.1 == 4) && !(q.1 + 1 == 4 && q.2.category == 2)) _ = _; simp [va_rf_cat, cat_i, cat_l])) ?_
    refine wa_sub (L2 := [(0, va_rf (some a)), (3, .int x2), (4, .int (x1 + (1 : Int32)))]) [2, 1, 0] rfl ?_
    exact gX0_workdaysOn_b13 X jfuel a x2 (x1 + (1 : Int32)) μ _ _ _ _ hf (by omega) (by omega)
  · rw [if_pos h1] at hf
    refine wa_iload_n X 1 dX0_workdaysOn_4 rfl ?_
    obtain ⟨rfl, rfl, rfl, rfl⟩ := jret hf
    exact wa_iret X dX0_workdaysOn_5 rfl (by omega) (by omega)
theorem dX1_init_0 : decode cX1_init 0 = .ok (.aload_n 0, 1) := by decide +kernel
theorem dX1_init_1 : decode cX1_init 1 = .ok (.invokespecial 3, 3) := by decide +kernel
theorem dX1_init_4 : decode cX1_init 4 = .ok (.aload_n 0, 1) := by decide +kernel
theorem dX1_init_5 : decode cX1_init 5 = .ok (.iconst 4, 1) := by decide +kernel
theorem dX1_init_6 : decode cX1_init 6 = .ok (.newarray .long, 2) := by decide +kernel
theorem dX1_init_8 : decode cX1_init 8 = .ok (.putfield 11, 3) := by decide +kernel
theorem dX1_init_11 : decode cX1_init 11 = .ok (.return_, 1) := by decide +kernel
def fX1_init (a : Nat) (μ : JM) : JO (Unit) := jnw μ 102 4 fun q1 μ2 => jck ((jT μ2 a).1 == 2) <| jlt (jsP μ2 a 0 (some q1)) fun μ11 => some ((), μ11, 0, 0)
set_option maxHeartbeats 4000000 in
set_option maxRecDepth 100000 in
theorem mX1_init {b : Nat} {a : Nat} {μ : JM} {r : Unit} {ν : JM} {c m : Nat} (hf : fX1_init a μ = some (r, ν, c, m)) : JMet b yX1_init cX1_init 1 none 1 20 [va_rf (some a)] μ (none) ν c m := by
  refine JMet.of (by decide) (lg_sl_le (by simp only [List.map_cons, List.map_nil, List.sum_cons, List.sum_nil, va_rf_cat]; exact Nat.le_of_ble_eq_true rfl)) (fun Θ X hin => ?_)
  have hin := hin rfl
  refine wa_eq (L2 := [(0, va_rf (some a))]) ?_ rfl (by first | rfl | simp [lv_args, va_rf_cat, cat_i, cat_l]) rfl
  obtain ⟨k, hk0⟩ : ∃ k : Nat, k = 0 := ⟨0, rfl⟩
  obtain ⟨n, hn0⟩ : ∃ n : Nat, n = 0 := ⟨0, rfl⟩
  have hk : k + c = c := by omega
  have hn : n + m = m := by omega
  refine wa_costs hk0.symm hn0.symm ?_
  rw [fX1_init] at hf
  refine wa_aload_n X 0 dX1_init_0 rfl ?_
  refine wa_robj X dX1_init_1 lmX1_3 lo_inst lo_code (by decide) (Nat.le_trans (Nat.add_le_add_right (va_cats (m := 8) (Nat.le_of_ble_eq_true rfl)) 12) (by decide)) rfl ?_
  refine wa_aload_n X 0 dX1_init_4 rfl ?_
  refine wa_iconst (v := (4 : Int32)) X dX1_init_5 (by decide) ?_
  obtain ⟨q1, μ2, c5, m6, h3, hm4, hf, h7, h8⟩ := jnw_some hf
  refine wa_newa (t := 102) (N := 4) X dX1_init_6 (by decide) rfl la_102 (by decide) (by decide) (by decide) (by omega) (by omega) ?_
  rw [← h3, ← hm4]
  have h9 : (jT μ2 q1).1 = 102 := by rw [jT_at h3 hm4]
  obtain ⟨h10, hf⟩ := jckT hf
  obtain ⟨μ11, hm12, hf⟩ := jlt_e hf
  have e13 : jT μ11 = jT μ2 := by rw [hm12]; rfl
  refine wa_rputFP (ν := μ11) X hin dX1_init_8 lfX1_11 rfl h10 (by first | exact Or.inl ⟨_, rfl⟩ | exact Or.inr ⟨_, rfl⟩) rfl rfl hm12 ?_
  obtain ⟨rfl, rfl, rfl, rfl⟩ := jret hf
  exact wa_vret X dX1_init_11 (by omega) (by omega)
theorem dX1_clear_0 : decode cX1_clear 0 = .ok (.iconst 0, 1) := by decide +kernel
theorem dX1_clear_1 : decode cX1_clear 1 = .ok (.istore_n 1, 1) := by decide +kernel
theorem dX1_clear_2 : decode cX1_clear 2 = .ok (.iload_n 1, 1) := by decide +kernel
theorem dX1_clear_3 : decode cX1_clear 3 = .ok (.iconst 4, 1) := by decide +kernel
theorem dX1_clear_4 : decode cX1_clear 4 = .ok (.if_icmp .ge 16, 3) := by decide +kernel
theorem dX1_clear_7 : decode cX1_clear 7 = .ok (.aload_n 0, 1) := by decide +kernel
theorem dX1_clear_8 : decode cX1_clear 8 = .ok (.getfield 11, 3) := by decide +kernel
theorem dX1_clear_11 : decode cX1_clear 11 = .ok (.iload_n 1, 1) := by decide +kernel
theorem dX1_clear_12 : decode cX1_clear 12 = .ok (.lconst 0, 1) := by decide +kernel
theorem dX1_clear_13 : decode cX1_clear 13 = .ok (.lastore, 1) := by decide +kernel
theorem dX1_clear_14 : decode cX1_clear 14 = .ok (.iinc 1 1, 3) := by decide +kernel
theorem dX1_clear_17 : decode cX1_clear 17 = .ok (.goto (-15), 3) := by decide +kernel
theorem dX1_clear_20 : decode cX1_clear 20 = .ok (.return_, 1) := by decide +kernel
def fX1_clear_b2 : Nat → Nat → Int32 → JM → JO (Unit)
  | 0, _, _, _ => none
  | fu + 1, a, x1, μ => if (4 : Int32) ≤ x1 then (some ((), μ, 0, 0)) else (jck ((jT μ a).1 == 2) <| jde (jP μ a 0) fun q3 => jck ((jT μ q3).1 == 102) <| jck (jin x1 (jT μ q3).2) <| jlt (jsJ μ q3 (x1).toNatClampNeg (0 : Int64)) fun μ7 => fX1_clear_b2 fu a (x1 + (1 : Int32)) μ7)
set_option maxHeartbeats 4000000 in
set_option maxRecDepth 100000 in
theorem gX1_clear_b2 {b : Nat} {Θ : JE} {RC RS : Nat} {r : Unit} {ν : JM} (X : jX b Θ RX1 cX1_clear 2 none 0 0 RC RS) : ∀ (fu : Nat) (a : Nat) (x1 : Int32) (μ : JM) (c m k n : Nat), fX1_clear_b2 fu a x1 μ = some (r, ν, c, m) → k + c = RC → n + m = RS → WA b Θ 2 (jE b Θ (none) ν RC RS) μ k n 2 [(0, va_rf (some a)), (1, .int x1)] [] := by
  intro fu
  induction fu with
  | zero => intro a x1 μ c m k n hf; cases hf
  | succ fu ih =>
    intro a x1 μ c m k n hf hk hn
    rw [fX1_clear_b2] at hf
    refine wa_iload_n X 1 dX1_clear_2 rfl ?_
    refine wa_iconst (v := (4 : Int32)) X dX1_clear_3 (by decide) ?_
    refine wa_icge (tgt := 20) X dX1_clear_4 (by decide) (fun h1 => ?_) (fun h1 => ?_)
    · rw [if_pos h1] at hf
      obtain ⟨rfl, rfl, rfl, rfl⟩ := jret hf
      exact wa_vret X dX1_clear_20 (by omega) (by omega)
    · rw [if_neg h1] at hf
      refine wa_aload_n X 0 dX1_clear_7 rfl ?_
      obtain ⟨h2, hf⟩ := jckT hf
      refine wa_getP X dX1_clear_8 lfX1_11 rfl h2 rfl ?_
      refine wa_iload_n X 1 dX1_clear_11 rfl ?_
      refine wa_lconst (v := (0 : Int64)) X dX1_clear_12 (by decide) ?_
      obtain ⟨q3, h4, hf⟩ := jde_some hf
      obtain ⟨h5, hf⟩ := jckT hf
      obtain ⟨h6, hf⟩ := jck_some hf
      obtain ⟨μ7, hm8, hf⟩ := jlt_e hf
      have e9 : jT μ7 = jT μ := by rw [hm8]; rfl
      refine wa_rlast (ν := μ7) X dX1_clear_13 h4 h5 h6 hm8 ?_
      refine wa_iinc (v := (x1 + (1 : Int32))) (L2 := [(1, .int (x1 + (1 : Int32))), (0, va_rf (some a))]) X 1 dX1_clear_14 rfl rfl (by decide) (by first | rfl | simp [va_rf_cat, cat_i, cat_l]) ?_
      refine wa_goto (tgt := 2) X dX1_clear_17 (by decide) ?_
      refine wa_sub (L2 := [(0, va_rf (some a)), (1, .int (x1 + (1 : Int32)))]) [1, 0] rfl ?_
      exact ih a (x1 + (1 : Int32)) μ7 _ _ _ _ hf (by omega) (by omega)
def fX1_clear (a : Nat) (μ : JM) : JO (Unit) := fX1_clear_b2  jfuel a (0 : Int32) μ
set_option maxHeartbeats 4000000 in
set_option maxRecDepth 100000 in
theorem mX1_clear {b : Nat} {a : Nat} {μ : JM} {r : Unit} {ν : JM} {c m : Nat} (hf : fX1_clear a μ = some (r, ν, c, m)) : JMet b yX1_clear cX1_clear 2 none 0 0 [va_rf (some a)] μ (none) ν c m := by
  refine JMet.of (by decide) (lg_sl_le (by simp only [List.map_cons, List.map_nil, List.sum_cons, List.sum_nil, va_rf_cat]; exact Nat.le_of_ble_eq_true rfl)) (fun Θ X hin => ?_)
  refine wa_eq (L2 := [(0, va_rf (some a))]) ?_ rfl (by first | rfl | simp [lv_args, va_rf_cat, cat_i, cat_l]) rfl
  obtain ⟨k, hk0⟩ : ∃ k : Nat, k = 0 := ⟨0, rfl⟩
  obtain ⟨n, hn0⟩ : ∃ n : Nat, n = 0 := ⟨0, rfl⟩
  have hk : k + c = c := by omega
  have hn : n + m = m := by omega
  refine wa_costs hk0.symm hn0.symm ?_
  rw [fX1_clear] at hf
  refine wa_iconst (v := (0 : Int32)) X dX1_clear_0 (by decide) ?_
  refine wa_istore_n (L2 := [(1, .int (0 : Int32)), (0, va_rf (some a))]) X dX1_clear_1 (by decide) (by first | rfl | (show (1, _) :: List.filter (fun q : Nat × Value => !(q.1 == 1) && !(q.1 + 1 == 1 && q.2.category == 2)) _ = _; simp [va_rf_cat, cat_i, cat_l])) ?_
  refine wa_sub (L2 := [(0, va_rf (some a)), (1, .int (0 : Int32))]) [1, 0] rfl ?_
  exact gX1_clear_b2 X jfuel a (0 : Int32) μ _ _ _ _ hf (by omega) (by omega)
theorem dX1_fill_0 : decode cX1_fill 0 = .ok (.iconst 0, 1) := by decide +kernel
theorem dX1_fill_1 : decode cX1_fill 1 = .ok (.istore_n 1, 1) := by decide +kernel
theorem dX1_fill_2 : decode cX1_fill 2 = .ok (.iload_n 1, 1) := by decide +kernel
theorem dX1_fill_3 : decode cX1_fill 3 = .ok (.iconst 4, 1) := by decide +kernel
theorem dX1_fill_4 : decode cX1_fill 4 = .ok (.if_icmp .ge 18, 3) := by decide +kernel
theorem dX1_fill_7 : decode cX1_fill 7 = .ok (.aload_n 0, 1) := by decide +kernel
theorem dX1_fill_8 : decode cX1_fill 8 = .ok (.getfield 11, 3) := by decide +kernel
theorem dX1_fill_11 : decode cX1_fill 11 = .ok (.iload_n 1, 1) := by decide +kernel
theorem dX1_fill_12 : decode cX1_fill 12 = .ok (.ldc2_w 15, 3) := by decide +kernel
theorem dX1_fill_15 : decode cX1_fill 15 = .ok (.lastore, 1) := by decide +kernel
theorem dX1_fill_16 : decode cX1_fill 16 = .ok (.iinc 1 1, 3) := by decide +kernel
theorem dX1_fill_19 : decode cX1_fill 19 = .ok (.goto (-17), 3) := by decide +kernel
theorem dX1_fill_22 : decode cX1_fill 22 = .ok (.return_, 1) := by decide +kernel
def fX1_fill_b2 : Nat → Nat → Int32 → JM → JO (Unit)
  | 0, _, _, _ => none
  | fu + 1, a, x1, μ => if (4 : Int32) ≤ x1 then (some ((), μ, 0, 0)) else (jck ((jT μ a).1 == 2) <| jde (jP μ a 0) fun q3 => jck ((jT μ q3).1 == 102) <| jck (jin x1 (jT μ q3).2) <| jlt (jsJ μ q3 (x1).toNatClampNeg (-1 : Int64)) fun μ7 => fX1_fill_b2 fu a (x1 + (1 : Int32)) μ7)
set_option maxHeartbeats 4000000 in
set_option maxRecDepth 100000 in
theorem gX1_fill_b2 {b : Nat} {Θ : JE} {RC RS : Nat} {r : Unit} {ν : JM} (X : jX b Θ RX1 cX1_fill 2 none 0 0 RC RS) : ∀ (fu : Nat) (a : Nat) (x1 : Int32) (μ : JM) (c m k n : Nat), fX1_fill_b2 fu a x1 μ = some (r, ν, c, m) → k + c = RC → n + m = RS → WA b Θ 2 (jE b Θ (none) ν RC RS) μ k n 2 [(0, va_rf (some a)), (1, .int x1)] [] := by
  intro fu
  induction fu with
  | zero => intro a x1 μ c m k n hf; cases hf
  | succ fu ih =>
    intro a x1 μ c m k n hf hk hn
    rw [fX1_fill_b2] at hf
    refine wa_iload_n X 1 dX1_fill_2 rfl ?_
    refine wa_iconst (v := (4 : Int32)) X dX1_fill_3 (by decide) ?_
    refine wa_icge (tgt := 22) X dX1_fill_4 (by decide) (fun h1 => ?_) (fun h1 => ?_)
    · rw [if_pos h1] at hf
      obtain ⟨rfl, rfl, rfl, rfl⟩ := jret hf
      exact wa_vret X dX1_fill_22 (by omega) (by omega)
    · rw [if_neg h1] at hf
      refine wa_aload_n X 0 dX1_fill_7 rfl ?_
      obtain ⟨h2, hf⟩ := jckT hf
      refine wa_getP X dX1_fill_8 lfX1_11 rfl h2 rfl ?_
      refine wa_iload_n X 1 dX1_fill_11 rfl ?_
      refine wa_ldc2 (v := (-1 : Int64)) X dX1_fill_12 lkX1_15 ?_
      obtain ⟨q3, h4, hf⟩ := jde_some hf
      obtain ⟨h5, hf⟩ := jckT hf
      obtain ⟨h6, hf⟩ := jck_some hf
      obtain ⟨μ7, hm8, hf⟩ := jlt_e hf
      have e9 : jT μ7 = jT μ := by rw [hm8]; rfl
      refine wa_rlast (ν := μ7) X dX1_fill_15 h4 h5 h6 hm8 ?_
      refine wa_iinc (v := (x1 + (1 : Int32))) (L2 := [(1, .int (x1 + (1 : Int32))), (0, va_rf (some a))]) X 1 dX1_fill_16 rfl rfl (by decide) (by first | rfl | simp [va_rf_cat, cat_i, cat_l]) ?_
      refine wa_goto (tgt := 2) X dX1_fill_19 (by decide) ?_
      refine wa_sub (L2 := [(0, va_rf (some a)), (1, .int (x1 + (1 : Int32)))]) [1, 0] rfl ?_
      exact ih a (x1 + (1 : Int32)) μ7 _ _ _ _ hf (by omega) (by omega)
def fX1_fill (a : Nat) (μ : JM) : JO (Unit) := fX1_fill_b2  jfuel a (0 : Int32) μ
set_option maxHeartbeats 4000000 in
set_option maxRecDepth 100000 in
theorem mX1_fill {b : Nat} {a : Nat} {μ : JM} {r : Unit} {ν : JM} {c m : Nat} (hf : fX1_fill a μ = some (r, ν, c, m)) : JMet b yX1_fill cX1_fill 2 none 0 0 [va_rf (some a)] μ (none) ν c m := by
  refine JMet.of (by decide) (lg_sl_le (by simp only [List.map_cons, List.map_nil, List.sum_cons, List.sum_nil, va_rf_cat]; exact Nat.le_of_ble_eq_true rfl)) (fun Θ X hin => ?_)
  refine wa_eq (L2 := [(0, va_rf (some a))]) ?_ rfl (by first | rfl | simp [lv_args, va_rf_cat, cat_i, cat_l]) rfl
  obtain ⟨k, hk0⟩ : ∃ k : Nat, k = 0 := ⟨0, rfl⟩
  obtain ⟨n, hn0⟩ : ∃ n : Nat, n = 0 := ⟨0, rfl⟩
  have hk : k + c = c := by omega
  have hn : n + m = m := by omega
  refine wa_costs hk0.symm hn0.symm ?_
  rw [fX1_fill] at hf
  refine wa_iconst (v := (0 : Int32)) X dX1_fill_0 (by decide) ?_
  refine wa_istore_n (L2 := [(1, .int (0 : Int32)), (0, va_rf (some a))]) X dX1_fill_1 (by decide) (by first | rfl | (show (1, _) :: List.filter (fun q : Nat × Value => !(q.1 == 1) && !(q.1 + 1 == 1 && q.2.category == 2)) _ = _; simp [va_rf_cat, cat_i, cat_l])) ?_
  refine wa_sub (L2 := [(0, va_rf (some a)), (1, .int (0 : Int32))]) [1, 0] rfl ?_
  exact gX1_fill_b2 X jfuel a (0 : Int32) μ _ _ _ _ hf (by omega) (by omega)
theorem dX1_setFirst_0 : decode cX1_setFirst 0 = .ok (.iconst 0, 1) := by decide +kernel
theorem dX1_setFirst_1 : decode cX1_setFirst 1 = .ok (.istore_n 2, 1) := by decide +kernel
theorem dX1_setFirst_2 : decode cX1_setFirst 2 = .ok (.iload_n 2, 1) := by decide +kernel
theorem dX1_setFirst_3 : decode cX1_setFirst 3 = .ok (.iconst 4, 1) := by decide +kernel
theorem dX1_setFirst_4 : decode cX1_setFirst 4 = .ok (.if_icmp .ge 53, 3) := by decide +kernel
theorem dX1_setFirst_7 : decode cX1_setFirst 7 = .ok (.iload_n 1, 1) := by decide +kernel
theorem dX1_setFirst_8 : decode cX1_setFirst 8 = .ok (.iload_n 2, 1) := by decide +kernel
theorem dX1_setFirst_9 : decode cX1_setFirst 9 = .ok (.bipush 64, 2) := by decide +kernel
theorem dX1_setFirst_11 : decode cX1_setFirst 11 = .ok (.imul, 1) := by decide +kernel
theorem dX1_setFirst_12 : decode cX1_setFirst 12 = .ok (.isub, 1) := by decide +kernel
theorem dX1_setFirst_13 : decode cX1_setFirst 13 = .ok (.istore_n 3, 1) := by decide +kernel
theorem dX1_setFirst_14 : decode cX1_setFirst 14 = .ok (.iload_n 3, 1) := by decide +kernel
theorem dX1_setFirst_15 : decode cX1_setFirst 15 = .ok (.ifCond .gt 13, 3) := by decide +kernel
theorem dX1_setFirst_18 : decode cX1_setFirst 18 = .ok (.aload_n 0, 1) := by decide +kernel
theorem dX1_setFirst_19 : decode cX1_setFirst 19 = .ok (.getfield 11, 3) := by decide +kernel
theorem dX1_setFirst_22 : decode cX1_setFirst 22 = .ok (.iload_n 2, 1) := by decide +kernel
theorem dX1_setFirst_23 : decode cX1_setFirst 23 = .ok (.lconst 0, 1) := by decide +kernel
theorem dX1_setFirst_24 : decode cX1_setFirst 24 = .ok (.lastore, 1) := by decide +kernel
theorem dX1_setFirst_25 : decode cX1_setFirst 25 = .ok (.goto 26, 3) := by decide +kernel
theorem dX1_setFirst_28 : decode cX1_setFirst 28 = .ok (.aload_n 0, 1) := by decide +kernel
theorem dX1_setFirst_29 : decode cX1_setFirst 29 = .ok (.getfield 11, 3) := by decide +kernel
theorem dX1_setFirst_32 : decode cX1_setFirst 32 = .ok (.iload_n 2, 1) := by decide +kernel
theorem dX1_setFirst_33 : decode cX1_setFirst 33 = .ok (.iload_n 3, 1) := by decide +kernel
theorem dX1_setFirst_34 : decode cX1_setFirst 34 = .ok (.bipush 64, 2) := by decide +kernel
theorem dX1_setFirst_36 : decode cX1_setFirst 36 = .ok (.if_icmp .lt 9, 3) := by decide +kernel
theorem dX1_setFirst_39 : decode cX1_setFirst 39 = .ok (.ldc2_w 15, 3) := by decide +kernel
theorem dX1_setFirst_42 : decode cX1_setFirst 42 = .ok (.goto 8, 3) := by decide +kernel
theorem dX1_setFirst_45 : decode cX1_setFirst 45 = .ok (.lconst 1, 1) := by decide +kernel
theorem dX1_setFirst_46 : decode cX1_setFirst 46 = .ok (.iload_n 3, 1) := by decide +kernel
theorem dX1_setFirst_47 : decode cX1_setFirst 47 = .ok (.lshl, 1) := by decide +kernel
theorem dX1_setFirst_48 : decode cX1_setFirst 48 = .ok (.lconst 1, 1) := by decide +kernel
theorem dX1_setFirst_49 : decode cX1_setFirst 49 = .ok (.lsub, 1) := by decide +kernel
theorem dX1_setFirst_50 : decode cX1_setFirst 50 = .ok (.lastore, 1) := by decide +kernel
theorem dX1_setFirst_51 : decode cX1_setFirst 51 = .ok (.iinc 2 1, 3) := by decide +kernel
theorem dX1_setFirst_54 : decode cX1_setFirst 54 = .ok (.goto (-52), 3) := by decide +kernel
theorem dX1_setFirst_57 : decode cX1_setFirst 57 = .ok (.return_, 1) := by decide +kernel
def fX1_setFirst_b51 (rec2 : Nat → Int32 → Int32 → JM → JO (Unit)) (a : Nat) (x1 : Int32) (x2 : Int32) (μ : JM) : JO (Unit) := rec2 a x1 (x2 + (1 : Int32)) μ
set_option maxHeartbeats 4000000 in
set_option maxRecDepth 100000 in
theorem gX1_setFirst_b51 {b : Nat} {Θ : JE} {RC RS : Nat} {r : Unit} {ν : JM} (X : jX b Θ RX1 cX1_setFirst 4 none 0 0 RC RS) {rec2 : Nat → Int32 → Int32 → JM → JO (Unit)} (hrec2 : ∀ (a : Nat) (x1 : Int32) (x2 : Int32) (μ : JM) (c m k n : Nat), rec2 a x1 x2 μ = some (r, ν, c, m) → k + c = RC → n + m = RS → WA b Θ 4 (jE b Θ (none) ν RC RS) μ k n 2 [(0, va_rf (some a)), (1, .int x1), (2, .int x2)] []) (a : Nat) (x1 : Int32) (x2 : Int32) (μ : JM) (c m k n : Nat) (hf : fX1_setFirst_b51 rec2 a x1 x2 μ = some (r, ν, c, m)) (hk : k + c = RC) (hn : n + m = RS) : WA b Θ 4 (jE b Θ (none) ν RC RS) μ k n 51 [(0, va_rf (some a)), (1, .int x1), (2, .int x2)] [] := by
  rw [fX1_setFirst_b51] at hf
  refine wa_iinc (v := (x2 + (1 : Int32))) (L2 := [(2, .int (x2 + (1 : Int32))), (0, va_rf (some a)), (1, .int x1)]) X 2 dX1_setFirst_51 rfl rfl (by decide) (by first | rfl | simp [va_rf_cat, cat_i, cat_l]) ?_
  refine wa_goto (tgt := 2) X dX1_setFirst_54 (by decide) ?_
  refine wa_sub (L2 := [(0, va_rf (some a)), (1, .int x1), (2, .int (x2 + (1 : Int32)))]) [1, 2, 0] rfl ?_
  exact hrec2 a x1 (x2 + (1 : Int32)) μ _ _ _ _ hf (by omega) (by omega)
def fX1_setFirst_b50 (rec2 : Nat → Int32 → Int32 → JM → JO (Unit)) (a : Nat) (x1 : Int32) (x2 : Int32) (s0 : Int64) (s1 : Int32) (s2 : Option Nat) (μ : JM) : JO (Unit) := jde s2 fun q13 => jck ((jT μ q13).1 == 102) <| jck (jin s1 (jT μ q13).2) <| jlt (jsJ μ q13 (s1).toNatClampNeg s0) fun μ17 => fX1_setFirst_b51 rec2 a x1 x2 μ17
set_option maxHeartbeats 4000000 in
set_option maxRecDepth 100000 in
theorem gX1_setFirst_b50 {b : Nat} {Θ : JE} {RC RS : Nat} {r : Unit} {ν : JM} (X : jX b Θ RX1 cX1_setFirst 4 none 0 0 RC RS) {rec2 : Nat → Int32 → Int32 → JM → JO (Unit)} (hrec2 : ∀ (a : Nat) (x1 : Int32) (x2 : Int32) (μ : JM) (c m k n : Nat), rec2 a x1 x2 μ = some (r, ν, c, m) → k + c = RC → n + m = RS → WA b Θ 4 (jE b Θ (none) ν RC RS) μ k n 2 [(0, va_rf (some a)), (1, .int x1), (2, .int x2)] []) (a : Nat) (x1 : Int32) (x2 : Int32) (s0 : Int64) (s1 : Int32) (s2 : Option Nat) (μ : JM) (c m k n : Nat) (hf : fX1_setFirst_b50 rec2 a x1 x2 s0 s1 s2 μ = some (r, ν, c, m)) (hk : k + c = RC) (hn : n + m = RS) : WA b Θ 4 (jE b Θ (none) ν RC RS) μ k n 50 [(0, va_rf (some a)), (1, .int x1), (2, .int x2)] [.long s0, .int s1, va_rf s2] := by
  rw [fX1_setFirst_b50] at hf
  obtain ⟨q13, h14, hf⟩ := jde_some hf
  obtain ⟨h15, hf⟩ := jckT hf
  obtain ⟨h16, hf⟩ := jck_some hf
  obtain ⟨μ17, hm18, hf⟩ := jlt_e hf
  have e19 : jT μ17 = jT μ := by rw [hm18]; rfl
  refine wa_rlast (ν := μ17) X dX1_setFirst_50 h14 h15 h16 hm18 ?_
  refine wa_sub (L2 := [(0, va_rf (some a)), (1, .int x1), (2, .int x2)]) [0, 1, 2] rfl ?_
  exact gX1_setFirst_b51 X hrec2 a x1 x2 μ17 _ _ _ _ hf (by omega) (by omega)
def fX1_setFirst_b2 : Nat → Nat → Int32 → Int32 → JM → JO (Unit)
  | 0, _, _, _, _ => none
  | fu + 1, a, x1, x2, μ => if (4 : Int32) ≤ x2 then (some ((), μ, 0, 0)) else (if 0 < (x1 - (x2 * (64 : Int32))) then (jck ((jT μ a).1 == 2) <| if (x1 - (x2 * (64 : Int32))) < (64 : Int32) then (fX1_setFirst_b50 (fX1_setFirst_b2 fu) a x1 x2 ((jlshl (1 : Int64) (x1 - (x2 * (64 : Int32)))) - (1 : Int64)) x2 (jP μ a 0) μ) else (fX1_setFirst_b50 (fX1_setFirst_b2 fu) a x1 x2 (-1 : Int64) x2 (jP μ a 0) μ)) else (jck ((jT μ a).1 == 2) <| jde (jP μ a 0) fun q6 => jck ((jT μ q6).1 == 102) <| jck (jin x2 (jT μ q6).2) <| jlt (jsJ μ q6 (x2).toNatClampNeg (0 : Int64)) fun μ10 => fX1_setFirst_b51 (fX1_setFirst_b2 fu) a x1 x2 μ10))
set_option maxHeartbeats 4000000 in
set_option maxRecDepth 100000 in
theorem gX1_setFirst_b2 {b : Nat} {Θ : JE} {RC RS : Nat} {r : Unit} {ν : JM} (X : jX b Θ RX1 cX1_setFirst 4 none 0 0 RC RS) : ∀ (fu : Nat) (a : Nat) (x1 : Int32) (x2 : Int32) (μ : JM) (c m k n : Nat), fX1_setFirst_b2 fu a x1 x2 μ = some (r, ν, c, m) → k + c = RC → n + m = RS → WA b Θ 4 (jE b Θ (none) ν RC RS) μ k n 2 [(0, va_rf (some a)), (1, .int x1), (2, .int x2)] [] := by
  intro fu
  induction fu with
  | zero => intro a x1 x2 μ c m k n hf; cases hf
  | succ fu ih =>
    intro a x1 x2 μ c m k n hf hk hn
    rw [fX1_setFirst_b2] at hf
    refine wa_iload_n X 2 dX1_setFirst_2 rfl ?_
    refine wa_iconst (v := (4 : Int32)) X dX1_setFirst_3 (by decide) ?_
    refine wa_icge (tgt := 57) X dX1_setFirst_4 (by decide) (fun h1 => ?_) (fun h1 => ?_)
    · rw [if_pos h1] at hf
      obtain ⟨rfl, rfl, rfl, rfl⟩ := jret hf
      exact wa_vret X dX1_setFirst_57 (by omega) (by omega)
    · rw [if_neg h1] at hf
      refine wa_iload_n X 1 dX1_setFirst_7 rfl ?_
      refine wa_iload_n X 2 dX1_setFirst_8 rfl ?_
      refine wa_bipush (v := (64 : Int32)) X dX1_setFirst_9 (by decide) ?_
      refine wa_imul X dX1_setFirst_11 ?_
      refine wa_isub X dX1_setFirst_12 ?_
      refine wa_istore_n (L2 := [(3, .int (x1 - (x2 * (64 : Int32)))), (0, va_rf (some a)), (1, .int x1), (2, .int x2)]) X dX1_setFirst_13 (by decide) (by first | rfl | (show (3, _) :: List.filter (fun q : Nat × Value => !(q.1 == 3) && !(q.1 + 1 == 3 && q.2.category == 2)) _ = _; simp [va_rf_cat, cat_i, cat_l])) ?_
      refine wa_iload_n X 0 dX1_setFirst_14 rfl ?_
      refine wa_ifgt (tgt := 28) X dX1_setFirst_15 (by decide) (fun h2 => ?_) (fun h2 => ?_)
      · rw [if_pos h2] at hf
        refine wa_aload_n X 1 dX1_setFirst_28 rfl ?_
        obtain ⟨h3, hf⟩ := jckT hf
        refine wa_getP X dX1_setFirst_29 lfX1_11 rfl h3 rfl ?_
        refine wa_iload_n X 3 dX1_setFirst_32 rfl ?_
        refine wa_iload_n X 0 dX1_setFirst_33 rfl ?_
        refine wa_bipush (v := (64 : Int32)) X dX1_setFirst_34 (by decide) ?_
        refine wa_iclt (tgt := 45) X dX1_setFirst_36 (by decide) (fun h4 => ?_) (fun h4 => ?_)
        · rw [if_pos h4] at hf
          refine wa_lconst (v := (1 : Int64)) X dX1_setFirst_45 (by decide) ?_
          refine wa_iload_n X 0 dX1_setFirst_46 rfl ?_
          refine wa_lshl X dX1_setFirst_47 ?_
          refine wa_lconst (v := (1 : Int64)) X dX1_setFirst_48 (by decide) ?_
          refine wa_lsub X dX1_setFirst_49 ?_
          refine wa_sub (L2 := [(0, va_rf (some a)), (1, .int x1), (2, .int x2)]) [1, 2, 3] rfl ?_
          exact gX1_setFirst_b50 X ih a x1 x2 ((jlshl (1 : Int64) (x1 - (x2 * (64 : Int32)))) - (1 : Int64)) x2 (jP μ a 0) μ _ _ _ _ hf (by omega) (by omega)
        · rw [if_neg h4] at hf
          refine wa_ldc2 (v := (-1 : Int64)) X dX1_setFirst_39 lkX1_15 ?_
          refine wa_goto (tgt := 50) X dX1_setFirst_42 (by decide) ?_
          refine wa_sub (L2 := [(0, va_rf (some a)), (1, .int x1), (2, .int x2)]) [1, 2, 3] rfl ?_
          exact gX1_setFirst_b50 X ih a x1 x2 (-1 : Int64) x2 (jP μ a 0) μ _ _ _ _ hf (by omega) (by omega)
      · rw [if_neg h2] at hf
        refine wa_aload_n X 1 dX1_setFirst_18 rfl ?_
        obtain ⟨h5, hf⟩ := jckT hf
        refine wa_getP X dX1_setFirst_19 lfX1_11 rfl h5 rfl ?_
        refine wa_iload_n X 3 dX1_setFirst_22 rfl ?_
        refine wa_lconst (v := (0 : Int64)) X dX1_setFirst_23 (by decide) ?_
        obtain ⟨q6, h7, hf⟩ := jde_some hf
        obtain ⟨h8, hf⟩ := jckT hf
        obtain ⟨h9, hf⟩ := jck_some hf
        obtain ⟨μ10, hm11, hf⟩ := jlt_e hf
        have e12 : jT μ10 = jT μ := by rw [hm11]; rfl
        refine wa_rlast (ν := μ10) X dX1_setFirst_24 h7 h8 h9 hm11 ?_
        refine wa_goto (tgt := 51) X dX1_setFirst_25 (by decide) ?_
        refine wa_sub (L2 := [(0, va_rf (some a)), (1, .int x1), (2, .int x2)]) [1, 2, 3] rfl ?_
        exact gX1_setFirst_b51 X ih a x1 x2 μ10 _ _ _ _ hf (by omega) (by omega)
def fX1_setFirst (a : Nat) (x1 : Int32) (μ : JM) : JO (Unit) := fX1_setFirst_b2  jfuel a x1 (0 : Int32) μ
set_option maxHeartbeats 4000000 in
set_option maxRecDepth 100000 in
theorem mX1_setFirst {b : Nat} {a : Nat} {x1 : Int32} {μ : JM} {r : Unit} {ν : JM} {c m : Nat} (hf : fX1_setFirst a x1 μ = some (r, ν, c, m)) : JMet b yX1_setFirst cX1_setFirst 4 none 0 0 [va_rf (some a), .int x1] μ (none) ν c m := by
  refine JMet.of (by decide) (lg_sl_le (by simp only [List.map_cons, List.map_nil, List.sum_cons, List.sum_nil, va_rf_cat]; exact Nat.le_of_ble_eq_true rfl)) (fun Θ X hin => ?_)
  refine wa_eq (L2 := [(0, va_rf (some a)), (1, .int x1)]) ?_ rfl (by first | rfl | simp [lv_args, va_rf_cat, cat_i, cat_l]) rfl
  obtain ⟨k, hk0⟩ : ∃ k : Nat, k = 0 := ⟨0, rfl⟩
  obtain ⟨n, hn0⟩ : ∃ n : Nat, n = 0 := ⟨0, rfl⟩
  have hk : k + c = c := by omega
  have hn : n + m = m := by omega
  refine wa_costs hk0.symm hn0.symm ?_
  rw [fX1_setFirst] at hf
  refine wa_iconst (v := (0 : Int32)) X dX1_setFirst_0 (by decide) ?_
  refine wa_istore_n (L2 := [(2, .int (0 : Int32)), (0, va_rf (some a)), (1, .int x1)]) X dX1_setFirst_1 (by decide) (by first | rfl | (show (2, _) :: List.filter (fun q : Nat × Value => !(q.1 == 2) && !(q.1 + 1 == 2 && q.2.category == 2)) _ = _; simp [va_rf_cat, cat_i, cat_l])) ?_
  refine wa_sub (L2 := [(0, va_rf (some a)), (1, .int x1), (2, .int (0 : Int32))]) [1, 2, 0] rfl ?_
  exact gX1_setFirst_b2 X jfuel a x1 (0 : Int32) μ _ _ _ _ hf (by omega) (by omega)
theorem dX1_setFact_0 : decode cX1_setFact 0 = .ok (.iconst 0, 1) := by decide +kernel
theorem dX1_setFact_1 : decode cX1_setFact 1 = .ok (.istore_n 2, 1) := by decide +kernel
theorem dX1_setFact_2 : decode cX1_setFact 2 = .ok (.iload_n 2, 1) := by decide +kernel
theorem dX1_setFact_3 : decode cX1_setFact 3 = .ok (.iconst 4, 1) := by decide +kernel
theorem dX1_setFact_4 : decode cX1_setFact 4 = .ok (.if_icmp .ge 58, 3) := by decide +kernel
theorem dX1_setFact_7 : decode cX1_setFact 7 = .ok (.iload_n 1, 1) := by decide +kernel
theorem dX1_setFact_8 : decode cX1_setFact 8 = .ok (.ifCond .lt 23, 3) := by decide +kernel
theorem dX1_setFact_11 : decode cX1_setFact 11 = .ok (.iload_n 1, 1) := by decide +kernel
theorem dX1_setFact_12 : decode cX1_setFact 12 = .ok (.bipush 6, 2) := by decide +kernel
theorem dX1_setFact_14 : decode cX1_setFact 14 = .ok (.if_icmp .ge 17, 3) := by decide +kernel
theorem dX1_setFact_17 : decode cX1_setFact 17 = .ok (.aload_n 0, 1) := by decide +kernel
theorem dX1_setFact_18 : decode cX1_setFact 18 = .ok (.getfield 11, 3) := by decide +kernel
theorem dX1_setFact_21 : decode cX1_setFact 21 = .ok (.iload_n 2, 1) := by decide +kernel
theorem dX1_setFact_22 : decode cX1_setFact 22 = .ok (.getstatic 17, 3) := by decide +kernel
theorem dX1_setFact_25 : decode cX1_setFact 25 = .ok (.iload_n 1, 1) := by decide +kernel
theorem dX1_setFact_26 : decode cX1_setFact 26 = .ok (.laload, 1) := by decide +kernel
theorem dX1_setFact_27 : decode cX1_setFact 27 = .ok (.lastore, 1) := by decide +kernel
theorem dX1_setFact_28 : decode cX1_setFact 28 = .ok (.goto 28, 3) := by decide +kernel
theorem dX1_setFact_31 : decode cX1_setFact 31 = .ok (.aload_n 0, 1) := by decide +kernel
theorem dX1_setFact_32 : decode cX1_setFact 32 = .ok (.getfield 11, 3) := by decide +kernel
theorem dX1_setFact_35 : decode cX1_setFact 35 = .ok (.iload_n 2, 1) := by decide +kernel
theorem dX1_setFact_36 : decode cX1_setFact 36 = .ok (.iload_n 2, 1) := by decide +kernel
theorem dX1_setFact_37 : decode cX1_setFact 37 = .ok (.iload_n 1, 1) := by decide +kernel
theorem dX1_setFact_38 : decode cX1_setFact 38 = .ok (.bipush 6, 2) := by decide +kernel
theorem dX1_setFact_40 : decode cX1_setFact 40 = .ok (.isub, 1) := by decide +kernel
theorem dX1_setFact_41 : decode cX1_setFact 41 = .ok (.ishr, 1) := by decide +kernel
theorem dX1_setFact_42 : decode cX1_setFact 42 = .ok (.iconst 1, 1) := by decide +kernel
theorem dX1_setFact_43 : decode cX1_setFact 43 = .ok (.iand, 1) := by decide +kernel
theorem dX1_setFact_44 : decode cX1_setFact 44 = .ok (.iconst 1, 1) := by decide +kernel
theorem dX1_setFact_45 : decode cX1_setFact 45 = .ok (.if_icmp .ne 9, 3) := by decide +kernel
theorem dX1_setFact_48 : decode cX1_setFact 48 = .ok (.ldc2_w 15, 3) := by decide +kernel
theorem dX1_setFact_51 : decode cX1_setFact 51 = .ok (.goto 4, 3) := by decide +kernel
theorem dX1_setFact_54 : decode cX1_setFact 54 = .ok (.lconst 0, 1) := by decide +kernel
theorem dX1_setFact_55 : decode cX1_setFact 55 = .ok (.lastore, 1) := by decide +kernel
theorem dX1_setFact_56 : decode cX1_setFact 56 = .ok (.iinc 2 1, 3) := by decide +kernel
theorem dX1_setFact_59 : decode cX1_setFact 59 = .ok (.goto (-57), 3) := by decide +kernel
theorem dX1_setFact_62 : decode cX1_setFact 62 = .ok (.return_, 1) := by decide +kernel
def fX1_setFact_b56 (rec2 : Nat → Int32 → Int32 → JM → JO (Unit)) (a : Nat) (x1 : Int32) (x2 : Int32) (μ : JM) : JO (Unit) := rec2 a x1 (x2 + (1 : Int32)) μ
set_option maxHeartbeats 4000000 in
set_option maxRecDepth 100000 in
theorem gX1_setFact_b56 {b : Nat} {Θ : JE} {RC RS : Nat} {r : Unit} {ν : JM} (X : jX b Θ RX1 cX1_setFact 3 none 0 0 RC RS) {rec2 : Nat → Int32 → Int32 → JM → JO (Unit)} (hrec2 : ∀ (a : Nat) (x1 : Int32) (x2 : Int32) (μ : JM) (c m k n : Nat), rec2 a x1 x2 μ = some (r, ν, c, m) → k + c = RC → n + m = RS → WA b Θ 3 (jE b Θ (none) ν RC RS) μ k n 2 [(0, va_rf (some a)), (1, .int x1), (2, .int x2)] []) (a : Nat) (x1 : Int32) (x2 : Int32) (μ : JM) (c m k n : Nat) (hf : fX1_setFact_b56 rec2 a x1 x2 μ = some (r, ν, c, m)) (hk : k + c = RC) (hn : n + m = RS) : WA b Θ 3 (jE b Θ (none) ν RC RS) μ k n 56 [(0, va_rf (some a)), (1, .int x1), (2, .int x2)] [] := by
  rw [fX1_setFact_b56] at hf
  refine wa_iinc (v := (x2 + (1 : Int32))) (L2 := [(2, .int (x2 + (1 : Int32))), (0, va_rf (some a)), (1, .int x1)]) X 2 dX1_setFact_56 rfl rfl (by decide) (by first | rfl | simp [va_rf_cat, cat_i, cat_l]) ?_
  refine wa_goto (tgt := 2) X dX1_setFact_59 (by decide) ?_
  refine wa_sub (L2 := [(0, va_rf (some a)), (1, .int x1), (2, .int (x2 + (1 : Int32)))]) [1, 2, 0] rfl ?_
  exact hrec2 a x1 (x2 + (1 : Int32)) μ _ _ _ _ hf (by omega) (by omega)
def fX1_setFact_b55 (rec2 : Nat → Int32 → Int32 → JM → JO (Unit)) (a : Nat) (x1 : Int32) (x2 : Int32) (s0 : Int64) (s1 : Int32) (s2 : Option Nat) (μ : JM) : JO (Unit) := jde s2 fun q17 => jck ((jT μ q17).1 == 102) <| jck (jin s1 (jT μ q17).2) <| jlt (jsJ μ q17 (s1).toNatClampNeg s0) fun μ21 => fX1_setFact_b56 rec2 a x1 x2 μ21
set_option maxHeartbeats 4000000 in
set_option maxRecDepth 100000 in
theorem gX1_setFact_b55 {b : Nat} {Θ : JE} {RC RS : Nat} {r : Unit} {ν : JM} (X : jX b Θ RX1 cX1_setFact 3 none 0 0 RC RS) {rec2 : Nat → Int32 → Int32 → JM → JO (Unit)} (hrec2 : ∀ (a : Nat) (x1 : Int32) (x2 : Int32) (μ : JM) (c m k n : Nat), rec2 a x1 x2 μ = some (r, ν, c, m) → k + c = RC → n + m = RS → WA b Θ 3 (jE b Θ (none) ν RC RS) μ k n 2 [(0, va_rf (some a)), (1, .int x1), (2, .int x2)] []) (a : Nat) (x1 : Int32) (x2 : Int32) (s0 : Int64) (s1 : Int32) (s2 : Option Nat) (μ : JM) (c m k n : Nat) (hf : fX1_setFact_b55 rec2 a x1 x2 s0 s1 s2 μ = some (r, ν, c, m)) (hk : k + c = RC) (hn : n + m = RS) : WA b Θ 3 (jE b Θ (none) ν RC RS) μ k n 55 [(0, va_rf (some a)), (1, .int x1), (2, .int x2)] [.long s0, .int s1, va_rf s2] := by
  rw [fX1_setFact_b55] at hf
  obtain ⟨q17, h18, hf⟩ := jde_some hf
  obtain ⟨h19, hf⟩ := jckT hf
  obtain ⟨h20, hf⟩ := jck_some hf
  obtain ⟨μ21, hm22, hf⟩ := jlt_e hf
  have e23 : jT μ21 = jT μ := by rw [hm22]; rfl
  refine wa_rlast (ν := μ21) X dX1_setFact_55 h18 h19 h20 hm22 ?_
  refine wa_sub (L2 := [(0, va_rf (some a)), (1, .int x1), (2, .int x2)]) [0, 1, 2] rfl ?_
  exact gX1_setFact_b56 X hrec2 a x1 x2 μ21 _ _ _ _ hf (by omega) (by omega)
def fX1_setFact_b31 (rec2 : Nat → Int32 → Int32 → JM → JO (Unit)) (a : Nat) (x1 : Int32) (x2 : Int32) (μ : JM) : JO (Unit) := jck ((jT μ a).1 == 2) <| if ((jshr x2 (x1 - (6 : Int32))) &&& (1 : Int32)) = (1 : Int32) then (fX1_setFact_b55 rec2 a x1 x2 (-1 : Int64) x2 (jP μ a 0) μ) else (fX1_setFact_b55 rec2 a x1 x2 (0 : Int64) x2 (jP μ a 0) μ)
set_option maxHeartbeats 4000000 in
set_option maxRecDepth 100000 in
theorem gX1_setFact_b31 {b : Nat} {Θ : JE} {RC RS : Nat} {r : Unit} {ν : JM} (X : jX b Θ RX1 cX1_setFact 3 none 0 0 RC RS) {rec2 : Nat → Int32 → Int32 → JM → JO (Unit)} (hrec2 : ∀ (a : Nat) (x1 : Int32) (x2 : Int32) (μ : JM) (c m k n : Nat), rec2 a x1 x2 μ = some (r, ν, c, m) → k + c = RC → n + m = RS → WA b Θ 3 (jE b Θ (none) ν RC RS) μ k n 2 [(0, va_rf (some a)), (1, .int x1), (2, .int x2)] []) (a : Nat) (x1 : Int32) (x2 : Int32) (μ : JM) (c m k n : Nat) (hf : fX1_setFact_b31 rec2 a x1 x2 μ = some (r, ν, c, m)) (hk : k + c = RC) (hn : n + m = RS) : WA b Θ 3 (jE b Θ (none) ν RC RS) μ k n 31 [(0, va_rf (some a)), (1, .int x1), (2, .int x2)] [] := by
  rw [fX1_setFact_b31] at hf
  refine wa_aload_n X 0 dX1_setFact_31 rfl ?_
  obtain ⟨h15, hf⟩ := jckT hf
  refine wa_getP X dX1_setFact_32 lfX1_11 rfl h15 rfl ?_
  refine wa_iload_n X 2 dX1_setFact_35 rfl ?_
  refine wa_iload_n X 2 dX1_setFact_36 rfl ?_
  refine wa_iload_n X 1 dX1_setFact_37 rfl ?_
  refine wa_bipush (v := (6 : Int32)) X dX1_setFact_38 (by decide) ?_
  refine wa_isub X dX1_setFact_40 ?_
  refine wa_ishr X dX1_setFact_41 ?_
  refine wa_iconst (v := (1 : Int32)) X dX1_setFact_42 (by decide) ?_
  refine wa_iand X dX1_setFact_43 ?_
  refine wa_iconst (v := (1 : Int32)) X dX1_setFact_44 (by decide) ?_
  refine wa_icne (tgt := 54) X dX1_setFact_45 (by decide) (fun h16 => ?_) (fun h16 => ?_)
  · rw [if_neg h16] at hf
    refine wa_lconst (v := (0 : Int64)) X dX1_setFact_54 (by decide) ?_
    refine wa_sub (L2 := [(0, va_rf (some a)), (1, .int x1), (2, .int x2)]) [0, 1, 2] rfl ?_
    exact gX1_setFact_b55 X hrec2 a x1 x2 (0 : Int64) x2 (jP μ a 0) μ _ _ _ _ hf (by omega) (by omega)
  · rw [if_pos h16] at hf
    refine wa_ldc2 (v := (-1 : Int64)) X dX1_setFact_48 lkX1_15 ?_
    refine wa_goto (tgt := 55) X dX1_setFact_51 (by decide) ?_
    refine wa_sub (L2 := [(0, va_rf (some a)), (1, .int x1), (2, .int x2)]) [0, 1, 2] rfl ?_
    exact gX1_setFact_b55 X hrec2 a x1 x2 (-1 : Int64) x2 (jP μ a 0) μ _ _ _ _ hf (by omega) (by omega)
def fX1_setFact_b2 : Nat → Nat → Int32 → Int32 → JM → JO (Unit)
  | 0, _, _, _, _ => none
  | fu + 1, a, x1, x2, μ => if (4 : Int32) ≤ x2 then (some ((), μ, 0, 0)) else (if x1 < 0 then (fX1_setFact_b31 (fX1_setFact_b2 fu) a x1 x2 μ) else (if (6 : Int32) ≤ x1 then (fX1_setFact_b31 (fX1_setFact_b2 fu) a x1 x2 μ) else (jck ((jT μ a).1 == 2) <| jck (jin x1 6) <| jde (jP μ a 0) fun q8 => jck ((jT μ q8).1 == 102) <| jck (jin x2 (jT μ q8).2) <| jlt (jsJ μ q8 (x2).toNatClampNeg (jFB (x1).toNatClampNeg)) fun μ12 => fX1_setFact_b56 (fX1_setFact_b2 fu) a x1 x2 μ12)))
set_option maxHeartbeats 4000000 in
set_option maxRecDepth 100000 in
theorem gX1_setFact_b2 {b : Nat} {Θ : JE} {RC RS : Nat} {r : Unit} {ν : JM} (X : jX b Θ RX1 cX1_setFact 3 none 0 0 RC RS) : ∀ (fu : Nat) (a : Nat) (x1 : Int32) (x2 : Int32) (μ : JM) (c m k n : Nat), fX1_setFact_b2 fu a x1 x2 μ = some (r, ν, c, m) → k + c = RC → n + m = RS → WA b Θ 3 (jE b Θ (none) ν RC RS) μ k n 2 [(0, va_rf (some a)), (1, .int x1), (2, .int x2)] [] := by
  intro fu
  induction fu with
  | zero => intro a x1 x2 μ c m k n hf; cases hf
  | succ fu ih =>
    intro a x1 x2 μ c m k n hf hk hn
    rw [fX1_setFact_b2] at hf
    refine wa_iload_n X 2 dX1_setFact_2 rfl ?_
    refine wa_iconst (v := (4 : Int32)) X dX1_setFact_3 (by decide) ?_
    refine wa_icge (tgt := 62) X dX1_setFact_4 (by decide) (fun h1 => ?_) (fun h1 => ?_)
    · rw [if_pos h1] at hf
      obtain ⟨rfl, rfl, rfl, rfl⟩ := jret hf
      exact wa_vret X dX1_setFact_62 (by omega) (by omega)
    · rw [if_neg h1] at hf
      refine wa_iload_n X 1 dX1_setFact_7 rfl ?_
      refine wa_iflt (tgt := 31) X dX1_setFact_8 (by decide) (fun h2 => ?_) (fun h2 => ?_)
      · rw [if_pos h2] at hf
        refine wa_sub (L2 := [(0, va_rf (some a)), (1, .int x1), (2, .int x2)]) [0, 1, 2] rfl ?_
        exact gX1_setFact_b31 X ih a x1 x2 μ _ _ _ _ hf (by omega) (by omega)
      · rw [if_neg h2] at hf
        refine wa_iload_n X 1 dX1_setFact_11 rfl ?_
        refine wa_bipush (v := (6 : Int32)) X dX1_setFact_12 (by decide) ?_
        refine wa_icge (tgt := 31) X dX1_setFact_14 (by decide) (fun h3 => ?_) (fun h3 => ?_)
        · rw [if_pos h3] at hf
          refine wa_sub (L2 := [(0, va_rf (some a)), (1, .int x1), (2, .int x2)]) [0, 1, 2] rfl ?_
          exact gX1_setFact_b31 X ih a x1 x2 μ _ _ _ _ hf (by omega) (by omega)
        · rw [if_neg h3] at hf
          refine wa_aload_n X 0 dX1_setFact_17 rfl ?_
          obtain ⟨h4, hf⟩ := jckT hf
          refine wa_getP X dX1_setFact_18 lfX1_11 rfl h4 rfl ?_
          refine wa_iload_n X 2 dX1_setFact_21 rfl ?_
          refine wa_stat X dX1_setFact_22 lfX1_17 (fun t5 h6 => ?_)
          refine wa_iload_n X 1 dX1_setFact_25 rfl ?_
          obtain ⟨h7, hf⟩ := jck_some hf
          refine wa_stld X dX1_setFact_26 h6 h7 ?_
          obtain ⟨q8, h9, hf⟩ := jde_some hf
          obtain ⟨h10, hf⟩ := jckT hf
          obtain ⟨h11, hf⟩ := jck_some hf
          obtain ⟨μ12, hm13, hf⟩ := jlt_e hf
          have e14 : jT μ12 = jT μ := by rw [hm13]; rfl
          refine wa_rlast (ν := μ12) X dX1_setFact_27 h9 h10 h11 hm13 ?_
          refine wa_goto (tgt := 56) X dX1_setFact_28 (by decide) ?_
          refine wa_sub (L2 := [(0, va_rf (some a)), (1, .int x1), (2, .int x2)]) [0, 1, 2] rfl ?_
          exact gX1_setFact_b56 X ih a x1 x2 μ12 _ _ _ _ hf (by omega) (by omega)
def fX1_setFact (a : Nat) (x1 : Int32) (μ : JM) : JO (Unit) := fX1_setFact_b2  jfuel a x1 (0 : Int32) μ
set_option maxHeartbeats 4000000 in
set_option maxRecDepth 100000 in
theorem mX1_setFact {b : Nat} {a : Nat} {x1 : Int32} {μ : JM} {r : Unit} {ν : JM} {c m : Nat} (hf : fX1_setFact a x1 μ = some (r, ν, c, m)) : JMet b yX1_setFact cX1_setFact 3 none 0 0 [va_rf (some a), .int x1] μ (none) ν c m := by
  refine JMet.of (by decide) (lg_sl_le (by simp only [List.map_cons, List.map_nil, List.sum_cons, List.sum_nil, va_rf_cat]; exact Nat.le_of_ble_eq_true rfl)) (fun Θ X hin => ?_)
  refine wa_eq (L2 := [(0, va_rf (some a)), (1, .int x1)]) ?_ rfl (by first | rfl | simp [lv_args, va_rf_cat, cat_i, cat_l]) rfl
  obtain ⟨k, hk0⟩ : ∃ k : Nat, k = 0 := ⟨0, rfl⟩
  obtain ⟨n, hn0⟩ : ∃ n : Nat, n = 0 := ⟨0, rfl⟩
  have hk : k + c = c := by omega
  have hn : n + m = m := by omega
  refine wa_costs hk0.symm hn0.symm ?_
  rw [fX1_setFact] at hf
  refine wa_iconst (v := (0 : Int32)) X dX1_setFact_0 (by decide) ?_
  refine wa_istore_n (L2 := [(2, .int (0 : Int32)), (0, va_rf (some a)), (1, .int x1)]) X dX1_setFact_1 (by decide) (by first | rfl | (show (2, _) :: List.filter (fun q : Nat × Value => !(q.1 == 2) && !(q.1 + 1 == 2 && q.2.category == 2)) _ = _; simp [va_rf_cat, cat_i, cat_l])) ?_
  refine wa_sub (L2 := [(0, va_rf (some a)), (1, .int x1), (2, .int (0 : Int32))]) [1, 2, 0] rfl ?_
  exact gX1_setFact_b2 X jfuel a x1 (0 : Int32) μ _ _ _ _ hf (by omega) (by omega)
theorem dX1_copy_0 : decode cX1_copy 0 = .ok (.iconst 0, 1) := by decide +kernel
theorem dX1_copy_1 : decode cX1_copy 1 = .ok (.istore_n 2, 1) := by decide +kernel
theorem dX1_copy_2 : decode cX1_copy 2 = .ok (.iload_n 2, 1) := by decide +kernel
theorem dX1_copy_3 : decode cX1_copy 3 = .ok (.iconst 4, 1) := by decide +kernel
theorem dX1_copy_4 : decode cX1_copy 4 = .ok (.if_icmp .ge 21, 3) := by decide +kernel
theorem dX1_copy_7 : decode cX1_copy 7 = .ok (.aload_n 0, 1) := by decide +kernel
theorem dX1_copy_8 : decode cX1_copy 8 = .ok (.getfield 11, 3) := by decide +kernel
theorem dX1_copy_11 : decode cX1_copy 11 = .ok (.iload_n 2, 1) := by decide +kernel
theorem dX1_copy_12 : decode cX1_copy 12 = .ok (.aload_n 1, 1) := by decide +kernel
theorem dX1_copy_13 : decode cX1_copy 13 = .ok (.getfield 11, 3) := by decide +kernel
theorem dX1_copy_16 : decode cX1_copy 16 = .ok (.iload_n 2, 1) := by decide +kernel
theorem dX1_copy_17 : decode cX1_copy 17 = .ok (.laload, 1) := by decide +kernel
theorem dX1_copy_18 : decode cX1_copy 18 = .ok (.lastore, 1) := by decide +kernel
theorem dX1_copy_19 : decode cX1_copy 19 = .ok (.iinc 2 1, 3) := by decide +kernel
theorem dX1_copy_22 : decode cX1_copy 22 = .ok (.goto (-20), 3) := by decide +kernel
theorem dX1_copy_25 : decode cX1_copy 25 = .ok (.return_, 1) := by decide +kernel
def fX1_copy_b2 : Nat → Nat → Option Nat → Int32 → JM → JO (Unit)
  | 0, _, _, _, _ => none
  | fu + 1, a, p1, x2, μ => if (4 : Int32) ≤ x2 then (some ((), μ, 0, 0)) else (jck ((jT μ a).1 == 2) <| jde p1 fun q3 => jck ((jT μ q3).1 == 2) <| jde (jP μ q3 0) fun q6 => jck ((jT μ q6).1 == 102) <| jck (jin x2 (jT μ q6).2) <| jde (jP μ a 0) fun q10 => jck ((jT μ q10).1 == 102) <| jck (jin x2 (jT μ q10).2) <| jlt (jsJ μ q10 (x2).toNatClampNeg (jJ μ q6 (x2).toNatClampNeg)) fun μ14 => fX1_copy_b2 fu a p1 (x2 + (1 : Int32)) μ14)
set_option maxHeartbeats 4000000 in
set_option maxRecDepth 100000 in
theorem gX1_copy_b2 {b : Nat} {Θ : JE} {RC RS : Nat} {r : Unit} {ν : JM} (X : jX b Θ RX1 cX1_copy 3 none 0 0 RC RS) : ∀ (fu : Nat) (a : Nat) (p1 : Option Nat) (x2 : Int32) (μ : JM) (c m k n : Nat), fX1_copy_b2 fu a p1 x2 μ = some (r, ν, c, m) → k + c = RC → n + m = RS → WA b Θ 3 (jE b Θ (none) ν RC RS) μ k n 2 [(0, va_rf (some a)), (1, va_rf p1), (2, .int x2)] [] := by
  intro fu
  induction fu with
  | zero => intro a p1 x2 μ c m k n hf; cases hf
  | succ fu ih =>
    intro a p1 x2 μ c m k n hf hk hn
    rw [fX1_copy_b2] at hf
    refine wa_iload_n X 2 dX1_copy_2 rfl ?_
    refine wa_iconst (v := (4 : Int32)) X dX1_copy_3 (by decide) ?_
    refine wa_icge (tgt := 25) X dX1_copy_4 (by decide) (fun h1 => ?_) (fun h1 => ?_)
    · rw [if_pos h1] at hf
      obtain ⟨rfl, rfl, rfl, rfl⟩ := jret hf
      exact wa_vret X dX1_copy_25 (by omega) (by omega)
    · rw [if_neg h1] at hf
      refine wa_aload_n X 0 dX1_copy_7 rfl ?_
      obtain ⟨h2, hf⟩ := jckT hf
      refine wa_getP X dX1_copy_8 lfX1_11 rfl h2 rfl ?_
      refine wa_iload_n X 2 dX1_copy_11 rfl ?_
      refine wa_aload_n X 1 dX1_copy_12 rfl ?_
      obtain ⟨q3, h4, hf⟩ := jde_some hf
      obtain ⟨h5, hf⟩ := jckT hf
      refine wa_getP X dX1_copy_13 lfX1_11 h4 h5 rfl ?_
      refine wa_iload_n X 2 dX1_copy_16 rfl ?_
      obtain ⟨q6, h7, hf⟩ := jde_some hf
      obtain ⟨h8, hf⟩ := jckT hf
      obtain ⟨h9, hf⟩ := jck_some hf
      refine wa_rlald X dX1_copy_17 h7 h8 h9 ?_
      obtain ⟨q10, h11, hf⟩ := jde_some hf
      obtain ⟨h12, hf⟩ := jckT hf
      obtain ⟨h13, hf⟩ := jck_some hf
      obtain ⟨μ14, hm15, hf⟩ := jlt_e hf
      have e16 : jT μ14 = jT μ := by rw [hm15]; rfl
      refine wa_rlast (ν := μ14) X dX1_copy_18 h11 h12 h13 hm15 ?_
      refine wa_iinc (v := (x2 + (1 : Int32))) (L2 := [(2, .int (x2 + (1 : Int32))), (0, va_rf (some a)), (1, va_rf p1)]) X 2 dX1_copy_19 rfl rfl (by decide) (by first | rfl | simp [va_rf_cat, cat_i, cat_l]) ?_
      refine wa_goto (tgt := 2) X dX1_copy_22 (by decide) ?_
      refine wa_sub (L2 := [(0, va_rf (some a)), (1, va_rf p1), (2, .int (x2 + (1 : Int32)))]) [1, 2, 0] rfl ?_
      exact ih a p1 (x2 + (1 : Int32)) μ14 _ _ _ _ hf (by omega) (by omega)
def fX1_copy (a : Nat) (p1 : Option Nat) (μ : JM) : JO (Unit) := fX1_copy_b2  jfuel a p1 (0 : Int32) μ
set_option maxHeartbeats 4000000 in
set_option maxRecDepth 100000 in
theorem mX1_copy {b : Nat} {a : Nat} {p1 : Option Nat} {μ : JM} {r : Unit} {ν : JM} {c m : Nat} (hf : fX1_copy a p1 μ = some (r, ν, c, m)) : JMet b yX1_copy cX1_copy 3 none 0 0 [va_rf (some a), va_rf p1] μ (none) ν c m := by
  refine JMet.of (by decide) (lg_sl_le (by simp only [List.map_cons, List.map_nil, List.sum_cons, List.sum_nil, va_rf_cat]; exact Nat.le_of_ble_eq_true rfl)) (fun Θ X hin => ?_)
  refine wa_eq (L2 := [(0, va_rf (some a)), (1, va_rf p1)]) ?_ rfl (by first | rfl | simp [lv_args, va_rf_cat, cat_i, cat_l]) rfl
  obtain ⟨k, hk0⟩ : ∃ k : Nat, k = 0 := ⟨0, rfl⟩
  obtain ⟨n, hn0⟩ : ∃ n : Nat, n = 0 := ⟨0, rfl⟩
  have hk : k + c = c := by omega
  have hn : n + m = m := by omega
  refine wa_costs hk0.symm hn0.symm ?_
  rw [fX1_copy] at hf
  refine wa_iconst (v := (0 : Int32)) X dX1_copy_0 (by decide) ?_
  refine wa_istore_n (L2 := [(2, .int (0 : Int32)), (0, va_rf (some a)), (1, va_rf p1)]) X dX1_copy_1 (by decide) (by first | rfl | (show (2, _) :: List.filter (fun q : Nat × Value => !(q.1 == 2) && !(q.1 + 1 == 2 && q.2.category == 2)) _ = _; simp [va_rf_cat, cat_i, cat_l])) ?_
  refine wa_sub (L2 := [(0, va_rf (some a)), (1, va_rf p1), (2, .int (0 : Int32))]) [1, 2, 0] rfl ?_
  exact gX1_copy_b2 X jfuel a p1 (0 : Int32) μ _ _ _ _ hf (by omega) (by omega)
theorem dX1_and_0 : decode cX1_and 0 = .ok (.iconst 0, 1) := by decide +kernel
theorem dX1_and_1 : decode cX1_and 1 = .ok (.istore_n 2, 1) := by decide +kernel
theorem dX1_and_2 : decode cX1_and 2 = .ok (.iload_n 2, 1) := by decide +kernel
theorem dX1_and_3 : decode cX1_and 3 = .ok (.iconst 4, 1) := by decide +kernel
theorem dX1_and_4 : decode cX1_and 4 = .ok (.if_icmp .ge 24, 3) := by decide +kernel
theorem dX1_and_7 : decode cX1_and 7 = .ok (.aload_n 0, 1) := by decide +kernel
theorem dX1_and_8 : decode cX1_and 8 = .ok (.getfield 11, 3) := by decide +kernel
theorem dX1_and_11 : decode cX1_and 11 = .ok (.iload_n 2, 1) := by decide +kernel
theorem dX1_and_12 : decode cX1_and 12 = .ok (.dup2, 1) := by decide +kernel
theorem dX1_and_13 : decode cX1_and 13 = .ok (.laload, 1) := by decide +kernel
theorem dX1_and_14 : decode cX1_and 14 = .ok (.aload_n 1, 1) := by decide +kernel
theorem dX1_and_15 : decode cX1_and 15 = .ok (.getfield 11, 3) := by decide +kernel
theorem dX1_and_18 : decode cX1_and 18 = .ok (.iload_n 2, 1) := by decide +kernel
theorem dX1_and_19 : decode cX1_and 19 = .ok (.laload, 1) := by decide +kernel
theorem dX1_and_20 : decode cX1_and 20 = .ok (.land, 1) := by decide +kernel
theorem dX1_and_21 : decode cX1_and 21 = .ok (.lastore, 1) := by decide +kernel
theorem dX1_and_22 : decode cX1_and 22 = .ok (.iinc 2 1, 3) := by decide +kernel
theorem dX1_and_25 : decode cX1_and 25 = .ok (.goto (-23), 3) := by decide +kernel
theorem dX1_and_28 : decode cX1_and 28 = .ok (.return_, 1) := by decide +kernel
def fX1_and_b2 : Nat → Nat → Option Nat → Int32 → JM → JO (Unit)
  | 0, _, _, _, _ => none
  | fu + 1, a, p1, x2, μ => if (4 : Int32) ≤ x2 then (some ((), μ, 0, 0)) else (jck ((jT μ a).1 == 2) <| jde (jP μ a 0) fun q3 => jck ((jT μ q3).1 == 102) <| jck (jin x2 (jT μ q3).2) <| jde p1 fun q7 => jck ((jT μ q7).1 == 2) <| jde (jP μ q7 0) fun q10 => jck ((jT μ q10).1 == 102) <| jck (jin x2 (jT μ q10).2) <| jlt (jsJ μ q3 (x2).toNatClampNeg ((jJ μ q3 (x2).toNatClampNeg) &&& (jJ μ q10 (x2).toNatClampNeg))) fun μ14 => fX1_and_b2 fu a p1 (x2 + (1 : Int32)) μ14)
set_option maxHeartbeats 4000000 in
set_option maxRecDepth 100000 in
theorem gX1_and_b2 {b : Nat} {Θ : JE} {RC RS : Nat} {r : Unit} {ν : JM} (X : jX b Θ RX1 cX1_and 3 none 0 0 RC RS) : ∀ (fu : Nat) (a : Nat) (p1 : Option Nat) (x2 : Int32) (μ : JM) (c m k n : Nat), fX1_and_b2 fu a p1 x2 μ = some (r, ν, c, m) → k + c = RC → n + m = RS → WA b Θ 3 (jE b Θ (none) ν RC RS) μ k n 2 [(0, va_rf (some a)), (1, va_rf p1), (2, .int x2)] [] := by
  intro fu
  induction fu with
  | zero => intro a p1 x2 μ c m k n hf; cases hf
  | succ fu ih =>
    intro a p1 x2 μ c m k n hf hk hn
    rw [fX1_and_b2] at hf
    refine wa_iload_n X 2 dX1_and_2 rfl ?_
    refine wa_iconst (v := (4 : Int32)) X dX1_and_3 (by decide) ?_
    refine wa_icge (tgt := 28) X dX1_and_4 (by decide) (fun h1 => ?_) (fun h1 => ?_)
    · rw [if_pos h1] at hf
      obtain ⟨rfl, rfl, rfl, rfl⟩ := jret hf
      exact wa_vret X dX1_and_28 (by omega) (by omega)
    · rw [if_neg h1] at hf
      refine wa_aload_n X 0 dX1_and_7 rfl ?_
      obtain ⟨h2, hf⟩ := jckT hf
      refine wa_getP X dX1_and_8 lfX1_11 rfl h2 rfl ?_
      refine wa_iload_n X 2 dX1_and_11 rfl ?_
      refine wa_dup2 X dX1_and_12 rfl (va_rf_cat _) ?_
      obtain ⟨q3, h4, hf⟩ := jde_some hf
      obtain ⟨h5, hf⟩ := jckT hf
      obtain ⟨h6, hf⟩ := jck_some hf
      refine wa_rlald X dX1_and_13 h4 h5 h6 ?_
      refine wa_aload_n X 1 dX1_and_14 rfl ?_
      obtain ⟨q7, h8, hf⟩ := jde_some hf
      obtain ⟨h9, hf⟩ := jckT hf
      refine wa_getP X dX1_and_15 lfX1_11 h8 h9 rfl ?_
      refine wa_iload_n X 2 dX1_and_18 rfl ?_
      obtain ⟨q10, h11, hf⟩ := jde_some hf
      obtain ⟨h12, hf⟩ := jckT hf
      obtain ⟨h13, hf⟩ := jck_some hf
      refine wa_rlald X dX1_and_19 h11 h12 h13 ?_
      refine wa_land X dX1_and_20 ?_
      obtain ⟨μ14, hm15, hf⟩ := jlt_e hf
      have e16 : jT μ14 = jT μ := by rw [hm15]; rfl
      refine wa_rlast (ν := μ14) X dX1_and_21 h4 h5 h6 hm15 ?_
      refine wa_iinc (v := (x2 + (1 : Int32))) (L2 := [(2, .int (x2 + (1 : Int32))), (0, va_rf (some a)), (1, va_rf p1)]) X 2 dX1_and_22 rfl rfl (by decide) (by first | rfl | simp [va_rf_cat, cat_i, cat_l]) ?_
      refine wa_goto (tgt := 2) X dX1_and_25 (by decide) ?_
      refine wa_sub (L2 := [(0, va_rf (some a)), (1, va_rf p1), (2, .int (x2 + (1 : Int32)))]) [1, 2, 0] rfl ?_
      exact ih a p1 (x2 + (1 : Int32)) μ14 _ _ _ _ hf (by omega) (by omega)
def fX1_and (a : Nat) (p1 : Option Nat) (μ : JM) : JO (Unit) := fX1_and_b2  jfuel a p1 (0 : Int32) μ
set_option maxHeartbeats 4000000 in
set_option maxRecDepth 100000 in
theorem mX1_and {b : Nat} {a : Nat} {p1 : Option Nat} {μ : JM} {r : Unit} {ν : JM} {c m : Nat} (hf : fX1_and a p1 μ = some (r, ν, c, m)) : JMet b yX1_and cX1_and 3 none 0 0 [va_rf (some a), va_rf p1] μ (none) ν c m := by
  refine JMet.of (by decide) (lg_sl_le (by simp only [List.map_cons, List.map_nil, List.sum_cons, List.sum_nil, va_rf_cat]; exact Nat.le_of_ble_eq_true rfl)) (fun Θ X hin => ?_)
  refine wa_eq (L2 := [(0, va_rf (some a)), (1, va_rf p1)]) ?_ rfl (by first | rfl | simp [lv_args, va_rf_cat, cat_i, cat_l]) rfl
  obtain ⟨k, hk0⟩ : ∃ k : Nat, k = 0 := ⟨0, rfl⟩
  obtain ⟨n, hn0⟩ : ∃ n : Nat, n = 0 := ⟨0, rfl⟩
  have hk : k + c = c := by omega
  have hn : n + m = m := by omega
  refine wa_costs hk0.symm hn0.symm ?_
  rw [fX1_and] at hf
  refine wa_iconst (v := (0 : Int32)) X dX1_and_0 (by decide) ?_
  refine wa_istore_n (L2 := [(2, .int (0 : Int32)), (0, va_rf (some a)), (1, va_rf p1)]) X dX1_and_1 (by decide) (by first | rfl | (show (2, _) :: List.filter (fun q : Nat × Value => !(q.1 == 2) && !(q.1 + 1 == 2 && q.2.category == 2)) _ = _; simp [va_rf_cat, cat_i, cat_l])) ?_
  refine wa_sub (L2 := [(0, va_rf (some a)), (1, va_rf p1), (2, .int (0 : Int32))]) [1, 2, 0] rfl ?_
  exact gX1_and_b2 X jfuel a p1 (0 : Int32) μ _ _ _ _ hf (by omega) (by omega)
theorem dX1_andNot_0 : decode cX1_andNot 0 = .ok (.iconst 0, 1) := by decide +kernel
theorem dX1_andNot_1 : decode cX1_andNot 1 = .ok (.istore_n 2, 1) := by decide +kernel
theorem dX1_andNot_2 : decode cX1_andNot 2 = .ok (.iload_n 2, 1) := by decide +kernel
theorem dX1_andNot_3 : decode cX1_andNot 3 = .ok (.iconst 4, 1) := by decide +kernel
theorem dX1_andNot_4 : decode cX1_andNot 4 = .ok (.if_icmp .ge 28, 3) := by decide +kernel
theorem dX1_andNot_7 : decode cX1_andNot 7 = .ok (.aload_n 0, 1) := by decide +kernel
theorem dX1_andNot_8 : decode cX1_andNot 8 = .ok (.getfield 11, 3) := by decide +kernel
theorem dX1_andNot_11 : decode cX1_andNot 11 = .ok (.iload_n 2, 1) := by decide +kernel
theorem dX1_andNot_12 : decode cX1_andNot 12 = .ok (.dup2, 1) := by decide +kernel
theorem dX1_andNot_13 : decode cX1_andNot 13 = .ok (.laload, 1) := by decide +kernel
theorem dX1_andNot_14 : decode cX1_andNot 14 = .ok (.aload_n 1, 1) := by decide +kernel
theorem dX1_andNot_15 : decode cX1_andNot 15 = .ok (.getfield 11, 3) := by decide +kernel
theorem dX1_andNot_18 : decode cX1_andNot 18 = .ok (.iload_n 2, 1) := by decide +kernel
theorem dX1_andNot_19 : decode cX1_andNot 19 = .ok (.laload, 1) := by decide +kernel
theorem dX1_andNot_20 : decode cX1_andNot 20 = .ok (.ldc2_w 15, 3) := by decide +kernel
theorem dX1_andNot_23 : decode cX1_andNot 23 = .ok (.lxor, 1) := by decide +kernel
theorem dX1_andNot_24 : decode cX1_andNot 24 = .ok (.land, 1) := by decide +kernel
theorem dX1_andNot_25 : decode cX1_andNot 25 = .ok (.lastore, 1) := by decide +kernel
theorem dX1_andNot_26 : decode cX1_andNot 26 = .ok (.iinc 2 1, 3) := by decide +kernel
theorem dX1_andNot_29 : decode cX1_andNot 29 = .ok (.goto (-27), 3) := by decide +kernel
theorem dX1_andNot_32 : decode cX1_andNot 32 = .ok (.return_, 1) := by decide +kernel
def fX1_andNot_b2 : Nat → Nat → Option Nat → Int32 → JM → JO (Unit)
  | 0, _, _, _, _ => none
  | fu + 1, a, p1, x2, μ => if (4 : Int32) ≤ x2 then (some ((), μ, 0, 0)) else (jck ((jT μ a).1 == 2) <| jde (jP μ a 0) fun q3 => jck ((jT μ q3).1 == 102) <| jck (jin x2 (jT μ q3).2) <| jde p1 fun q7 => jck ((jT μ q7).1 == 2) <| jde (jP μ q7 0) fun q10 => jck ((jT μ q10).1 == 102) <| jck (jin x2 (jT μ q10).2) <| jlt (jsJ μ q3 (x2).toNatClampNeg ((jJ μ q3 (x2).toNatClampNeg) &&& ((jJ μ q10 (x2).toNatClampNeg) ^^^ (-1 : Int64)))) fun μ14 => fX1_andNot_b2 fu a p1 (x2 + (1 : Int32)) μ14)
set_option maxHeartbeats 4000000 in
set_option maxRecDepth 100000 in
theorem gX1_andNot_b2 {b : Nat} {Θ : JE} {RC RS : Nat} {r : Unit} {ν : JM} (X : jX b Θ RX1 cX1_andNot 3 none 0 0 RC RS) : ∀ (fu : Nat) (a : Nat) (p1 : Option Nat) (x2 : Int32) (μ : JM) (c m k n : Nat), fX1_andNot_b2 fu a p1 x2 μ = some (r, ν, c, m) → k + c = RC → n + m = RS → WA b Θ 3 (jE b Θ (none) ν RC RS) μ k n 2 [(0, va_rf (some a)), (1, va_rf p1), (2, .int x2)] [] := by
  intro fu
  induction fu with
  | zero => intro a p1 x2 μ c m k n hf; cases hf
  | succ fu ih =>
    intro a p1 x2 μ c m k n hf hk hn
    rw [fX1_andNot_b2] at hf
    refine wa_iload_n X 2 dX1_andNot_2 rfl ?_
    refine wa_iconst (v := (4 : Int32)) X dX1_andNot_3 (by decide) ?_
    refine wa_icge (tgt := 32) X dX1_andNot_4 (by decide) (fun h1 => ?_) (fun h1 => ?_)
    · rw [if_pos h1] at hf
      obtain ⟨rfl, rfl, rfl, rfl⟩ := jret hf
      exact wa_vret X dX1_andNot_32 (by omega) (by omega)
    · rw [if_neg h1] at hf
      refine wa_aload_n X 0 dX1_andNot_7 rfl ?_
      obtain ⟨h2, hf⟩ := jckT hf
      refine wa_getP X dX1_andNot_8 lfX1_11 rfl h2 rfl ?_
      refine wa_iload_n X 2 dX1_andNot_11 rfl ?_
      refine wa_dup2 X dX1_andNot_12 rfl (va_rf_cat _) ?_
      obtain ⟨q3, h4, hf⟩ := jde_some hf
      obtain ⟨h5, hf⟩ := jckT hf
      obtain ⟨h6, hf⟩ := jck_some hf
      refine wa_rlald X dX1_andNot_13 h4 h5 h6 ?_
      refine wa_aload_n X 1 dX1_andNot_14 rfl ?_
      obtain ⟨q7, h8, hf⟩ := jde_some hf
      obtain ⟨h9, hf⟩ := jckT hf
      refine wa_getP X dX1_andNot_15 lfX1_11 h8 h9 rfl ?_
      refine wa_iload_n X 2 dX1_andNot_18 rfl ?_
      obtain ⟨q10, h11, hf⟩ := jde_some hf
      obtain ⟨h12, hf⟩ := jckT hf
      obtain ⟨h13, hf⟩ := jck_some hf
      refine wa_rlald X dX1_andNot_19 h11 h12 h13 ?_
      refine wa_ldc2 (v := (-1 : Int64)) X dX1_andNot_20 lkX1_15 ?_
      refine wa_lxor X dX1_andNot_23 ?_
      refine wa_land X dX1_andNot_24 ?_
      obtain ⟨μ14, hm15, hf⟩ := jlt_e hf
      have e16 : jT μ14 = jT μ := by rw [hm15]; rfl
      refine wa_rlast (ν := μ14) X dX1_andNot_25 h4 h5 h6 hm15 ?_
      refine wa_iinc (v := (x2 + (1 : Int32))) (L2 := [(2, .int (x2 + (1 : Int32))), (0, va_rf (some a)), (1, va_rf p1)]) X 2 dX1_andNot_26 rfl rfl (by decide) (by first | rfl | simp [va_rf_cat, cat_i, cat_l]) ?_
      refine wa_goto (tgt := 2) X dX1_andNot_29 (by decide) ?_
      refine wa_sub (L2 := [(0, va_rf (some a)), (1, va_rf p1), (2, .int (x2 + (1 : Int32)))]) [1, 2, 0] rfl ?_
      exact ih a p1 (x2 + (1 : Int32)) μ14 _ _ _ _ hf (by omega) (by omega)
def fX1_andNot (a : Nat) (p1 : Option Nat) (μ : JM) : JO (Unit) := fX1_andNot_b2  jfuel a p1 (0 : Int32) μ
set_option maxHeartbeats 4000000 in
set_option maxRecDepth 100000 in
theorem mX1_andNot {b : Nat} {a : Nat} {p1 : Option Nat} {μ : JM} {r : Unit} {ν : JM} {c m : Nat} (hf : fX1_andNot a p1 μ = some (r, ν, c, m)) : JMet b yX1_andNot cX1_andNot 3 none 0 0 [va_rf (some a), va_rf p1] μ (none) ν c m := by
  refine JMet.of (by decide) (lg_sl_le (by simp only [List.map_cons, List.map_nil, List.sum_cons, List.sum_nil, va_rf_cat]; exact Nat.le_of_ble_eq_true rfl)) (fun Θ X hin => ?_)
  refine wa_eq (L2 := [(0, va_rf (some a)), (1, va_rf p1)]) ?_ rfl (by first | rfl | simp [lv_args, va_rf_cat, cat_i, cat_l]) rfl
  obtain ⟨k, hk0⟩ : ∃ k : Nat, k = 0 := ⟨0, rfl⟩
  obtain ⟨n, hn0⟩ : ∃ n : Nat, n = 0 := ⟨0, rfl⟩
  have hk : k + c = c := by omega
  have hn : n + m = m := by omega
  refine wa_costs hk0.symm hn0.symm ?_
  rw [fX1_andNot] at hf
  refine wa_iconst (v := (0 : Int32)) X dX1_andNot_0 (by decide) ?_
  refine wa_istore_n (L2 := [(2, .int (0 : Int32)), (0, va_rf (some a)), (1, va_rf p1)]) X dX1_andNot_1 (by decide) (by first | rfl | (show (2, _) :: List.filter (fun q : Nat × Value => !(q.1 == 2) && !(q.1 + 1 == 2 && q.2.category == 2)) _ = _; simp [va_rf_cat, cat_i, cat_l])) ?_
  refine wa_sub (L2 := [(0, va_rf (some a)), (1, va_rf p1), (2, .int (0 : Int32))]) [1, 2, 0] rfl ?_
  exact gX1_andNot_b2 X jfuel a p1 (0 : Int32) μ _ _ _ _ hf (by omega) (by omega)
theorem dX1_or_0 : decode cX1_or 0 = .ok (.iconst 0, 1) := by decide +kernel
theorem dX1_or_1 : decode cX1_or 1 = .ok (.istore_n 2, 1) := by decide +kernel
theorem dX1_or_2 : decode cX1_or 2 = .ok (.iload_n 2, 1) := by decide +kernel
theorem dX1_or_3 : decode cX1_or 3 = .ok (.iconst 4, 1) := by decide +kernel
theorem dX1_or_4 : decode cX1_or 4 = .ok (.if_icmp .ge 24, 3) := by decide +kernel
theorem dX1_or_7 : decode cX1_or 7 = .ok (.aload_n 0, 1) := by decide +kernel
theorem dX1_or_8 : decode cX1_or 8 = .ok (.getfield 11, 3) := by decide +kernel
theorem dX1_or_11 : decode cX1_or 11 = .ok (.iload_n 2, 1) := by decide +kernel
theorem dX1_or_12 : decode cX1_or 12 = .ok (.dup2, 1) := by decide +kernel
theorem dX1_or_13 : decode cX1_or 13 = .ok (.laload, 1) := by decide +kernel
theorem dX1_or_14 : decode cX1_or 14 = .ok (.aload_n 1, 1) := by decide +kernel
theorem dX1_or_15 : decode cX1_or 15 = .ok (.getfield 11, 3) := by decide +kernel
theorem dX1_or_18 : decode cX1_or 18 = .ok (.iload_n 2, 1) := by decide +kernel
theorem dX1_or_19 : decode cX1_or 19 = .ok (.laload, 1) := by decide +kernel
theorem dX1_or_20 : decode cX1_or 20 = .ok (.lor, 1) := by decide +kernel
theorem dX1_or_21 : decode cX1_or 21 = .ok (.lastore, 1) := by decide +kernel
theorem dX1_or_22 : decode cX1_or 22 = .ok (.iinc 2 1, 3) := by decide +kernel
theorem dX1_or_25 : decode cX1_or 25 = .ok (.goto (-23), 3) := by decide +kernel
theorem dX1_or_28 : decode cX1_or 28 = .ok (.return_, 1) := by decide +kernel
def fX1_or_b2 : Nat → Nat → Option Nat → Int32 → JM → JO (Unit)
  | 0, _, _, _, _ => none
  | fu + 1, a, p1, x2, μ => if (4 : Int32) ≤ x2 then (some ((), μ, 0, 0)) else (jck ((jT μ a).1 == 2) <| jde (jP μ a 0) fun q3 => jck ((jT μ q3).1 == 102) <| jck (jin x2 (jT μ q3).2) <| jde p1 fun q7 => jck ((jT μ q7).1 == 2) <| jde (jP μ q7 0) fun q10 => jck ((jT μ q10).1 == 102) <| jck (jin x2 (jT μ q10).2) <| jlt (jsJ μ q3 (x2).toNatClampNeg ((jJ μ q3 (x2).toNatClampNeg) ||| (jJ μ q10 (x2).toNatClampNeg))) fun μ14 => fX1_or_b2 fu a p1 (x2 + (1 : Int32)) μ14)
set_option maxHeartbeats 4000000 in
set_option maxRecDepth 100000 in
theorem gX1_or_b2 {b : Nat} {Θ : JE} {RC RS : Nat} {r : Unit} {ν : JM} (X : jX b Θ RX1 cX1_or 3 none 0 0 RC RS) : ∀ (fu : Nat) (a : Nat) (p1 : Option Nat) (x2 : Int32) (μ : JM) (c m k n : Nat), fX1_or_b2 fu a p1 x2 μ = some (r, ν, c, m) → k + c = RC → n + m = RS → WA b Θ 3 (jE b Θ (none) ν RC RS) μ k n 2 [(0, va_rf (some a)), (1, va_rf p1), (2, .int x2)] [] := by
  intro fu
  induction fu with
  | zero => intro a p1 x2 μ c m k n hf; cases hf
  | succ fu ih =>
    intro a p1 x2 μ c m k n hf hk hn
    rw [fX1_or_b2] at hf
    refine wa_iload_n X 2 dX1_or_2 rfl ?_
    refine wa_iconst (v := (4 : Int32)) X dX1_or_3 (by decide) ?_
    refine wa_icge (tgt := 28) X dX1_or_4 (by decide) (fun h1 => ?_) (fun h1 => ?_)
    · rw [if_pos h1] at hf
      obtain ⟨rfl, rfl, rfl, rfl⟩ := jret hf
      exact wa_vret X dX1_or_28 (by omega) (by omega)
    · rw [if_neg h1] at hf
      refine wa_aload_n X 0 dX1_or_7 rfl ?_
      obtain ⟨h2, hf⟩ := jckT hf
      refine wa_getP X dX1_or_8 lfX1_11 rfl h2 rfl ?_
      refine wa_iload_n X 2 dX1_or_11 rfl ?_
      refine wa_dup2 X dX1_or_12 rfl (va_rf_cat _) ?_
      obtain ⟨q3, h4, hf⟩ := jde_some hf
      obtain ⟨h5, hf⟩ := jckT hf
      obtain ⟨h6, hf⟩ := jck_some hf
      refine wa_rlald X dX1_or_13 h4 h5 h6 ?_
      refine wa_aload_n X 1 dX1_or_14 rfl ?_
      obtain ⟨q7, h8, hf⟩ := jde_some hf
      obtain ⟨h9, hf⟩ := jckT hf
      refine wa_getP X dX1_or_15 lfX1_11 h8 h9 rfl ?_
      refine wa_iload_n X 2 dX1_or_18 rfl ?_
      obtain ⟨q10, h11, hf⟩ := jde_some hf
      obtain ⟨h12, hf⟩ := jckT hf
      obtain ⟨h13, hf⟩ := jck_some hf
      refine wa_rlald X dX1_or_19 h11 h12 h13 ?_
      refine wa_lor X dX1_or_20 ?_
      obtain ⟨μ14, hm15, hf⟩ := jlt_e hf
      have e16 : jT μ14 = jT μ := by rw [hm15]; rfl
      refine wa_rlast (ν := μ14) X dX1_or_21 h4 h5 h6 hm15 ?_
      refine wa_iinc (v := (x2 + (1 : Int32))) (L2 := [(2, .int (x2 + (1 : Int32))), (0, va_rf (some a)), (1, va_rf p1)]) X 2 dX1_or_22 rfl rfl (by decide) (by first | rfl | simp [va_rf_cat, cat_i, cat_l]) ?_
      refine wa_goto (tgt := 2) X dX1_or_25 (by decide) ?_
      refine wa_sub (L2 := [(0, va_rf (some a)), (1, va_rf p1), (2, .int (x2 + (1 : Int32)))]) [1, 2, 0] rfl ?_
      exact ih a p1 (x2 + (1 : Int32)) μ14 _ _ _ _ hf (by omega) (by omega)
def fX1_or (a : Nat) (p1 : Option Nat) (μ : JM) : JO (Unit) := fX1_or_b2  jfuel a p1 (0 : Int32) μ
set_option maxHeartbeats 4000000 in
set_option maxRecDepth 100000 in
theorem mX1_or {b : Nat} {a : Nat} {p1 : Option Nat} {μ : JM} {r : Unit} {ν : JM} {c m : Nat} (hf : fX1_or a p1 μ = some (r, ν, c, m)) : JMet b yX1_or cX1_or 3 none 0 0 [va_rf (some a), va_rf p1] μ (none) ν c m := by
  refine JMet.of (by decide) (lg_sl_le (by simp only [List.map_cons, List.map_nil, List.sum_cons, List.sum_nil, va_rf_cat]; exact Nat.le_of_ble_eq_true rfl)) (fun Θ X hin => ?_)
  refine wa_eq (L2 := [(0, va_rf (some a)), (1, va_rf p1)]) ?_ rfl (by first | rfl | simp [lv_args, va_rf_cat, cat_i, cat_l]) rfl
  obtain ⟨k, hk0⟩ : ∃ k : Nat, k = 0 := ⟨0, rfl⟩
  obtain ⟨n, hn0⟩ : ∃ n : Nat, n = 0 := ⟨0, rfl⟩
  have hk : k + c = c := by omega
  have hn : n + m = m := by omega
  refine wa_costs hk0.symm hn0.symm ?_
  rw [fX1_or] at hf
  refine wa_iconst (v := (0 : Int32)) X dX1_or_0 (by decide) ?_
  refine wa_istore_n (L2 := [(2, .int (0 : Int32)), (0, va_rf (some a)), (1, va_rf p1)]) X dX1_or_1 (by decide) (by first | rfl | (show (2, _) :: List.filter (fun q : Nat × Value => !(q.1 == 2) && !(q.1 + 1 == 2 && q.2.category == 2)) _ = _; simp [va_rf_cat, cat_i, cat_l])) ?_
  refine wa_sub (L2 := [(0, va_rf (some a)), (1, va_rf p1), (2, .int (0 : Int32))]) [1, 2, 0] rfl ?_
  exact gX1_or_b2 X jfuel a p1 (0 : Int32) μ _ _ _ _ hf (by omega) (by omega)
theorem dX1_xor_0 : decode cX1_xor 0 = .ok (.iconst 0, 1) := by decide +kernel
theorem dX1_xor_1 : decode cX1_xor 1 = .ok (.istore_n 2, 1) := by decide +kernel
theorem dX1_xor_2 : decode cX1_xor 2 = .ok (.iload_n 2, 1) := by decide +kernel
theorem dX1_xor_3 : decode cX1_xor 3 = .ok (.iconst 4, 1) := by decide +kernel
theorem dX1_xor_4 : decode cX1_xor 4 = .ok (.if_icmp .ge 24, 3) := by decide +kernel
theorem dX1_xor_7 : decode cX1_xor 7 = .ok (.aload_n 0, 1) := by decide +kernel
theorem dX1_xor_8 : decode cX1_xor 8 = .ok (.getfield 11, 3) := by decide +kernel
theorem dX1_xor_11 : decode cX1_xor 11 = .ok (.iload_n 2, 1) := by decide +kernel
theorem dX1_xor_12 : decode cX1_xor 12 = .ok (.dup2, 1) := by decide +kernel
theorem dX1_xor_13 : decode cX1_xor 13 = .ok (.laload, 1) := by decide +kernel
theorem dX1_xor_14 : decode cX1_xor 14 = .ok (.aload_n 1, 1) := by decide +kernel
theorem dX1_xor_15 : decode cX1_xor 15 = .ok (.getfield 11, 3) := by decide +kernel
theorem dX1_xor_18 : decode cX1_xor 18 = .ok (.iload_n 2, 1) := by decide +kernel
theorem dX1_xor_19 : decode cX1_xor 19 = .ok (.laload, 1) := by decide +kernel
theorem dX1_xor_20 : decode cX1_xor 20 = .ok (.lxor, 1) := by decide +kernel
theorem dX1_xor_21 : decode cX1_xor 21 = .ok (.lastore, 1) := by decide +kernel
theorem dX1_xor_22 : decode cX1_xor 22 = .ok (.iinc 2 1, 3) := by decide +kernel
theorem dX1_xor_25 : decode cX1_xor 25 = .ok (.goto (-23), 3) := by decide +kernel
theorem dX1_xor_28 : decode cX1_xor 28 = .ok (.return_, 1) := by decide +kernel
def fX1_xor_b2 : Nat → Nat → Option Nat → Int32 → JM → JO (Unit)
  | 0, _, _, _, _ => none
  | fu + 1, a, p1, x2, μ => if (4 : Int32) ≤ x2 then (some ((), μ, 0, 0)) else (jck ((jT μ a).1 == 2) <| jde (jP μ a 0) fun q3 => jck ((jT μ q3).1 == 102) <| jck (jin x2 (jT μ q3).2) <| jde p1 fun q7 => jck ((jT μ q7).1 == 2) <| jde (jP μ q7 0) fun q10 => jck ((jT μ q10).1 == 102) <| jck (jin x2 (jT μ q10).2) <| jlt (jsJ μ q3 (x2).toNatClampNeg ((jJ μ q3 (x2).toNatClampNeg) ^^^ (jJ μ q10 (x2).toNatClampNeg))) fun μ14 => fX1_xor_b2 fu a p1 (x2 + (1 : Int32)) μ14)
set_option maxHeartbeats 4000000 in
set_option maxRecDepth 100000 in
theorem gX1_xor_b2 {b : Nat} {Θ : JE} {RC RS : Nat} {r : Unit} {ν : JM} (X : jX b Θ RX1 cX1_xor 3 none 0 0 RC RS) : ∀ (fu : Nat) (a : Nat) (p1 : Option Nat) (x2 : Int32) (μ : JM) (c m k n : Nat), fX1_xor_b2 fu a p1 x2 μ = some (r, ν, c, m) → k + c = RC → n + m = RS → WA b Θ 3 (jE b Θ (none) ν RC RS) μ k n 2 [(0, va_rf (some a)), (1, va_rf p1), (2, .int x2)] [] := by
  intro fu
  induction fu with
  | zero => intro a p1 x2 μ c m k n hf; cases hf
  | succ fu ih =>
    intro a p1 x2 μ c m k n hf hk hn
    rw [fX1_xor_b2] at hf
    refine wa_iload_n X 2 dX1_xor_2 rfl ?_
    refine wa_iconst (v := (4 : Int32)) X dX1_xor_3 (by decide) ?_
    refine wa_icge (tgt := 28) X dX1_xor_4 (by decide) (fun h1 => ?_) (fun h1 => ?_)
    · rw [if_pos h1] at hf
      obtain ⟨rfl, rfl, rfl, rfl⟩ := jret hf
      exact wa_vret X dX1_xor_28 (by omega) (by omega)
    · rw [if_neg h1] at hf
      refine wa_aload_n X 0 dX1_xor_7 rfl ?_
      obtain ⟨h2, hf⟩ := jckT hf
      refine wa_getP X dX1_xor_8 lfX1_11 rfl h2 rfl ?_
      refine wa_iload_n X 2 dX1_xor_11 rfl ?_
      refine wa_dup2 X dX1_xor_12 rfl (va_rf_cat _) ?_
      obtain ⟨q3, h4, hf⟩ := jde_some hf
      obtain ⟨h5, hf⟩ := jckT hf
      obtain ⟨h6, hf⟩ := jck_some hf
      refine wa_rlald X dX1_xor_13 h4 h5 h6 ?_
      refine wa_aload_n X 1 dX1_xor_14 rfl ?_
      obtain ⟨q7, h8, hf⟩ := jde_some hf
      obtain ⟨h9, hf⟩ := jckT hf
      refine wa_getP X dX1_xor_15 lfX1_11 h8 h9 rfl ?_
      refine wa_iload_n X 2 dX1_xor_18 rfl ?_
      obtain ⟨q10, h11, hf⟩ := jde_some hf
      obtain ⟨h12, hf⟩ := jckT hf
      obtain ⟨h13, hf⟩ := jck_some hf
      refine wa_rlald X dX1_xor_19 h11 h12 h13 ?_
      refine wa_lxor X dX1_xor_20 ?_
      obtain ⟨μ14, hm15, hf⟩ := jlt_e hf
      have e16 : jT μ14 = jT μ := by rw [hm15]; rfl
      refine wa_rlast (ν := μ14) X dX1_xor_21 h4 h5 h6 hm15 ?_
      refine wa_iinc (v := (x2 + (1 : Int32))) (L2 := [(2, .int (x2 + (1 : Int32))), (0, va_rf (some a)), (1, va_rf p1)]) X 2 dX1_xor_22 rfl rfl (by decide) (by first | rfl | simp [va_rf_cat, cat_i, cat_l]) ?_
      refine wa_goto (tgt := 2) X dX1_xor_25 (by decide) ?_
      refine wa_sub (L2 := [(0, va_rf (some a)), (1, va_rf p1), (2, .int (x2 + (1 : Int32)))]) [1, 2, 0] rfl ?_
      exact ih a p1 (x2 + (1 : Int32)) μ14 _ _ _ _ hf (by omega) (by omega)
def fX1_xor (a : Nat) (p1 : Option Nat) (μ : JM) : JO (Unit) := fX1_xor_b2  jfuel a p1 (0 : Int32) μ
set_option maxHeartbeats 4000000 in
set_option maxRecDepth 100000 in
theorem mX1_xor {b : Nat} {a : Nat} {p1 : Option Nat} {μ : JM} {r : Unit} {ν : JM} {c m : Nat} (hf : fX1_xor a p1 μ = some (r, ν, c, m)) : JMet b yX1_xor cX1_xor 3 none 0 0 [va_rf (some a), va_rf p1] μ (none) ν c m := by
  refine JMet.of (by decide) (lg_sl_le (by simp only [List.map_cons, List.map_nil, List.sum_cons, List.sum_nil, va_rf_cat]; exact Nat.le_of_ble_eq_true rfl)) (fun Θ X hin => ?_)
  refine wa_eq (L2 := [(0, va_rf (some a)), (1, va_rf p1)]) ?_ rfl (by first | rfl | simp [lv_args, va_rf_cat, cat_i, cat_l]) rfl
  obtain ⟨k, hk0⟩ : ∃ k : Nat, k = 0 := ⟨0, rfl⟩
  obtain ⟨n, hn0⟩ : ∃ n : Nat, n = 0 := ⟨0, rfl⟩
  have hk : k + c = c := by omega
  have hn : n + m = m := by omega
  refine wa_costs hk0.symm hn0.symm ?_
  rw [fX1_xor] at hf
  refine wa_iconst (v := (0 : Int32)) X dX1_xor_0 (by decide) ?_
  refine wa_istore_n (L2 := [(2, .int (0 : Int32)), (0, va_rf (some a)), (1, va_rf p1)]) X dX1_xor_1 (by decide) (by first | rfl | (show (2, _) :: List.filter (fun q : Nat × Value => !(q.1 == 2) && !(q.1 + 1 == 2 && q.2.category == 2)) _ = _; simp [va_rf_cat, cat_i, cat_l])) ?_
  refine wa_sub (L2 := [(0, va_rf (some a)), (1, va_rf p1), (2, .int (0 : Int32))]) [1, 2, 0] rfl ?_
  exact gX1_xor_b2 X jfuel a p1 (0 : Int32) μ _ _ _ _ hf (by omega) (by omega)
theorem dX1_flip_0 : decode cX1_flip 0 = .ok (.iconst 0, 1) := by decide +kernel
theorem dX1_flip_1 : decode cX1_flip 1 = .ok (.istore_n 1, 1) := by decide +kernel
theorem dX1_flip_2 : decode cX1_flip 2 = .ok (.iload_n 1, 1) := by decide +kernel
theorem dX1_flip_3 : decode cX1_flip 3 = .ok (.iconst 4, 1) := by decide +kernel
theorem dX1_flip_4 : decode cX1_flip 4 = .ok (.if_icmp .ge 25, 3) := by decide +kernel
theorem dX1_flip_7 : decode cX1_flip 7 = .ok (.aload_n 0, 1) := by decide +kernel
theorem dX1_flip_8 : decode cX1_flip 8 = .ok (.getfield 11, 3) := by decide +kernel
theorem dX1_flip_11 : decode cX1_flip 11 = .ok (.iload_n 1, 1) := by decide +kernel
theorem dX1_flip_12 : decode cX1_flip 12 = .ok (.aload_n 0, 1) := by decide +kernel
theorem dX1_flip_13 : decode cX1_flip 13 = .ok (.getfield 11, 3) := by decide +kernel
theorem dX1_flip_16 : decode cX1_flip 16 = .ok (.iload_n 1, 1) := by decide +kernel
theorem dX1_flip_17 : decode cX1_flip 17 = .ok (.laload, 1) := by decide +kernel
theorem dX1_flip_18 : decode cX1_flip 18 = .ok (.ldc2_w 15, 3) := by decide +kernel
theorem dX1_flip_21 : decode cX1_flip 21 = .ok (.lxor, 1) := by decide +kernel
theorem dX1_flip_22 : decode cX1_flip 22 = .ok (.lastore, 1) := by decide +kernel
theorem dX1_flip_23 : decode cX1_flip 23 = .ok (.iinc 1 1, 3) := by decide +kernel
theorem dX1_flip_26 : decode cX1_flip 26 = .ok (.goto (-24), 3) := by decide +kernel
theorem dX1_flip_29 : decode cX1_flip 29 = .ok (.return_, 1) := by decide +kernel
def fX1_flip_b2 : Nat → Nat → Int32 → JM → JO (Unit)
  | 0, _, _, _ => none
  | fu + 1, a, x1, μ => if (4 : Int32) ≤ x1 then (some ((), μ, 0, 0)) else (jck ((jT μ a).1 == 2) <| jde (jP μ a 0) fun q3 => jck ((jT μ q3).1 == 102) <| jck (jin x1 (jT μ q3).2) <| jlt (jsJ μ q3 (x1).toNatClampNeg ((jJ μ q3 (x1).toNatClampNeg) ^^^ (-1 : Int64))) fun μ7 => fX1_flip_b2 fu a (x1 + (1 : Int32)) μ7)
set_option maxHeartbeats 4000000 in
set_option maxRecDepth 100000 in
theorem gX1_flip_b2 {b : Nat} {Θ : JE} {RC RS : Nat} {r : Unit} {ν : JM} (X : jX b Θ RX1 cX1_flip 2 none 0 0 RC RS) : ∀ (fu : Nat) (a : Nat) (x1 : Int32) (μ : JM) (c m k n : Nat), fX1_flip_b2 fu a x1 μ = some (r, ν, c, m) → k + c = RC → n + m = RS → WA b Θ 2 (jE b Θ (none) ν RC RS) μ k n 2 [(0, va_rf (some a)), (1, .int x1)] [] := by
  intro fu
  induction fu with
  | zero => intro a x1 μ c m k n hf; cases hf
  | succ fu ih =>
    intro a x1 μ c m k n hf hk hn
    rw [fX1_flip_b2] at hf
    refine wa_iload_n X 1 dX1_flip_2 rfl ?_
    refine wa_iconst (v := (4 : Int32)) X dX1_flip_3 (by decide) ?_
    refine wa_icge (tgt := 29) X dX1_flip_4 (by decide) (fun h1 => ?_) (fun h1 => ?_)
    · rw [if_pos h1] at hf
      obtain ⟨rfl, rfl, rfl, rfl⟩ := jret hf
      exact wa_vret X dX1_flip_29 (by omega) (by omega)
    · rw [if_neg h1] at hf
      refine wa_aload_n X 0 dX1_flip_7 rfl ?_
      obtain ⟨h2, hf⟩ := jckT hf
      refine wa_getP X dX1_flip_8 lfX1_11 rfl h2 rfl ?_
      refine wa_iload_n X 1 dX1_flip_11 rfl ?_
      refine wa_aload_n X 0 dX1_flip_12 rfl ?_
      refine wa_getP X dX1_flip_13 lfX1_11 rfl h2 rfl ?_
      refine wa_iload_n X 1 dX1_flip_16 rfl ?_
      obtain ⟨q3, h4, hf⟩ := jde_some hf
      obtain ⟨h5, hf⟩ := jckT hf
      obtain ⟨h6, hf⟩ := jck_some hf
      refine wa_rlald X dX1_flip_17 h4 h5 h6 ?_
      refine wa_ldc2 (v := (-1 : Int64)) X dX1_flip_18 lkX1_15 ?_
      refine wa_lxor X dX1_flip_21 ?_
      obtain ⟨μ7, hm8, hf⟩ := jlt_e hf
      have e9 : jT μ7 = jT μ := by rw [hm8]; rfl
      refine wa_rlast (ν := μ7) X dX1_flip_22 h4 h5 h6 hm8 ?_
      refine wa_iinc (v := (x1 + (1 : Int32))) (L2 := [(1, .int (x1 + (1 : Int32))), (0, va_rf (some a))]) X 1 dX1_flip_23 rfl rfl (by decide) (by first | rfl | simp [va_rf_cat, cat_i, cat_l]) ?_
      refine wa_goto (tgt := 2) X dX1_flip_26 (by decide) ?_
      refine wa_sub (L2 := [(0, va_rf (some a)), (1, .int (x1 + (1 : Int32)))]) [1, 0] rfl ?_
      exact ih a (x1 + (1 : Int32)) μ7 _ _ _ _ hf (by omega) (by omega)
def fX1_flip (a : Nat) (μ : JM) : JO (Unit) := fX1_flip_b2  jfuel a (0 : Int32) μ
set_option maxHeartbeats 4000000 in
set_option maxRecDepth 100000 in
theorem mX1_flip {b : Nat} {a : Nat} {μ : JM} {r : Unit} {ν : JM} {c m : Nat} (hf : fX1_flip a μ = some (r, ν, c, m)) : JMet b yX1_flip cX1_flip 2 none 0 0 [va_rf (some a)] μ (none) ν c m := by
  refine JMet.of (by decide) (lg_sl_le (by simp only [List.map_cons, List.map_nil, List.sum_cons, List.sum_nil, va_rf_cat]; exact Nat.le_of_ble_eq_true rfl)) (fun Θ X hin => ?_)
  refine wa_eq (L2 := [(0, va_rf (some a))]) ?_ rfl (by first | rfl | simp [lv_args, va_rf_cat, cat_i, cat_l]) rfl
  obtain ⟨k, hk0⟩ : ∃ k : Nat, k = 0 := ⟨0, rfl⟩
  obtain ⟨n, hn0⟩ : ∃ n : Nat, n = 0 := ⟨0, rfl⟩
  have hk : k + c = c := by omega
  have hn : n + m = m := by omega
  refine wa_costs hk0.symm hn0.symm ?_
  rw [fX1_flip] at hf
  refine wa_iconst (v := (0 : Int32)) X dX1_flip_0 (by decide) ?_
  refine wa_istore_n (L2 := [(1, .int (0 : Int32)), (0, va_rf (some a))]) X dX1_flip_1 (by decide) (by first | rfl | (show (1, _) :: List.filter (fun q : Nat × Value => !(q.1 == 1) && !(q.1 + 1 == 1 && q.2.category == 2)) _ = _; simp [va_rf_cat, cat_i, cat_l])) ?_
  refine wa_sub (L2 := [(0, va_rf (some a)), (1, .int (0 : Int32))]) [1, 0] rfl ?_
  exact gX1_flip_b2 X jfuel a (0 : Int32) μ _ _ _ _ hf (by omega) (by omega)
theorem dX1_has_0 : decode cX1_has 0 = .ok (.iload_n 1, 1) := by decide +kernel
theorem dX1_has_1 : decode cX1_has 1 = .ok (.bipush 6, 2) := by decide +kernel
theorem dX1_has_3 : decode cX1_has 3 = .ok (.ishr, 1) := by decide +kernel
theorem dX1_has_4 : decode cX1_has 4 = .ok (.istore_n 2, 1) := by decide +kernel
theorem dX1_has_5 : decode cX1_has 5 = .ok (.iload_n 2, 1) := by decide +kernel
theorem dX1_has_6 : decode cX1_has 6 = .ok (.ifCond .lt 30, 3) := by decide +kernel
theorem dX1_has_9 : decode cX1_has 9 = .ok (.iload_n 2, 1) := by decide +kernel
theorem dX1_has_10 : decode cX1_has 10 = .ok (.iconst 4, 1) := by decide +kernel
theorem dX1_has_11 : decode cX1_has 11 = .ok (.if_icmp .ge 25, 3) := by decide +kernel
theorem dX1_has_14 : decode cX1_has 14 = .ok (.aload_n 0, 1) := by decide +kernel
theorem dX1_has_15 : decode cX1_has 15 = .ok (.getfield 11, 3) := by decide +kernel
theorem dX1_has_18 : decode cX1_has 18 = .ok (.iload_n 2, 1) := by decide +kernel
theorem dX1_has_19 : decode cX1_has 19 = .ok (.laload, 1) := by decide +kernel
theorem dX1_has_20 : decode cX1_has 20 = .ok (.iload_n 1, 1) := by decide +kernel
theorem dX1_has_21 : decode cX1_has 21 = .ok (.bipush 63, 2) := by decide +kernel
theorem dX1_has_23 : decode cX1_has 23 = .ok (.iand, 1) := by decide +kernel
theorem dX1_has_24 : decode cX1_has 24 = .ok (.lshr, 1) := by decide +kernel
theorem dX1_has_25 : decode cX1_has 25 = .ok (.lconst 1, 1) := by decide +kernel
theorem dX1_has_26 : decode cX1_has 26 = .ok (.land, 1) := by decide +kernel
theorem dX1_has_27 : decode cX1_has 27 = .ok (.lconst 1, 1) := by decide +kernel
theorem dX1_has_28 : decode cX1_has 28 = .ok (.lcmp, 1) := by decide +kernel
theorem dX1_has_29 : decode cX1_has 29 = .ok (.ifCond .ne 7, 3) := by decide +kernel
theorem dX1_has_32 : decode cX1_has 32 = .ok (.iconst 1, 1) := by decide +kernel
theorem dX1_has_33 : decode cX1_has 33 = .ok (.goto 4, 3) := by decide +kernel
theorem dX1_has_36 : decode cX1_has 36 = .ok (.iconst 0, 1) := by decide +kernel
theorem dX1_has_37 : decode cX1_has 37 = .ok (.ireturn, 1) := by decide +kernel
def fX1_has (a : Nat) (x1 : Int32) (μ : JM) : JO (Int32) := if (jshr x1 (6 : Int32)) < 0 then (some ((0 : Int32), μ, 0, 0)) else (if (4 : Int32) ≤ (jshr x1 (6 : Int32)) then (some ((0 : Int32), μ, 0, 0)) else (jck ((jT μ a).1 == 2) <| jde (jP μ a 0) fun q4 => jck ((jT μ q4).1 == 102) <| jck (jin (jshr x1 (6 : Int32)) (jT μ q4).2) <| if (lg_cmp ((jlshr (jJ μ q4 ((jshr x1 (6 : Int32))).toNatClampNeg) (x1 &&& (63 : Int32))) &&& (1 : Int64)) (1 : Int64)) = 0 then (some ((1 : Int32), μ, 0, 0)) else (some ((0 : Int32), μ, 0, 0))))
set_option maxHeartbeats 4000000 in
set_option maxRecDepth 100000 in
theorem mX1_has {b : Nat} {a : Nat} {x1 : Int32} {μ : JM} {r : Int32} {ν : JM} {c m : Nat} (hf : fX1_has a x1 μ = some (r, ν, c, m)) : JMet b yX1_has cX1_has 3 (some .boolean) 0 0 [va_rf (some a), .int x1] μ (some (.int r)) ν c m := by
  refine JMet.of (by decide) (lg_sl_le (by simp only [List.map_cons, List.map_nil, List.sum_cons, List.sum_nil, va_rf_cat]; exact Nat.le_of_ble_eq_true rfl)) (fun Θ X hin => ?_)
  refine wa_eq (L2 := [(0, va_rf (some a)), (1, .int x1)]) ?_ rfl (by first | rfl | simp [lv_args, va_rf_cat, cat_i, cat_l]) rfl
  obtain ⟨k, hk0⟩ : ∃ k : Nat, k = 0 := ⟨0, rfl⟩
  obtain ⟨n, hn0⟩ : ∃ n : Nat, n = 0 := ⟨0, rfl⟩
  have hk : k + c = c := by omega
  have hn : n + m = m := by omega
  refine wa_costs hk0.symm hn0.symm ?_
  rw [fX1_has] at hf
  refine wa_iload_n X 1 dX1_has_0 rfl ?_
  refine wa_bipush (v := (6 : Int32)) X dX1_has_1 (by decide) ?_
  refine wa_ishr X dX1_has_3 ?_
  refine wa_istore_n (L2 := [(2, .int (jshr x1 (6 : Int32))), (0, va_rf (some a)), (1, .int x1)]) X dX1_has_4 (by decide) (by first | rfl | (show (2, _) :: List.filter (fun q : Nat × Value => !(q.1 == 2) && !(q.1 + 1 == 2 && q.2.category == 2)) _ = _; simp [va_rf_cat, cat_i, cat_l])) ?_
  refine wa_iload_n X 0 dX1_has_5 rfl ?_
  refine wa_iflt (tgt := 36) X dX1_has_6 (by decide) (fun h1 => ?_) (fun h1 => ?_)
  · rw [if_pos h1] at hf
    refine wa_iconst (v := (0 : Int32)) X dX1_has_36 (by decide) ?_
    obtain ⟨rfl, rfl, rfl, rfl⟩ := jret hf
    exact wa_iret X dX1_has_37 rfl (by omega) (by omega)
  · rw [if_neg h1] at hf
    refine wa_iload_n X 0 dX1_has_9 rfl ?_
    refine wa_iconst (v := (4 : Int32)) X dX1_has_10 (by decide) ?_
    refine wa_icge (tgt := 36) X dX1_has_11 (by decide) (fun h2 => ?_) (fun h2 => ?_)
    · rw [if_pos h2] at hf
      refine wa_iconst (v := (0 : Int32)) X dX1_has_36 (by decide) ?_
      obtain ⟨rfl, rfl, rfl, rfl⟩ := jret hf
      exact wa_iret X dX1_has_37 rfl (by omega) (by omega)
    · rw [if_neg h2] at hf
      refine wa_aload_n X 1 dX1_has_14 rfl ?_
      obtain ⟨h3, hf⟩ := jckT hf
      refine wa_getP X dX1_has_15 lfX1_11 rfl h3 rfl ?_
      refine wa_iload_n X 0 dX1_has_18 rfl ?_
      obtain ⟨q4, h5, hf⟩ := jde_some hf
      obtain ⟨h6, hf⟩ := jckT hf
      obtain ⟨h7, hf⟩ := jck_some hf
      refine wa_rlald X dX1_has_19 h5 h6 h7 ?_
      refine wa_iload_n X 2 dX1_has_20 rfl ?_
      refine wa_bipush (v := (63 : Int32)) X dX1_has_21 (by decide) ?_
      refine wa_iand X dX1_has_23 ?_
      refine wa_lshr X dX1_has_24 ?_
      refine wa_lconst (v := (1 : Int64)) X dX1_has_25 (by decide) ?_
      refine wa_land X dX1_has_26 ?_
      refine wa_lconst (v := (1 : Int64)) X dX1_has_27 (by decide) ?_
      refine wa_lcmp X dX1_has_28 ?_
      refine wa_ifne (tgt := 36) X dX1_has_29 (by decide) (fun h8 => ?_) (fun h8 => ?_)
      · rw [if_neg h8] at hf
        refine wa_iconst (v := (0 : Int32)) X dX1_has_36 (by decide) ?_
        obtain ⟨rfl, rfl, rfl, rfl⟩ := jret hf
        exact wa_iret X dX1_has_37 rfl (by omega) (by omega)
      · rw [if_pos h8] at hf
        refine wa_iconst (v := (1 : Int32)) X dX1_has_32 (by decide) ?_
        refine wa_goto (tgt := 37) X dX1_has_33 (by decide) ?_
        obtain ⟨rfl, rfl, rfl, rfl⟩ := jret hf
        exact wa_iret X dX1_has_37 rfl (by omega) (by omega)
theorem dJ6_numberOfTrailingZeros_0f7a4_0 : decode cJ6_numberOfTrailingZeros_0f7a4 0 = .ok (.iload_n 0, 1) := by decide +kernel
theorem dJ6_numberOfTrailingZeros_0f7a4_1 : decode cJ6_numberOfTrailingZeros_0f7a4 1 = .ok (.iconst (-1), 1) := by decide +kernel
theorem dJ6_numberOfTrailingZeros_0f7a4_2 : decode cJ6_numberOfTrailingZeros_0f7a4 2 = .ok (.ixor, 1) := by decide +kernel
theorem dJ6_numberOfTrailingZeros_0f7a4_3 : decode cJ6_numberOfTrailingZeros_0f7a4 3 = .ok (.iload_n 0, 1) := by decide +kernel
theorem dJ6_numberOfTrailingZeros_0f7a4_4 : decode cJ6_numberOfTrailingZeros_0f7a4 4 = .ok (.iconst 1, 1) := by decide +kernel
theorem dJ6_numberOfTrailingZeros_0f7a4_5 : decode cJ6_numberOfTrailingZeros_0f7a4 5 = .ok (.isub, 1) := by decide +kernel
theorem dJ6_numberOfTrailingZeros_0f7a4_6 : decode cJ6_numberOfTrailingZeros_0f7a4 6 = .ok (.iand, 1) := by decide +kernel
theorem dJ6_numberOfTrailingZeros_0f7a4_7 : decode cJ6_numberOfTrailingZeros_0f7a4 7 = .ok (.istore_n 0, 1) := by decide +kernel
theorem dJ6_numberOfTrailingZeros_0f7a4_8 : decode cJ6_numberOfTrailingZeros_0f7a4 8 = .ok (.iload_n 0, 1) := by decide +kernel
theorem dJ6_numberOfTrailingZeros_0f7a4_9 : decode cJ6_numberOfTrailingZeros_0f7a4 9 = .ok (.ifCond .gt 8, 3) := by decide +kernel
theorem dJ6_numberOfTrailingZeros_0f7a4_12 : decode cJ6_numberOfTrailingZeros_0f7a4 12 = .ok (.iload_n 0, 1) := by decide +kernel
theorem dJ6_numberOfTrailingZeros_0f7a4_13 : decode cJ6_numberOfTrailingZeros_0f7a4 13 = .ok (.bipush 32, 2) := by decide +kernel
theorem dJ6_numberOfTrailingZeros_0f7a4_15 : decode cJ6_numberOfTrailingZeros_0f7a4 15 = .ok (.iand, 1) := by decide +kernel
theorem dJ6_numberOfTrailingZeros_0f7a4_16 : decode cJ6_numberOfTrailingZeros_0f7a4 16 = .ok (.ireturn, 1) := by decide +kernel
theorem dJ6_numberOfTrailingZeros_0f7a4_17 : decode cJ6_numberOfTrailingZeros_0f7a4 17 = .ok (.iconst 1, 1) := by decide +kernel
theorem dJ6_numberOfTrailingZeros_0f7a4_18 : decode cJ6_numberOfTrailingZeros_0f7a4 18 = .ok (.istore_n 1, 1) := by decide +kernel
theorem dJ6_numberOfTrailingZeros_0f7a4_19 : decode cJ6_numberOfTrailingZeros_0f7a4 19 = .ok (.iload_n 0, 1) := by decide +kernel
theorem dJ6_numberOfTrailingZeros_0f7a4_20 : decode cJ6_numberOfTrailingZeros_0f7a4 20 = .ok (.ldc_w 264, 3) := by decide +kernel
theorem dJ6_numberOfTrailingZeros_0f7a4_23 : decode cJ6_numberOfTrailingZeros_0f7a4 23 = .ok (.if_icmp .le 11, 3) := by decide +kernel
theorem dJ6_numberOfTrailingZeros_0f7a4_26 : decode cJ6_numberOfTrailingZeros_0f7a4 26 = .ok (.iinc 1 16, 3) := by decide +kernel
theorem dJ6_numberOfTrailingZeros_0f7a4_29 : decode cJ6_numberOfTrailingZeros_0f7a4 29 = .ok (.iload_n 0, 1) := by decide +kernel
theorem dJ6_numberOfTrailingZeros_0f7a4_30 : decode cJ6_numberOfTrailingZeros_0f7a4 30 = .ok (.bipush 16, 2) := by decide +kernel
theorem dJ6_numberOfTrailingZeros_0f7a4_32 : decode cJ6_numberOfTrailingZeros_0f7a4 32 = .ok (.iushr, 1) := by decide +kernel
theorem dJ6_numberOfTrailingZeros_0f7a4_33 : decode cJ6_numberOfTrailingZeros_0f7a4 33 = .ok (.istore_n 0, 1) := by decide +kernel
theorem dJ6_numberOfTrailingZeros_0f7a4_34 : decode cJ6_numberOfTrailingZeros_0f7a4 34 = .ok (.iload_n 0, 1) := by decide +kernel
theorem dJ6_numberOfTrailingZeros_0f7a4_35 : decode cJ6_numberOfTrailingZeros_0f7a4 35 = .ok (.sipush 256, 3) := by decide +kernel
theorem dJ6_numberOfTrailingZeros_0f7a4_38 : decode cJ6_numberOfTrailingZeros_0f7a4 38 = .ok (.if_icmp .le 11, 3) := by decide +kernel
theorem dJ6_numberOfTrailingZeros_0f7a4_41 : decode cJ6_numberOfTrailingZeros_0f7a4 41 = .ok (.iinc 1 8, 3) := by decide +kernel
theorem dJ6_numberOfTrailingZeros_0f7a4_44 : decode cJ6_numberOfTrailingZeros_0f7a4 44 = .ok (.iload_n 0, 1) := by decide +kernel
theorem dJ6_numberOfTrailingZeros_0f7a4_45 : decode cJ6_numberOfTrailingZeros_0f7a4 45 = .ok (.bipush 8, 2) := by decide +kernel
theorem dJ6_numberOfTrailingZeros_0f7a4_47 : decode cJ6_numberOfTrailingZeros_0f7a4 47 = .ok (.iushr, 1) := by decide +kernel
theorem dJ6_numberOfTrailingZeros_0f7a4_48 : decode cJ6_numberOfTrailingZeros_0f7a4 48 = .ok (.istore_n 0, 1) := by decide +kernel
theorem dJ6_numberOfTrailingZeros_0f7a4_49 : decode cJ6_numberOfTrailingZeros_0f7a4 49 = .ok (.iload_n 0, 1) := by decide +kernel
theorem dJ6_numberOfTrailingZeros_0f7a4_50 : decode cJ6_numberOfTrailingZeros_0f7a4 50 = .ok (.bipush 16, 2) := by decide +kernel
theorem dJ6_numberOfTrailingZeros_0f7a4_52 : decode cJ6_numberOfTrailingZeros_0f7a4 52 = .ok (.if_icmp .le 10, 3) := by decide +kernel
theorem dJ6_numberOfTrailingZeros_0f7a4_55 : decode cJ6_numberOfTrailingZeros_0f7a4 55 = .ok (.iinc 1 4, 3) := by decide +kernel
theorem dJ6_numberOfTrailingZeros_0f7a4_58 : decode cJ6_numberOfTrailingZeros_0f7a4 58 = .ok (.iload_n 0, 1) := by decide +kernel
theorem dJ6_numberOfTrailingZeros_0f7a4_59 : decode cJ6_numberOfTrailingZeros_0f7a4 59 = .ok (.iconst 4, 1) := by decide +kernel
theorem dJ6_numberOfTrailingZeros_0f7a4_60 : decode cJ6_numberOfTrailingZeros_0f7a4 60 = .ok (.iushr, 1) := by decide +kernel
theorem dJ6_numberOfTrailingZeros_0f7a4_61 : decode cJ6_numberOfTrailingZeros_0f7a4 61 = .ok (.istore_n 0, 1) := by decide +kernel
theorem dJ6_numberOfTrailingZeros_0f7a4_62 : decode cJ6_numberOfTrailingZeros_0f7a4 62 = .ok (.iload_n 0, 1) := by decide +kernel
theorem dJ6_numberOfTrailingZeros_0f7a4_63 : decode cJ6_numberOfTrailingZeros_0f7a4 63 = .ok (.iconst 4, 1) := by decide +kernel
theorem dJ6_numberOfTrailingZeros_0f7a4_64 : decode cJ6_numberOfTrailingZeros_0f7a4 64 = .ok (.if_icmp .le 10, 3) := by decide +kernel
theorem dJ6_numberOfTrailingZeros_0f7a4_67 : decode cJ6_numberOfTrailingZeros_0f7a4 67 = .ok (.iinc 1 2, 3) := by decide +kernel
theorem dJ6_numberOfTrailingZeros_0f7a4_70 : decode cJ6_numberOfTrailingZeros_0f7a4 70 = .ok (.iload_n 0, 1) := by decide +kernel
theorem dJ6_numberOfTrailingZeros_0f7a4_71 : decode cJ6_numberOfTrailingZeros_0f7a4 71 = .ok (.iconst 2, 1) := by decide +kernel
theorem dJ6_numberOfTrailingZeros_0f7a4_72 : decode cJ6_numberOfTrailingZeros_0f7a4 72 = .ok (.iushr, 1) := by decide +kernel
theorem dJ6_numberOfTrailingZeros_0f7a4_73 : decode cJ6_numberOfTrailingZeros_0f7a4 73 = .ok (.istore_n 0, 1) := by decide +kernel
theorem dJ6_numberOfTrailingZeros_0f7a4_74 : decode cJ6_numberOfTrailingZeros_0f7a4 74 = .ok (.iload_n 1, 1) := by decide +kernel
theorem dJ6_numberOfTrailingZeros_0f7a4_75 : decode cJ6_numberOfTrailingZeros_0f7a4 75 = .ok (.iload_n 0, 1) := by decide +kernel
theorem dJ6_numberOfTrailingZeros_0f7a4_76 : decode cJ6_numberOfTrailingZeros_0f7a4 76 = .ok (.iconst 1, 1) := by decide +kernel
theorem dJ6_numberOfTrailingZeros_0f7a4_77 : decode cJ6_numberOfTrailingZeros_0f7a4 77 = .ok (.iushr, 1) := by decide +kernel
theorem dJ6_numberOfTrailingZeros_0f7a4_78 : decode cJ6_numberOfTrailingZeros_0f7a4 78 = .ok (.iadd, 1) := by decide +kernel
theorem dJ6_numberOfTrailingZeros_0f7a4_79 : decode cJ6_numberOfTrailingZeros_0f7a4 79 = .ok (.ireturn, 1) := by decide +kernel
def fJ6_numberOfTrailingZeros_0f7a4_b62 (x0 : Int32) (x1 : Int32) (μ : JM) : JO (Int32) := if x0 ≤ (4 : Int32) then (some ((x1 + (jushr x0 (1 : Int32))), μ, 0, 0)) else (some (((x1 + (2 : Int32)) + (jushr (jushr x0 (2 : Int32)) (1 : Int32))), μ, 0, 0))
set_option maxHeartbeats 4000000 in
set_option maxRecDepth 100000 in
theorem gJ6_numberOfTrailingZeros_0f7a4_b62 {b : Nat} {Θ : JE} {RC RS : Nat} {r : Int32} {ν : JM} (X : jX b Θ RJ6 cJ6_numberOfTrailingZeros_0f7a4 2 (some .int) 0 0 RC RS) (x0 : Int32) (x1 : Int32) (μ : JM) (c m k n : Nat) (hf : fJ6_numberOfTrailingZeros_0f7a4_b62 x0 x1 μ = some (r, ν, c, m)) (hk : k + c = RC) (hn : n + m = RS) : WA b Θ 2 (jE b Θ (some (.int r)) ν RC RS) μ k n 62 [(0, .int x0), (1, .int x1)] [] := by
  rw [fJ6_numberOfTrailingZeros_0f7a4_b62] at hf
  refine wa_iload_n X 0 dJ6_numberOfTrailingZeros_0f7a4_62 rfl ?_
  refine wa_iconst (v := (4 : Int32)) X dJ6_numberOfTrailingZeros_0f7a4_63 (by decide) ?_
  refine wa_icle (tgt := 74) X dJ6_numberOfTrailingZeros_0f7a4_64 (by decide) (fun h5 => ?_) (fun h5 => ?_)
  · rw [if_pos h5] at hf
    refine wa_iload_n X 1 dJ6_numberOfTrailingZeros_0f7a4_74 rfl ?_
    refine wa_iload_n X 0 dJ6_numberOfTrailingZeros_0f7a4_75 rfl ?_
    refine wa_iconst (v := (1 : Int32)) X dJ6_numberOfTrailingZeros_0f7a4_76 (by decide) ?_
    refine wa_iushr X dJ6_numberOfTrailingZeros_0f7a4_77 ?_
    refine wa_iadd X dJ6_numberOfTrailingZeros_0f7a4_78 ?_
    obtain ⟨rfl, rfl, rfl, rfl⟩ := jret hf
    exact wa_iret X dJ6_numberOfTrailingZeros_0f7a4_79 rfl (by omega) (by omega)
  · rw [if_neg h5] at hf
    refine wa_iinc (v := (x1 + (2 : Int32))) (L2 := [(1, .int (x1 + (2 : Int32))), (0, .int x0)]) X 1 dJ6_numberOfTrailingZeros_0f7a4_67 rfl rfl (by decide) (by first | rfl | simp [va_rf_cat, cat_i, cat_l]) ?_
    refine wa_iload_n X 1 dJ6_numberOfTrailingZeros_0f7a4_70 rfl ?_
    refine wa_iconst (v := (2 : Int32)) X dJ6_numberOfTrailingZeros_0f7a4_71 (by decide) ?_
    refine wa_iushr X dJ6_numberOfTrailingZeros_0f7a4_72 ?_
    refine wa_istore_n (L2 := [(0, .int (jushr x0 (2 : Int32))), (1, .int (x1 + (2 : Int32)))]) X dJ6_numberOfTrailingZeros_0f7a4_73 (by decide) (by first | rfl | (show (0, _) :: List.filter (fun q : Nat × Value => !(q.1 == 0) && !(q.1 + 1 == 0 && q.2.category == 2)) _ = _; simp [va_rf_cat, cat_i, cat_l])) ?_
    refine wa_iload_n X 1 dJ6_numberOfTrailingZeros_0f7a4_74 rfl ?_
    refine wa_iload_n X 0 dJ6_numberOfTrailingZeros_0f7a4_75 rfl ?_
    refine wa_iconst (v := (1 : Int32)) X dJ6_numberOfTrailingZeros_0f7a4_76 (by decide) ?_
    refine wa_iushr X dJ6_numberOfTrailingZeros_0f7a4_77 ?_
    refine wa_iadd X dJ6_numberOfTrailingZeros_0f7a4_78 ?_
    obtain ⟨rfl, rfl, rfl, rfl⟩ := jret hf
    exact wa_iret X dJ6_numberOfTrailingZeros_0f7a4_79 rfl (by omega) (by omega)
def fJ6_numberOfTrailingZeros_0f7a4_b49 (x0 : Int32) (x1 : Int32) (μ : JM) : JO (Int32) := if x0 ≤ (16 : Int32) then (fJ6_numberOfTrailingZeros_0f7a4_b62  x0 x1 μ) else (fJ6_numberOfTrailingZeros_0f7a4_b62  (jushr x0 (4 : Int32)) (x1 + (4 : Int32)) μ)
set_option maxHeartbeats 4000000 in
set_option maxRecDepth 100000 in
theorem gJ6_numberOfTrailingZeros_0f7a4_b49 {b : Nat} {Θ : JE} {RC RS : Nat} {r : Int32} {ν : JM} (X : jX b Θ RJ6 cJ6_numberOfTrailingZeros_0f7a4 2 (some .int) 0 0 RC RS) (x0 : Int32) (x1 : Int32) (μ : JM) (c m k n : Nat) (hf : fJ6_numberOfTrailingZeros_0f7a4_b49 x0 x1 μ = some (r, ν, c, m)) (hk : k + c = RC) (hn : n + m = RS) : WA b Θ 2 (jE b Θ (some (.int r)) ν RC RS) μ k n 49 [(0, .int x0), (1, .int x1)] [] := by
  rw [fJ6_numberOfTrailingZeros_0f7a4_b49] at hf
  refine wa_iload_n X 0 dJ6_numberOfTrailingZeros_0f7a4_49 rfl ?_
  refine wa_bipush (v := (16 : Int32)) X dJ6_numberOfTrailingZeros_0f7a4_50 (by decide) ?_
  refine wa_icle (tgt := 62) X dJ6_numberOfTrailingZeros_0f7a4_52 (by decide) (fun h4 => ?_) (fun h4 => ?_)
  · rw [if_pos h4] at hf
    refine wa_sub (L2 := [(0, .int x0), (1, .int x1)]) [0, 1] rfl ?_
    exact gJ6_numberOfTrailingZeros_0f7a4_b62 X x0 x1 μ _ _ _ _ hf (by omega) (by omega)
  · rw [if_neg h4] at hf
    refine wa_iinc (v := (x1 + (4 : Int32))) (L2 := [(1, .int (x1 + (4 : Int32))), (0, .int x0)]) X 1 dJ6_numberOfTrailingZeros_0f7a4_55 rfl rfl (by decide) (by first | rfl | simp [va_rf_cat, cat_i, cat_l]) ?_
    refine wa_iload_n X 1 dJ6_numberOfTrailingZeros_0f7a4_58 rfl ?_
    refine wa_iconst (v := (4 : Int32)) X dJ6_numberOfTrailingZeros_0f7a4_59 (by decide) ?_
    refine wa_iushr X dJ6_numberOfTrailingZeros_0f7a4_60 ?_
    refine wa_istore_n (L2 := [(0, .int (jushr x0 (4 : Int32))), (1, .int (x1 + (4 : Int32)))]) X dJ6_numberOfTrailingZeros_0f7a4_61 (by decide) (by first | rfl | (show (0, _) :: List.filter (fun q : Nat × Value => !(q.1 == 0) && !(q.1 + 1 == 0 && q.2.category == 2)) _ = _; simp [va_rf_cat, cat_i, cat_l])) ?_
    refine wa_sub (L2 := [(0, .int (jushr x0 (4 : Int32))), (1, .int (x1 + (4 : Int32)))]) [0, 1] rfl ?_
    exact gJ6_numberOfTrailingZeros_0f7a4_b62 X (jushr x0 (4 : Int32)) (x1 + (4 : Int32)) μ _ _ _ _ hf (by omega) (by omega)
def fJ6_numberOfTrailingZeros_0f7a4_b34 (x0 : Int32) (x1 : Int32) (μ : JM) : JO (Int32) := if x0 ≤ (256 : Int32) then (fJ6_numberOfTrailingZeros_0f7a4_b49  x0 x1 μ) else (fJ6_numberOfTrailingZeros_0f7a4_b49  (jushr x0 (8 : Int32)) (x1 + (8 : Int32)) μ)
set_option maxHeartbeats 4000000 in
set_option maxRecDepth 100000 in
theorem gJ6_numberOfTrailingZeros_0f7a4_b34 {b : Nat} {Θ : JE} {RC RS : Nat} {r : Int32} {ν : JM} (X : jX b Θ RJ6 cJ6_numberOfTrailingZeros_0f7a4 2 (some .int) 0 0 RC RS) (x0 : Int32) (x1 : Int32) (μ : JM) (c m k n : Nat) (hf : fJ6_numberOfTrailingZeros_0f7a4_b34 x0 x1 μ = some (r, ν, c, m)) (hk : k + c = RC) (hn : n + m = RS) : WA b Θ 2 (jE b Θ (some (.int r)) ν RC RS) μ k n 34 [(0, .int x0), (1, .int x1)] [] := by
  rw [fJ6_numberOfTrailingZeros_0f7a4_b34] at hf
  refine wa_iload_n X 0 dJ6_numberOfTrailingZeros_0f7a4_34 rfl ?_
  refine wa_sipush (v := (256 : Int32)) X dJ6_numberOfTrailingZeros_0f7a4_35 (by decide) ?_
  refine wa_icle (tgt := 49) X dJ6_numberOfTrailingZeros_0f7a4_38 (by decide) (fun h3 => ?_) (fun h3 => ?_)
  · rw [if_pos h3] at hf
    refine wa_sub (L2 := [(0, .int x0), (1, .int x1)]) [0, 1] rfl ?_
    exact gJ6_numberOfTrailingZeros_0f7a4_b49 X x0 x1 μ _ _ _ _ hf (by omega) (by omega)
  · rw [if_neg h3] at hf
    refine wa_iinc (v := (x1 + (8 : Int32))) (L2 := [(1, .int (x1 + (8 : Int32))), (0, .int x0)]) X 1 dJ6_numberOfTrailingZeros_0f7a4_41 rfl rfl (by decide) (by first | rfl | simp [va_rf_cat, cat_i, cat_l]) ?_
    refine wa_iload_n X 1 dJ6_numberOfTrailingZeros_0f7a4_44 rfl ?_
    refine wa_bipush (v := (8 : Int32)) X dJ6_numberOfTrailingZeros_0f7a4_45 (by decide) ?_
    refine wa_iushr X dJ6_numberOfTrailingZeros_0f7a4_47 ?_
    refine wa_istore_n (L2 := [(0, .int (jushr x0 (8 : Int32))), (1, .int (x1 + (8 : Int32)))]) X dJ6_numberOfTrailingZeros_0f7a4_48 (by decide) (by first | rfl | (show (0, _) :: List.filter (fun q : Nat × Value => !(q.1 == 0) && !(q.1 + 1 == 0 && q.2.category == 2)) _ = _; simp [va_rf_cat, cat_i, cat_l])) ?_
    refine wa_sub (L2 := [(0, .int (jushr x0 (8 : Int32))), (1, .int (x1 + (8 : Int32)))]) [0, 1] rfl ?_
    exact gJ6_numberOfTrailingZeros_0f7a4_b49 X (jushr x0 (8 : Int32)) (x1 + (8 : Int32)) μ _ _ _ _ hf (by omega) (by omega)
def fJ6_numberOfTrailingZeros_0f7a4 (x0 : Int32) (μ : JM) : JO (Int32) := if 0 < ((x0 ^^^ (-1 : Int32)) &&& (x0 - (1 : Int32))) then (if ((x0 ^^^ (-1 : Int32)) &&& (x0 - (1 : Int32))) ≤ (65536 : Int32) then (fJ6_numberOfTrailingZeros_0f7a4_b34  ((x0 ^^^ (-1 : Int32)) &&& (x0 - (1 : Int32))) (1 : Int32) μ) else (fJ6_numberOfTrailingZeros_0f7a4_b34  (jushr ((x0 ^^^ (-1 : Int32)) &&& (x0 - (1 : Int32))) (16 : Int32)) ((1 : Int32) + (16 : Int32)) μ)) else (some ((((x0 ^^^ (-1 : Int32)) &&& (x0 - (1 : Int32))) &&& (32 : Int32)), μ, 0, 0))
set_option maxHeartbeats 4000000 in
set_option maxRecDepth 100000 in
theorem mJ6_numberOfTrailingZeros_0f7a4 {b : Nat} {x0 : Int32} {μ : JM} {r : Int32} {ν : JM} {c m : Nat} (hf : fJ6_numberOfTrailingZeros_0f7a4 x0 μ = some (r, ν, c, m)) : JMet b yJ6_numberOfTrailingZeros_0f7a4 cJ6_numberOfTrailingZeros_0f7a4 2 (some .int) 0 0 [.int x0] μ (some (.int r)) ν c m := by
  refine JMet.of (by decide) (lg_sl_le (by simp only [List.map_cons, List.map_nil, List.sum_cons, List.sum_nil, va_rf_cat]; exact Nat.le_of_ble_eq_true rfl)) (fun Θ X hin => ?_)
  refine wa_eq (L2 := [(0, .int x0)]) ?_ rfl (by first | rfl | simp [lv_args, va_rf_cat, cat_i, cat_l]) rfl
  obtain ⟨k, hk0⟩ : ∃ k : Nat, k = 0 := ⟨0, rfl⟩
  obtain ⟨n, hn0⟩ : ∃ n : Nat, n = 0 := ⟨0, rfl⟩
  have hk : k + c = c := by omega
  have hn : n + m = m := by omega
  refine wa_costs hk0.symm hn0.symm ?_
  rw [fJ6_numberOfTrailingZeros_0f7a4] at hf
  refine wa_iload_n X 0 dJ6_numberOfTrailingZeros_0f7a4_0 rfl ?_
  refine wa_iconst (v := (-1 : Int32)) X dJ6_numberOfTrailingZeros_0f7a4_1 (by decide) ?_
  refine wa_ixor X dJ6_numberOfTrailingZeros_0f7a4_2 ?_
  refine wa_iload_n X 0 dJ6_numberOfTrailingZeros_0f7a4_3 rfl ?_
  refine wa_iconst (v := (1 : Int32)) X dJ6_numberOfTrailingZeros_0f7a4_4 (by decide) ?_
  refine wa_isub X dJ6_numberOfTrailingZeros_0f7a4_5 ?_
  refine wa_iand X dJ6_numberOfTrailingZeros_0f7a4_6 ?_
  refine wa_istore_n (L2 := [(0, .int ((x0 ^^^ (-1 : Int32)) &&& (x0 - (1 : Int32))))]) X dJ6_numberOfTrailingZeros_0f7a4_7 (by decide) (by first | rfl | (show (0, _) :: List.filter (fun q : Nat × Value => !(q.1 == 0) && !(q.1 + 1 == 0 && q.2.category == 2)) _ = _; simp [va_rf_cat, cat_i, cat_l])) ?_
  refine wa_iload_n X 0 dJ6_numberOfTrailingZeros_0f7a4_8 rfl ?_
  refine wa_ifgt (tgt := 17) X dJ6_numberOfTrailingZeros_0f7a4_9 (by decide) (fun h1 => ?_) (fun h1 => ?_)
  · rw [if_pos h1] at hf
    refine wa_iconst (v := (1 : Int32)) X dJ6_numberOfTrailingZeros_0f7a4_17 (by decide) ?_
    refine wa_istore_n (L2 := [(1, .int (1 : Int32)), (0, .int ((x0 ^^^ (-1 : Int32)) &&& (x0 - (1 : Int32))))]) X dJ6_numberOfTrailingZeros_0f7a4_18 (by decide) (by first | rfl | (show (1, _) :: List.filter (fun q : Nat × Value => !(q.1 == 1) && !(q.1 + 1 == 1 && q.2.category == 2)) _ = _; simp [va_rf_cat, cat_i, cat_l])) ?_
    refine wa_iload_n X 1 dJ6_numberOfTrailingZeros_0f7a4_19 rfl ?_
    refine wa_ldcw (v := (65536 : Int32)) X dJ6_numberOfTrailingZeros_0f7a4_20 lkJ6_264 ?_
    refine wa_icle (tgt := 34) X dJ6_numberOfTrailingZeros_0f7a4_23 (by decide) (fun h2 => ?_) (fun h2 => ?_)
    · rw [if_pos h2] at hf
      refine wa_sub (L2 := [(0, .int ((x0 ^^^ (-1 : Int32)) &&& (x0 - (1 : Int32)))), (1, .int (1 : Int32))]) [1, 0] rfl ?_
      exact gJ6_numberOfTrailingZeros_0f7a4_b34 X ((x0 ^^^ (-1 : Int32)) &&& (x0 - (1 : Int32))) (1 : Int32) μ _ _ _ _ hf (by omega) (by omega)
    · rw [if_neg h2] at hf
      refine wa_iinc (v := ((1 : Int32) + (16 : Int32))) (L2 := [(1, .int ((1 : Int32) + (16 : Int32))), (0, .int ((x0 ^^^ (-1 : Int32)) &&& (x0 - (1 : Int32))))]) X 0 dJ6_numberOfTrailingZeros_0f7a4_26 rfl rfl (by decide) (by first | rfl | simp [va_rf_cat, cat_i, cat_l]) ?_
      refine wa_iload_n X 1 dJ6_numberOfTrailingZeros_0f7a4_29 rfl ?_
      refine wa_bipush (v := (16 : Int32)) X dJ6_numberOfTrailingZeros_0f7a4_30 (by decide) ?_
      refine wa_iushr X dJ6_numberOfTrailingZeros_0f7a4_32 ?_
      refine wa_istore_n (L2 := [(0, .int (jushr ((x0 ^^^ (-1 : Int32)) &&& (x0 - (1 : Int32))) (16 : Int32))), (1, .int ((1 : Int32) + (16 : Int32)))]) X dJ6_numberOfTrailingZeros_0f7a4_33 (by decide) (by first | rfl | (show (0, _) :: List.filter (fun q : Nat × Value => !(q.1 == 0) && !(q.1 + 1 == 0 && q.2.category == 2)) _ = _; simp [va_rf_cat, cat_i, cat_l])) ?_
      refine wa_sub (L2 := [(0, .int (jushr ((x0 ^^^ (-1 : Int32)) &&& (x0 - (1 : Int32))) (16 : Int32))), (1, .int ((1 : Int32) + (16 : Int32)))]) [0, 1] rfl ?_
      exact gJ6_numberOfTrailingZeros_0f7a4_b34 X (jushr ((x0 ^^^ (-1 : Int32)) &&& (x0 - (1 : Int32))) (16 : Int32)) ((1 : Int32) + (16 : Int32)) μ _ _ _ _ hf (by omega) (by omega)
  · rw [if_neg h1] at hf
    refine wa_iload_n X 0 dJ6_numberOfTrailingZeros_0f7a4_12 rfl ?_
    refine wa_bipush (v := (32 : Int32)) X dJ6_numberOfTrailingZeros_0f7a4_13 (by decide) ?_
    refine wa_iand X dJ6_numberOfTrailingZeros_0f7a4_15 ?_
    obtain ⟨rfl, rfl, rfl, rfl⟩ := jret hf
    exact wa_iret X dJ6_numberOfTrailingZeros_0f7a4_16 rfl (by omega) (by omega)
theorem dJ13_numberOfTrailingZeros_95d88_0 : decode cJ13_numberOfTrailingZeros_95d88 0 = .ok (.lload_n 0, 1) := by decide +kernel
theorem dJ13_numberOfTrailingZeros_95d88_1 : decode cJ13_numberOfTrailingZeros_95d88 1 = .ok (.l2i, 1) := by decide +kernel
theorem dJ13_numberOfTrailingZeros_95d88_2 : decode cJ13_numberOfTrailingZeros_95d88 2 = .ok (.istore_n 2, 1) := by decide +kernel
theorem dJ13_numberOfTrailingZeros_95d88_3 : decode cJ13_numberOfTrailingZeros_95d88 3 = .ok (.iload_n 2, 1) := by decide +kernel
theorem dJ13_numberOfTrailingZeros_95d88_4 : decode cJ13_numberOfTrailingZeros_95d88 4 = .ok (.ifCond .ne 17, 3) := by decide +kernel
theorem dJ13_numberOfTrailingZeros_95d88_7 : decode cJ13_numberOfTrailingZeros_95d88 7 = .ok (.bipush 32, 2) := by decide +kernel
theorem dJ13_numberOfTrailingZeros_95d88_9 : decode cJ13_numberOfTrailingZeros_95d88 9 = .ok (.lload_n 0, 1) := by decide +kernel
theorem dJ13_numberOfTrailingZeros_95d88_10 : decode cJ13_numberOfTrailingZeros_95d88 10 = .ok (.bipush 32, 2) := by decide +kernel
theorem dJ13_numberOfTrailingZeros_95d88_12 : decode cJ13_numberOfTrailingZeros_95d88 12 = .ok (.lushr, 1) := by decide +kernel
theorem dJ13_numberOfTrailingZeros_95d88_13 : decode cJ13_numberOfTrailingZeros_95d88 13 = .ok (.l2i, 1) := by decide +kernel
theorem dJ13_numberOfTrailingZeros_95d88_14 : decode cJ13_numberOfTrailingZeros_95d88 14 = .ok (.invokestatic 311, 3) := by decide +kernel
theorem dJ13_numberOfTrailingZeros_95d88_17 : decode cJ13_numberOfTrailingZeros_95d88 17 = .ok (.iadd, 1) := by decide +kernel
theorem dJ13_numberOfTrailingZeros_95d88_18 : decode cJ13_numberOfTrailingZeros_95d88 18 = .ok (.goto 7, 3) := by decide +kernel
theorem dJ13_numberOfTrailingZeros_95d88_21 : decode cJ13_numberOfTrailingZeros_95d88 21 = .ok (.iload_n 2, 1) := by decide +kernel
theorem dJ13_numberOfTrailingZeros_95d88_22 : decode cJ13_numberOfTrailingZeros_95d88 22 = .ok (.invokestatic 311, 3) := by decide +kernel
theorem dJ13_numberOfTrailingZeros_95d88_25 : decode cJ13_numberOfTrailingZeros_95d88 25 = .ok (.ireturn, 1) := by decide +kernel
def fJ13_numberOfTrailingZeros_95d88 (y0 : Int64) (μ : JM) : JO (Int32) := if (y0).toInt32 = 0 then (jcl (fJ6_numberOfTrailingZeros_0f7a4 ((jlushr y0 (32 : Int32))).toInt32 μ) fun r11 μ12 => some (((32 : Int32) + r11), μ12, 0, 0)) else (jcl (fJ6_numberOfTrailingZeros_0f7a4 (y0).toInt32 μ) fun r2 μ3 => some (r2, μ3, 0, 0))
set_option maxHeartbeats 4000000 in
set_option maxRecDepth 100000 in
theorem mJ13_numberOfTrailingZeros_95d88 {b : Nat} {y0 : Int64} {μ : JM} {r : Int32} {ν : JM} {c m : Nat} (hf : fJ13_numberOfTrailingZeros_95d88 y0 μ = some (r, ν, c, m)) : JMet b yJ13_numberOfTrailingZeros_95d88 cJ13_numberOfTrailingZeros_95d88 3 (some .int) 1 21 [.long y0] μ (some (.int r)) ν c m := by
  refine JMet.of (by decide) (lg_sl_le (by simp only [List.map_cons, List.map_nil, List.sum_cons, List.sum_nil, va_rf_cat]; exact Nat.le_of_ble_eq_true rfl)) (fun Θ X hin => ?_)
  refine wa_eq (L2 := [(0, .long y0)]) ?_ rfl (by first | rfl | simp [lv_args, va_rf_cat, cat_i, cat_l]) rfl
  obtain ⟨k, hk0⟩ : ∃ k : Nat, k = 0 := ⟨0, rfl⟩
  obtain ⟨n, hn0⟩ : ∃ n : Nat, n = 0 := ⟨0, rfl⟩
  have hk : k + c = c := by omega
  have hn : n + m = m := by omega
  refine wa_costs hk0.symm hn0.symm ?_
  rw [fJ13_numberOfTrailingZeros_95d88] at hf
  refine wa_lload_n X 0 dJ13_numberOfTrailingZeros_95d88_0 rfl ?_
  refine wa_l2i X dJ13_numberOfTrailingZeros_95d88_1 ?_
  refine wa_istore_n (L2 := [(2, .int (y0).toInt32), (0, .long y0)]) X dJ13_numberOfTrailingZeros_95d88_2 (by decide) (by first | rfl | (show (2, _) :: List.filter (fun q : Nat × Value => !(q.1 == 2) && !(q.1 + 1 == 2 && q.2.category == 2)) _ = _; simp [va_rf_cat, cat_i, cat_l])) ?_
  refine wa_iload_n X 0 dJ13_numberOfTrailingZeros_95d88_3 rfl ?_
  refine wa_ifne (tgt := 21) X dJ13_numberOfTrailingZeros_95d88_4 (by decide) (fun h1 => ?_) (fun h1 => ?_)
  · rw [if_neg h1] at hf
    refine wa_iload_n X 0 dJ13_numberOfTrailingZeros_95d88_21 rfl ?_
    obtain ⟨r2, μ3, c4, m5, c6, m7, e8, hf, h9, h10⟩ := jcl_some hf
    refine wa_rcallS (st2 := [.int r2]) X dJ13_numberOfTrailingZeros_95d88_22 lmJ13_311 lMJ6_numberOfTrailingZeros_0f7a4 (mJ6_numberOfTrailingZeros_0f7a4 e8) rfl rfl rfl (va_cats (Nat.le_of_ble_eq_true rfl)) (by decide) (by omega) (by omega) ?_
    obtain ⟨rfl, rfl, rfl, rfl⟩ := jret hf
    exact wa_iret X dJ13_numberOfTrailingZeros_95d88_25 rfl (by omega) (by omega)
  · rw [if_pos h1] at hf
    refine wa_bipush (v := (32 : Int32)) X dJ13_numberOfTrailingZeros_95d88_7 (by decide) ?_
    refine wa_lload_n X 1 dJ13_numberOfTrailingZeros_95d88_9 rfl ?_
    refine wa_bipush (v := (32 : Int32)) X dJ13_numberOfTrailingZeros_95d88_10 (by decide) ?_
    refine wa_lushr X dJ13_numberOfTrailingZeros_95d88_12 ?_
    refine wa_l2i X dJ13_numberOfTrailingZeros_95d88_13 ?_
    obtain ⟨r11, μ12, c13, m14, c15, m16, e17, hf, h18, h19⟩ := jcl_some hf
    refine wa_rcallS (st2 := [.int r11, .int (32 : Int32)]) X dJ13_numberOfTrailingZeros_95d88_14 lmJ13_311 lMJ6_numberOfTrailingZeros_0f7a4 (mJ6_numberOfTrailingZeros_0f7a4 e17) rfl rfl rfl (va_cats (Nat.le_of_ble_eq_true rfl)) (by decide) (by omega) (by omega) ?_
    refine wa_iadd X dJ13_numberOfTrailingZeros_95d88_17 ?_
    refine wa_goto (tgt := 25) X dJ13_numberOfTrailingZeros_95d88_18 (by decide) ?_
    obtain ⟨rfl, rfl, rfl, rfl⟩ := jret hf
    exact wa_iret X dJ13_numberOfTrailingZeros_95d88_25 rfl (by omega) (by omega)
theorem dX1_least_0 : decode cX1_least 0 = .ok (.iconst 0, 1) := by decide +kernel
theorem dX1_least_1 : decode cX1_least 1 = .ok (.istore_n 1, 1) := by decide +kernel
theorem dX1_least_2 : decode cX1_least 2 = .ok (.iload_n 1, 1) := by decide +kernel
theorem dX1_least_3 : decode cX1_least 3 = .ok (.iconst 4, 1) := by decide +kernel
theorem dX1_least_4 : decode cX1_least 4 = .ok (.if_icmp .ge 35, 3) := by decide +kernel
theorem dX1_least_7 : decode cX1_least 7 = .ok (.aload_n 0, 1) := by decide +kernel
theorem dX1_least_8 : decode cX1_least 8 = .ok (.getfield 11, 3) := by decide +kernel
theorem dX1_least_11 : decode cX1_least 11 = .ok (.iload_n 1, 1) := by decide +kernel
theorem dX1_least_12 : decode cX1_least 12 = .ok (.laload, 1) := by decide +kernel
theorem dX1_least_13 : decode cX1_least 13 = .ok (.lconst 0, 1) := by decide +kernel
theorem dX1_least_14 : decode cX1_least 14 = .ok (.lcmp, 1) := by decide +kernel
theorem dX1_least_15 : decode cX1_least 15 = .ok (.ifCond .eq 18, 3) := by decide +kernel
theorem dX1_least_18 : decode cX1_least 18 = .ok (.iload_n 1, 1) := by decide +kernel
theorem dX1_least_19 : decode cX1_least 19 = .ok (.bipush 64, 2) := by decide +kernel
theorem dX1_least_21 : decode cX1_least 21 = .ok (.imul, 1) := by decide +kernel
theorem dX1_least_22 : decode cX1_least 22 = .ok (.aload_n 0, 1) := by decide +kernel
theorem dX1_least_23 : decode cX1_least 23 = .ok (.getfield 11, 3) := by decide +kernel
theorem dX1_least_26 : decode cX1_least 26 = .ok (.iload_n 1, 1) := by decide +kernel
theorem dX1_least_27 : decode cX1_least 27 = .ok (.laload, 1) := by decide +kernel
theorem dX1_least_28 : decode cX1_least 28 = .ok (.invokestatic 20, 3) := by decide +kernel
theorem dX1_least_31 : decode cX1_least 31 = .ok (.iadd, 1) := by decide +kernel
theorem dX1_least_32 : decode cX1_least 32 = .ok (.ireturn, 1) := by decide +kernel
theorem dX1_least_33 : decode cX1_least 33 = .ok (.iinc 1 1, 3) := by decide +kernel
theorem dX1_least_36 : decode cX1_least 36 = .ok (.goto (-34), 3) := by decide +kernel
theorem dX1_least_39 : decode cX1_least 39 = .ok (.iconst (-1), 1) := by decide +kernel
theorem dX1_least_40 : decode cX1_least 40 = .ok (.ireturn, 1) := by decide +kernel
def fX1_least_b2 : Nat → Nat → Int32 → JM → JO (Int32)
  | 0, _, _, _ => none
  | fu + 1, a, x1, μ => if (4 : Int32) ≤ x1 then (some ((-1 : Int32), μ, 0, 0)) else (jck ((jT μ a).1 == 2) <| jde (jP μ a 0) fun q3 => jck ((jT μ q3).1 == 102) <| jck (jin x1 (jT μ q3).2) <| if (lg_cmp (jJ μ q3 (x1).toNatClampNeg) (0 : Int64)) = 0 then (fX1_least_b2 fu a (x1 + (1 : Int32)) μ) else (jcl (fJ13_numberOfTrailingZeros_95d88 (jJ μ q3 (x1).toNatClampNeg) μ) fun r8 μ9 => some (((x1 * (64 : Int32)) + r8), μ9, 0, 0)))
set_option maxHeartbeats 4000000 in
set_option maxRecDepth 100000 in
theorem gX1_least_b2 {b : Nat} {Θ : JE} {RC RS : Nat} {r : Int32} {ν : JM} (X : jX b Θ RX1 cX1_least 2 (some .int) 2 43 RC RS) : ∀ (fu : Nat) (a : Nat) (x1 : Int32) (μ : JM) (c m k n : Nat), fX1_least_b2 fu a x1 μ = some (r, ν, c, m) → k + c = RC → n + m = RS → WA b Θ 2 (jE b Θ (some (.int r)) ν RC RS) μ k n 2 [(0, va_rf (some a)), (1, .int x1)] [] := by
  intro fu
  induction fu with
  | zero => intro a x1 μ c m k n hf; cases hf
  | succ fu ih =>
    intro a x1 μ c m k n hf hk hn
    rw [fX1_least_b2] at hf
    refine wa_iload_n X 1 dX1_least_2 rfl ?_
    refine wa_iconst (v := (4 : Int32)) X dX1_least_3 (by decide) ?_
    refine wa_icge (tgt := 39) X dX1_least_4 (by decide) (fun h1 => ?_) (fun h1 => ?_)
    · rw [if_pos h1] at hf
      refine wa_iconst (v := (-1 : Int32)) X dX1_least_39 (by decide) ?_
      obtain ⟨rfl, rfl, rfl, rfl⟩ := jret hf
      exact wa_iret X dX1_least_40 rfl (by omega) (by omega)
    · rw [if_neg h1] at hf
      refine wa_aload_n X 0 dX1_least_7 rfl ?_
      obtain ⟨h2, hf⟩ := jckT hf
      refine wa_getP X dX1_least_8 lfX1_11 rfl h2 rfl ?_
      refine wa_iload_n X 1 dX1_least_11 rfl ?_
      obtain ⟨q3, h4, hf⟩ := jde_some hf
      obtain ⟨h5, hf⟩ := jckT hf
      obtain ⟨h6, hf⟩ := jck_some hf
      refine wa_rlald X dX1_least_12 h4 h5 h6 ?_
      refine wa_lconst (v := (0 : Int64)) X dX1_least_13 (by decide) ?_
      refine wa_lcmp X dX1_least_14 ?_
      refine wa_ifeq (tgt := 33) X dX1_least_15 (by decide) (fun h7 => ?_) (fun h7 => ?_)
      · rw [if_pos h7] at hf
        refine wa_iinc (v := (x1 + (1 : Int32))) (L2 := [(1, .int (x1 + (1 : Int32))), (0, va_rf (some a))]) X 1 dX1_least_33 rfl rfl (by decide) (by first | rfl | simp [va_rf_cat, cat_i, cat_l]) ?_
        refine wa_goto (tgt := 2) X dX1_least_36 (by decide) ?_
        refine wa_sub (L2 := [(0, va_rf (some a)), (1, .int (x1 + (1 : Int32)))]) [1, 0] rfl ?_
        exact ih a (x1 + (1 : Int32)) μ _ _ _ _ hf (by omega) (by omega)
      · rw [if_neg h7] at hf
        refine wa_iload_n X 1 dX1_least_18 rfl ?_
        refine wa_bipush (v := (64 : Int32)) X dX1_least_19 (by decide) ?_
        refine wa_imul X dX1_least_21 ?_
        refine wa_aload_n X 0 dX1_least_22 rfl ?_
        refine wa_getP X dX1_least_23 lfX1_11 rfl h2 rfl ?_
        refine wa_iload_n X 1 dX1_least_26 rfl ?_
        refine wa_rlald X dX1_least_27 h4 h5 h6 ?_
        obtain ⟨r8, μ9, c10, m11, c12, m13, e14, hf, h15, h16⟩ := jcl_some hf
        refine wa_rcallS (st2 := [.int r8, .int (x1 * (64 : Int32))]) X dX1_least_28 lmX1_20 lMJ13_numberOfTrailingZeros_95d88 (mJ13_numberOfTrailingZeros_95d88 e14) rfl rfl rfl (va_cats (Nat.le_of_ble_eq_true rfl)) (by decide) (by omega) (by omega) ?_
        refine wa_iadd X dX1_least_31 ?_
        obtain ⟨rfl, rfl, rfl, rfl⟩ := jret hf
        exact wa_iret X dX1_least_32 rfl (by omega) (by omega)
def fX1_least (a : Nat) (μ : JM) : JO (Int32) := fX1_least_b2  jfuel a (0 : Int32) μ
set_option maxHeartbeats 4000000 in
set_option maxRecDepth 100000 in
theorem mX1_least {b : Nat} {a : Nat} {μ : JM} {r : Int32} {ν : JM} {c m : Nat} (hf : fX1_least a μ = some (r, ν, c, m)) : JMet b yX1_least cX1_least 2 (some .int) 2 43 [va_rf (some a)] μ (some (.int r)) ν c m := by
  refine JMet.of (by decide) (lg_sl_le (by simp only [List.map_cons, List.map_nil, List.sum_cons, List.sum_nil, va_rf_cat]; exact Nat.le_of_ble_eq_true rfl)) (fun Θ X hin => ?_)
  refine wa_eq (L2 := [(0, va_rf (some a))]) ?_ rfl (by first | rfl | simp [lv_args, va_rf_cat, cat_i, cat_l]) rfl
  obtain ⟨k, hk0⟩ : ∃ k : Nat, k = 0 := ⟨0, rfl⟩
  obtain ⟨n, hn0⟩ : ∃ n : Nat, n = 0 := ⟨0, rfl⟩
  have hk : k + c = c := by omega
  have hn : n + m = m := by omega
  refine wa_costs hk0.symm hn0.symm ?_
  rw [fX1_least] at hf
  refine wa_iconst (v := (0 : Int32)) X dX1_least_0 (by decide) ?_
  refine wa_istore_n (L2 := [(1, .int (0 : Int32)), (0, va_rf (some a))]) X dX1_least_1 (by decide) (by first | rfl | (show (1, _) :: List.filter (fun q : Nat × Value => !(q.1 == 1) && !(q.1 + 1 == 1 && q.2.category == 2)) _ = _; simp [va_rf_cat, cat_i, cat_l])) ?_
  refine wa_sub (L2 := [(0, va_rf (some a)), (1, .int (0 : Int32))]) [1, 0] rfl ?_
  exact gX1_least_b2 X jfuel a (0 : Int32) μ _ _ _ _ hf (by omega) (by omega)
theorem dJ13_bitCount_95d88_0 : decode cJ13_bitCount_95d88 0 = .ok (.lload_n 0, 1) := by decide +kernel
theorem dJ13_bitCount_95d88_1 : decode cJ13_bitCount_95d88 1 = .ok (.lload_n 0, 1) := by decide +kernel
theorem dJ13_bitCount_95d88_2 : decode cJ13_bitCount_95d88 2 = .ok (.iconst 1, 1) := by decide +kernel
theorem dJ13_bitCount_95d88_3 : decode cJ13_bitCount_95d88 3 = .ok (.lushr, 1) := by decide +kernel
theorem dJ13_bitCount_95d88_4 : decode cJ13_bitCount_95d88 4 = .ok (.ldc2_w 314, 3) := by decide +kernel
theorem dJ13_bitCount_95d88_7 : decode cJ13_bitCount_95d88 7 = .ok (.land, 1) := by decide +kernel
theorem dJ13_bitCount_95d88_8 : decode cJ13_bitCount_95d88 8 = .ok (.lsub, 1) := by decide +kernel
theorem dJ13_bitCount_95d88_9 : decode cJ13_bitCount_95d88 9 = .ok (.lstore_n 0, 1) := by decide +kernel
theorem dJ13_bitCount_95d88_10 : decode cJ13_bitCount_95d88 10 = .ok (.lload_n 0, 1) := by decide +kernel
theorem dJ13_bitCount_95d88_11 : decode cJ13_bitCount_95d88 11 = .ok (.ldc2_w 316, 3) := by decide +kernel
theorem dJ13_bitCount_95d88_14 : decode cJ13_bitCount_95d88 14 = .ok (.land, 1) := by decide +kernel
theorem dJ13_bitCount_95d88_15 : decode cJ13_bitCount_95d88 15 = .ok (.lload_n 0, 1) := by decide +kernel
theorem dJ13_bitCount_95d88_16 : decode cJ13_bitCount_95d88 16 = .ok (.iconst 2, 1) := by decide +kernel
theorem dJ13_bitCount_95d88_17 : decode cJ13_bitCount_95d88 17 = .ok (.lushr, 1) := by decide +kernel
theorem dJ13_bitCount_95d88_18 : decode cJ13_bitCount_95d88 18 = .ok (.ldc2_w 316, 3) := by decide +kernel
theorem dJ13_bitCount_95d88_21 : decode cJ13_bitCount_95d88 21 = .ok (.land, 1) := by decide +kernel
theorem dJ13_bitCount_95d88_22 : decode cJ13_bitCount_95d88 22 = .ok (.ladd, 1) := by decide +kernel
theorem dJ13_bitCount_95d88_23 : decode cJ13_bitCount_95d88 23 = .ok (.lstore_n 0, 1) := by decide +kernel
theorem dJ13_bitCount_95d88_24 : decode cJ13_bitCount_95d88 24 = .ok (.lload_n 0, 1) := by decide +kernel
theorem dJ13_bitCount_95d88_25 : decode cJ13_bitCount_95d88 25 = .ok (.lload_n 0, 1) := by decide +kernel
theorem dJ13_bitCount_95d88_26 : decode cJ13_bitCount_95d88 26 = .ok (.iconst 4, 1) := by decide +kernel
theorem dJ13_bitCount_95d88_27 : decode cJ13_bitCount_95d88 27 = .ok (.lushr, 1) := by decide +kernel
theorem dJ13_bitCount_95d88_28 : decode cJ13_bitCount_95d88 28 = .ok (.ladd, 1) := by decide +kernel
theorem dJ13_bitCount_95d88_29 : decode cJ13_bitCount_95d88 29 = .ok (.ldc2_w 318, 3) := by decide +kernel
theorem dJ13_bitCount_95d88_32 : decode cJ13_bitCount_95d88 32 = .ok (.land, 1) := by decide +kernel
theorem dJ13_bitCount_95d88_33 : decode cJ13_bitCount_95d88 33 = .ok (.lstore_n 0, 1) := by decide +kernel
theorem dJ13_bitCount_95d88_34 : decode cJ13_bitCount_95d88 34 = .ok (.lload_n 0, 1) := by decide +kernel
theorem dJ13_bitCount_95d88_35 : decode cJ13_bitCount_95d88 35 = .ok (.lload_n 0, 1) := by decide +kernel
theorem dJ13_bitCount_95d88_36 : decode cJ13_bitCount_95d88 36 = .ok (.bipush 8, 2) := by decide +kernel
theorem dJ13_bitCount_95d88_38 : decode cJ13_bitCount_95d88 38 = .ok (.lushr, 1) := by decide +kernel
theorem dJ13_bitCount_95d88_39 : decode cJ13_bitCount_95d88 39 = .ok (.ladd, 1) := by decide +kernel
theorem dJ13_bitCount_95d88_40 : decode cJ13_bitCount_95d88 40 = .ok (.lstore_n 0, 1) := by decide +kernel
theorem dJ13_bitCount_95d88_41 : decode cJ13_bitCount_95d88 41 = .ok (.lload_n 0, 1) := by decide +kernel
theorem dJ13_bitCount_95d88_42 : decode cJ13_bitCount_95d88 42 = .ok (.lload_n 0, 1) := by decide +kernel
theorem dJ13_bitCount_95d88_43 : decode cJ13_bitCount_95d88 43 = .ok (.bipush 16, 2) := by decide +kernel
theorem dJ13_bitCount_95d88_45 : decode cJ13_bitCount_95d88 45 = .ok (.lushr, 1) := by decide +kernel
theorem dJ13_bitCount_95d88_46 : decode cJ13_bitCount_95d88 46 = .ok (.ladd, 1) := by decide +kernel
theorem dJ13_bitCount_95d88_47 : decode cJ13_bitCount_95d88 47 = .ok (.lstore_n 0, 1) := by decide +kernel
theorem dJ13_bitCount_95d88_48 : decode cJ13_bitCount_95d88 48 = .ok (.lload_n 0, 1) := by decide +kernel
theorem dJ13_bitCount_95d88_49 : decode cJ13_bitCount_95d88 49 = .ok (.lload_n 0, 1) := by decide +kernel
theorem dJ13_bitCount_95d88_50 : decode cJ13_bitCount_95d88 50 = .ok (.bipush 32, 2) := by decide +kernel
theorem dJ13_bitCount_95d88_52 : decode cJ13_bitCount_95d88 52 = .ok (.lushr, 1) := by decide +kernel
theorem dJ13_bitCount_95d88_53 : decode cJ13_bitCount_95d88 53 = .ok (.ladd, 1) := by decide +kernel
theorem dJ13_bitCount_95d88_54 : decode cJ13_bitCount_95d88 54 = .ok (.lstore_n 0, 1) := by decide +kernel
theorem dJ13_bitCount_95d88_55 : decode cJ13_bitCount_95d88 55 = .ok (.lload_n 0, 1) := by decide +kernel
theorem dJ13_bitCount_95d88_56 : decode cJ13_bitCount_95d88 56 = .ok (.l2i, 1) := by decide +kernel
theorem dJ13_bitCount_95d88_57 : decode cJ13_bitCount_95d88 57 = .ok (.bipush 127, 2) := by decide +kernel
theorem dJ13_bitCount_95d88_59 : decode cJ13_bitCount_95d88 59 = .ok (.iand, 1) := by decide +kernel
theorem dJ13_bitCount_95d88_60 : decode cJ13_bitCount_95d88 60 = .ok (.ireturn, 1) := by decide +kernel
def fJ13_bitCount_95d88 (y0 : Int64) (μ : JM) : JO (Int32) := some (((((((((((y0 - ((jlushr y0 (1 : Int32)) &&& (6148914691236517205 : Int64))) &&& (3689348814741910323 : Int64)) + ((jlushr (y0 - ((jlushr y0 (1 : Int32)) &&& (6148914691236517205 : Int64))) (2 : Int32)) &&& (3689348814741910323 : Int64))) + (jlushr (((y0 - ((jlushr y0 (1 : Int32)) &&& (6148914691236517205 : Int64))) &&& (3689348814741910323 : Int64)) + ((jlushr (y0 - ((jlushr y0 (1 : Int32)) &&& (6148914691236517205 : Int64))) (2 : Int32)) &&& (3689348814741910323 : Int64))) (4 : Int32))) &&& (1085102592571150095 : Int64)) + (jlushr (((((y0 - ((jlushr y0 (1 : Int32)) &&& (6148914691236517205 : Int64))) &&& (3689348814741910323 : Int64)) + ((jlushr (y0 - ((jlushr y0 (1 : Int32)) &&& (6148914691236517205 : Int64))) (2 : Int32)) &&& (3689348814741910323 : Int64))) + (jlushr (((y0 - ((jlushr y0 (1 : Int32)) &&& (6148914691236517205 : Int64))) &&& (3689348814741910323 : Int64)) + ((jlushr (y0 - ((jlushr y0 (1 : Int32)) &&& (6148914691236517205 : Int64))) (2 : Int32)) &&& (3689348814741910323 : Int64))) (4 : Int32))) &&& (1085102592571150095 : Int64)) (8 : Int32))) + (jlushr ((((((y0 - ((jlushr y0 (1 : Int32)) &&& (6148914691236517205 : Int64))) &&& (3689348814741910323 : Int64)) + ((jlushr (y0 - ((jlushr y0 (1 : Int32)) &&& (6148914691236517205 : Int64))) (2 : Int32)) &&& (3689348814741910323 : Int64))) + (jlushr (((y0 - ((jlushr y0 (1 : Int32)) &&& (6148914691236517205 : Int64))) &&& (3689348814741910323 : Int64)) + ((jlushr (y0 - ((jlushr y0 (1 : Int32)) &&& (6148914691236517205 : Int64))) (2 : Int32)) &&& (3689348814741910323 : Int64))) (4 : Int32))) &&& (1085102592571150095 : Int64)) + (jlushr (((((y0 - ((jlushr y0 (1 : Int32)) &&& (6148914691236517205 : Int64))) &&& (3689348814741910323 : Int64)) + ((jlushr (y0 - ((jlushr y0 (1 : Int32)) &&& (6148914691236517205 : Int64))) (2 : Int32)) &&& (3689348814741910323 : Int64))) + (jlushr (((y0 - ((jlushr y0 (1 : Int32)) &&& (6148914691236517205 : Int64))) &&& (3689348814741910323 : Int64)) + ((jlushr (y0 - ((jlushr y0 (1 : Int32)) &&& (6148914691236517205 : Int64))) (2 : Int32)) &&& (3689348814741910323 : Int64))) (4 : Int32))) &&& (1085102592571150095 : Int64)) (8 : Int32))) (16 : Int32))) + (jlushr (((((((y0 - ((jlushr y0 (1 : Int32)) &&& (6148914691236517205 : Int64))) &&& (3689348814741910323 : Int64)) + ((jlushr (y0 - ((jlushr y0 (1 : Int32)) &&& (6148914691236517205 : Int64))) (2 : Int32)) &&& (3689348814741910323 : Int64))) + (jlushr (((y0 - ((jlushr y0 (1 : Int32)) &&& (6148914691236517205 : Int64))) &&& (3689348814741910323 : Int64)) + ((jlushr (y0 - ((jlushr y0 (1 : Int32)) &&& (6148914691236517205 : Int64))) (2 : Int32)) &&& (3689348814741910323 : Int64))) (4 : Int32))) &&& (1085102592571150095 : Int64)) + (jlushr (((((y0 - ((jlushr y0 (1 : Int32)) &&& (6148914691236517205 : Int64))) &&& (3689348814741910323 : Int64)) + ((jlushr (y0 - ((jlushr y0 (1 : Int32)) &&& (6148914691236517205 : Int64))) (2 : Int32)) &&& (3689348814741910323 : Int64))) + (jlushr (((y0 - ((jlushr y0 (1 : Int32)) &&& (6148914691236517205 : Int64))) &&& (3689348814741910323 : Int64)) + ((jlushr (y0 - ((jlushr y0 (1 : Int32)) &&& (6148914691236517205 : Int64))) (2 : Int32)) &&& (3689348814741910323 : Int64))) (4 : Int32))) &&& (1085102592571150095 : Int64)) (8 : Int32))) + (jlushr ((((((y0 - ((jlushr y0 (1 : Int32)) &&& (6148914691236517205 : Int64))) &&& (3689348814741910323 : Int64)) + ((jlushr (y0 - ((jlushr y0 (1 : Int32)) &&& (6148914691236517205 : Int64))) (2 : Int32)) &&& (3689348814741910323 : Int64))) + (jlushr (((y0 - ((jlushr y0 (1 : Int32)) &&& (6148914691236517205 : Int64))) &&& (3689348814741910323 : Int64)) + ((jlushr (y0 - ((jlushr y0 (1 : Int32)) &&& (6148914691236517205 : Int64))) (2 : Int32)) &&& (3689348814741910323 : Int64))) (4 : Int32))) &&& (1085102592571150095 : Int64)) + (jlushr (((((y0 - ((jlushr y0 (1 : Int32)) &&& (6148914691236517205 : Int64))) &&& (3689348814741910323 : Int64)) + ((jlushr (y0 - ((jlushr y0 (1 : Int32)) &&& (6148914691236517205 : Int64))) (2 : Int32)) &&& (3689348814741910323 : Int64))) + (jlushr (((y0 - ((jlushr y0 (1 : Int32)) &&& (6148914691236517205 : Int64))) &&& (3689348814741910323 : Int64)) + ((jlushr (y0 - ((jlushr y0 (1 : Int32)) &&& (6148914691236517205 : Int64))) (2 : Int32)) &&& (3689348814741910323 : Int64))) (4 : Int32))) &&& (1085102592571150095 : Int64)) (8 : Int32))) (16 : Int32))) (32 : Int32)))).toInt32 &&& (127 : Int32)), μ, 0, 0)
set_option maxHeartbeats 4000000 in
set_option maxRecDepth 100000 in
theorem mJ13_bitCount_95d88 {b : Nat} {y0 : Int64} {μ : JM} {r : Int32} {ν : JM} {c m : Nat} (hf : fJ13_bitCount_95d88 y0 μ = some (r, ν, c, m)) : JMet b yJ13_bitCount_95d88 cJ13_bitCount_95d88 2 (some .int) 0 0 [.long y0] μ (some (.int r)) ν c m := by
  refine JMet.of (by decide) (lg_sl_le (by simp only [List.map_cons, List.map_nil, List.sum_cons, List.sum_nil, va_rf_cat]; exact Nat.le_of_ble_eq_true rfl)) (fun Θ X hin => ?_)
  refine wa_eq (L2 := [(0, .long y0)]) ?_ rfl (by first | rfl | simp [lv_args, va_rf_cat, cat_i, cat_l]) rfl
  obtain ⟨k, hk0⟩ : ∃ k : Nat, k = 0 := ⟨0, rfl⟩
  obtain ⟨n, hn0⟩ : ∃ n : Nat, n = 0 := ⟨0, rfl⟩
  have hk : k + c = c := by omega
  have hn : n + m = m := by omega
  refine wa_costs hk0.symm hn0.symm ?_
  rw [fJ13_bitCount_95d88] at hf
  refine wa_lload_n X 0 dJ13_bitCount_95d88_0 rfl ?_
  refine wa_lload_n X 0 dJ13_bitCount_95d88_1 rfl ?_
  refine wa_iconst (v := (1 : Int32)) X dJ13_bitCount_95d88_2 (by decide) ?_
  refine wa_lushr X dJ13_bitCount_95d88_3 ?_
  refine wa_ldc2 (v := (6148914691236517205 : Int64)) X dJ13_bitCount_95d88_4 lkJ13_314 ?_
  refine wa_land X dJ13_bitCount_95d88_7 ?_
  refine wa_lsub X dJ13_bitCount_95d88_8 ?_
  refine wa_lstore_n (L2 := [(0, .long (y0 - ((jlushr y0 (1 : Int32)) &&& (6148914691236517205 : Int64))))]) X dJ13_bitCount_95d88_9 (by decide) (by first | rfl | (show (0, _) :: List.filter (fun q : Nat × Value => !(q.1 == 0) && (!(q.1 == 1) && !(q.1 + 1 == 0 && q.2.category == 2))) _ = _; simp [va_rf_cat, cat_i, cat_l])) ?_
  refine wa_lload_n X 0 dJ13_bitCount_95d88_10 rfl ?_
  refine wa_ldc2 (v := (3689348814741910323 : Int64)) X dJ13_bitCount_95d88_11 lkJ13_316 ?_
  refine wa_land X dJ13_bitCount_95d88_14 ?_
  refine wa_lload_n X 0 dJ13_bitCount_95d88_15 rfl ?_
  refine wa_iconst (v := (2 : Int32)) X dJ13_bitCount_95d88_16 (by decide) ?_
  refine wa_lushr X dJ13_bitCount_95d88_17 ?_
  refine wa_ldc2 (v := (3689348814741910323 : Int64)) X dJ13_bitCount_95d88_18 lkJ13_316 ?_
  refine wa_land X dJ13_bitCount_95d88_21 ?_
  refine wa_ladd X dJ13_bitCount_95d88_22 ?_
  refine wa_lstore_n (L2 := [(0, .long (((y0 - ((jlushr y0 (1 : Int32)) &&& (6148914691236517205 : Int64))) &&& (3689348814741910323 : Int64)) + ((jlushr (y0 - ((jlushr y0 (1 : Int32)) &&& (6148914691236517205 : Int64))) (2 : Int32)) &&& (3689348814741910323 : Int64))))]) X dJ13_bitCount_95d88_23 (by decide) (by first | rfl | (show (0, _) :: List.filter (fun q : Nat × Value => !(q.1 == 0) && (!(q.1 == 1) && !(q.1 + 1 == 0 && q.2.category == 2))) _ = _; simp [va_rf_cat, cat_i, cat_l])) ?_
  refine wa_lload_n X 0 dJ13_bitCount_95d88_24 rfl ?_
  refine wa_lload_n X 0 dJ13_bitCount_95d88_25 rfl ?_
  refine wa_iconst (v := (4 : Int32)) X dJ13_bitCount_95d88_26 (by decide) ?_
  refine wa_lushr X dJ13_bitCount_95d88_27 ?_
  refine wa_ladd X dJ13_bitCount_95d88_28 ?_
  refine wa_ldc2 (v := (1085102592571150095 : Int64)) X dJ13_bitCount_95d88_29 lkJ13_318 ?_
  refine wa_land X dJ13_bitCount_95d88_32 ?_
  refine wa_lstore_n (L2 := [(0, .long (((((y0 - ((jlushr y0 (1 : Int32)) &&& (6148914691236517205 : Int64))) &&& (3689348814741910323 : Int64)) + ((jlushr (y0 - ((jlushr y0 (1 : Int32)) &&& (6148914691236517205 : Int64))) (2 : Int32)) &&& (3689348814741910323 : Int64))) + (jlushr (((y0 - ((jlushr y0 (1 : Int32)) &&& (6148914691236517205 : Int64))) &&& (3689348814741910323 : Int64)) + ((jlushr (y0 - ((jlushr y0 (1 : Int32)) &&& (6148914691236517205 : Int64))) (2 : Int32)) &&& (3689348814741910323 : Int64))) (4 : Int32))) &&& (1085102592571150095 : Int64)))]) X dJ13_bitCount_95d88_33 (by decide) (by first | rfl | (show (0, _) :: List.filter (fun q : Nat × Value => !(q.1 == 0) && (!(q.1 == 1) && !(q.1 + 1 == 0 && q.2.category == 2))) _ = _; simp [va_rf_cat, cat_i, cat_l])) ?_
  refine wa_lload_n X 0 dJ13_bitCount_95d88_34 rfl ?_
  refine wa_lload_n X 0 dJ13_bitCount_95d88_35 rfl ?_
  refine wa_bipush (v := (8 : Int32)) X dJ13_bitCount_95d88_36 (by decide) ?_
  refine wa_lushr X dJ13_bitCount_95d88_38 ?_
  refine wa_ladd X dJ13_bitCount_95d88_39 ?_
  refine wa_lstore_n (L2 := [(0, .long ((((((y0 - ((jlushr y0 (1 : Int32)) &&& (6148914691236517205 : Int64))) &&& (3689348814741910323 : Int64)) + ((jlushr (y0 - ((jlushr y0 (1 : Int32)) &&& (6148914691236517205 : Int64))) (2 : Int32)) &&& (3689348814741910323 : Int64))) + (jlushr (((y0 - ((jlushr y0 (1 : Int32)) &&& (6148914691236517205 : Int64))) &&& (3689348814741910323 : Int64)) + ((jlushr (y0 - ((jlushr y0 (1 : Int32)) &&& (6148914691236517205 : Int64))) (2 : Int32)) &&& (3689348814741910323 : Int64))) (4 : Int32))) &&& (1085102592571150095 : Int64)) + (jlushr (((((y0 - ((jlushr y0 (1 : Int32)) &&& (6148914691236517205 : Int64))) &&& (3689348814741910323 : Int64)) + ((jlushr (y0 - ((jlushr y0 (1 : Int32)) &&& (6148914691236517205 : Int64))) (2 : Int32)) &&& (3689348814741910323 : Int64))) + (jlushr (((y0 - ((jlushr y0 (1 : Int32)) &&& (6148914691236517205 : Int64))) &&& (3689348814741910323 : Int64)) + ((jlushr (y0 - ((jlushr y0 (1 : Int32)) &&& (6148914691236517205 : Int64))) (2 : Int32)) &&& (3689348814741910323 : Int64))) (4 : Int32))) &&& (1085102592571150095 : Int64)) (8 : Int32))))]) X dJ13_bitCount_95d88_40 (by decide) (by first | rfl | (show (0, _) :: List.filter (fun q : Nat × Value => !(q.1 == 0) && (!(q.1 == 1) && !(q.1 + 1 == 0 && q.2.category == 2))) _ = _; simp [va_rf_cat, cat_i, cat_l])) ?_
  refine wa_lload_n X 0 dJ13_bitCount_95d88_41 rfl ?_
  refine wa_lload_n X 0 dJ13_bitCount_95d88_42 rfl ?_
  refine wa_bipush (v := (16 : Int32)) X dJ13_bitCount_95d88_43 (by decide) ?_
  refine wa_lushr X dJ13_bitCount_95d88_45 ?_
  refine wa_ladd X dJ13_bitCount_95d88_46 ?_
  refine wa_lstore_n (L2 := [(0, .long (((((((y0 - ((jlushr y0 (1 : Int32)) &&& (6148914691236517205 : Int64))) &&& (3689348814741910323 : Int64)) + ((jlushr (y0 - ((jlushr y0 (1 : Int32)) &&& (6148914691236517205 : Int64))) (2 : Int32)) &&& (3689348814741910323 : Int64))) + (jlushr (((y0 - ((jlushr y0 (1 : Int32)) &&& (6148914691236517205 : Int64))) &&& (3689348814741910323 : Int64)) + ((jlushr (y0 - ((jlushr y0 (1 : Int32)) &&& (6148914691236517205 : Int64))) (2 : Int32)) &&& (3689348814741910323 : Int64))) (4 : Int32))) &&& (1085102592571150095 : Int64)) + (jlushr (((((y0 - ((jlushr y0 (1 : Int32)) &&& (6148914691236517205 : Int64))) &&& (3689348814741910323 : Int64)) + ((jlushr (y0 - ((jlushr y0 (1 : Int32)) &&& (6148914691236517205 : Int64))) (2 : Int32)) &&& (3689348814741910323 : Int64))) + (jlushr (((y0 - ((jlushr y0 (1 : Int32)) &&& (6148914691236517205 : Int64))) &&& (3689348814741910323 : Int64)) + ((jlushr (y0 - ((jlushr y0 (1 : Int32)) &&& (6148914691236517205 : Int64))) (2 : Int32)) &&& (3689348814741910323 : Int64))) (4 : Int32))) &&& (1085102592571150095 : Int64)) (8 : Int32))) + (jlushr ((((((y0 - ((jlushr y0 (1 : Int32)) &&& (6148914691236517205 : Int64))) &&& (3689348814741910323 : Int64)) + ((jlushr (y0 - ((jlushr y0 (1 : Int32)) &&& (6148914691236517205 : Int64))) (2 : Int32)) &&& (3689348814741910323 : Int64))) + (jlushr (((y0 - ((jlushr y0 (1 : Int32)) &&& (6148914691236517205 : Int64))) &&& (3689348814741910323 : Int64)) + ((jlushr (y0 - ((jlushr y0 (1 : Int32)) &&& (6148914691236517205 : Int64))) (2 : Int32)) &&& (3689348814741910323 : Int64))) (4 : Int32))) &&& (1085102592571150095 : Int64)) + (jlushr (((((y0 - ((jlushr y0 (1 : Int32)) &&& (6148914691236517205 : Int64))) &&& (3689348814741910323 : Int64)) + ((jlushr (y0 - ((jlushr y0 (1 : Int32)) &&& (6148914691236517205 : Int64))) (2 : Int32)) &&& (3689348814741910323 : Int64))) + (jlushr (((y0 - ((jlushr y0 (1 : Int32)) &&& (6148914691236517205 : Int64))) &&& (3689348814741910323 : Int64)) + ((jlushr (y0 - ((jlushr y0 (1 : Int32)) &&& (6148914691236517205 : Int64))) (2 : Int32)) &&& (3689348814741910323 : Int64))) (4 : Int32))) &&& (1085102592571150095 : Int64)) (8 : Int32))) (16 : Int32))))]) X dJ13_bitCount_95d88_47 (by decide) (by first | rfl | (show (0, _) :: List.filter (fun q : Nat × Value => !(q.1 == 0) && (!(q.1 == 1) && !(q.1 + 1 == 0 && q.2.category == 2))) _ = _; simp [va_rf_cat, cat_i, cat_l])) ?_
  refine wa_lload_n X 0 dJ13_bitCount_95d88_48 rfl ?_
  refine wa_lload_n X 0 dJ13_bitCount_95d88_49 rfl ?_
  refine wa_bipush (v := (32 : Int32)) X dJ13_bitCount_95d88_50 (by decide) ?_
  refine wa_lushr X dJ13_bitCount_95d88_52 ?_
  refine wa_ladd X dJ13_bitCount_95d88_53 ?_
  refine wa_lstore_n (L2 := [(0, .long ((((((((y0 - ((jlushr y0 (1 : Int32)) &&& (6148914691236517205 : Int64))) &&& (3689348814741910323 : Int64)) + ((jlushr (y0 - ((jlushr y0 (1 : Int32)) &&& (6148914691236517205 : Int64))) (2 : Int32)) &&& (3689348814741910323 : Int64))) + (jlushr (((y0 - ((jlushr y0 (1 : Int32)) &&& (6148914691236517205 : Int64))) &&& (3689348814741910323 : Int64)) + ((jlushr (y0 - ((jlushr y0 (1 : Int32)) &&& (6148914691236517205 : Int64))) (2 : Int32)) &&& (3689348814741910323 : Int64))) (4 : Int32))) &&& (1085102592571150095 : Int64)) + (jlushr (((((y0 - ((jlushr y0 (1 : Int32)) &&& (6148914691236517205 : Int64))) &&& (3689348814741910323 : Int64)) + ((jlushr (y0 - ((jlushr y0 (1 : Int32)) &&& (6148914691236517205 : Int64))) (2 : Int32)) &&& (3689348814741910323 : Int64))) + (jlushr (((y0 - ((jlushr y0 (1 : Int32)) &&& (6148914691236517205 : Int64))) &&& (3689348814741910323 : Int64)) + ((jlushr (y0 - ((jlushr y0 (1 : Int32)) &&& (6148914691236517205 : Int64))) (2 : Int32)) &&& (3689348814741910323 : Int64))) (4 : Int32))) &&& (1085102592571150095 : Int64)) (8 : Int32))) + (jlushr ((((((y0 - ((jlushr y0 (1 : Int32)) &&& (6148914691236517205 : Int64))) &&& (3689348814741910323 : Int64)) + ((jlushr (y0 - ((jlushr y0 (1 : Int32)) &&& (6148914691236517205 : Int64))) (2 : Int32)) &&& (3689348814741910323 : Int64))) + (jlushr (((y0 - ((jlushr y0 (1 : Int32)) &&& (6148914691236517205 : Int64))) &&& (3689348814741910323 : Int64)) + ((jlushr (y0 - ((jlushr y0 (1 : Int32)) &&& (6148914691236517205 : Int64))) (2 : Int32)) &&& (3689348814741910323 : Int64))) (4 : Int32))) &&& (1085102592571150095 : Int64)) + (jlushr (((((y0 - ((jlushr y0 (1 : Int32)) &&& (6148914691236517205 : Int64))) &&& (3689348814741910323 : Int64)) + ((jlushr (y0 - ((jlushr y0 (1 : Int32)) &&& (6148914691236517205 : Int64))) (2 : Int32)) &&& (3689348814741910323 : Int64))) + (jlushr (((y0 - ((jlushr y0 (1 : Int32)) &&& (6148914691236517205 : Int64))) &&& (3689348814741910323 : Int64)) + ((jlushr (y0 - ((jlushr y0 (1 : Int32)) &&& (6148914691236517205 : Int64))) (2 : Int32)) &&& (3689348814741910323 : Int64))) (4 : Int32))) &&& (1085102592571150095 : Int64)) (8 : Int32))) (16 : Int32))) + (jlushr (((((((y0 - ((jlushr y0 (1 : Int32)) &&& (6148914691236517205 : Int64))) &&& (3689348814741910323 : Int64)) + ((jlushr (y0 - ((jlushr y0 (1 : Int32)) &&& (6148914691236517205 : Int64))) (2 : Int32)) &&& (3689348814741910323 : Int64))) + (jlushr (((y0 - ((jlushr y0 (1 : Int32)) &&& (6148914691236517205 : Int64))) &&& (3689348814741910323 : Int64)) + ((jlushr (y0 - ((jlushr y0 (1 : Int32)) &&& (6148914691236517205 : Int64))) (2 : Int32)) &&& (3689348814741910323 : Int64))) (4 : Int32))) &&& (1085102592571150095 : Int64)) + (jlushr (((((y0 - ((jlushr y0 (1 : Int32)) &&& (6148914691236517205 : Int64))) &&& (3689348814741910323 : Int64)) + ((jlushr (y0 - ((jlushr y0 (1 : Int32)) &&& (6148914691236517205 : Int64))) (2 : Int32)) &&& (3689348814741910323 : Int64))) + (jlushr (((y0 - ((jlushr y0 (1 : Int32)) &&& (6148914691236517205 : Int64))) &&& (3689348814741910323 : Int64)) + ((jlushr (y0 - ((jlushr y0 (1 : Int32)) &&& (6148914691236517205 : Int64))) (2 : Int32)) &&& (3689348814741910323 : Int64))) (4 : Int32))) &&& (1085102592571150095 : Int64)) (8 : Int32))) + (jlushr ((((((y0 - ((jlushr y0 (1 : Int32)) &&& (6148914691236517205 : Int64))) &&& (3689348814741910323 : Int64)) + ((jlushr (y0 - ((jlushr y0 (1 : Int32)) &&& (6148914691236517205 : Int64))) (2 : Int32)) &&& (3689348814741910323 : Int64))) + (jlushr (((y0 - ((jlushr y0 (1 : Int32)) &&& (6148914691236517205 : Int64))) &&& (3689348814741910323 : Int64)) + ((jlushr (y0 - ((jlushr y0 (1 : Int32)) &&& (6148914691236517205 : Int64))) (2 : Int32)) &&& (3689348814741910323 : Int64))) (4 : Int32))) &&& (1085102592571150095 : Int64)) + (jlushr (((((y0 - ((jlushr y0 (1 : Int32)) &&& (6148914691236517205 : Int64))) &&& (3689348814741910323 : Int64)) + ((jlushr (y0 - ((jlushr y0 (1 : Int32)) &&& (6148914691236517205 : Int64))) (2 : Int32)) &&& (3689348814741910323 : Int64))) + (jlushr (((y0 - ((jlushr y0 (1 : Int32)) &&& (6148914691236517205 : Int64))) &&& (3689348814741910323 : Int64)) + ((jlushr (y0 - ((jlushr y0 (1 : Int32)) &&& (6148914691236517205 : Int64))) (2 : Int32)) &&& (3689348814741910323 : Int64))) (4 : Int32))) &&& (1085102592571150095 : Int64)) (8 : Int32))) (16 : Int32))) (32 : Int32))))]) X dJ13_bitCount_95d88_54 (by decide) (by first | rfl | (show (0, _) :: List.filter (fun q : Nat × Value => !(q.1 == 0) && (!(q.1 == 1) && !(q.1 + 1 == 0 && q.2.category == 2))) _ = _; simp [va_rf_cat, cat_i, cat_l])) ?_
  refine wa_lload_n X 0 dJ13_bitCount_95d88_55 rfl ?_
  refine wa_l2i X dJ13_bitCount_95d88_56 ?_
  refine wa_bipush (v := (127 : Int32)) X dJ13_bitCount_95d88_57 (by decide) ?_
  refine wa_iand X dJ13_bitCount_95d88_59 ?_
  obtain ⟨rfl, rfl, rfl, rfl⟩ := jret hf
  exact wa_iret X dJ13_bitCount_95d88_60 rfl (by omega) (by omega)
theorem dX1_total_0 : decode cX1_total 0 = .ok (.iconst 0, 1) := by decide +kernel
theorem dX1_total_1 : decode cX1_total 1 = .ok (.istore_n 1, 1) := by decide +kernel
theorem dX1_total_2 : decode cX1_total 2 = .ok (.iconst 0, 1) := by decide +kernel
theorem dX1_total_3 : decode cX1_total 3 = .ok (.istore_n 2, 1) := by decide +kernel
theorem dX1_total_4 : decode cX1_total 4 = .ok (.iload_n 2, 1) := by decide +kernel
theorem dX1_total_5 : decode cX1_total 5 = .ok (.iconst 4, 1) := by decide +kernel
theorem dX1_total_6 : decode cX1_total 6 = .ok (.if_icmp .ge 21, 3) := by decide +kernel
theorem dX1_total_9 : decode cX1_total 9 = .ok (.iload_n 1, 1) := by decide +kernel
theorem dX1_total_10 : decode cX1_total 10 = .ok (.aload_n 0, 1) := by decide +kernel
theorem dX1_total_11 : decode cX1_total 11 = .ok (.getfield 11, 3) := by decide +kernel
theorem dX1_total_14 : decode cX1_total 14 = .ok (.iload_n 2, 1) := by decide +kernel
theorem dX1_total_15 : decode cX1_total 15 = .ok (.laload, 1) := by decide +kernel
theorem dX1_total_16 : decode cX1_total 16 = .ok (.invokestatic 26, 3) := by decide +kernel
theorem dX1_total_19 : decode cX1_total 19 = .ok (.iadd, 1) := by decide +kernel
theorem dX1_total_20 : decode cX1_total 20 = .ok (.istore_n 1, 1) := by decide +kernel
theorem dX1_total_21 : decode cX1_total 21 = .ok (.iinc 2 1, 3) := by decide +kernel
theorem dX1_total_24 : decode cX1_total 24 = .ok (.goto (-20), 3) := by decide +kernel
theorem dX1_total_27 : decode cX1_total 27 = .ok (.iload_n 1, 1) := by decide +kernel
theorem dX1_total_28 : decode cX1_total 28 = .ok (.ireturn, 1) := by decide +kernel
def fX1_total_b4 : Nat → Nat → Int32 → Int32 → JM → JO (Int32)
  | 0, _, _, _, _ => none
  | fu + 1, a, x1, x2, μ => if (4 : Int32) ≤ x2 then (some (x1, μ, 0, 0)) else (jck ((jT μ a).1 == 2) <| jde (jP μ a 0) fun q3 => jck ((jT μ q3).1 == 102) <| jck (jin x2 (jT μ q3).2) <| jcl (fJ13_bitCount_95d88 (jJ μ q3 (x2).toNatClampNeg) μ) fun r7 μ8 => fX1_total_b4 fu a (x1 + r7) (x2 + (1 : Int32)) μ8)
set_option maxHeartbeats 4000000 in
set_option maxRecDepth 100000 in
theorem gX1_total_b4 {b : Nat} {Θ : JE} {RC RS : Nat} {r : Int32} {ν : JM} (X : jX b Θ RX1 cX1_total 3 (some .int) 1 21 RC RS) : ∀ (fu : Nat) (a : Nat) (x1 : Int32) (x2 : Int32) (μ : JM) (c m k n : Nat), fX1_total_b4 fu a x1 x2 μ = some (r, ν, c, m) → k + c = RC → n + m = RS → WA b Θ 3 (jE b Θ (some (.int r)) ν RC RS) μ k n 4 [(0, va_rf (some a)), (1, .int x1), (2, .int x2)] [] := by
  intro fu
  induction fu with
  | zero => intro a x1 x2 μ c m k n hf; cases hf
  | succ fu ih =>
    intro a x1 x2 μ c m k n hf hk hn
    rw [fX1_total_b4] at hf
    refine wa_iload_n X 2 dX1_total_4 rfl ?_
    refine wa_iconst (v := (4 : Int32)) X dX1_total_5 (by decide) ?_
    refine wa_icge (tgt := 27) X dX1_total_6 (by decide) (fun h1 => ?_) (fun h1 => ?_)
    · rw [if_pos h1] at hf
      refine wa_iload_n X 1 dX1_total_27 rfl ?_
      obtain ⟨rfl, rfl, rfl, rfl⟩ := jret hf
      exact wa_iret X dX1_total_28 rfl (by omega) (by omega)
    · rw [if_neg h1] at hf
      refine wa_iload_n X 1 dX1_total_9 rfl ?_
      refine wa_aload_n X 0 dX1_total_10 rfl ?_
      obtain ⟨h2, hf⟩ := jckT hf
      refine wa_getP X dX1_total_11 lfX1_11 rfl h2 rfl ?_
      refine wa_iload_n X 2 dX1_total_14 rfl ?_
      obtain ⟨q3, h4, hf⟩ := jde_some hf
      obtain ⟨h5, hf⟩ := jckT hf
      obtain ⟨h6, hf⟩ := jck_some hf
      refine wa_rlald X dX1_total_15 h4 h5 h6 ?_
      obtain ⟨r7, μ8, c9, m10, c11, m12, e13, hf, h14, h15⟩ := jcl_some hf
      refine wa_rcallS (st2 := [.int r7, .int x1]) X dX1_total_16 lmX1_26 lMJ13_bitCount_95d88 (mJ13_bitCount_95d88 e13) rfl rfl rfl (va_cats (Nat.le_of_ble_eq_true rfl)) (by decide) (by omega) (by omega) ?_
      refine wa_iadd X dX1_total_19 ?_
      refine wa_istore_n (L2 := [(1, .int (x1 + r7)), (0, va_rf (some a)), (2, .int x2)]) X dX1_total_20 (by decide) (by first | rfl | (show (1, _) :: List.filter (fun q : Nat × Value => !(q.1 == 1) && !(q.1 + 1 == 1 && q.2.category == 2)) _ = _; simp [va_rf_cat, cat_i, cat_l])) ?_
      refine wa_iinc (v := (x2 + (1 : Int32))) (L2 := [(2, .int (x2 + (1 : Int32))), (1, .int (x1 + r7)), (0, va_rf (some a))]) X 2 dX1_total_21 rfl rfl (by decide) (by first | rfl | simp [va_rf_cat, cat_i, cat_l]) ?_
      refine wa_goto (tgt := 4) X dX1_total_24 (by decide) ?_
      refine wa_sub (L2 := [(0, va_rf (some a)), (1, .int (x1 + r7)), (2, .int (x2 + (1 : Int32)))]) [2, 1, 0] rfl ?_
      exact ih a (x1 + r7) (x2 + (1 : Int32)) μ8 _ _ _ _ hf (by omega) (by omega)
def fX1_total (a : Nat) (μ : JM) : JO (Int32) := fX1_total_b4  jfuel a (0 : Int32) (0 : Int32) μ
set_option maxHeartbeats 4000000 in
set_option maxRecDepth 100000 in
theorem mX1_total {b : Nat} {a : Nat} {μ : JM} {r : Int32} {ν : JM} {c m : Nat} (hf : fX1_total a μ = some (r, ν, c, m)) : JMet b yX1_total cX1_total 3 (some .int) 1 21 [va_rf (some a)] μ (some (.int r)) ν c m := by
  refine JMet.of (by decide) (lg_sl_le (by simp only [List.map_cons, List.map_nil, List.sum_cons, List.sum_nil, va_rf_cat]; exact Nat.le_of_ble_eq_true rfl)) (fun Θ X hin => ?_)
  refine wa_eq (L2 := [(0, va_rf (some a))]) ?_ rfl (by first | rfl | simp [lv_args, va_rf_cat, cat_i, cat_l]) rfl
  obtain ⟨k, hk0⟩ : ∃ k : Nat, k = 0 := ⟨0, rfl⟩
  obtain ⟨n, hn0⟩ : ∃ n : Nat, n = 0 := ⟨0, rfl⟩
  have hk : k + c = c := by omega
  have hn : n + m = m := by omega
  refine wa_costs hk0.symm hn0.symm ?_
  rw [fX1_total] at hf
  refine wa_iconst (v := (0 : Int32)) X dX1_total_0 (by decide) ?_
  refine wa_istore_n (L2 := [(1, .int (0 : Int32)), (0, va_rf (some a))]) X dX1_total_1 (by decide) (by first | rfl | (show (1, _) :: List.filter (fun q : Nat × Value => !(q.1 == 1) && !(q.1 + 1 == 1 && q.2.category == 2)) _ = _; simp [va_rf_cat, cat_i, cat_l])) ?_
  refine wa_iconst (v := (0 : Int32)) X dX1_total_2 (by decide) ?_
  refine wa_istore_n (L2 := [(2, .int (0 : Int32)), (1, .int (0 : Int32)), (0, va_rf (some a))]) X dX1_total_3 (by decide) (by first | rfl | (show (2, _) :: List.filter (fun q : Nat × Value => !(q.1 == 2) && !(q.1 + 1 == 2 && q.2.category == 2)) _ = _; simp [va_rf_cat, cat_i, cat_l])) ?_
  refine wa_sub (L2 := [(0, va_rf (some a)), (1, .int (0 : Int32)), (2, .int (0 : Int32))]) [2, 1, 0] rfl ?_
  exact gX1_total_b4 X jfuel a (0 : Int32) (0 : Int32) μ _ _ _ _ hf (by omega) (by omega)
theorem dX2_init_0 : decode cX2_init 0 = .ok (.aload_n 0, 1) := by decide +kernel
theorem dX2_init_1 : decode cX2_init 1 = .ok (.invokespecial 3, 3) := by decide +kernel
theorem dX2_init_4 : decode cX2_init 4 = .ok (.aload_n 0, 1) := by decide +kernel
theorem dX2_init_5 : decode cX2_init 5 = .ok (.iconst 0, 1) := by decide +kernel
theorem dX2_init_6 : decode cX2_init 6 = .ok (.putfield 9, 3) := by decide +kernel
theorem dX2_init_9 : decode cX2_init 9 = .ok (.aload_n 0, 1) := by decide +kernel
theorem dX2_init_10 : decode cX2_init 10 = .ok (.iconst (-1), 1) := by decide +kernel
theorem dX2_init_11 : decode cX2_init 11 = .ok (.putfield 15, 3) := by decide +kernel
theorem dX2_init_14 : decode cX2_init 14 = .ok (.aload_n 0, 1) := by decide +kernel
theorem dX2_init_15 : decode cX2_init 15 = .ok (.iconst (-1), 1) := by decide +kernel
theorem dX2_init_16 : decode cX2_init 16 = .ok (.putfield 18, 3) := by decide +kernel
theorem dX2_init_19 : decode cX2_init 19 = .ok (.aload_n 0, 1) := by decide +kernel
theorem dX2_init_20 : decode cX2_init 20 = .ok (.iconst (-1), 1) := by decide +kernel
theorem dX2_init_21 : decode cX2_init 21 = .ok (.putfield 21, 3) := by decide +kernel
theorem dX2_init_24 : decode cX2_init 24 = .ok (.aload_n 0, 1) := by decide +kernel
theorem dX2_init_25 : decode cX2_init 25 = .ok (.iconst (-1), 1) := by decide +kernel
theorem dX2_init_26 : decode cX2_init 26 = .ok (.putfield 24, 3) := by decide +kernel
theorem dX2_init_29 : decode cX2_init 29 = .ok (.aload_n 0, 1) := by decide +kernel
theorem dX2_init_30 : decode cX2_init 30 = .ok (.new 27, 3) := by decide +kernel
theorem dX2_init_33 : decode cX2_init 33 = .ok (.dup, 1) := by decide +kernel
theorem dX2_init_34 : decode cX2_init 34 = .ok (.invokespecial 29, 3) := by decide +kernel
theorem dX2_init_37 : decode cX2_init 37 = .ok (.putfield 30, 3) := by decide +kernel
theorem dX2_init_40 : decode cX2_init 40 = .ok (.return_, 1) := by decide +kernel
def fX2_init (a : Nat) (μ : JM) : JO (Unit) := jck ((jT μ a).1 == 3) <| jlt (jsI μ a 0 (0 : Int32)) fun μ2 => jlt (jsI μ2 a 2 (-1 : Int32)) fun μ5 => jlt (jsI μ5 a 3 (-1 : Int32)) fun μ8 => jlt (jsI μ8 a 4 (-1 : Int32)) fun μ11 => jlt (jsI μ11 a 5 (-1 : Int32)) fun μ14 => jnwo μ14 2 1 fun q17 μ18 => jcl (fX1_init q17 μ18) fun u26 μ27 => jck ((jT μ27 a).1 == 3) <| jlt (jsP μ27 a 8 (some q17)) fun μ36 => some ((), μ36, 0, 0)
set_option maxHeartbeats 4000000 in
set_option maxRecDepth 100000 in
theorem mX2_init {b : Nat} {a : Nat} {μ : JM} {r : Unit} {ν : JM} {c m : Nat} (hf : fX2_init a μ = some (r, ν, c, m)) : JMet b yX2_init cX2_init 1 none 2 40 [va_rf (some a)] μ (none) ν c m := by
  refine JMet.of (by decide) (lg_sl_le (by simp only [List.map_cons, List.map_nil, List.sum_cons, List.sum_nil, va_rf_cat]; exact Nat.le_of_ble_eq_true rfl)) (fun Θ X hin => ?_)
  have hin := hin rfl
  refine wa_eq (L2 := [(0, va_rf (some a))]) ?_ rfl (by first | rfl | simp [lv_args, va_rf_cat, cat_i, cat_l]) rfl
  obtain ⟨k, hk0⟩ : ∃ k : Nat, k = 0 := ⟨0, rfl⟩
  obtain ⟨n, hn0⟩ : ∃ n : Nat, n = 0 := ⟨0, rfl⟩
  have hk : k + c = c := by omega
  have hn : n + m = m := by omega
  refine wa_costs hk0.symm hn0.symm ?_
  rw [fX2_init] at hf
  refine wa_aload_n X 0 dX2_init_0 rfl ?_
  refine wa_robj X dX2_init_1 lmX2_3 lo_inst lo_code (by decide) (Nat.le_trans (Nat.add_le_add_right (va_cats (m := 8) (Nat.le_of_ble_eq_true rfl)) 12) (by decide)) rfl ?_
  refine wa_aload_n X 0 dX2_init_4 rfl ?_
  refine wa_iconst (v := (0 : Int32)) X dX2_init_5 (by decide) ?_
  obtain ⟨h1, hf⟩ := jckT hf
  obtain ⟨μ2, hm3, hf⟩ := jlt_e hf
  have e4 : jT μ2 = jT μ := by rw [hm3]; rfl
  refine wa_rputI (ν := μ2) X dX2_init_6 lfX2_9 rfl h1 rfl rfl hm3 ?_
  refine wa_aload_n X 0 dX2_init_9 rfl ?_
  refine wa_iconst (v := (-1 : Int32)) X dX2_init_10 (by decide) ?_
  obtain ⟨μ5, hm6, hf⟩ := jlt_e hf
  have e7 : jT μ5 = jT μ := by rw [hm6]; exact e4
  refine wa_rputI (ν := μ5) X dX2_init_11 lfX2_15 rfl (by rw [e4]; exact h1) rfl rfl hm6 ?_
  refine wa_aload_n X 0 dX2_init_14 rfl ?_
  refine wa_iconst (v := (-1 : Int32)) X dX2_init_15 (by decide) ?_
  obtain ⟨μ8, hm9, hf⟩ := jlt_e hf
  have e10 : jT μ8 = jT μ := by rw [hm9]; exact e7
  refine wa_rputI (ν := μ8) X dX2_init_16 lfX2_18 rfl (by rw [e7]; exact h1) rfl rfl hm9 ?_
  refine wa_aload_n X 0 dX2_init_19 rfl ?_
  refine wa_iconst (v := (-1 : Int32)) X dX2_init_20 (by decide) ?_
  obtain ⟨μ11, hm12, hf⟩ := jlt_e hf
  have e13 : jT μ11 = jT μ := by rw [hm12]; exact e10
  refine wa_rputI (ν := μ11) X dX2_init_21 lfX2_21 rfl (by rw [e10]; exact h1) rfl rfl hm12 ?_
  refine wa_aload_n X 0 dX2_init_24 rfl ?_
  refine wa_iconst (v := (-1 : Int32)) X dX2_init_25 (by decide) ?_
  obtain ⟨μ14, hm15, hf⟩ := jlt_e hf
  have e16 : jT μ14 = jT μ := by rw [hm15]; exact e13
  refine wa_rputI (ν := μ14) X dX2_init_26 lfX2_24 rfl (by rw [e13]; exact h1) rfl rfl hm15 ?_
  refine wa_aload_n X 0 dX2_init_29 rfl ?_
  obtain ⟨q17, μ18, c21, m22, h19, hm20, hf, h23, h24⟩ := jnwo_some hf
  refine wa_new (t := 2) (N := 1) X dX2_init_30 (by decide) rfl lcX2_27 li_RX1 ln_RX1 (by omega) (by omega) ?_
  rw [← h19, ← hm20]
  have h25 : (jT μ18 q17).1 = 2 := by rw [jT_at h19 hm20]
  refine wa_dup X dX2_init_33 (va_rf_cat _) ?_
  obtain ⟨u26, μ27, c28, m29, c30, m31, e32, hf, h33, h34⟩ := jcl_some hf
  refine wa_rcallI (st2 := [va_rf (some q17), va_rf (some a)]) X dX2_init_34 lmX2_29 lMX1_init rfl (mX1_init e32) rfl rfl rfl (va_cats (Nat.le_of_ble_eq_true rfl)) (by decide) (by omega) (by omega) ?_
  obtain ⟨h35, hf⟩ := jckT hf
  obtain ⟨μ36, hm37, hf⟩ := jlt_e hf
  have e38 : jT μ36 = jT μ27 := by rw [hm37]; rfl
  refine wa_rputFP (ν := μ36) X hin dX2_init_37 lfX2_30 rfl h35 (by first | exact Or.inl ⟨_, rfl⟩ | exact Or.inr ⟨_, rfl⟩) rfl rfl hm37 ?_
  obtain ⟨rfl, rfl, rfl, rfl⟩ := jret hf
  exact wa_vret X dX2_init_40 (by omega) (by omega)
theorem dX2_isDefine_0 : decode cX2_isDefine 0 = .ok (.aload_n 0, 1) := by decide +kernel
theorem dX2_isDefine_1 : decode cX2_isDefine 1 = .ok (.getfield 9, 3) := by decide +kernel
theorem dX2_isDefine_4 : decode cX2_isDefine 4 = .ok (.ifCond .ne 7, 3) := by decide +kernel
theorem dX2_isDefine_7 : decode cX2_isDefine 7 = .ok (.iconst 1, 1) := by decide +kernel
theorem dX2_isDefine_8 : decode cX2_isDefine 8 = .ok (.goto 4, 3) := by decide +kernel
theorem dX2_isDefine_11 : decode cX2_isDefine 11 = .ok (.iconst 0, 1) := by decide +kernel
theorem dX2_isDefine_12 : decode cX2_isDefine 12 = .ok (.ireturn, 1) := by decide +kernel
def fX2_isDefine (a : Nat) (μ : JM) : JO (Int32) := jck ((jT μ a).1 == 3) <| if (jI μ a 0) = 0 then (some ((1 : Int32), μ, 0, 0)) else (some ((0 : Int32), μ, 0, 0))
set_option maxHeartbeats 4000000 in
set_option maxRecDepth 100000 in
theorem mX2_isDefine {b : Nat} {a : Nat} {μ : JM} {r : Int32} {ν : JM} {c m : Nat} (hf : fX2_isDefine a μ = some (r, ν, c, m)) : JMet b yX2_isDefine cX2_isDefine 1 (some .boolean) 0 0 [va_rf (some a)] μ (some (.int r)) ν c m := by
  refine JMet.of (by decide) (lg_sl_le (by simp only [List.map_cons, List.map_nil, List.sum_cons, List.sum_nil, va_rf_cat]; exact Nat.le_of_ble_eq_true rfl)) (fun Θ X hin => ?_)
  refine wa_eq (L2 := [(0, va_rf (some a))]) ?_ rfl (by first | rfl | simp [lv_args, va_rf_cat, cat_i, cat_l]) rfl
  obtain ⟨k, hk0⟩ : ∃ k : Nat, k = 0 := ⟨0, rfl⟩
  obtain ⟨n, hn0⟩ : ∃ n : Nat, n = 0 := ⟨0, rfl⟩
  have hk : k + c = c := by omega
  have hn : n + m = m := by omega
  refine wa_costs hk0.symm hn0.symm ?_
  rw [fX2_isDefine] at hf
  refine wa_aload_n X 0 dX2_isDefine_0 rfl ?_
  obtain ⟨h1, hf⟩ := jckT hf
  refine wa_getI X dX2_isDefine_1 lfX2_9 rfl h1 rfl ?_
  refine wa_ifne (tgt := 11) X dX2_isDefine_4 (by decide) (fun h2 => ?_) (fun h2 => ?_)
  · rw [if_neg h2] at hf
    refine wa_iconst (v := (0 : Int32)) X dX2_isDefine_11 (by decide) ?_
    obtain ⟨rfl, rfl, rfl, rfl⟩ := jret hf
    exact wa_iret X dX2_isDefine_12 rfl (by omega) (by omega)
  · rw [if_pos h2] at hf
    refine wa_iconst (v := (1 : Int32)) X dX2_isDefine_7 (by decide) ?_
    refine wa_goto (tgt := 12) X dX2_isDefine_8 (by decide) ?_
    obtain ⟨rfl, rfl, rfl, rfl⟩ := jret hf
    exact wa_iret X dX2_isDefine_12 rfl (by omega) (by omega)
theorem dX2_key_0 : decode cX2_key 0 = .ok (.aload_n 0, 1) := by decide +kernel
theorem dX2_key_1 : decode cX2_key 1 = .ok (.getfield 9, 3) := by decide +kernel
theorem dX2_key_4 : decode cX2_key 4 = .ok (.iconst 1, 1) := by decide +kernel
theorem dX2_key_5 : decode cX2_key 5 = .ok (.if_icmp .ne 17, 3) := by decide +kernel
theorem dX2_key_8 : decode cX2_key 8 = .ok (.aload_n 0, 1) := by decide +kernel
theorem dX2_key_9 : decode cX2_key 9 = .ok (.getfield 21, 3) := by decide +kernel
theorem dX2_key_12 : decode cX2_key 12 = .ok (.iconst 1, 1) := by decide +kernel
theorem dX2_key_13 : decode cX2_key 13 = .ok (.ishl, 1) := by decide +kernel
theorem dX2_key_14 : decode cX2_key 14 = .ok (.aload_n 0, 1) := by decide +kernel
theorem dX2_key_15 : decode cX2_key 15 = .ok (.getfield 24, 3) := by decide +kernel
theorem dX2_key_18 : decode cX2_key 18 = .ok (.ior, 1) := by decide +kernel
theorem dX2_key_19 : decode cX2_key 19 = .ok (.goto 4, 3) := by decide +kernel
theorem dX2_key_22 : decode cX2_key 22 = .ok (.iconst 0, 1) := by decide +kernel
theorem dX2_key_23 : decode cX2_key 23 = .ok (.istore_n 1, 1) := by decide +kernel
theorem dX2_key_24 : decode cX2_key 24 = .ok (.aload_n 0, 1) := by decide +kernel
theorem dX2_key_25 : decode cX2_key 25 = .ok (.getfield 9, 3) := by decide +kernel
theorem dX2_key_28 : decode cX2_key 28 = .ok (.bipush 17, 2) := by decide +kernel
theorem dX2_key_30 : decode cX2_key 30 = .ok (.ishl, 1) := by decide +kernel
theorem dX2_key_31 : decode cX2_key 31 = .ok (.aload_n 0, 1) := by decide +kernel
theorem dX2_key_32 : decode cX2_key 32 = .ok (.getfield 15, 3) := by decide +kernel
theorem dX2_key_35 : decode cX2_key 35 = .ok (.bipush 14, 2) := by decide +kernel
theorem dX2_key_37 : decode cX2_key 37 = .ok (.ishl, 1) := by decide +kernel
theorem dX2_key_38 : decode cX2_key 38 = .ok (.ior, 1) := by decide +kernel
theorem dX2_key_39 : decode cX2_key 39 = .ok (.aload_n 0, 1) := by decide +kernel
theorem dX2_key_40 : decode cX2_key 40 = .ok (.getfield 18, 3) := by decide +kernel
theorem dX2_key_43 : decode cX2_key 43 = .ok (.bipush 10, 2) := by decide +kernel
theorem dX2_key_45 : decode cX2_key 45 = .ok (.ishl, 1) := by decide +kernel
theorem dX2_key_46 : decode cX2_key 46 = .ok (.ior, 1) := by decide +kernel
theorem dX2_key_47 : decode cX2_key 47 = .ok (.iload_n 1, 1) := by decide +kernel
theorem dX2_key_48 : decode cX2_key 48 = .ok (.ior, 1) := by decide +kernel
theorem dX2_key_49 : decode cX2_key 49 = .ok (.ireturn, 1) := by decide +kernel
def fX2_key_b23 (a : Nat) (s0 : Int32) (μ : JM) : JO (Int32) := jck ((jT μ a).1 == 3) <| some (((((jshl (jI μ a 0) (17 : Int32)) ||| (jshl (jI μ a 2) (14 : Int32))) ||| (jshl (jI μ a 3) (10 : Int32))) ||| s0), μ, 0, 0)
set_option maxHeartbeats 4000000 in
set_option maxRecDepth 100000 in
theorem gX2_key_b23 {b : Nat} {Θ : JE} {RC RS : Nat} {r : Int32} {ν : JM} (X : jX b Θ RX2 cX2_key 2 (some .int) 0 0 RC RS) (a : Nat) (s0 : Int32) (μ : JM) (c m k n : Nat) (hf : fX2_key_b23 a s0 μ = some (r, ν, c, m)) (hk : k + c = RC) (hn : n + m = RS) : WA b Θ 2 (jE b Θ (some (.int r)) ν RC RS) μ k n 23 [(0, va_rf (some a))] [.int s0] := by
  rw [fX2_key_b23] at hf
  refine wa_istore_n (L2 := [(1, .int s0), (0, va_rf (some a))]) X dX2_key_23 (by decide) (by first | rfl | (show (1, _) :: List.filter (fun q : Nat × Value => !(q.1 == 1) && !(q.1 + 1 == 1 && q.2.category == 2)) _ = _; simp [va_rf_cat, cat_i, cat_l])) ?_
  refine wa_aload_n X 1 dX2_key_24 rfl ?_
  obtain ⟨h3, hf⟩ := jckT hf
  refine wa_getI X dX2_key_25 lfX2_9 rfl h3 rfl ?_
  refine wa_bipush (v := (17 : Int32)) X dX2_key_28 (by decide) ?_
  refine wa_ishl X dX2_key_30 ?_
  refine wa_aload_n X 1 dX2_key_31 rfl ?_
  refine wa_getI X dX2_key_32 lfX2_15 rfl h3 rfl ?_
  refine wa_bipush (v := (14 : Int32)) X dX2_key_35 (by decide) ?_
  refine wa_ishl X dX2_key_37 ?_
  refine wa_ior X dX2_key_38 ?_
  refine wa_aload_n X 1 dX2_key_39 rfl ?_
  refine wa_getI X dX2_key_40 lfX2_18 rfl h3 rfl ?_
  refine wa_bipush (v := (10 : Int32)) X dX2_key_43 (by decide) ?_
  refine wa_ishl X dX2_key_45 ?_
  refine wa_ior X dX2_key_46 ?_
  refine wa_iload_n X 0 dX2_key_47 rfl ?_
  refine wa_ior X dX2_key_48 ?_
  obtain ⟨rfl, rfl, rfl, rfl⟩ := jret hf
  exact wa_iret X dX2_key_49 rfl (by omega) (by omega)
def fX2_key (a : Nat) (μ : JM) : JO (Int32) := jck ((jT μ a).1 == 3) <| if (jI μ a 0) = (1 : Int32) then (fX2_key_b23  a ((jshl (jI μ a 4) (1 : Int32)) ||| (jI μ a 5)) μ) else (fX2_key_b23  a (0 : Int32) μ)
set_option maxHeartbeats 4000000 in
set_option maxRecDepth 100000 in
theorem mX2_key {b : Nat} {a : Nat} {μ : JM} {r : Int32} {ν : JM} {c m : Nat} (hf : fX2_key a μ = some (r, ν, c, m)) : JMet b yX2_key cX2_key 2 (some .int) 0 0 [va_rf (some a)] μ (some (.int r)) ν c m := by
  refine JMet.of (by decide) (lg_sl_le (by simp only [List.map_cons, List.map_nil, List.sum_cons, List.sum_nil, va_rf_cat]; exact Nat.le_of_ble_eq_true rfl)) (fun Θ X hin => ?_)
  refine wa_eq (L2 := [(0, va_rf (some a))]) ?_ rfl (by first | rfl | simp [lv_args, va_rf_cat, cat_i, cat_l]) rfl
  obtain ⟨k, hk0⟩ : ∃ k : Nat, k = 0 := ⟨0, rfl⟩
  obtain ⟨n, hn0⟩ : ∃ n : Nat, n = 0 := ⟨0, rfl⟩
  have hk : k + c = c := by omega
  have hn : n + m = m := by omega
  refine wa_costs hk0.symm hn0.symm ?_
  rw [fX2_key] at hf
  refine wa_aload_n X 0 dX2_key_0 rfl ?_
  obtain ⟨h1, hf⟩ := jckT hf
  refine wa_getI X dX2_key_1 lfX2_9 rfl h1 rfl ?_
  refine wa_iconst (v := (1 : Int32)) X dX2_key_4 (by decide) ?_
  refine wa_icne (tgt := 22) X dX2_key_5 (by decide) (fun h2 => ?_) (fun h2 => ?_)
  · rw [if_neg h2] at hf
    refine wa_iconst (v := (0 : Int32)) X dX2_key_22 (by decide) ?_
    refine wa_sub (L2 := [(0, va_rf (some a))]) [0] rfl ?_
    exact gX2_key_b23 X a (0 : Int32) μ _ _ _ _ hf (by omega) (by omega)
  · rw [if_pos h2] at hf
    refine wa_aload_n X 0 dX2_key_8 rfl ?_
    refine wa_getI X dX2_key_9 lfX2_21 rfl h1 rfl ?_
    refine wa_iconst (v := (1 : Int32)) X dX2_key_12 (by decide) ?_
    refine wa_ishl X dX2_key_13 ?_
    refine wa_aload_n X 0 dX2_key_14 rfl ?_
    refine wa_getI X dX2_key_15 lfX2_24 rfl h1 rfl ?_
    refine wa_ior X dX2_key_18 ?_
    refine wa_goto (tgt := 23) X dX2_key_19 (by decide) ?_
    refine wa_sub (L2 := [(0, va_rf (some a))]) [0] rfl ?_
    exact gX2_key_b23 X a ((jshl (jI μ a 4) (1 : Int32)) ||| (jI μ a 5)) μ _ _ _ _ hf (by omega) (by omega)
theorem dX2_keyKind_0 : decode cX2_keyKind 0 = .ok (.iload_n 0, 1) := by decide +kernel
theorem dX2_keyKind_1 : decode cX2_keyKind 1 = .ok (.bipush 17, 2) := by decide +kernel
theorem dX2_keyKind_3 : decode cX2_keyKind 3 = .ok (.ishr, 1) := by decide +kernel
theorem dX2_keyKind_4 : decode cX2_keyKind 4 = .ok (.ireturn, 1) := by decide +kernel
def fX2_keyKind (x0 : Int32) (μ : JM) : JO (Int32) := some ((jshr x0 (17 : Int32)), μ, 0, 0)
set_option maxHeartbeats 4000000 in
set_option maxRecDepth 100000 in
theorem mX2_keyKind {b : Nat} {x0 : Int32} {μ : JM} {r : Int32} {ν : JM} {c m : Nat} (hf : fX2_keyKind x0 μ = some (r, ν, c, m)) : JMet b yX2_keyKind cX2_keyKind 1 (some .int) 0 0 [.int x0] μ (some (.int r)) ν c m := by
  refine JMet.of (by decide) (lg_sl_le (by simp only [List.map_cons, List.map_nil, List.sum_cons, List.sum_nil, va_rf_cat]; exact Nat.le_of_ble_eq_true rfl)) (fun Θ X hin => ?_)
  refine wa_eq (L2 := [(0, .int x0)]) ?_ rfl (by first | rfl | simp [lv_args, va_rf_cat, cat_i, cat_l]) rfl
  obtain ⟨k, hk0⟩ : ∃ k : Nat, k = 0 := ⟨0, rfl⟩
  obtain ⟨n, hn0⟩ : ∃ n : Nat, n = 0 := ⟨0, rfl⟩
  have hk : k + c = c := by omega
  have hn : n + m = m := by omega
  refine wa_costs hk0.symm hn0.symm ?_
  rw [fX2_keyKind] at hf
  refine wa_iload_n X 0 dX2_keyKind_0 rfl ?_
  refine wa_bipush (v := (17 : Int32)) X dX2_keyKind_1 (by decide) ?_
  refine wa_ishr X dX2_keyKind_3 ?_
  obtain ⟨rfl, rfl, rfl, rfl⟩ := jret hf
  exact wa_iret X dX2_keyKind_4 rfl (by omega) (by omega)
theorem dX2_keyParty_0 : decode cX2_keyParty 0 = .ok (.iload_n 0, 1) := by decide +kernel
theorem dX2_keyParty_1 : decode cX2_keyParty 1 = .ok (.bipush 14, 2) := by decide +kernel
theorem dX2_keyParty_3 : decode cX2_keyParty 3 = .ok (.ishr, 1) := by decide +kernel
theorem dX2_keyParty_4 : decode cX2_keyParty 4 = .ok (.bipush 7, 2) := by decide +kernel
theorem dX2_keyParty_6 : decode cX2_keyParty 6 = .ok (.iand, 1) := by decide +kernel
theorem dX2_keyParty_7 : decode cX2_keyParty 7 = .ok (.ireturn, 1) := by decide +kernel
def fX2_keyParty (x0 : Int32) (μ : JM) : JO (Int32) := some (((jshr x0 (14 : Int32)) &&& (7 : Int32)), μ, 0, 0)
set_option maxHeartbeats 4000000 in
set_option maxRecDepth 100000 in
theorem mX2_keyParty {b : Nat} {x0 : Int32} {μ : JM} {r : Int32} {ν : JM} {c m : Nat} (hf : fX2_keyParty x0 μ = some (r, ν, c, m)) : JMet b yX2_keyParty cX2_keyParty 1 (some .int) 0 0 [.int x0] μ (some (.int r)) ν c m := by
  refine JMet.of (by decide) (lg_sl_le (by simp only [List.map_cons, List.map_nil, List.sum_cons, List.sum_nil, va_rf_cat]; exact Nat.le_of_ble_eq_true rfl)) (fun Θ X hin => ?_)
  refine wa_eq (L2 := [(0, .int x0)]) ?_ rfl (by first | rfl | simp [lv_args, va_rf_cat, cat_i, cat_l]) rfl
  obtain ⟨k, hk0⟩ : ∃ k : Nat, k = 0 := ⟨0, rfl⟩
  obtain ⟨n, hn0⟩ : ∃ n : Nat, n = 0 := ⟨0, rfl⟩
  have hk : k + c = c := by omega
  have hn : n + m = m := by omega
  refine wa_costs hk0.symm hn0.symm ?_
  rw [fX2_keyParty] at hf
  refine wa_iload_n X 0 dX2_keyParty_0 rfl ?_
  refine wa_bipush (v := (14 : Int32)) X dX2_keyParty_1 (by decide) ?_
  refine wa_ishr X dX2_keyParty_3 ?_
  refine wa_bipush (v := (7 : Int32)) X dX2_keyParty_4 (by decide) ?_
  refine wa_iand X dX2_keyParty_6 ?_
  obtain ⟨rfl, rfl, rfl, rfl⟩ := jret hf
  exact wa_iret X dX2_keyParty_7 rfl (by omega) (by omega)
theorem dX2_keyAct_0 : decode cX2_keyAct 0 = .ok (.iload_n 0, 1) := by decide +kernel
theorem dX2_keyAct_1 : decode cX2_keyAct 1 = .ok (.bipush 10, 2) := by decide +kernel
theorem dX2_keyAct_3 : decode cX2_keyAct 3 = .ok (.ishr, 1) := by decide +kernel
theorem dX2_keyAct_4 : decode cX2_keyAct 4 = .ok (.bipush 15, 2) := by decide +kernel
theorem dX2_keyAct_6 : decode cX2_keyAct 6 = .ok (.iand, 1) := by decide +kernel
theorem dX2_keyAct_7 : decode cX2_keyAct 7 = .ok (.ireturn, 1) := by decide +kernel
def fX2_keyAct (x0 : Int32) (μ : JM) : JO (Int32) := some (((jshr x0 (10 : Int32)) &&& (15 : Int32)), μ, 0, 0)
set_option maxHeartbeats 4000000 in
set_option maxRecDepth 100000 in
theorem mX2_keyAct {b : Nat} {x0 : Int32} {μ : JM} {r : Int32} {ν : JM} {c m : Nat} (hf : fX2_keyAct x0 μ = some (r, ν, c, m)) : JMet b yX2_keyAct cX2_keyAct 1 (some .int) 0 0 [.int x0] μ (some (.int r)) ν c m := by
  refine JMet.of (by decide) (lg_sl_le (by simp only [List.map_cons, List.map_nil, List.sum_cons, List.sum_nil, va_rf_cat]; exact Nat.le_of_ble_eq_true rfl)) (fun Θ X hin => ?_)
  refine wa_eq (L2 := [(0, .int x0)]) ?_ rfl (by first | rfl | simp [lv_args, va_rf_cat, cat_i, cat_l]) rfl
  obtain ⟨k, hk0⟩ : ∃ k : Nat, k = 0 := ⟨0, rfl⟩
  obtain ⟨n, hn0⟩ : ∃ n : Nat, n = 0 := ⟨0, rfl⟩
  have hk : k + c = c := by omega
  have hn : n + m = m := by omega
  refine wa_costs hk0.symm hn0.symm ?_
  rw [fX2_keyAct] at hf
  refine wa_iload_n X 0 dX2_keyAct_0 rfl ?_
  refine wa_bipush (v := (10 : Int32)) X dX2_keyAct_1 (by decide) ?_
  refine wa_ishr X dX2_keyAct_3 ?_
  refine wa_bipush (v := (15 : Int32)) X dX2_keyAct_4 (by decide) ?_
  refine wa_iand X dX2_keyAct_6 ?_
  obtain ⟨rfl, rfl, rfl, rfl⟩ := jret hf
  exact wa_iret X dX2_keyAct_7 rfl (by omega) (by omega)
theorem dX2_keyNumber_0 : decode cX2_keyNumber 0 = .ok (.iload_n 0, 1) := by decide +kernel
theorem dX2_keyNumber_1 : decode cX2_keyNumber 1 = .ok (.iconst 1, 1) := by decide +kernel
theorem dX2_keyNumber_2 : decode cX2_keyNumber 2 = .ok (.ishr, 1) := by decide +kernel
theorem dX2_keyNumber_3 : decode cX2_keyNumber 3 = .ok (.sipush 511, 3) := by decide +kernel
theorem dX2_keyNumber_6 : decode cX2_keyNumber 6 = .ok (.iand, 1) := by decide +kernel
theorem dX2_keyNumber_7 : decode cX2_keyNumber 7 = .ok (.ireturn, 1) := by decide +kernel
def fX2_keyNumber (x0 : Int32) (μ : JM) : JO (Int32) := some (((jshr x0 (1 : Int32)) &&& (511 : Int32)), μ, 0, 0)
set_option maxHeartbeats 4000000 in
set_option maxRecDepth 100000 in
theorem mX2_keyNumber {b : Nat} {x0 : Int32} {μ : JM} {r : Int32} {ν : JM} {c m : Nat} (hf : fX2_keyNumber x0 μ = some (r, ν, c, m)) : JMet b yX2_keyNumber cX2_keyNumber 1 (some .int) 0 0 [.int x0] μ (some (.int r)) ν c m := by
  refine JMet.of (by decide) (lg_sl_le (by simp only [List.map_cons, List.map_nil, List.sum_cons, List.sum_nil, va_rf_cat]; exact Nat.le_of_ble_eq_true rfl)) (fun Θ X hin => ?_)
  refine wa_eq (L2 := [(0, .int x0)]) ?_ rfl (by first | rfl | simp [lv_args, va_rf_cat, cat_i, cat_l]) rfl
  obtain ⟨k, hk0⟩ : ∃ k : Nat, k = 0 := ⟨0, rfl⟩
  obtain ⟨n, hn0⟩ : ∃ n : Nat, n = 0 := ⟨0, rfl⟩
  have hk : k + c = c := by omega
  have hn : n + m = m := by omega
  refine wa_costs hk0.symm hn0.symm ?_
  rw [fX2_keyNumber] at hf
  refine wa_iload_n X 0 dX2_keyNumber_0 rfl ?_
  refine wa_iconst (v := (1 : Int32)) X dX2_keyNumber_1 (by decide) ?_
  refine wa_ishr X dX2_keyNumber_2 ?_
  refine wa_sipush (v := (511 : Int32)) X dX2_keyNumber_3 (by decide) ?_
  refine wa_iand X dX2_keyNumber_6 ?_
  obtain ⟨rfl, rfl, rfl, rfl⟩ := jret hf
  exact wa_iret X dX2_keyNumber_7 rfl (by omega) (by omega)
theorem dX2_keyWorkdays_0 : decode cX2_keyWorkdays 0 = .ok (.iload_n 0, 1) := by decide +kernel
theorem dX2_keyWorkdays_1 : decode cX2_keyWorkdays 1 = .ok (.iconst 1, 1) := by decide +kernel
theorem dX2_keyWorkdays_2 : decode cX2_keyWorkdays 2 = .ok (.iand, 1) := by decide +kernel
theorem dX2_keyWorkdays_3 : decode cX2_keyWorkdays 3 = .ok (.ireturn, 1) := by decide +kernel
def fX2_keyWorkdays (x0 : Int32) (μ : JM) : JO (Int32) := some ((x0 &&& (1 : Int32)), μ, 0, 0)
set_option maxHeartbeats 4000000 in
set_option maxRecDepth 100000 in
theorem mX2_keyWorkdays {b : Nat} {x0 : Int32} {μ : JM} {r : Int32} {ν : JM} {c m : Nat} (hf : fX2_keyWorkdays x0 μ = some (r, ν, c, m)) : JMet b yX2_keyWorkdays cX2_keyWorkdays 1 (some .int) 0 0 [.int x0] μ (some (.int r)) ν c m := by
  refine JMet.of (by decide) (lg_sl_le (by simp only [List.map_cons, List.map_nil, List.sum_cons, List.sum_nil, va_rf_cat]; exact Nat.le_of_ble_eq_true rfl)) (fun Θ X hin => ?_)
  refine wa_eq (L2 := [(0, .int x0)]) ?_ rfl (by first | rfl | simp [lv_args, va_rf_cat, cat_i, cat_l]) rfl
  obtain ⟨k, hk0⟩ : ∃ k : Nat, k = 0 := ⟨0, rfl⟩
  obtain ⟨n, hn0⟩ : ∃ n : Nat, n = 0 := ⟨0, rfl⟩
  have hk : k + c = c := by omega
  have hn : n + m = m := by omega
  refine wa_costs hk0.symm hn0.symm ?_
  rw [fX2_keyWorkdays] at hf
  refine wa_iload_n X 0 dX2_keyWorkdays_0 rfl ?_
  refine wa_iconst (v := (1 : Int32)) X dX2_keyWorkdays_1 (by decide) ?_
  refine wa_iand X dX2_keyWorkdays_2 ?_
  obtain ⟨rfl, rfl, rfl, rfl⟩ := jret hf
  exact wa_iret X dX2_keyWorkdays_3 rfl (by omega) (by omega)
theorem dX9_find_0 : decode cX9_find 0 = .ok (.iconst 0, 1) := by decide +kernel
theorem dX9_find_1 : decode cX9_find 1 = .ok (.istore_n 3, 1) := by decide +kernel
theorem dX9_find_2 : decode cX9_find 2 = .ok (.iload_n 3, 1) := by decide +kernel
theorem dX9_find_3 : decode cX9_find 3 = .ok (.aload_n 0, 1) := by decide +kernel
theorem dX9_find_4 : decode cX9_find 4 = .ok (.getfield 21, 3) := by decide +kernel
theorem dX9_find_7 : decode cX9_find 7 = .ok (.if_icmp .ge 22, 3) := by decide +kernel
theorem dX9_find_10 : decode cX9_find 10 = .ok (.aload_n 0, 1) := by decide +kernel
theorem dX9_find_11 : decode cX9_find 11 = .ok (.getfield 15, 3) := by decide +kernel
theorem dX9_find_14 : decode cX9_find 14 = .ok (.iload_n 3, 1) := by decide +kernel
theorem dX9_find_15 : decode cX9_find 15 = .ok (.laload, 1) := by decide +kernel
theorem dX9_find_16 : decode cX9_find 16 = .ok (.lload_n 1, 1) := by decide +kernel
theorem dX9_find_17 : decode cX9_find 17 = .ok (.lcmp, 1) := by decide +kernel
theorem dX9_find_18 : decode cX9_find 18 = .ok (.ifCond .ne 5, 3) := by decide +kernel
theorem dX9_find_21 : decode cX9_find 21 = .ok (.iload_n 3, 1) := by decide +kernel
theorem dX9_find_22 : decode cX9_find 22 = .ok (.ireturn, 1) := by decide +kernel
theorem dX9_find_23 : decode cX9_find 23 = .ok (.iinc 3 1, 3) := by decide +kernel
theorem dX9_find_26 : decode cX9_find 26 = .ok (.goto (-24), 3) := by decide +kernel
theorem dX9_find_29 : decode cX9_find 29 = .ok (.iconst (-1), 1) := by decide +kernel
theorem dX9_find_30 : decode cX9_find 30 = .ok (.ireturn, 1) := by decide +kernel
def fX9_find_b2 : Nat → Nat → Int64 → Int32 → JM → JO (Int32)
  | 0, _, _, _, _ => none
  | fu + 1, a, y1, x3, μ => jck ((jT μ a).1 == 10) <| if (jI μ a 1) ≤ x3 then (some ((-1 : Int32), μ, 0, 0)) else (jde (jP μ a 0) fun q3 => jck ((jT μ q3).1 == 102) <| jck (jin x3 (jT μ q3).2) <| if (lg_cmp (jJ μ q3 (x3).toNatClampNeg) y1) = 0 then (some (x3, μ, 0, 0)) else (fX9_find_b2 fu a y1 (x3 + (1 : Int32)) μ))
set_option maxHeartbeats 4000000 in
set_option maxRecDepth 100000 in
theorem gX9_find_b2 {b : Nat} {Θ : JE} {RC RS : Nat} {r : Int32} {ν : JM} (X : jX b Θ RX9 cX9_find 4 (some .int) 0 0 RC RS) : ∀ (fu : Nat) (a : Nat) (y1 : Int64) (x3 : Int32) (μ : JM) (c m k n : Nat), fX9_find_b2 fu a y1 x3 μ = some (r, ν, c, m) → k + c = RC → n + m = RS → WA b Θ 4 (jE b Θ (some (.int r)) ν RC RS) μ k n 2 [(0, va_rf (some a)), (1, .long y1), (3, .int x3)] [] := by
  intro fu
  induction fu with
  | zero => intro a y1 x3 μ c m k n hf; cases hf
  | succ fu ih =>
    intro a y1 x3 μ c m k n hf hk hn
    rw [fX9_find_b2] at hf
    refine wa_iload_n X 2 dX9_find_2 rfl ?_
    refine wa_aload_n X 0 dX9_find_3 rfl ?_
    obtain ⟨h1, hf⟩ := jckT hf
    refine wa_getI X dX9_find_4 lfX9_21 rfl h1 rfl ?_
    refine wa_icge (tgt := 29) X dX9_find_7 (by decide) (fun h2 => ?_) (fun h2 => ?_)
    · rw [if_pos h2] at hf
      refine wa_iconst (v := (-1 : Int32)) X dX9_find_29 (by decide) ?_
      obtain ⟨rfl, rfl, rfl, rfl⟩ := jret hf
      exact wa_iret X dX9_find_30 rfl (by omega) (by omega)
    · rw [if_neg h2] at hf
      refine wa_aload_n X 0 dX9_find_10 rfl ?_
      refine wa_getP X dX9_find_11 lfX9_15 rfl h1 rfl ?_
      refine wa_iload_n X 2 dX9_find_14 rfl ?_
      obtain ⟨q3, h4, hf⟩ := jde_some hf
      obtain ⟨h5, hf⟩ := jckT hf
      obtain ⟨h6, hf⟩ := jck_some hf
      refine wa_rlald X dX9_find_15 h4 h5 h6 ?_
      refine wa_lload_n X 1 dX9_find_16 rfl ?_
      refine wa_lcmp X dX9_find_17 ?_
      refine wa_ifne (tgt := 23) X dX9_find_18 (by decide) (fun h7 => ?_) (fun h7 => ?_)
      · rw [if_neg h7] at hf
        refine wa_iinc (v := (x3 + (1 : Int32))) (L2 := [(3, .int (x3 + (1 : Int32))), (0, va_rf (some a)), (1, .long y1)]) X 2 dX9_find_23 rfl rfl (by decide) (by first | rfl | simp [va_rf_cat, cat_i, cat_l]) ?_
        refine wa_goto (tgt := 2) X dX9_find_26 (by decide) ?_
        refine wa_sub (L2 := [(0, va_rf (some a)), (1, .long y1), (3, .int (x3 + (1 : Int32)))]) [1, 2, 0] rfl ?_
        exact ih a y1 (x3 + (1 : Int32)) μ _ _ _ _ hf (by omega) (by omega)
      · rw [if_pos h7] at hf
        refine wa_iload_n X 2 dX9_find_21 rfl ?_
        obtain ⟨rfl, rfl, rfl, rfl⟩ := jret hf
        exact wa_iret X dX9_find_22 rfl (by omega) (by omega)
def fX9_find (a : Nat) (y1 : Int64) (μ : JM) : JO (Int32) := fX9_find_b2  jfuel a y1 (0 : Int32) μ
set_option maxHeartbeats 4000000 in
set_option maxRecDepth 100000 in
theorem mX9_find {b : Nat} {a : Nat} {y1 : Int64} {μ : JM} {r : Int32} {ν : JM} {c m : Nat} (hf : fX9_find a y1 μ = some (r, ν, c, m)) : JMet b yX9_find cX9_find 4 (some .int) 0 0 [va_rf (some a), .long y1] μ (some (.int r)) ν c m := by
  refine JMet.of (by decide) (lg_sl_le (by simp only [List.map_cons, List.map_nil, List.sum_cons, List.sum_nil, va_rf_cat]; exact Nat.le_of_ble_eq_true rfl)) (fun Θ X hin => ?_)
  refine wa_eq (L2 := [(0, va_rf (some a)), (1, .long y1)]) ?_ rfl (by first | rfl | simp [lv_args, va_rf_cat, cat_i, cat_l]) rfl
  obtain ⟨k, hk0⟩ : ∃ k : Nat, k = 0 := ⟨0, rfl⟩
  obtain ⟨n, hn0⟩ : ∃ n : Nat, n = 0 := ⟨0, rfl⟩
  have hk : k + c = c := by omega
  have hn : n + m = m := by omega
  refine wa_costs hk0.symm hn0.symm ?_
  rw [fX9_find] at hf
  refine wa_iconst (v := (0 : Int32)) X dX9_find_0 (by decide) ?_
  refine wa_istore_n (L2 := [(3, .int (0 : Int32)), (0, va_rf (some a)), (1, .long y1)]) X dX9_find_1 (by decide) (by first | rfl | (show (3, _) :: List.filter (fun q : Nat × Value => !(q.1 == 3) && !(q.1 + 1 == 3 && q.2.category == 2)) _ = _; simp [va_rf_cat, cat_i, cat_l])) ?_
  refine wa_sub (L2 := [(0, va_rf (some a)), (1, .long y1), (3, .int (0 : Int32))]) [1, 2, 0] rfl ?_
  exact gX9_find_b2 X jfuel a y1 (0 : Int32) μ _ _ _ _ hf (by omega) (by omega)
theorem dX9_add_0 : decode cX9_add 0 = .ok (.aload_n 0, 1) := by decide +kernel
theorem dX9_add_1 : decode cX9_add 1 = .ok (.getfield 21, 3) := by decide +kernel
theorem dX9_add_4 : decode cX9_add 4 = .ok (.aload_n 0, 1) := by decide +kernel
theorem dX9_add_5 : decode cX9_add 5 = .ok (.getfield 15, 3) := by decide +kernel
theorem dX9_add_8 : decode cX9_add 8 = .ok (.arraylength, 1) := by decide +kernel
theorem dX9_add_9 : decode cX9_add 9 = .ok (.if_icmp .lt 5, 3) := by decide +kernel
theorem dX9_add_12 : decode cX9_add 12 = .ok (.iconst (-1), 1) := by decide +kernel
theorem dX9_add_13 : decode cX9_add 13 = .ok (.ireturn, 1) := by decide +kernel
theorem dX9_add_14 : decode cX9_add 14 = .ok (.aload_n 0, 1) := by decide +kernel
theorem dX9_add_15 : decode cX9_add 15 = .ok (.getfield 15, 3) := by decide +kernel
theorem dX9_add_18 : decode cX9_add 18 = .ok (.aload_n 0, 1) := by decide +kernel
theorem dX9_add_19 : decode cX9_add 19 = .ok (.getfield 21, 3) := by decide +kernel
theorem dX9_add_22 : decode cX9_add 22 = .ok (.lload_n 1, 1) := by decide +kernel
theorem dX9_add_23 : decode cX9_add 23 = .ok (.lastore, 1) := by decide +kernel
theorem dX9_add_24 : decode cX9_add 24 = .ok (.aload_n 0, 1) := by decide +kernel
theorem dX9_add_25 : decode cX9_add 25 = .ok (.dup, 1) := by decide +kernel
theorem dX9_add_26 : decode cX9_add 26 = .ok (.getfield 21, 3) := by decide +kernel
theorem dX9_add_29 : decode cX9_add 29 = .ok (.iconst 1, 1) := by decide +kernel
theorem dX9_add_30 : decode cX9_add 30 = .ok (.iadd, 1) := by decide +kernel
theorem dX9_add_31 : decode cX9_add 31 = .ok (.putfield 21, 3) := by decide +kernel
theorem dX9_add_34 : decode cX9_add 34 = .ok (.aload_n 0, 1) := by decide +kernel
theorem dX9_add_35 : decode cX9_add 35 = .ok (.getfield 21, 3) := by decide +kernel
theorem dX9_add_38 : decode cX9_add 38 = .ok (.iconst 1, 1) := by decide +kernel
theorem dX9_add_39 : decode cX9_add 39 = .ok (.isub, 1) := by decide +kernel
theorem dX9_add_40 : decode cX9_add 40 = .ok (.ireturn, 1) := by decide +kernel
def fX9_add (a : Nat) (y1 : Int64) (μ : JM) : JO (Int32) := jck ((jT μ a).1 == 10) <| jde (jP μ a 0) fun q2 => jck ((jT μ q2).1 == 102) <| if (jI μ a 1) < (nI (jT μ q2).2) then (jck (jin (jI μ a 1) (jT μ q2).2) <| jlt (jsJ μ q2 ((jI μ a 1)).toNatClampNeg y1) fun μ7 => jlt (jsI μ7 a 1 ((jI μ7 a 1) + (1 : Int32))) fun μ10 => some (((jI μ10 a 1) - (1 : Int32)), μ10, 0, 0)) else (some ((-1 : Int32), μ, 0, 0))
set_option maxHeartbeats 4000000 in
set_option maxRecDepth 100000 in
theorem mX9_add {b : Nat} {a : Nat} {y1 : Int64} {μ : JM} {r : Int32} {ν : JM} {c m : Nat} (hf : fX9_add a y1 μ = some (r, ν, c, m)) : JMet b yX9_add cX9_add 3 (some .int) 0 0 [va_rf (some a), .long y1] μ (some (.int r)) ν c m := by
  refine JMet.of (by decide) (lg_sl_le (by simp only [List.map_cons, List.map_nil, List.sum_cons, List.sum_nil, va_rf_cat]; exact Nat.le_of_ble_eq_true rfl)) (fun Θ X hin => ?_)
  refine wa_eq (L2 := [(0, va_rf (some a)), (1, .long y1)]) ?_ rfl (by first | rfl | simp [lv_args, va_rf_cat, cat_i, cat_l]) rfl
  obtain ⟨k, hk0⟩ : ∃ k : Nat, k = 0 := ⟨0, rfl⟩
  obtain ⟨n, hn0⟩ : ∃ n : Nat, n = 0 := ⟨0, rfl⟩
  have hk : k + c = c := by omega
  have hn : n + m = m := by omega
  refine wa_costs hk0.symm hn0.symm ?_
  rw [fX9_add] at hf
  refine wa_aload_n X 0 dX9_add_0 rfl ?_
  obtain ⟨h1, hf⟩ := jckT hf
  refine wa_getI X dX9_add_1 lfX9_21 rfl h1 rfl ?_
  refine wa_aload_n X 0 dX9_add_4 rfl ?_
  refine wa_getP X dX9_add_5 lfX9_15 rfl h1 rfl ?_
  obtain ⟨q2, h3, hf⟩ := jde_some hf
  obtain ⟨h4, hf⟩ := jckT hf
  refine wa_ralen (t := 102) X dX9_add_8 h3 h4 (by decide) ?_
  refine wa_iclt (tgt := 14) X dX9_add_9 (by decide) (fun h5 => ?_) (fun h5 => ?_)
  · rw [if_pos h5] at hf
    refine wa_aload_n X 0 dX9_add_14 rfl ?_
    refine wa_getP X dX9_add_15 lfX9_15 rfl h1 rfl ?_
    refine wa_aload_n X 0 dX9_add_18 rfl ?_
    refine wa_getI X dX9_add_19 lfX9_21 rfl h1 rfl ?_
    refine wa_lload_n X 1 dX9_add_22 rfl ?_
    obtain ⟨h6, hf⟩ := jck_some hf
    obtain ⟨μ7, hm8, hf⟩ := jlt_e hf
    have e9 : jT μ7 = jT μ := by rw [hm8]; rfl
    refine wa_rlast (ν := μ7) X dX9_add_23 h3 h4 h6 hm8 ?_
    refine wa_aload_n X 0 dX9_add_24 rfl ?_
    refine wa_dup X dX9_add_25 (va_rf_cat _) ?_
    refine wa_getI X dX9_add_26 lfX9_21 rfl (by rw [e9]; exact h1) rfl ?_
    refine wa_iconst (v := (1 : Int32)) X dX9_add_29 (by decide) ?_
    refine wa_iadd X dX9_add_30 ?_
    obtain ⟨μ10, hm11, hf⟩ := jlt_e hf
    have e12 : jT μ10 = jT μ := by rw [hm11]; exact e9
    refine wa_rputI (ν := μ10) X dX9_add_31 lfX9_21 rfl (by rw [e9]; exact h1) rfl rfl hm11 ?_
    refine wa_aload_n X 0 dX9_add_34 rfl ?_
    refine wa_getI X dX9_add_35 lfX9_21 rfl (by rw [e12]; exact h1) rfl ?_
    refine wa_iconst (v := (1 : Int32)) X dX9_add_38 (by decide) ?_
    refine wa_isub X dX9_add_39 ?_
    obtain ⟨rfl, rfl, rfl, rfl⟩ := jret hf
    exact wa_iret X dX9_add_40 rfl (by omega) (by omega)
  · rw [if_neg h5] at hf
    refine wa_iconst (v := (-1 : Int32)) X dX9_add_12 (by decide) ?_
    obtain ⟨rfl, rfl, rfl, rfl⟩ := jret hf
    exact wa_iret X dX9_add_13 rfl (by omega) (by omega)
theorem dX9_cut_0 : decode cX9_cut 0 = .ok (.aload_n 0, 1) := by decide +kernel
theorem dX9_cut_1 : decode cX9_cut 1 = .ok (.aload_n 0, 1) := by decide +kernel
theorem dX9_cut_2 : decode cX9_cut 2 = .ok (.getfield 21, 3) := by decide +kernel
theorem dX9_cut_5 : decode cX9_cut 5 = .ok (.iload_n 1, 1) := by decide +kernel
theorem dX9_cut_6 : decode cX9_cut 6 = .ok (.iconst 0, 1) := by decide +kernel
theorem dX9_cut_7 : decode cX9_cut 7 = .ok (.invokestatic 9, 3) := by decide +kernel
theorem dX9_cut_10 : decode cX9_cut 10 = .ok (.invokestatic 43, 3) := by decide +kernel
theorem dX9_cut_13 : decode cX9_cut 13 = .ok (.putfield 21, 3) := by decide +kernel
theorem dX9_cut_16 : decode cX9_cut 16 = .ok (.return_, 1) := by decide +kernel
def fX9_cut (a : Nat) (x1 : Int32) (μ : JM) : JO (Unit) := jck ((jT μ a).1 == 10) <| jlt (jsI μ a 1 (jmin (jI μ a 1) (jmax x1 (0 : Int32)))) fun μ2 => some ((), μ2, 0, 0)
set_option maxHeartbeats 4000000 in
set_option maxRecDepth 100000 in
theorem mX9_cut {b : Nat} {a : Nat} {x1 : Int32} {μ : JM} {r : Unit} {ν : JM} {c m : Nat} (hf : fX9_cut a x1 μ = some (r, ν, c, m)) : JMet b yX9_cut cX9_cut 2 none 1 21 [va_rf (some a), .int x1] μ (none) ν c m := by
  refine JMet.of (by decide) (lg_sl_le (by simp only [List.map_cons, List.map_nil, List.sum_cons, List.sum_nil, va_rf_cat]; exact Nat.le_of_ble_eq_true rfl)) (fun Θ X hin => ?_)
  refine wa_eq (L2 := [(0, va_rf (some a)), (1, .int x1)]) ?_ rfl (by first | rfl | simp [lv_args, va_rf_cat, cat_i, cat_l]) rfl
  obtain ⟨k, hk0⟩ : ∃ k : Nat, k = 0 := ⟨0, rfl⟩
  obtain ⟨n, hn0⟩ : ∃ n : Nat, n = 0 := ⟨0, rfl⟩
  have hk : k + c = c := by omega
  have hn : n + m = m := by omega
  refine wa_costs hk0.symm hn0.symm ?_
  rw [fX9_cut] at hf
  refine wa_aload_n X 0 dX9_cut_0 rfl ?_
  refine wa_aload_n X 0 dX9_cut_1 rfl ?_
  obtain ⟨h1, hf⟩ := jckT hf
  refine wa_getI X dX9_cut_2 lfX9_21 rfl h1 rfl ?_
  refine wa_iload_n X 1 dX9_cut_5 rfl ?_
  refine wa_iconst (v := (0 : Int32)) X dX9_cut_6 (by decide) ?_
  refine wa_mmax X dX9_cut_7 lmX9_9 l9_smax ln_RJ9 l9_cmax (by decide) (Nat.le_trans (Nat.add_le_add_right (va_cats (m := 8) (Nat.le_of_ble_eq_true rfl)) 13) (by decide)) (by omega) (by omega) ?_
  refine wa_mmin X dX9_cut_10 lmX9_43 l9_smin ln_RJ9 l9_cmin (by decide) (Nat.le_trans (Nat.add_le_add_right (va_cats (m := 8) (Nat.le_of_ble_eq_true rfl)) 13) (by decide)) (by omega) (by omega) ?_
  obtain ⟨μ2, hm3, hf⟩ := jlt_e hf
  have e4 : jT μ2 = jT μ := by rw [hm3]; rfl
  refine wa_rputI (ν := μ2) X dX9_cut_13 lfX9_21 rfl h1 rfl rfl hm3 ?_
  obtain ⟨rfl, rfl, rfl, rfl⟩ := jret hf
  exact wa_vret X dX9_cut_16 (by omega) (by omega)
theorem dX5_init_0 : decode cX5_init 0 = .ok (.aload_n 0, 1) := by decide +kernel
theorem dX5_init_1 : decode cX5_init 1 = .ok (.invokespecial 1, 3) := by decide +kernel
theorem dX5_init_4 : decode cX5_init 4 = .ok (.aload_n 0, 1) := by decide +kernel
theorem dX5_init_5 : decode cX5_init 5 = .ok (.iload_n 1, 1) := by decide +kernel
theorem dX5_init_6 : decode cX5_init 6 = .ok (.putfield 7, 3) := by decide +kernel
theorem dX5_init_9 : decode cX5_init 9 = .ok (.aload_n 0, 1) := by decide +kernel
theorem dX5_init_10 : decode cX5_init 10 = .ok (.aload_n 2, 1) := by decide +kernel
theorem dX5_init_11 : decode cX5_init 11 = .ok (.putfield 13, 3) := by decide +kernel
theorem dX5_init_14 : decode cX5_init 14 = .ok (.aload_n 0, 1) := by decide +kernel
theorem dX5_init_15 : decode cX5_init 15 = .ok (.iload_n 3, 1) := by decide +kernel
theorem dX5_init_16 : decode cX5_init 16 = .ok (.putfield 17, 3) := by decide +kernel
theorem dX5_init_19 : decode cX5_init 19 = .ok (.return_, 1) := by decide +kernel
def fX5_init (a : Nat) (x1 : Int32) (p2 : Option Nat) (x3 : Int32) (μ : JM) : JO (Unit) := jck ((jT μ a).1 == 6) <| jlt (jsI μ a 0 x1) fun μ2 => jlt (jsP μ2 a 1 p2) fun μ5 => jlt (jsI μ5 a 2 x3) fun μ8 => some ((), μ8, 0, 0)
set_option maxHeartbeats 4000000 in
set_option maxRecDepth 100000 in
theorem mX5_init {b : Nat} {a : Nat} {x1 : Int32} {p2 : Option Nat} {x3 : Int32} {μ : JM} {r : Unit} {ν : JM} {c m : Nat} (hf : fX5_init a x1 p2 x3 μ = some (r, ν, c, m)) : JMet b yX5_init cX5_init 4 none 1 20 [va_rf (some a), .int x1, va_rf p2, .int x3] μ (none) ν c m := by
  refine JMet.of (by decide) (lg_sl_le (by simp only [List.map_cons, List.map_nil, List.sum_cons, List.sum_nil, va_rf_cat]; exact Nat.le_of_ble_eq_true rfl)) (fun Θ X hin => ?_)
  have hin := hin rfl
  refine wa_eq (L2 := [(0, va_rf (some a)), (1, .int x1), (2, va_rf p2), (3, .int x3)]) ?_ rfl (by first | rfl | simp [lv_args, va_rf_cat, cat_i, cat_l]) rfl
  obtain ⟨k, hk0⟩ : ∃ k : Nat, k = 0 := ⟨0, rfl⟩
  obtain ⟨n, hn0⟩ : ∃ n : Nat, n = 0 := ⟨0, rfl⟩
  have hk : k + c = c := by omega
  have hn : n + m = m := by omega
  refine wa_costs hk0.symm hn0.symm ?_
  rw [fX5_init] at hf
  refine wa_aload_n X 0 dX5_init_0 rfl ?_
  refine wa_robj X dX5_init_1 lmX5_1 lo_inst lo_code (by decide) (Nat.le_trans (Nat.add_le_add_right (va_cats (m := 8) (Nat.le_of_ble_eq_true rfl)) 12) (by decide)) rfl ?_
  refine wa_aload_n X 0 dX5_init_4 rfl ?_
  refine wa_iload_n X 1 dX5_init_5 rfl ?_
  obtain ⟨h1, hf⟩ := jckT hf
  obtain ⟨μ2, hm3, hf⟩ := jlt_e hf
  have e4 : jT μ2 = jT μ := by rw [hm3]; rfl
  refine wa_rputFI (ν := μ2) X hin dX5_init_6 lfX5_7 rfl h1 rfl rfl rfl hm3 ?_
  refine wa_aload_n X 0 dX5_init_9 rfl ?_
  refine wa_aload_n X 2 dX5_init_10 rfl ?_
  obtain ⟨μ5, hm6, hf⟩ := jlt_e hf
  have e7 : jT μ5 = jT μ := by rw [hm6]; exact e4
  refine wa_rputFP (ν := μ5) X hin dX5_init_11 lfX5_13 rfl (by rw [e4]; exact h1) (by first | exact Or.inl ⟨_, rfl⟩ | exact Or.inr ⟨_, rfl⟩) rfl rfl hm6 ?_
  refine wa_aload_n X 0 dX5_init_14 rfl ?_
  refine wa_iload_n X 3 dX5_init_15 rfl ?_
  obtain ⟨μ8, hm9, hf⟩ := jlt_e hf
  have e10 : jT μ8 = jT μ := by rw [hm9]; exact e7
  refine wa_rputFI (ν := μ8) X hin dX5_init_16 lfX5_17 rfl (by rw [e7]; exact h1) rfl rfl rfl hm9 ?_
  obtain ⟨rfl, rfl, rfl, rfl⟩ := jret hf
  exact wa_vret X dX5_init_19 (by omega) (by omega)
theorem dX9_letterCount_0 : decode cX9_letterCount 0 = .ok (.iconst 0, 1) := by decide +kernel
theorem dX9_letterCount_1 : decode cX9_letterCount 1 = .ok (.istore_n 2, 1) := by decide +kernel
theorem dX9_letterCount_2 : decode cX9_letterCount 2 = .ok (.iconst 0, 1) := by decide +kernel
theorem dX9_letterCount_3 : decode cX9_letterCount 3 = .ok (.istore_n 3, 1) := by decide +kernel
theorem dX9_letterCount_4 : decode cX9_letterCount 4 = .ok (.iload_n 3, 1) := by decide +kernel
theorem dX9_letterCount_5 : decode cX9_letterCount 5 = .ok (.bipush 12, 2) := by decide +kernel
theorem dX9_letterCount_7 : decode cX9_letterCount 7 = .ok (.if_icmp .ge 22, 3) := by decide +kernel
theorem dX9_letterCount_10 : decode cX9_letterCount 10 = .ok (.lload_n 0, 1) := by decide +kernel
theorem dX9_letterCount_11 : decode cX9_letterCount 11 = .ok (.iload_n 3, 1) := by decide +kernel
theorem dX9_letterCount_12 : decode cX9_letterCount 12 = .ok (.iconst 5, 1) := by decide +kernel
theorem dX9_letterCount_13 : decode cX9_letterCount 13 = .ok (.imul, 1) := by decide +kernel
theorem dX9_letterCount_14 : decode cX9_letterCount 14 = .ok (.lshr, 1) := by decide +kernel
theorem dX9_letterCount_15 : decode cX9_letterCount 15 = .ok (.lconst 0, 1) := by decide +kernel
theorem dX9_letterCount_16 : decode cX9_letterCount 16 = .ok (.lcmp, 1) := by decide +kernel
theorem dX9_letterCount_17 : decode cX9_letterCount 17 = .ok (.ifCond .eq 6, 3) := by decide +kernel
theorem dX9_letterCount_20 : decode cX9_letterCount 20 = .ok (.iinc 2 1, 3) := by decide +kernel
theorem dX9_letterCount_23 : decode cX9_letterCount 23 = .ok (.iinc 3 1, 3) := by decide +kernel
theorem dX9_letterCount_26 : decode cX9_letterCount 26 = .ok (.goto (-22), 3) := by decide +kernel
theorem dX9_letterCount_29 : decode cX9_letterCount 29 = .ok (.iload_n 2, 1) := by decide +kernel
theorem dX9_letterCount_30 : decode cX9_letterCount 30 = .ok (.ireturn, 1) := by decide +kernel
def fX9_letterCount_b23 (rec4 : Int64 → Int32 → Int32 → JM → JO (Int32)) (y0 : Int64) (x2 : Int32) (x3 : Int32) (μ : JM) : JO (Int32) := rec4 y0 x2 (x3 + (1 : Int32)) μ
set_option maxHeartbeats 4000000 in
set_option maxRecDepth 100000 in
theorem gX9_letterCount_b23 {b : Nat} {Θ : JE} {RC RS : Nat} {r : Int32} {ν : JM} (X : jX b Θ RX9 cX9_letterCount 4 (some .int) 0 0 RC RS) {rec4 : Int64 → Int32 → Int32 → JM → JO (Int32)} (hrec4 : ∀ (y0 : Int64) (x2 : Int32) (x3 : Int32) (μ : JM) (c m k n : Nat), rec4 y0 x2 x3 μ = some (r, ν, c, m) → k + c = RC → n + m = RS → WA b Θ 4 (jE b Θ (some (.int r)) ν RC RS) μ k n 4 [(0, .long y0), (2, .int x2), (3, .int x3)] []) (y0 : Int64) (x2 : Int32) (x3 : Int32) (μ : JM) (c m k n : Nat) (hf : fX9_letterCount_b23 rec4 y0 x2 x3 μ = some (r, ν, c, m)) (hk : k + c = RC) (hn : n + m = RS) : WA b Θ 4 (jE b Θ (some (.int r)) ν RC RS) μ k n 23 [(0, .long y0), (2, .int x2), (3, .int x3)] [] := by
  rw [fX9_letterCount_b23] at hf
  refine wa_iinc (v := (x3 + (1 : Int32))) (L2 := [(3, .int (x3 + (1 : Int32))), (0, .long y0), (2, .int x2)]) X 2 dX9_letterCount_23 rfl rfl (by decide) (by first | rfl | simp [va_rf_cat, cat_i, cat_l]) ?_
  refine wa_goto (tgt := 4) X dX9_letterCount_26 (by decide) ?_
  refine wa_sub (L2 := [(0, .long y0), (2, .int x2), (3, .int (x3 + (1 : Int32)))]) [1, 2, 0] rfl ?_
  exact hrec4 y0 x2 (x3 + (1 : Int32)) μ _ _ _ _ hf (by omega) (by omega)
def fX9_letterCount_b4 : Nat → Int64 → Int32 → Int32 → JM → JO (Int32)
  | 0, _, _, _, _ => none
  | fu + 1, y0, x2, x3, μ => if (12 : Int32) ≤ x3 then (some (x2, μ, 0, 0)) else (if (lg_cmp (jlshr y0 (x3 * (5 : Int32))) (0 : Int64)) = 0 then (fX9_letterCount_b23 (fX9_letterCount_b4 fu) y0 x2 x3 μ) else (fX9_letterCount_b23 (fX9_letterCount_b4 fu) y0 (x2 + (1 : Int32)) x3 μ))
set_option maxHeartbeats 4000000 in
set_option maxRecDepth 100000 in
theorem gX9_letterCount_b4 {b : Nat} {Θ : JE} {RC RS : Nat} {r : Int32} {ν : JM} (X : jX b Θ RX9 cX9_letterCount 4 (some .int) 0 0 RC RS) : ∀ (fu : Nat) (y0 : Int64) (x2 : Int32) (x3 : Int32) (μ : JM) (c m k n : Nat), fX9_letterCount_b4 fu y0 x2 x3 μ = some (r, ν, c, m) → k + c = RC → n + m = RS → WA b Θ 4 (jE b Θ (some (.int r)) ν RC RS) μ k n 4 [(0, .long y0), (2, .int x2), (3, .int x3)] [] := by
  intro fu
  induction fu with
  | zero => intro y0 x2 x3 μ c m k n hf; cases hf
  | succ fu ih =>
    intro y0 x2 x3 μ c m k n hf hk hn
    rw [fX9_letterCount_b4] at hf
    refine wa_iload_n X 2 dX9_letterCount_4 rfl ?_
    refine wa_bipush (v := (12 : Int32)) X dX9_letterCount_5 (by decide) ?_
    refine wa_icge (tgt := 29) X dX9_letterCount_7 (by decide) (fun h1 => ?_) (fun h1 => ?_)
    · rw [if_pos h1] at hf
      refine wa_iload_n X 1 dX9_letterCount_29 rfl ?_
      obtain ⟨rfl, rfl, rfl, rfl⟩ := jret hf
      exact wa_iret X dX9_letterCount_30 rfl (by omega) (by omega)
    · rw [if_neg h1] at hf
      refine wa_lload_n X 0 dX9_letterCount_10 rfl ?_
      refine wa_iload_n X 2 dX9_letterCount_11 rfl ?_
      refine wa_iconst (v := (5 : Int32)) X dX9_letterCount_12 (by decide) ?_
      refine wa_imul X dX9_letterCount_13 ?_
      refine wa_lshr X dX9_letterCount_14 ?_
      refine wa_lconst (v := (0 : Int64)) X dX9_letterCount_15 (by decide) ?_
      refine wa_lcmp X dX9_letterCount_16 ?_
      refine wa_ifeq (tgt := 23) X dX9_letterCount_17 (by decide) (fun h2 => ?_) (fun h2 => ?_)
      · rw [if_pos h2] at hf
        refine wa_sub (L2 := [(0, .long y0), (2, .int x2), (3, .int x3)]) [0, 1, 2] rfl ?_
        exact gX9_letterCount_b23 X ih y0 x2 x3 μ _ _ _ _ hf (by omega) (by omega)
      · rw [if_neg h2] at hf
        refine wa_iinc (v := (x2 + (1 : Int32))) (L2 := [(2, .int (x2 + (1 : Int32))), (0, .long y0), (3, .int x3)]) X 1 dX9_letterCount_20 rfl rfl (by decide) (by first | rfl | simp [va_rf_cat, cat_i, cat_l]) ?_
        refine wa_sub (L2 := [(0, .long y0), (2, .int (x2 + (1 : Int32))), (3, .int x3)]) [1, 0, 2] rfl ?_
        exact gX9_letterCount_b23 X ih y0 (x2 + (1 : Int32)) x3 μ _ _ _ _ hf (by omega) (by omega)
def fX9_letterCount (y0 : Int64) (μ : JM) : JO (Int32) := fX9_letterCount_b4  jfuel y0 (0 : Int32) (0 : Int32) μ
set_option maxHeartbeats 4000000 in
set_option maxRecDepth 100000 in
theorem mX9_letterCount {b : Nat} {y0 : Int64} {μ : JM} {r : Int32} {ν : JM} {c m : Nat} (hf : fX9_letterCount y0 μ = some (r, ν, c, m)) : JMet b yX9_letterCount cX9_letterCount 4 (some .int) 0 0 [.long y0] μ (some (.int r)) ν c m := by
  refine JMet.of (by decide) (lg_sl_le (by simp only [List.map_cons, List.map_nil, List.sum_cons, List.sum_nil, va_rf_cat]; exact Nat.le_of_ble_eq_true rfl)) (fun Θ X hin => ?_)
  refine wa_eq (L2 := [(0, .long y0)]) ?_ rfl (by first | rfl | simp [lv_args, va_rf_cat, cat_i, cat_l]) rfl
  obtain ⟨k, hk0⟩ : ∃ k : Nat, k = 0 := ⟨0, rfl⟩
  obtain ⟨n, hn0⟩ : ∃ n : Nat, n = 0 := ⟨0, rfl⟩
  have hk : k + c = c := by omega
  have hn : n + m = m := by omega
  refine wa_costs hk0.symm hn0.symm ?_
  rw [fX9_letterCount] at hf
  refine wa_iconst (v := (0 : Int32)) X dX9_letterCount_0 (by decide) ?_
  refine wa_istore_n (L2 := [(2, .int (0 : Int32)), (0, .long y0)]) X dX9_letterCount_1 (by decide) (by first | rfl | (show (2, _) :: List.filter (fun q : Nat × Value => !(q.1 == 2) && !(q.1 + 1 == 2 && q.2.category == 2)) _ = _; simp [va_rf_cat, cat_i, cat_l])) ?_
  refine wa_iconst (v := (0 : Int32)) X dX9_letterCount_2 (by decide) ?_
  refine wa_istore_n (L2 := [(3, .int (0 : Int32)), (2, .int (0 : Int32)), (0, .long y0)]) X dX9_letterCount_3 (by decide) (by first | rfl | (show (3, _) :: List.filter (fun q : Nat × Value => !(q.1 == 3) && !(q.1 + 1 == 3 && q.2.category == 2)) _ = _; simp [va_rf_cat, cat_i, cat_l])) ?_
  refine wa_sub (L2 := [(0, .long y0), (2, .int (0 : Int32)), (3, .int (0 : Int32))]) [2, 1, 0] rfl ?_
  exact gX9_letterCount_b4 X jfuel y0 (0 : Int32) (0 : Int32) μ _ _ _ _ hf (by omega) (by omega)
theorem dX9_letterAt_0 : decode cX9_letterAt 0 = .ok (.lload_n 0, 1) := by decide +kernel
theorem dX9_letterAt_1 : decode cX9_letterAt 1 = .ok (.invokestatic 46, 3) := by decide +kernel
theorem dX9_letterAt_4 : decode cX9_letterAt 4 = .ok (.istore_n 3, 1) := by decide +kernel
theorem dX9_letterAt_5 : decode cX9_letterAt 5 = .ok (.iload_n 2, 1) := by decide +kernel
theorem dX9_letterAt_6 : decode cX9_letterAt 6 = .ok (.ifCond .lt 8, 3) := by decide +kernel
theorem dX9_letterAt_9 : decode cX9_letterAt 9 = .ok (.iload_n 2, 1) := by decide +kernel
theorem dX9_letterAt_10 : decode cX9_letterAt 10 = .ok (.iload_n 3, 1) := by decide +kernel
theorem dX9_letterAt_11 : decode cX9_letterAt 11 = .ok (.if_icmp .lt 5, 3) := by decide +kernel
theorem dX9_letterAt_14 : decode cX9_letterAt 14 = .ok (.iconst (-1), 1) := by decide +kernel
theorem dX9_letterAt_15 : decode cX9_letterAt 15 = .ok (.ireturn, 1) := by decide +kernel
theorem dX9_letterAt_16 : decode cX9_letterAt 16 = .ok (.bipush 96, 2) := by decide +kernel
theorem dX9_letterAt_18 : decode cX9_letterAt 18 = .ok (.lload_n 0, 1) := by decide +kernel
theorem dX9_letterAt_19 : decode cX9_letterAt 19 = .ok (.iload_n 3, 1) := by decide +kernel
theorem dX9_letterAt_20 : decode cX9_letterAt 20 = .ok (.iconst 1, 1) := by decide +kernel
theorem dX9_letterAt_21 : decode cX9_letterAt 21 = .ok (.isub, 1) := by decide +kernel
theorem dX9_letterAt_22 : decode cX9_letterAt 22 = .ok (.iload_n 2, 1) := by decide +kernel
theorem dX9_letterAt_23 : decode cX9_letterAt 23 = .ok (.isub, 1) := by decide +kernel
theorem dX9_letterAt_24 : decode cX9_letterAt 24 = .ok (.iconst 5, 1) := by decide +kernel
theorem dX9_letterAt_25 : decode cX9_letterAt 25 = .ok (.imul, 1) := by decide +kernel
theorem dX9_letterAt_26 : decode cX9_letterAt 26 = .ok (.lshr, 1) := by decide +kernel
theorem dX9_letterAt_27 : decode cX9_letterAt 27 = .ok (.ldc2_w 49, 3) := by decide +kernel
theorem dX9_letterAt_30 : decode cX9_letterAt 30 = .ok (.land, 1) := by decide +kernel
theorem dX9_letterAt_31 : decode cX9_letterAt 31 = .ok (.l2i, 1) := by decide +kernel
theorem dX9_letterAt_32 : decode cX9_letterAt 32 = .ok (.iadd, 1) := by decide +kernel
theorem dX9_letterAt_33 : decode cX9_letterAt 33 = .ok (.ireturn, 1) := by decide +kernel
def fX9_letterAt (y0 : Int64) (x2 : Int32) (μ : JM) : JO (Int32) := jcl (fX9_letterCount y0 μ) fun r1 μ2 => if x2 < 0 then (some ((-1 : Int32), μ2, 0, 0)) else (if x2 < r1 then (some (((96 : Int32) + (((jlshr y0 (((r1 - (1 : Int32)) - x2) * (5 : Int32))) &&& (31 : Int64))).toInt32), μ2, 0, 0)) else (some ((-1 : Int32), μ2, 0, 0)))
set_option maxHeartbeats 4000000 in
set_option maxRecDepth 100000 in
theorem mX9_letterAt {b : Nat} {y0 : Int64} {x2 : Int32} {μ : JM} {r : Int32} {ν : JM} {c m : Nat} (hf : fX9_letterAt y0 x2 μ = some (r, ν, c, m)) : JMet b yX9_letterAt cX9_letterAt 4 (some .int) 1 23 [.long y0, .int x2] μ (some (.int r)) ν c m := by
  refine JMet.of (by decide) (lg_sl_le (by simp only [List.map_cons, List.map_nil, List.sum_cons, List.sum_nil, va_rf_cat]; exact Nat.le_of_ble_eq_true rfl)) (fun Θ X hin => ?_)
  refine wa_eq (L2 := [(0, .long y0), (2, .int x2)]) ?_ rfl (by first | rfl | simp [lv_args, va_rf_cat, cat_i, cat_l]) rfl
  obtain ⟨k, hk0⟩ : ∃ k : Nat, k = 0 := ⟨0, rfl⟩
  obtain ⟨n, hn0⟩ : ∃ n : Nat, n = 0 := ⟨0, rfl⟩
  have hk : k + c = c := by omega
  have hn : n + m = m := by omega
  refine wa_costs hk0.symm hn0.symm ?_
  rw [fX9_letterAt] at hf
  refine wa_lload_n X 0 dX9_letterAt_0 rfl ?_
  obtain ⟨r1, μ2, c3, m4, c5, m6, e7, hf, h8, h9⟩ := jcl_some hf
  refine wa_rcallS (st2 := [.int r1]) X dX9_letterAt_1 lmX9_46 lMX9_letterCount (mX9_letterCount e7) rfl rfl rfl (va_cats (Nat.le_of_ble_eq_true rfl)) (by decide) (by omega) (by omega) ?_
  refine wa_istore_n (L2 := [(3, .int r1), (0, .long y0), (2, .int x2)]) X dX9_letterAt_4 (by decide) (by first | rfl | (show (3, _) :: List.filter (fun q : Nat × Value => !(q.1 == 3) && !(q.1 + 1 == 3 && q.2.category == 2)) _ = _; simp [va_rf_cat, cat_i, cat_l])) ?_
  refine wa_iload_n X 2 dX9_letterAt_5 rfl ?_
  refine wa_iflt (tgt := 14) X dX9_letterAt_6 (by decide) (fun h10 => ?_) (fun h10 => ?_)
  · rw [if_pos h10] at hf
    refine wa_iconst (v := (-1 : Int32)) X dX9_letterAt_14 (by decide) ?_
    obtain ⟨rfl, rfl, rfl, rfl⟩ := jret hf
    exact wa_iret X dX9_letterAt_15 rfl (by omega) (by omega)
  · rw [if_neg h10] at hf
    refine wa_iload_n X 2 dX9_letterAt_9 rfl ?_
    refine wa_iload_n X 0 dX9_letterAt_10 rfl ?_
    refine wa_iclt (tgt := 16) X dX9_letterAt_11 (by decide) (fun h11 => ?_) (fun h11 => ?_)
    · rw [if_pos h11] at hf
      refine wa_bipush (v := (96 : Int32)) X dX9_letterAt_16 (by decide) ?_
      refine wa_lload_n X 1 dX9_letterAt_18 rfl ?_
      refine wa_iload_n X 0 dX9_letterAt_19 rfl ?_
      refine wa_iconst (v := (1 : Int32)) X dX9_letterAt_20 (by decide) ?_
      refine wa_isub X dX9_letterAt_21 ?_
      refine wa_iload_n X 2 dX9_letterAt_22 rfl ?_
      refine wa_isub X dX9_letterAt_23 ?_
      refine wa_iconst (v := (5 : Int32)) X dX9_letterAt_24 (by decide) ?_
      refine wa_imul X dX9_letterAt_25 ?_
      refine wa_lshr X dX9_letterAt_26 ?_
      refine wa_ldc2 (v := (31 : Int64)) X dX9_letterAt_27 lkX9_49 ?_
      refine wa_land X dX9_letterAt_30 ?_
      refine wa_l2i X dX9_letterAt_31 ?_
      refine wa_iadd X dX9_letterAt_32 ?_
      obtain ⟨rfl, rfl, rfl, rfl⟩ := jret hf
      exact wa_iret X dX9_letterAt_33 rfl (by omega) (by omega)
    · rw [if_neg h11] at hf
      refine wa_iconst (v := (-1 : Int32)) X dX9_letterAt_14 (by decide) ?_
      obtain ⟨rfl, rfl, rfl, rfl⟩ := jret hf
      exact wa_iret X dX9_letterAt_15 rfl (by omega) (by omega)
theorem dX9_at_0 : decode cX9_at 0 = .ok (.iload_n 1, 1) := by decide +kernel
theorem dX9_at_1 : decode cX9_at 1 = .ok (.ifCond .lt 11, 3) := by decide +kernel
theorem dX9_at_4 : decode cX9_at 4 = .ok (.iload_n 1, 1) := by decide +kernel
theorem dX9_at_5 : decode cX9_at 5 = .ok (.aload_n 0, 1) := by decide +kernel
theorem dX9_at_6 : decode cX9_at 6 = .ok (.getfield 21, 3) := by decide +kernel
theorem dX9_at_9 : decode cX9_at 9 = .ok (.if_icmp .lt 7, 3) := by decide +kernel
theorem dX9_at_12 : decode cX9_at 12 = .ok (.lconst 0, 1) := by decide +kernel
theorem dX9_at_13 : decode cX9_at 13 = .ok (.goto 9, 3) := by decide +kernel
theorem dX9_at_16 : decode cX9_at 16 = .ok (.aload_n 0, 1) := by decide +kernel
theorem dX9_at_17 : decode cX9_at 17 = .ok (.getfield 15, 3) := by decide +kernel
theorem dX9_at_20 : decode cX9_at 20 = .ok (.iload_n 1, 1) := by decide +kernel
theorem dX9_at_21 : decode cX9_at 21 = .ok (.laload, 1) := by decide +kernel
theorem dX9_at_22 : decode cX9_at 22 = .ok (.lreturn, 1) := by decide +kernel
def fX9_at (a : Nat) (x1 : Int32) (μ : JM) : JO (Int64) := if x1 < 0 then (some ((0 : Int64), μ, 0, 0)) else (jck ((jT μ a).1 == 10) <| if x1 < (jI μ a 1) then (jde (jP μ a 0) fun q4 => jck ((jT μ q4).1 == 102) <| jck (jin x1 (jT μ q4).2) <| some ((jJ μ q4 (x1).toNatClampNeg), μ, 0, 0)) else (some ((0 : Int64), μ, 0, 0)))
set_option maxHeartbeats 4000000 in
set_option maxRecDepth 100000 in
theorem mX9_at {b : Nat} {a : Nat} {x1 : Int32} {μ : JM} {r : Int64} {ν : JM} {c m : Nat} (hf : fX9_at a x1 μ = some (r, ν, c, m)) : JMet b yX9_at cX9_at 2 (some .long) 0 0 [va_rf (some a), .int x1] μ (some (.long r)) ν c m := by
  refine JMet.of (by decide) (lg_sl_le (by simp only [List.map_cons, List.map_nil, List.sum_cons, List.sum_nil, va_rf_cat]; exact Nat.le_of_ble_eq_true rfl)) (fun Θ X hin => ?_)
  refine wa_eq (L2 := [(0, va_rf (some a)), (1, .int x1)]) ?_ rfl (by first | rfl | simp [lv_args, va_rf_cat, cat_i, cat_l]) rfl
  obtain ⟨k, hk0⟩ : ∃ k : Nat, k = 0 := ⟨0, rfl⟩
  obtain ⟨n, hn0⟩ : ∃ n : Nat, n = 0 := ⟨0, rfl⟩
  have hk : k + c = c := by omega
  have hn : n + m = m := by omega
  refine wa_costs hk0.symm hn0.symm ?_
  rw [fX9_at] at hf
  refine wa_iload_n X 1 dX9_at_0 rfl ?_
  refine wa_iflt (tgt := 12) X dX9_at_1 (by decide) (fun h1 => ?_) (fun h1 => ?_)
  · rw [if_pos h1] at hf
    refine wa_lconst (v := (0 : Int64)) X dX9_at_12 (by decide) ?_
    refine wa_goto (tgt := 22) X dX9_at_13 (by decide) ?_
    obtain ⟨rfl, rfl, rfl, rfl⟩ := jret hf
    exact wa_lret X dX9_at_22 (by omega) (by omega)
  · rw [if_neg h1] at hf
    refine wa_iload_n X 1 dX9_at_4 rfl ?_
    refine wa_aload_n X 0 dX9_at_5 rfl ?_
    obtain ⟨h2, hf⟩ := jckT hf
    refine wa_getI X dX9_at_6 lfX9_21 rfl h2 rfl ?_
    refine wa_iclt (tgt := 16) X dX9_at_9 (by decide) (fun h3 => ?_) (fun h3 => ?_)
    · rw [if_pos h3] at hf
      refine wa_aload_n X 0 dX9_at_16 rfl ?_
      refine wa_getP X dX9_at_17 lfX9_15 rfl h2 rfl ?_
      refine wa_iload_n X 1 dX9_at_20 rfl ?_
      obtain ⟨q4, h5, hf⟩ := jde_some hf
      obtain ⟨h6, hf⟩ := jckT hf
      obtain ⟨h7, hf⟩ := jck_some hf
      refine wa_rlald X dX9_at_21 h5 h6 h7 ?_
      obtain ⟨rfl, rfl, rfl, rfl⟩ := jret hf
      exact wa_lret X dX9_at_22 (by omega) (by omega)
    · rw [if_neg h3] at hf
      refine wa_lconst (v := (0 : Int64)) X dX9_at_12 (by decide) ?_
      refine wa_goto (tgt := 22) X dX9_at_13 (by decide) ?_
      obtain ⟨rfl, rfl, rfl, rfl⟩ := jret hf
      exact wa_lret X dX9_at_22 (by omega) (by omega)
theorem dX9_grown_0 : decode cX9_grown 0 = .ok (.lload_n 0, 1) := by decide +kernel
theorem dX9_grown_1 : decode cX9_grown 1 = .ok (.iconst 5, 1) := by decide +kernel
theorem dX9_grown_2 : decode cX9_grown 2 = .ok (.lshl, 1) := by decide +kernel
theorem dX9_grown_3 : decode cX9_grown 3 = .ok (.iload_n 2, 1) := by decide +kernel
theorem dX9_grown_4 : decode cX9_grown 4 = .ok (.bipush 97, 2) := by decide +kernel
theorem dX9_grown_6 : decode cX9_grown 6 = .ok (.isub, 1) := by decide +kernel
theorem dX9_grown_7 : decode cX9_grown 7 = .ok (.iconst 1, 1) := by decide +kernel
theorem dX9_grown_8 : decode cX9_grown 8 = .ok (.iadd, 1) := by decide +kernel
theorem dX9_grown_9 : decode cX9_grown 9 = .ok (.i2l, 1) := by decide +kernel
theorem dX9_grown_10 : decode cX9_grown 10 = .ok (.ladd, 1) := by decide +kernel
theorem dX9_grown_11 : decode cX9_grown 11 = .ok (.lreturn, 1) := by decide +kernel
def fX9_grown (y0 : Int64) (x2 : Int32) (μ : JM) : JO (Int64) := some (((jlshl y0 (5 : Int32)) + (((x2 - (97 : Int32)) + (1 : Int32))).toInt64), μ, 0, 0)
set_option maxHeartbeats 4000000 in
set_option maxRecDepth 100000 in
theorem mX9_grown {b : Nat} {y0 : Int64} {x2 : Int32} {μ : JM} {r : Int64} {ν : JM} {c m : Nat} (hf : fX9_grown y0 x2 μ = some (r, ν, c, m)) : JMet b yX9_grown cX9_grown 3 (some .long) 0 0 [.long y0, .int x2] μ (some (.long r)) ν c m := by
  refine JMet.of (by decide) (lg_sl_le (by simp only [List.map_cons, List.map_nil, List.sum_cons, List.sum_nil, va_rf_cat]; exact Nat.le_of_ble_eq_true rfl)) (fun Θ X hin => ?_)
  refine wa_eq (L2 := [(0, .long y0), (2, .int x2)]) ?_ rfl (by first | rfl | simp [lv_args, va_rf_cat, cat_i, cat_l]) rfl
  obtain ⟨k, hk0⟩ : ∃ k : Nat, k = 0 := ⟨0, rfl⟩
  obtain ⟨n, hn0⟩ : ∃ n : Nat, n = 0 := ⟨0, rfl⟩
  have hk : k + c = c := by omega
  have hn : n + m = m := by omega
  refine wa_costs hk0.symm hn0.symm ?_
  rw [fX9_grown] at hf
  refine wa_lload_n X 0 dX9_grown_0 rfl ?_
  refine wa_iconst (v := (5 : Int32)) X dX9_grown_1 (by decide) ?_
  refine wa_lshl X dX9_grown_2 ?_
  refine wa_iload_n X 1 dX9_grown_3 rfl ?_
  refine wa_bipush (v := (97 : Int32)) X dX9_grown_4 (by decide) ?_
  refine wa_isub X dX9_grown_6 ?_
  refine wa_iconst (v := (1 : Int32)) X dX9_grown_7 (by decide) ?_
  refine wa_iadd X dX9_grown_8 ?_
  refine wa_i2l X dX9_grown_9 ?_
  refine wa_ladd X dX9_grown_10 ?_
  obtain ⟨rfl, rfl, rfl, rfl⟩ := jret hf
  exact wa_lret X dX9_grown_11 (by omega) (by omega)
theorem dX9_init_0 : decode cX9_init 0 = .ok (.aload_n 0, 1) := by decide +kernel
theorem dX9_init_1 : decode cX9_init 1 = .ok (.invokespecial 3, 3) := by decide +kernel
theorem dX9_init_4 : decode cX9_init 4 = .ok (.aload_n 0, 1) := by decide +kernel
theorem dX9_init_5 : decode cX9_init 5 = .ok (.iload_n 1, 1) := by decide +kernel
theorem dX9_init_6 : decode cX9_init 6 = .ok (.iconst 0, 1) := by decide +kernel
theorem dX9_init_7 : decode cX9_init 7 = .ok (.invokestatic 9, 3) := by decide +kernel
theorem dX9_init_10 : decode cX9_init 10 = .ok (.newarray .long, 2) := by decide +kernel
theorem dX9_init_12 : decode cX9_init 12 = .ok (.putfield 15, 3) := by decide +kernel
theorem dX9_init_15 : decode cX9_init 15 = .ok (.return_, 1) := by decide +kernel
def fX9_init (a : Nat) (x1 : Int32) (μ : JM) : JO (Unit) := jck (decide (¬ (jmax x1 (0 : Int32)) < 0)) <| jck (decide (((jmax x1 (0 : Int32))).toNatClampNeg * 8 ≤ 536870912)) <| jnw μ 102 ((jmax x1 (0 : Int32))).toNatClampNeg fun q1 μ2 => jck ((jT μ2 a).1 == 10) <| jlt (jsP μ2 a 0 (some q1)) fun μ13 => some ((), μ13, 0, 0)
set_option maxHeartbeats 4000000 in
set_option maxRecDepth 100000 in
theorem mX9_init {b : Nat} {a : Nat} {x1 : Int32} {μ : JM} {r : Unit} {ν : JM} {c m : Nat} (hf : fX9_init a x1 μ = some (r, ν, c, m)) : JMet b yX9_init cX9_init 2 none 1 21 [va_rf (some a), .int x1] μ (none) ν c m := by
  refine JMet.of (by decide) (lg_sl_le (by simp only [List.map_cons, List.map_nil, List.sum_cons, List.sum_nil, va_rf_cat]; exact Nat.le_of_ble_eq_true rfl)) (fun Θ X hin => ?_)
  have hin := hin rfl
  refine wa_eq (L2 := [(0, va_rf (some a)), (1, .int x1)]) ?_ rfl (by first | rfl | simp [lv_args, va_rf_cat, cat_i, cat_l]) rfl
  obtain ⟨k, hk0⟩ : ∃ k : Nat, k = 0 := ⟨0, rfl⟩
  obtain ⟨n, hn0⟩ : ∃ n : Nat, n = 0 := ⟨0, rfl⟩
  have hk : k + c = c := by omega
  have hn : n + m = m := by omega
  refine wa_costs hk0.symm hn0.symm ?_
  rw [fX9_init] at hf
  refine wa_aload_n X 0 dX9_init_0 rfl ?_
  refine wa_robj X dX9_init_1 lmX9_3 lo_inst lo_code (by decide) (Nat.le_trans (Nat.add_le_add_right (va_cats (m := 8) (Nat.le_of_ble_eq_true rfl)) 12) (by decide)) rfl ?_
  refine wa_aload_n X 0 dX9_init_4 rfl ?_
  refine wa_iload_n X 1 dX9_init_5 rfl ?_
  refine wa_iconst (v := (0 : Int32)) X dX9_init_6 (by decide) ?_
  refine wa_mmax X dX9_init_7 lmX9_9 l9_smax ln_RJ9 l9_cmax (by decide) (Nat.le_trans (Nat.add_le_add_right (va_cats (m := 8) (Nat.le_of_ble_eq_true rfl)) 13) (by decide)) (by omega) (by omega) ?_
  obtain ⟨h10, hf⟩ := jckD hf
  obtain ⟨h11, hf⟩ := jckD hf
  obtain ⟨q1, μ2, c5, m6, h3, hm4, hf, h7, h8⟩ := jnw_some hf
  refine wa_newa (t := 102) (N := ((jmax x1 (0 : Int32))).toNatClampNeg) X dX9_init_10 (by decide) rfl la_102 h10 rfl h11 (by omega) (by omega) ?_
  rw [← h3, ← hm4]
  have h9 : (jT μ2 q1).1 = 102 := by rw [jT_at h3 hm4]
  obtain ⟨h12, hf⟩ := jckT hf
  obtain ⟨μ13, hm14, hf⟩ := jlt_e hf
  have e15 : jT μ13 = jT μ2 := by rw [hm14]; rfl
  refine wa_rputFP (ν := μ13) X hin dX9_init_12 lfX9_15 rfl h12 (by first | exact Or.inl ⟨_, rfl⟩ | exact Or.inr ⟨_, rfl⟩) rfl rfl hm14 ?_
  obtain ⟨rfl, rfl, rfl, rfl⟩ := jret hf
  exact wa_vret X dX9_init_15 (by omega) (by omega)
theorem dJ6_bitCount_0f7a4_0 : decode cJ6_bitCount_0f7a4 0 = .ok (.iload_n 0, 1) := by decide +kernel
theorem dJ6_bitCount_0f7a4_1 : decode cJ6_bitCount_0f7a4 1 = .ok (.iload_n 0, 1) := by decide +kernel
theorem dJ6_bitCount_0f7a4_2 : decode cJ6_bitCount_0f7a4 2 = .ok (.iconst 1, 1) := by decide +kernel
theorem dJ6_bitCount_0f7a4_3 : decode cJ6_bitCount_0f7a4 3 = .ok (.iushr, 1) := by decide +kernel
theorem dJ6_bitCount_0f7a4_4 : decode cJ6_bitCount_0f7a4 4 = .ok (.ldc_w 265, 3) := by decide +kernel
theorem dJ6_bitCount_0f7a4_7 : decode cJ6_bitCount_0f7a4 7 = .ok (.iand, 1) := by decide +kernel
theorem dJ6_bitCount_0f7a4_8 : decode cJ6_bitCount_0f7a4 8 = .ok (.isub, 1) := by decide +kernel
theorem dJ6_bitCount_0f7a4_9 : decode cJ6_bitCount_0f7a4 9 = .ok (.istore_n 0, 1) := by decide +kernel
theorem dJ6_bitCount_0f7a4_10 : decode cJ6_bitCount_0f7a4 10 = .ok (.iload_n 0, 1) := by decide +kernel
theorem dJ6_bitCount_0f7a4_11 : decode cJ6_bitCount_0f7a4 11 = .ok (.ldc_w 266, 3) := by decide +kernel
theorem dJ6_bitCount_0f7a4_14 : decode cJ6_bitCount_0f7a4 14 = .ok (.iand, 1) := by decide +kernel
theorem dJ6_bitCount_0f7a4_15 : decode cJ6_bitCount_0f7a4 15 = .ok (.iload_n 0, 1) := by decide +kernel
theorem dJ6_bitCount_0f7a4_16 : decode cJ6_bitCount_0f7a4 16 = .ok (.iconst 2, 1) := by decide +kernel
theorem dJ6_bitCount_0f7a4_17 : decode cJ6_bitCount_0f7a4 17 = .ok (.iushr, 1) := by decide +kernel
theorem dJ6_bitCount_0f7a4_18 : decode cJ6_bitCount_0f7a4 18 = .ok (.ldc_w 266, 3) := by decide +kernel
theorem dJ6_bitCount_0f7a4_21 : decode cJ6_bitCount_0f7a4 21 = .ok (.iand, 1) := by decide +kernel
theorem dJ6_bitCount_0f7a4_22 : decode cJ6_bitCount_0f7a4 22 = .ok (.iadd, 1) := by decide +kernel
theorem dJ6_bitCount_0f7a4_23 : decode cJ6_bitCount_0f7a4 23 = .ok (.istore_n 0, 1) := by decide +kernel
theorem dJ6_bitCount_0f7a4_24 : decode cJ6_bitCount_0f7a4 24 = .ok (.iload_n 0, 1) := by decide +kernel
theorem dJ6_bitCount_0f7a4_25 : decode cJ6_bitCount_0f7a4 25 = .ok (.iload_n 0, 1) := by decide +kernel
theorem dJ6_bitCount_0f7a4_26 : decode cJ6_bitCount_0f7a4 26 = .ok (.iconst 4, 1) := by decide +kernel
theorem dJ6_bitCount_0f7a4_27 : decode cJ6_bitCount_0f7a4 27 = .ok (.iushr, 1) := by decide +kernel
theorem dJ6_bitCount_0f7a4_28 : decode cJ6_bitCount_0f7a4 28 = .ok (.iadd, 1) := by decide +kernel
theorem dJ6_bitCount_0f7a4_29 : decode cJ6_bitCount_0f7a4 29 = .ok (.ldc_w 267, 3) := by decide +kernel
theorem dJ6_bitCount_0f7a4_32 : decode cJ6_bitCount_0f7a4 32 = .ok (.iand, 1) := by decide +kernel
theorem dJ6_bitCount_0f7a4_33 : decode cJ6_bitCount_0f7a4 33 = .ok (.istore_n 0, 1) := by decide +kernel
theorem dJ6_bitCount_0f7a4_34 : decode cJ6_bitCount_0f7a4 34 = .ok (.iload_n 0, 1) := by decide +kernel
theorem dJ6_bitCount_0f7a4_35 : decode cJ6_bitCount_0f7a4 35 = .ok (.iload_n 0, 1) := by decide +kernel
theorem dJ6_bitCount_0f7a4_36 : decode cJ6_bitCount_0f7a4 36 = .ok (.bipush 8, 2) := by decide +kernel
theorem dJ6_bitCount_0f7a4_38 : decode cJ6_bitCount_0f7a4 38 = .ok (.iushr, 1) := by decide +kernel
theorem dJ6_bitCount_0f7a4_39 : decode cJ6_bitCount_0f7a4 39 = .ok (.iadd, 1) := by decide +kernel
theorem dJ6_bitCount_0f7a4_40 : decode cJ6_bitCount_0f7a4 40 = .ok (.istore_n 0, 1) := by decide +kernel
theorem dJ6_bitCount_0f7a4_41 : decode cJ6_bitCount_0f7a4 41 = .ok (.iload_n 0, 1) := by decide +kernel
theorem dJ6_bitCount_0f7a4_42 : decode cJ6_bitCount_0f7a4 42 = .ok (.iload_n 0, 1) := by decide +kernel
theorem dJ6_bitCount_0f7a4_43 : decode cJ6_bitCount_0f7a4 43 = .ok (.bipush 16, 2) := by decide +kernel
theorem dJ6_bitCount_0f7a4_45 : decode cJ6_bitCount_0f7a4 45 = .ok (.iushr, 1) := by decide +kernel
theorem dJ6_bitCount_0f7a4_46 : decode cJ6_bitCount_0f7a4 46 = .ok (.iadd, 1) := by decide +kernel
theorem dJ6_bitCount_0f7a4_47 : decode cJ6_bitCount_0f7a4 47 = .ok (.istore_n 0, 1) := by decide +kernel
theorem dJ6_bitCount_0f7a4_48 : decode cJ6_bitCount_0f7a4 48 = .ok (.iload_n 0, 1) := by decide +kernel
theorem dJ6_bitCount_0f7a4_49 : decode cJ6_bitCount_0f7a4 49 = .ok (.bipush 63, 2) := by decide +kernel
theorem dJ6_bitCount_0f7a4_51 : decode cJ6_bitCount_0f7a4 51 = .ok (.iand, 1) := by decide +kernel
theorem dJ6_bitCount_0f7a4_52 : decode cJ6_bitCount_0f7a4 52 = .ok (.ireturn, 1) := by decide +kernel
def fJ6_bitCount_0f7a4 (x0 : Int32) (μ : JM) : JO (Int32) := some (((((((((x0 - ((jushr x0 (1 : Int32)) &&& (1431655765 : Int32))) &&& (858993459 : Int32)) + ((jushr (x0 - ((jushr x0 (1 : Int32)) &&& (1431655765 : Int32))) (2 : Int32)) &&& (858993459 : Int32))) + (jushr (((x0 - ((jushr x0 (1 : Int32)) &&& (1431655765 : Int32))) &&& (858993459 : Int32)) + ((jushr (x0 - ((jushr x0 (1 : Int32)) &&& (1431655765 : Int32))) (2 : Int32)) &&& (858993459 : Int32))) (4 : Int32))) &&& (252645135 : Int32)) + (jushr (((((x0 - ((jushr x0 (1 : Int32)) &&& (1431655765 : Int32))) &&& (858993459 : Int32)) + ((jushr (x0 - ((jushr x0 (1 : Int32)) &&& (1431655765 : Int32))) (2 : Int32)) &&& (858993459 : Int32))) + (jushr (((x0 - ((jushr x0 (1 : Int32)) &&& (1431655765 : Int32))) &&& (858993459 : Int32)) + ((jushr (x0 - ((jushr x0 (1 : Int32)) &&& (1431655765 : Int32))) (2 : Int32)) &&& (858993459 : Int32))) (4 : Int32))) &&& (252645135 : Int32)) (8 : Int32))) + (jushr ((((((x0 - ((jushr x0 (1 : Int32)) &&& (1431655765 : Int32))) &&& (858993459 : Int32)) + ((jushr (x0 - ((jushr x0 (1 : Int32)) &&& (1431655765 : Int32))) (2 : Int32)) &&& (858993459 : Int32))) + (jushr (((x0 - ((jushr x0 (1 : Int32)) &&& (1431655765 : Int32))) &&& (858993459 : Int32)) + ((jushr (x0 - ((jushr x0 (1 : Int32)) &&& (1431655765 : Int32))) (2 : Int32)) &&& (858993459 : Int32))) (4 : Int32))) &&& (252645135 : Int32)) + (jushr (((((x0 - ((jushr x0 (1 : Int32)) &&& (1431655765 : Int32))) &&& (858993459 : Int32)) + ((jushr (x0 - ((jushr x0 (1 : Int32)) &&& (1431655765 : Int32))) (2 : Int32)) &&& (858993459 : Int32))) + (jushr (((x0 - ((jushr x0 (1 : Int32)) &&& (1431655765 : Int32))) &&& (858993459 : Int32)) + ((jushr (x0 - ((jushr x0 (1 : Int32)) &&& (1431655765 : Int32))) (2 : Int32)) &&& (858993459 : Int32))) (4 : Int32))) &&& (252645135 : Int32)) (8 : Int32))) (16 : Int32))) &&& (63 : Int32)), μ, 0, 0)
set_option maxHeartbeats 4000000 in
set_option maxRecDepth 100000 in
theorem mJ6_bitCount_0f7a4 {b : Nat} {x0 : Int32} {μ : JM} {r : Int32} {ν : JM} {c m : Nat} (hf : fJ6_bitCount_0f7a4 x0 μ = some (r, ν, c, m)) : JMet b yJ6_bitCount_0f7a4 cJ6_bitCount_0f7a4 1 (some .int) 0 0 [.int x0] μ (some (.int r)) ν c m := by
  refine JMet.of (by decide) (lg_sl_le (by simp only [List.map_cons, List.map_nil, List.sum_cons, List.sum_nil, va_rf_cat]; exact Nat.le_of_ble_eq_true rfl)) (fun Θ X hin => ?_)
  refine wa_eq (L2 := [(0, .int x0)]) ?_ rfl (by first | rfl | simp [lv_args, va_rf_cat, cat_i, cat_l]) rfl
  obtain ⟨k, hk0⟩ : ∃ k : Nat, k = 0 := ⟨0, rfl⟩
  obtain ⟨n, hn0⟩ : ∃ n : Nat, n = 0 := ⟨0, rfl⟩
  have hk : k + c = c := by omega
  have hn : n + m = m := by omega
  refine wa_costs hk0.symm hn0.symm ?_
  rw [fJ6_bitCount_0f7a4] at hf
  refine wa_iload_n X 0 dJ6_bitCount_0f7a4_0 rfl ?_
  refine wa_iload_n X 0 dJ6_bitCount_0f7a4_1 rfl ?_
  refine wa_iconst (v := (1 : Int32)) X dJ6_bitCount_0f7a4_2 (by decide) ?_
  refine wa_iushr X dJ6_bitCount_0f7a4_3 ?_
  refine wa_ldcw (v := (1431655765 : Int32)) X dJ6_bitCount_0f7a4_4 lkJ6_265 ?_
  refine wa_iand X dJ6_bitCount_0f7a4_7 ?_
  refine wa_isub X dJ6_bitCount_0f7a4_8 ?_
  refine wa_istore_n (L2 := [(0, .int (x0 - ((jushr x0 (1 : Int32)) &&& (1431655765 : Int32))))]) X dJ6_bitCount_0f7a4_9 (by decide) (by first | rfl | (show (0, _) :: List.filter (fun q : Nat × Value => !(q.1 == 0) && !(q.1 + 1 == 0 && q.2.category == 2)) _ = _; simp [va_rf_cat, cat_i, cat_l])) ?_
  refine wa_iload_n X 0 dJ6_bitCount_0f7a4_10 rfl ?_
  refine wa_ldcw (v := (858993459 : Int32)) X dJ6_bitCount_0f7a4_11 lkJ6_266 ?_
  refine wa_iand X dJ6_bitCount_0f7a4_14 ?_
  refine wa_iload_n X 0 dJ6_bitCount_0f7a4_15 rfl ?_
  refine wa_iconst (v := (2 : Int32)) X dJ6_bitCount_0f7a4_16 (by decide) ?_
  refine wa_iushr X dJ6_bitCount_0f7a4_17 ?_
  refine wa_ldcw (v := (858993459 : Int32)) X dJ6_bitCount_0f7a4_18 lkJ6_266 ?_
  refine wa_iand X dJ6_bitCount_0f7a4_21 ?_
  refine wa_iadd X dJ6_bitCount_0f7a4_22 ?_
  refine wa_istore_n (L2 := [(0, .int (((x0 - ((jushr x0 (1 : Int32)) &&& (1431655765 : Int32))) &&& (858993459 : Int32)) + ((jushr (x0 - ((jushr x0 (1 : Int32)) &&& (1431655765 : Int32))) (2 : Int32)) &&& (858993459 : Int32))))]) X dJ6_bitCount_0f7a4_23 (by decide) (by first | rfl | (show (0, _) :: List.filter (fun q : Nat × Value => !(q.1 == 0) && !(q.1 + 1 == 0 && q.2.category == 2)) _ = _; simp [va_rf_cat, cat_i, cat_l])) ?_
  refine wa_iload_n X 0 dJ6_bitCount_0f7a4_24 rfl ?_
  refine wa_iload_n X 0 dJ6_bitCount_0f7a4_25 rfl ?_
  refine wa_iconst (v := (4 : Int32)) X dJ6_bitCount_0f7a4_26 (by decide) ?_
  refine wa_iushr X dJ6_bitCount_0f7a4_27 ?_
  refine wa_iadd X dJ6_bitCount_0f7a4_28 ?_
  refine wa_ldcw (v := (252645135 : Int32)) X dJ6_bitCount_0f7a4_29 lkJ6_267 ?_
  refine wa_iand X dJ6_bitCount_0f7a4_32 ?_
  refine wa_istore_n (L2 := [(0, .int (((((x0 - ((jushr x0 (1 : Int32)) &&& (1431655765 : Int32))) &&& (858993459 : Int32)) + ((jushr (x0 - ((jushr x0 (1 : Int32)) &&& (1431655765 : Int32))) (2 : Int32)) &&& (858993459 : Int32))) + (jushr (((x0 - ((jushr x0 (1 : Int32)) &&& (1431655765 : Int32))) &&& (858993459 : Int32)) + ((jushr (x0 - ((jushr x0 (1 : Int32)) &&& (1431655765 : Int32))) (2 : Int32)) &&& (858993459 : Int32))) (4 : Int32))) &&& (252645135 : Int32)))]) X dJ6_bitCount_0f7a4_33 (by decide) (by first | rfl | (show (0, _) :: List.filter (fun q : Nat × Value => !(q.1 == 0) && !(q.1 + 1 == 0 && q.2.category == 2)) _ = _; simp [va_rf_cat, cat_i, cat_l])) ?_
  refine wa_iload_n X 0 dJ6_bitCount_0f7a4_34 rfl ?_
  refine wa_iload_n X 0 dJ6_bitCount_0f7a4_35 rfl ?_
  refine wa_bipush (v := (8 : Int32)) X dJ6_bitCount_0f7a4_36 (by decide) ?_
  refine wa_iushr X dJ6_bitCount_0f7a4_38 ?_
  refine wa_iadd X dJ6_bitCount_0f7a4_39 ?_
  refine wa_istore_n (L2 := [(0, .int ((((((x0 - ((jushr x0 (1 : Int32)) &&& (1431655765 : Int32))) &&& (858993459 : Int32)) + ((jushr (x0 - ((jushr x0 (1 : Int32)) &&& (1431655765 : Int32))) (2 : Int32)) &&& (858993459 : Int32))) + (jushr (((x0 - ((jushr x0 (1 : Int32)) &&& (1431655765 : Int32))) &&& (858993459 : Int32)) + ((jushr (x0 - ((jushr x0 (1 : Int32)) &&& (1431655765 : Int32))) (2 : Int32)) &&& (858993459 : Int32))) (4 : Int32))) &&& (252645135 : Int32)) + (jushr (((((x0 - ((jushr x0 (1 : Int32)) &&& (1431655765 : Int32))) &&& (858993459 : Int32)) + ((jushr (x0 - ((jushr x0 (1 : Int32)) &&& (1431655765 : Int32))) (2 : Int32)) &&& (858993459 : Int32))) + (jushr (((x0 - ((jushr x0 (1 : Int32)) &&& (1431655765 : Int32))) &&& (858993459 : Int32)) + ((jushr (x0 - ((jushr x0 (1 : Int32)) &&& (1431655765 : Int32))) (2 : Int32)) &&& (858993459 : Int32))) (4 : Int32))) &&& (252645135 : Int32)) (8 : Int32))))]) X dJ6_bitCount_0f7a4_40 (by decide) (by first | rfl | (show (0, _) :: List.filter (fun q : Nat × Value => !(q.1 == 0) && !(q.1 + 1 == 0 && q.2.category == 2)) _ = _; simp [va_rf_cat, cat_i, cat_l])) ?_
  refine wa_iload_n X 0 dJ6_bitCount_0f7a4_41 rfl ?_
  refine wa_iload_n X 0 dJ6_bitCount_0f7a4_42 rfl ?_
  refine wa_bipush (v := (16 : Int32)) X dJ6_bitCount_0f7a4_43 (by decide) ?_
  refine wa_iushr X dJ6_bitCount_0f7a4_45 ?_
  refine wa_iadd X dJ6_bitCount_0f7a4_46 ?_
  refine wa_istore_n (L2 := [(0, .int (((((((x0 - ((jushr x0 (1 : Int32)) &&& (1431655765 : Int32))) &&& (858993459 : Int32)) + ((jushr (x0 - ((jushr x0 (1 : Int32)) &&& (1431655765 : Int32))) (2 : Int32)) &&& (858993459 : Int32))) + (jushr (((x0 - ((jushr x0 (1 : Int32)) &&& (1431655765 : Int32))) &&& (858993459 : Int32)) + ((jushr (x0 - ((jushr x0 (1 : Int32)) &&& (1431655765 : Int32))) (2 : Int32)) &&& (858993459 : Int32))) (4 : Int32))) &&& (252645135 : Int32)) + (jushr (((((x0 - ((jushr x0 (1 : Int32)) &&& (1431655765 : Int32))) &&& (858993459 : Int32)) + ((jushr (x0 - ((jushr x0 (1 : Int32)) &&& (1431655765 : Int32))) (2 : Int32)) &&& (858993459 : Int32))) + (jushr (((x0 - ((jushr x0 (1 : Int32)) &&& (1431655765 : Int32))) &&& (858993459 : Int32)) + ((jushr (x0 - ((jushr x0 (1 : Int32)) &&& (1431655765 : Int32))) (2 : Int32)) &&& (858993459 : Int32))) (4 : Int32))) &&& (252645135 : Int32)) (8 : Int32))) + (jushr ((((((x0 - ((jushr x0 (1 : Int32)) &&& (1431655765 : Int32))) &&& (858993459 : Int32)) + ((jushr (x0 - ((jushr x0 (1 : Int32)) &&& (1431655765 : Int32))) (2 : Int32)) &&& (858993459 : Int32))) + (jushr (((x0 - ((jushr x0 (1 : Int32)) &&& (1431655765 : Int32))) &&& (858993459 : Int32)) + ((jushr (x0 - ((jushr x0 (1 : Int32)) &&& (1431655765 : Int32))) (2 : Int32)) &&& (858993459 : Int32))) (4 : Int32))) &&& (252645135 : Int32)) + (jushr (((((x0 - ((jushr x0 (1 : Int32)) &&& (1431655765 : Int32))) &&& (858993459 : Int32)) + ((jushr (x0 - ((jushr x0 (1 : Int32)) &&& (1431655765 : Int32))) (2 : Int32)) &&& (858993459 : Int32))) + (jushr (((x0 - ((jushr x0 (1 : Int32)) &&& (1431655765 : Int32))) &&& (858993459 : Int32)) + ((jushr (x0 - ((jushr x0 (1 : Int32)) &&& (1431655765 : Int32))) (2 : Int32)) &&& (858993459 : Int32))) (4 : Int32))) &&& (252645135 : Int32)) (8 : Int32))) (16 : Int32))))]) X dJ6_bitCount_0f7a4_47 (by decide) (by first | rfl | (show (0, _) :: List.filter (fun q : Nat × Value => !(q.1 == 0) && !(q.1 + 1 == 0 && q.2.category == 2)) _ = _; simp [va_rf_cat, cat_i, cat_l])) ?_
  refine wa_iload_n X 0 dJ6_bitCount_0f7a4_48 rfl ?_
  refine wa_bipush (v := (63 : Int32)) X dJ6_bitCount_0f7a4_49 (by decide) ?_
  refine wa_iand X dJ6_bitCount_0f7a4_51 ?_
  obtain ⟨rfl, rfl, rfl, rfl⟩ := jret hf
  exact wa_iret X dJ6_bitCount_0f7a4_52 rfl (by omega) (by omega)
