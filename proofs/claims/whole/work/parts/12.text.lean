/-! functions and walks, by program -/
theorem dX7_token_0 : decode cX7_token 0 = .ok (.aload_n 0, 1) := by decide +kernel
theorem dX7_token_1 : decode cX7_token 1 = .ok (.getfield 27, 3) := by decide +kernel
theorem dX7_token_4 : decode cX7_token 4 = .ok (.aload_n 0, 1) := by decide +kernel
theorem dX7_token_5 : decode cX7_token 5 = .ok (.getfield 23, 3) := by decide +kernel
theorem dX7_token_8 : decode cX7_token 8 = .ok (.if_icmp .ge 15, 3) := by decide +kernel
theorem dX7_token_11 : decode cX7_token 11 = .ok (.aload_n 0, 1) := by decide +kernel
theorem dX7_token_12 : decode cX7_token 12 = .ok (.getfield 15, 3) := by decide +kernel
theorem dX7_token_15 : decode cX7_token 15 = .ok (.aload_n 0, 1) := by decide +kernel
theorem dX7_token_16 : decode cX7_token 16 = .ok (.getfield 27, 3) := by decide +kernel
theorem dX7_token_19 : decode cX7_token 19 = .ok (.laload, 1) := by decide +kernel
theorem dX7_token_20 : decode cX7_token 20 = .ok (.goto 4, 3) := by decide +kernel
theorem dX7_token_23 : decode cX7_token 23 = .ok (.lconst 0, 1) := by decide +kernel
theorem dX7_token_24 : decode cX7_token 24 = .ok (.lreturn, 1) := by decide +kernel
def fX7_token (a : Nat) (μ : JM) : JO (Int64) := jck ((jT μ a).1 == 8) <| if (jI μ a 3) ≤ (jI μ a 4) then (some ((0 : Int64), μ, 0, 0)) else (jde (jP μ a 1) fun q3 => jck ((jT μ q3).1 == 102) <| jck (jin (jI μ a 4) (jT μ q3).2) <| some ((jJ μ q3 ((jI μ a 4)).toNatClampNeg), μ, 0, 0))
set_option maxHeartbeats 4000000 in
set_option maxRecDepth 100000 in
theorem mX7_token {b : Nat} {a : Nat} {μ : JM} {r : Int64} {ν : JM} {c m : Nat} (hf : fX7_token a μ = some (r, ν, c, m)) : JMet b yX7_token cX7_token 1 (some .long) 0 0 [va_rf (some a)] μ (some (.long r)) ν c m := by
  refine JMet.of (by decide) (lg_sl_le (by simp only [List.map_cons, List.map_nil, List.sum_cons, List.sum_nil, va_rf_cat]; exact Nat.le_of_ble_eq_true rfl)) (fun Θ X hin => ?_)
  refine wa_eq (L2 := [(0, va_rf (some a))]) ?_ rfl (by first | rfl | simp [lv_args, va_rf_cat, cat_i, cat_l]) rfl
  obtain ⟨k, hk0⟩ : ∃ k : Nat, k = 0 := ⟨0, rfl⟩
  obtain ⟨n, hn0⟩ : ∃ n : Nat, n = 0 := ⟨0, rfl⟩
  have hk : k + c = c := by omega
  have hn : n + m = m := by omega
  refine wa_costs hk0.symm hn0.symm ?_
  rw [fX7_token] at hf
  refine wa_aload_n X 0 dX7_token_0 rfl ?_
  obtain ⟨h1, hf⟩ := jckT hf
  refine wa_getI X dX7_token_1 lfX7_27 rfl h1 rfl ?_
  refine wa_aload_n X 0 dX7_token_4 rfl ?_
  refine wa_getI X dX7_token_5 lfX7_23 rfl h1 rfl ?_
  refine wa_icge (tgt := 23) X dX7_token_8 (by decide) (fun h2 => ?_) (fun h2 => ?_)
  · rw [if_pos h2] at hf
    refine wa_lconst (v := (0 : Int64)) X dX7_token_23 (by decide) ?_
    obtain ⟨rfl, rfl, rfl, rfl⟩ := jret hf
    exact wa_lret X dX7_token_24 (by omega) (by omega)
  · rw [if_neg h2] at hf
    refine wa_aload_n X 0 dX7_token_11 rfl ?_
    refine wa_getP X dX7_token_12 lfX7_15 rfl h1 rfl ?_
    refine wa_aload_n X 0 dX7_token_15 rfl ?_
    refine wa_getI X dX7_token_16 lfX7_27 rfl h1 rfl ?_
    obtain ⟨q3, h4, hf⟩ := jde_some hf
    obtain ⟨h5, hf⟩ := jckT hf
    obtain ⟨h6, hf⟩ := jck_some hf
    refine wa_rlald X dX7_token_19 h4 h5 h6 ?_
    refine wa_goto (tgt := 24) X dX7_token_20 (by decide) ?_
    obtain ⟨rfl, rfl, rfl, rfl⟩ := jret hf
    exact wa_lret X dX7_token_24 (by omega) (by omega)
theorem dX7_fail_0 : decode cX7_fail 0 = .ok (.aload_n 0, 1) := by decide +kernel
theorem dX7_fail_1 : decode cX7_fail 1 = .ok (.getfield 30, 3) := by decide +kernel
theorem dX7_fail_4 : decode cX7_fail 4 = .ok (.ifCond .ne 64, 3) := by decide +kernel
theorem dX7_fail_7 : decode cX7_fail 7 = .ok (.aload_n 0, 1) := by decide +kernel
theorem dX7_fail_8 : decode cX7_fail 8 = .ok (.getfield 27, 3) := by decide +kernel
theorem dX7_fail_11 : decode cX7_fail 11 = .ok (.aload_n 0, 1) := by decide +kernel
theorem dX7_fail_12 : decode cX7_fail 12 = .ok (.getfield 23, 3) := by decide +kernel
theorem dX7_fail_15 : decode cX7_fail 15 = .ok (.if_icmp .ge 23, 3) := by decide +kernel
theorem dX7_fail_18 : decode cX7_fail 18 = .ok (.aload_n 0, 1) := by decide +kernel
theorem dX7_fail_19 : decode cX7_fail 19 = .ok (.getfield 15, 3) := by decide +kernel
theorem dX7_fail_22 : decode cX7_fail 22 = .ok (.aload_n 0, 1) := by decide +kernel
theorem dX7_fail_23 : decode cX7_fail 23 = .ok (.getfield 27, 3) := by decide +kernel
theorem dX7_fail_26 : decode cX7_fail 26 = .ok (.laload, 1) := by decide +kernel
theorem dX7_fail_27 : decode cX7_fail 27 = .ok (.ldc2_w 68, 3) := by decide +kernel
theorem dX7_fail_30 : decode cX7_fail 30 = .ok (.lcmp, 1) := by decide +kernel
theorem dX7_fail_31 : decode cX7_fail 31 = .ok (.ifCond .ne 7, 3) := by decide +kernel
theorem dX7_fail_34 : decode cX7_fail 34 = .ok (.iconst 1, 1) := by decide +kernel
theorem dX7_fail_35 : decode cX7_fail 35 = .ok (.goto 4, 3) := by decide +kernel
theorem dX7_fail_38 : decode cX7_fail 38 = .ok (.iconst 0, 1) := by decide +kernel
theorem dX7_fail_39 : decode cX7_fail 39 = .ok (.istore_n 2, 1) := by decide +kernel
theorem dX7_fail_40 : decode cX7_fail 40 = .ok (.aload_n 0, 1) := by decide +kernel
theorem dX7_fail_41 : decode cX7_fail 41 = .ok (.iconst 1, 1) := by decide +kernel
theorem dX7_fail_42 : decode cX7_fail 42 = .ok (.aload_n 0, 1) := by decide +kernel
theorem dX7_fail_43 : decode cX7_fail 43 = .ok (.getfield 19, 3) := by decide +kernel
theorem dX7_fail_46 : decode cX7_fail 46 = .ok (.aload_n 0, 1) := by decide +kernel
theorem dX7_fail_47 : decode cX7_fail 47 = .ok (.getfield 27, 3) := by decide +kernel
theorem dX7_fail_50 : decode cX7_fail 50 = .ok (.iaload, 1) := by decide +kernel
theorem dX7_fail_51 : decode cX7_fail 51 = .ok (.bipush 8, 2) := by decide +kernel
theorem dX7_fail_53 : decode cX7_fail 53 = .ok (.imul, 1) := by decide +kernel
theorem dX7_fail_54 : decode cX7_fail 54 = .ok (.iadd, 1) := by decide +kernel
theorem dX7_fail_55 : decode cX7_fail 55 = .ok (.iload_n 2, 1) := by decide +kernel
theorem dX7_fail_56 : decode cX7_fail 56 = .ok (.ifCond .eq 7, 3) := by decide +kernel
theorem dX7_fail_59 : decode cX7_fail 59 = .ok (.iconst 1, 1) := by decide +kernel
theorem dX7_fail_60 : decode cX7_fail 60 = .ok (.goto 4, 3) := by decide +kernel
theorem dX7_fail_63 : decode cX7_fail 63 = .ok (.iload_n 1, 1) := by decide +kernel
theorem dX7_fail_64 : decode cX7_fail 64 = .ok (.iadd, 1) := by decide +kernel
theorem dX7_fail_65 : decode cX7_fail 65 = .ok (.putfield 30, 3) := by decide +kernel
theorem dX7_fail_68 : decode cX7_fail 68 = .ok (.iconst 0, 1) := by decide +kernel
theorem dX7_fail_69 : decode cX7_fail 69 = .ok (.ireturn, 1) := by decide +kernel
def fX7_fail_b39 (a : Nat) (x1 : Int32) (s0 : Int32) (μ : JM) : JO (Int32) := jck ((jT μ a).1 == 8) <| jde (jP μ a 2) fun q10 => jck ((jT μ q10).1 == 101) <| jck (jin (jI μ a 4) (jT μ q10).2) <| if s0 = 0 then (jlt (jsI μ a 5 (((1 : Int32) + ((jI μ q10 ((jI μ a 4)).toNatClampNeg) * (8 : Int32))) + x1)) fun μ15 => some ((0 : Int32), μ15, 0, 0)) else (jlt (jsI μ a 5 (((1 : Int32) + ((jI μ q10 ((jI μ a 4)).toNatClampNeg) * (8 : Int32))) + (1 : Int32))) fun μ18 => some ((0 : Int32), μ18, 0, 0))
set_option maxHeartbeats 4000000 in
set_option maxRecDepth 100000 in
theorem gX7_fail_b39 {b : Nat} {Θ : JE} {RC RS : Nat} {r : Int32} {ν : JM} (X : jX b Θ RX7 cX7_fail 3 (some .boolean) 0 0 RC RS) (a : Nat) (x1 : Int32) (s0 : Int32) (μ : JM) (c m k n : Nat) (hf : fX7_fail_b39 a x1 s0 μ = some (r, ν, c, m)) (hk : k + c = RC) (hn : n + m = RS) : WA b Θ 3 (jE b Θ (some (.int r)) ν RC RS) μ k n 39 [(0, va_rf (some a)), (1, .int x1)] [.int s0] := by
  rw [fX7_fail_b39] at hf
  refine wa_istore_n (L2 := [(2, .int s0), (0, va_rf (some a)), (1, .int x1)]) X dX7_fail_39 (by decide) (by first | rfl | (show (2, _) :: List.filter (fun q : Nat × Value => !(q.1 == 2) && !(q.1 + 1 == 2 && q.2.category == 2)) _ = _; simp [va_rf_cat, cat_i, cat_l])) ?_
  refine wa_aload_n X 1 dX7_fail_40 rfl ?_
  refine wa_iconst (v := (1 : Int32)) X dX7_fail_41 (by decide) ?_
  refine wa_aload_n X 1 dX7_fail_42 rfl ?_
  obtain ⟨h9, hf⟩ := jckT hf
  refine wa_getP X dX7_fail_43 lfX7_19 rfl h9 rfl ?_
  refine wa_aload_n X 1 dX7_fail_46 rfl ?_
  refine wa_getI X dX7_fail_47 lfX7_27 rfl h9 rfl ?_
  obtain ⟨q10, h11, hf⟩ := jde_some hf
  obtain ⟨h12, hf⟩ := jckT hf
  obtain ⟨h13, hf⟩ := jck_some hf
  refine wa_riald X dX7_fail_50 h11 h12 h13 ?_
  refine wa_bipush (v := (8 : Int32)) X dX7_fail_51 (by decide) ?_
  refine wa_imul X dX7_fail_53 ?_
  refine wa_iadd X dX7_fail_54 ?_
  refine wa_iload_n X 0 dX7_fail_55 rfl ?_
  refine wa_ifeq (tgt := 63) X dX7_fail_56 (by decide) (fun h14 => ?_) (fun h14 => ?_)
  · rw [if_pos h14] at hf
    refine wa_iload_n X 2 dX7_fail_63 rfl ?_
    refine wa_iadd X dX7_fail_64 ?_
    obtain ⟨μ15, hm16, hf⟩ := jlt_e hf
    have e17 : jT μ15 = jT μ := by rw [hm16]; rfl
    refine wa_rputI (ν := μ15) X dX7_fail_65 lfX7_30 rfl h9 rfl rfl hm16 ?_
    refine wa_iconst (v := (0 : Int32)) X dX7_fail_68 (by decide) ?_
    obtain ⟨rfl, rfl, rfl, rfl⟩ := jret hf
    exact wa_iret X dX7_fail_69 rfl (by omega) (by omega)
  · rw [if_neg h14] at hf
    refine wa_iconst (v := (1 : Int32)) X dX7_fail_59 (by decide) ?_
    refine wa_goto (tgt := 64) X dX7_fail_60 (by decide) ?_
    refine wa_iadd X dX7_fail_64 ?_
    obtain ⟨μ18, hm19, hf⟩ := jlt_e hf
    have e20 : jT μ18 = jT μ := by rw [hm19]; rfl
    refine wa_rputI (ν := μ18) X dX7_fail_65 lfX7_30 rfl h9 rfl rfl hm19 ?_
    refine wa_iconst (v := (0 : Int32)) X dX7_fail_68 (by decide) ?_
    obtain ⟨rfl, rfl, rfl, rfl⟩ := jret hf
    exact wa_iret X dX7_fail_69 rfl (by omega) (by omega)
def fX7_fail_b38 (a : Nat) (x1 : Int32) (μ : JM) : JO (Int32) := fX7_fail_b39  a x1 (0 : Int32) μ
set_option maxHeartbeats 4000000 in
set_option maxRecDepth 100000 in
theorem gX7_fail_b38 {b : Nat} {Θ : JE} {RC RS : Nat} {r : Int32} {ν : JM} (X : jX b Θ RX7 cX7_fail 3 (some .boolean) 0 0 RC RS) (a : Nat) (x1 : Int32) (μ : JM) (c m k n : Nat) (hf : fX7_fail_b38 a x1 μ = some (r, ν, c, m)) (hk : k + c = RC) (hn : n + m = RS) : WA b Θ 3 (jE b Θ (some (.int r)) ν RC RS) μ k n 38 [(0, va_rf (some a)), (1, .int x1)] [] := by
  rw [fX7_fail_b38] at hf
  refine wa_iconst (v := (0 : Int32)) X dX7_fail_38 (by decide) ?_
  refine wa_sub (L2 := [(0, va_rf (some a)), (1, .int x1)]) [0, 1] rfl ?_
  exact gX7_fail_b39 X a x1 (0 : Int32) μ _ _ _ _ hf (by omega) (by omega)
def fX7_fail (a : Nat) (x1 : Int32) (μ : JM) : JO (Int32) := jck ((jT μ a).1 == 8) <| if (jI μ a 5) = 0 then (if (jI μ a 3) ≤ (jI μ a 4) then (fX7_fail_b38  a x1 μ) else (jde (jP μ a 1) fun q4 => jck ((jT μ q4).1 == 102) <| jck (jin (jI μ a 4) (jT μ q4).2) <| if (lg_cmp (jJ μ q4 ((jI μ a 4)).toNatClampNeg) (-2000 : Int64)) = 0 then (fX7_fail_b39  a x1 (1 : Int32) μ) else (fX7_fail_b38  a x1 μ))) else (some ((0 : Int32), μ, 0, 0))
set_option maxHeartbeats 4000000 in
set_option maxRecDepth 100000 in
theorem mX7_fail {b : Nat} {a : Nat} {x1 : Int32} {μ : JM} {r : Int32} {ν : JM} {c m : Nat} (hf : fX7_fail a x1 μ = some (r, ν, c, m)) : JMet b yX7_fail cX7_fail 3 (some .boolean) 0 0 [va_rf (some a), .int x1] μ (some (.int r)) ν c m := by
  refine JMet.of (by decide) (lg_sl_le (by simp only [List.map_cons, List.map_nil, List.sum_cons, List.sum_nil, va_rf_cat]; exact Nat.le_of_ble_eq_true rfl)) (fun Θ X hin => ?_)
  refine wa_eq (L2 := [(0, va_rf (some a)), (1, .int x1)]) ?_ rfl (by first | rfl | simp [lv_args, va_rf_cat, cat_i, cat_l]) rfl
  obtain ⟨k, hk0⟩ : ∃ k : Nat, k = 0 := ⟨0, rfl⟩
  obtain ⟨n, hn0⟩ : ∃ n : Nat, n = 0 := ⟨0, rfl⟩
  have hk : k + c = c := by omega
  have hn : n + m = m := by omega
  refine wa_costs hk0.symm hn0.symm ?_
  rw [fX7_fail] at hf
  refine wa_aload_n X 0 dX7_fail_0 rfl ?_
  obtain ⟨h1, hf⟩ := jckT hf
  refine wa_getI X dX7_fail_1 lfX7_30 rfl h1 rfl ?_
  refine wa_ifne (tgt := 68) X dX7_fail_4 (by decide) (fun h2 => ?_) (fun h2 => ?_)
  · rw [if_neg h2] at hf
    refine wa_iconst (v := (0 : Int32)) X dX7_fail_68 (by decide) ?_
    obtain ⟨rfl, rfl, rfl, rfl⟩ := jret hf
    exact wa_iret X dX7_fail_69 rfl (by omega) (by omega)
  · rw [if_pos h2] at hf
    refine wa_aload_n X 0 dX7_fail_7 rfl ?_
    refine wa_getI X dX7_fail_8 lfX7_27 rfl h1 rfl ?_
    refine wa_aload_n X 0 dX7_fail_11 rfl ?_
    refine wa_getI X dX7_fail_12 lfX7_23 rfl h1 rfl ?_
    refine wa_icge (tgt := 38) X dX7_fail_15 (by decide) (fun h3 => ?_) (fun h3 => ?_)
    · rw [if_pos h3] at hf
      refine wa_sub (L2 := [(0, va_rf (some a)), (1, .int x1)]) [0, 1] rfl ?_
      exact gX7_fail_b38 X a x1 μ _ _ _ _ hf (by omega) (by omega)
    · rw [if_neg h3] at hf
      refine wa_aload_n X 0 dX7_fail_18 rfl ?_
      refine wa_getP X dX7_fail_19 lfX7_15 rfl h1 rfl ?_
      refine wa_aload_n X 0 dX7_fail_22 rfl ?_
      refine wa_getI X dX7_fail_23 lfX7_27 rfl h1 rfl ?_
      obtain ⟨q4, h5, hf⟩ := jde_some hf
      obtain ⟨h6, hf⟩ := jckT hf
      obtain ⟨h7, hf⟩ := jck_some hf
      refine wa_rlald X dX7_fail_26 h5 h6 h7 ?_
      refine wa_ldc2 (v := (-2000 : Int64)) X dX7_fail_27 lkX7_68 ?_
      refine wa_lcmp X dX7_fail_30 ?_
      refine wa_ifne (tgt := 38) X dX7_fail_31 (by decide) (fun h8 => ?_) (fun h8 => ?_)
      · rw [if_neg h8] at hf
        refine wa_sub (L2 := [(0, va_rf (some a)), (1, .int x1)]) [0, 1] rfl ?_
        exact gX7_fail_b38 X a x1 μ _ _ _ _ hf (by omega) (by omega)
      · rw [if_pos h8] at hf
        refine wa_iconst (v := (1 : Int32)) X dX7_fail_34 (by decide) ?_
        refine wa_goto (tgt := 39) X dX7_fail_35 (by decide) ?_
        refine wa_sub (L2 := [(0, va_rf (some a)), (1, .int x1)]) [0, 1] rfl ?_
        exact gX7_fail_b39 X a x1 (1 : Int32) μ _ _ _ _ hf (by omega) (by omega)
theorem dX7_step_0 : decode cX7_step 0 = .ok (.aload_n 0, 1) := by decide +kernel
theorem dX7_step_1 : decode cX7_step 1 = .ok (.getfield 27, 3) := by decide +kernel
theorem dX7_step_4 : decode cX7_step 4 = .ok (.aload_n 0, 1) := by decide +kernel
theorem dX7_step_5 : decode cX7_step 5 = .ok (.getfield 23, 3) := by decide +kernel
theorem dX7_step_8 : decode cX7_step 8 = .ok (.if_icmp .ge 13, 3) := by decide +kernel
theorem dX7_step_11 : decode cX7_step 11 = .ok (.aload_n 0, 1) := by decide +kernel
theorem dX7_step_12 : decode cX7_step 12 = .ok (.dup, 1) := by decide +kernel
theorem dX7_step_13 : decode cX7_step 13 = .ok (.getfield 27, 3) := by decide +kernel
theorem dX7_step_16 : decode cX7_step 16 = .ok (.iconst 1, 1) := by decide +kernel
theorem dX7_step_17 : decode cX7_step 17 = .ok (.iadd, 1) := by decide +kernel
theorem dX7_step_18 : decode cX7_step 18 = .ok (.putfield 27, 3) := by decide +kernel
theorem dX7_step_21 : decode cX7_step 21 = .ok (.return_, 1) := by decide +kernel
def fX7_step (a : Nat) (μ : JM) : JO (Unit) := jck ((jT μ a).1 == 8) <| if (jI μ a 3) ≤ (jI μ a 4) then (some ((), μ, 0, 0)) else (jlt (jsI μ a 4 ((jI μ a 4) + (1 : Int32))) fun μ3 => some ((), μ3, 0, 0))
set_option maxHeartbeats 4000000 in
set_option maxRecDepth 100000 in
theorem mX7_step {b : Nat} {a : Nat} {μ : JM} {r : Unit} {ν : JM} {c m : Nat} (hf : fX7_step a μ = some (r, ν, c, m)) : JMet b yX7_step cX7_step 1 none 0 0 [va_rf (some a)] μ (none) ν c m := by
  refine JMet.of (by decide) (lg_sl_le (by simp only [List.map_cons, List.map_nil, List.sum_cons, List.sum_nil, va_rf_cat]; exact Nat.le_of_ble_eq_true rfl)) (fun Θ X hin => ?_)
  refine wa_eq (L2 := [(0, va_rf (some a))]) ?_ rfl (by first | rfl | simp [lv_args, va_rf_cat, cat_i, cat_l]) rfl
  obtain ⟨k, hk0⟩ : ∃ k : Nat, k = 0 := ⟨0, rfl⟩
  obtain ⟨n, hn0⟩ : ∃ n : Nat, n = 0 := ⟨0, rfl⟩
  have hk : k + c = c := by omega
  have hn : n + m = m := by omega
  refine wa_costs hk0.symm hn0.symm ?_
  rw [fX7_step] at hf
  refine wa_aload_n X 0 dX7_step_0 rfl ?_
  obtain ⟨h1, hf⟩ := jckT hf
  refine wa_getI X dX7_step_1 lfX7_27 rfl h1 rfl ?_
  refine wa_aload_n X 0 dX7_step_4 rfl ?_
  refine wa_getI X dX7_step_5 lfX7_23 rfl h1 rfl ?_
  refine wa_icge (tgt := 21) X dX7_step_8 (by decide) (fun h2 => ?_) (fun h2 => ?_)
  · rw [if_pos h2] at hf
    obtain ⟨rfl, rfl, rfl, rfl⟩ := jret hf
    exact wa_vret X dX7_step_21 (by omega) (by omega)
  · rw [if_neg h2] at hf
    refine wa_aload_n X 0 dX7_step_11 rfl ?_
    refine wa_dup X dX7_step_12 (va_rf_cat _) ?_
    refine wa_getI X dX7_step_13 lfX7_27 rfl h1 rfl ?_
    refine wa_iconst (v := (1 : Int32)) X dX7_step_16 (by decide) ?_
    refine wa_iadd X dX7_step_17 ?_
    obtain ⟨μ3, hm4, hf⟩ := jlt_e hf
    have e5 : jT μ3 = jT μ := by rw [hm4]; rfl
    refine wa_rputI (ν := μ3) X dX7_step_18 lfX7_27 rfl h1 rfl rfl hm4 ?_
    obtain ⟨rfl, rfl, rfl, rfl⟩ := jret hf
    exact wa_vret X dX7_step_21 (by omega) (by omega)
theorem dX10_isFreeWord_0 : decode cX10_isFreeWord 0 = .ok (.lload_n 0, 1) := by decide +kernel
theorem dX10_isFreeWord_1 : decode cX10_isFreeWord 1 = .ok (.lconst 0, 1) := by decide +kernel
theorem dX10_isFreeWord_2 : decode cX10_isFreeWord 2 = .ok (.lcmp, 1) := by decide +kernel
theorem dX10_isFreeWord_3 : decode cX10_isFreeWord 3 = .ok (.ifCond .le 7, 3) := by decide +kernel
theorem dX10_isFreeWord_6 : decode cX10_isFreeWord 6 = .ok (.iconst 1, 1) := by decide +kernel
theorem dX10_isFreeWord_7 : decode cX10_isFreeWord 7 = .ok (.goto 4, 3) := by decide +kernel
theorem dX10_isFreeWord_10 : decode cX10_isFreeWord 10 = .ok (.iconst 0, 1) := by decide +kernel
theorem dX10_isFreeWord_11 : decode cX10_isFreeWord 11 = .ok (.ireturn, 1) := by decide +kernel
def fX10_isFreeWord (y0 : Int64) (μ : JM) : JO (Int32) := if (lg_cmp y0 (0 : Int64)) ≤ 0 then (some ((0 : Int32), μ, 0, 0)) else (some ((1 : Int32), μ, 0, 0))
set_option maxHeartbeats 4000000 in
set_option maxRecDepth 100000 in
theorem mX10_isFreeWord {b : Nat} {y0 : Int64} {μ : JM} {r : Int32} {ν : JM} {c m : Nat} (hf : fX10_isFreeWord y0 μ = some (r, ν, c, m)) : JMet b yX10_isFreeWord cX10_isFreeWord 2 (some .boolean) 0 0 [.long y0] μ (some (.int r)) ν c m := by
  refine JMet.of (by decide) (lg_sl_le (by simp only [List.map_cons, List.map_nil, List.sum_cons, List.sum_nil, va_rf_cat]; exact Nat.le_of_ble_eq_true rfl)) (fun Θ X hin => ?_)
  refine wa_eq (L2 := [(0, .long y0)]) ?_ rfl (by first | rfl | simp [lv_args, va_rf_cat, cat_i, cat_l]) rfl
  obtain ⟨k, hk0⟩ : ∃ k : Nat, k = 0 := ⟨0, rfl⟩
  obtain ⟨n, hn0⟩ : ∃ n : Nat, n = 0 := ⟨0, rfl⟩
  have hk : k + c = c := by omega
  have hn : n + m = m := by omega
  refine wa_costs hk0.symm hn0.symm ?_
  rw [fX10_isFreeWord] at hf
  refine wa_lload_n X 0 dX10_isFreeWord_0 rfl ?_
  refine wa_lconst (v := (0 : Int64)) X dX10_isFreeWord_1 (by decide) ?_
  refine wa_lcmp X dX10_isFreeWord_2 ?_
  refine wa_ifle (tgt := 10) X dX10_isFreeWord_3 (by decide) (fun h1 => ?_) (fun h1 => ?_)
  · rw [if_pos h1] at hf
    refine wa_iconst (v := (0 : Int32)) X dX10_isFreeWord_10 (by decide) ?_
    obtain ⟨rfl, rfl, rfl, rfl⟩ := jret hf
    exact wa_iret X dX10_isFreeWord_11 rfl (by omega) (by omega)
  · rw [if_neg h1] at hf
    refine wa_iconst (v := (1 : Int32)) X dX10_isFreeWord_6 (by decide) ?_
    refine wa_goto (tgt := 11) X dX10_isFreeWord_7 (by decide) ?_
    obtain ⟨rfl, rfl, rfl, rfl⟩ := jret hf
    exact wa_iret X dX10_isFreeWord_11 rfl (by omega) (by omega)
theorem dX10_isOurs_0 : decode cX10_isOurs 0 = .ok (.lload_n 0, 1) := by decide +kernel
theorem dX10_isOurs_1 : decode cX10_isOurs 1 = .ok (.ldc2_w 318, 3) := by decide +kernel
theorem dX10_isOurs_4 : decode cX10_isOurs 4 = .ok (.lcmp, 1) := by decide +kernel
theorem dX10_isOurs_5 : decode cX10_isOurs 5 = .ok (.ifCond .gt 7, 3) := by decide +kernel
theorem dX10_isOurs_8 : decode cX10_isOurs 8 = .ok (.iconst 1, 1) := by decide +kernel
theorem dX10_isOurs_9 : decode cX10_isOurs 9 = .ok (.goto 4, 3) := by decide +kernel
theorem dX10_isOurs_12 : decode cX10_isOurs 12 = .ok (.iconst 0, 1) := by decide +kernel
theorem dX10_isOurs_13 : decode cX10_isOurs 13 = .ok (.ireturn, 1) := by decide +kernel
def fX10_isOurs (y0 : Int64) (μ : JM) : JO (Int32) := if 0 < (lg_cmp y0 (-3000 : Int64)) then (some ((0 : Int32), μ, 0, 0)) else (some ((1 : Int32), μ, 0, 0))
set_option maxHeartbeats 4000000 in
set_option maxRecDepth 100000 in
theorem mX10_isOurs {b : Nat} {y0 : Int64} {μ : JM} {r : Int32} {ν : JM} {c m : Nat} (hf : fX10_isOurs y0 μ = some (r, ν, c, m)) : JMet b yX10_isOurs cX10_isOurs 2 (some .boolean) 0 0 [.long y0] μ (some (.int r)) ν c m := by
  refine JMet.of (by decide) (lg_sl_le (by simp only [List.map_cons, List.map_nil, List.sum_cons, List.sum_nil, va_rf_cat]; exact Nat.le_of_ble_eq_true rfl)) (fun Θ X hin => ?_)
  refine wa_eq (L2 := [(0, .long y0)]) ?_ rfl (by first | rfl | simp [lv_args, va_rf_cat, cat_i, cat_l]) rfl
  obtain ⟨k, hk0⟩ : ∃ k : Nat, k = 0 := ⟨0, rfl⟩
  obtain ⟨n, hn0⟩ : ∃ n : Nat, n = 0 := ⟨0, rfl⟩
  have hk : k + c = c := by omega
  have hn : n + m = m := by omega
  refine wa_costs hk0.symm hn0.symm ?_
  rw [fX10_isOurs] at hf
  refine wa_lload_n X 0 dX10_isOurs_0 rfl ?_
  refine wa_ldc2 (v := (-3000 : Int64)) X dX10_isOurs_1 lkX10_318 ?_
  refine wa_lcmp X dX10_isOurs_4 ?_
  refine wa_ifgt (tgt := 12) X dX10_isOurs_5 (by decide) (fun h1 => ?_) (fun h1 => ?_)
  · rw [if_pos h1] at hf
    refine wa_iconst (v := (0 : Int32)) X dX10_isOurs_12 (by decide) ?_
    obtain ⟨rfl, rfl, rfl, rfl⟩ := jret hf
    exact wa_iret X dX10_isOurs_13 rfl (by omega) (by omega)
  · rw [if_neg h1] at hf
    refine wa_iconst (v := (1 : Int32)) X dX10_isOurs_8 (by decide) ?_
    refine wa_goto (tgt := 13) X dX10_isOurs_9 (by decide) ?_
    obtain ⟨rfl, rfl, rfl, rfl⟩ := jret hf
    exact wa_iret X dX10_isOurs_13 rfl (by omega) (by omega)
theorem dX7_take_0 : decode cX7_take 0 = .ok (.aload_n 0, 1) := by decide +kernel
theorem dX7_take_1 : decode cX7_take 1 = .ok (.invokevirtual 90, 3) := by decide +kernel
theorem dX7_take_4 : decode cX7_take 4 = .ok (.lload_n 1, 1) := by decide +kernel
theorem dX7_take_5 : decode cX7_take 5 = .ok (.lcmp, 1) := by decide +kernel
theorem dX7_take_6 : decode cX7_take 6 = .ok (.ifCond .eq 9, 3) := by decide +kernel
theorem dX7_take_9 : decode cX7_take 9 = .ok (.aload_n 0, 1) := by decide +kernel
theorem dX7_take_10 : decode cX7_take 10 = .ok (.iconst 0, 1) := by decide +kernel
theorem dX7_take_11 : decode cX7_take 11 = .ok (.invokevirtual 94, 3) := by decide +kernel
theorem dX7_take_14 : decode cX7_take 14 = .ok (.ireturn, 1) := by decide +kernel
theorem dX7_take_15 : decode cX7_take 15 = .ok (.aload_n 0, 1) := by decide +kernel
theorem dX7_take_16 : decode cX7_take 16 = .ok (.invokevirtual 97, 3) := by decide +kernel
theorem dX7_take_19 : decode cX7_take 19 = .ok (.iconst 1, 1) := by decide +kernel
theorem dX7_take_20 : decode cX7_take 20 = .ok (.ireturn, 1) := by decide +kernel
def fX7_take (a : Nat) (y1 : Int64) (μ : JM) : JO (Int32) := jck ((jT μ a).1 == 8) <| jcl (fX7_token a μ) fun r2 μ3 => if (lg_cmp r2 y1) = 0 then (jck ((jT μ3 a).1 == 8) <| jcl (fX7_step a μ3) fun u13 μ14 => some ((1 : Int32), μ14, 0, 0)) else (jck ((jT μ3 a).1 == 8) <| jcl (fX7_fail a (0 : Int32) μ3) fun r23 μ24 => jck (jbl r23) <| some (r23, μ24, 0, 0))
set_option maxHeartbeats 4000000 in
set_option maxRecDepth 100000 in
theorem mX7_take {b : Nat} {a : Nat} {y1 : Int64} {μ : JM} {r : Int32} {ν : JM} {c m : Nat} (hf : fX7_take a y1 μ = some (r, ν, c, m)) : JMet b yX7_take cX7_take 3 (some .boolean) 1 22 [va_rf (some a), .long y1] μ (some (.int r)) ν c m := by
  refine JMet.of (by decide) (lg_sl_le (by simp only [List.map_cons, List.map_nil, List.sum_cons, List.sum_nil, va_rf_cat]; exact Nat.le_of_ble_eq_true rfl)) (fun Θ X hin => ?_)
  refine wa_eq (L2 := [(0, va_rf (some a)), (1, .long y1)]) ?_ rfl (by first | rfl | simp [lv_args, va_rf_cat, cat_i, cat_l]) rfl
  obtain ⟨k, hk0⟩ : ∃ k : Nat, k = 0 := ⟨0, rfl⟩
  obtain ⟨n, hn0⟩ : ∃ n : Nat, n = 0 := ⟨0, rfl⟩
  have hk : k + c = c := by omega
  have hn : n + m = m := by omega
  refine wa_costs hk0.symm hn0.symm ?_
  rw [fX7_take] at hf
  refine wa_aload_n X 0 dX7_take_0 rfl ?_
  obtain ⟨h1, hf⟩ := jckT hf
  obtain ⟨r2, μ3, c4, m5, c6, m7, e8, hf, h9, h10⟩ := jcl_some hf
  refine wa_rcallV (st2 := [.long r2]) X dX7_take_1 lmX7_90 lMX7_token rfl h1 (mX7_token e8) rfl rfl rfl (va_cats (Nat.le_of_ble_eq_true rfl)) (by decide) (by omega) (by omega) ?_
  refine wa_lload_n X 1 dX7_take_4 rfl ?_
  refine wa_lcmp X dX7_take_5 ?_
  refine wa_ifeq (tgt := 15) X dX7_take_6 (by decide) (fun h11 => ?_) (fun h11 => ?_)
  · rw [if_pos h11] at hf
    refine wa_aload_n X 0 dX7_take_15 rfl ?_
    obtain ⟨h12, hf⟩ := jckT hf
    obtain ⟨u13, μ14, c15, m16, c17, m18, e19, hf, h20, h21⟩ := jcl_some hf
    refine wa_rcallV (st2 := []) X dX7_take_16 lmX7_97 lMX7_step rfl h12 (mX7_step e19) rfl rfl rfl (va_cats (Nat.le_of_ble_eq_true rfl)) (by decide) (by omega) (by omega) ?_
    refine wa_iconst (v := (1 : Int32)) X dX7_take_19 (by decide) ?_
    obtain ⟨rfl, rfl, rfl, rfl⟩ := jret hf
    exact wa_iret X dX7_take_20 rfl (by omega) (by omega)
  · rw [if_neg h11] at hf
    refine wa_aload_n X 0 dX7_take_9 rfl ?_
    refine wa_iconst (v := (0 : Int32)) X dX7_take_10 (by decide) ?_
    obtain ⟨h22, hf⟩ := jckT hf
    obtain ⟨r23, μ24, c25, m26, c27, m28, e29, hf, h30, h31⟩ := jcl_some hf
    refine wa_rcallV (st2 := [.int r23]) X dX7_take_11 lmX7_94 lMX7_fail rfl h22 (mX7_fail e29) rfl rfl rfl (va_cats (Nat.le_of_ble_eq_true rfl)) (by decide) (by omega) (by omega) ?_
    obtain ⟨h32, hf⟩ := jck_some hf
    obtain ⟨rfl, rfl, rfl, rfl⟩ := jret hf
    exact wa_iret X dX7_take_14 (jbl_nar h32) (by omega) (by omega)
theorem dX10_isNumber_0 : decode cX10_isNumber 0 = .ok (.lload_n 0, 1) := by decide +kernel
theorem dX10_isNumber_1 : decode cX10_isNumber 1 = .ok (.ldc2_w 314, 3) := by decide +kernel
theorem dX10_isNumber_4 : decode cX10_isNumber 4 = .ok (.lcmp, 1) := by decide +kernel
theorem dX10_isNumber_5 : decode cX10_isNumber 5 = .ok (.ifCond .gt 15, 3) := by decide +kernel
theorem dX10_isNumber_8 : decode cX10_isNumber 8 = .ok (.lload_n 0, 1) := by decide +kernel
theorem dX10_isNumber_9 : decode cX10_isNumber 9 = .ok (.ldc2_w 316, 3) := by decide +kernel
theorem dX10_isNumber_12 : decode cX10_isNumber 12 = .ok (.lcmp, 1) := by decide +kernel
theorem dX10_isNumber_13 : decode cX10_isNumber 13 = .ok (.ifCond .le 7, 3) := by decide +kernel
theorem dX10_isNumber_16 : decode cX10_isNumber 16 = .ok (.iconst 1, 1) := by decide +kernel
theorem dX10_isNumber_17 : decode cX10_isNumber 17 = .ok (.goto 4, 3) := by decide +kernel
theorem dX10_isNumber_20 : decode cX10_isNumber 20 = .ok (.iconst 0, 1) := by decide +kernel
theorem dX10_isNumber_21 : decode cX10_isNumber 21 = .ok (.ireturn, 1) := by decide +kernel
def fX10_isNumber (y0 : Int64) (μ : JM) : JO (Int32) := if 0 < (lg_cmp y0 (-1000 : Int64)) then (some ((0 : Int32), μ, 0, 0)) else (if (lg_cmp y0 (-2000 : Int64)) ≤ 0 then (some ((0 : Int32), μ, 0, 0)) else (some ((1 : Int32), μ, 0, 0)))
set_option maxHeartbeats 4000000 in
set_option maxRecDepth 100000 in
theorem mX10_isNumber {b : Nat} {y0 : Int64} {μ : JM} {r : Int32} {ν : JM} {c m : Nat} (hf : fX10_isNumber y0 μ = some (r, ν, c, m)) : JMet b yX10_isNumber cX10_isNumber 2 (some .boolean) 0 0 [.long y0] μ (some (.int r)) ν c m := by
  refine JMet.of (by decide) (lg_sl_le (by simp only [List.map_cons, List.map_nil, List.sum_cons, List.sum_nil, va_rf_cat]; exact Nat.le_of_ble_eq_true rfl)) (fun Θ X hin => ?_)
  refine wa_eq (L2 := [(0, .long y0)]) ?_ rfl (by first | rfl | simp [lv_args, va_rf_cat, cat_i, cat_l]) rfl
  obtain ⟨k, hk0⟩ : ∃ k : Nat, k = 0 := ⟨0, rfl⟩
  obtain ⟨n, hn0⟩ : ∃ n : Nat, n = 0 := ⟨0, rfl⟩
  have hk : k + c = c := by omega
  have hn : n + m = m := by omega
  refine wa_costs hk0.symm hn0.symm ?_
  rw [fX10_isNumber] at hf
  refine wa_lload_n X 0 dX10_isNumber_0 rfl ?_
  refine wa_ldc2 (v := (-1000 : Int64)) X dX10_isNumber_1 lkX10_314 ?_
  refine wa_lcmp X dX10_isNumber_4 ?_
  refine wa_ifgt (tgt := 20) X dX10_isNumber_5 (by decide) (fun h1 => ?_) (fun h1 => ?_)
  · rw [if_pos h1] at hf
    refine wa_iconst (v := (0 : Int32)) X dX10_isNumber_20 (by decide) ?_
    obtain ⟨rfl, rfl, rfl, rfl⟩ := jret hf
    exact wa_iret X dX10_isNumber_21 rfl (by omega) (by omega)
  · rw [if_neg h1] at hf
    refine wa_lload_n X 0 dX10_isNumber_8 rfl ?_
    refine wa_ldc2 (v := (-2000 : Int64)) X dX10_isNumber_9 lkX10_316 ?_
    refine wa_lcmp X dX10_isNumber_12 ?_
    refine wa_ifle (tgt := 20) X dX10_isNumber_13 (by decide) (fun h2 => ?_) (fun h2 => ?_)
    · rw [if_pos h2] at hf
      refine wa_iconst (v := (0 : Int32)) X dX10_isNumber_20 (by decide) ?_
      obtain ⟨rfl, rfl, rfl, rfl⟩ := jret hf
      exact wa_iret X dX10_isNumber_21 rfl (by omega) (by omega)
    · rw [if_neg h2] at hf
      refine wa_iconst (v := (1 : Int32)) X dX10_isNumber_16 (by decide) ?_
      refine wa_goto (tgt := 21) X dX10_isNumber_17 (by decide) ?_
      obtain ⟨rfl, rfl, rfl, rfl⟩ := jret hf
      exact wa_iret X dX10_isNumber_21 rfl (by omega) (by omega)
theorem dJ7_checkLength_df160_0 : decode cJ7_checkLength_df160 0 = .ok (.iload_n 1, 1) := by decide +kernel
theorem dJ7_checkLength_df160_1 : decode cJ7_checkLength_df160 1 = .ok (.iload_n 0, 1) := by decide +kernel
theorem dJ7_checkLength_df160_2 : decode cJ7_checkLength_df160 2 = .ok (.if_icmp .ge 35, 3) := by decide +kernel
theorem dJ7_checkLength_df160_5 : decode cJ7_checkLength_df160 5 = .ok (.new 43, 3) := by decide +kernel
theorem dJ7_checkLength_df160_8 : decode cJ7_checkLength_df160 8 = .ok (.dup, 1) := by decide +kernel
theorem dJ7_checkLength_df160_9 : decode cJ7_checkLength_df160 9 = .ok (.new 45, 3) := by decide +kernel
theorem dJ7_checkLength_df160_12 : decode cJ7_checkLength_df160 12 = .ok (.dup, 1) := by decide +kernel
theorem dJ7_checkLength_df160_13 : decode cJ7_checkLength_df160 13 = .ok (.invokespecial 47, 3) := by decide +kernel
theorem dJ7_checkLength_df160_16 : decode cJ7_checkLength_df160 16 = .ok (.iload_n 0, 1) := by decide +kernel
theorem dJ7_checkLength_df160_17 : decode cJ7_checkLength_df160 17 = .ok (.invokevirtual 54, 3) := by decide +kernel
theorem dJ7_checkLength_df160_20 : decode cJ7_checkLength_df160 20 = .ok (.ldc_w 337, 3) := by decide +kernel
theorem dJ7_checkLength_df160_23 : decode cJ7_checkLength_df160 23 = .ok (.invokevirtual 50, 3) := by decide +kernel
theorem dJ7_checkLength_df160_26 : decode cJ7_checkLength_df160 26 = .ok (.iload_n 1, 1) := by decide +kernel
theorem dJ7_checkLength_df160_27 : decode cJ7_checkLength_df160 27 = .ok (.invokevirtual 54, 3) := by decide +kernel
theorem dJ7_checkLength_df160_30 : decode cJ7_checkLength_df160 30 = .ok (.invokevirtual 61, 3) := by decide +kernel
theorem dJ7_checkLength_df160_33 : decode cJ7_checkLength_df160 33 = .ok (.invokespecial 65, 3) := by decide +kernel
theorem dJ7_checkLength_df160_36 : decode cJ7_checkLength_df160 36 = .ok (.athrow, 1) := by decide +kernel
theorem dJ7_checkLength_df160_37 : decode cJ7_checkLength_df160 37 = .ok (.return_, 1) := by decide +kernel
def fJ7_checkLength_df160 (x0 : Int32) (x1 : Int32) (μ : JM) : JO (Unit) := if x0 ≤ x1 then (some ((), μ, 0, 0)) else (none)
set_option maxHeartbeats 4000000 in
set_option maxRecDepth 100000 in
theorem mJ7_checkLength_df160 {b : Nat} {x0 : Int32} {x1 : Int32} {μ : JM} {r : Unit} {ν : JM} {c m : Nat} (hf : fJ7_checkLength_df160 x0 x1 μ = some (r, ν, c, m)) : JMet b yJ7_checkLength_df160 cJ7_checkLength_df160 2 none 0 0 [.int x0, .int x1] μ (none) ν c m := by
  refine JMet.of (by decide) (lg_sl_le (by simp only [List.map_cons, List.map_nil, List.sum_cons, List.sum_nil, va_rf_cat]; exact Nat.le_of_ble_eq_true rfl)) (fun Θ X hin => ?_)
  refine wa_eq (L2 := [(0, .int x0), (1, .int x1)]) ?_ rfl (by first | rfl | simp [lv_args, va_rf_cat, cat_i, cat_l]) rfl
  obtain ⟨k, hk0⟩ : ∃ k : Nat, k = 0 := ⟨0, rfl⟩
  obtain ⟨n, hn0⟩ : ∃ n : Nat, n = 0 := ⟨0, rfl⟩
  have hk : k + c = c := by omega
  have hn : n + m = m := by omega
  refine wa_costs hk0.symm hn0.symm ?_
  rw [fJ7_checkLength_df160] at hf
  refine wa_iload_n X 1 dJ7_checkLength_df160_0 rfl ?_
  refine wa_iload_n X 0 dJ7_checkLength_df160_1 rfl ?_
  refine wa_icge (tgt := 37) X dJ7_checkLength_df160_2 (by decide) (fun h1 => ?_) (fun h1 => ?_)
  · rw [if_pos h1] at hf
    obtain ⟨rfl, rfl, rfl, rfl⟩ := jret hf
    exact wa_vret X dJ7_checkLength_df160_37 (by omega) (by omega)
  · rw [if_neg h1] at hf
    cases hf
theorem dJ7_copyOfRangeLong_23910_0 : decode cJ7_copyOfRangeLong_23910 0 = .ok (.iload_n 1, 1) := by decide +kernel
theorem dJ7_copyOfRangeLong_23910_1 : decode cJ7_copyOfRangeLong_23910 1 = .ok (.iload_n 2, 1) := by decide +kernel
theorem dJ7_copyOfRangeLong_23910_2 : decode cJ7_copyOfRangeLong_23910 2 = .ok (.invokestatic 343, 3) := by decide +kernel
theorem dJ7_copyOfRangeLong_23910_5 : decode cJ7_copyOfRangeLong_23910 5 = .ok (.iload_n 2, 1) := by decide +kernel
theorem dJ7_copyOfRangeLong_23910_6 : decode cJ7_copyOfRangeLong_23910 6 = .ok (.iload_n 1, 1) := by decide +kernel
theorem dJ7_copyOfRangeLong_23910_7 : decode cJ7_copyOfRangeLong_23910 7 = .ok (.isub, 1) := by decide +kernel
theorem dJ7_copyOfRangeLong_23910_8 : decode cJ7_copyOfRangeLong_23910 8 = .ok (.istore_n 3, 1) := by decide +kernel
theorem dJ7_copyOfRangeLong_23910_9 : decode cJ7_copyOfRangeLong_23910 9 = .ok (.iload_n 3, 1) := by decide +kernel
theorem dJ7_copyOfRangeLong_23910_10 : decode cJ7_copyOfRangeLong_23910 10 = .ok (.newarray .long, 2) := by decide +kernel
theorem dJ7_copyOfRangeLong_23910_12 : decode cJ7_copyOfRangeLong_23910 12 = .ok (.astore 4, 2) := by decide +kernel
theorem dJ7_copyOfRangeLong_23910_14 : decode cJ7_copyOfRangeLong_23910 14 = .ok (.aload_n 0, 1) := by decide +kernel
theorem dJ7_copyOfRangeLong_23910_15 : decode cJ7_copyOfRangeLong_23910 15 = .ok (.iload_n 1, 1) := by decide +kernel
theorem dJ7_copyOfRangeLong_23910_16 : decode cJ7_copyOfRangeLong_23910 16 = .ok (.aload 4, 2) := by decide +kernel
theorem dJ7_copyOfRangeLong_23910_18 : decode cJ7_copyOfRangeLong_23910 18 = .ok (.iconst 0, 1) := by decide +kernel
theorem dJ7_copyOfRangeLong_23910_19 : decode cJ7_copyOfRangeLong_23910 19 = .ok (.aload_n 0, 1) := by decide +kernel
theorem dJ7_copyOfRangeLong_23910_20 : decode cJ7_copyOfRangeLong_23910 20 = .ok (.arraylength, 1) := by decide +kernel
theorem dJ7_copyOfRangeLong_23910_21 : decode cJ7_copyOfRangeLong_23910 21 = .ok (.iload_n 1, 1) := by decide +kernel
theorem dJ7_copyOfRangeLong_23910_22 : decode cJ7_copyOfRangeLong_23910 22 = .ok (.isub, 1) := by decide +kernel
theorem dJ7_copyOfRangeLong_23910_23 : decode cJ7_copyOfRangeLong_23910 23 = .ok (.iload_n 3, 1) := by decide +kernel
theorem dJ7_copyOfRangeLong_23910_24 : decode cJ7_copyOfRangeLong_23910 24 = .ok (.invokestatic 304, 3) := by decide +kernel
theorem dJ7_copyOfRangeLong_23910_27 : decode cJ7_copyOfRangeLong_23910 27 = .ok (.invokestatic 150, 3) := by decide +kernel
theorem dJ7_copyOfRangeLong_23910_30 : decode cJ7_copyOfRangeLong_23910 30 = .ok (.aload 4, 2) := by decide +kernel
theorem dJ7_copyOfRangeLong_23910_32 : decode cJ7_copyOfRangeLong_23910 32 = .ok (.areturn, 1) := by decide +kernel
def fJ7_copyOfRangeLong_23910 (p0 : Option Nat) (x1 : Int32) (x2 : Int32) (μ : JM) : JO (Option Nat) := jcl (fJ7_checkLength_df160 x1 x2 μ) fun u1 μ2 => jck (decide (¬ (x2 - x1) < 0)) <| jck (decide (((x2 - x1)).toNatClampNeg * 8 ≤ 536870912)) <| jnw μ2 102 ((x2 - x1)).toNatClampNeg fun q10 μ11 => jde p0 fun q21 => jck ((jT μ11 q21).1 == 102) <| jck (decide (¬ x1 < 0)) <| jck (decide (¬ (0 : Int32) < 0)) <| jck (decide (¬ (jmin ((nI (jT μ11 q21).2) - x1) (x2 - x1)) < 0)) <| jck (decide ((x1).toNatClampNeg + ((jmin ((nI (jT μ11 q21).2) - x1) (x2 - x1))).toNatClampNeg ≤ (jT μ11 q21).2)) <| jck (decide (((0 : Int32)).toNatClampNeg + ((jmin ((nI (jT μ11 q21).2) - x1) (x2 - x1))).toNatClampNeg ≤ (jT μ11 q10).2)) <| jlt (jcp μ11 q10 q21 (x1).toNatClampNeg ((0 : Int32)).toNatClampNeg ((jmin ((nI (jT μ11 q21).2) - x1) (x2 - x1))).toNatClampNeg) fun μ29 => some ((some q10), μ29, 0, 0)
set_option maxHeartbeats 4000000 in
set_option maxRecDepth 100000 in
theorem mJ7_copyOfRangeLong_23910 {b : Nat} {p0 : Option Nat} {x1 : Int32} {x2 : Int32} {μ : JM} {r : Option Nat} {ν : JM} {c m : Nat} (hf : fJ7_copyOfRangeLong_23910 p0 x1 x2 μ = some (r, ν, c, m)) : JMet b yJ7_copyOfRangeLong_23910 cJ7_copyOfRangeLong_23910 5 (some (.array .long)) 1 60 [va_rf p0, .int x1, .int x2] μ (some (va_rf r)) ν c m := by
  refine JMet.of (by decide) (lg_sl_le (by simp only [List.map_cons, List.map_nil, List.sum_cons, List.sum_nil, va_rf_cat]; exact Nat.le_of_ble_eq_true rfl)) (fun Θ X hin => ?_)
  refine wa_eq (L2 := [(0, va_rf p0), (1, .int x1), (2, .int x2)]) ?_ rfl (by first | rfl | simp [lv_args, va_rf_cat, cat_i, cat_l]) rfl
  obtain ⟨k, hk0⟩ : ∃ k : Nat, k = 0 := ⟨0, rfl⟩
  obtain ⟨n, hn0⟩ : ∃ n : Nat, n = 0 := ⟨0, rfl⟩
  have hk : k + c = c := by omega
  have hn : n + m = m := by omega
  refine wa_costs hk0.symm hn0.symm ?_
  rw [fJ7_copyOfRangeLong_23910] at hf
  refine wa_iload_n X 1 dJ7_copyOfRangeLong_23910_0 rfl ?_
  refine wa_iload_n X 2 dJ7_copyOfRangeLong_23910_1 rfl ?_
  obtain ⟨u1, μ2, c3, m4, c5, m6, e7, hf, h8, h9⟩ := jcl_some hf
  refine wa_rcallS (st2 := []) X dJ7_copyOfRangeLong_23910_2 lmJ7_343 lMJ7_checkLength_df160 (mJ7_checkLength_df160 e7) rfl rfl rfl (va_cats (Nat.le_of_ble_eq_true rfl)) (by decide) (by omega) (by omega) ?_
  refine wa_iload_n X 2 dJ7_copyOfRangeLong_23910_5 rfl ?_
  refine wa_iload_n X 1 dJ7_copyOfRangeLong_23910_6 rfl ?_
  refine wa_isub X dJ7_copyOfRangeLong_23910_7 ?_
  refine wa_istore_n (L2 := [(3, .int (x2 - x1)), (0, va_rf p0), (1, .int x1), (2, .int x2)]) X dJ7_copyOfRangeLong_23910_8 (by decide) (by first | rfl | (show (3, _) :: List.filter (fun q : Nat × Value => !(q.1 == 3) && !(q.1 + 1 == 3 && q.2.category == 2)) _ = _; simp [va_rf_cat, cat_i, cat_l])) ?_
  refine wa_iload_n X 0 dJ7_copyOfRangeLong_23910_9 rfl ?_
  obtain ⟨h19, hf⟩ := jckD hf
  obtain ⟨h20, hf⟩ := jckD hf
  obtain ⟨q10, μ11, c14, m15, h12, hm13, hf, h16, h17⟩ := jnw_some hf
  refine wa_newa (t := 102) (N := ((x2 - x1)).toNatClampNeg) X dJ7_copyOfRangeLong_23910_10 (by decide) rfl la_102 h19 rfl h20 (by omega) (by omega) ?_
  rw [← h12, ← hm13]
  have h18 : (jT μ11 q10).1 = 102 := by rw [jT_at h12 hm13]
  refine wa_astore (L2 := [(4, va_rf (some q10)), (3, .int (x2 - x1)), (0, va_rf p0), (1, .int x1), (2, .int x2)]) X dJ7_copyOfRangeLong_23910_12 (by decide) (by first | rfl | (show (4, _) :: List.filter (fun q : Nat × Value => !(q.1 == 4) && !(q.1 + 1 == 4 && q.2.category == 2)) _ = _; simp [va_rf_cat, cat_i, cat_l])) ?_
  refine wa_aload_n X 2 dJ7_copyOfRangeLong_23910_14 rfl ?_
  refine wa_iload_n X 3 dJ7_copyOfRangeLong_23910_15 rfl ?_
  refine wa_aload X 0 dJ7_copyOfRangeLong_23910_16 rfl ?_
  refine wa_iconst (v := (0 : Int32)) X dJ7_copyOfRangeLong_23910_18 (by decide) ?_
  refine wa_aload_n X 2 dJ7_copyOfRangeLong_23910_19 rfl ?_
  obtain ⟨q21, h22, hf⟩ := jde_some hf
  obtain ⟨h23, hf⟩ := jckT hf
  refine wa_ralen (t := 102) X dJ7_copyOfRangeLong_23910_20 h22 h23 (by decide) ?_
  refine wa_iload_n X 3 dJ7_copyOfRangeLong_23910_21 rfl ?_
  refine wa_isub X dJ7_copyOfRangeLong_23910_22 ?_
  refine wa_iload_n X 1 dJ7_copyOfRangeLong_23910_23 rfl ?_
  refine wa_mmin X dJ7_copyOfRangeLong_23910_24 lmJ7_304 l9_smin ln_RJ9 l9_cmin (by decide) (Nat.le_trans (Nat.add_le_add_right (va_cats (m := 8) (Nat.le_of_ble_eq_true rfl)) 13) (by decide)) (by omega) (by omega) ?_
  obtain ⟨h24, hf⟩ := jckD hf
  obtain ⟨h25, hf⟩ := jckD hf
  obtain ⟨h26, hf⟩ := jckD hf
  obtain ⟨h27, hf⟩ := jckD hf
  obtain ⟨h28, hf⟩ := jckD hf
  obtain ⟨μ29, hm30, hf⟩ := jlt_e hf
  have e31 : jT μ29 = jT μ11 := by rw [hm30]; rfl
  refine wa_acopy (ν := μ29) X dJ7_copyOfRangeLong_23910_27 lmJ7_150 l8_native l8_static l8_ini rfl h22 h18 h23 h24 h25 h26 h27 h28 (by decide) (Nat.le_trans (Nat.add_le_add_right (va_cats (m := 8) (Nat.le_of_ble_eq_true rfl)) _) (by decide)) hm30 ?_
  refine wa_aload X 0 dJ7_copyOfRangeLong_23910_30 rfl ?_
  obtain ⟨rfl, rfl, rfl, rfl⟩ := jret hf
  exact wa_aret X dJ7_copyOfRangeLong_23910_32 (by first | exact Or.inl ⟨_, rfl⟩ | exact Or.inr ⟨_, rfl⟩) (by omega) (by omega)
theorem dJ7_copyOfRange_23910_0 : decode cJ7_copyOfRange_23910 0 = .ok (.iload_n 1, 1) := by decide +kernel
theorem dJ7_copyOfRange_23910_1 : decode cJ7_copyOfRange_23910 1 = .ok (.ifCond .ne 9, 3) := by decide +kernel
theorem dJ7_copyOfRange_23910_4 : decode cJ7_copyOfRange_23910 4 = .ok (.iload_n 2, 1) := by decide +kernel
theorem dJ7_copyOfRange_23910_5 : decode cJ7_copyOfRange_23910 5 = .ok (.aload_n 0, 1) := by decide +kernel
theorem dJ7_copyOfRange_23910_6 : decode cJ7_copyOfRange_23910 6 = .ok (.arraylength, 1) := by decide +kernel
theorem dJ7_copyOfRange_23910_7 : decode cJ7_copyOfRange_23910 7 = .ok (.if_icmp .eq 10, 3) := by decide +kernel
theorem dJ7_copyOfRange_23910_10 : decode cJ7_copyOfRange_23910 10 = .ok (.aload_n 0, 1) := by decide +kernel
theorem dJ7_copyOfRange_23910_11 : decode cJ7_copyOfRange_23910 11 = .ok (.iload_n 1, 1) := by decide +kernel
theorem dJ7_copyOfRange_23910_12 : decode cJ7_copyOfRange_23910 12 = .ok (.iload_n 2, 1) := by decide +kernel
theorem dJ7_copyOfRange_23910_13 : decode cJ7_copyOfRange_23910 13 = .ok (.invokestatic 355, 3) := by decide +kernel
theorem dJ7_copyOfRange_23910_16 : decode cJ7_copyOfRange_23910 16 = .ok (.areturn, 1) := by decide +kernel
theorem dJ7_copyOfRange_23910_17 : decode cJ7_copyOfRange_23910 17 = .ok (.aload_n 0, 1) := by decide +kernel
theorem dJ7_copyOfRange_23910_18 : decode cJ7_copyOfRange_23910 18 = .ok (.invokevirtual 319, 3) := by decide +kernel
theorem dJ7_copyOfRange_23910_21 : decode cJ7_copyOfRange_23910 21 = .ok (.checkcast 320, 3) := by decide +kernel
theorem dJ7_copyOfRange_23910_24 : decode cJ7_copyOfRange_23910 24 = .ok (.areturn, 1) := by decide +kernel
def fJ7_copyOfRange_23910_b10 (p0 : Option Nat) (x1 : Int32) (x2 : Int32) (μ : JM) : JO (Option Nat) := jcl (fJ7_copyOfRangeLong_23910 p0 x1 x2 μ) fun r6 μ7 => some (r6, μ7, 0, 0)
set_option maxHeartbeats 4000000 in
set_option maxRecDepth 100000 in
theorem gJ7_copyOfRange_23910_b10 {b : Nat} {Θ : JE} {RC RS : Nat} {r : Option Nat} {ν : JM} (X : jX b Θ RJ7 cJ7_copyOfRange_23910 3 (some (.array .long)) 2 84 RC RS) (p0 : Option Nat) (x1 : Int32) (x2 : Int32) (μ : JM) (c m k n : Nat) (hf : fJ7_copyOfRange_23910_b10 p0 x1 x2 μ = some (r, ν, c, m)) (hk : k + c = RC) (hn : n + m = RS) : WA b Θ 3 (jE b Θ (some (va_rf r)) ν RC RS) μ k n 10 [(0, va_rf p0), (1, .int x1), (2, .int x2)] [] := by
  rw [fJ7_copyOfRange_23910_b10] at hf
  refine wa_aload_n X 0 dJ7_copyOfRange_23910_10 rfl ?_
  refine wa_iload_n X 1 dJ7_copyOfRange_23910_11 rfl ?_
  refine wa_iload_n X 2 dJ7_copyOfRange_23910_12 rfl ?_
  obtain ⟨r6, μ7, c8, m9, c10, m11, e12, hf, h13, h14⟩ := jcl_some hf
  refine wa_rcallS (st2 := [va_rf r6]) X dJ7_copyOfRange_23910_13 lmJ7_355 lMJ7_copyOfRangeLong_23910 (mJ7_copyOfRangeLong_23910 e12) rfl rfl rfl (va_cats (Nat.le_of_ble_eq_true rfl)) (by decide) (by omega) (by omega) ?_
  obtain ⟨rfl, rfl, rfl, rfl⟩ := jret hf
  exact wa_aret X dJ7_copyOfRange_23910_16 (by first | exact Or.inl ⟨_, rfl⟩ | exact Or.inr ⟨_, rfl⟩) (by omega) (by omega)
def fJ7_copyOfRange_23910 (p0 : Option Nat) (x1 : Int32) (x2 : Int32) (μ : JM) : JO (Option Nat) := if x1 = 0 then (jde p0 fun q2 => jck ((jT μ q2).1 == 102) <| if x2 = (nI (jT μ q2).2) then (none) else (fJ7_copyOfRange_23910_b10  p0 x1 x2 μ)) else (fJ7_copyOfRange_23910_b10  p0 x1 x2 μ)
set_option maxHeartbeats 4000000 in
set_option maxRecDepth 100000 in
theorem mJ7_copyOfRange_23910 {b : Nat} {p0 : Option Nat} {x1 : Int32} {x2 : Int32} {μ : JM} {r : Option Nat} {ν : JM} {c m : Nat} (hf : fJ7_copyOfRange_23910 p0 x1 x2 μ = some (r, ν, c, m)) : JMet b yJ7_copyOfRange_23910 cJ7_copyOfRange_23910 3 (some (.array .long)) 2 84 [va_rf p0, .int x1, .int x2] μ (some (va_rf r)) ν c m := by
  refine JMet.of (by decide) (lg_sl_le (by simp only [List.map_cons, List.map_nil, List.sum_cons, List.sum_nil, va_rf_cat]; exact Nat.le_of_ble_eq_true rfl)) (fun Θ X hin => ?_)
  refine wa_eq (L2 := [(0, va_rf p0), (1, .int x1), (2, .int x2)]) ?_ rfl (by first | rfl | simp [lv_args, va_rf_cat, cat_i, cat_l]) rfl
  obtain ⟨k, hk0⟩ : ∃ k : Nat, k = 0 := ⟨0, rfl⟩
  obtain ⟨n, hn0⟩ : ∃ n : Nat, n = 0 := ⟨0, rfl⟩
  have hk : k + c = c := by omega
  have hn : n + m = m := by omega
  refine wa_costs hk0.symm hn0.symm ?_
  rw [fJ7_copyOfRange_23910] at hf
  refine wa_iload_n X 1 dJ7_copyOfRange_23910_0 rfl ?_
  refine wa_ifne (tgt := 10) X dJ7_copyOfRange_23910_1 (by decide) (fun h1 => ?_) (fun h1 => ?_)
  · rw [if_neg h1] at hf
    refine wa_sub (L2 := [(0, va_rf p0), (1, .int x1), (2, .int x2)]) [0, 1, 2] rfl ?_
    exact gJ7_copyOfRange_23910_b10 X p0 x1 x2 μ _ _ _ _ hf (by omega) (by omega)
  · rw [if_pos h1] at hf
    refine wa_iload_n X 2 dJ7_copyOfRange_23910_4 rfl ?_
    refine wa_aload_n X 0 dJ7_copyOfRange_23910_5 rfl ?_
    obtain ⟨q2, h3, hf⟩ := jde_some hf
    obtain ⟨h4, hf⟩ := jckT hf
    refine wa_ralen (t := 102) X dJ7_copyOfRange_23910_6 h3 h4 (by decide) ?_
    refine wa_iceq (tgt := 17) X dJ7_copyOfRange_23910_7 (by decide) (fun h5 => ?_) (fun h5 => ?_)
    · rw [if_pos h5] at hf
      refine wa_aload_n X 0 dJ7_copyOfRange_23910_17 rfl ?_
      cases hf
    · rw [if_neg h5] at hf
      refine wa_sub (L2 := [(0, va_rf p0), (1, .int x1), (2, .int x2)]) [0, 1, 2] rfl ?_
      exact gJ7_copyOfRange_23910_b10 X p0 x1 x2 μ _ _ _ _ hf (by omega) (by omega)
theorem dX7_readSince_0 : decode cX7_readSince 0 = .ok (.aload_n 0, 1) := by decide +kernel
theorem dX7_readSince_1 : decode cX7_readSince 1 = .ok (.getfield 15, 3) := by decide +kernel
theorem dX7_readSince_4 : decode cX7_readSince 4 = .ok (.iload_n 1, 1) := by decide +kernel
theorem dX7_readSince_5 : decode cX7_readSince 5 = .ok (.aload_n 0, 1) := by decide +kernel
theorem dX7_readSince_6 : decode cX7_readSince 6 = .ok (.getfield 27, 3) := by decide +kernel
theorem dX7_readSince_9 : decode cX7_readSince 9 = .ok (.invokestatic 36, 3) := by decide +kernel
theorem dX7_readSince_12 : decode cX7_readSince 12 = .ok (.aload_n 0, 1) := by decide +kernel
theorem dX7_readSince_13 : decode cX7_readSince 13 = .ok (.getfield 27, 3) := by decide +kernel
theorem dX7_readSince_16 : decode cX7_readSince 16 = .ok (.invokestatic 100, 3) := by decide +kernel
theorem dX7_readSince_19 : decode cX7_readSince 19 = .ok (.areturn, 1) := by decide +kernel
def fX7_readSince (a : Nat) (x1 : Int32) (μ : JM) : JO (Option Nat) := jck ((jT μ a).1 == 8) <| jcl (fJ7_copyOfRange_23910 (jP μ a 1) (jmin x1 (jI μ a 4)) (jI μ a 4) μ) fun r2 μ3 => some (r2, μ3, 0, 0)
set_option maxHeartbeats 4000000 in
set_option maxRecDepth 100000 in
theorem mX7_readSince {b : Nat} {a : Nat} {x1 : Int32} {μ : JM} {r : Option Nat} {ν : JM} {c m : Nat} (hf : fX7_readSince a x1 μ = some (r, ν, c, m)) : JMet b yX7_readSince cX7_readSince 2 (some (.array .long)) 3 106 [va_rf (some a), .int x1] μ (some (va_rf r)) ν c m := by
  refine JMet.of (by decide) (lg_sl_le (by simp only [List.map_cons, List.map_nil, List.sum_cons, List.sum_nil, va_rf_cat]; exact Nat.le_of_ble_eq_true rfl)) (fun Θ X hin => ?_)
  refine wa_eq (L2 := [(0, va_rf (some a)), (1, .int x1)]) ?_ rfl (by first | rfl | simp [lv_args, va_rf_cat, cat_i, cat_l]) rfl
  obtain ⟨k, hk0⟩ : ∃ k : Nat, k = 0 := ⟨0, rfl⟩
  obtain ⟨n, hn0⟩ : ∃ n : Nat, n = 0 := ⟨0, rfl⟩
  have hk : k + c = c := by omega
  have hn : n + m = m := by omega
  refine wa_costs hk0.symm hn0.symm ?_
  rw [fX7_readSince] at hf
  refine wa_aload_n X 0 dX7_readSince_0 rfl ?_
  obtain ⟨h1, hf⟩ := jckT hf
  refine wa_getP X dX7_readSince_1 lfX7_15 rfl h1 rfl ?_
  refine wa_iload_n X 1 dX7_readSince_4 rfl ?_
  refine wa_aload_n X 0 dX7_readSince_5 rfl ?_
  refine wa_getI X dX7_readSince_6 lfX7_27 rfl h1 rfl ?_
  refine wa_mmin X dX7_readSince_9 lmX7_36 l9_smin ln_RJ9 l9_cmin (by decide) (Nat.le_trans (Nat.add_le_add_right (va_cats (m := 8) (Nat.le_of_ble_eq_true rfl)) 13) (by decide)) (by omega) (by omega) ?_
  refine wa_aload_n X 0 dX7_readSince_12 rfl ?_
  refine wa_getI X dX7_readSince_13 lfX7_27 rfl h1 rfl ?_
  obtain ⟨r2, μ3, c4, m5, c6, m7, e8, hf, h9, h10⟩ := jcl_some hf
  refine wa_rcallS (st2 := [va_rf r2]) X dX7_readSince_16 lmX7_100 lMJ7_copyOfRange_23910 (mJ7_copyOfRange_23910 e8) rfl rfl rfl (va_cats (Nat.le_of_ble_eq_true rfl)) (by decide) (by omega) (by omega) ?_
  obtain ⟨rfl, rfl, rfl, rfl⟩ := jret hf
  exact wa_aret X dX7_readSince_19 (by first | exact Or.inl ⟨_, rfl⟩ | exact Or.inr ⟨_, rfl⟩) (by omega) (by omega)
theorem dX6_init_0 : decode cX6_init 0 = .ok (.aload_n 0, 1) := by decide +kernel
theorem dX6_init_1 : decode cX6_init 1 = .ok (.invokespecial 3, 3) := by decide +kernel
theorem dX6_init_4 : decode cX6_init 4 = .ok (.aload_n 0, 1) := by decide +kernel
theorem dX6_init_5 : decode cX6_init 5 = .ok (.iload_n 1, 1) := by decide +kernel
theorem dX6_init_6 : decode cX6_init 6 = .ok (.iconst 0, 1) := by decide +kernel
theorem dX6_init_7 : decode cX6_init 7 = .ok (.invokestatic 9, 3) := by decide +kernel
theorem dX6_init_10 : decode cX6_init 10 = .ok (.newarray .byte, 2) := by decide +kernel
theorem dX6_init_12 : decode cX6_init 12 = .ok (.putfield 15, 3) := by decide +kernel
theorem dX6_init_15 : decode cX6_init 15 = .ok (.aload_n 0, 1) := by decide +kernel
theorem dX6_init_16 : decode cX6_init 16 = .ok (.aload_n 2, 1) := by decide +kernel
theorem dX6_init_17 : decode cX6_init 17 = .ok (.putfield 21, 3) := by decide +kernel
theorem dX6_init_20 : decode cX6_init 20 = .ok (.return_, 1) := by decide +kernel
def fX6_init (a : Nat) (x1 : Int32) (p2 : Option Nat) (μ : JM) : JO (Unit) := jck (decide (¬ (jmax x1 (0 : Int32)) < 0)) <| jck (decide (((jmax x1 (0 : Int32))).toNatClampNeg * 8 ≤ 536870912)) <| jnw μ 100 ((jmax x1 (0 : Int32))).toNatClampNeg fun q1 μ2 => jck ((jT μ2 a).1 == 7) <| jlt (jsP μ2 a 0 (some q1)) fun μ13 => jlt (jsP μ13 a 1 p2) fun μ16 => some ((), μ16, 0, 0)
set_option maxHeartbeats 4000000 in
set_option maxRecDepth 100000 in
theorem mX6_init {b : Nat} {a : Nat} {x1 : Int32} {p2 : Option Nat} {μ : JM} {r : Unit} {ν : JM} {c m : Nat} (hf : fX6_init a x1 p2 μ = some (r, ν, c, m)) : JMet b yX6_init cX6_init 3 none 1 21 [va_rf (some a), .int x1, va_rf p2] μ (none) ν c m := by
  refine JMet.of (by decide) (lg_sl_le (by simp only [List.map_cons, List.map_nil, List.sum_cons, List.sum_nil, va_rf_cat]; exact Nat.le_of_ble_eq_true rfl)) (fun Θ X hin => ?_)
  have hin := hin rfl
  refine wa_eq (L2 := [(0, va_rf (some a)), (1, .int x1), (2, va_rf p2)]) ?_ rfl (by first | rfl | simp [lv_args, va_rf_cat, cat_i, cat_l]) rfl
  obtain ⟨k, hk0⟩ : ∃ k : Nat, k = 0 := ⟨0, rfl⟩
  obtain ⟨n, hn0⟩ : ∃ n : Nat, n = 0 := ⟨0, rfl⟩
  have hk : k + c = c := by omega
  have hn : n + m = m := by omega
  refine wa_costs hk0.symm hn0.symm ?_
  rw [fX6_init] at hf
  refine wa_aload_n X 0 dX6_init_0 rfl ?_
  refine wa_robj X dX6_init_1 lmX6_3 lo_inst lo_code (by decide) (Nat.le_trans (Nat.add_le_add_right (va_cats (m := 8) (Nat.le_of_ble_eq_true rfl)) 12) (by decide)) rfl ?_
  refine wa_aload_n X 0 dX6_init_4 rfl ?_
  refine wa_iload_n X 1 dX6_init_5 rfl ?_
  refine wa_iconst (v := (0 : Int32)) X dX6_init_6 (by decide) ?_
  refine wa_mmax X dX6_init_7 lmX6_9 l9_smax ln_RJ9 l9_cmax (by decide) (Nat.le_trans (Nat.add_le_add_right (va_cats (m := 8) (Nat.le_of_ble_eq_true rfl)) 13) (by decide)) (by omega) (by omega) ?_
  obtain ⟨h10, hf⟩ := jckD hf
  obtain ⟨h11, hf⟩ := jckD hf
  obtain ⟨q1, μ2, c5, m6, h3, hm4, hf, h7, h8⟩ := jnw_some hf
  refine wa_newa (t := 100) (N := ((jmax x1 (0 : Int32))).toNatClampNeg) X dX6_init_10 (by decide) rfl la_100 h10 rfl h11 (by omega) (by omega) ?_
  rw [← h3, ← hm4]
  have h9 : (jT μ2 q1).1 = 100 := by rw [jT_at h3 hm4]
  obtain ⟨h12, hf⟩ := jckT hf
  obtain ⟨μ13, hm14, hf⟩ := jlt_e hf
  have e15 : jT μ13 = jT μ2 := by rw [hm14]; rfl
  refine wa_rputFP (ν := μ13) X hin dX6_init_12 lfX6_15 rfl h12 (by first | exact Or.inl ⟨_, rfl⟩ | exact Or.inr ⟨_, rfl⟩) rfl rfl hm14 ?_
  refine wa_aload_n X 0 dX6_init_15 rfl ?_
  refine wa_aload_n X 2 dX6_init_16 rfl ?_
  obtain ⟨μ16, hm17, hf⟩ := jlt_e hf
  have e18 : jT μ16 = jT μ2 := by rw [hm17]; exact e15
  refine wa_rputFP (ν := μ16) X hin dX6_init_17 lfX6_21 rfl (by rw [e15]; exact h12) (by first | exact Or.inl ⟨_, rfl⟩ | exact Or.inr ⟨_, rfl⟩) rfl rfl hm17 ?_
  obtain ⟨rfl, rfl, rfl, rfl⟩ := jret hf
  exact wa_vret X dX6_init_20 (by omega) (by omega)
theorem dX6_clear_0 : decode cX6_clear 0 = .ok (.aload_n 0, 1) := by decide +kernel
theorem dX6_clear_1 : decode cX6_clear 1 = .ok (.iconst 0, 1) := by decide +kernel
theorem dX6_clear_2 : decode cX6_clear 2 = .ok (.putfield 25, 3) := by decide +kernel
theorem dX6_clear_5 : decode cX6_clear 5 = .ok (.return_, 1) := by decide +kernel
def fX6_clear (a : Nat) (μ : JM) : JO (Unit) := jck ((jT μ a).1 == 7) <| jlt (jsI μ a 2 (0 : Int32)) fun μ2 => some ((), μ2, 0, 0)
set_option maxHeartbeats 4000000 in
set_option maxRecDepth 100000 in
theorem mX6_clear {b : Nat} {a : Nat} {μ : JM} {r : Unit} {ν : JM} {c m : Nat} (hf : fX6_clear a μ = some (r, ν, c, m)) : JMet b yX6_clear cX6_clear 1 none 0 0 [va_rf (some a)] μ (none) ν c m := by
  refine JMet.of (by decide) (lg_sl_le (by simp only [List.map_cons, List.map_nil, List.sum_cons, List.sum_nil, va_rf_cat]; exact Nat.le_of_ble_eq_true rfl)) (fun Θ X hin => ?_)
  refine wa_eq (L2 := [(0, va_rf (some a))]) ?_ rfl (by first | rfl | simp [lv_args, va_rf_cat, cat_i, cat_l]) rfl
  obtain ⟨k, hk0⟩ : ∃ k : Nat, k = 0 := ⟨0, rfl⟩
  obtain ⟨n, hn0⟩ : ∃ n : Nat, n = 0 := ⟨0, rfl⟩
  have hk : k + c = c := by omega
  have hn : n + m = m := by omega
  refine wa_costs hk0.symm hn0.symm ?_
  rw [fX6_clear] at hf
  refine wa_aload_n X 0 dX6_clear_0 rfl ?_
  refine wa_iconst (v := (0 : Int32)) X dX6_clear_1 (by decide) ?_
  obtain ⟨h1, hf⟩ := jckT hf
  obtain ⟨μ2, hm3, hf⟩ := jlt_e hf
  have e4 : jT μ2 = jT μ := by rw [hm3]; rfl
  refine wa_rputI (ν := μ2) X dX6_clear_2 lfX6_25 rfl h1 rfl rfl hm3 ?_
  obtain ⟨rfl, rfl, rfl, rfl⟩ := jret hf
  exact wa_vret X dX6_clear_5 (by omega) (by omega)
theorem dX6_byteAt_0 : decode cX6_byteAt 0 = .ok (.iload_n 1, 1) := by decide +kernel
theorem dX6_byteAt_1 : decode cX6_byteAt 1 = .ok (.ifCond .lt 20, 3) := by decide +kernel
theorem dX6_byteAt_4 : decode cX6_byteAt 4 = .ok (.iload_n 1, 1) := by decide +kernel
theorem dX6_byteAt_5 : decode cX6_byteAt 5 = .ok (.aload_n 0, 1) := by decide +kernel
theorem dX6_byteAt_6 : decode cX6_byteAt 6 = .ok (.getfield 25, 3) := by decide +kernel
theorem dX6_byteAt_9 : decode cX6_byteAt 9 = .ok (.if_icmp .ge 12, 3) := by decide +kernel
theorem dX6_byteAt_12 : decode cX6_byteAt 12 = .ok (.iload_n 1, 1) := by decide +kernel
theorem dX6_byteAt_13 : decode cX6_byteAt 13 = .ok (.aload_n 0, 1) := by decide +kernel
theorem dX6_byteAt_14 : decode cX6_byteAt 14 = .ok (.getfield 15, 3) := by decide +kernel
theorem dX6_byteAt_17 : decode cX6_byteAt 17 = .ok (.arraylength, 1) := by decide +kernel
theorem dX6_byteAt_18 : decode cX6_byteAt 18 = .ok (.if_icmp .lt 7, 3) := by decide +kernel
theorem dX6_byteAt_21 : decode cX6_byteAt 21 = .ok (.iconst (-1), 1) := by decide +kernel
theorem dX6_byteAt_22 : decode cX6_byteAt 22 = .ok (.goto 13, 3) := by decide +kernel
theorem dX6_byteAt_25 : decode cX6_byteAt 25 = .ok (.aload_n 0, 1) := by decide +kernel
theorem dX6_byteAt_26 : decode cX6_byteAt 26 = .ok (.getfield 15, 3) := by decide +kernel
theorem dX6_byteAt_29 : decode cX6_byteAt 29 = .ok (.iload_n 1, 1) := by decide +kernel
theorem dX6_byteAt_30 : decode cX6_byteAt 30 = .ok (.baload, 1) := by decide +kernel
theorem dX6_byteAt_31 : decode cX6_byteAt 31 = .ok (.sipush 255, 3) := by decide +kernel
theorem dX6_byteAt_34 : decode cX6_byteAt 34 = .ok (.iand, 1) := by decide +kernel
theorem dX6_byteAt_35 : decode cX6_byteAt 35 = .ok (.ireturn, 1) := by decide +kernel
def fX6_byteAt (a : Nat) (x1 : Int32) (μ : JM) : JO (Int32) := if x1 < 0 then (some ((-1 : Int32), μ, 0, 0)) else (jck ((jT μ a).1 == 7) <| if (jI μ a 2) ≤ x1 then (some ((-1 : Int32), μ, 0, 0)) else (jde (jP μ a 0) fun q4 => jck ((jT μ q4).1 == 100) <| if x1 < (nI (jT μ q4).2) then (jck (jin x1 (jT μ q4).2) <| some (((jI μ q4 (x1).toNatClampNeg) &&& (255 : Int32)), μ, 0, 0)) else (some ((-1 : Int32), μ, 0, 0))))
set_option maxHeartbeats 4000000 in
set_option maxRecDepth 100000 in
theorem mX6_byteAt {b : Nat} {a : Nat} {x1 : Int32} {μ : JM} {r : Int32} {ν : JM} {c m : Nat} (hf : fX6_byteAt a x1 μ = some (r, ν, c, m)) : JMet b yX6_byteAt cX6_byteAt 2 (some .int) 0 0 [va_rf (some a), .int x1] μ (some (.int r)) ν c m := by
  refine JMet.of (by decide) (lg_sl_le (by simp only [List.map_cons, List.map_nil, List.sum_cons, List.sum_nil, va_rf_cat]; exact Nat.le_of_ble_eq_true rfl)) (fun Θ X hin => ?_)
  refine wa_eq (L2 := [(0, va_rf (some a)), (1, .int x1)]) ?_ rfl (by first | rfl | simp [lv_args, va_rf_cat, cat_i, cat_l]) rfl
  obtain ⟨k, hk0⟩ : ∃ k : Nat, k = 0 := ⟨0, rfl⟩
  obtain ⟨n, hn0⟩ : ∃ n : Nat, n = 0 := ⟨0, rfl⟩
  have hk : k + c = c := by omega
  have hn : n + m = m := by omega
  refine wa_costs hk0.symm hn0.symm ?_
  rw [fX6_byteAt] at hf
  refine wa_iload_n X 1 dX6_byteAt_0 rfl ?_
  refine wa_iflt (tgt := 21) X dX6_byteAt_1 (by decide) (fun h1 => ?_) (fun h1 => ?_)
  · rw [if_pos h1] at hf
    refine wa_iconst (v := (-1 : Int32)) X dX6_byteAt_21 (by decide) ?_
    refine wa_goto (tgt := 35) X dX6_byteAt_22 (by decide) ?_
    obtain ⟨rfl, rfl, rfl, rfl⟩ := jret hf
    exact wa_iret X dX6_byteAt_35 rfl (by omega) (by omega)
  · rw [if_neg h1] at hf
    refine wa_iload_n X 1 dX6_byteAt_4 rfl ?_
    refine wa_aload_n X 0 dX6_byteAt_5 rfl ?_
    obtain ⟨h2, hf⟩ := jckT hf
    refine wa_getI X dX6_byteAt_6 lfX6_25 rfl h2 rfl ?_
    refine wa_icge (tgt := 21) X dX6_byteAt_9 (by decide) (fun h3 => ?_) (fun h3 => ?_)
    · rw [if_pos h3] at hf
      refine wa_iconst (v := (-1 : Int32)) X dX6_byteAt_21 (by decide) ?_
      refine wa_goto (tgt := 35) X dX6_byteAt_22 (by decide) ?_
      obtain ⟨rfl, rfl, rfl, rfl⟩ := jret hf
      exact wa_iret X dX6_byteAt_35 rfl (by omega) (by omega)
    · rw [if_neg h3] at hf
      refine wa_iload_n X 1 dX6_byteAt_12 rfl ?_
      refine wa_aload_n X 0 dX6_byteAt_13 rfl ?_
      refine wa_getP X dX6_byteAt_14 lfX6_15 rfl h2 rfl ?_
      obtain ⟨q4, h5, hf⟩ := jde_some hf
      obtain ⟨h6, hf⟩ := jckT hf
      refine wa_ralen (t := 100) X dX6_byteAt_17 h5 h6 (by decide) ?_
      refine wa_iclt (tgt := 25) X dX6_byteAt_18 (by decide) (fun h7 => ?_) (fun h7 => ?_)
      · rw [if_pos h7] at hf
        refine wa_aload_n X 0 dX6_byteAt_25 rfl ?_
        refine wa_getP X dX6_byteAt_26 lfX6_15 rfl h2 rfl ?_
        refine wa_iload_n X 1 dX6_byteAt_29 rfl ?_
        obtain ⟨h8, hf⟩ := jck_some hf
        refine wa_rbald X dX6_byteAt_30 h5 h6 h8 ?_
        refine wa_sipush (v := (255 : Int32)) X dX6_byteAt_31 (by decide) ?_
        refine wa_iand X dX6_byteAt_34 ?_
        obtain ⟨rfl, rfl, rfl, rfl⟩ := jret hf
        exact wa_iret X dX6_byteAt_35 rfl (by omega) (by omega)
      · rw [if_neg h7] at hf
        refine wa_iconst (v := (-1 : Int32)) X dX6_byteAt_21 (by decide) ?_
        refine wa_goto (tgt := 35) X dX6_byteAt_22 (by decide) ?_
        obtain ⟨rfl, rfl, rfl, rfl⟩ := jret hf
        exact wa_iret X dX6_byteAt_35 rfl (by omega) (by omega)
theorem dX6_addByte_0 : decode cX6_addByte 0 = .ok (.aload_n 0, 1) := by decide +kernel
theorem dX6_addByte_1 : decode cX6_addByte 1 = .ok (.getfield 25, 3) := by decide +kernel
theorem dX6_addByte_4 : decode cX6_addByte 4 = .ok (.aload_n 0, 1) := by decide +kernel
theorem dX6_addByte_5 : decode cX6_addByte 5 = .ok (.getfield 15, 3) := by decide +kernel
theorem dX6_addByte_8 : decode cX6_addByte 8 = .ok (.arraylength, 1) := by decide +kernel
theorem dX6_addByte_9 : decode cX6_addByte 9 = .ok (.if_icmp .ge 14, 3) := by decide +kernel
theorem dX6_addByte_12 : decode cX6_addByte 12 = .ok (.aload_n 0, 1) := by decide +kernel
theorem dX6_addByte_13 : decode cX6_addByte 13 = .ok (.getfield 15, 3) := by decide +kernel
theorem dX6_addByte_16 : decode cX6_addByte 16 = .ok (.aload_n 0, 1) := by decide +kernel
theorem dX6_addByte_17 : decode cX6_addByte 17 = .ok (.getfield 25, 3) := by decide +kernel
theorem dX6_addByte_20 : decode cX6_addByte 20 = .ok (.iload_n 1, 1) := by decide +kernel
theorem dX6_addByte_21 : decode cX6_addByte 21 = .ok (.i2b, 1) := by decide +kernel
theorem dX6_addByte_22 : decode cX6_addByte 22 = .ok (.bastore, 1) := by decide +kernel
theorem dX6_addByte_23 : decode cX6_addByte 23 = .ok (.aload_n 0, 1) := by decide +kernel
theorem dX6_addByte_24 : decode cX6_addByte 24 = .ok (.dup, 1) := by decide +kernel
theorem dX6_addByte_25 : decode cX6_addByte 25 = .ok (.getfield 25, 3) := by decide +kernel
theorem dX6_addByte_28 : decode cX6_addByte 28 = .ok (.iconst 1, 1) := by decide +kernel
theorem dX6_addByte_29 : decode cX6_addByte 29 = .ok (.iadd, 1) := by decide +kernel
theorem dX6_addByte_30 : decode cX6_addByte 30 = .ok (.putfield 25, 3) := by decide +kernel
theorem dX6_addByte_33 : decode cX6_addByte 33 = .ok (.return_, 1) := by decide +kernel
def fX6_addByte_b23 (a : Nat) (μ : JM) : JO (Unit) := jck ((jT μ a).1 == 7) <| jlt (jsI μ a 2 ((jI μ a 2) + (1 : Int32))) fun μ11 => some ((), μ11, 0, 0)
set_option maxHeartbeats 4000000 in
set_option maxRecDepth 100000 in
theorem gX6_addByte_b23 {b : Nat} {Θ : JE} {RC RS : Nat} {r : Unit} {ν : JM} (X : jX b Θ RX6 cX6_addByte 2 none 0 0 RC RS) (a : Nat) (μ : JM) (c m k n : Nat) (hf : fX6_addByte_b23 a μ = some (r, ν, c, m)) (hk : k + c = RC) (hn : n + m = RS) : WA b Θ 2 (jE b Θ (none) ν RC RS) μ k n 23 [(0, va_rf (some a))] [] := by
  rw [fX6_addByte_b23] at hf
  refine wa_aload_n X 0 dX6_addByte_23 rfl ?_
  refine wa_dup X dX6_addByte_24 (va_rf_cat _) ?_
  obtain ⟨h10, hf⟩ := jckT hf
  refine wa_getI X dX6_addByte_25 lfX6_25 rfl h10 rfl ?_
  refine wa_iconst (v := (1 : Int32)) X dX6_addByte_28 (by decide) ?_
  refine wa_iadd X dX6_addByte_29 ?_
  obtain ⟨μ11, hm12, hf⟩ := jlt_e hf
  have e13 : jT μ11 = jT μ := by rw [hm12]; rfl
  refine wa_rputI (ν := μ11) X dX6_addByte_30 lfX6_25 rfl h10 rfl rfl hm12 ?_
  obtain ⟨rfl, rfl, rfl, rfl⟩ := jret hf
  exact wa_vret X dX6_addByte_33 (by omega) (by omega)
def fX6_addByte (a : Nat) (x1 : Int32) (μ : JM) : JO (Unit) := jck ((jT μ a).1 == 7) <| jde (jP μ a 0) fun q2 => jck ((jT μ q2).1 == 100) <| if (nI (jT μ q2).2) ≤ (jI μ a 2) then (fX6_addByte_b23  a μ) else (jck (jin (jI μ a 2) (jT μ q2).2) <| jlt (jsI μ q2 ((jI μ a 2)).toNatClampNeg (vp_nar .byte (jb8 x1))) fun μ7 => fX6_addByte_b23  a μ7)
set_option maxHeartbeats 4000000 in
set_option maxRecDepth 100000 in
theorem mX6_addByte {b : Nat} {a : Nat} {x1 : Int32} {μ : JM} {r : Unit} {ν : JM} {c m : Nat} (hf : fX6_addByte a x1 μ = some (r, ν, c, m)) : JMet b yX6_addByte cX6_addByte 2 none 0 0 [va_rf (some a), .int x1] μ (none) ν c m := by
  refine JMet.of (by decide) (lg_sl_le (by simp only [List.map_cons, List.map_nil, List.sum_cons, List.sum_nil, va_rf_cat]; exact Nat.le_of_ble_eq_true rfl)) (fun Θ X hin => ?_)
  refine wa_eq (L2 := [(0, va_rf (some a)), (1, .int x1)]) ?_ rfl (by first | rfl | simp [lv_args, va_rf_cat, cat_i, cat_l]) rfl
  obtain ⟨k, hk0⟩ : ∃ k : Nat, k = 0 := ⟨0, rfl⟩
  obtain ⟨n, hn0⟩ : ∃ n : Nat, n = 0 := ⟨0, rfl⟩
  have hk : k + c = c := by omega
  have hn : n + m = m := by omega
  refine wa_costs hk0.symm hn0.symm ?_
  rw [fX6_addByte] at hf
  refine wa_aload_n X 0 dX6_addByte_0 rfl ?_
  obtain ⟨h1, hf⟩ := jckT hf
  refine wa_getI X dX6_addByte_1 lfX6_25 rfl h1 rfl ?_
  refine wa_aload_n X 0 dX6_addByte_4 rfl ?_
  refine wa_getP X dX6_addByte_5 lfX6_15 rfl h1 rfl ?_
  obtain ⟨q2, h3, hf⟩ := jde_some hf
  obtain ⟨h4, hf⟩ := jckT hf
  refine wa_ralen (t := 100) X dX6_addByte_8 h3 h4 (by decide) ?_
  refine wa_icge (tgt := 23) X dX6_addByte_9 (by decide) (fun h5 => ?_) (fun h5 => ?_)
  · rw [if_pos h5] at hf
    refine wa_sub (L2 := [(0, va_rf (some a))]) [0] rfl ?_
    exact gX6_addByte_b23 X a μ _ _ _ _ hf (by omega) (by omega)
  · rw [if_neg h5] at hf
    refine wa_aload_n X 0 dX6_addByte_12 rfl ?_
    refine wa_getP X dX6_addByte_13 lfX6_15 rfl h1 rfl ?_
    refine wa_aload_n X 0 dX6_addByte_16 rfl ?_
    refine wa_getI X dX6_addByte_17 lfX6_25 rfl h1 rfl ?_
    refine wa_iload_n X 1 dX6_addByte_20 rfl ?_
    refine wa_i2b X dX6_addByte_21 ?_
    obtain ⟨h6, hf⟩ := jck_some hf
    obtain ⟨μ7, hm8, hf⟩ := jlt_e hf
    have e9 : jT μ7 = jT μ := by rw [hm8]; rfl
    refine wa_rbast (ν := μ7) X dX6_addByte_22 h3 h4 h6 hm8 ?_
    refine wa_sub (L2 := [(0, va_rf (some a))]) [0] rfl ?_
    exact gX6_addByte_b23 X a μ7 _ _ _ _ hf (by omega) (by omega)
theorem dX6_addFour_0 : decode cX6_addFour 0 = .ok (.aload_n 0, 1) := by decide +kernel
theorem dX6_addFour_1 : decode cX6_addFour 1 = .ok (.iload_n 1, 1) := by decide +kernel
theorem dX6_addFour_2 : decode cX6_addFour 2 = .ok (.bipush 24, 2) := by decide +kernel
theorem dX6_addFour_4 : decode cX6_addFour 4 = .ok (.iushr, 1) := by decide +kernel
theorem dX6_addFour_5 : decode cX6_addFour 5 = .ok (.invokevirtual 29, 3) := by decide +kernel
theorem dX6_addFour_8 : decode cX6_addFour 8 = .ok (.aload_n 0, 1) := by decide +kernel
theorem dX6_addFour_9 : decode cX6_addFour 9 = .ok (.iload_n 1, 1) := by decide +kernel
theorem dX6_addFour_10 : decode cX6_addFour 10 = .ok (.bipush 16, 2) := by decide +kernel
theorem dX6_addFour_12 : decode cX6_addFour 12 = .ok (.iushr, 1) := by decide +kernel
theorem dX6_addFour_13 : decode cX6_addFour 13 = .ok (.invokevirtual 29, 3) := by decide +kernel
theorem dX6_addFour_16 : decode cX6_addFour 16 = .ok (.aload_n 0, 1) := by decide +kernel
theorem dX6_addFour_17 : decode cX6_addFour 17 = .ok (.iload_n 1, 1) := by decide +kernel
theorem dX6_addFour_18 : decode cX6_addFour 18 = .ok (.bipush 8, 2) := by decide +kernel
theorem dX6_addFour_20 : decode cX6_addFour 20 = .ok (.iushr, 1) := by decide +kernel
theorem dX6_addFour_21 : decode cX6_addFour 21 = .ok (.invokevirtual 29, 3) := by decide +kernel
theorem dX6_addFour_24 : decode cX6_addFour 24 = .ok (.aload_n 0, 1) := by decide +kernel
theorem dX6_addFour_25 : decode cX6_addFour 25 = .ok (.iload_n 1, 1) := by decide +kernel
theorem dX6_addFour_26 : decode cX6_addFour 26 = .ok (.invokevirtual 29, 3) := by decide +kernel
theorem dX6_addFour_29 : decode cX6_addFour 29 = .ok (.return_, 1) := by decide +kernel
def fX6_addFour (a : Nat) (x1 : Int32) (μ : JM) : JO (Unit) := jck ((jT μ a).1 == 7) <| jcl (fX6_addByte a (jushr x1 (24 : Int32)) μ) fun u2 μ3 => jck ((jT μ3 a).1 == 7) <| jcl (fX6_addByte a (jushr x1 (16 : Int32)) μ3) fun u12 μ13 => jck ((jT μ13 a).1 == 7) <| jcl (fX6_addByte a (jushr x1 (8 : Int32)) μ13) fun u22 μ23 => jck ((jT μ23 a).1 == 7) <| jcl (fX6_addByte a x1 μ23) fun u32 μ33 => some ((), μ33, 0, 0)
set_option maxHeartbeats 4000000 in
set_option maxRecDepth 100000 in
theorem mX6_addFour {b : Nat} {a : Nat} {x1 : Int32} {μ : JM} {r : Unit} {ν : JM} {c m : Nat} (hf : fX6_addFour a x1 μ = some (r, ν, c, m)) : JMet b yX6_addFour cX6_addFour 2 none 1 21 [va_rf (some a), .int x1] μ (none) ν c m := by
  refine JMet.of (by decide) (lg_sl_le (by simp only [List.map_cons, List.map_nil, List.sum_cons, List.sum_nil, va_rf_cat]; exact Nat.le_of_ble_eq_true rfl)) (fun Θ X hin => ?_)
  refine wa_eq (L2 := [(0, va_rf (some a)), (1, .int x1)]) ?_ rfl (by first | rfl | simp [lv_args, va_rf_cat, cat_i, cat_l]) rfl
  obtain ⟨k, hk0⟩ : ∃ k : Nat, k = 0 := ⟨0, rfl⟩
  obtain ⟨n, hn0⟩ : ∃ n : Nat, n = 0 := ⟨0, rfl⟩
  have hk : k + c = c := by omega
  have hn : n + m = m := by omega
  refine wa_costs hk0.symm hn0.symm ?_
  rw [fX6_addFour] at hf
  refine wa_aload_n X 0 dX6_addFour_0 rfl ?_
  refine wa_iload_n X 1 dX6_addFour_1 rfl ?_
  refine wa_bipush (v := (24 : Int32)) X dX6_addFour_2 (by decide) ?_
  refine wa_iushr X dX6_addFour_4 ?_
  obtain ⟨h1, hf⟩ := jckT hf
  obtain ⟨u2, μ3, c4, m5, c6, m7, e8, hf, h9, h10⟩ := jcl_some hf
  refine wa_rcallV (st2 := []) X dX6_addFour_5 lmX6_29 lMX6_addByte rfl h1 (mX6_addByte e8) rfl rfl rfl (va_cats (Nat.le_of_ble_eq_true rfl)) (by decide) (by omega) (by omega) ?_
  refine wa_aload_n X 0 dX6_addFour_8 rfl ?_
  refine wa_iload_n X 1 dX6_addFour_9 rfl ?_
  refine wa_bipush (v := (16 : Int32)) X dX6_addFour_10 (by decide) ?_
  refine wa_iushr X dX6_addFour_12 ?_
  obtain ⟨h11, hf⟩ := jckT hf
  obtain ⟨u12, μ13, c14, m15, c16, m17, e18, hf, h19, h20⟩ := jcl_some hf
  refine wa_rcallV (st2 := []) X dX6_addFour_13 lmX6_29 lMX6_addByte rfl h11 (mX6_addByte e18) rfl rfl rfl (va_cats (Nat.le_of_ble_eq_true rfl)) (by decide) (by omega) (by omega) ?_
  refine wa_aload_n X 0 dX6_addFour_16 rfl ?_
  refine wa_iload_n X 1 dX6_addFour_17 rfl ?_
  refine wa_bipush (v := (8 : Int32)) X dX6_addFour_18 (by decide) ?_
  refine wa_iushr X dX6_addFour_20 ?_
  obtain ⟨h21, hf⟩ := jckT hf
  obtain ⟨u22, μ23, c24, m25, c26, m27, e28, hf, h29, h30⟩ := jcl_some hf
  refine wa_rcallV (st2 := []) X dX6_addFour_21 lmX6_29 lMX6_addByte rfl h21 (mX6_addByte e28) rfl rfl rfl (va_cats (Nat.le_of_ble_eq_true rfl)) (by decide) (by omega) (by omega) ?_
  refine wa_aload_n X 0 dX6_addFour_24 rfl ?_
  refine wa_iload_n X 1 dX6_addFour_25 rfl ?_
  obtain ⟨h31, hf⟩ := jckT hf
  obtain ⟨u32, μ33, c34, m35, c36, m37, e38, hf, h39, h40⟩ := jcl_some hf
  refine wa_rcallV (st2 := []) X dX6_addFour_26 lmX6_29 lMX6_addByte rfl h31 (mX6_addByte e38) rfl rfl rfl (va_cats (Nat.le_of_ble_eq_true rfl)) (by decide) (by omega) (by omega) ?_
  obtain ⟨rfl, rfl, rfl, rfl⟩ := jret hf
  exact wa_vret X dX6_addFour_29 (by omega) (by omega)
theorem dX6_putWord_0 : decode cX6_putWord 0 = .ok (.lload_n 1, 1) := by decide +kernel
theorem dX6_putWord_1 : decode cX6_putWord 1 = .ok (.invokestatic 74, 3) := by decide +kernel
theorem dX6_putWord_4 : decode cX6_putWord 4 = .ok (.istore_n 3, 1) := by decide +kernel
theorem dX6_putWord_5 : decode cX6_putWord 5 = .ok (.iconst 0, 1) := by decide +kernel
theorem dX6_putWord_6 : decode cX6_putWord 6 = .ok (.istore 4, 2) := by decide +kernel
theorem dX6_putWord_8 : decode cX6_putWord 8 = .ok (.iload 4, 2) := by decide +kernel
theorem dX6_putWord_10 : decode cX6_putWord 10 = .ok (.iload_n 3, 1) := by decide +kernel
theorem dX6_putWord_11 : decode cX6_putWord 11 = .ok (.if_icmp .ge 19, 3) := by decide +kernel
theorem dX6_putWord_14 : decode cX6_putWord 14 = .ok (.aload_n 0, 1) := by decide +kernel
theorem dX6_putWord_15 : decode cX6_putWord 15 = .ok (.lload_n 1, 1) := by decide +kernel
theorem dX6_putWord_16 : decode cX6_putWord 16 = .ok (.iload 4, 2) := by decide +kernel
theorem dX6_putWord_18 : decode cX6_putWord 18 = .ok (.invokestatic 78, 3) := by decide +kernel
theorem dX6_putWord_21 : decode cX6_putWord 21 = .ok (.invokevirtual 29, 3) := by decide +kernel
theorem dX6_putWord_24 : decode cX6_putWord 24 = .ok (.iinc 4 1, 3) := by decide +kernel
theorem dX6_putWord_27 : decode cX6_putWord 27 = .ok (.goto (-19), 3) := by decide +kernel
theorem dX6_putWord_30 : decode cX6_putWord 30 = .ok (.return_, 1) := by decide +kernel
def fX6_putWord_b8 : Nat → Nat → Int64 → Int32 → Int32 → JM → JO (Unit)
  | 0, _, _, _, _, _ => none
  | fu + 1, a, y1, x3, x4, μ => if x3 ≤ x4 then (some ((), μ, 0, 0)) else (jcl (fX9_letterAt y1 x4 μ) fun r11 μ12 => jck ((jT μ12 a).1 == 7) <| jcl (fX6_addByte a r11 μ12) fun u21 μ22 => fX6_putWord_b8 fu a y1 x3 (x4 + (1 : Int32)) μ22)
set_option maxHeartbeats 4000000 in
set_option maxRecDepth 100000 in
theorem gX6_putWord_b8 {b : Nat} {Θ : JE} {RC RS : Nat} {r : Unit} {ν : JM} (X : jX b Θ RX6 cX6_putWord 5 none 2 46 RC RS) : ∀ (fu : Nat) (a : Nat) (y1 : Int64) (x3 : Int32) (x4 : Int32) (μ : JM) (c m k n : Nat), fX6_putWord_b8 fu a y1 x3 x4 μ = some (r, ν, c, m) → k + c = RC → n + m = RS → WA b Θ 5 (jE b Θ (none) ν RC RS) μ k n 8 [(0, va_rf (some a)), (1, .long y1), (3, .int x3), (4, .int x4)] [] := by
  intro fu
  induction fu with
  | zero => intro a y1 x3 x4 μ c m k n hf; cases hf
  | succ fu ih =>
    intro a y1 x3 x4 μ c m k n hf hk hn
    rw [fX6_putWord_b8] at hf
    refine wa_iload X 3 dX6_putWord_8 rfl ?_
    refine wa_iload_n X 2 dX6_putWord_10 rfl ?_
    refine wa_icge (tgt := 30) X dX6_putWord_11 (by decide) (fun h10 => ?_) (fun h10 => ?_)
    · rw [if_pos h10] at hf
      obtain ⟨rfl, rfl, rfl, rfl⟩ := jret hf
      exact wa_vret X dX6_putWord_30 (by omega) (by omega)
    · rw [if_neg h10] at hf
      refine wa_aload_n X 0 dX6_putWord_14 rfl ?_
      refine wa_lload_n X 1 dX6_putWord_15 rfl ?_
      refine wa_iload X 3 dX6_putWord_16 rfl ?_
      obtain ⟨r11, μ12, c13, m14, c15, m16, e17, hf, h18, h19⟩ := jcl_some hf
      refine wa_rcallS (st2 := [.int r11, va_rf (some a)]) X dX6_putWord_18 lmX6_78 lMX9_letterAt (mX9_letterAt e17) rfl rfl rfl (va_cats (Nat.le_of_ble_eq_true rfl)) (by decide) (by omega) (by omega) ?_
      obtain ⟨h20, hf⟩ := jckT hf
      obtain ⟨u21, μ22, c23, m24, c25, m26, e27, hf, h28, h29⟩ := jcl_some hf
      refine wa_rcallV (st2 := []) X dX6_putWord_21 lmX6_29 lMX6_addByte rfl h20 (mX6_addByte e27) rfl rfl rfl (va_cats (Nat.le_of_ble_eq_true rfl)) (by decide) (by omega) (by omega) ?_
      refine wa_iinc (v := (x4 + (1 : Int32))) (L2 := [(4, .int (x4 + (1 : Int32))), (0, va_rf (some a)), (1, .long y1), (3, .int x3)]) X 3 dX6_putWord_24 rfl rfl (by decide) (by first | rfl | simp [va_rf_cat, cat_i, cat_l]) ?_
      refine wa_goto (tgt := 8) X dX6_putWord_27 (by decide) ?_
      refine wa_sub (L2 := [(0, va_rf (some a)), (1, .long y1), (3, .int x3), (4, .int (x4 + (1 : Int32)))]) [1, 2, 3, 0] rfl ?_
      exact ih a y1 x3 (x4 + (1 : Int32)) μ22 _ _ _ _ hf (by omega) (by omega)
def fX6_putWord (a : Nat) (y1 : Int64) (μ : JM) : JO (Unit) := jcl (fX9_letterCount y1 μ) fun r1 μ2 => fX6_putWord_b8  jfuel a y1 r1 (0 : Int32) μ2
set_option maxHeartbeats 4000000 in
set_option maxRecDepth 100000 in
theorem mX6_putWord {b : Nat} {a : Nat} {y1 : Int64} {μ : JM} {r : Unit} {ν : JM} {c m : Nat} (hf : fX6_putWord a y1 μ = some (r, ν, c, m)) : JMet b yX6_putWord cX6_putWord 5 none 2 46 [va_rf (some a), .long y1] μ (none) ν c m := by
  refine JMet.of (by decide) (lg_sl_le (by simp only [List.map_cons, List.map_nil, List.sum_cons, List.sum_nil, va_rf_cat]; exact Nat.le_of_ble_eq_true rfl)) (fun Θ X hin => ?_)
  refine wa_eq (L2 := [(0, va_rf (some a)), (1, .long y1)]) ?_ rfl (by first | rfl | simp [lv_args, va_rf_cat, cat_i, cat_l]) rfl
  obtain ⟨k, hk0⟩ : ∃ k : Nat, k = 0 := ⟨0, rfl⟩
  obtain ⟨n, hn0⟩ : ∃ n : Nat, n = 0 := ⟨0, rfl⟩
  have hk : k + c = c := by omega
  have hn : n + m = m := by omega
  refine wa_costs hk0.symm hn0.symm ?_
  rw [fX6_putWord] at hf
  refine wa_lload_n X 1 dX6_putWord_0 rfl ?_
  obtain ⟨r1, μ2, c3, m4, c5, m6, e7, hf, h8, h9⟩ := jcl_some hf
  refine wa_rcallS (st2 := [.int r1]) X dX6_putWord_1 lmX6_74 lMX9_letterCount (mX9_letterCount e7) rfl rfl rfl (va_cats (Nat.le_of_ble_eq_true rfl)) (by decide) (by omega) (by omega) ?_
  refine wa_istore_n (L2 := [(3, .int r1), (0, va_rf (some a)), (1, .long y1)]) X dX6_putWord_4 (by decide) (by first | rfl | (show (3, _) :: List.filter (fun q : Nat × Value => !(q.1 == 3) && !(q.1 + 1 == 3 && q.2.category == 2)) _ = _; simp [va_rf_cat, cat_i, cat_l])) ?_
  refine wa_iconst (v := (0 : Int32)) X dX6_putWord_5 (by decide) ?_
  refine wa_istore (L2 := [(4, .int (0 : Int32)), (3, .int r1), (0, va_rf (some a)), (1, .long y1)]) X dX6_putWord_6 (by decide) (by first | rfl | (show (4, _) :: List.filter (fun q : Nat × Value => !(q.1 == 4) && !(q.1 + 1 == 4 && q.2.category == 2)) _ = _; simp [va_rf_cat, cat_i, cat_l])) ?_
  refine wa_sub (L2 := [(0, va_rf (some a)), (1, .long y1), (3, .int r1), (4, .int (0 : Int32))]) [2, 3, 1, 0] rfl ?_
  exact gX6_putWord_b8 X jfuel a y1 r1 (0 : Int32) μ2 _ _ _ _ hf (by omega) (by omega)
theorem dX6_putNumber_0 : decode cX6_putNumber 0 = .ok (.iload_n 1, 1) := by decide +kernel
theorem dX6_putNumber_1 : decode cX6_putNumber 1 = .ok (.bipush 100, 2) := by decide +kernel
theorem dX6_putNumber_3 : decode cX6_putNumber 3 = .ok (.if_icmp .lt 14, 3) := by decide +kernel
theorem dX6_putNumber_6 : decode cX6_putNumber 6 = .ok (.aload_n 0, 1) := by decide +kernel
theorem dX6_putNumber_7 : decode cX6_putNumber 7 = .ok (.bipush 48, 2) := by decide +kernel
theorem dX6_putNumber_9 : decode cX6_putNumber 9 = .ok (.iload_n 1, 1) := by decide +kernel
theorem dX6_putNumber_10 : decode cX6_putNumber 10 = .ok (.bipush 100, 2) := by decide +kernel
theorem dX6_putNumber_12 : decode cX6_putNumber 12 = .ok (.idiv, 1) := by decide +kernel
theorem dX6_putNumber_13 : decode cX6_putNumber 13 = .ok (.iadd, 1) := by decide +kernel
theorem dX6_putNumber_14 : decode cX6_putNumber 14 = .ok (.invokevirtual 29, 3) := by decide +kernel
theorem dX6_putNumber_17 : decode cX6_putNumber 17 = .ok (.iload_n 1, 1) := by decide +kernel
theorem dX6_putNumber_18 : decode cX6_putNumber 18 = .ok (.bipush 10, 2) := by decide +kernel
theorem dX6_putNumber_20 : decode cX6_putNumber 20 = .ok (.if_icmp .lt 17, 3) := by decide +kernel
theorem dX6_putNumber_23 : decode cX6_putNumber 23 = .ok (.aload_n 0, 1) := by decide +kernel
theorem dX6_putNumber_24 : decode cX6_putNumber 24 = .ok (.bipush 48, 2) := by decide +kernel
theorem dX6_putNumber_26 : decode cX6_putNumber 26 = .ok (.iload_n 1, 1) := by decide +kernel
theorem dX6_putNumber_27 : decode cX6_putNumber 27 = .ok (.bipush 10, 2) := by decide +kernel
theorem dX6_putNumber_29 : decode cX6_putNumber 29 = .ok (.idiv, 1) := by decide +kernel
theorem dX6_putNumber_30 : decode cX6_putNumber 30 = .ok (.bipush 10, 2) := by decide +kernel
theorem dX6_putNumber_32 : decode cX6_putNumber 32 = .ok (.irem, 1) := by decide +kernel
theorem dX6_putNumber_33 : decode cX6_putNumber 33 = .ok (.iadd, 1) := by decide +kernel
theorem dX6_putNumber_34 : decode cX6_putNumber 34 = .ok (.invokevirtual 29, 3) := by decide +kernel
theorem dX6_putNumber_37 : decode cX6_putNumber 37 = .ok (.aload_n 0, 1) := by decide +kernel
theorem dX6_putNumber_38 : decode cX6_putNumber 38 = .ok (.bipush 48, 2) := by decide +kernel
theorem dX6_putNumber_40 : decode cX6_putNumber 40 = .ok (.iload_n 1, 1) := by decide +kernel
theorem dX6_putNumber_41 : decode cX6_putNumber 41 = .ok (.bipush 10, 2) := by decide +kernel
theorem dX6_putNumber_43 : decode cX6_putNumber 43 = .ok (.irem, 1) := by decide +kernel
theorem dX6_putNumber_44 : decode cX6_putNumber 44 = .ok (.iadd, 1) := by decide +kernel
theorem dX6_putNumber_45 : decode cX6_putNumber 45 = .ok (.invokevirtual 29, 3) := by decide +kernel
theorem dX6_putNumber_48 : decode cX6_putNumber 48 = .ok (.return_, 1) := by decide +kernel
def fX6_putNumber_b37 (a : Nat) (x1 : Int32) (μ : JM) : JO (Unit) := jck ((jT μ a).1 == 7) <| jcl (fX6_addByte a ((48 : Int32) + (jrem x1 (10 : Int32))) μ) fun u24 μ25 => some ((), μ25, 0, 0)
set_option maxHeartbeats 4000000 in
set_option maxRecDepth 100000 in
theorem gX6_putNumber_b37 {b : Nat} {Θ : JE} {RC RS : Nat} {r : Unit} {ν : JM} (X : jX b Θ RX6 cX6_putNumber 2 none 1 21 RC RS) (a : Nat) (x1 : Int32) (μ : JM) (c m k n : Nat) (hf : fX6_putNumber_b37 a x1 μ = some (r, ν, c, m)) (hk : k + c = RC) (hn : n + m = RS) : WA b Θ 2 (jE b Θ (none) ν RC RS) μ k n 37 [(0, va_rf (some a)), (1, .int x1)] [] := by
  rw [fX6_putNumber_b37] at hf
  refine wa_aload_n X 0 dX6_putNumber_37 rfl ?_
  refine wa_bipush (v := (48 : Int32)) X dX6_putNumber_38 (by decide) ?_
  refine wa_iload_n X 1 dX6_putNumber_40 rfl ?_
  refine wa_bipush (v := (10 : Int32)) X dX6_putNumber_41 (by decide) ?_
  refine wa_irem X dX6_putNumber_43 (by decide) ?_
  refine wa_iadd X dX6_putNumber_44 ?_
  obtain ⟨h23, hf⟩ := jckT hf
  obtain ⟨u24, μ25, c26, m27, c28, m29, e30, hf, h31, h32⟩ := jcl_some hf
  refine wa_rcallV (st2 := []) X dX6_putNumber_45 lmX6_29 lMX6_addByte rfl h23 (mX6_addByte e30) rfl rfl rfl (va_cats (Nat.le_of_ble_eq_true rfl)) (by decide) (by omega) (by omega) ?_
  obtain ⟨rfl, rfl, rfl, rfl⟩ := jret hf
  exact wa_vret X dX6_putNumber_48 (by omega) (by omega)
def fX6_putNumber_b17 (a : Nat) (x1 : Int32) (μ : JM) : JO (Unit) := if x1 < (10 : Int32) then (fX6_putNumber_b37  a x1 μ) else (jck ((jT μ a).1 == 7) <| jcl (fX6_addByte a ((48 : Int32) + (jrem (x1 / (10 : Int32)) (10 : Int32))) μ) fun u14 μ15 => fX6_putNumber_b37  a x1 μ15)
set_option maxHeartbeats 4000000 in
set_option maxRecDepth 100000 in
theorem gX6_putNumber_b17 {b : Nat} {Θ : JE} {RC RS : Nat} {r : Unit} {ν : JM} (X : jX b Θ RX6 cX6_putNumber 2 none 1 21 RC RS) (a : Nat) (x1 : Int32) (μ : JM) (c m k n : Nat) (hf : fX6_putNumber_b17 a x1 μ = some (r, ν, c, m)) (hk : k + c = RC) (hn : n + m = RS) : WA b Θ 2 (jE b Θ (none) ν RC RS) μ k n 17 [(0, va_rf (some a)), (1, .int x1)] [] := by
  rw [fX6_putNumber_b17] at hf
  refine wa_iload_n X 1 dX6_putNumber_17 rfl ?_
  refine wa_bipush (v := (10 : Int32)) X dX6_putNumber_18 (by decide) ?_
  refine wa_iclt (tgt := 37) X dX6_putNumber_20 (by decide) (fun h12 => ?_) (fun h12 => ?_)
  · rw [if_pos h12] at hf
    refine wa_sub (L2 := [(0, va_rf (some a)), (1, .int x1)]) [0, 1] rfl ?_
    exact gX6_putNumber_b37 X a x1 μ _ _ _ _ hf (by omega) (by omega)
  · rw [if_neg h12] at hf
    refine wa_aload_n X 0 dX6_putNumber_23 rfl ?_
    refine wa_bipush (v := (48 : Int32)) X dX6_putNumber_24 (by decide) ?_
    refine wa_iload_n X 1 dX6_putNumber_26 rfl ?_
    refine wa_bipush (v := (10 : Int32)) X dX6_putNumber_27 (by decide) ?_
    refine wa_idiv X dX6_putNumber_29 (by decide) ?_
    refine wa_bipush (v := (10 : Int32)) X dX6_putNumber_30 (by decide) ?_
    refine wa_irem X dX6_putNumber_32 (by decide) ?_
    refine wa_iadd X dX6_putNumber_33 ?_
    obtain ⟨h13, hf⟩ := jckT hf
    obtain ⟨u14, μ15, c16, m17, c18, m19, e20, hf, h21, h22⟩ := jcl_some hf
    refine wa_rcallV (st2 := []) X dX6_putNumber_34 lmX6_29 lMX6_addByte rfl h13 (mX6_addByte e20) rfl rfl rfl (va_cats (Nat.le_of_ble_eq_true rfl)) (by decide) (by omega) (by omega) ?_
    refine wa_sub (L2 := [(0, va_rf (some a)), (1, .int x1)]) [0, 1] rfl ?_
    exact gX6_putNumber_b37 X a x1 μ15 _ _ _ _ hf (by omega) (by omega)
def fX6_putNumber (a : Nat) (x1 : Int32) (μ : JM) : JO (Unit) := if x1 < (100 : Int32) then (fX6_putNumber_b17  a x1 μ) else (jck ((jT μ a).1 == 7) <| jcl (fX6_addByte a ((48 : Int32) + (x1 / (100 : Int32))) μ) fun u3 μ4 => fX6_putNumber_b17  a x1 μ4)
set_option maxHeartbeats 4000000 in
set_option maxRecDepth 100000 in
theorem mX6_putNumber {b : Nat} {a : Nat} {x1 : Int32} {μ : JM} {r : Unit} {ν : JM} {c m : Nat} (hf : fX6_putNumber a x1 μ = some (r, ν, c, m)) : JMet b yX6_putNumber cX6_putNumber 2 none 1 21 [va_rf (some a), .int x1] μ (none) ν c m := by
  refine JMet.of (by decide) (lg_sl_le (by simp only [List.map_cons, List.map_nil, List.sum_cons, List.sum_nil, va_rf_cat]; exact Nat.le_of_ble_eq_true rfl)) (fun Θ X hin => ?_)
  refine wa_eq (L2 := [(0, va_rf (some a)), (1, .int x1)]) ?_ rfl (by first | rfl | simp [lv_args, va_rf_cat, cat_i, cat_l]) rfl
  obtain ⟨k, hk0⟩ : ∃ k : Nat, k = 0 := ⟨0, rfl⟩
  obtain ⟨n, hn0⟩ : ∃ n : Nat, n = 0 := ⟨0, rfl⟩
  have hk : k + c = c := by omega
  have hn : n + m = m := by omega
  refine wa_costs hk0.symm hn0.symm ?_
  rw [fX6_putNumber] at hf
  refine wa_iload_n X 1 dX6_putNumber_0 rfl ?_
  refine wa_bipush (v := (100 : Int32)) X dX6_putNumber_1 (by decide) ?_
  refine wa_iclt (tgt := 17) X dX6_putNumber_3 (by decide) (fun h1 => ?_) (fun h1 => ?_)
  · rw [if_pos h1] at hf
    refine wa_sub (L2 := [(0, va_rf (some a)), (1, .int x1)]) [0, 1] rfl ?_
    exact gX6_putNumber_b17 X a x1 μ _ _ _ _ hf (by omega) (by omega)
  · rw [if_neg h1] at hf
    refine wa_aload_n X 0 dX6_putNumber_6 rfl ?_
    refine wa_bipush (v := (48 : Int32)) X dX6_putNumber_7 (by decide) ?_
    refine wa_iload_n X 1 dX6_putNumber_9 rfl ?_
    refine wa_bipush (v := (100 : Int32)) X dX6_putNumber_10 (by decide) ?_
    refine wa_idiv X dX6_putNumber_12 (by decide) ?_
    refine wa_iadd X dX6_putNumber_13 ?_
    obtain ⟨h2, hf⟩ := jckT hf
    obtain ⟨u3, μ4, c5, m6, c7, m8, e9, hf, h10, h11⟩ := jcl_some hf
    refine wa_rcallV (st2 := []) X dX6_putNumber_14 lmX6_29 lMX6_addByte rfl h2 (mX6_addByte e9) rfl rfl rfl (va_cats (Nat.le_of_ble_eq_true rfl)) (by decide) (by omega) (by omega) ?_
    refine wa_sub (L2 := [(0, va_rf (some a)), (1, .int x1)]) [0, 1] rfl ?_
    exact gX6_putNumber_b17 X a x1 μ4 _ _ _ _ hf (by omega) (by omega)
theorem dX6_put_0 : decode cX6_put 0 = .ok (.aload_n 0, 1) := by decide +kernel
theorem dX6_put_1 : decode cX6_put 1 = .ok (.getfield 25, 3) := by decide +kernel
theorem dX6_put_4 : decode cX6_put 4 = .ok (.ifCond .eq 38, 3) := by decide +kernel
theorem dX6_put_7 : decode cX6_put 7 = .ok (.aload_n 0, 1) := by decide +kernel
theorem dX6_put_8 : decode cX6_put 8 = .ok (.getfield 33, 3) := by decide +kernel
theorem dX6_put_11 : decode cX6_put 11 = .ok (.ldc2_w 37, 3) := by decide +kernel
theorem dX6_put_14 : decode cX6_put 14 = .ok (.lcmp, 1) := by decide +kernel
theorem dX6_put_15 : decode cX6_put 15 = .ok (.ifCond .eq 27, 3) := by decide +kernel
theorem dX6_put_18 : decode cX6_put 18 = .ok (.lload_n 1, 1) := by decide +kernel
theorem dX6_put_19 : decode cX6_put 19 = .ok (.ldc2_w 39, 3) := by decide +kernel
theorem dX6_put_22 : decode cX6_put 22 = .ok (.lcmp, 1) := by decide +kernel
theorem dX6_put_23 : decode cX6_put 23 = .ok (.ifCond .eq 19, 3) := by decide +kernel
theorem dX6_put_26 : decode cX6_put 26 = .ok (.lload_n 1, 1) := by decide +kernel
theorem dX6_put_27 : decode cX6_put 27 = .ok (.ldc2_w 41, 3) := by decide +kernel
theorem dX6_put_30 : decode cX6_put 30 = .ok (.lcmp, 1) := by decide +kernel
theorem dX6_put_31 : decode cX6_put 31 = .ok (.ifCond .eq 11, 3) := by decide +kernel
theorem dX6_put_34 : decode cX6_put 34 = .ok (.lload_n 1, 1) := by decide +kernel
theorem dX6_put_35 : decode cX6_put 35 = .ok (.ldc2_w 43, 3) := by decide +kernel
theorem dX6_put_38 : decode cX6_put 38 = .ok (.lcmp, 1) := by decide +kernel
theorem dX6_put_39 : decode cX6_put 39 = .ok (.ifCond .ne 7, 3) := by decide +kernel
theorem dX6_put_42 : decode cX6_put 42 = .ok (.iconst 1, 1) := by decide +kernel
theorem dX6_put_43 : decode cX6_put 43 = .ok (.goto 4, 3) := by decide +kernel
theorem dX6_put_46 : decode cX6_put 46 = .ok (.iconst 0, 1) := by decide +kernel
theorem dX6_put_47 : decode cX6_put 47 = .ok (.istore_n 3, 1) := by decide +kernel
theorem dX6_put_48 : decode cX6_put 48 = .ok (.iload_n 3, 1) := by decide +kernel
theorem dX6_put_49 : decode cX6_put 49 = .ok (.ifCond .ne 9, 3) := by decide +kernel
theorem dX6_put_52 : decode cX6_put 52 = .ok (.aload_n 0, 1) := by decide +kernel
theorem dX6_put_53 : decode cX6_put 53 = .ok (.bipush 32, 2) := by decide +kernel
theorem dX6_put_55 : decode cX6_put 55 = .ok (.invokevirtual 29, 3) := by decide +kernel
theorem dX6_put_58 : decode cX6_put 58 = .ok (.aload_n 0, 1) := by decide +kernel
theorem dX6_put_59 : decode cX6_put 59 = .ok (.lload_n 1, 1) := by decide +kernel
theorem dX6_put_60 : decode cX6_put 60 = .ok (.putfield 33, 3) := by decide +kernel
theorem dX6_put_63 : decode cX6_put 63 = .ok (.lload_n 1, 1) := by decide +kernel
theorem dX6_put_64 : decode cX6_put 64 = .ok (.invokestatic 45, 3) := by decide +kernel
theorem dX6_put_67 : decode cX6_put 67 = .ok (.ifCond .eq 11, 3) := by decide +kernel
theorem dX6_put_70 : decode cX6_put 70 = .ok (.aload_n 0, 1) := by decide +kernel
theorem dX6_put_71 : decode cX6_put 71 = .ok (.lload_n 1, 1) := by decide +kernel
theorem dX6_put_72 : decode cX6_put 72 = .ok (.invokevirtual 49, 3) := by decide +kernel
theorem dX6_put_75 : decode cX6_put 75 = .ok (.goto 60, 3) := by decide +kernel
theorem dX6_put_78 : decode cX6_put 78 = .ok (.lload_n 1, 1) := by decide +kernel
theorem dX6_put_79 : decode cX6_put 79 = .ok (.invokestatic 53, 3) := by decide +kernel
theorem dX6_put_82 : decode cX6_put 82 = .ok (.ifCond .eq 23, 3) := by decide +kernel
theorem dX6_put_85 : decode cX6_put 85 = .ok (.aload_n 0, 1) := by decide +kernel
theorem dX6_put_86 : decode cX6_put 86 = .ok (.aload_n 0, 1) := by decide +kernel
theorem dX6_put_87 : decode cX6_put 87 = .ok (.getfield 21, 3) := by decide +kernel
theorem dX6_put_90 : decode cX6_put 90 = .ok (.ldc2_w 56, 3) := by decide +kernel
theorem dX6_put_93 : decode cX6_put 93 = .ok (.lload_n 1, 1) := by decide +kernel
theorem dX6_put_94 : decode cX6_put 94 = .ok (.lsub, 1) := by decide +kernel
theorem dX6_put_95 : decode cX6_put 95 = .ok (.l2i, 1) := by decide +kernel
theorem dX6_put_96 : decode cX6_put 96 = .ok (.invokevirtual 58, 3) := by decide +kernel
theorem dX6_put_99 : decode cX6_put 99 = .ok (.invokevirtual 49, 3) := by decide +kernel
theorem dX6_put_102 : decode cX6_put 102 = .ok (.goto 33, 3) := by decide +kernel
theorem dX6_put_105 : decode cX6_put 105 = .ok (.lload_n 1, 1) := by decide +kernel
theorem dX6_put_106 : decode cX6_put 106 = .ok (.invokestatic 64, 3) := by decide +kernel
theorem dX6_put_109 : decode cX6_put 109 = .ok (.ifCond .eq 16, 3) := by decide +kernel
theorem dX6_put_112 : decode cX6_put 112 = .ok (.aload_n 0, 1) := by decide +kernel
theorem dX6_put_113 : decode cX6_put 113 = .ok (.ldc2_w 67, 3) := by decide +kernel
theorem dX6_put_116 : decode cX6_put 116 = .ok (.lload_n 1, 1) := by decide +kernel
theorem dX6_put_117 : decode cX6_put 117 = .ok (.lsub, 1) := by decide +kernel
theorem dX6_put_118 : decode cX6_put 118 = .ok (.l2i, 1) := by decide +kernel
theorem dX6_put_119 : decode cX6_put 119 = .ok (.invokevirtual 69, 3) := by decide +kernel
theorem dX6_put_122 : decode cX6_put 122 = .ok (.goto 13, 3) := by decide +kernel
theorem dX6_put_125 : decode cX6_put 125 = .ok (.aload_n 0, 1) := by decide +kernel
theorem dX6_put_126 : decode cX6_put 126 = .ok (.ldc2_w 72, 3) := by decide +kernel
theorem dX6_put_129 : decode cX6_put 129 = .ok (.lload_n 1, 1) := by decide +kernel
theorem dX6_put_130 : decode cX6_put 130 = .ok (.lsub, 1) := by decide +kernel
theorem dX6_put_131 : decode cX6_put 131 = .ok (.l2i, 1) := by decide +kernel
theorem dX6_put_132 : decode cX6_put 132 = .ok (.invokevirtual 29, 3) := by decide +kernel
theorem dX6_put_135 : decode cX6_put 135 = .ok (.return_, 1) := by decide +kernel
def fX6_put_b58 (a : Nat) (y1 : Int64) (μ : JM) : JO (Unit) := jck ((jT μ a).1 == 7) <| jlt (jsJ μ a 3 y1) fun μ19 => jcl (fX10_isFreeWord y1 μ19) fun r22 μ23 => if r22 = 0 then (jcl (fX10_isOurs y1 μ23) fun r32 μ33 => if r32 = 0 then (jcl (fX10_isNumber y1 μ33) fun r42 μ43 => if r42 = 0 then (jck ((jT μ43 a).1 == 7) <| jcl (fX6_addByte a (((-1 : Int64) - y1)).toInt32 μ43) fun u53 μ54 => some ((), μ54, 0, 0)) else (jck ((jT μ43 a).1 == 7) <| jcl (fX6_putNumber a (((-1000 : Int64) - y1)).toInt32 μ43) fun u63 μ64 => some ((), μ64, 0, 0))) else (jck ((jT μ33 a).1 == 7) <| jde (jP μ33 a 1) fun q73 => jck ((jT μ33 q73).1 == 10) <| jcl (fX9_at q73 (((-3000 : Int64) - y1)).toInt32 μ33) fun r76 μ77 => jck ((jT μ77 a).1 == 7) <| jcl (fX6_putWord a r76 μ77) fun u86 μ87 => some ((), μ87, 0, 0))) else (jck ((jT μ23 a).1 == 7) <| jcl (fX6_putWord a y1 μ23) fun u96 μ97 => some ((), μ97, 0, 0))
set_option maxHeartbeats 4000000 in
set_option maxRecDepth 100000 in
theorem gX6_put_b58 {b : Nat} {Θ : JE} {RC RS : Nat} {r : Unit} {ν : JM} (X : jX b Θ RX6 cX6_put 4 none 3 70 RC RS) (a : Nat) (y1 : Int64) (μ : JM) (c m k n : Nat) (hf : fX6_put_b58 a y1 μ = some (r, ν, c, m)) (hk : k + c = RC) (hn : n + m = RS) : WA b Θ 4 (jE b Θ (none) ν RC RS) μ k n 58 [(0, va_rf (some a)), (1, .long y1)] [] := by
  rw [fX6_put_b58] at hf
  refine wa_aload_n X 0 dX6_put_58 rfl ?_
  refine wa_lload_n X 1 dX6_put_59 rfl ?_
  obtain ⟨h18, hf⟩ := jckT hf
  obtain ⟨μ19, hm20, hf⟩ := jlt_e hf
  have e21 : jT μ19 = jT μ := by rw [hm20]; rfl
  refine wa_rputJ (ν := μ19) X dX6_put_60 lfX6_33 rfl h18 rfl rfl hm20 ?_
  refine wa_lload_n X 1 dX6_put_63 rfl ?_
  obtain ⟨r22, μ23, c24, m25, c26, m27, e28, hf, h29, h30⟩ := jcl_some hf
  refine wa_rcallSN (st2 := [.int r22]) X dX6_put_64 lNX6_45 lMX10_isFreeWord (mX10_isFreeWord e28) rfl rfl rfl (va_cats (Nat.le_of_ble_eq_true rfl)) (by decide) (by omega) (by omega) ?_
  refine wa_ifeq (tgt := 78) X dX6_put_67 (by decide) (fun h31 => ?_) (fun h31 => ?_)
  · rw [if_pos h31] at hf
    refine wa_lload_n X 1 dX6_put_78 rfl ?_
    obtain ⟨r32, μ33, c34, m35, c36, m37, e38, hf, h39, h40⟩ := jcl_some hf
    refine wa_rcallSN (st2 := [.int r32]) X dX6_put_79 lNX6_53 lMX10_isOurs (mX10_isOurs e38) rfl rfl rfl (va_cats (Nat.le_of_ble_eq_true rfl)) (by decide) (by omega) (by omega) ?_
    refine wa_ifeq (tgt := 105) X dX6_put_82 (by decide) (fun h41 => ?_) (fun h41 => ?_)
    · rw [if_pos h41] at hf
      refine wa_lload_n X 1 dX6_put_105 rfl ?_
      obtain ⟨r42, μ43, c44, m45, c46, m47, e48, hf, h49, h50⟩ := jcl_some hf
      refine wa_rcallSN (st2 := [.int r42]) X dX6_put_106 lNX6_64 lMX10_isNumber (mX10_isNumber e48) rfl rfl rfl (va_cats (Nat.le_of_ble_eq_true rfl)) (by decide) (by omega) (by omega) ?_
      refine wa_ifeq (tgt := 125) X dX6_put_109 (by decide) (fun h51 => ?_) (fun h51 => ?_)
      · rw [if_pos h51] at hf
        refine wa_aload_n X 0 dX6_put_125 rfl ?_
        refine wa_ldc2 (v := (-1 : Int64)) X dX6_put_126 lkX6_72 ?_
        refine wa_lload_n X 1 dX6_put_129 rfl ?_
        refine wa_lsub X dX6_put_130 ?_
        refine wa_l2i X dX6_put_131 ?_
        obtain ⟨h52, hf⟩ := jckT hf
        obtain ⟨u53, μ54, c55, m56, c57, m58, e59, hf, h60, h61⟩ := jcl_some hf
        refine wa_rcallV (st2 := []) X dX6_put_132 lmX6_29 lMX6_addByte rfl h52 (mX6_addByte e59) rfl rfl rfl (va_cats (Nat.le_of_ble_eq_true rfl)) (by decide) (by omega) (by omega) ?_
        obtain ⟨rfl, rfl, rfl, rfl⟩ := jret hf
        exact wa_vret X dX6_put_135 (by omega) (by omega)
      · rw [if_neg h51] at hf
        refine wa_aload_n X 0 dX6_put_112 rfl ?_
        refine wa_ldc2 (v := (-1000 : Int64)) X dX6_put_113 lkX6_67 ?_
        refine wa_lload_n X 1 dX6_put_116 rfl ?_
        refine wa_lsub X dX6_put_117 ?_
        refine wa_l2i X dX6_put_118 ?_
        obtain ⟨h62, hf⟩ := jckT hf
        obtain ⟨u63, μ64, c65, m66, c67, m68, e69, hf, h70, h71⟩ := jcl_some hf
        refine wa_rcallV (st2 := []) X dX6_put_119 lmX6_69 lMX6_putNumber rfl h62 (mX6_putNumber e69) rfl rfl rfl (va_cats (Nat.le_of_ble_eq_true rfl)) (by decide) (by omega) (by omega) ?_
        refine wa_goto (tgt := 135) X dX6_put_122 (by decide) ?_
        obtain ⟨rfl, rfl, rfl, rfl⟩ := jret hf
        exact wa_vret X dX6_put_135 (by omega) (by omega)
    · rw [if_neg h41] at hf
      refine wa_aload_n X 0 dX6_put_85 rfl ?_
      refine wa_aload_n X 0 dX6_put_86 rfl ?_
      obtain ⟨h72, hf⟩ := jckT hf
      refine wa_getP X dX6_put_87 lfX6_21 rfl h72 rfl ?_
      refine wa_ldc2 (v := (-3000 : Int64)) X dX6_put_90 lkX6_56 ?_
      refine wa_lload_n X 1 dX6_put_93 rfl ?_
      refine wa_lsub X dX6_put_94 ?_
      refine wa_l2i X dX6_put_95 ?_
      obtain ⟨q73, h74, hf⟩ := jde_some hf
      obtain ⟨h75, hf⟩ := jckT hf
      obtain ⟨r76, μ77, c78, m79, c80, m81, e82, hf, h83, h84⟩ := jcl_some hf
      refine wa_rcallV (st2 := [.long r76, va_rf (some a)]) X dX6_put_96 lmX6_58 lMX9_at h74 h75 (mX9_at e82) rfl rfl rfl (va_cats (Nat.le_of_ble_eq_true rfl)) (by decide) (by omega) (by omega) ?_
      obtain ⟨h85, hf⟩ := jckT hf
      obtain ⟨u86, μ87, c88, m89, c90, m91, e92, hf, h93, h94⟩ := jcl_some hf
      refine wa_rcallV (st2 := []) X dX6_put_99 lmX6_49 lMX6_putWord rfl h85 (mX6_putWord e92) rfl rfl rfl (va_cats (Nat.le_of_ble_eq_true rfl)) (by decide) (by omega) (by omega) ?_
      refine wa_goto (tgt := 135) X dX6_put_102 (by decide) ?_
      obtain ⟨rfl, rfl, rfl, rfl⟩ := jret hf
      exact wa_vret X dX6_put_135 (by omega) (by omega)
  · rw [if_neg h31] at hf
    refine wa_aload_n X 0 dX6_put_70 rfl ?_
    refine wa_lload_n X 1 dX6_put_71 rfl ?_
    obtain ⟨h95, hf⟩ := jckT hf
    obtain ⟨u96, μ97, c98, m99, c100, m101, e102, hf, h103, h104⟩ := jcl_some hf
    refine wa_rcallV (st2 := []) X dX6_put_72 lmX6_49 lMX6_putWord rfl h95 (mX6_putWord e102) rfl rfl rfl (va_cats (Nat.le_of_ble_eq_true rfl)) (by decide) (by omega) (by omega) ?_
    refine wa_goto (tgt := 135) X dX6_put_75 (by decide) ?_
    obtain ⟨rfl, rfl, rfl, rfl⟩ := jret hf
    exact wa_vret X dX6_put_135 (by omega) (by omega)
def fX6_put_b47 (a : Nat) (y1 : Int64) (s0 : Int32) (μ : JM) : JO (Unit) := if s0 = 0 then (jck ((jT μ a).1 == 7) <| jcl (fX6_addByte a (32 : Int32) μ) fun u9 μ10 => fX6_put_b58  a y1 μ10) else (fX6_put_b58  a y1 μ)
set_option maxHeartbeats 4000000 in
set_option maxRecDepth 100000 in
theorem gX6_put_b47 {b : Nat} {Θ : JE} {RC RS : Nat} {r : Unit} {ν : JM} (X : jX b Θ RX6 cX6_put 4 none 3 70 RC RS) (a : Nat) (y1 : Int64) (s0 : Int32) (μ : JM) (c m k n : Nat) (hf : fX6_put_b47 a y1 s0 μ = some (r, ν, c, m)) (hk : k + c = RC) (hn : n + m = RS) : WA b Θ 4 (jE b Θ (none) ν RC RS) μ k n 47 [(0, va_rf (some a)), (1, .long y1)] [.int s0] := by
  rw [fX6_put_b47] at hf
  refine wa_istore_n (L2 := [(3, .int s0), (0, va_rf (some a)), (1, .long y1)]) X dX6_put_47 (by decide) (by first | rfl | (show (3, _) :: List.filter (fun q : Nat × Value => !(q.1 == 3) && !(q.1 + 1 == 3 && q.2.category == 2)) _ = _; simp [va_rf_cat, cat_i, cat_l])) ?_
  refine wa_iload_n X 0 dX6_put_48 rfl ?_
  refine wa_ifne (tgt := 58) X dX6_put_49 (by decide) (fun h7 => ?_) (fun h7 => ?_)
  · rw [if_neg h7] at hf
    refine wa_sub (L2 := [(0, va_rf (some a)), (1, .long y1)]) [1, 2] rfl ?_
    exact gX6_put_b58 X a y1 μ _ _ _ _ hf (by omega) (by omega)
  · rw [if_pos h7] at hf
    refine wa_aload_n X 1 dX6_put_52 rfl ?_
    refine wa_bipush (v := (32 : Int32)) X dX6_put_53 (by decide) ?_
    obtain ⟨h8, hf⟩ := jckT hf
    obtain ⟨u9, μ10, c11, m12, c13, m14, e15, hf, h16, h17⟩ := jcl_some hf
    refine wa_rcallV (st2 := []) X dX6_put_55 lmX6_29 lMX6_addByte rfl h8 (mX6_addByte e15) rfl rfl rfl (va_cats (Nat.le_of_ble_eq_true rfl)) (by decide) (by omega) (by omega) ?_
    refine wa_sub (L2 := [(0, va_rf (some a)), (1, .long y1)]) [1, 2] rfl ?_
    exact gX6_put_b58 X a y1 μ10 _ _ _ _ hf (by omega) (by omega)
def fX6_put_b42 (a : Nat) (y1 : Int64) (μ : JM) : JO (Unit) := fX6_put_b47  a y1 (1 : Int32) μ
set_option maxHeartbeats 4000000 in
set_option maxRecDepth 100000 in
theorem gX6_put_b42 {b : Nat} {Θ : JE} {RC RS : Nat} {r : Unit} {ν : JM} (X : jX b Θ RX6 cX6_put 4 none 3 70 RC RS) (a : Nat) (y1 : Int64) (μ : JM) (c m k n : Nat) (hf : fX6_put_b42 a y1 μ = some (r, ν, c, m)) (hk : k + c = RC) (hn : n + m = RS) : WA b Θ 4 (jE b Θ (none) ν RC RS) μ k n 42 [(0, va_rf (some a)), (1, .long y1)] [] := by
  rw [fX6_put_b42] at hf
  refine wa_iconst (v := (1 : Int32)) X dX6_put_42 (by decide) ?_
  refine wa_goto (tgt := 47) X dX6_put_43 (by decide) ?_
  refine wa_sub (L2 := [(0, va_rf (some a)), (1, .long y1)]) [0, 1] rfl ?_
  exact gX6_put_b47 X a y1 (1 : Int32) μ _ _ _ _ hf (by omega) (by omega)
def fX6_put (a : Nat) (y1 : Int64) (μ : JM) : JO (Unit) := jck ((jT μ a).1 == 7) <| if (jI μ a 2) = 0 then (fX6_put_b42  a y1 μ) else (if (lg_cmp (jJ μ a 3) (-41 : Int64)) = 0 then (fX6_put_b42  a y1 μ) else (if (lg_cmp y1 (-42 : Int64)) = 0 then (fX6_put_b42  a y1 μ) else (if (lg_cmp y1 (-59 : Int64)) = 0 then (fX6_put_b42  a y1 μ) else (if (lg_cmp y1 (-60 : Int64)) = 0 then (fX6_put_b42  a y1 μ) else (fX6_put_b47  a y1 (0 : Int32) μ)))))
set_option maxHeartbeats 4000000 in
set_option maxRecDepth 100000 in
theorem mX6_put {b : Nat} {a : Nat} {y1 : Int64} {μ : JM} {r : Unit} {ν : JM} {c m : Nat} (hf : fX6_put a y1 μ = some (r, ν, c, m)) : JMet b yX6_put cX6_put 4 none 3 70 [va_rf (some a), .long y1] μ (none) ν c m := by
  refine JMet.of (by decide) (lg_sl_le (by simp only [List.map_cons, List.map_nil, List.sum_cons, List.sum_nil, va_rf_cat]; exact Nat.le_of_ble_eq_true rfl)) (fun Θ X hin => ?_)
  refine wa_eq (L2 := [(0, va_rf (some a)), (1, .long y1)]) ?_ rfl (by first | rfl | simp [lv_args, va_rf_cat, cat_i, cat_l]) rfl
  obtain ⟨k, hk0⟩ : ∃ k : Nat, k = 0 := ⟨0, rfl⟩
  obtain ⟨n, hn0⟩ : ∃ n : Nat, n = 0 := ⟨0, rfl⟩
  have hk : k + c = c := by omega
  have hn : n + m = m := by omega
  refine wa_costs hk0.symm hn0.symm ?_
  rw [fX6_put] at hf
  refine wa_aload_n X 0 dX6_put_0 rfl ?_
  obtain ⟨h1, hf⟩ := jckT hf
  refine wa_getI X dX6_put_1 lfX6_25 rfl h1 rfl ?_
  refine wa_ifeq (tgt := 42) X dX6_put_4 (by decide) (fun h2 => ?_) (fun h2 => ?_)
  · rw [if_pos h2] at hf
    refine wa_sub (L2 := [(0, va_rf (some a)), (1, .long y1)]) [0, 1] rfl ?_
    exact gX6_put_b42 X a y1 μ _ _ _ _ hf (by omega) (by omega)
  · rw [if_neg h2] at hf
    refine wa_aload_n X 0 dX6_put_7 rfl ?_
    refine wa_getJ X dX6_put_8 lfX6_33 rfl h1 rfl ?_
    refine wa_ldc2 (v := (-41 : Int64)) X dX6_put_11 lkX6_37 ?_
    refine wa_lcmp X dX6_put_14 ?_
    refine wa_ifeq (tgt := 42) X dX6_put_15 (by decide) (fun h3 => ?_) (fun h3 => ?_)
    · rw [if_pos h3] at hf
      refine wa_sub (L2 := [(0, va_rf (some a)), (1, .long y1)]) [0, 1] rfl ?_
      exact gX6_put_b42 X a y1 μ _ _ _ _ hf (by omega) (by omega)
    · rw [if_neg h3] at hf
      refine wa_lload_n X 1 dX6_put_18 rfl ?_
      refine wa_ldc2 (v := (-42 : Int64)) X dX6_put_19 lkX6_39 ?_
      refine wa_lcmp X dX6_put_22 ?_
      refine wa_ifeq (tgt := 42) X dX6_put_23 (by decide) (fun h4 => ?_) (fun h4 => ?_)
      · rw [if_pos h4] at hf
        refine wa_sub (L2 := [(0, va_rf (some a)), (1, .long y1)]) [0, 1] rfl ?_
        exact gX6_put_b42 X a y1 μ _ _ _ _ hf (by omega) (by omega)
      · rw [if_neg h4] at hf
        refine wa_lload_n X 1 dX6_put_26 rfl ?_
        refine wa_ldc2 (v := (-59 : Int64)) X dX6_put_27 lkX6_41 ?_
        refine wa_lcmp X dX6_put_30 ?_
        refine wa_ifeq (tgt := 42) X dX6_put_31 (by decide) (fun h5 => ?_) (fun h5 => ?_)
        · rw [if_pos h5] at hf
          refine wa_sub (L2 := [(0, va_rf (some a)), (1, .long y1)]) [0, 1] rfl ?_
          exact gX6_put_b42 X a y1 μ _ _ _ _ hf (by omega) (by omega)
        · rw [if_neg h5] at hf
          refine wa_lload_n X 1 dX6_put_34 rfl ?_
          refine wa_ldc2 (v := (-60 : Int64)) X dX6_put_35 lkX6_43 ?_
          refine wa_lcmp X dX6_put_38 ?_
          refine wa_ifne (tgt := 46) X dX6_put_39 (by decide) (fun h6 => ?_) (fun h6 => ?_)
          · rw [if_neg h6] at hf
            refine wa_iconst (v := (0 : Int32)) X dX6_put_46 (by decide) ?_
            refine wa_sub (L2 := [(0, va_rf (some a)), (1, .long y1)]) [0, 1] rfl ?_
            exact gX6_put_b47 X a y1 (0 : Int32) μ _ _ _ _ hf (by omega) (by omega)
          · rw [if_pos h6] at hf
            refine wa_sub (L2 := [(0, va_rf (some a)), (1, .long y1)]) [0, 1] rfl ?_
            exact gX6_put_b42 X a y1 μ _ _ _ _ hf (by omega) (by omega)
theorem dX7_init_0 : decode cX7_init 0 = .ok (.aload_n 0, 1) := by decide +kernel
theorem dX7_init_1 : decode cX7_init 1 = .ok (.invokespecial 3, 3) := by decide +kernel
theorem dX7_init_4 : decode cX7_init 4 = .ok (.aload_n 0, 1) := by decide +kernel
theorem dX7_init_5 : decode cX7_init 5 = .ok (.aload_n 1, 1) := by decide +kernel
theorem dX7_init_6 : decode cX7_init 6 = .ok (.putfield 9, 3) := by decide +kernel
theorem dX7_init_9 : decode cX7_init 9 = .ok (.aload_n 0, 1) := by decide +kernel
theorem dX7_init_10 : decode cX7_init 10 = .ok (.sipush 900, 3) := by decide +kernel
theorem dX7_init_13 : decode cX7_init 13 = .ok (.newarray .long, 2) := by decide +kernel
theorem dX7_init_15 : decode cX7_init 15 = .ok (.putfield 15, 3) := by decide +kernel
theorem dX7_init_18 : decode cX7_init 18 = .ok (.aload_n 0, 1) := by decide +kernel
theorem dX7_init_19 : decode cX7_init 19 = .ok (.sipush 901, 3) := by decide +kernel
theorem dX7_init_22 : decode cX7_init 22 = .ok (.newarray .int, 2) := by decide +kernel
theorem dX7_init_24 : decode cX7_init 24 = .ok (.putfield 19, 3) := by decide +kernel
theorem dX7_init_27 : decode cX7_init 27 = .ok (.return_, 1) := by decide +kernel
def fX7_init (a : Nat) (p1 : Option Nat) (μ : JM) : JO (Unit) := jck ((jT μ a).1 == 8) <| jlt (jsP μ a 0 p1) fun μ2 => jnw μ2 102 900 fun q5 μ6 => jck ((jT μ6 a).1 == 8) <| jlt (jsP μ6 a 1 (some q5)) fun μ15 => jnw μ15 101 901 fun q18 μ19 => jck ((jT μ19 a).1 == 8) <| jlt (jsP μ19 a 2 (some q18)) fun μ28 => some ((), μ28, 0, 0)
set_option maxHeartbeats 4000000 in
set_option maxRecDepth 100000 in
theorem mX7_init {b : Nat} {a : Nat} {p1 : Option Nat} {μ : JM} {r : Unit} {ν : JM} {c m : Nat} (hf : fX7_init a p1 μ = some (r, ν, c, m)) : JMet b yX7_init cX7_init 2 none 1 20 [va_rf (some a), va_rf p1] μ (none) ν c m := by
  refine JMet.of (by decide) (lg_sl_le (by simp only [List.map_cons, List.map_nil, List.sum_cons, List.sum_nil, va_rf_cat]; exact Nat.le_of_ble_eq_true rfl)) (fun Θ X hin => ?_)
  have hin := hin rfl
  refine wa_eq (L2 := [(0, va_rf (some a)), (1, va_rf p1)]) ?_ rfl (by first | rfl | simp [lv_args, va_rf_cat, cat_i, cat_l]) rfl
  obtain ⟨k, hk0⟩ : ∃ k : Nat, k = 0 := ⟨0, rfl⟩
  obtain ⟨n, hn0⟩ : ∃ n : Nat, n = 0 := ⟨0, rfl⟩
  have hk : k + c = c := by omega
  have hn : n + m = m := by omega
  refine wa_costs hk0.symm hn0.symm ?_
  rw [fX7_init] at hf
  refine wa_aload_n X 0 dX7_init_0 rfl ?_
  refine wa_robj X dX7_init_1 lmX7_3 lo_inst lo_code (by decide) (Nat.le_trans (Nat.add_le_add_right (va_cats (m := 8) (Nat.le_of_ble_eq_true rfl)) 12) (by decide)) rfl ?_
  refine wa_aload_n X 0 dX7_init_4 rfl ?_
  refine wa_aload_n X 1 dX7_init_5 rfl ?_
  obtain ⟨h1, hf⟩ := jckT hf
  obtain ⟨μ2, hm3, hf⟩ := jlt_e hf
  have e4 : jT μ2 = jT μ := by rw [hm3]; rfl
  refine wa_rputFP (ν := μ2) X hin dX7_init_6 lfX7_9 rfl h1 (by first | exact Or.inl ⟨_, rfl⟩ | exact Or.inr ⟨_, rfl⟩) rfl rfl hm3 ?_
  refine wa_aload_n X 0 dX7_init_9 rfl ?_
  refine wa_sipush (v := (900 : Int32)) X dX7_init_10 (by decide) ?_
  obtain ⟨q5, μ6, c9, m10, h7, hm8, hf, h11, h12⟩ := jnw_some hf
  refine wa_newa (t := 102) (N := 900) X dX7_init_13 (by decide) rfl la_102 (by decide) (by decide) (by decide) (by omega) (by omega) ?_
  rw [← h7, ← hm8]
  have h13 : (jT μ6 q5).1 = 102 := by rw [jT_at h7 hm8]
  obtain ⟨h14, hf⟩ := jckT hf
  obtain ⟨μ15, hm16, hf⟩ := jlt_e hf
  have e17 : jT μ15 = jT μ6 := by rw [hm16]; rfl
  refine wa_rputFP (ν := μ15) X hin dX7_init_15 lfX7_15 rfl h14 (by first | exact Or.inl ⟨_, rfl⟩ | exact Or.inr ⟨_, rfl⟩) rfl rfl hm16 ?_
  refine wa_aload_n X 0 dX7_init_18 rfl ?_
  refine wa_sipush (v := (901 : Int32)) X dX7_init_19 (by decide) ?_
  obtain ⟨q18, μ19, c22, m23, h20, hm21, hf, h24, h25⟩ := jnw_some hf
  refine wa_newa (t := 101) (N := 901) X dX7_init_22 (by decide) rfl la_101 (by decide) (by decide) (by decide) (by omega) (by omega) ?_
  rw [← h20, ← hm21]
  have h26 : (jT μ19 q18).1 = 101 := by rw [jT_at h20 hm21]
  obtain ⟨h27, hf⟩ := jckT hf
  obtain ⟨μ28, hm29, hf⟩ := jlt_e hf
  have e30 : jT μ28 = jT μ19 := by rw [hm29]; rfl
  refine wa_rputFP (ν := μ28) X hin dX7_init_24 lfX7_19 rfl h27 (by first | exact Or.inl ⟨_, rfl⟩ | exact Or.inr ⟨_, rfl⟩) rfl rfl hm29 ?_
  obtain ⟨rfl, rfl, rfl, rfl⟩ := jret hf
  exact wa_vret X dX7_init_27 (by omega) (by omega)
theorem dX7_isBlank_0 : decode cX7_isBlank 0 = .ok (.iload_n 0, 1) := by decide +kernel
theorem dX7_isBlank_1 : decode cX7_isBlank 1 = .ok (.bipush 32, 2) := by decide +kernel
theorem dX7_isBlank_3 : decode cX7_isBlank 3 = .ok (.if_icmp .eq 9, 3) := by decide +kernel
theorem dX7_isBlank_6 : decode cX7_isBlank 6 = .ok (.iload_n 0, 1) := by decide +kernel
theorem dX7_isBlank_7 : decode cX7_isBlank 7 = .ok (.bipush 10, 2) := by decide +kernel
theorem dX7_isBlank_9 : decode cX7_isBlank 9 = .ok (.if_icmp .ne 7, 3) := by decide +kernel
theorem dX7_isBlank_12 : decode cX7_isBlank 12 = .ok (.iconst 1, 1) := by decide +kernel
theorem dX7_isBlank_13 : decode cX7_isBlank 13 = .ok (.goto 4, 3) := by decide +kernel
theorem dX7_isBlank_16 : decode cX7_isBlank 16 = .ok (.iconst 0, 1) := by decide +kernel
theorem dX7_isBlank_17 : decode cX7_isBlank 17 = .ok (.ireturn, 1) := by decide +kernel
def fX7_isBlank (x0 : Int32) (μ : JM) : JO (Int32) := if x0 = (32 : Int32) then (some ((1 : Int32), μ, 0, 0)) else (if x0 = (10 : Int32) then (some ((1 : Int32), μ, 0, 0)) else (some ((0 : Int32), μ, 0, 0)))
set_option maxHeartbeats 4000000 in
set_option maxRecDepth 100000 in
theorem mX7_isBlank {b : Nat} {x0 : Int32} {μ : JM} {r : Int32} {ν : JM} {c m : Nat} (hf : fX7_isBlank x0 μ = some (r, ν, c, m)) : JMet b yX7_isBlank cX7_isBlank 1 (some .boolean) 0 0 [.int x0] μ (some (.int r)) ν c m := by
  refine JMet.of (by decide) (lg_sl_le (by simp only [List.map_cons, List.map_nil, List.sum_cons, List.sum_nil, va_rf_cat]; exact Nat.le_of_ble_eq_true rfl)) (fun Θ X hin => ?_)
  refine wa_eq (L2 := [(0, .int x0)]) ?_ rfl (by first | rfl | simp [lv_args, va_rf_cat, cat_i, cat_l]) rfl
  obtain ⟨k, hk0⟩ : ∃ k : Nat, k = 0 := ⟨0, rfl⟩
  obtain ⟨n, hn0⟩ : ∃ n : Nat, n = 0 := ⟨0, rfl⟩
  have hk : k + c = c := by omega
  have hn : n + m = m := by omega
  refine wa_costs hk0.symm hn0.symm ?_
  rw [fX7_isBlank] at hf
  refine wa_iload_n X 0 dX7_isBlank_0 rfl ?_
  refine wa_bipush (v := (32 : Int32)) X dX7_isBlank_1 (by decide) ?_
  refine wa_iceq (tgt := 12) X dX7_isBlank_3 (by decide) (fun h1 => ?_) (fun h1 => ?_)
  · rw [if_pos h1] at hf
    refine wa_iconst (v := (1 : Int32)) X dX7_isBlank_12 (by decide) ?_
    refine wa_goto (tgt := 17) X dX7_isBlank_13 (by decide) ?_
    obtain ⟨rfl, rfl, rfl, rfl⟩ := jret hf
    exact wa_iret X dX7_isBlank_17 rfl (by omega) (by omega)
  · rw [if_neg h1] at hf
    refine wa_iload_n X 0 dX7_isBlank_6 rfl ?_
    refine wa_bipush (v := (10 : Int32)) X dX7_isBlank_7 (by decide) ?_
    refine wa_icne (tgt := 16) X dX7_isBlank_9 (by decide) (fun h2 => ?_) (fun h2 => ?_)
    · rw [if_neg h2] at hf
      refine wa_iconst (v := (0 : Int32)) X dX7_isBlank_16 (by decide) ?_
      obtain ⟨rfl, rfl, rfl, rfl⟩ := jret hf
      exact wa_iret X dX7_isBlank_17 rfl (by omega) (by omega)
    · rw [if_pos h2] at hf
      refine wa_iconst (v := (1 : Int32)) X dX7_isBlank_12 (by decide) ?_
      refine wa_goto (tgt := 17) X dX7_isBlank_13 (by decide) ?_
      obtain ⟨rfl, rfl, rfl, rfl⟩ := jret hf
      exact wa_iret X dX7_isBlank_17 rfl (by omega) (by omega)
theorem dX7_isLetter_0 : decode cX7_isLetter 0 = .ok (.iload_n 0, 1) := by decide +kernel
theorem dX7_isLetter_1 : decode cX7_isLetter 1 = .ok (.bipush 97, 2) := by decide +kernel
theorem dX7_isLetter_3 : decode cX7_isLetter 3 = .ok (.if_icmp .lt 13, 3) := by decide +kernel
theorem dX7_isLetter_6 : decode cX7_isLetter 6 = .ok (.iload_n 0, 1) := by decide +kernel
theorem dX7_isLetter_7 : decode cX7_isLetter 7 = .ok (.bipush 122, 2) := by decide +kernel
theorem dX7_isLetter_9 : decode cX7_isLetter 9 = .ok (.if_icmp .gt 7, 3) := by decide +kernel
theorem dX7_isLetter_12 : decode cX7_isLetter 12 = .ok (.iconst 1, 1) := by decide +kernel
theorem dX7_isLetter_13 : decode cX7_isLetter 13 = .ok (.goto 4, 3) := by decide +kernel
theorem dX7_isLetter_16 : decode cX7_isLetter 16 = .ok (.iconst 0, 1) := by decide +kernel
theorem dX7_isLetter_17 : decode cX7_isLetter 17 = .ok (.ireturn, 1) := by decide +kernel
def fX7_isLetter (x0 : Int32) (μ : JM) : JO (Int32) := if x0 < (97 : Int32) then (some ((0 : Int32), μ, 0, 0)) else (if (122 : Int32) < x0 then (some ((0 : Int32), μ, 0, 0)) else (some ((1 : Int32), μ, 0, 0)))
set_option maxHeartbeats 4000000 in
set_option maxRecDepth 100000 in
theorem mX7_isLetter {b : Nat} {x0 : Int32} {μ : JM} {r : Int32} {ν : JM} {c m : Nat} (hf : fX7_isLetter x0 μ = some (r, ν, c, m)) : JMet b yX7_isLetter cX7_isLetter 1 (some .boolean) 0 0 [.int x0] μ (some (.int r)) ν c m := by
  refine JMet.of (by decide) (lg_sl_le (by simp only [List.map_cons, List.map_nil, List.sum_cons, List.sum_nil, va_rf_cat]; exact Nat.le_of_ble_eq_true rfl)) (fun Θ X hin => ?_)
  refine wa_eq (L2 := [(0, .int x0)]) ?_ rfl (by first | rfl | simp [lv_args, va_rf_cat, cat_i, cat_l]) rfl
  obtain ⟨k, hk0⟩ : ∃ k : Nat, k = 0 := ⟨0, rfl⟩
  obtain ⟨n, hn0⟩ : ∃ n : Nat, n = 0 := ⟨0, rfl⟩
  have hk : k + c = c := by omega
  have hn : n + m = m := by omega
  refine wa_costs hk0.symm hn0.symm ?_
  rw [fX7_isLetter] at hf
  refine wa_iload_n X 0 dX7_isLetter_0 rfl ?_
  refine wa_bipush (v := (97 : Int32)) X dX7_isLetter_1 (by decide) ?_
  refine wa_iclt (tgt := 16) X dX7_isLetter_3 (by decide) (fun h1 => ?_) (fun h1 => ?_)
  · rw [if_pos h1] at hf
    refine wa_iconst (v := (0 : Int32)) X dX7_isLetter_16 (by decide) ?_
    obtain ⟨rfl, rfl, rfl, rfl⟩ := jret hf
    exact wa_iret X dX7_isLetter_17 rfl (by omega) (by omega)
  · rw [if_neg h1] at hf
    refine wa_iload_n X 0 dX7_isLetter_6 rfl ?_
    refine wa_bipush (v := (122 : Int32)) X dX7_isLetter_7 (by decide) ?_
    refine wa_icgt (tgt := 16) X dX7_isLetter_9 (by decide) (fun h2 => ?_) (fun h2 => ?_)
    · rw [if_pos h2] at hf
      refine wa_iconst (v := (0 : Int32)) X dX7_isLetter_16 (by decide) ?_
      obtain ⟨rfl, rfl, rfl, rfl⟩ := jret hf
      exact wa_iret X dX7_isLetter_17 rfl (by omega) (by omega)
    · rw [if_neg h2] at hf
      refine wa_iconst (v := (1 : Int32)) X dX7_isLetter_12 (by decide) ?_
      refine wa_goto (tgt := 17) X dX7_isLetter_13 (by decide) ?_
      obtain ⟨rfl, rfl, rfl, rfl⟩ := jret hf
      exact wa_iret X dX7_isLetter_17 rfl (by omega) (by omega)
theorem dX7_isDigit_0 : decode cX7_isDigit 0 = .ok (.iload_n 0, 1) := by decide +kernel
theorem dX7_isDigit_1 : decode cX7_isDigit 1 = .ok (.bipush 48, 2) := by decide +kernel
theorem dX7_isDigit_3 : decode cX7_isDigit 3 = .ok (.if_icmp .lt 13, 3) := by decide +kernel
theorem dX7_isDigit_6 : decode cX7_isDigit 6 = .ok (.iload_n 0, 1) := by decide +kernel
theorem dX7_isDigit_7 : decode cX7_isDigit 7 = .ok (.bipush 57, 2) := by decide +kernel
theorem dX7_isDigit_9 : decode cX7_isDigit 9 = .ok (.if_icmp .gt 7, 3) := by decide +kernel
theorem dX7_isDigit_12 : decode cX7_isDigit 12 = .ok (.iconst 1, 1) := by decide +kernel
theorem dX7_isDigit_13 : decode cX7_isDigit 13 = .ok (.goto 4, 3) := by decide +kernel
theorem dX7_isDigit_16 : decode cX7_isDigit 16 = .ok (.iconst 0, 1) := by decide +kernel
theorem dX7_isDigit_17 : decode cX7_isDigit 17 = .ok (.ireturn, 1) := by decide +kernel
def fX7_isDigit (x0 : Int32) (μ : JM) : JO (Int32) := if x0 < (48 : Int32) then (some ((0 : Int32), μ, 0, 0)) else (if (57 : Int32) < x0 then (some ((0 : Int32), μ, 0, 0)) else (some ((1 : Int32), μ, 0, 0)))
set_option maxHeartbeats 4000000 in
set_option maxRecDepth 100000 in
theorem mX7_isDigit {b : Nat} {x0 : Int32} {μ : JM} {r : Int32} {ν : JM} {c m : Nat} (hf : fX7_isDigit x0 μ = some (r, ν, c, m)) : JMet b yX7_isDigit cX7_isDigit 1 (some .boolean) 0 0 [.int x0] μ (some (.int r)) ν c m := by
  refine JMet.of (by decide) (lg_sl_le (by simp only [List.map_cons, List.map_nil, List.sum_cons, List.sum_nil, va_rf_cat]; exact Nat.le_of_ble_eq_true rfl)) (fun Θ X hin => ?_)
  refine wa_eq (L2 := [(0, .int x0)]) ?_ rfl (by first | rfl | simp [lv_args, va_rf_cat, cat_i, cat_l]) rfl
  obtain ⟨k, hk0⟩ : ∃ k : Nat, k = 0 := ⟨0, rfl⟩
  obtain ⟨n, hn0⟩ : ∃ n : Nat, n = 0 := ⟨0, rfl⟩
  have hk : k + c = c := by omega
  have hn : n + m = m := by omega
  refine wa_costs hk0.symm hn0.symm ?_
  rw [fX7_isDigit] at hf
  refine wa_iload_n X 0 dX7_isDigit_0 rfl ?_
  refine wa_bipush (v := (48 : Int32)) X dX7_isDigit_1 (by decide) ?_
  refine wa_iclt (tgt := 16) X dX7_isDigit_3 (by decide) (fun h1 => ?_) (fun h1 => ?_)
  · rw [if_pos h1] at hf
    refine wa_iconst (v := (0 : Int32)) X dX7_isDigit_16 (by decide) ?_
    obtain ⟨rfl, rfl, rfl, rfl⟩ := jret hf
    exact wa_iret X dX7_isDigit_17 rfl (by omega) (by omega)
  · rw [if_neg h1] at hf
    refine wa_iload_n X 0 dX7_isDigit_6 rfl ?_
    refine wa_bipush (v := (57 : Int32)) X dX7_isDigit_7 (by decide) ?_
    refine wa_icgt (tgt := 16) X dX7_isDigit_9 (by decide) (fun h2 => ?_) (fun h2 => ?_)
    · rw [if_pos h2] at hf
      refine wa_iconst (v := (0 : Int32)) X dX7_isDigit_16 (by decide) ?_
      obtain ⟨rfl, rfl, rfl, rfl⟩ := jret hf
      exact wa_iret X dX7_isDigit_17 rfl (by omega) (by omega)
    · rw [if_neg h2] at hf
      refine wa_iconst (v := (1 : Int32)) X dX7_isDigit_12 (by decide) ?_
      refine wa_goto (tgt := 17) X dX7_isDigit_13 (by decide) ?_
      obtain ⟨rfl, rfl, rfl, rfl⟩ := jret hf
      exact wa_iret X dX7_isDigit_17 rfl (by omega) (by omega)
theorem dX7_runEnd_0 : decode cX7_runEnd 0 = .ok (.aload_n 0, 1) := by decide +kernel
theorem dX7_runEnd_1 : decode cX7_runEnd 1 = .ok (.iload_n 1, 1) := by decide +kernel
theorem dX7_runEnd_2 : decode cX7_runEnd 2 = .ok (.invokevirtual 42, 3) := by decide +kernel
theorem dX7_runEnd_5 : decode cX7_runEnd 5 = .ok (.istore_n 3, 1) := by decide +kernel
theorem dX7_runEnd_6 : decode cX7_runEnd 6 = .ok (.iload_n 3, 1) := by decide +kernel
theorem dX7_runEnd_7 : decode cX7_runEnd 7 = .ok (.invokestatic 62, 3) := by decide +kernel
theorem dX7_runEnd_10 : decode cX7_runEnd 10 = .ok (.istore 4, 2) := by decide +kernel
theorem dX7_runEnd_12 : decode cX7_runEnd 12 = .ok (.iload 4, 2) := by decide +kernel
theorem dX7_runEnd_14 : decode cX7_runEnd 14 = .ok (.ifCond .ne 14, 3) := by decide +kernel
theorem dX7_runEnd_17 : decode cX7_runEnd 17 = .ok (.iload_n 3, 1) := by decide +kernel
theorem dX7_runEnd_18 : decode cX7_runEnd 18 = .ok (.invokestatic 65, 3) := by decide +kernel
theorem dX7_runEnd_21 : decode cX7_runEnd 21 = .ok (.ifCond .ne 7, 3) := by decide +kernel
theorem dX7_runEnd_24 : decode cX7_runEnd 24 = .ok (.iload_n 1, 1) := by decide +kernel
theorem dX7_runEnd_25 : decode cX7_runEnd 25 = .ok (.iconst 1, 1) := by decide +kernel
theorem dX7_runEnd_26 : decode cX7_runEnd 26 = .ok (.iadd, 1) := by decide +kernel
theorem dX7_runEnd_27 : decode cX7_runEnd 27 = .ok (.ireturn, 1) := by decide +kernel
theorem dX7_runEnd_28 : decode cX7_runEnd 28 = .ok (.iload_n 1, 1) := by decide +kernel
theorem dX7_runEnd_29 : decode cX7_runEnd 29 = .ok (.iconst 1, 1) := by decide +kernel
theorem dX7_runEnd_30 : decode cX7_runEnd 30 = .ok (.iadd, 1) := by decide +kernel
theorem dX7_runEnd_31 : decode cX7_runEnd 31 = .ok (.istore 5, 2) := by decide +kernel
theorem dX7_runEnd_33 : decode cX7_runEnd 33 = .ok (.iload 5, 2) := by decide +kernel
theorem dX7_runEnd_35 : decode cX7_runEnd 35 = .ok (.iload_n 2, 1) := by decide +kernel
theorem dX7_runEnd_36 : decode cX7_runEnd 36 = .ok (.if_icmp .ge 44, 3) := by decide +kernel
theorem dX7_runEnd_39 : decode cX7_runEnd 39 = .ok (.aload_n 0, 1) := by decide +kernel
theorem dX7_runEnd_40 : decode cX7_runEnd 40 = .ok (.iload 5, 2) := by decide +kernel
theorem dX7_runEnd_42 : decode cX7_runEnd 42 = .ok (.invokevirtual 42, 3) := by decide +kernel
theorem dX7_runEnd_45 : decode cX7_runEnd 45 = .ok (.istore 6, 2) := by decide +kernel
theorem dX7_runEnd_47 : decode cX7_runEnd 47 = .ok (.iload 4, 2) := by decide +kernel
theorem dX7_runEnd_49 : decode cX7_runEnd 49 = .ok (.ifCond .eq 14, 3) := by decide +kernel
theorem dX7_runEnd_52 : decode cX7_runEnd 52 = .ok (.iload 6, 2) := by decide +kernel
theorem dX7_runEnd_54 : decode cX7_runEnd 54 = .ok (.invokestatic 62, 3) := by decide +kernel
theorem dX7_runEnd_57 : decode cX7_runEnd 57 = .ok (.ifCond .ne 17, 3) := by decide +kernel
theorem dX7_runEnd_60 : decode cX7_runEnd 60 = .ok (.goto 11, 3) := by decide +kernel
theorem dX7_runEnd_63 : decode cX7_runEnd 63 = .ok (.iload 6, 2) := by decide +kernel
theorem dX7_runEnd_65 : decode cX7_runEnd 65 = .ok (.invokestatic 65, 3) := by decide +kernel
theorem dX7_runEnd_68 : decode cX7_runEnd 68 = .ok (.ifCond .ne 6, 3) := by decide +kernel
theorem dX7_runEnd_71 : decode cX7_runEnd 71 = .ok (.iload 5, 2) := by decide +kernel
theorem dX7_runEnd_73 : decode cX7_runEnd 73 = .ok (.ireturn, 1) := by decide +kernel
theorem dX7_runEnd_74 : decode cX7_runEnd 74 = .ok (.iinc 5 1, 3) := by decide +kernel
theorem dX7_runEnd_77 : decode cX7_runEnd 77 = .ok (.goto (-44), 3) := by decide +kernel
theorem dX7_runEnd_80 : decode cX7_runEnd 80 = .ok (.iload_n 2, 1) := by decide +kernel
theorem dX7_runEnd_81 : decode cX7_runEnd 81 = .ok (.ireturn, 1) := by decide +kernel
def fX7_runEnd_b74 (rec33 : Option Nat → Int32 → Int32 → Int32 → JM → JO (Int32)) (p0 : Option Nat) (x2 : Int32) (x4 : Int32) (x5 : Int32) (μ : JM) : JO (Int32) := rec33 p0 x2 x4 (x5 + (1 : Int32)) μ
set_option maxHeartbeats 4000000 in
set_option maxRecDepth 100000 in
theorem gX7_runEnd_b74 {b : Nat} {Θ : JE} {RC RS : Nat} {r : Int32} {ν : JM} (X : jX b Θ RX7 cX7_runEnd 7 (some .int) 1 21 RC RS) {rec33 : Option Nat → Int32 → Int32 → Int32 → JM → JO (Int32)} (hrec33 : ∀ (p0 : Option Nat) (x2 : Int32) (x4 : Int32) (x5 : Int32) (μ : JM) (c m k n : Nat), rec33 p0 x2 x4 x5 μ = some (r, ν, c, m) → k + c = RC → n + m = RS → WA b Θ 7 (jE b Θ (some (.int r)) ν RC RS) μ k n 33 [(0, va_rf p0), (2, .int x2), (4, .int x4), (5, .int x5)] []) (p0 : Option Nat) (x2 : Int32) (x4 : Int32) (x5 : Int32) (μ : JM) (c m k n : Nat) (hf : fX7_runEnd_b74 rec33 p0 x2 x4 x5 μ = some (r, ν, c, m)) (hk : k + c = RC) (hn : n + m = RS) : WA b Θ 7 (jE b Θ (some (.int r)) ν RC RS) μ k n 74 [(0, va_rf p0), (2, .int x2), (4, .int x4), (5, .int x5)] [] := by
  rw [fX7_runEnd_b74] at hf
  refine wa_iinc (v := (x5 + (1 : Int32))) (L2 := [(5, .int (x5 + (1 : Int32))), (0, va_rf p0), (2, .int x2), (4, .int x4)]) X 3 dX7_runEnd_74 rfl rfl (by decide) (by first | rfl | simp [va_rf_cat, cat_i, cat_l]) ?_
  refine wa_goto (tgt := 33) X dX7_runEnd_77 (by decide) ?_
  refine wa_sub (L2 := [(0, va_rf p0), (2, .int x2), (4, .int x4), (5, .int (x5 + (1 : Int32)))]) [1, 2, 3, 0] rfl ?_
  exact hrec33 p0 x2 x4 (x5 + (1 : Int32)) μ _ _ _ _ hf (by omega) (by omega)
def fX7_runEnd_b33 : Nat → Option Nat → Int32 → Int32 → Int32 → JM → JO (Int32)
  | 0, _, _, _, _, _ => none
  | fu + 1, p0, x2, x4, x5, μ => if x2 ≤ x5 then (some (x2, μ, 0, 0)) else (jde p0 fun q34 => jck ((jT μ q34).1 == 7) <| jcl (fX6_byteAt q34 x5 μ) fun r37 μ38 => if x4 = 0 then (jcl (fX7_isDigit r37 μ38) fun r47 μ48 => if r47 = 0 then (some (x5, μ48, 0, 0)) else (fX7_runEnd_b74 (fX7_runEnd_b33 fu) p0 x2 x4 x5 μ48)) else (jcl (fX7_isLetter r37 μ38) fun r57 μ58 => if r57 = 0 then (some (x5, μ58, 0, 0)) else (fX7_runEnd_b74 (fX7_runEnd_b33 fu) p0 x2 x4 x5 μ58)))
set_option maxHeartbeats 4000000 in
set_option maxRecDepth 100000 in
theorem gX7_runEnd_b33 {b : Nat} {Θ : JE} {RC RS : Nat} {r : Int32} {ν : JM} (X : jX b Θ RX7 cX7_runEnd 7 (some .int) 1 21 RC RS) : ∀ (fu : Nat) (p0 : Option Nat) (x2 : Int32) (x4 : Int32) (x5 : Int32) (μ : JM) (c m k n : Nat), fX7_runEnd_b33 fu p0 x2 x4 x5 μ = some (r, ν, c, m) → k + c = RC → n + m = RS → WA b Θ 7 (jE b Θ (some (.int r)) ν RC RS) μ k n 33 [(0, va_rf p0), (2, .int x2), (4, .int x4), (5, .int x5)] [] := by
  intro fu
  induction fu with
  | zero => intro p0 x2 x4 x5 μ c m k n hf; cases hf
  | succ fu ih =>
    intro p0 x2 x4 x5 μ c m k n hf hk hn
    rw [fX7_runEnd_b33] at hf
    refine wa_iload X 3 dX7_runEnd_33 rfl ?_
    refine wa_iload_n X 1 dX7_runEnd_35 rfl ?_
    refine wa_icge (tgt := 80) X dX7_runEnd_36 (by decide) (fun h33 => ?_) (fun h33 => ?_)
    · rw [if_pos h33] at hf
      refine wa_iload_n X 1 dX7_runEnd_80 rfl ?_
      obtain ⟨rfl, rfl, rfl, rfl⟩ := jret hf
      exact wa_iret X dX7_runEnd_81 rfl (by omega) (by omega)
    · rw [if_neg h33] at hf
      refine wa_aload_n X 0 dX7_runEnd_39 rfl ?_
      refine wa_iload X 3 dX7_runEnd_40 rfl ?_
      obtain ⟨q34, h35, hf⟩ := jde_some hf
      obtain ⟨h36, hf⟩ := jckT hf
      obtain ⟨r37, μ38, c39, m40, c41, m42, e43, hf, h44, h45⟩ := jcl_some hf
      refine wa_rcallV (st2 := [.int r37]) X dX7_runEnd_42 lmX7_42 lMX6_byteAt h35 h36 (mX6_byteAt e43) rfl rfl rfl (va_cats (Nat.le_of_ble_eq_true rfl)) (by decide) (by omega) (by omega) ?_
      refine wa_istore (L2 := [(6, .int r37), (0, va_rf p0), (2, .int x2), (4, .int x4), (5, .int x5)]) X dX7_runEnd_45 (by decide) (by first | rfl | (show (6, _) :: List.filter (fun q : Nat × Value => !(q.1 == 6) && !(q.1 + 1 == 6 && q.2.category == 2)) _ = _; simp [va_rf_cat, cat_i, cat_l])) ?_
      refine wa_iload X 3 dX7_runEnd_47 rfl ?_
      refine wa_ifeq (tgt := 63) X dX7_runEnd_49 (by decide) (fun h46 => ?_) (fun h46 => ?_)
      · rw [if_pos h46] at hf
        refine wa_iload X 0 dX7_runEnd_63 rfl ?_
        obtain ⟨r47, μ48, c49, m50, c51, m52, e53, hf, h54, h55⟩ := jcl_some hf
        refine wa_rcallS (st2 := [.int r47]) X dX7_runEnd_65 lmX7_65 lMX7_isDigit (mX7_isDigit e53) rfl rfl rfl (va_cats (Nat.le_of_ble_eq_true rfl)) (by decide) (by omega) (by omega) ?_
        refine wa_ifne (tgt := 74) X dX7_runEnd_68 (by decide) (fun h56 => ?_) (fun h56 => ?_)
        · rw [if_neg h56] at hf
          refine wa_sub (L2 := [(0, va_rf p0), (2, .int x2), (4, .int x4), (5, .int x5)]) [1, 2, 3, 4] rfl ?_
          exact gX7_runEnd_b74 X ih p0 x2 x4 x5 μ48 _ _ _ _ hf (by omega) (by omega)
        · rw [if_pos h56] at hf
          refine wa_iload X 4 dX7_runEnd_71 rfl ?_
          obtain ⟨rfl, rfl, rfl, rfl⟩ := jret hf
          exact wa_iret X dX7_runEnd_73 rfl (by omega) (by omega)
      · rw [if_neg h46] at hf
        refine wa_iload X 0 dX7_runEnd_52 rfl ?_
        obtain ⟨r57, μ58, c59, m60, c61, m62, e63, hf, h64, h65⟩ := jcl_some hf
        refine wa_rcallS (st2 := [.int r57]) X dX7_runEnd_54 lmX7_62 lMX7_isLetter (mX7_isLetter e63) rfl rfl rfl (va_cats (Nat.le_of_ble_eq_true rfl)) (by decide) (by omega) (by omega) ?_
        refine wa_ifne (tgt := 74) X dX7_runEnd_57 (by decide) (fun h66 => ?_) (fun h66 => ?_)
        · rw [if_neg h66] at hf
          refine wa_sub (L2 := [(0, va_rf p0), (2, .int x2), (4, .int x4), (5, .int x5)]) [1, 2, 3, 4] rfl ?_
          exact gX7_runEnd_b74 X ih p0 x2 x4 x5 μ58 _ _ _ _ hf (by omega) (by omega)
        · rw [if_pos h66] at hf
          refine wa_goto (tgt := 71) X dX7_runEnd_60 (by decide) ?_
          refine wa_iload X 4 dX7_runEnd_71 rfl ?_
          obtain ⟨rfl, rfl, rfl, rfl⟩ := jret hf
          exact wa_iret X dX7_runEnd_73 rfl (by omega) (by omega)
def fX7_runEnd_b28 (p0 : Option Nat) (x1 : Int32) (x2 : Int32) (x4 : Int32) (μ : JM) : JO (Int32) := fX7_runEnd_b33  jfuel p0 x2 x4 (x1 + (1 : Int32)) μ
set_option maxHeartbeats 4000000 in
set_option maxRecDepth 100000 in
theorem gX7_runEnd_b28 {b : Nat} {Θ : JE} {RC RS : Nat} {r : Int32} {ν : JM} (X : jX b Θ RX7 cX7_runEnd 7 (some .int) 1 21 RC RS) (p0 : Option Nat) (x1 : Int32) (x2 : Int32) (x4 : Int32) (μ : JM) (c m k n : Nat) (hf : fX7_runEnd_b28 p0 x1 x2 x4 μ = some (r, ν, c, m)) (hk : k + c = RC) (hn : n + m = RS) : WA b Θ 7 (jE b Θ (some (.int r)) ν RC RS) μ k n 28 [(0, va_rf p0), (1, .int x1), (2, .int x2), (4, .int x4)] [] := by
  rw [fX7_runEnd_b28] at hf
  refine wa_iload_n X 1 dX7_runEnd_28 rfl ?_
  refine wa_iconst (v := (1 : Int32)) X dX7_runEnd_29 (by decide) ?_
  refine wa_iadd X dX7_runEnd_30 ?_
  refine wa_istore (L2 := [(5, .int (x1 + (1 : Int32))), (0, va_rf p0), (1, .int x1), (2, .int x2), (4, .int x4)]) X dX7_runEnd_31 (by decide) (by first | rfl | (show (5, _) :: List.filter (fun q : Nat × Value => !(q.1 == 5) && !(q.1 + 1 == 5 && q.2.category == 2)) _ = _; simp [va_rf_cat, cat_i, cat_l])) ?_
  refine wa_sub (L2 := [(0, va_rf p0), (2, .int x2), (4, .int x4), (5, .int (x1 + (1 : Int32)))]) [1, 3, 4, 0] rfl ?_
  exact gX7_runEnd_b33 X jfuel p0 x2 x4 (x1 + (1 : Int32)) μ _ _ _ _ hf (by omega) (by omega)
def fX7_runEnd (p0 : Option Nat) (x1 : Int32) (x2 : Int32) (μ : JM) : JO (Int32) := jde p0 fun q1 => jck ((jT μ q1).1 == 7) <| jcl (fX6_byteAt q1 x1 μ) fun r4 μ5 => jcl (fX7_isLetter r4 μ5) fun r13 μ14 => if r13 = 0 then (jcl (fX7_isDigit r4 μ14) fun r23 μ24 => if r23 = 0 then (some ((x1 + (1 : Int32)), μ24, 0, 0)) else (fX7_runEnd_b28  p0 x1 x2 r13 μ24)) else (fX7_runEnd_b28  p0 x1 x2 r13 μ14)
set_option maxHeartbeats 4000000 in
set_option maxRecDepth 100000 in
theorem mX7_runEnd {b : Nat} {p0 : Option Nat} {x1 : Int32} {x2 : Int32} {μ : JM} {r : Int32} {ν : JM} {c m : Nat} (hf : fX7_runEnd p0 x1 x2 μ = some (r, ν, c, m)) : JMet b yX7_runEnd cX7_runEnd 7 (some .int) 1 21 [va_rf p0, .int x1, .int x2] μ (some (.int r)) ν c m := by
  refine JMet.of (by decide) (lg_sl_le (by simp only [List.map_cons, List.map_nil, List.sum_cons, List.sum_nil, va_rf_cat]; exact Nat.le_of_ble_eq_true rfl)) (fun Θ X hin => ?_)
  refine wa_eq (L2 := [(0, va_rf p0), (1, .int x1), (2, .int x2)]) ?_ rfl (by first | rfl | simp [lv_args, va_rf_cat, cat_i, cat_l]) rfl
  obtain ⟨k, hk0⟩ : ∃ k : Nat, k = 0 := ⟨0, rfl⟩
  obtain ⟨n, hn0⟩ : ∃ n : Nat, n = 0 := ⟨0, rfl⟩
  have hk : k + c = c := by omega
  have hn : n + m = m := by omega
  refine wa_costs hk0.symm hn0.symm ?_
  rw [fX7_runEnd] at hf
  refine wa_aload_n X 0 dX7_runEnd_0 rfl ?_
  refine wa_iload_n X 1 dX7_runEnd_1 rfl ?_
  obtain ⟨q1, h2, hf⟩ := jde_some hf
  obtain ⟨h3, hf⟩ := jckT hf
  obtain ⟨r4, μ5, c6, m7, c8, m9, e10, hf, h11, h12⟩ := jcl_some hf
  refine wa_rcallV (st2 := [.int r4]) X dX7_runEnd_2 lmX7_42 lMX6_byteAt h2 h3 (mX6_byteAt e10) rfl rfl rfl (va_cats (Nat.le_of_ble_eq_true rfl)) (by decide) (by omega) (by omega) ?_
  refine wa_istore_n (L2 := [(3, .int r4), (0, va_rf p0), (1, .int x1), (2, .int x2)]) X dX7_runEnd_5 (by decide) (by first | rfl | (show (3, _) :: List.filter (fun q : Nat × Value => !(q.1 == 3) && !(q.1 + 1 == 3 && q.2.category == 2)) _ = _; simp [va_rf_cat, cat_i, cat_l])) ?_
  refine wa_iload_n X 0 dX7_runEnd_6 rfl ?_
  obtain ⟨r13, μ14, c15, m16, c17, m18, e19, hf, h20, h21⟩ := jcl_some hf
  refine wa_rcallS (st2 := [.int r13]) X dX7_runEnd_7 lmX7_62 lMX7_isLetter (mX7_isLetter e19) rfl rfl rfl (va_cats (Nat.le_of_ble_eq_true rfl)) (by decide) (by omega) (by omega) ?_
  refine wa_istore (L2 := [(4, .int r13), (3, .int r4), (0, va_rf p0), (1, .int x1), (2, .int x2)]) X dX7_runEnd_10 (by decide) (by first | rfl | (show (4, _) :: List.filter (fun q : Nat × Value => !(q.1 == 4) && !(q.1 + 1 == 4 && q.2.category == 2)) _ = _; simp [va_rf_cat, cat_i, cat_l])) ?_
  refine wa_iload X 0 dX7_runEnd_12 rfl ?_
  refine wa_ifne (tgt := 28) X dX7_runEnd_14 (by decide) (fun h22 => ?_) (fun h22 => ?_)
  · rw [if_neg h22] at hf
    refine wa_sub (L2 := [(0, va_rf p0), (1, .int x1), (2, .int x2), (4, .int r13)]) [2, 3, 4, 0] rfl ?_
    exact gX7_runEnd_b28 X p0 x1 x2 r13 μ14 _ _ _ _ hf (by omega) (by omega)
  · rw [if_pos h22] at hf
    refine wa_iload_n X 1 dX7_runEnd_17 rfl ?_
    obtain ⟨r23, μ24, c25, m26, c27, m28, e29, hf, h30, h31⟩ := jcl_some hf
    refine wa_rcallS (st2 := [.int r23]) X dX7_runEnd_18 lmX7_65 lMX7_isDigit (mX7_isDigit e29) rfl rfl rfl (va_cats (Nat.le_of_ble_eq_true rfl)) (by decide) (by omega) (by omega) ?_
    refine wa_ifne (tgt := 28) X dX7_runEnd_21 (by decide) (fun h32 => ?_) (fun h32 => ?_)
    · rw [if_neg h32] at hf
      refine wa_sub (L2 := [(0, va_rf p0), (1, .int x1), (2, .int x2), (4, .int r13)]) [2, 3, 4, 0] rfl ?_
      exact gX7_runEnd_b28 X p0 x1 x2 r13 μ24 _ _ _ _ hf (by omega) (by omega)
    · rw [if_pos h32] at hf
      refine wa_iload_n X 3 dX7_runEnd_24 rfl ?_
      refine wa_iconst (v := (1 : Int32)) X dX7_runEnd_25 (by decide) ?_
      refine wa_iadd X dX7_runEnd_26 ?_
      obtain ⟨rfl, rfl, rfl, rfl⟩ := jret hf
      exact wa_iret X dX7_runEnd_27 rfl (by omega) (by omega)
theorem dX7_wordOf_0 : decode cX7_wordOf 0 = .ok (.lconst 0, 1) := by decide +kernel
theorem dX7_wordOf_1 : decode cX7_wordOf 1 = .ok (.lstore 4, 2) := by decide +kernel
theorem dX7_wordOf_3 : decode cX7_wordOf 3 = .ok (.iload_n 2, 1) := by decide +kernel
theorem dX7_wordOf_4 : decode cX7_wordOf 4 = .ok (.istore 6, 2) := by decide +kernel
theorem dX7_wordOf_6 : decode cX7_wordOf 6 = .ok (.iload 6, 2) := by decide +kernel
theorem dX7_wordOf_8 : decode cX7_wordOf 8 = .ok (.iload_n 3, 1) := by decide +kernel
theorem dX7_wordOf_9 : decode cX7_wordOf 9 = .ok (.if_icmp .ge 22, 3) := by decide +kernel
theorem dX7_wordOf_12 : decode cX7_wordOf 12 = .ok (.lload 4, 2) := by decide +kernel
theorem dX7_wordOf_14 : decode cX7_wordOf 14 = .ok (.aload_n 1, 1) := by decide +kernel
theorem dX7_wordOf_15 : decode cX7_wordOf 15 = .ok (.iload 6, 2) := by decide +kernel
theorem dX7_wordOf_17 : decode cX7_wordOf 17 = .ok (.invokevirtual 42, 3) := by decide +kernel
theorem dX7_wordOf_20 : decode cX7_wordOf 20 = .ok (.invokestatic 76, 3) := by decide +kernel
theorem dX7_wordOf_23 : decode cX7_wordOf 23 = .ok (.lstore 4, 2) := by decide +kernel
theorem dX7_wordOf_25 : decode cX7_wordOf 25 = .ok (.iinc 6 1, 3) := by decide +kernel
theorem dX7_wordOf_28 : decode cX7_wordOf 28 = .ok (.goto (-22), 3) := by decide +kernel
theorem dX7_wordOf_31 : decode cX7_wordOf 31 = .ok (.aload_n 0, 1) := by decide +kernel
theorem dX7_wordOf_32 : decode cX7_wordOf 32 = .ok (.getfield 9, 3) := by decide +kernel
theorem dX7_wordOf_35 : decode cX7_wordOf 35 = .ok (.lload 4, 2) := by decide +kernel
theorem dX7_wordOf_37 : decode cX7_wordOf 37 = .ok (.invokevirtual 82, 3) := by decide +kernel
theorem dX7_wordOf_40 : decode cX7_wordOf 40 = .ok (.istore 6, 2) := by decide +kernel
theorem dX7_wordOf_42 : decode cX7_wordOf 42 = .ok (.iload 6, 2) := by decide +kernel
theorem dX7_wordOf_44 : decode cX7_wordOf 44 = .ok (.iconst (-1), 1) := by decide +kernel
theorem dX7_wordOf_45 : decode cX7_wordOf 45 = .ok (.if_icmp .ne 8, 3) := by decide +kernel
theorem dX7_wordOf_48 : decode cX7_wordOf 48 = .ok (.lload 4, 2) := by decide +kernel
theorem dX7_wordOf_50 : decode cX7_wordOf 50 = .ok (.goto 10, 3) := by decide +kernel
theorem dX7_wordOf_53 : decode cX7_wordOf 53 = .ok (.ldc2_w 86, 3) := by decide +kernel
theorem dX7_wordOf_56 : decode cX7_wordOf 56 = .ok (.iload 6, 2) := by decide +kernel
theorem dX7_wordOf_58 : decode cX7_wordOf 58 = .ok (.i2l, 1) := by decide +kernel
theorem dX7_wordOf_59 : decode cX7_wordOf 59 = .ok (.lsub, 1) := by decide +kernel
theorem dX7_wordOf_60 : decode cX7_wordOf 60 = .ok (.lreturn, 1) := by decide +kernel
def fX7_wordOf_b6 : Nat → Nat → Option Nat → Int32 → Int64 → Int32 → JM → JO (Int64)
  | 0, _, _, _, _, _, _ => none
  | fu + 1, a, p1, x3, y4, x6, μ => if x3 ≤ x6 then (jck ((jT μ a).1 == 8) <| jde (jP μ a 0) fun q3 => jck ((jT μ q3).1 == 10) <| jcl (fX9_find q3 y4 μ) fun r6 μ7 => if r6 = (-1 : Int32) then (some (y4, μ7, 0, 0)) else (some (((-3000 : Int64) - (r6).toInt64), μ7, 0, 0))) else (jde p1 fun q16 => jck ((jT μ q16).1 == 7) <| jcl (fX6_byteAt q16 x6 μ) fun r19 μ20 => jcl (fX9_grown y4 r19 μ20) fun r28 μ29 => fX7_wordOf_b6 fu a p1 x3 r28 (x6 + (1 : Int32)) μ29)
set_option maxHeartbeats 4000000 in
set_option maxRecDepth 100000 in
theorem gX7_wordOf_b6 {b : Nat} {Θ : JE} {RC RS : Nat} {r : Int64} {ν : JM} (X : jX b Θ RX7 cX7_wordOf 7 (some .long) 1 23 RC RS) : ∀ (fu : Nat) (a : Nat) (p1 : Option Nat) (x3 : Int32) (y4 : Int64) (x6 : Int32) (μ : JM) (c m k n : Nat), fX7_wordOf_b6 fu a p1 x3 y4 x6 μ = some (r, ν, c, m) → k + c = RC → n + m = RS → WA b Θ 7 (jE b Θ (some (.long r)) ν RC RS) μ k n 6 [(0, va_rf (some a)), (1, va_rf p1), (3, .int x3), (4, .long y4), (6, .int x6)] [] := by
  intro fu
  induction fu with
  | zero => intro a p1 x3 y4 x6 μ c m k n hf; cases hf
  | succ fu ih =>
    intro a p1 x3 y4 x6 μ c m k n hf hk hn
    rw [fX7_wordOf_b6] at hf
    refine wa_iload X 4 dX7_wordOf_6 rfl ?_
    refine wa_iload_n X 2 dX7_wordOf_8 rfl ?_
    refine wa_icge (tgt := 31) X dX7_wordOf_9 (by decide) (fun h1 => ?_) (fun h1 => ?_)
    · rw [if_pos h1] at hf
      refine wa_aload_n X 0 dX7_wordOf_31 rfl ?_
      obtain ⟨h2, hf⟩ := jckT hf
      refine wa_getP X dX7_wordOf_32 lfX7_9 rfl h2 rfl ?_
      refine wa_lload X 3 dX7_wordOf_35 rfl ?_
      obtain ⟨q3, h4, hf⟩ := jde_some hf
      obtain ⟨h5, hf⟩ := jckT hf
      obtain ⟨r6, μ7, c8, m9, c10, m11, e12, hf, h13, h14⟩ := jcl_some hf
      refine wa_rcallV (st2 := [.int r6]) X dX7_wordOf_37 lmX7_82 lMX9_find h4 h5 (mX9_find e12) rfl rfl rfl (va_cats (Nat.le_of_ble_eq_true rfl)) (by decide) (by omega) (by omega) ?_
      refine wa_istore (L2 := [(6, .int r6), (0, va_rf (some a)), (1, va_rf p1), (3, .int x3), (4, .long y4)]) X dX7_wordOf_40 (by decide) (by first | rfl | (show (6, _) :: List.filter (fun q : Nat × Value => !(q.1 == 6) && !(q.1 + 1 == 6 && q.2.category == 2)) _ = _; simp [va_rf_cat, cat_i, cat_l])) ?_
      refine wa_iload X 0 dX7_wordOf_42 rfl ?_
      refine wa_iconst (v := (-1 : Int32)) X dX7_wordOf_44 (by decide) ?_
      refine wa_icne (tgt := 53) X dX7_wordOf_45 (by decide) (fun h15 => ?_) (fun h15 => ?_)
      · rw [if_neg h15] at hf
        refine wa_ldc2 (v := (-3000 : Int64)) X dX7_wordOf_53 lkX7_86 ?_
        refine wa_iload X 0 dX7_wordOf_56 rfl ?_
        refine wa_i2l X dX7_wordOf_58 ?_
        refine wa_lsub X dX7_wordOf_59 ?_
        obtain ⟨rfl, rfl, rfl, rfl⟩ := jret hf
        exact wa_lret X dX7_wordOf_60 (by omega) (by omega)
      · rw [if_pos h15] at hf
        refine wa_lload X 4 dX7_wordOf_48 rfl ?_
        refine wa_goto (tgt := 60) X dX7_wordOf_50 (by decide) ?_
        obtain ⟨rfl, rfl, rfl, rfl⟩ := jret hf
        exact wa_lret X dX7_wordOf_60 (by omega) (by omega)
    · rw [if_neg h1] at hf
      refine wa_lload X 3 dX7_wordOf_12 rfl ?_
      refine wa_aload_n X 1 dX7_wordOf_14 rfl ?_
      refine wa_iload X 4 dX7_wordOf_15 rfl ?_
      obtain ⟨q16, h17, hf⟩ := jde_some hf
      obtain ⟨h18, hf⟩ := jckT hf
      obtain ⟨r19, μ20, c21, m22, c23, m24, e25, hf, h26, h27⟩ := jcl_some hf
      refine wa_rcallV (st2 := [.int r19, .long y4]) X dX7_wordOf_17 lmX7_42 lMX6_byteAt h17 h18 (mX6_byteAt e25) rfl rfl rfl (va_cats (Nat.le_of_ble_eq_true rfl)) (by decide) (by omega) (by omega) ?_
      obtain ⟨r28, μ29, c30, m31, c32, m33, e34, hf, h35, h36⟩ := jcl_some hf
      refine wa_rcallS (st2 := [.long r28]) X dX7_wordOf_20 lmX7_76 lMX9_grown (mX9_grown e34) rfl rfl rfl (va_cats (Nat.le_of_ble_eq_true rfl)) (by decide) (by omega) (by omega) ?_
      refine wa_lstore (L2 := [(4, .long r28), (0, va_rf (some a)), (1, va_rf p1), (3, .int x3), (6, .int x6)]) X dX7_wordOf_23 (by decide) (by first | rfl | (show (4, _) :: List.filter (fun q : Nat × Value => !(q.1 == 4) && (!(q.1 == 5) && !(q.1 + 1 == 4 && q.2.category == 2))) _ = _; simp [va_rf_cat, cat_i, cat_l])) ?_
      refine wa_iinc (v := (x6 + (1 : Int32))) (L2 := [(6, .int (x6 + (1 : Int32))), (4, .long r28), (0, va_rf (some a)), (1, va_rf p1), (3, .int x3)]) X 4 dX7_wordOf_25 rfl rfl (by decide) (by first | rfl | simp [va_rf_cat, cat_i, cat_l]) ?_
      refine wa_goto (tgt := 6) X dX7_wordOf_28 (by decide) ?_
      refine wa_sub (L2 := [(0, va_rf (some a)), (1, va_rf p1), (3, .int x3), (4, .long r28), (6, .int (x6 + (1 : Int32)))]) [2, 3, 4, 1, 0] rfl ?_
      exact ih a p1 x3 r28 (x6 + (1 : Int32)) μ29 _ _ _ _ hf (by omega) (by omega)
def fX7_wordOf (a : Nat) (p1 : Option Nat) (x2 : Int32) (x3 : Int32) (μ : JM) : JO (Int64) := fX7_wordOf_b6  jfuel a p1 x3 (0 : Int64) x2 μ
set_option maxHeartbeats 4000000 in
set_option maxRecDepth 100000 in
theorem mX7_wordOf {b : Nat} {a : Nat} {p1 : Option Nat} {x2 : Int32} {x3 : Int32} {μ : JM} {r : Int64} {ν : JM} {c m : Nat} (hf : fX7_wordOf a p1 x2 x3 μ = some (r, ν, c, m)) : JMet b yX7_wordOf cX7_wordOf 7 (some .long) 1 23 [va_rf (some a), va_rf p1, .int x2, .int x3] μ (some (.long r)) ν c m := by
  refine JMet.of (by decide) (lg_sl_le (by simp only [List.map_cons, List.map_nil, List.sum_cons, List.sum_nil, va_rf_cat]; exact Nat.le_of_ble_eq_true rfl)) (fun Θ X hin => ?_)
  refine wa_eq (L2 := [(0, va_rf (some a)), (1, va_rf p1), (2, .int x2), (3, .int x3)]) ?_ rfl (by first | rfl | simp [lv_args, va_rf_cat, cat_i, cat_l]) rfl
  obtain ⟨k, hk0⟩ : ∃ k : Nat, k = 0 := ⟨0, rfl⟩
  obtain ⟨n, hn0⟩ : ∃ n : Nat, n = 0 := ⟨0, rfl⟩
  have hk : k + c = c := by omega
  have hn : n + m = m := by omega
  refine wa_costs hk0.symm hn0.symm ?_
  rw [fX7_wordOf] at hf
  refine wa_lconst (v := (0 : Int64)) X dX7_wordOf_0 (by decide) ?_
  refine wa_lstore (L2 := [(4, .long (0 : Int64)), (0, va_rf (some a)), (1, va_rf p1), (2, .int x2), (3, .int x3)]) X dX7_wordOf_1 (by decide) (by first | rfl | (show (4, _) :: List.filter (fun q : Nat × Value => !(q.1 == 4) && (!(q.1 == 5) && !(q.1 + 1 == 4 && q.2.category == 2))) _ = _; simp [va_rf_cat, cat_i, cat_l])) ?_
  refine wa_iload_n X 3 dX7_wordOf_3 rfl ?_
  refine wa_istore (L2 := [(6, .int x2), (4, .long (0 : Int64)), (0, va_rf (some a)), (1, va_rf p1), (2, .int x2), (3, .int x3)]) X dX7_wordOf_4 (by decide) (by first | rfl | (show (6, _) :: List.filter (fun q : Nat × Value => !(q.1 == 6) && !(q.1 + 1 == 6 && q.2.category == 2)) _ = _; simp [va_rf_cat, cat_i, cat_l])) ?_
  refine wa_sub (L2 := [(0, va_rf (some a)), (1, va_rf p1), (3, .int x3), (4, .long (0 : Int64)), (6, .int x2)]) [2, 3, 5, 1, 0] rfl ?_
  exact gX7_wordOf_b6 X jfuel a p1 x3 (0 : Int64) x2 μ _ _ _ _ hf (by omega) (by omega)
theorem dX7_numberOf_0 : decode cX7_numberOf 0 = .ok (.iconst 0, 1) := by decide +kernel
theorem dX7_numberOf_1 : decode cX7_numberOf 1 = .ok (.istore_n 3, 1) := by decide +kernel
theorem dX7_numberOf_2 : decode cX7_numberOf 2 = .ok (.iload_n 1, 1) := by decide +kernel
theorem dX7_numberOf_3 : decode cX7_numberOf 3 = .ok (.istore 4, 2) := by decide +kernel
theorem dX7_numberOf_5 : decode cX7_numberOf 5 = .ok (.iload 4, 2) := by decide +kernel
theorem dX7_numberOf_7 : decode cX7_numberOf 7 = .ok (.iload_n 2, 1) := by decide +kernel
theorem dX7_numberOf_8 : decode cX7_numberOf 8 = .ok (.if_icmp .ge 24, 3) := by decide +kernel
theorem dX7_numberOf_11 : decode cX7_numberOf 11 = .ok (.iload_n 3, 1) := by decide +kernel
theorem dX7_numberOf_12 : decode cX7_numberOf 12 = .ok (.bipush 10, 2) := by decide +kernel
theorem dX7_numberOf_14 : decode cX7_numberOf 14 = .ok (.imul, 1) := by decide +kernel
theorem dX7_numberOf_15 : decode cX7_numberOf 15 = .ok (.aload_n 0, 1) := by decide +kernel
theorem dX7_numberOf_16 : decode cX7_numberOf 16 = .ok (.iload 4, 2) := by decide +kernel
theorem dX7_numberOf_18 : decode cX7_numberOf 18 = .ok (.invokevirtual 42, 3) := by decide +kernel
theorem dX7_numberOf_21 : decode cX7_numberOf 21 = .ok (.iadd, 1) := by decide +kernel
theorem dX7_numberOf_22 : decode cX7_numberOf 22 = .ok (.bipush 48, 2) := by decide +kernel
theorem dX7_numberOf_24 : decode cX7_numberOf 24 = .ok (.isub, 1) := by decide +kernel
theorem dX7_numberOf_25 : decode cX7_numberOf 25 = .ok (.istore_n 3, 1) := by decide +kernel
theorem dX7_numberOf_26 : decode cX7_numberOf 26 = .ok (.iinc 4 1, 3) := by decide +kernel
theorem dX7_numberOf_29 : decode cX7_numberOf 29 = .ok (.goto (-24), 3) := by decide +kernel
theorem dX7_numberOf_32 : decode cX7_numberOf 32 = .ok (.ldc2_w 88, 3) := by decide +kernel
theorem dX7_numberOf_35 : decode cX7_numberOf 35 = .ok (.iload_n 3, 1) := by decide +kernel
theorem dX7_numberOf_36 : decode cX7_numberOf 36 = .ok (.i2l, 1) := by decide +kernel
theorem dX7_numberOf_37 : decode cX7_numberOf 37 = .ok (.lsub, 1) := by decide +kernel
theorem dX7_numberOf_38 : decode cX7_numberOf 38 = .ok (.lreturn, 1) := by decide +kernel
def fX7_numberOf_b5 : Nat → Option Nat → Int32 → Int32 → Int32 → JM → JO (Int64)
  | 0, _, _, _, _, _ => none
  | fu + 1, p0, x2, x3, x4, μ => if x2 ≤ x4 then (some (((-1000 : Int64) - (x3).toInt64), μ, 0, 0)) else (jde p0 fun q2 => jck ((jT μ q2).1 == 7) <| jcl (fX6_byteAt q2 x4 μ) fun r5 μ6 => fX7_numberOf_b5 fu p0 x2 (((x3 * (10 : Int32)) + r5) - (48 : Int32)) (x4 + (1 : Int32)) μ6)
set_option maxHeartbeats 4000000 in
set_option maxRecDepth 100000 in
theorem gX7_numberOf_b5 {b : Nat} {Θ : JE} {RC RS : Nat} {r : Int64} {ν : JM} (X : jX b Θ RX7 cX7_numberOf 5 (some .long) 1 21 RC RS) : ∀ (fu : Nat) (p0 : Option Nat) (x2 : Int32) (x3 : Int32) (x4 : Int32) (μ : JM) (c m k n : Nat), fX7_numberOf_b5 fu p0 x2 x3 x4 μ = some (r, ν, c, m) → k + c = RC → n + m = RS → WA b Θ 5 (jE b Θ (some (.long r)) ν RC RS) μ k n 5 [(0, va_rf p0), (2, .int x2), (3, .int x3), (4, .int x4)] [] := by
  intro fu
  induction fu with
  | zero => intro p0 x2 x3 x4 μ c m k n hf; cases hf
  | succ fu ih =>
    intro p0 x2 x3 x4 μ c m k n hf hk hn
    rw [fX7_numberOf_b5] at hf
    refine wa_iload X 3 dX7_numberOf_5 rfl ?_
    refine wa_iload_n X 1 dX7_numberOf_7 rfl ?_
    refine wa_icge (tgt := 32) X dX7_numberOf_8 (by decide) (fun h1 => ?_) (fun h1 => ?_)
    · rw [if_pos h1] at hf
      refine wa_ldc2 (v := (-1000 : Int64)) X dX7_numberOf_32 lkX7_88 ?_
      refine wa_iload_n X 2 dX7_numberOf_35 rfl ?_
      refine wa_i2l X dX7_numberOf_36 ?_
      refine wa_lsub X dX7_numberOf_37 ?_
      obtain ⟨rfl, rfl, rfl, rfl⟩ := jret hf
      exact wa_lret X dX7_numberOf_38 (by omega) (by omega)
    · rw [if_neg h1] at hf
      refine wa_iload_n X 2 dX7_numberOf_11 rfl ?_
      refine wa_bipush (v := (10 : Int32)) X dX7_numberOf_12 (by decide) ?_
      refine wa_imul X dX7_numberOf_14 ?_
      refine wa_aload_n X 0 dX7_numberOf_15 rfl ?_
      refine wa_iload X 3 dX7_numberOf_16 rfl ?_
      obtain ⟨q2, h3, hf⟩ := jde_some hf
      obtain ⟨h4, hf⟩ := jckT hf
      obtain ⟨r5, μ6, c7, m8, c9, m10, e11, hf, h12, h13⟩ := jcl_some hf
      refine wa_rcallV (st2 := [.int r5, .int (x3 * (10 : Int32))]) X dX7_numberOf_18 lmX7_42 lMX6_byteAt h3 h4 (mX6_byteAt e11) rfl rfl rfl (va_cats (Nat.le_of_ble_eq_true rfl)) (by decide) (by omega) (by omega) ?_
      refine wa_iadd X dX7_numberOf_21 ?_
      refine wa_bipush (v := (48 : Int32)) X dX7_numberOf_22 (by decide) ?_
      refine wa_isub X dX7_numberOf_24 ?_
      refine wa_istore_n (L2 := [(3, .int (((x3 * (10 : Int32)) + r5) - (48 : Int32))), (0, va_rf p0), (2, .int x2), (4, .int x4)]) X dX7_numberOf_25 (by decide) (by first | rfl | (show (3, _) :: List.filter (fun q : Nat × Value => !(q.1 == 3) && !(q.1 + 1 == 3 && q.2.category == 2)) _ = _; simp [va_rf_cat, cat_i, cat_l])) ?_
      refine wa_iinc (v := (x4 + (1 : Int32))) (L2 := [(4, .int (x4 + (1 : Int32))), (3, .int (((x3 * (10 : Int32)) + r5) - (48 : Int32))), (0, va_rf p0), (2, .int x2)]) X 3 dX7_numberOf_26 rfl rfl (by decide) (by first | rfl | simp [va_rf_cat, cat_i, cat_l]) ?_
      refine wa_goto (tgt := 5) X dX7_numberOf_29 (by decide) ?_
      refine wa_sub (L2 := [(0, va_rf p0), (2, .int x2), (3, .int (((x3 * (10 : Int32)) + r5) - (48 : Int32))), (4, .int (x4 + (1 : Int32)))]) [2, 3, 1, 0] rfl ?_
      exact ih p0 x2 (((x3 * (10 : Int32)) + r5) - (48 : Int32)) (x4 + (1 : Int32)) μ6 _ _ _ _ hf (by omega) (by omega)
def fX7_numberOf (p0 : Option Nat) (x1 : Int32) (x2 : Int32) (μ : JM) : JO (Int64) := fX7_numberOf_b5  jfuel p0 x2 (0 : Int32) x1 μ
set_option maxHeartbeats 4000000 in
set_option maxRecDepth 100000 in
theorem mX7_numberOf {b : Nat} {p0 : Option Nat} {x1 : Int32} {x2 : Int32} {μ : JM} {r : Int64} {ν : JM} {c m : Nat} (hf : fX7_numberOf p0 x1 x2 μ = some (r, ν, c, m)) : JMet b yX7_numberOf cX7_numberOf 5 (some .long) 1 21 [va_rf p0, .int x1, .int x2] μ (some (.long r)) ν c m := by
  refine JMet.of (by decide) (lg_sl_le (by simp only [List.map_cons, List.map_nil, List.sum_cons, List.sum_nil, va_rf_cat]; exact Nat.le_of_ble_eq_true rfl)) (fun Θ X hin => ?_)
  refine wa_eq (L2 := [(0, va_rf p0), (1, .int x1), (2, .int x2)]) ?_ rfl (by first | rfl | simp [lv_args, va_rf_cat, cat_i, cat_l]) rfl
  obtain ⟨k, hk0⟩ : ∃ k : Nat, k = 0 := ⟨0, rfl⟩
  obtain ⟨n, hn0⟩ : ∃ n : Nat, n = 0 := ⟨0, rfl⟩
  have hk : k + c = c := by omega
  have hn : n + m = m := by omega
  refine wa_costs hk0.symm hn0.symm ?_
  rw [fX7_numberOf] at hf
  refine wa_iconst (v := (0 : Int32)) X dX7_numberOf_0 (by decide) ?_
  refine wa_istore_n (L2 := [(3, .int (0 : Int32)), (0, va_rf p0), (1, .int x1), (2, .int x2)]) X dX7_numberOf_1 (by decide) (by first | rfl | (show (3, _) :: List.filter (fun q : Nat × Value => !(q.1 == 3) && !(q.1 + 1 == 3 && q.2.category == 2)) _ = _; simp [va_rf_cat, cat_i, cat_l])) ?_
  refine wa_iload_n X 2 dX7_numberOf_2 rfl ?_
  refine wa_istore (L2 := [(4, .int x1), (3, .int (0 : Int32)), (0, va_rf p0), (1, .int x1), (2, .int x2)]) X dX7_numberOf_3 (by decide) (by first | rfl | (show (4, _) :: List.filter (fun q : Nat × Value => !(q.1 == 4) && !(q.1 + 1 == 4 && q.2.category == 2)) _ = _; simp [va_rf_cat, cat_i, cat_l])) ?_
  refine wa_sub (L2 := [(0, va_rf p0), (2, .int x2), (3, .int (0 : Int32)), (4, .int x1)]) [2, 4, 1, 0] rfl ?_
  exact gX7_numberOf_b5 X jfuel p0 x2 (0 : Int32) x1 μ _ _ _ _ hf (by omega) (by omega)
theorem dX7_tokenOf_0 : decode cX7_tokenOf 0 = .ok (.aload_n 1, 1) := by decide +kernel
theorem dX7_tokenOf_1 : decode cX7_tokenOf 1 = .ok (.iload_n 2, 1) := by decide +kernel
theorem dX7_tokenOf_2 : decode cX7_tokenOf 2 = .ok (.invokevirtual 42, 3) := by decide +kernel
theorem dX7_tokenOf_5 : decode cX7_tokenOf 5 = .ok (.istore 4, 2) := by decide +kernel
theorem dX7_tokenOf_7 : decode cX7_tokenOf 7 = .ok (.iload 4, 2) := by decide +kernel
theorem dX7_tokenOf_9 : decode cX7_tokenOf 9 = .ok (.invokestatic 62, 3) := by decide +kernel
theorem dX7_tokenOf_12 : decode cX7_tokenOf 12 = .ok (.ifCond .eq 25, 3) := by decide +kernel
theorem dX7_tokenOf_15 : decode cX7_tokenOf 15 = .ok (.iload_n 3, 1) := by decide +kernel
theorem dX7_tokenOf_16 : decode cX7_tokenOf 16 = .ok (.iload_n 2, 1) := by decide +kernel
theorem dX7_tokenOf_17 : decode cX7_tokenOf 17 = .ok (.isub, 1) := by decide +kernel
theorem dX7_tokenOf_18 : decode cX7_tokenOf 18 = .ok (.bipush 12, 2) := by decide +kernel
theorem dX7_tokenOf_20 : decode cX7_tokenOf 20 = .ok (.if_icmp .le 9, 3) := by decide +kernel
theorem dX7_tokenOf_23 : decode cX7_tokenOf 23 = .ok (.ldc2_w 68, 3) := by decide +kernel
theorem dX7_tokenOf_26 : decode cX7_tokenOf 26 = .ok (.goto 10, 3) := by decide +kernel
theorem dX7_tokenOf_29 : decode cX7_tokenOf 29 = .ok (.aload_n 0, 1) := by decide +kernel
theorem dX7_tokenOf_30 : decode cX7_tokenOf 30 = .ok (.aload_n 1, 1) := by decide +kernel
theorem dX7_tokenOf_31 : decode cX7_tokenOf 31 = .ok (.iload_n 2, 1) := by decide +kernel
theorem dX7_tokenOf_32 : decode cX7_tokenOf 32 = .ok (.iload_n 3, 1) := by decide +kernel
theorem dX7_tokenOf_33 : decode cX7_tokenOf 33 = .ok (.invokevirtual 70, 3) := by decide +kernel
theorem dX7_tokenOf_36 : decode cX7_tokenOf 36 = .ok (.lreturn, 1) := by decide +kernel
theorem dX7_tokenOf_37 : decode cX7_tokenOf 37 = .ok (.iload 4, 2) := by decide +kernel
theorem dX7_tokenOf_39 : decode cX7_tokenOf 39 = .ok (.invokestatic 65, 3) := by decide +kernel
theorem dX7_tokenOf_42 : decode cX7_tokenOf 42 = .ok (.ifCond .eq 23, 3) := by decide +kernel
theorem dX7_tokenOf_45 : decode cX7_tokenOf 45 = .ok (.iload_n 3, 1) := by decide +kernel
theorem dX7_tokenOf_46 : decode cX7_tokenOf 46 = .ok (.iload_n 2, 1) := by decide +kernel
theorem dX7_tokenOf_47 : decode cX7_tokenOf 47 = .ok (.isub, 1) := by decide +kernel
theorem dX7_tokenOf_48 : decode cX7_tokenOf 48 = .ok (.iconst 3, 1) := by decide +kernel
theorem dX7_tokenOf_49 : decode cX7_tokenOf 49 = .ok (.if_icmp .le 9, 3) := by decide +kernel
theorem dX7_tokenOf_52 : decode cX7_tokenOf 52 = .ok (.ldc2_w 68, 3) := by decide +kernel
theorem dX7_tokenOf_55 : decode cX7_tokenOf 55 = .ok (.goto 9, 3) := by decide +kernel
theorem dX7_tokenOf_58 : decode cX7_tokenOf 58 = .ok (.aload_n 1, 1) := by decide +kernel
theorem dX7_tokenOf_59 : decode cX7_tokenOf 59 = .ok (.iload_n 2, 1) := by decide +kernel
theorem dX7_tokenOf_60 : decode cX7_tokenOf 60 = .ok (.iload_n 3, 1) := by decide +kernel
theorem dX7_tokenOf_61 : decode cX7_tokenOf 61 = .ok (.invokestatic 73, 3) := by decide +kernel
theorem dX7_tokenOf_64 : decode cX7_tokenOf 64 = .ok (.lreturn, 1) := by decide +kernel
theorem dX7_tokenOf_65 : decode cX7_tokenOf 65 = .ok (.iconst (-1), 1) := by decide +kernel
theorem dX7_tokenOf_66 : decode cX7_tokenOf 66 = .ok (.iload 4, 2) := by decide +kernel
theorem dX7_tokenOf_68 : decode cX7_tokenOf 68 = .ok (.isub, 1) := by decide +kernel
theorem dX7_tokenOf_69 : decode cX7_tokenOf 69 = .ok (.i2l, 1) := by decide +kernel
theorem dX7_tokenOf_70 : decode cX7_tokenOf 70 = .ok (.lreturn, 1) := by decide +kernel
def fX7_tokenOf (a : Nat) (p1 : Option Nat) (x2 : Int32) (x3 : Int32) (μ : JM) : JO (Int64) := jde p1 fun q1 => jck ((jT μ q1).1 == 7) <| jcl (fX6_byteAt q1 x2 μ) fun r4 μ5 => jcl (fX7_isLetter r4 μ5) fun r13 μ14 => if r13 = 0 then (jcl (fX7_isDigit r4 μ14) fun r23 μ24 => if r23 = 0 then (some ((((-1 : Int32) - r4)).toInt64, μ24, 0, 0)) else (if (x3 - x2) ≤ (3 : Int32) then (jcl (fX7_numberOf p1 x2 x3 μ24) fun r34 μ35 => some (r34, μ35, 0, 0)) else (some ((-2000 : Int64), μ24, 0, 0)))) else (if (x3 - x2) ≤ (12 : Int32) then (jck ((jT μ14 a).1 == 8) <| jcl (fX7_wordOf a p1 x2 x3 μ14) fun r45 μ46 => some (r45, μ46, 0, 0)) else (some ((-2000 : Int64), μ14, 0, 0)))
set_option maxHeartbeats 4000000 in
set_option maxRecDepth 100000 in
theorem mX7_tokenOf {b : Nat} {a : Nat} {p1 : Option Nat} {x2 : Int32} {x3 : Int32} {μ : JM} {r : Int64} {ν : JM} {c m : Nat} (hf : fX7_tokenOf a p1 x2 x3 μ = some (r, ν, c, m)) : JMet b yX7_tokenOf cX7_tokenOf 5 (some .long) 2 49 [va_rf (some a), va_rf p1, .int x2, .int x3] μ (some (.long r)) ν c m := by
  refine JMet.of (by decide) (lg_sl_le (by simp only [List.map_cons, List.map_nil, List.sum_cons, List.sum_nil, va_rf_cat]; exact Nat.le_of_ble_eq_true rfl)) (fun Θ X hin => ?_)
  refine wa_eq (L2 := [(0, va_rf (some a)), (1, va_rf p1), (2, .int x2), (3, .int x3)]) ?_ rfl (by first | rfl | simp [lv_args, va_rf_cat, cat_i, cat_l]) rfl
  obtain ⟨k, hk0⟩ : ∃ k : Nat, k = 0 := ⟨0, rfl⟩
  obtain ⟨n, hn0⟩ : ∃ n : Nat, n = 0 := ⟨0, rfl⟩
  have hk : k + c = c := by omega
  have hn : n + m = m := by omega
  refine wa_costs hk0.symm hn0.symm ?_
  rw [fX7_tokenOf] at hf
  refine wa_aload_n X 1 dX7_tokenOf_0 rfl ?_
  refine wa_iload_n X 2 dX7_tokenOf_1 rfl ?_
  obtain ⟨q1, h2, hf⟩ := jde_some hf
  obtain ⟨h3, hf⟩ := jckT hf
  obtain ⟨r4, μ5, c6, m7, c8, m9, e10, hf, h11, h12⟩ := jcl_some hf
  refine wa_rcallV (st2 := [.int r4]) X dX7_tokenOf_2 lmX7_42 lMX6_byteAt h2 h3 (mX6_byteAt e10) rfl rfl rfl (va_cats (Nat.le_of_ble_eq_true rfl)) (by decide) (by omega) (by omega) ?_
  refine wa_istore (L2 := [(4, .int r4), (0, va_rf (some a)), (1, va_rf p1), (2, .int x2), (3, .int x3)]) X dX7_tokenOf_5 (by decide) (by first | rfl | (show (4, _) :: List.filter (fun q : Nat × Value => !(q.1 == 4) && !(q.1 + 1 == 4 && q.2.category == 2)) _ = _; simp [va_rf_cat, cat_i, cat_l])) ?_
  refine wa_iload X 0 dX7_tokenOf_7 rfl ?_
  obtain ⟨r13, μ14, c15, m16, c17, m18, e19, hf, h20, h21⟩ := jcl_some hf
  refine wa_rcallS (st2 := [.int r13]) X dX7_tokenOf_9 lmX7_62 lMX7_isLetter (mX7_isLetter e19) rfl rfl rfl (va_cats (Nat.le_of_ble_eq_true rfl)) (by decide) (by omega) (by omega) ?_
  refine wa_ifeq (tgt := 37) X dX7_tokenOf_12 (by decide) (fun h22 => ?_) (fun h22 => ?_)
  · rw [if_pos h22] at hf
    refine wa_iload X 0 dX7_tokenOf_37 rfl ?_
    obtain ⟨r23, μ24, c25, m26, c27, m28, e29, hf, h30, h31⟩ := jcl_some hf
    refine wa_rcallS (st2 := [.int r23]) X dX7_tokenOf_39 lmX7_65 lMX7_isDigit (mX7_isDigit e29) rfl rfl rfl (va_cats (Nat.le_of_ble_eq_true rfl)) (by decide) (by omega) (by omega) ?_
    refine wa_ifeq (tgt := 65) X dX7_tokenOf_42 (by decide) (fun h32 => ?_) (fun h32 => ?_)
    · rw [if_pos h32] at hf
      refine wa_iconst (v := (-1 : Int32)) X dX7_tokenOf_65 (by decide) ?_
      refine wa_iload X 0 dX7_tokenOf_66 rfl ?_
      refine wa_isub X dX7_tokenOf_68 ?_
      refine wa_i2l X dX7_tokenOf_69 ?_
      obtain ⟨rfl, rfl, rfl, rfl⟩ := jret hf
      exact wa_lret X dX7_tokenOf_70 (by omega) (by omega)
    · rw [if_neg h32] at hf
      refine wa_iload_n X 4 dX7_tokenOf_45 rfl ?_
      refine wa_iload_n X 3 dX7_tokenOf_46 rfl ?_
      refine wa_isub X dX7_tokenOf_47 ?_
      refine wa_iconst (v := (3 : Int32)) X dX7_tokenOf_48 (by decide) ?_
      refine wa_icle (tgt := 58) X dX7_tokenOf_49 (by decide) (fun h33 => ?_) (fun h33 => ?_)
      · rw [if_pos h33] at hf
        refine wa_aload_n X 2 dX7_tokenOf_58 rfl ?_
        refine wa_iload_n X 3 dX7_tokenOf_59 rfl ?_
        refine wa_iload_n X 4 dX7_tokenOf_60 rfl ?_
        obtain ⟨r34, μ35, c36, m37, c38, m39, e40, hf, h41, h42⟩ := jcl_some hf
        refine wa_rcallS (st2 := [.long r34]) X dX7_tokenOf_61 lmX7_73 lMX7_numberOf (mX7_numberOf e40) rfl rfl rfl (va_cats (Nat.le_of_ble_eq_true rfl)) (by decide) (by omega) (by omega) ?_
        obtain ⟨rfl, rfl, rfl, rfl⟩ := jret hf
        exact wa_lret X dX7_tokenOf_64 (by omega) (by omega)
      · rw [if_neg h33] at hf
        refine wa_ldc2 (v := (-2000 : Int64)) X dX7_tokenOf_52 lkX7_68 ?_
        refine wa_goto (tgt := 64) X dX7_tokenOf_55 (by decide) ?_
        obtain ⟨rfl, rfl, rfl, rfl⟩ := jret hf
        exact wa_lret X dX7_tokenOf_64 (by omega) (by omega)
  · rw [if_neg h22] at hf
    refine wa_iload_n X 4 dX7_tokenOf_15 rfl ?_
    refine wa_iload_n X 3 dX7_tokenOf_16 rfl ?_
    refine wa_isub X dX7_tokenOf_17 ?_
    refine wa_bipush (v := (12 : Int32)) X dX7_tokenOf_18 (by decide) ?_
    refine wa_icle (tgt := 29) X dX7_tokenOf_20 (by decide) (fun h43 => ?_) (fun h43 => ?_)
    · rw [if_pos h43] at hf
      refine wa_aload_n X 1 dX7_tokenOf_29 rfl ?_
      refine wa_aload_n X 2 dX7_tokenOf_30 rfl ?_
      refine wa_iload_n X 3 dX7_tokenOf_31 rfl ?_
      refine wa_iload_n X 4 dX7_tokenOf_32 rfl ?_
      obtain ⟨h44, hf⟩ := jckT hf
      obtain ⟨r45, μ46, c47, m48, c49, m50, e51, hf, h52, h53⟩ := jcl_some hf
      refine wa_rcallV (st2 := [.long r45]) X dX7_tokenOf_33 lmX7_70 lMX7_wordOf rfl h44 (mX7_wordOf e51) rfl rfl rfl (va_cats (Nat.le_of_ble_eq_true rfl)) (by decide) (by omega) (by omega) ?_
      obtain ⟨rfl, rfl, rfl, rfl⟩ := jret hf
      exact wa_lret X dX7_tokenOf_36 (by omega) (by omega)
    · rw [if_neg h43] at hf
      refine wa_ldc2 (v := (-2000 : Int64)) X dX7_tokenOf_23 lkX7_68 ?_
      refine wa_goto (tgt := 36) X dX7_tokenOf_26 (by decide) ?_
      obtain ⟨rfl, rfl, rfl, rfl⟩ := jret hf
      exact wa_lret X dX7_tokenOf_36 (by omega) (by omega)
theorem dX7_add_0 : decode cX7_add 0 = .ok (.aload_n 0, 1) := by decide +kernel
theorem dX7_add_1 : decode cX7_add 1 = .ok (.getfield 23, 3) := by decide +kernel
theorem dX7_add_4 : decode cX7_add 4 = .ok (.aload_n 0, 1) := by decide +kernel
theorem dX7_add_5 : decode cX7_add 5 = .ok (.getfield 15, 3) := by decide +kernel
theorem dX7_add_8 : decode cX7_add 8 = .ok (.arraylength, 1) := by decide +kernel
theorem dX7_add_9 : decode cX7_add 9 = .ok (.if_icmp .ge 33, 3) := by decide +kernel
theorem dX7_add_12 : decode cX7_add 12 = .ok (.aload_n 0, 1) := by decide +kernel
theorem dX7_add_13 : decode cX7_add 13 = .ok (.getfield 15, 3) := by decide +kernel
theorem dX7_add_16 : decode cX7_add 16 = .ok (.aload_n 0, 1) := by decide +kernel
theorem dX7_add_17 : decode cX7_add 17 = .ok (.getfield 23, 3) := by decide +kernel
theorem dX7_add_20 : decode cX7_add 20 = .ok (.lload_n 1, 1) := by decide +kernel
theorem dX7_add_21 : decode cX7_add 21 = .ok (.lastore, 1) := by decide +kernel
theorem dX7_add_22 : decode cX7_add 22 = .ok (.aload_n 0, 1) := by decide +kernel
theorem dX7_add_23 : decode cX7_add 23 = .ok (.getfield 19, 3) := by decide +kernel
theorem dX7_add_26 : decode cX7_add 26 = .ok (.aload_n 0, 1) := by decide +kernel
theorem dX7_add_27 : decode cX7_add 27 = .ok (.getfield 23, 3) := by decide +kernel
theorem dX7_add_30 : decode cX7_add 30 = .ok (.iload_n 3, 1) := by decide +kernel
theorem dX7_add_31 : decode cX7_add 31 = .ok (.iastore, 1) := by decide +kernel
theorem dX7_add_32 : decode cX7_add 32 = .ok (.aload_n 0, 1) := by decide +kernel
theorem dX7_add_33 : decode cX7_add 33 = .ok (.dup, 1) := by decide +kernel
theorem dX7_add_34 : decode cX7_add 34 = .ok (.getfield 23, 3) := by decide +kernel
theorem dX7_add_37 : decode cX7_add 37 = .ok (.iconst 1, 1) := by decide +kernel
theorem dX7_add_38 : decode cX7_add 38 = .ok (.iadd, 1) := by decide +kernel
theorem dX7_add_39 : decode cX7_add 39 = .ok (.putfield 23, 3) := by decide +kernel
theorem dX7_add_42 : decode cX7_add 42 = .ok (.return_, 1) := by decide +kernel
def fX7_add (a : Nat) (y1 : Int64) (x3 : Int32) (μ : JM) : JO (Unit) := jck ((jT μ a).1 == 8) <| jde (jP μ a 1) fun q2 => jck ((jT μ q2).1 == 102) <| if (nI (jT μ q2).2) ≤ (jI μ a 3) then (some ((), μ, 0, 0)) else (jck (jin (jI μ a 3) (jT μ q2).2) <| jlt (jsJ μ q2 ((jI μ a 3)).toNatClampNeg y1) fun μ7 => jde (jP μ7 a 2) fun q10 => jck ((jT μ q10).1 == 101) <| jck (jin (jI μ7 a 3) (jT μ q10).2) <| jlt (jsI μ7 q10 ((jI μ7 a 3)).toNatClampNeg x3) fun μ14 => jlt (jsI μ14 a 3 ((jI μ14 a 3) + (1 : Int32))) fun μ17 => some ((), μ17, 0, 0))
set_option maxHeartbeats 4000000 in
set_option maxRecDepth 100000 in
theorem mX7_add {b : Nat} {a : Nat} {y1 : Int64} {x3 : Int32} {μ : JM} {r : Unit} {ν : JM} {c m : Nat} (hf : fX7_add a y1 x3 μ = some (r, ν, c, m)) : JMet b yX7_add cX7_add 4 none 0 0 [va_rf (some a), .long y1, .int x3] μ (none) ν c m := by
  refine JMet.of (by decide) (lg_sl_le (by simp only [List.map_cons, List.map_nil, List.sum_cons, List.sum_nil, va_rf_cat]; exact Nat.le_of_ble_eq_true rfl)) (fun Θ X hin => ?_)
  refine wa_eq (L2 := [(0, va_rf (some a)), (1, .long y1), (3, .int x3)]) ?_ rfl (by first | rfl | simp [lv_args, va_rf_cat, cat_i, cat_l]) rfl
  obtain ⟨k, hk0⟩ : ∃ k : Nat, k = 0 := ⟨0, rfl⟩
  obtain ⟨n, hn0⟩ : ∃ n : Nat, n = 0 := ⟨0, rfl⟩
  have hk : k + c = c := by omega
  have hn : n + m = m := by omega
  refine wa_costs hk0.symm hn0.symm ?_
  rw [fX7_add] at hf
  refine wa_aload_n X 0 dX7_add_0 rfl ?_
  obtain ⟨h1, hf⟩ := jckT hf
  refine wa_getI X dX7_add_1 lfX7_23 rfl h1 rfl ?_
  refine wa_aload_n X 0 dX7_add_4 rfl ?_
  refine wa_getP X dX7_add_5 lfX7_15 rfl h1 rfl ?_
  obtain ⟨q2, h3, hf⟩ := jde_some hf
  obtain ⟨h4, hf⟩ := jckT hf
  refine wa_ralen (t := 102) X dX7_add_8 h3 h4 (by decide) ?_
  refine wa_icge (tgt := 42) X dX7_add_9 (by decide) (fun h5 => ?_) (fun h5 => ?_)
  · rw [if_pos h5] at hf
    obtain ⟨rfl, rfl, rfl, rfl⟩ := jret hf
    exact wa_vret X dX7_add_42 (by omega) (by omega)
  · rw [if_neg h5] at hf
    refine wa_aload_n X 0 dX7_add_12 rfl ?_
    refine wa_getP X dX7_add_13 lfX7_15 rfl h1 rfl ?_
    refine wa_aload_n X 0 dX7_add_16 rfl ?_
    refine wa_getI X dX7_add_17 lfX7_23 rfl h1 rfl ?_
    refine wa_lload_n X 1 dX7_add_20 rfl ?_
    obtain ⟨h6, hf⟩ := jck_some hf
    obtain ⟨μ7, hm8, hf⟩ := jlt_e hf
    have e9 : jT μ7 = jT μ := by rw [hm8]; rfl
    refine wa_rlast (ν := μ7) X dX7_add_21 h3 h4 h6 hm8 ?_
    refine wa_aload_n X 0 dX7_add_22 rfl ?_
    refine wa_getP X dX7_add_23 lfX7_19 rfl (by rw [e9]; exact h1) rfl ?_
    refine wa_aload_n X 0 dX7_add_26 rfl ?_
    refine wa_getI X dX7_add_27 lfX7_23 rfl (by rw [e9]; exact h1) rfl ?_
    refine wa_iload_n X 2 dX7_add_30 rfl ?_
    obtain ⟨q10, h11, hf⟩ := jde_some hf
    obtain ⟨h12, hf⟩ := jckT hf
    obtain ⟨h13, hf⟩ := jck_some hf
    obtain ⟨μ14, hm15, hf⟩ := jlt_e hf
    have e16 : jT μ14 = jT μ := by rw [hm15]; exact e9
    refine wa_riast (ν := μ14) X dX7_add_31 h11 (by rw [e9]; exact h12) (by rw [e9]; exact h13) hm15 ?_
    refine wa_aload_n X 0 dX7_add_32 rfl ?_
    refine wa_dup X dX7_add_33 (va_rf_cat _) ?_
    refine wa_getI X dX7_add_34 lfX7_23 rfl (by rw [e16]; exact h1) rfl ?_
    refine wa_iconst (v := (1 : Int32)) X dX7_add_37 (by decide) ?_
    refine wa_iadd X dX7_add_38 ?_
    obtain ⟨μ17, hm18, hf⟩ := jlt_e hf
    have e19 : jT μ17 = jT μ := by rw [hm18]; exact e16
    refine wa_rputI (ν := μ17) X dX7_add_39 lfX7_23 rfl (by rw [e16]; exact h1) rfl rfl hm18 ?_
    obtain ⟨rfl, rfl, rfl, rfl⟩ := jret hf
    exact wa_vret X dX7_add_42 (by omega) (by omega)
theorem dX7_scan_0 : decode cX7_scan 0 = .ok (.aload_n 0, 1) := by decide +kernel
theorem dX7_scan_1 : decode cX7_scan 1 = .ok (.iconst 0, 1) := by decide +kernel
theorem dX7_scan_2 : decode cX7_scan 2 = .ok (.putfield 23, 3) := by decide +kernel
theorem dX7_scan_5 : decode cX7_scan 5 = .ok (.aload_n 0, 1) := by decide +kernel
theorem dX7_scan_6 : decode cX7_scan 6 = .ok (.iconst 0, 1) := by decide +kernel
theorem dX7_scan_7 : decode cX7_scan 7 = .ok (.putfield 27, 3) := by decide +kernel
theorem dX7_scan_10 : decode cX7_scan 10 = .ok (.aload_n 0, 1) := by decide +kernel
theorem dX7_scan_11 : decode cX7_scan 11 = .ok (.iconst 0, 1) := by decide +kernel
theorem dX7_scan_12 : decode cX7_scan 12 = .ok (.putfield 30, 3) := by decide +kernel
theorem dX7_scan_15 : decode cX7_scan 15 = .ok (.aload_n 1, 1) := by decide +kernel
theorem dX7_scan_16 : decode cX7_scan 16 = .ok (.getfield 33, 3) := by decide +kernel
theorem dX7_scan_19 : decode cX7_scan 19 = .ok (.sipush 900, 3) := by decide +kernel
theorem dX7_scan_22 : decode cX7_scan 22 = .ok (.invokestatic 36, 3) := by decide +kernel
theorem dX7_scan_25 : decode cX7_scan 25 = .ok (.istore_n 2, 1) := by decide +kernel
theorem dX7_scan_26 : decode cX7_scan 26 = .ok (.iconst 0, 1) := by decide +kernel
theorem dX7_scan_27 : decode cX7_scan 27 = .ok (.istore_n 3, 1) := by decide +kernel
theorem dX7_scan_28 : decode cX7_scan 28 = .ok (.iconst 0, 1) := by decide +kernel
theorem dX7_scan_29 : decode cX7_scan 29 = .ok (.istore 4, 2) := by decide +kernel
theorem dX7_scan_31 : decode cX7_scan 31 = .ok (.iload 4, 2) := by decide +kernel
theorem dX7_scan_33 : decode cX7_scan 33 = .ok (.iload_n 2, 1) := by decide +kernel
theorem dX7_scan_34 : decode cX7_scan 34 = .ok (.if_icmp .ge 49, 3) := by decide +kernel
theorem dX7_scan_37 : decode cX7_scan 37 = .ok (.iload 4, 2) := by decide +kernel
theorem dX7_scan_39 : decode cX7_scan 39 = .ok (.iload_n 3, 1) := by decide +kernel
theorem dX7_scan_40 : decode cX7_scan 40 = .ok (.if_icmp .lt 37, 3) := by decide +kernel
theorem dX7_scan_43 : decode cX7_scan 43 = .ok (.aload_n 1, 1) := by decide +kernel
theorem dX7_scan_44 : decode cX7_scan 44 = .ok (.iload 4, 2) := by decide +kernel
theorem dX7_scan_46 : decode cX7_scan 46 = .ok (.invokevirtual 42, 3) := by decide +kernel
theorem dX7_scan_49 : decode cX7_scan 49 = .ok (.invokestatic 46, 3) := by decide +kernel
theorem dX7_scan_52 : decode cX7_scan 52 = .ok (.ifCond .ne 25, 3) := by decide +kernel
theorem dX7_scan_55 : decode cX7_scan 55 = .ok (.aload_n 1, 1) := by decide +kernel
theorem dX7_scan_56 : decode cX7_scan 56 = .ok (.iload 4, 2) := by decide +kernel
theorem dX7_scan_58 : decode cX7_scan 58 = .ok (.iload_n 2, 1) := by decide +kernel
theorem dX7_scan_59 : decode cX7_scan 59 = .ok (.invokestatic 50, 3) := by decide +kernel
theorem dX7_scan_62 : decode cX7_scan 62 = .ok (.istore_n 3, 1) := by decide +kernel
theorem dX7_scan_63 : decode cX7_scan 63 = .ok (.aload_n 0, 1) := by decide +kernel
theorem dX7_scan_64 : decode cX7_scan 64 = .ok (.aload_n 0, 1) := by decide +kernel
theorem dX7_scan_65 : decode cX7_scan 65 = .ok (.aload_n 1, 1) := by decide +kernel
theorem dX7_scan_66 : decode cX7_scan 66 = .ok (.iload 4, 2) := by decide +kernel
theorem dX7_scan_68 : decode cX7_scan 68 = .ok (.iload_n 3, 1) := by decide +kernel
theorem dX7_scan_69 : decode cX7_scan 69 = .ok (.invokevirtual 54, 3) := by decide +kernel
theorem dX7_scan_72 : decode cX7_scan 72 = .ok (.iload 4, 2) := by decide +kernel
theorem dX7_scan_74 : decode cX7_scan 74 = .ok (.invokevirtual 58, 3) := by decide +kernel
theorem dX7_scan_77 : decode cX7_scan 77 = .ok (.iinc 4 1, 3) := by decide +kernel
theorem dX7_scan_80 : decode cX7_scan 80 = .ok (.goto (-49), 3) := by decide +kernel
theorem dX7_scan_83 : decode cX7_scan 83 = .ok (.aload_n 0, 1) := by decide +kernel
theorem dX7_scan_84 : decode cX7_scan 84 = .ok (.getfield 19, 3) := by decide +kernel
theorem dX7_scan_87 : decode cX7_scan 87 = .ok (.aload_n 0, 1) := by decide +kernel
theorem dX7_scan_88 : decode cX7_scan 88 = .ok (.getfield 23, 3) := by decide +kernel
theorem dX7_scan_91 : decode cX7_scan 91 = .ok (.iload_n 2, 1) := by decide +kernel
theorem dX7_scan_92 : decode cX7_scan 92 = .ok (.iastore, 1) := by decide +kernel
theorem dX7_scan_93 : decode cX7_scan 93 = .ok (.return_, 1) := by decide +kernel
def fX7_scan_b77 (rec31 : Nat → Option Nat → Int32 → Int32 → Int32 → JM → JO (Unit)) (a : Nat) (p1 : Option Nat) (x2 : Int32) (x3 : Int32) (x4 : Int32) (μ : JM) : JO (Unit) := rec31 a p1 x2 x3 (x4 + (1 : Int32)) μ
set_option maxHeartbeats 4000000 in
set_option maxRecDepth 100000 in
theorem gX7_scan_b77 {b : Nat} {Θ : JE} {RC RS : Nat} {r : Unit} {ν : JM} (X : jX b Θ RX7 cX7_scan 5 none 3 73 RC RS) {rec31 : Nat → Option Nat → Int32 → Int32 → Int32 → JM → JO (Unit)} (hrec31 : ∀ (a : Nat) (p1 : Option Nat) (x2 : Int32) (x3 : Int32) (x4 : Int32) (μ : JM) (c m k n : Nat), rec31 a p1 x2 x3 x4 μ = some (r, ν, c, m) → k + c = RC → n + m = RS → WA b Θ 5 (jE b Θ (none) ν RC RS) μ k n 31 [(0, va_rf (some a)), (1, va_rf p1), (2, .int x2), (3, .int x3), (4, .int x4)] []) (a : Nat) (p1 : Option Nat) (x2 : Int32) (x3 : Int32) (x4 : Int32) (μ : JM) (c m k n : Nat) (hf : fX7_scan_b77 rec31 a p1 x2 x3 x4 μ = some (r, ν, c, m)) (hk : k + c = RC) (hn : n + m = RS) : WA b Θ 5 (jE b Θ (none) ν RC RS) μ k n 77 [(0, va_rf (some a)), (1, va_rf p1), (2, .int x2), (3, .int x3), (4, .int x4)] [] := by
  rw [fX7_scan_b77] at hf
  refine wa_iinc (v := (x4 + (1 : Int32))) (L2 := [(4, .int (x4 + (1 : Int32))), (0, va_rf (some a)), (1, va_rf p1), (2, .int x2), (3, .int x3)]) X 4 dX7_scan_77 rfl rfl (by decide) (by first | rfl | simp [va_rf_cat, cat_i, cat_l]) ?_
  refine wa_goto (tgt := 31) X dX7_scan_80 (by decide) ?_
  refine wa_sub (L2 := [(0, va_rf (some a)), (1, va_rf p1), (2, .int x2), (3, .int x3), (4, .int (x4 + (1 : Int32)))]) [1, 2, 3, 4, 0] rfl ?_
  exact hrec31 a p1 x2 x3 (x4 + (1 : Int32)) μ _ _ _ _ hf (by omega) (by omega)
def fX7_scan_b31 : Nat → Nat → Option Nat → Int32 → Int32 → Int32 → JM → JO (Unit)
  | 0, _, _, _, _, _, _ => none
  | fu + 1, a, p1, x2, x3, x4, μ => if x2 ≤ x4 then (jck ((jT μ a).1 == 8) <| jde (jP μ a 2) fun q16 => jck ((jT μ q16).1 == 101) <| jck (jin (jI μ a 3) (jT μ q16).2) <| jlt (jsI μ q16 ((jI μ a 3)).toNatClampNeg x2) fun μ20 => some ((), μ20, 0, 0)) else (if x4 < x3 then (fX7_scan_b77 (fX7_scan_b31 fu) a p1 x2 x3 x4 μ) else (jde p1 fun q24 => jck ((jT μ q24).1 == 7) <| jcl (fX6_byteAt q24 x4 μ) fun r27 μ28 => jcl (fX7_isBlank r27 μ28) fun r36 μ37 => if r36 = 0 then (jcl (fX7_runEnd p1 x4 x2 μ37) fun r46 μ47 => jck ((jT μ47 a).1 == 8) <| jcl (fX7_tokenOf a p1 x4 r46 μ47) fun r56 μ57 => jck ((jT μ57 a).1 == 8) <| jcl (fX7_add a r56 x4 μ57) fun u66 μ67 => fX7_scan_b77 (fX7_scan_b31 fu) a p1 x2 r46 x4 μ67) else (fX7_scan_b77 (fX7_scan_b31 fu) a p1 x2 x3 x4 μ37)))
set_option maxHeartbeats 4000000 in
set_option maxRecDepth 100000 in
theorem gX7_scan_b31 {b : Nat} {Θ : JE} {RC RS : Nat} {r : Unit} {ν : JM} (X : jX b Θ RX7 cX7_scan 5 none 3 73 RC RS) : ∀ (fu : Nat) (a : Nat) (p1 : Option Nat) (x2 : Int32) (x3 : Int32) (x4 : Int32) (μ : JM) (c m k n : Nat), fX7_scan_b31 fu a p1 x2 x3 x4 μ = some (r, ν, c, m) → k + c = RC → n + m = RS → WA b Θ 5 (jE b Θ (none) ν RC RS) μ k n 31 [(0, va_rf (some a)), (1, va_rf p1), (2, .int x2), (3, .int x3), (4, .int x4)] [] := by
  intro fu
  induction fu with
  | zero => intro a p1 x2 x3 x4 μ c m k n hf; cases hf
  | succ fu ih =>
    intro a p1 x2 x3 x4 μ c m k n hf hk hn
    rw [fX7_scan_b31] at hf
    refine wa_iload X 4 dX7_scan_31 rfl ?_
    refine wa_iload_n X 2 dX7_scan_33 rfl ?_
    refine wa_icge (tgt := 83) X dX7_scan_34 (by decide) (fun h14 => ?_) (fun h14 => ?_)
    · rw [if_pos h14] at hf
      refine wa_aload_n X 0 dX7_scan_83 rfl ?_
      obtain ⟨h15, hf⟩ := jckT hf
      refine wa_getP X dX7_scan_84 lfX7_19 rfl h15 rfl ?_
      refine wa_aload_n X 0 dX7_scan_87 rfl ?_
      refine wa_getI X dX7_scan_88 lfX7_23 rfl h15 rfl ?_
      refine wa_iload_n X 2 dX7_scan_91 rfl ?_
      obtain ⟨q16, h17, hf⟩ := jde_some hf
      obtain ⟨h18, hf⟩ := jckT hf
      obtain ⟨h19, hf⟩ := jck_some hf
      obtain ⟨μ20, hm21, hf⟩ := jlt_e hf
      have e22 : jT μ20 = jT μ := by rw [hm21]; rfl
      refine wa_riast (ν := μ20) X dX7_scan_92 h17 h18 h19 hm21 ?_
      obtain ⟨rfl, rfl, rfl, rfl⟩ := jret hf
      exact wa_vret X dX7_scan_93 (by omega) (by omega)
    · rw [if_neg h14] at hf
      refine wa_iload X 4 dX7_scan_37 rfl ?_
      refine wa_iload_n X 3 dX7_scan_39 rfl ?_
      refine wa_iclt (tgt := 77) X dX7_scan_40 (by decide) (fun h23 => ?_) (fun h23 => ?_)
      · rw [if_pos h23] at hf
        refine wa_sub (L2 := [(0, va_rf (some a)), (1, va_rf p1), (2, .int x2), (3, .int x3), (4, .int x4)]) [0, 1, 2, 3, 4] rfl ?_
        exact gX7_scan_b77 X ih a p1 x2 x3 x4 μ _ _ _ _ hf (by omega) (by omega)
      · rw [if_neg h23] at hf
        refine wa_aload_n X 1 dX7_scan_43 rfl ?_
        refine wa_iload X 4 dX7_scan_44 rfl ?_
        obtain ⟨q24, h25, hf⟩ := jde_some hf
        obtain ⟨h26, hf⟩ := jckT hf
        obtain ⟨r27, μ28, c29, m30, c31, m32, e33, hf, h34, h35⟩ := jcl_some hf
        refine wa_rcallV (st2 := [.int r27]) X dX7_scan_46 lmX7_42 lMX6_byteAt h25 h26 (mX6_byteAt e33) rfl rfl rfl (va_cats (Nat.le_of_ble_eq_true rfl)) (by decide) (by omega) (by omega) ?_
        obtain ⟨r36, μ37, c38, m39, c40, m41, e42, hf, h43, h44⟩ := jcl_some hf
        refine wa_rcallS (st2 := [.int r36]) X dX7_scan_49 lmX7_46 lMX7_isBlank (mX7_isBlank e42) rfl rfl rfl (va_cats (Nat.le_of_ble_eq_true rfl)) (by decide) (by omega) (by omega) ?_
        refine wa_ifne (tgt := 77) X dX7_scan_52 (by decide) (fun h45 => ?_) (fun h45 => ?_)
        · rw [if_neg h45] at hf
          refine wa_sub (L2 := [(0, va_rf (some a)), (1, va_rf p1), (2, .int x2), (3, .int x3), (4, .int x4)]) [0, 1, 2, 3, 4] rfl ?_
          exact gX7_scan_b77 X ih a p1 x2 x3 x4 μ37 _ _ _ _ hf (by omega) (by omega)
        · rw [if_pos h45] at hf
          refine wa_aload_n X 1 dX7_scan_55 rfl ?_
          refine wa_iload X 4 dX7_scan_56 rfl ?_
          refine wa_iload_n X 2 dX7_scan_58 rfl ?_
          obtain ⟨r46, μ47, c48, m49, c50, m51, e52, hf, h53, h54⟩ := jcl_some hf
          refine wa_rcallS (st2 := [.int r46]) X dX7_scan_59 lmX7_50 lMX7_runEnd (mX7_runEnd e52) rfl rfl rfl (va_cats (Nat.le_of_ble_eq_true rfl)) (by decide) (by omega) (by omega) ?_
          refine wa_istore_n (L2 := [(3, .int r46), (0, va_rf (some a)), (1, va_rf p1), (2, .int x2), (4, .int x4)]) X dX7_scan_62 (by decide) (by first | rfl | (show (3, _) :: List.filter (fun q : Nat × Value => !(q.1 == 3) && !(q.1 + 1 == 3 && q.2.category == 2)) _ = _; simp [va_rf_cat, cat_i, cat_l])) ?_
          refine wa_aload_n X 1 dX7_scan_63 rfl ?_
          refine wa_aload_n X 1 dX7_scan_64 rfl ?_
          refine wa_aload_n X 2 dX7_scan_65 rfl ?_
          refine wa_iload X 4 dX7_scan_66 rfl ?_
          refine wa_iload_n X 0 dX7_scan_68 rfl ?_
          obtain ⟨h55, hf⟩ := jckT hf
          obtain ⟨r56, μ57, c58, m59, c60, m61, e62, hf, h63, h64⟩ := jcl_some hf
          refine wa_rcallV (st2 := [.long r56, va_rf (some a)]) X dX7_scan_69 lmX7_54 lMX7_tokenOf rfl h55 (mX7_tokenOf e62) rfl rfl rfl (va_cats (Nat.le_of_ble_eq_true rfl)) (by decide) (by omega) (by omega) ?_
          refine wa_iload X 4 dX7_scan_72 rfl ?_
          obtain ⟨h65, hf⟩ := jckT hf
          obtain ⟨u66, μ67, c68, m69, c70, m71, e72, hf, h73, h74⟩ := jcl_some hf
          refine wa_rcallV (st2 := []) X dX7_scan_74 lmX7_58 lMX7_add rfl h65 (mX7_add e72) rfl rfl rfl (va_cats (Nat.le_of_ble_eq_true rfl)) (by decide) (by omega) (by omega) ?_
          refine wa_sub (L2 := [(0, va_rf (some a)), (1, va_rf p1), (2, .int x2), (3, .int r46), (4, .int x4)]) [1, 2, 3, 0, 4] rfl ?_
          exact gX7_scan_b77 X ih a p1 x2 r46 x4 μ67 _ _ _ _ hf (by omega) (by omega)
def fX7_scan (a : Nat) (p1 : Option Nat) (μ : JM) : JO (Unit) := jck ((jT μ a).1 == 8) <| jlt (jsI μ a 3 (0 : Int32)) fun μ2 => jlt (jsI μ2 a 4 (0 : Int32)) fun μ5 => jlt (jsI μ5 a 5 (0 : Int32)) fun μ8 => jde p1 fun q11 => jck ((jT μ q11).1 == 7) <| fX7_scan_b31  jfuel a p1 (jmin (jI μ8 q11 2) (900 : Int32)) (0 : Int32) (0 : Int32) μ8
set_option maxHeartbeats 4000000 in
set_option maxRecDepth 100000 in
theorem mX7_scan {b : Nat} {a : Nat} {p1 : Option Nat} {μ : JM} {r : Unit} {ν : JM} {c m : Nat} (hf : fX7_scan a p1 μ = some (r, ν, c, m)) : JMet b yX7_scan cX7_scan 5 none 3 73 [va_rf (some a), va_rf p1] μ (none) ν c m := by
  refine JMet.of (by decide) (lg_sl_le (by simp only [List.map_cons, List.map_nil, List.sum_cons, List.sum_nil, va_rf_cat]; exact Nat.le_of_ble_eq_true rfl)) (fun Θ X hin => ?_)
  refine wa_eq (L2 := [(0, va_rf (some a)), (1, va_rf p1)]) ?_ rfl (by first | rfl | simp [lv_args, va_rf_cat, cat_i, cat_l]) rfl
  obtain ⟨k, hk0⟩ : ∃ k : Nat, k = 0 := ⟨0, rfl⟩
  obtain ⟨n, hn0⟩ : ∃ n : Nat, n = 0 := ⟨0, rfl⟩
  have hk : k + c = c := by omega
  have hn : n + m = m := by omega
  refine wa_costs hk0.symm hn0.symm ?_
  rw [fX7_scan] at hf
  refine wa_aload_n X 0 dX7_scan_0 rfl ?_
  refine wa_iconst (v := (0 : Int32)) X dX7_scan_1 (by decide) ?_
  obtain ⟨h1, hf⟩ := jckT hf
  obtain ⟨μ2, hm3, hf⟩ := jlt_e hf
  have e4 : jT μ2 = jT μ := by rw [hm3]; rfl
  refine wa_rputI (ν := μ2) X dX7_scan_2 lfX7_23 rfl h1 rfl rfl hm3 ?_
  refine wa_aload_n X 0 dX7_scan_5 rfl ?_
  refine wa_iconst (v := (0 : Int32)) X dX7_scan_6 (by decide) ?_
  obtain ⟨μ5, hm6, hf⟩ := jlt_e hf
  have e7 : jT μ5 = jT μ := by rw [hm6]; exact e4
  refine wa_rputI (ν := μ5) X dX7_scan_7 lfX7_27 rfl (by rw [e4]; exact h1) rfl rfl hm6 ?_
  refine wa_aload_n X 0 dX7_scan_10 rfl ?_
  refine wa_iconst (v := (0 : Int32)) X dX7_scan_11 (by decide) ?_
  obtain ⟨μ8, hm9, hf⟩ := jlt_e hf
  have e10 : jT μ8 = jT μ := by rw [hm9]; exact e7
  refine wa_rputI (ν := μ8) X dX7_scan_12 lfX7_30 rfl (by rw [e7]; exact h1) rfl rfl hm9 ?_
  refine wa_aload_n X 1 dX7_scan_15 rfl ?_
  obtain ⟨q11, h12, hf⟩ := jde_some hf
  obtain ⟨h13, hf⟩ := jckT hf
  refine wa_getI X dX7_scan_16 lfX7_33 h12 (by rw [e10]; exact h13) rfl ?_
  refine wa_sipush (v := (900 : Int32)) X dX7_scan_19 (by decide) ?_
  refine wa_mmin X dX7_scan_22 lmX7_36 l9_smin ln_RJ9 l9_cmin (by decide) (Nat.le_trans (Nat.add_le_add_right (va_cats (m := 8) (Nat.le_of_ble_eq_true rfl)) 13) (by decide)) (by omega) (by omega) ?_
  refine wa_istore_n (L2 := [(2, .int (jmin (jI μ8 q11 2) (900 : Int32))), (0, va_rf (some a)), (1, va_rf p1)]) X dX7_scan_25 (by decide) (by first | rfl | (show (2, _) :: List.filter (fun q : Nat × Value => !(q.1 == 2) && !(q.1 + 1 == 2 && q.2.category == 2)) _ = _; simp [va_rf_cat, cat_i, cat_l])) ?_
  refine wa_iconst (v := (0 : Int32)) X dX7_scan_26 (by decide) ?_
  refine wa_istore_n (L2 := [(3, .int (0 : Int32)), (2, .int (jmin (jI μ8 q11 2) (900 : Int32))), (0, va_rf (some a)), (1, va_rf p1)]) X dX7_scan_27 (by decide) (by first | rfl | (show (3, _) :: List.filter (fun q : Nat × Value => !(q.1 == 3) && !(q.1 + 1 == 3 && q.2.category == 2)) _ = _; simp [va_rf_cat, cat_i, cat_l])) ?_
  refine wa_iconst (v := (0 : Int32)) X dX7_scan_28 (by decide) ?_
  refine wa_istore (L2 := [(4, .int (0 : Int32)), (3, .int (0 : Int32)), (2, .int (jmin (jI μ8 q11 2) (900 : Int32))), (0, va_rf (some a)), (1, va_rf p1)]) X dX7_scan_29 (by decide) (by first | rfl | (show (4, _) :: List.filter (fun q : Nat × Value => !(q.1 == 4) && !(q.1 + 1 == 4 && q.2.category == 2)) _ = _; simp [va_rf_cat, cat_i, cat_l])) ?_
  refine wa_sub (L2 := [(0, va_rf (some a)), (1, va_rf p1), (2, .int (jmin (jI μ8 q11 2) (900 : Int32))), (3, .int (0 : Int32)), (4, .int (0 : Int32))]) [3, 4, 2, 1, 0] rfl ?_
  exact gX7_scan_b31 X jfuel a p1 (jmin (jI μ8 q11 2) (900 : Int32)) (0 : Int32) (0 : Int32) μ8 _ _ _ _ hf (by omega) (by omega)
